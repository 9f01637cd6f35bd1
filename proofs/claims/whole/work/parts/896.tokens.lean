/-! ===== table: tokens ===== -/
def figA (z : Nat) : Prop := 48 ≤ z ∧ z ≤ 57
theorem run_ex (tp : Nat → Nat) : ∀ (d n p : Nat), n - p = d → p ≤ n → ∃ r, p + r ≤ n ∧ (∀ k, k < r → figA (tp (p + k))) ∧ (p + r < n → ¬ figA (tp (p + r)))
  | 0, n, p, hd, hp => ⟨0, by omega, fun k hk => absurd hk (Nat.not_lt_zero k), fun h => by omega⟩
  | d + 1, n, p, hd, hp => by
    by_cases c : 48 ≤ tp p ∧ tp p ≤ 57
    · obtain ⟨r, h1, h2, h3⟩ := run_ex tp d n (p + 1) (by omega) (by omega)
      refine ⟨r + 1, by omega, fun k hk => ?_, fun h => ?_⟩
      · cases k with
        | zero => exact c
        | succ k =>
          have := h2 k (by omega)
          rw [show p + 1 + k = p + (k + 1) by omega] at this
          exact this
      · have := h3 (by omega)
        rw [show p + 1 + r = p + (r + 1) by omega] at this
        exact this
    · exact ⟨0, by omega, fun k hk => absurd hk (Nat.not_lt_zero k), fun _ => c⟩
def valA (tp : Nat → Nat) (p : Nat) : Nat → Nat
  | 0 => 0
  | k + 1 => 10 * valA tp p k + (tp (p + k) - 48)
theorem valA_lt {tp : Nat → Nat} {p : Nat} : ∀ {r : Nat}, (∀ k, k < r → figA (tp (p + k))) → valA tp p r < 10 ^ r
  | 0, _ => by show (0 : Nat) < 10 ^ 0; omega
  | r + 1, h => by
    have h1 := valA_lt (r := r) (fun k hk => h k (by omega))
    have h2 := h r (by omega)
    have h3 := h2.2
    show 10 * valA tp p r + (tp (p + r) - 48) < 10 ^ (r + 1)
    rw [Nat.pow_succ]
    omega
/-- all but what the reading itself uses is as it was -/
def Ko (S S' : MS) : Prop := Ka S S' ∧ ms_traced S' = ms_traced S ∧ ms_trace S' = ms_trace S
def Kd (S S' : MS) : Prop := ms_readPoints S' = ms_readPoints S ∧ ms_readHome S' = ms_readHome S ∧ ms_readMen S' = ms_readMen S ∧ ms_readFirms S' = ms_readFirms S ∧ ms_readKinds S' = ms_readKinds S ∧ ms_readAt S' = ms_readAt S
theorem Ko.trans {A B C : MS} (a : Ko A B) (b : Ko B C) : Ko A C := ⟨a.1.trans b.1, b.2.1.trans a.2.1, b.2.2.trans a.2.2⟩
theorem Kd.trans {A B C : MS} (a : Kd A B) (b : Kd B C) : Kd A C := ⟨b.1.trans a.1, b.2.1.trans a.2.1, b.2.2.1.trans a.2.2.1, b.2.2.2.1.trans a.2.2.2.1, b.2.2.2.2.1.trans a.2.2.2.2.1, b.2.2.2.2.2.trans a.2.2.2.2.2⟩
theorem ko_spot (S : MS) (v : Int32) : Ko S (ms_s_spot S v) := ⟨⟨⟨rfl, rfl, rfl, rfl, rfl, rfl, rfl⟩, ⟨rfl, rfl, rfl, rfl, rfl, rfl, rfl⟩, ⟨rfl, rfl⟩, rfl, rfl, rfl⟩, rfl, rfl⟩
theorem kd_spot (S : MS) (v : Int32) : Kd S (ms_s_spot S v) := ⟨rfl, rfl, rfl, rfl, rfl, rfl⟩
theorem ko_begins (S : MS) (v : Int32) : Ko S (ms_s_begins S v) := ⟨⟨⟨rfl, rfl, rfl, rfl, rfl, rfl, rfl⟩, ⟨rfl, rfl, rfl, rfl, rfl, rfl, rfl⟩, ⟨rfl, rfl⟩, rfl, rfl, rfl⟩, rfl, rfl⟩
theorem kd_begins (S : MS) (v : Int32) : Kd S (ms_s_begins S v) := ⟨rfl, rfl, rfl, rfl, rfl, rfl⟩
theorem ko_token (S : MS) (v : Int32) : Ko S (ms_s_token S v) := ⟨⟨⟨rfl, rfl, rfl, rfl, rfl, rfl, rfl⟩, ⟨rfl, rfl, rfl, rfl, rfl, rfl, rfl⟩, ⟨rfl, rfl⟩, rfl, rfl, rfl⟩, rfl, rfl⟩
theorem kd_token (S : MS) (v : Int32) : Kd S (ms_s_token S v) := ⟨rfl, rfl, rfl, rfl, rfl, rfl⟩
theorem ko_number (S : MS) (v : Int32) : Ko S (ms_s_number S v) := ⟨⟨⟨rfl, rfl, rfl, rfl, rfl, rfl, rfl⟩, ⟨rfl, rfl, rfl, rfl, rfl, rfl, rfl⟩, ⟨rfl, rfl⟩, rfl, rfl, rfl⟩, rfl, rfl⟩
theorem kd_number (S : MS) (v : Int32) : Kd S (ms_s_number S v) := ⟨rfl, rfl, rfl, rfl, rfl, rfl⟩
theorem ko_readPoints (S : MS) (v : Int32) : Ko S (ms_s_readPoints S v) := ⟨⟨⟨rfl, rfl, rfl, rfl, rfl, rfl, rfl⟩, ⟨rfl, rfl, rfl, rfl, rfl, rfl, rfl⟩, ⟨rfl, rfl⟩, rfl, rfl, rfl⟩, rfl, rfl⟩
theorem ko_readHome (S : MS) (v : Int32) : Ko S (ms_s_readHome S v) := ⟨⟨⟨rfl, rfl, rfl, rfl, rfl, rfl, rfl⟩, ⟨rfl, rfl, rfl, rfl, rfl, rfl, rfl⟩, ⟨rfl, rfl⟩, rfl, rfl, rfl⟩, rfl, rfl⟩
theorem ko_readMen (S : MS) (v : Int32) : Ko S (ms_s_readMen S v) := ⟨⟨⟨rfl, rfl, rfl, rfl, rfl, rfl, rfl⟩, ⟨rfl, rfl, rfl, rfl, rfl, rfl, rfl⟩, ⟨rfl, rfl⟩, rfl, rfl, rfl⟩, rfl, rfl⟩
theorem ko_readFirms (S : MS) (v : Nat → Int32) : Ko S (ms_s_readFirms S v) := ⟨⟨⟨rfl, rfl, rfl, rfl, rfl, rfl, rfl⟩, ⟨rfl, rfl, rfl, rfl, rfl, rfl, rfl⟩, ⟨rfl, rfl⟩, rfl, rfl, rfl⟩, rfl, rfl⟩
theorem ko_readKinds (S : MS) (v : Nat → Int32) : Ko S (ms_s_readKinds S v) := ⟨⟨⟨rfl, rfl, rfl, rfl, rfl, rfl, rfl⟩, ⟨rfl, rfl, rfl, rfl, rfl, rfl, rfl⟩, ⟨rfl, rfl⟩, rfl, rfl, rfl⟩, rfl, rfl⟩
theorem ko_readAt (S : MS) (v : Nat → Int32) : Ko S (ms_s_readAt S v) := ⟨⟨⟨rfl, rfl, rfl, rfl, rfl, rfl, rfl⟩, ⟨rfl, rfl, rfl, rfl, rfl, rfl, rfl⟩, ⟨rfl, rfl⟩, rfl, rfl, rfl⟩, rfl, rfl⟩
/-- a token has been read: from where, what, how far -/
def tokS (S : MS) (s b t v : Int32) : MS := ms_s_number (ms_s_token (ms_s_begins (ms_s_spot S s) b) t) v
theorem tokS_ko (S : MS) (s b t v : Int32) : Ko S (tokS S s b t v) := (((ko_spot S s).trans (ko_begins _ b)).trans (ko_token _ t)).trans (ko_number _ v)
theorem tokS_kd (S : MS) (s b t v : Int32) : Kd S (tokS S s b t v) := (((kd_spot S s).trans (kd_begins _ b)).trans (kd_token _ t)).trans (kd_number _ v)
theorem tokS_is (S : MS) (s b t v : Int32) : ms_spot (tokS S s b t v) = s ∧ ms_begins (tokS S s b t v) = b ∧ ms_token (tokS S s b t v) = t ∧ ms_number (tokS S s b t v) = v := ⟨rfl, rfl, rfl, rfl⟩
theorem tokS_same (S : MS) (b t v : Int32) : ms_s_number (ms_s_token (ms_s_begins S b) t) v = tokS S (ms_spot S) b t v := rfl
def TapeT (tp : Nat → Nat) (n : Nat) (bs : IA) (S : MS) : Prop := n ≤ 90 ∧ ms_length S = nI n ∧ ∀ k, k < n → bs k = nI (tp k) ∧ ms_tape S k = nI (tp k) ∧ tp k < 256
theorem TapeT.ko {tp : Nat → Nat} {n : Nat} {bs : IA} {S S' : MS} (h : TapeT tp n bs S) (k : Ko S S') : TapeT tp n bs S' := by
  obtain ⟨a, b, c⟩ := h
  obtain ⟨⟨⟨-, -, -, -, -, k6, k7⟩, -⟩, -⟩ := k
  exact ⟨a, k6.trans b, fun i hi => by rw [k7]; exact c i hi⟩
theorem sp_fig7 {z : Nat} (h : z < 2 ^ 31) : M_X4_isFigure (nI z) = some (if 48 ≤ z ∧ z ≤ 57 then 1 else 0) := by
  unfold M_X4_isFigure
  simp only [show ((48 : Int32)) = nI 48 from rfl, show ((57 : Int32)) = nI 57 from rfl, ltI h (show 48 < 2 ^ 31 by omega), ltI (show 57 < 2 ^ 31 by omega) h]
  by_cases c1 : z < 48
  · rw [if_pos c1, if_neg (by omega)]
  · rw [if_neg c1]
    by_cases c2 : 57 < z
    · rw [if_pos c2, if_neg (by omega)]
    · rw [if_neg c2, if_pos (by omega)]
theorem in_nI {z a b : Nat} (h : z < 2 ^ 31) (ha : a < 2 ^ 31) (hb : b < 2 ^ 31) : M_X8_in (nI z).toInt64 (nI a).toInt64 (nI b).toInt64 = some (if a ≤ z ∧ z ≤ b then 1 else 0) := by
  rw [sp_in]
  by_cases c : a ≤ z ∧ z ≤ b
  · rw [if_pos c, b01_t ⟨(leI ha h).2 c.1, (leI h hb).2 c.2⟩]
  · rw [if_neg c, b01_f (fun q => c ⟨(leI ha h).1 q.1, (leI h hb).1 q.2⟩)]
theorem in7_nI {z a b : Nat} (h : z < 2 ^ 31) (ha : a < 2 ^ 31) (hb : b < 2 ^ 31) : M_X7_within (nI z) (nI a) (nI b) = some (if a ≤ z ∧ z ≤ b then 1 else 0) := by
  rw [sp_within]
  by_cases c : a ≤ z ∧ z ≤ b
  · rw [if_pos c, b01_t ⟨(leI ha h).2 c.1, (leI h hb).2 c.2⟩]
  · rw [if_neg c, b01_f (fun q => c ⟨(leI ha h).1 q.1, (leI h hb).1 q.2⟩)]
theorem sp_fig8 {z : Nat} (h : z < 2 ^ 31) : M_X8_isFigure (nI z) = some (if 48 ≤ z ∧ z ≤ 57 then 1 else 0) := by
  unfold M_X8_isFigure
  rw [show ((48 : Int64)) = (nI 48).toInt64 from rfl, show ((57 : Int64)) = (nI 57).toInt64 from rfl, in_nI h (by omega) (by omega)]
  by_cases c : 48 ≤ z ∧ z ≤ 57
  · rw [if_pos c]; rfl
  · rw [if_neg c]; rfl
theorem fig8_y {z : Nat} (h : figA z) : M_X8_isFigure (nI z) = some 1 := by
  have := h.2
  rw [sp_fig8 (by omega), if_pos (show 48 ≤ z ∧ z ≤ 57 from h)]
theorem fig8_n {z : Nat} (hz : z < 256) (h : ¬ figA z) : M_X8_isFigure (nI z) = some 0 := by
  rw [sp_fig8 (by omega), if_neg (show ¬ (48 ≤ z ∧ z ≤ 57) from h)]
theorem fig7_y {z : Nat} (h : figA z) : M_X4_isFigure (nI z) = some 1 := by
  have := h.2
  rw [sp_fig7 (by omega), if_pos (show 48 ≤ z ∧ z ≤ 57 from h)]
theorem fig7_n {z : Nat} (hz : z < 256) (h : ¬ figA z) : M_X4_isFigure (nI z) = some 0 := by
  rw [sp_fig7 (by omega), if_neg (show ¬ (48 ≤ z ∧ z ≤ 57) from h)]
def nL8 (S0 : MS) : (Int32 × Int32 × Int32 → Option (Int32 × Int32 × Int32)) → Int32 × Int32 × Int32 → Option (Int32 × Int32 × Int32) := (fun rec5 st5 => (if (ms_length S0) ≤ st5.2.1 then (some (st5.1, st5.2.1, st5.2.2)) else (if inb st5.2.1 90 = true then ((M_X8_isFigure (((ms_tape S0) (st5.2.1).toNatClampNeg))).bind (fun u9 => (if u9 = 0 then (some (st5.1, st5.2.1, st5.2.2)) else (jn (σ := Int32) (fun v11 => (rec5 ((st5.1 + (1 : Int32)), (st5.2.1 + (1 : Int32)), v11))) (fun J11 => (if (2 : Int32) ≤ st5.1 then (J11 st5.2.2) else (J11 ((((10 : Int32) * st5.2.2) + ((ms_tape S0) (st5.2.1).toNatClampNeg)) - (48 : Int32))))))))) else none)))
def nL7 (S0 : RD) (S1 : IA) : (Int32 × Int32 → Option (Int32 × Int32)) → Int32 × Int32 → Option (Int32 × Int32) := (fun rec1 st1 => (if (rd_length S0) ≤ st1.1 then (some (st1.1, st1.2)) else (if ((rd_at S0) + (3 : Int32)) ≤ st1.1 then (some (st1.1, st1.2)) else (if inb st1.1 90 = true then ((M_X4_isFigure ((S1 (st1.1).toNatClampNeg))).bind (fun u12 => (if u12 = 0 then (some (st1.1, st1.2)) else (rec1 ((st1.1 + (1 : Int32)), ((((10 : Int32) * st1.2) + (S1 (st1.1).toNatClampNeg)) - (48 : Int32))))))) else none))))
theorem dig_I {v z : Nat} (h : 48 ≤ z) : (10 : Int32) * nI v + nI z - 48 = nI (10 * v + (z - 48)) := by
  rw [show ((10 : Int32)) = nI 10 from rfl, pk_mul, nI_add, show ((48 : Int32)) = nI 48 from rfl, subI (show 48 ≤ 10 * v + z by omega)]
  congr 1
  omega
section TOK
variable {tp : Nat → Nat} {n : Nat} {bs : IA} {S : MS} {p : Nat}
theorem s8_runLoop (hT : TapeT tp n bs S) {r : Nat} (hr : p + r ≤ n) (hf : ∀ k, k < r → figA (tp (p + k))) (he : p + r < n → ¬ figA (tp (p + r))) : lp (nL8 S) 1000000 ((0 : Int32), nI p, (0 : Int32)) = some (nI r, nI (p + r), nI (valA tp p (min r 2))) := by
  obtain ⟨h90, hl, hb⟩ := hT
  refine lp_at (fun k => (nI k, nI (p + k), nI (valA tp p (min k 2)))) r _ rfl ?_ ?_ (by omega)
  · intro k rec hk
    obtain ⟨q1, q2⟩ := hf k hk
    have l1 : ¬ nI n ≤ nI (p + k) := nI_ge (by omega) (by omega)
    have ht := (hb (p + k) (by omega)).2.1
    simp only [nL8, jn, hl, l1, if_false]
    rw [inb_nI (show p + k < 90 by omega) (by omega), cl (show p + k < 2 ^ 31 by omega), ht, fig8_y ⟨q1, q2⟩]
    simp only [ob, if_true, show ¬ (1 : Int32) = 0 by decide, if_false, show ((2 : Int32)) = nI 2 from rfl, leI (show 2 < 2 ^ 31 by omega) (show k < 2 ^ 31 by omega), nI_p1]
    by_cases c : 2 ≤ k
    · rw [if_pos c, show min k 2 = 2 by omega, show min (k + 1) 2 = 2 by omega]
      rfl
    · rw [if_neg c, dig_I q1, show min k 2 = k by omega, show min (k + 1) 2 = k + 1 by omega]
      rfl
  · intro rec
    by_cases c : p + r < n
    · have l1 : ¬ nI n ≤ nI (p + r) := nI_ge (by omega) (by omega)
      have ht := (hb (p + r) (by omega)).2.1
      simp only [nL8, hl, l1, if_false]
      rw [inb_nI (show p + r < 90 by omega) (by omega), cl (show p + r < 2 ^ 31 by omega), ht, fig8_n (hb (p + r) (by omega)).2.2 (he c)]
      simp only [ob, if_true]
    · have l1 : nI n ≤ nI (p + r) := nI_le (by omega) (by omega)
      simp only [nL8, hl, l1, if_true]
theorem s8_next (hT : TapeT tp n bs S) (hp : p ≤ n) (hs : ms_spot S = nI p) : ∃ s t v, M_X8_next S = some (tokS S s (nI p) t v) ∧ ((p = n ∧ t = -1) ∨ (p < n ∧ ¬ figA (tp p) ∧ t = (if (97 ≤ tp p ∧ tp p ≤ 122) ∨ tp p = 44 ∨ tp p = 59 then nI (tp p) else -1) ∧ s = nI (p + 1)) ∨ ∃ r, 1 ≤ r ∧ p + r ≤ n ∧ (∀ k, k < r → figA (tp (p + k))) ∧ (p + r < n → ¬ figA (tp (p + r))) ∧ t = (if r < 3 then 0 else -1) ∧ s = nI (p + r) ∧ v = nI (valA tp p (min r 2))) := by
  have hT0 := hT
  obtain ⟨h90, hl, hb⟩ := hT
  unfold M_X8_next
  by_cases c : p = n
  · rw [if_pos (show ms_spot S = ms_length S by rw [hs, hl, c])]
    refine ⟨nI p, -1, 0, congrArg some ?_, Or.inl ⟨c, rfl⟩⟩
    rw [tokS_same, hs]
  · have hpn : p < n := by omega
    obtain ⟨b1, b2, b3⟩ := hb p hpn
    rw [if_neg (show ¬ ms_spot S = ms_length S from fun z => c ((eqI (by omega) (by omega)).1 ((hs.symm.trans z).trans hl))), hs, inb_nI (show p < 90 by omega) (by omega), cl (show p < 2 ^ 31 by omega), b2]
    by_cases cf : figA (tp p)
    · rw [fig8_y cf]
      simp only [ob, if_true, show ¬ (1 : Int32) = 0 by decide, if_false]
      obtain ⟨r, r1, r2, r3⟩ := run_ex tp (n - p) n p rfl hp
      have hr1 : 1 ≤ r := by
        rcases Nat.eq_zero_or_pos r with e | e
        · subst e
          exact absurd cf (r3 (by omega))
        · exact e
      refine ⟨nI (p + r), (if r < 3 then 0 else -1), nI (valA tp p (min r 2)), (bind_of (s8_runLoop hT0 r1 r2 r3)).trans ?_, Or.inr (Or.inr ⟨r, hr1, r1, r2, r3, rfl, rfl, rfl⟩)⟩
      by_cases c3 : r < 3
      · have c4 : ¬ (3 : Int32) ≤ nI r := fun z => absurd ((leI (show 3 < 2 ^ 31 by omega) (show r < 2 ^ 31 by omega)).1 z) (by omega)
        simp only [if_pos c3, c4, if_false]
        rfl
      · have c4 : (3 : Int32) ≤ nI r := (leI (show 3 < 2 ^ 31 by omega) (show r < 2 ^ 31 by omega)).2 (by omega)
        simp only [if_neg c3, c4, if_true]
        rfl
    · rw [fig8_n b3 cf]
      simp only [ob, if_true]
      rw [show ((97 : Int64)) = (nI 97).toInt64 from rfl, show ((122 : Int64)) = (nI 122).toInt64 from rfl, in_nI (by omega) (by omega) (by omega)]
      simp only [ob, jn, nI_p1, show ((44 : Int32)) = nI 44 from rfl, show ((59 : Int32)) = nI 59 from rfl, eqI (show tp p < 2 ^ 31 by omega) (show 44 < 2 ^ 31 by omega), eqI (show tp p < 2 ^ 31 by omega) (show 59 < 2 ^ 31 by omega)]
      refine ⟨nI (p + 1), (if (97 ≤ tp p ∧ tp p ≤ 122) ∨ tp p = 44 ∨ tp p = 59 then nI (tp p) else -1), 0, ?_, Or.inr (Or.inl ⟨hpn, cf, rfl, rfl⟩)⟩
      by_cases d1 : 97 ≤ tp p ∧ tp p ≤ 122
      · rw [if_pos d1, if_pos (Or.inl d1), if_neg (show ¬ (1 : Int32) = 0 by decide)]
        rfl
      · rw [if_neg d1, if_pos rfl]
        by_cases d2 : tp p = 44
        · rw [if_pos d2, if_pos (Or.inr (Or.inl d2))]
          rfl
        · rw [if_neg d2]
          by_cases d3 : tp p = 59
          · rw [if_pos d3, if_pos (Or.inr (Or.inr d3))]
            rfl
          · rw [if_neg d3, if_neg (fun z => z.elim d1 (fun z => z.elim d2 d3))]
            rfl
def At (rd : RD) (n p : Nat) : Prop := rd_length rd = nI n ∧ rd_at rd = nI p
def Flt (rd : RD) (S : MS) (f : Int32) : Prop := ∃ w p : Nat, 1 ≤ w ∧ w ≤ 3 ∧ f = nI w ∧ rd_faultNumber rd = nI w ∧ rd_faultPlace rd = nI p ∧ ms_begins S = nI p
theorem Flt.ne {rd : RD} {f : Int32} (h : Flt rd S f) : ¬ f = 0 := by
  obtain ⟨w, p, h1, h2, h3, -⟩ := h
  rw [h3]
  exact fun z => absurd ((eqI (b := 0) (by omega) (by omega)).1 z) (by omega)
theorem fail_is (rd : RD) (w : Int32) : M_X4_fail rd w = some ((0 : Int32), rd_s_faultPlace (rd_s_faultNumber rd w) (rd_at rd)) := rfl
theorem sp_numLoop {rd : RD} (hA : At rd n p) (hT : TapeT tp n bs S) {r : Nat} (hr : p + r ≤ n) (hf : ∀ k, k < r → figA (tp (p + k))) (he : p + r < n → ¬ figA (tp (p + r))) : lp (nL7 rd bs) 1000000 (nI p, (0 : Int32)) = some (nI (p + min r 3), nI (valA tp p (min r 3))) := by
  obtain ⟨h90, hl, hb⟩ := hT
  obtain ⟨a1, a2⟩ := hA
  have e3 : nI p + 3 = nI (p + 3) := nI_add p 3
  refine lp_at (fun k => (nI (p + k), nI (valA tp p k))) (min r 3) _ rfl ?_ ?_ (by omega)
  · intro k rec hk
    obtain ⟨q1, q2⟩ := hf k (by omega)
    have l1 : ¬ nI n ≤ nI (p + k) := nI_ge (by omega) (by omega)
    have l2 : ¬ nI (p + 3) ≤ nI (p + k) := nI_ge (by omega) (by omega)
    have ht := (hb (p + k) (by omega)).1
    simp only [nL7, a1, a2, e3, l1, l2, if_false]
    rw [inb_nI (show p + k < 90 by omega) (by omega), cl (show p + k < 2 ^ 31 by omega), ht, fig7_y ⟨q1, q2⟩]
    simp only [ob, if_true, show ¬ (1 : Int32) = 0 by decide, if_false, nI_p1, dig_I q1]
    rfl
  · intro rec
    by_cases c : p + min r 3 < n
    · have l1 : ¬ nI n ≤ nI (p + min r 3) := nI_ge (by omega) (by omega)
      by_cases c3 : 3 ≤ r
      · have l2 : nI (p + 3) ≤ nI (p + min r 3) := nI_le (by omega) (by omega)
        simp only [nL7, a1, a2, e3, l1, l2, if_false, if_true]
      · have l2 : ¬ nI (p + 3) ≤ nI (p + min r 3) := nI_ge (by omega) (by omega)
        have em : min r 3 = r := by omega
        rw [em] at l1 l2 c ⊢
        have ht := (hb (p + r) (by omega)).1
        simp only [nL7, a1, a2, e3, l1, l2, if_false]
        rw [inb_nI (show p + r < 90 by omega) (by omega), cl (show p + r < 2 ^ 31 by omega), ht, fig7_n (hb (p + r) (by omega)).2.2 (he c)]
        simp only [ob, if_true]
    · have l1 : nI n ≤ nI (p + min r 3) := nI_le (by omega) (by omega)
      simp only [nL7, a1, l1, if_true]
theorem num_two {rd : RD} (hA : At rd n p) (hT : TapeT tp n bs S) (hp : p ≤ n) (hs : ms_spot S = nI p) {lo hi : Nat} (hlo : lo < 2 ^ 31) (hhi : hi < 1000) :
    ∃ f S' c rd', M_X8_numberIn S (nI lo) (nI hi) = some (f, S') ∧ M_X4_readNumber rd bs (nI lo) (nI hi) = some (c, rd') ∧ Ko S S' ∧ Kd S S' ∧ ((f = 0 ∧ ∃ v q, lo ≤ v ∧ v ≤ hi ∧ c = nI v ∧ ms_number S' = nI v ∧ q ≤ n ∧ At rd' n q ∧ ms_spot S' = nI q) ∨ (c = -1000000 ∧ Flt rd' S' f)) := by
  obtain ⟨s, t, v, hn, hc⟩ := s8_next hT hp hs
  have h90 := hT.1
  obtain ⟨i1, i2, i3, i4⟩ := tokS_is S s (nI p) t v
  have ko := tokS_ko S s (nI p) t v
  have kdd := tokS_kd S s (nI p) t v
  obtain ⟨r, r1, r2, r3⟩ := run_ex tp (n - p) n p rfl hp
  have hl7 := sp_numLoop hA hT r1 r2 r3
  unfold M_X8_numberIn M_X4_readNumber
  rw [hn]
  simp only [ob]
  have hl7 : lp (nL7 rd bs) 1000000 (rd_at rd, (0 : Int32)) = some (nI (p + min r 3), nI (valA tp p (min r 3))) := by
    rw [hA.2]
    exact hl7
  have e3 : nI p + 3 = nI (p + 3) := nI_add p 3
  have fault : ∀ w, 1 ≤ w → w ≤ 3 → Flt (rd_s_faultPlace (rd_s_faultNumber rd (nI w)) (rd_at rd)) (tokS S s (nI p) t v) (nI w) := fun w a b => ⟨w, p, a, b, rfl, rfl, hA.2, i2⟩
  by_cases c0 : r = 0
  · have ht0 : ¬ t = 0 := by
      rcases hc with ⟨-, e⟩ | ⟨q1, q2, e, -⟩ | ⟨r', q1, q2, q3, -⟩
      · rw [e]; decide
      · rw [e]
        split
        · intro z
          have := (eqI (a := tp p) (b := 0) (by have := (hT.2.2 p q1).2.2; omega) (by omega)).1 z
          omega
        · decide
      · exact absurd (q3 0 (by omega)) (by subst c0; exact r3 (by omega))
    subst c0
    refine ⟨nI 1, _, -1000000, _, ?_, (bind_of hl7).trans ?_, ko, kdd, Or.inr ⟨rfl, fault 1 (by omega) (by omega)⟩⟩
    · rw [i3, if_neg ht0]; rfl
    · simp only [jn, hA.2, fail_is, ob, Nat.zero_min, Nat.add_zero, if_true]
      rfl
  · have hfig : figA (tp p) := by
      have := r2 0 (by omega)
      rw [Nat.add_zero] at this
      exact this
    rcases hc with ⟨e, -⟩ | ⟨-, q, -⟩ | ⟨r', q1, q2, q3, q4, q5, q6, q7⟩
    · omega
    · exact absurd hfig q
    · have er : r' = r := by
        rcases Nat.lt_trichotomy r' r with c | c | c
        · exact absurd (r2 r' c) (q4 (by omega))
        · exact c
        · exact absurd (q3 r c) (r3 (by omega))
      subst er
      by_cases c3 : r' < 3
      · have hv := valA_lt r2
        have hv2 : valA tp p r' < 1000 := by
          have : 10 ^ r' ≤ 10 ^ 3 := Nat.pow_le_pow_right (by omega) (by omega)
          omega
        have em : min r' 3 = r' := by omega
        have em2 : min r' 2 = r' := by omega
        rw [em] at hl7
        rw [em2] at q7
        rw [if_pos c3] at q5
        have n1 : ¬ nI (p + r') = nI p := fun z => absurd ((eqI (by omega) (by omega)).1 z) (by omega)
        have n2 : ¬ nI (p + r') = nI (p + 3) := fun z => absurd ((eqI (by omega) (by omega)).1 z) (by omega)
        have hin := in_nI (z := valA tp p r') (a := lo) (b := hi) (by omega) hlo (by omega)
        have hw7 := in7_nI (z := valA tp p r') (a := lo) (b := hi) (by omega) hlo (by omega)
        have e8 : M_X8_in (ms_number (tokS S s (nI p) t v)).toInt64 (nI lo).toInt64 (nI hi).toInt64 = some (if lo ≤ valA tp p r' ∧ valA tp p r' ≤ hi then 1 else 0) := by rw [i4, q7]; exact hin
        by_cases cr : lo ≤ valA tp p r' ∧ valA tp p r' ≤ hi
        · refine ⟨0, _, nI (valA tp p r'), rd_s_at rd (nI (p + r')), ?_, (bind_of hl7).trans ?_, ko, kdd, Or.inl ⟨rfl, _, p + r', cr.1, cr.2, rfl, i4.trans q7, q2, ⟨hA.1, rfl⟩, i1.trans q6⟩⟩
          · rw [i3, if_pos q5, e8, if_pos cr]; rfl
          · simp only [jn, hA.2, n1, n2, e3, if_false, hw7, ob, if_pos cr, show ¬ (1 : Int32) = 0 by decide]
        · refine ⟨nI 2, _, -1000000, _, ?_, (bind_of hl7).trans ?_, ko, kdd, Or.inr ⟨rfl, fault 2 (by omega) (by omega)⟩⟩
          · rw [i3, if_pos q5, e8, if_neg cr]; rfl
          · simp only [jn, hA.2, n1, n2, e3, if_false, hw7, ob, if_neg cr, if_true, fail_is]
            rfl
      · have em : min r' 3 = 3 := by omega
        rw [em] at hl7
        rw [if_neg c3] at q5
        have n1 : ¬ nI (p + 3) = nI p := fun z => absurd ((eqI (by omega) (by omega)).1 z) (by omega)
        refine ⟨nI 1, _, -1000000, _, ?_, (bind_of hl7).trans ?_, ko, kdd, Or.inr ⟨rfl, fault 1 (by omega) (by omega)⟩⟩
        · rw [i3, q5, if_neg (show ¬ (-1 : Int32) = 0 by decide)]; rfl
        · simp only [jn, hA.2, n1, e3, if_false, if_true, fail_is, ob]
          rfl
theorem sign_two {rd : RD} (hA : At rd n p) (hT : TapeT tp n bs S) (hp : p ≤ n) (hs : ms_spot S = nI p) {z : Nat} (hz : z < 256) (hz0 : z ≠ 0) (hzf : ¬ figA z) (hzt : (97 ≤ z ∧ z ≤ 122) ∨ z = 44 ∨ z = 59) :
    ∃ f S' c rd', M_X8_sign S (nI z) = some (f, S') ∧ M_X4_readSign rd bs (nI z) = some (c, rd') ∧ Ko S S' ∧ Kd S S' ∧ ((f = 0 ∧ c = 1 ∧ p + 1 ≤ n ∧ At rd' n (p + 1) ∧ ms_spot S' = nI (p + 1)) ∨ (c = 0 ∧ Flt rd' S' f)) := by
  obtain ⟨s, t, v, hn, hc⟩ := s8_next hT hp hs
  have h90 := hT.1
  obtain ⟨i1, i2, i3, i4⟩ := tokS_is S s (nI p) t v
  have ko := tokS_ko S s (nI p) t v
  have kdd := tokS_kd S s (nI p) t v
  have fault : ∀ w, 1 ≤ w → w ≤ 3 → Flt (rd_s_faultPlace (rd_s_faultNumber rd (nI w)) (rd_at rd)) (tokS S s (nI p) t v) (nI w) := fun w a b => ⟨w, p, a, b, rfl, rfl, hA.2, i2⟩
  have hm1 : ¬ (-1 : Int32) = nI z := fun q => ne_m1 (x := nI z) rfl (by omega) q.symm
  unfold M_X8_sign M_X4_readSign
  rw [hn, hA.2, hA.1]
  simp only [ob, jn, fail_is, true_or, if_true]
  by_cases c : p = n
  · have l1 : nI n ≤ nI p := nI_le (by omega) (by omega)
    have ht : ¬ t = nI z := by
      rcases hc with ⟨-, e⟩ | ⟨q, -⟩ | ⟨r, q1, q2, -⟩
      · rw [e]; exact hm1
      · omega
      · omega
    refine ⟨nI 1, _, 0, _, ?_, ?_, ko, kdd, Or.inr ⟨rfl, fault 1 (by omega) (by omega)⟩⟩
    · rw [i3, if_neg ht]; rfl
    · rw [if_pos l1]; rfl
  · have hpn : p < n := by omega
    have l1 : ¬ nI n ≤ nI p := nI_ge (by omega) (by omega)
    obtain ⟨b1, b2, b3⟩ := hT.2.2 p hpn
    rw [if_neg l1, inb_nI (show p < 90 by omega) (by omega), cl (show p < 2 ^ 31 by omega), b1, i3]
    simp only [if_true, eqI (show tp p < 2 ^ 31 by omega) (show z < 2 ^ 31 by omega), nI_p1]
    by_cases cz : tp p = z
    · have ht : t = nI z ∧ s = nI (p + 1) := by
        rcases hc with ⟨q, -⟩ | ⟨q1, q2, q3, q4⟩ | ⟨r, q1, q2, q3, -⟩
        · omega
        · rw [cz, if_pos hzt] at q3
          exact ⟨q3, q4⟩
        · have := q3 0 (by omega)
          rw [Nat.add_zero, cz] at this
          exact absurd this hzf
      refine ⟨0, _, 1, rd_s_at rd (nI (p + 1)), ?_, ?_, ko, kdd, Or.inl ⟨rfl, rfl, by omega, ⟨hA.1, rfl⟩, i1.trans ht.2⟩⟩
      · rw [if_pos ht.1]
      · rw [if_pos cz]
    · have ht : ¬ t = nI z := by
        rcases hc with ⟨q, -⟩ | ⟨q1, q2, q3, q4⟩ | ⟨r, q1, q2, q3, q4, q5, q6⟩
        · omega
        · rw [q3]
          split
          · exact fun w => cz ((eqI (by omega) (by omega)).1 w)
          · exact hm1
        · rw [q5]
          split
          · exact fun w => hz0 ((eqI (b := 0) (by omega) (by omega)).1 w.symm)
          · exact hm1
      refine ⟨nI 1, _, 0, _, ?_, ?_, ko, kdd, Or.inr ⟨rfl, fault 1 (by omega) (by omega)⟩⟩
      · rw [if_neg ht]; rfl
      · rw [if_neg cz]; rfl
end TOK
