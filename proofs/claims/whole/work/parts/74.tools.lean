/-! ===== sets of bits; loops with what is known of their states ===== -/
def btI (k : Nat) : Int32 := (1 : Int32) <<< (nI k &&& 31)
def orS (f : Nat → Int32) : Nat → Int32
  | 0 => 0
  | k + 1 => orS f k ||| f k
theorem or_z (x : Int32) : x ||| 0 = x := Int32.or_zero
theorem orS_s (f : Nat → Int32) (n : Nat) : orS f (n + 1) = orS f n ||| f n := rfl
theorem orS_cong {f g : Nat → Int32} : ∀ {n : Nat}, (∀ k, k < n → f k = g k) → orS f n = orS g n
  | 0, _ => rfl
  | n + 1, h => by rw [orS_s, orS_s, orS_cong (fun k hk => h k (by omega)), h n (by omega)]
theorem orS_none (n : Nat) : orS (fun _ => 0) n = 0 := by
  induction n with
  | zero => rfl
  | succ n ih => rw [orS_s, ih]; rfl
theorem or_4 (a b c d : Int32) : (a ||| b) ||| (c ||| d) = (a ||| c) ||| (b ||| d) := by
  rw [Int32.or_assoc, Int32.or_assoc, ← Int32.or_assoc b c d, Int32.or_comm b c, Int32.or_assoc c b d]
theorem orS_or (f g : Nat → Int32) : ∀ n, orS (fun k => f k ||| g k) n = orS f n ||| orS g n
  | 0 => (or_z 0).symm
  | n + 1 => by rw [orS_s, orS_s, orS_s, orS_or f g n, or_4]
theorem orS_swap (f : Nat → Nat → Int32) (m : Nat) : ∀ n, orS (fun i => orS (fun j => f i j) m) n = orS (fun j => orS (fun i => f i j) n) m
  | 0 => (orS_none m).symm
  | n + 1 => by
    rw [orS_s, orS_swap f m n, ← orS_or]
    rfl
theorem orS_if {p : Nat → Prop} [DecidablePred p] {x : Int32} : ∀ n, orS (fun i => if p i then x else 0) n = if (∃ i, i < n ∧ p i) then x else 0
  | 0 => (if_neg (fun ⟨i, h, _⟩ => absurd h (Nat.not_lt_zero i))).symm
  | n + 1 => by
    rw [orS_s, orS_if n]
    by_cases h : ∃ i, i < n ∧ p i
    · rw [if_pos h]
      have h2 : ∃ i, i < n + 1 ∧ p i := by obtain ⟨i, a, b⟩ := h; exact ⟨i, by omega, b⟩
      rw [if_pos h2]
      by_cases c : p n
      · rw [if_pos c, Int32.or_self]
      · rw [if_neg c, or_z]
    · rw [if_neg h]
      by_cases c : p n
      · rw [if_pos c, if_pos ⟨n, by omega, c⟩]
        exact Int32.zero_or
      · have h2 : ¬ ∃ i, i < n + 1 ∧ p i := fun ⟨i, a, b⟩ => by
          by_cases e : i = n
          · subst e; exact c b
          · exact h ⟨i, by omega, b⟩
        rw [if_neg c, if_neg h2]; rfl
theorem lp_or0 {F : (Int32 × Int32 → Option Int32) → Int32 × Int32 → Option Int32} (g : Nat → Int32) (n : Nat) (a : Int32) (hn : n < 1000)
    (hs : ∀ k v rec, k < n → F rec (v, nI k) = rec (v ||| g k, nI (k + 1))) (hx : ∀ v rec, F rec (v, nI n) = some v) : lp F 1000000 (a, (0 : Int32)) = some (a ||| orS g n) := by
  refine lp_at (fun k => (a ||| orS g k, nI k)) n _ (congrArg (fun z : Int32 => (z, _)) (or_z a).symm) ?_ ?_ (by omega)
  · intro k rec hk
    rw [hs k _ rec hk, Int32.or_assoc]
    rfl
  · intro rec
    exact hx _ rec
theorem lp_or1 {F : (Int32 × Int32 → Option Int32) → Int32 × Int32 → Option Int32} (g : Nat → Int32) (n : Nat) (a : Int32) (hn : n < 1000)
    (hs : ∀ k v rec, k < n → F rec (v, nI (k + 1)) = rec (v ||| g k, nI (k + 1 + 1))) (hx : ∀ v rec, F rec (v, nI (n + 1)) = some v) : lp F 1000000 (a, (1 : Int32)) = some (a ||| orS g n) := by
  refine lp_at (fun k => (a ||| orS g k, nI (k + 1))) n _ (congrArg (fun z : Int32 => (z, _)) (or_z a).symm) ?_ ?_ (by omega)
  · intro k rec hk
    rw [hs k _ rec hk, Int32.or_assoc]
    rfl
  · intro rec
    exact hx _ rec
theorem z_or (x : Int32) : 0 ||| x = x := Int32.zero_or
/-- a loop of whose states something is known -/
theorem lp_inv {σ β : Type} {F : (σ → Option β) → σ → Option β} (P : Nat → σ → Prop) (Q : β → Prop) (n : Nat)
    (hs : ∀ k s, k < n → P k s → ∃ s', P (k + 1) s' ∧ ∀ rec, F rec s = rec s') (hx : ∀ s, P n s → ∃ b, Q b ∧ ∀ rec, F rec s = some b) {s0 : σ} (h0 : P 0 s0) : ∀ {N : Nat}, n < N → ∃ b, lp F N s0 = some b ∧ Q b := by
  have key : ∀ (m k N : Nat) (s : σ), k + m = n → m < N → P k s → ∃ b, lp F N s = some b ∧ Q b := by
    intro m
    induction m with
    | zero =>
      intro k N s hk hN hP
      cases N with
      | zero => omega
      | succ N =>
        have e : k = n := by omega
        subst e
        obtain ⟨b, hb, hF⟩ := hx s hP
        exact ⟨b, hF _, hb⟩
    | succ m ih =>
      intro k N s hk hN hP
      cases N with
      | zero => omega
      | succ N =>
        obtain ⟨s', hP', hF⟩ := hs k s (by omega) hP
        obtain ⟨b, hb, hQ⟩ := ih (k + 1) N s' (by omega) (by omega) hP'
        exact ⟨b, (hF _).trans hb, hQ⟩
  intro N hN
  exact key n 0 N s0 (by omega) hN h0
theorem trc_ge {pts p : Nat} (h : p ≤ pts + 1) (hp : pts ≤ 12) : pts ≤ trc pts p ↔ pts ≤ p := by
  unfold trc
  split <;> omega
theorem trc_bar {pts p : Nat} (h : p ≤ pts + 1) (hp : pts ≤ 12) : trc pts p = pts ↔ p = pts := by
  unfold trc
  split <;> omega
theorem cntX_pos {n : Nat} {fm ps : Nat → Nat} {f a m : Nat} (hm : m < n) (h1 : fm m = f) (h2 : ps m = a) : 0 < cntX n fm ps f a m ↔ 2 ≤ cntA n fm ps f a := by
  have h := cntX_eq (fm := fm) (ps := ps) (f := f) (a := a) hm
  rw [if_pos ⟨h1, h2⟩] at h
  omega
/-- a table stands: what is known then -/
def TabR (L : BD) (S : MS) (pts hm n : Nat) (fm kd ps : Nat → Nat) (thr trn cub : Nat) (ow : Int32) : Prop := 0 < n ∧ OKb pts hm n fm kd ps ∧ OKt thr trn cub ow ∧ EC pts hm n fm kd ps L ∧ ECt thr trn cub ow L ∧ EMb pts hm n fm kd ps S ∧ EMt thr trn cub ow (ms_now S) ∧ ms_hasTable S = 1 ∧ ms_otherOne S = -1000000
theorem RelB.tab {L i0 i1 : BD} {ac : AC} {S : MS} (h : RelB L i0 i1 ac S) : (bd_men L = 0 ∧ ms_men S = 0 ∧ ms_hasTable S = 0) ∨ ∃ (pts hm n : Nat) (fm kd ps : Nat → Nat) (thr trn cub : Nat) (ow : Int32), TabR L S pts hm n fm kd ps thr trn cub ow := by
  obtain ⟨pts, hm, n, fm, kd, ps, thr, trn, cub, ow, hcase, E, EM, hAct, hoo, hImg⟩ := h
  rcases hcase with ⟨c1, c2, c3, c4, c5, c6, c7⟩ | ⟨c1, ok, okt, T, TM, c6⟩
  · subst c1
    exact Or.inl ⟨E.2.2.1, EM.2.2.1, c6⟩
  · exact Or.inr ⟨pts, hm, n, fm, kd, ps, thr, trn, cub, ow, c1, ok, okt, E, T, EM, TM, c6, hoo⟩
/-- the reference's rows aside are free -/
theorem Rel.rows {tf : TF} {rw_ : RW} {tp : TP} {bs : IA} {L i0 i1 : BD} {ac : AC} {as : AS} {S : MS} (h : Rel tf rw_ tp bs L i0 i1 ac as S) (R : Nat → Int32) : Rel tf rw_ tp bs L i0 i1 ac as (ms_s_rows S R) := h
theorem Rel.bests {tf : TF} {rw_ : RW} {tp : TP} {bs : IA} {L i0 i1 : BD} {ac : AC} {as : AS} {S : MS} (h : Rel tf rw_ tp bs L i0 i1 ac as S) (R : Nat → Int32) : Rel tf rw_ tp bs L i0 i1 ac as (ms_s_bests S R) := h
section TAB
variable {L : BD} {S : MS} {pts hm n : Nat} {fm kd ps : Nat → Nat} {thr trn cub : Nat} {ow : Int32} {tf : TF}
theorem TabR.n8 (h : TabR L S pts hm n fm kd ps thr trn cub ow) : n ≤ 8 := h.2.1.2.2.2.2.1
theorem TabR.no (h : TabR L S pts hm n fm kd ps thr trn cub ow) : M_X7_hasNoTable tf L = some 0 := by
  have h8 := h.n8
  have h1 := h.1
  have hn0 : ¬ nI n = (0 : Int32) := fun z => absurd ((eqI (b := 0) (by omega) (by omega)).1 z) (by omega)
  unfold M_X7_hasNoTable
  rw [h.2.2.2.1.2.2.1, if_neg hn0]
theorem TabR.has (h : TabR L S pts hm n fm kd ps thr trn cub ow) : ¬ ms_hasTable S = 0 := by
  rw [h.2.2.2.2.2.2.2.1]
  decide
theorem no_tab (h : bd_men L = 0) : M_X7_hasNoTable tf L = some 1 := by
  unfold M_X7_hasNoTable
  rw [h]
  rfl
theorem TabR.over (h : TabR L S pts hm n fm kd ps thr trn cub ow) : M_X7_isOver tf L = some (b01 (winA pts n fm ps < 1000)) := by
  unfold M_X7_isOver
  rw [sp_winner h.2.2.2.1 h.2.1]
  simp only [ob]
  by_cases c : winA pts n fm ps < 1000
  · rw [if_neg (fun z => absurd ((mnb_no (by omega)).1 z) (by omega)), b01_t c]
  · rw [if_pos ((mnb_no (by omega)).2 (by omega)), b01_f c]
theorem man_no {x : Int32} : ¬ (0 ≤ x ∧ x ≤ nI 0 - 1) := by
  intro h
  obtain ⟨i, hi, _⟩ := man_of (n := 0) (by omega) h
  omega
theorem won_no {k : Nat} : mnb 1000 k = -1000000 ↔ ¬ k < 1000 := by rw [mnb_no (by omega)]; omega
end TAB
