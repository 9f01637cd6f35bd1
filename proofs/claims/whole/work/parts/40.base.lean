/-! ===== numbers, and loops of mirrors ===== -/
theorem li (n : Nat) : (OfNat.ofNat n : Int32) = nI n := rfl
theorem inb_nI {k n : Nat} (h : k < n) (hn : n < 2 ^ 31) : inb (nI k) n = true := by
  have h1 : ¬ nI k < 0 := nI_pos (by omega)
  have h2 : (nI k).toNatClampNeg = k := nI_clamp (by omega)
  simp only [inb, h1, h2, not_false_eq_true, decide_true, h, Bool.and_self]
theorem inb_iff {x : Int32} {n : Nat} : inb x n = true ↔ ¬ x < 0 ∧ x.toNatClampNeg < n := by
  simp only [inb, Bool.and_eq_true, decide_eq_true_eq]
/-- a loop told by its states: so many rounds, then out -/
theorem lp_run {σ β : Type} {F : (σ → Option β) → σ → Option β} (I : Nat → σ) (n : Nat) (b : Option β) (hs : ∀ k rec, k < n → F rec (I k) = rec (I (k + 1))) (hx : ∀ rec, F rec (I n) = b) : ∀ {N : Nat}, n < N → lp F N (I 0) = b := by
  have key : ∀ (m k N : Nat), k + m = n → m < N → lp F N (I k) = b := by
    intro m
    induction m with
    | zero =>
      intro k N hk hN
      cases N with
      | zero => omega
      | succ N =>
        have e : k = n := by omega
        subst e
        exact hx _
    | succ m ih =>
      intro k N hk hN
      cases N with
      | zero => omega
      | succ N =>
        show F (lp F N) (I k) = b
        rw [hs k _ (by omega)]
        exact ih (k + 1) N (by omega) (by omega)
  intro N hN
  exact key n 0 N (by omega) hN
theorem lp_at {σ β : Type} {F : (σ → Option β) → σ → Option β} {s0 : σ} (I : Nat → σ) (n : Nat) (b : Option β) (h0 : s0 = I 0) (hs : ∀ k rec, k < n → F rec (I k) = rec (I (k + 1))) (hx : ∀ rec, F rec (I n) = b) {N : Nat} (hN : n < N) : lp F N s0 = b := by
  rw [h0]
  exact lp_run I n b hs hx hN
theorem upd_at {f : Nat → Int32} {k : Nat} {x : Int32} : upd f k x k = x := pk_us
theorem upd_ne {f : Nat → Int32} {k j : Nat} {x : Int32} (h : j ≠ k) : upd f k x j = f j := pk_un h
theorem cl {n : Nat} (h : n < 2 ^ 31) : (nI n).toNatClampNeg = n := nI_clamp h
theorem lg_lt {x y : Int64} : lg_cmp x y < 0 ↔ x < y := by
  unfold lg_cmp
  by_cases h1 : y < x
  · rw [if_pos h1]
    exact ⟨fun h => absurd h (by decide), fun h => absurd h (by rw [Int64.lt_iff_toInt_lt] at *; omega)⟩
  · rw [if_neg h1]
    by_cases h2 : x = y
    · rw [if_pos h2]
      subst h2
      exact ⟨fun h => absurd h (by decide), fun h => absurd h h1⟩
    · rw [if_neg h2]
      refine ⟨fun _ => ?_, fun _ => by decide⟩
      have h3 : ¬ x.toInt = y.toInt := fun e => h2 (Int64.toInt_inj.mp e)
      rw [Int64.lt_iff_toInt_lt] at *
      omega
theorem lg_gt {x y : Int64} : 0 < lg_cmp x y ↔ y < x := by
  unfold lg_cmp
  by_cases h1 : y < x
  · rw [if_pos h1]
    exact ⟨fun _ => h1, fun _ => by decide⟩
  · rw [if_neg h1]
    by_cases h2 : x = y
    · rw [if_pos h2]
      exact ⟨fun h => absurd h (by decide), fun h => absurd h h1⟩
    · rw [if_neg h2]
      exact ⟨fun h => absurd h (by decide), fun h => absurd h h1⟩
/-- whether a number is within: 1 or 0 -/
def b01 (c : Prop) [Decidable c] : Int32 := if c then 1 else 0
theorem b01_t {c : Prop} [Decidable c] (h : c) : b01 c = 1 := if_pos h
theorem b01_f {c : Prop} [Decidable c] (h : ¬ c) : b01 c = 0 := if_neg h
theorem b01_0 {c : Prop} [Decidable c] : b01 c = 0 ↔ ¬ c := by
  by_cases h : c
  · rw [b01_t h]; exact ⟨fun z => absurd z (by decide), fun z => absurd h z⟩
  · rw [b01_f h]; exact ⟨fun _ => h, fun _ => rfl⟩
theorem b01_or {c : Prop} [Decidable c] : b01 c = 0 ∨ b01 c = 1 := by
  by_cases h : c
  · exact Or.inr (b01_t h)
  · exact Or.inl (b01_f h)
theorem i32_le {x y : Int32} : ¬ x < y ↔ y ≤ x := Int32.not_lt
theorem sp_within (x a b : Int32) : M_X7_within x a b = some (b01 (a ≤ x ∧ x ≤ b)) := by
  unfold M_X7_within
  by_cases h1 : x < a
  · rw [if_pos h1, b01_f (fun h => absurd h1 (Int32.not_lt.mpr h.1))]
  · rw [if_neg h1]
    by_cases h2 : b < x
    · rw [if_pos h2, b01_f (fun h => absurd h2 (Int32.not_lt.mpr h.2))]
    · rw [if_neg h2, b01_t ⟨Int32.not_lt.mp h1, Int32.not_lt.mp h2⟩]
theorem sp_in (x a b : Int32) : M_X8_in x.toInt64 a.toInt64 b.toInt64 = some (b01 (a ≤ x ∧ x ≤ b)) := by
  unfold M_X8_in
  simp only [lg_lt, lg_gt, Int32.toInt64_lt]
  by_cases h1 : x < a
  · rw [if_pos h1, b01_f (fun h => absurd h1 (Int32.not_lt.mpr h.1))]
  · rw [if_neg h1]
    by_cases h2 : b < x
    · rw [if_pos h2, b01_f (fun h => absurd h2 (Int32.not_lt.mpr h.2))]
    · rw [if_neg h2, b01_t ⟨Int32.not_lt.mp h1, Int32.not_lt.mp h2⟩]
theorem g01 {c : Prop} [Decidable c] {α : Type} {a b : α} : (if (b01 c = 0 ∨ b01 c = 1) then a else b) = a := if_pos b01_or
theorem sp_isRow7 (x : Int32) : M_X7_isRow x = some (b01 (0 ≤ x ∧ x ≤ 7)) := by
  unfold M_X7_isRow
  rw [sp_within]
  exact g01
theorem sp_isRow8 (x : Int32) : M_X8_isRow x = some (b01 (0 ≤ x ∧ x ≤ 7)) := by
  unfold M_X8_isRow
  rw [show (0 : Int64) = (0 : Int32).toInt64 from rfl, show (7 : Int64) = (7 : Int32).toInt64 from rfl, sp_in]
  exact g01
theorem sp_isThrow7 (x : Int32) : M_X7_isThrow x = some (b01 (1 ≤ x ∧ x ≤ 6)) := by
  unfold M_X7_isThrow
  rw [sp_within]
  exact g01
theorem sp_isThrow8 (x : Int32) : M_X8_isThrow x = some (b01 (1 ≤ x ∧ x ≤ 6)) := by
  unfold M_X8_isThrow
  rw [show (1 : Int64) = (1 : Int32).toInt64 from rfl, show (6 : Int64) = (6 : Int32).toInt64 from rfl, sp_in]
  exact g01
theorem sp_isFirm7 (x : Int32) : M_X7_isFirm x = some (b01 (0 ≤ x ∧ x ≤ 1)) := by
  unfold M_X7_isFirm
  rw [sp_within]
  exact g01
theorem sp_isFirm8 (x : Int32) : M_X8_isFirm x = some (b01 (0 ≤ x ∧ x ≤ 1)) := by
  unfold M_X8_isFirm
  rw [show (0 : Int64) = (0 : Int32).toInt64 from rfl, show (1 : Int64) = (1 : Int32).toInt64 from rfl, sp_in]
  exact g01
theorem sp_isChoice7 (x : Int32) : M_X7_isChoice x = some (b01 (0 ≤ x ∧ x ≤ 1)) := by
  unfold M_X7_isChoice
  rw [sp_within]
  exact g01
/-- a number within small bounds is a natural one -/
theorem nat_of {x M : Int32} {m : Nat} (hM : M = nI m) (hm : m < 2 ^ 31) (h : 0 ≤ x ∧ x ≤ M) : ∃ k : Nat, k ≤ m ∧ x = nI k := by
  subst hM
  exact nI_of2 (nI_toInt hm) (Int32.not_lt.mpr h.1) h.2
/-- fill -/
theorem sp_fill (n : Nat) (hn : n < 1000) (f : IA) (v : Int32) : M_J7_fill_53178 n f v = some (fun k => if k < n then v else f k) := by
  unfold M_J7_fill_53178
  refine lp_at (fun k => (nI k, fun j => if j < k then v else f j)) n _ ?_ ?_ ?_ (by omega)
  · refine Prod.ext rfl ?_
    funext j
    show f j = if j < 0 then v else f j
    rw [if_neg (Nat.not_lt_zero j)]
  · intro k rec hk
    have h1 : ¬ Int32.ofNat n ≤ nI k := nI_ge hk (by omega)
    have h2 : inb (nI k) n = true := inb_nI hk (by omega)
    simp only [h1, h2, if_true, if_false]
    rw [cl (by omega)]
    refine congrArg rec (Prod.ext (nI_1 k) ?_)
    funext j
    show upd (fun j => if j < k then v else f j) k v j = if j < k + 1 then v else f j
    by_cases hj : j = k
    · subst hj
      rw [upd_at, if_pos (by omega)]
    · rw [upd_ne hj]
      by_cases hlt : j < k
      · rw [if_pos hlt, if_pos (by omega)]
      · rw [if_neg hlt, if_neg (by omega)]
  · intro rec
    have h1 : Int32.ofNat n ≤ nI n := nI_le (Nat.le_refl n) (by omega)
    simp only [h1, if_true]
