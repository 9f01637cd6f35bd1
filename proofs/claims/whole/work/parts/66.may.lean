/-! ===== may ===== -/
theorem s8_mayLoop {pts hm n : Nat} {fm kd ps : Nat → Nat} {S : MS} (hS : ES pts hm n fm kd S) (hE : ER pts n ps 0 S) (ok : OKb pts hm n fm kd ps) {f d : Nat} (hf : f < 2) (hd1 : 1 ≤ d) (hd : d ≤ 6) (hthr : ms_now S 8 = nI f) :
    lp (σ := Int32 × Int32) (β := Int32) (fun rec5 st5 => (if (ms_men S) ≤ st5.2 then (some st5.1) else (if inb st5.2 8 = true then (if ((ms_firms S) (st5.2).toNatClampNeg) = ((ms_now S) ((8 : Int32)).toNatClampNeg) then ((M_X8_can S (0 : Int32) st5.2 (nI d)).bind (fun u9 => (if u9 = 0 then (rec5 ((st5.1 ||| (0 : Int32)), (st5.2 + (1 : Int32)))) else (rec5 ((st5.1 ||| ((1 : Int32) <<< (st5.2 &&& 31))), (st5.2 + (1 : Int32))))))) else (rec5 ((st5.1 ||| (0 : Int32)), (st5.2 + (1 : Int32))))) else none))) 1000000 ((0 : Int32), (0 : Int32)) = some (mskA pts hm n fm kd ps f d n) := by
  have hn : n ≤ 8 := ok.2.2.2.2.1
  have hS0 := hS
  obtain ⟨e1, e2, e3, e4⟩ := hS
  refine lp_at (fun k => (mskA pts hm n fm kd ps f d k, nI k)) n _ rfl ?_ ?_ (by omega)
  · intro k rec hk
    obtain ⟨f1, f2⟩ := e4 k hk
    have o1 := (ok.2.2.2.2.2 k hk).1
    have h1 : ¬ nI n ≤ nI k := nI_ge hk (by omega)
    have e : mskA pts hm n fm kd ps f d (k + 1) = (if fm k = f ∧ canA pts hm n fm kd ps k d = true then mskA pts hm n fm kd ps f d k ||| ((1 : Int32) <<< (nI k &&& 31)) else mskA pts hm n fm kd ps f d k) := rfl
    have h8 : ((8 : Int32)).toNatClampNeg = 8 := rfl
    have hc := s8_can hS0 hE (show 0 < 4 by omega) ok hk hd1 hd
    simp only [e3, h1, if_false, h8, hthr]
    rw [inb_nI (show k < 8 by omega) (by omega), cl (show k < 2 ^ 31 by omega), f1, show M_X8_can S (0 : Int32) (nI k) (nI d) = _ from hc]
    simp only [ob, if_true, eqI (show fm k < 2 ^ 31 by omega) (show f < 2 ^ 31 by omega), nI_p1, b01_no, Int32.or_zero]
    by_cases c1 : fm k = f
    · rw [if_pos c1]
      by_cases c2 : canA pts hm n fm kd ps k d = true
      · rw [if_neg (fun z => z c2), e, if_pos ⟨c1, c2⟩]
      · rw [if_pos c2, e, if_neg (fun z => c2 z.2)]
    · rw [if_neg c1, e, if_neg (fun z => c1 z.1)]
  · intro rec
    have h1 : nI n ≤ nI n := nI_le (Nat.le_refl n) (by omega)
    simp only [e3, h1, if_true]
