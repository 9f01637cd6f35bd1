/-! ===== what the class's state and the reference's have in common ===== -/
/-- the rows -/
def RelRow (rw : RW) (S : MS) : Prop := (∀ k, k < 320 → rw_items rw k = ms_items S k) ∧ ∀ r, r < 8 → (rw_lanes rw r = -1 ∧ ms_sizes S r = -1) ∨ ∃ ln n : Nat, ln < 3 ∧ n ≤ 40 ∧ rw_lanes rw r = nI ln ∧ ms_lanes S r = nI ln ∧ rw_sizes rw r = nI n ∧ ms_sizes S r = nI n
def RelTF (tf : TF) (S : MS) : Prop := tf_latestFault tf = ms_fault S ∧ tf_latestFinding tf = ms_status S
def RelTape (tp : TP) (bs : IA) (S : MS) : Prop := ∃ n : Nat, n ≤ 90 ∧ tp = nI n ∧ ms_length S = nI n ∧ ∀ k, k < n → bs k = ms_tape S k ∧ ∃ z : Nat, z < 256 ∧ bs k = nI z
def RelAsk (as : AS) (S : MS) : Prop := ∃ n : Nat, n ≤ 16 ∧ as_left as = nI n ∧ ms_traced S = nI n ∧ ∀ k, k < n → as_numbers as k = ms_trace S k
/-- how far one has to go -/
def pipA (pts f p : Nat) : Nat := if p = pts + 1 then 0 else if p = pts then pts + 1 else if f = 0 then pts - p else p + 1
def cntA (n : Nat) (fm ps : Nat → Nat) (f a : Nat) : Nat := fb_ct (fun i => fm i == f && ps i == a) n
def pipS (pts n : Nat) (fm ps : Nat → Nat) (f : Nat) : Nat := fb_sm (fun i => if fm i = f then pipA pts f (ps i) else 0) n
def outS (pts hm n : Nat) (fm ps : Nat → Nat) (f : Nat) : Nat := fb_ct (fun i => fm i == f && decide (hm < pipA pts f (ps i))) n
/-- a board of the class that holds so many men, of these firms and kinds, at these places -/
def EC (pts hm n : Nat) (fm kd ps : Nat → Nat) (L : BD) : Prop :=
  bd_points L = nI pts ∧ bd_home L = nI hm ∧ bd_men L = nI n ∧ (∀ i, i < n → bd_firms L i = nI (fm i) ∧ bd_kindsTold L i = nI (kd i) ∧ bd_places L i = nI (ps i)) ∧
  (∀ f a, f < 2 → a < 14 → bd_crowds L (f * 14 + a) = nI (cntA n fm ps f a)) ∧ ∀ f, f < 2 → bd_pipsLeft L f = nI (pipS pts n fm ps f) ∧ bd_notHome L f = nI (outS pts hm n fm ps f)
/-- what may be: 4 to 12 points, 1 to 4 of home, 8 men at most .. -/
def OKb (pts hm n : Nat) (fm kd ps : Nat → Nat) : Prop := 4 ≤ pts ∧ pts ≤ 12 ∧ 1 ≤ hm ∧ hm ≤ 4 ∧ n ≤ 8 ∧ ∀ i, i < n → fm i < 2 ∧ 1 ≤ kd i ∧ kd i ≤ 5 ∧ ps i ≤ pts + 1
/-- a place as the reference writes it -/
def trc (pts p : Nat) : Nat := if p = pts + 1 then 99 else p
/-- the reference's board -/
def EMb (pts hm n : Nat) (fm kd ps : Nat → Nat) (S : MS) : Prop := ms_points S = nI pts ∧ ms_home S = nI hm ∧ ms_men S = nI n ∧ ∀ i, i < n → ms_firms S i = nI (fm i) ∧ ms_kinds S i = nI (kd i) ∧ ms_now S i = nI (trc pts (ps i))
def OKt (thr trn cub : Nat) (ow : Int32) : Prop := thr < 2 ∧ trn ≤ 999 ∧ (∃ j : Nat, j ≤ 6 ∧ cub = 2 ^ j) ∧ (ow = -1000000 ∨ ow = 0 ∨ ow = 1)
/-- whose turn it is, which, the cube and its owner, on a board of the class -/
def ECt (thr trn cub : Nat) (ow : Int32) (L : BD) : Prop := bd_turn L = nI trn ∧ bd_thrower L = nI thr ∧ bd_cube L = nI cub ∧ bd_owner L = ow
/-- the same in a row of the reference's -/
def EMt (thr trn cub : Nat) (ow : Int32) (f : Nat → Int32) : Prop := f 11 = nI trn ∧ f 8 = nI thr ∧ f 9 = nI cub ∧ f 10 = ow
/-- the acts that can be undone: the class's ring, the reference's row -/
def RelAct (pts n : Nat) (ac : AC) (S : MS) : Prop := ∃ K N : Nat, K ≤ 24 ∧ N < 24 ∧ ac_kept ac = nI K ∧ ac_next ac = nI N ∧ ms_acts S = nI K ∧ ∀ j, j < K →
  ∃ (ps : Nat → Nat) (thr trn cub : Nat) (ow : Int32), OKt thr trn cub ow ∧ (∀ i, i < n → ps i ≤ pts + 1 ∧ ac_before ac ((N + 23 - j) % 24 * 12 + i) = nI (ps i) ∧ ms_before S (12 * (K - 1 - j) + i) = nI (trc pts (ps i))) ∧
    ac_before ac ((N + 23 - j) % 24 * 12 + 8) = nI trn ∧ ac_before ac ((N + 23 - j) % 24 * 12 + 9) = nI thr ∧ ac_before ac ((N + 23 - j) % 24 * 12 + 10) = nI cub ∧ ac_before ac ((N + 23 - j) % 24 * 12 + 11) = ow ∧ EMt thr trn cub ow (fun c => ms_before S (12 * (K - 1 - j) + c))
/-- an image: none, or a board and the row that tells it -/
def RelImg (k : Nat) (L : BD) (S : MS) (im : Nat) : Prop := (im = 0 ∧ bd_men L = 0) ∨ (im = 1 ∧ ∃ (pts hm n : Nat) (fm kd ps : Nat → Nat) (thr trn cub : Nat) (ow : Int32), 0 < n ∧ OKb pts hm n fm kd ps ∧ OKt thr trn cub ow ∧ EC pts hm n fm kd ps L ∧ ECt thr trn cub ow L ∧
  (∀ i, i < n → ms_images S (32 * k + i) = nI (10 * kd i + fm i) ∧ ms_images S (32 * k + 8 + i) = nI (trc pts (ps i))) ∧ EMt thr trn cub ow (fun c => ms_images S (32 * k + 8 + c)) ∧ ms_images S (32 * k + 20) = nI pts ∧ ms_images S (32 * k + 21) = nI hm ∧ ms_images S (32 * k + 22) = nI n)
/-- the table (n = 0: none), images and acts -/
def RelB (L : BD) (i0 i1 : BD) (ac : AC) (S : MS) : Prop := ∃ (pts hm n : Nat) (fm kd ps : Nat → Nat) (thr trn cub : Nat) (ow : Int32),
  ((n = 0 ∧ pts = 0 ∧ trn = 0 ∧ bd_turn L = 0 ∧ ms_now S 11 = 0 ∧ ms_hasTable S = 0 ∧ ac_kept ac = 0 ∧ ms_imaged S = 0) ∨ (0 < n ∧ OKb pts hm n fm kd ps ∧ OKt thr trn cub ow ∧ ECt thr trn cub ow L ∧ EMt thr trn cub ow (ms_now S) ∧ ms_hasTable S = 1)) ∧
  EC pts hm n fm kd ps L ∧ EMb pts hm n fm kd ps S ∧ RelAct pts n ac S ∧ ms_otherOne S = -1000000 ∧ ∃ m0 m1 : Nat, ms_imaged S = nI (m0 + 2 * m1) ∧ RelImg 0 i0 S m0 ∧ RelImg 1 i1 S m1
/-- all of it -/
def Rel (tf : TF) (rw : RW) (tp : TP) (bs : IA) (L i0 i1 : BD) (ac : AC) (as : AS) (S : MS) : Prop := RelTF tf S ∧ RelRow rw S ∧ RelTape tp bs S ∧ RelAsk as S ∧ RelB L i0 i1 ac S
