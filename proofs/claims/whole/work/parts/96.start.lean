/-! ===== the law's start: the classes, the statics, the first states ===== -/
theorem kx_of {args : Array Value} {s : State} {C n : String} {xs : Nat → Int32} (hl : (Cond.laysStatic C n "[I").before args s = true) (hini : (Cond.initialized C).before args s = true) (hof : (Cond.arrayOf (.static C n "[I") .int).before args s = true) (hlen : (Cond.eq (.length (.static C n "[I")) (.int 6)).before args s = true) (hel : ∀ i : Nat, i < 6 → (Cond.eq (.elem (.static C n "[I") (.int (Int32.ofNat i))) (.int (xs i))).before args s = true) : ∃ k : Nat, gZ1 C n k xs (fun q : Nat => s.heap.size ≤ q) s s.heap := by
  have h1 : (Term.length (.static C n "[I")).eval args s none [] s = some (.int 6) := Cond.eq_int hlen rfl
  obtain ⟨b, cell, ht, harr, hv⟩ := Term.length_spec h1
  have hsz : cell.slots.size = 6 := by
    have h2 : cell.slots.size < 2147483648 := by
      simp only [Term.eval, Option.bind_eq_bind] at h1 ht
      rw [ht] at h1
      simp only [Option.bind_some, harr] at h1
      by_cases hlt : cell.slots.size < 2147483648
      · exact hlt
      · simp [hlt] at h1
    have h3 : nI 6 = nI cell.slots.size := by
      have := Value.int.inj hv
      exact this
    exact ((nI_eq (by omega) (by omega)).mp h3).symm
  obtain ⟨hcell, hkn, -, -⟩ := State.arrayAt?_spec harr
  have hofc := (Cond.arrayOf_spec hof ht hcell).1
  have hlt : b < s.heap.size := (Array.getElem?_eq_some_iff.mp hcell).1
  refine ⟨b, va_Zref hl hini ht (fun a h z => absurd z (Nat.not_le.mpr h)), ⟨cell, hcell, hofc, hkn, hsz, fun j hj => ?_⟩, hlt, Nat.not_le.mpr hlt⟩
  obtain ⟨a, j2, cell2, ha, hj2, harr2, _, hslot⟩ := Term.elem_spec (Cond.eq_int (hel j hj) rfl)
  have e1 : a = b := by
    have := ha.symm.trans ht
    cases this
    rfl
  subst e1
  have e2 : cell2 = cell := Option.some.inj (harr2.symm.trans harr)
  subst e2
  have e3 : j2 = Int32.ofNat j := by
    have := hj2.symm.trans (rfl : (Term.int (Int32.ofNat j)).eval args s none [] s = some (.int (Int32.ofNat j)))
    cases this
    rfl
  subst e3
  rw [show (Int32.ofNat j).toNatClampNeg = j from nI_clamp (by omega)] at hslot
  exact hslot
theorem isNw_on {w : Cond} (h : isNw w = true) : w.onTables = true := by
  cases w <;> first | rfl | exact absurd h (by simp [isNw])
theorem gOK_of {args : Array Value} {s : State} (hts : ∀ w ∈ lw_tbl, w.before args s = true) (hgv : (Jvm.Cond.and given_1 narrow_1).before args s = true) : ∃ G : gT, gOK G (fun q : Nat => s.heap.size ≤ q) s s.heap := by
  have hw : ∀ w ∈ WG, w.before args s = true := fun w hw => hts w (WG_tb w hw)
  obtain ⟨c0, i0, k0⟩ := u_known (C := RX0) (T := TX0) (N := 3) (n := 3) hw inwsX00 (hw _ mw302)
  obtain ⟨c1, i1, k1⟩ := u_known (C := RX1) (T := TX1) (N := 2) (n := 2) hw inwsX10 (hw _ mw309)
  obtain ⟨c2, i2, k2⟩ := u_known (C := RX2) (T := TX2) (N := 13) (n := 13) hw inwsX20 (hw _ mw151)
  obtain ⟨c3, i3, k3⟩ := u_known (C := RX3) (T := TX3) (N := 3) (n := 3) hw inwsX30 (hw _ mw306)
  obtain ⟨c4, i4, k4⟩ := u_known (C := RX4) (T := TX4) (N := 6) (n := 6) hw inwsX40 (hw _ mw361)
  obtain ⟨c5, i5, k5⟩ := u_known (C := RX5) (T := TX5) (N := 3) (n := 3) hw inwsX50 (hw _ mw291)
  obtain ⟨c6, i6, k6⟩ := u_known (C := RX6) (T := TX6) (N := 2) (n := 2) hw inwsX60 (hw _ mw294)
  obtain ⟨c7, i7, k7⟩ := u_known (C := RX7) (T := TX7) (N := 10) (n := 10) hw inwsX70 (hw _ mw841)
  obtain ⟨c8, i8, k8⟩ := u_known (C := RX8) (T := TX8) (N := 34) (n := 34) hw inwsX80 (hw _ mw843)
  obtain ⟨cI, kI, compI, f1, f2, f3⟩ := Cond.arrayClass_spec (type := .int) (hw _ mw4)
  have hover : va_AO "TableFirms$Board" s := va_AO.of (hts _ (by decide +kernel))
  obtain ⟨compB, cB, kB, b1, b2, b3, b4, b5⟩ := Cond.arrayOver_spec (va_AO.use (A := args) hover)
  have hq := flat_of_before _ hgv
  obtain ⟨z0, hz0⟩ := kx_of (C := "TableFirms") (n := "KIND_ABOVE") (xs := kx0) (args := args) (s := s) (hts _ (by decide +kernel)) (hts _ (by decide +kernel)) (hq _ (by decide +kernel)) (hq _ (by decide +kernel)) (fun i hi => by
    match i, hi with
    | 0, _ => exact hq _ (by decide +kernel)
    | 1, _ => exact hq _ (by decide +kernel)
    | 2, _ => exact hq _ (by decide +kernel)
    | 3, _ => exact hq _ (by decide +kernel)
    | 4, _ => exact hq _ (by decide +kernel)
    | 5, _ => exact hq _ (by decide +kernel)
    | i + 6, hi => omega)
  obtain ⟨z1, hz1⟩ := kx_of (C := "TableFirms$Asks") (n := "SIZE_BODIES") (xs := kx1) (args := args) (s := s) (hts _ (by decide +kernel)) (hts _ (by decide +kernel)) (hq _ (by decide +kernel)) (hq _ (by decide +kernel)) (fun i hi => by
    match i, hi with
    | 0, _ => exact hq _ (by decide +kernel)
    | 1, _ => exact hq _ (by decide +kernel)
    | 2, _ => exact hq _ (by decide +kernel)
    | 3, _ => exact hq _ (by decide +kernel)
    | 4, _ => exact hq _ (by decide +kernel)
    | 5, _ => exact hq _ (by decide +kernel)
    | i + 6, hi => omega)
  obtain ⟨z2, hz2⟩ := kx_of (C := "TableFirms$Asks") (n := "MARK_BODIES") (xs := kx2) (args := args) (s := s) (hts _ (by decide +kernel)) (hts _ (by decide +kernel)) (hq _ (by decide +kernel)) (hq _ (by decide +kernel)) (fun i hi => by
    match i, hi with
    | 0, _ => exact hq _ (by decide +kernel)
    | 1, _ => exact hq _ (by decide +kernel)
    | 2, _ => exact hq _ (by decide +kernel)
    | 3, _ => exact hq _ (by decide +kernel)
    | 4, _ => exact hq _ (by decide +kernel)
    | 5, _ => exact hq _ (by decide +kernel)
    | i + 6, hi => omega)
  refine ⟨((fun k => [c0, c1, c2, c3, c4, c5, c6, c7, c8].getD k c0, fun k => [i0, i1, i2, i3, i4, i5, i6, i7, i8].getD k i0), (cI, cB), (z0, z1, z2)), ⟨fun k q hk => ?_, fun k q hk => ?_⟩, ⟨fun w hw2 => va_Nw.of (isNw_on (List.all_eq_true.mp NW_is w hw2)) (hts w (NW_tb w hw2)), hover⟩, hz0, hz1, hz2⟩
  · match k, hk with
    | 0, hk => cases hk; exact k0
    | 1, hk => cases hk; exact k1
    | 2, hk => cases hk; exact k2
    | 3, hk => cases hk; exact k3
    | 4, hk => cases hk; exact k4
    | 5, hk => cases hk; exact k5
    | 6, hk => cases hk; exact k6
    | 7, hk => cases hk; exact k7
    | 8, hk => cases hk; exact k8
    | k + 9, hk => simp [vwCl] at hk
  · match k, hk with
    | 0, hk => cases hk; exact ⟨fun n z => ⟨fun k h => (by cases h), kI, f2, compI, f3⟩, f1⟩
    | 1, hk => cases hk; exact ⟨fun n z => ⟨fun k h => (by cases h), kB, b3, compB, b4⟩, kB, compB, b3, b4, b1, b5⟩
    | k + 2, hk => simp at hk
/-- the first states -/
def bd0 : BD := (0, 0, 0, 0, 0, 0, -1000000, (fun _ => 0), (fun _ => 0), (fun _ => 0), (fun _ => 0), (fun _ => 0), (fun _ => 0))
def ms0 : MS := (0, 0, 0, 0, 0, 0, 0, 0, 0, 0, 0, 0, 0, 0, 0, 0, 0, -1000000, 0, (fun _ => 0), (fun _ => 0), (upd (upd (upd (upd (upd (upd (upd (upd (fun _ => 0) ((0 : Int32)).toNatClampNeg (-1 : Int32)) ((1 : Int32)).toNatClampNeg (-1 : Int32)) ((2 : Int32)).toNatClampNeg (-1 : Int32)) ((3 : Int32)).toNatClampNeg (-1 : Int32)) ((4 : Int32)).toNatClampNeg (-1 : Int32)) ((5 : Int32)).toNatClampNeg (-1 : Int32)) ((6 : Int32)).toNatClampNeg (-1 : Int32)) ((7 : Int32)).toNatClampNeg (-1 : Int32)), (fun _ => 0), (fun _ => 0), (fun _ => 0), (fun _ => 0), (fun _ => 0), (fun _ => 0), (fun _ => 0), (fun _ => 0), (fun _ => 0), (fun _ => 0), (fun _ => 0), (fun _ => 0))
def rw0 : RW := (upd (upd (upd (upd (upd (upd (upd (upd (fun _ => 0) ((0 : Int32)).toNatClampNeg (-1 : Int32)) ((1 : Int32)).toNatClampNeg (-1 : Int32)) ((2 : Int32)).toNatClampNeg (-1 : Int32)) ((3 : Int32)).toNatClampNeg (-1 : Int32)) ((4 : Int32)).toNatClampNeg (-1 : Int32)) ((5 : Int32)).toNatClampNeg (-1 : Int32)) ((6 : Int32)).toNatClampNeg (-1 : Int32)) ((7 : Int32)).toNatClampNeg (-1 : Int32), (fun _ => 0), (fun _ => 0))
set_option maxRecDepth 20000 in
theorem rel_init : Rel ((0, 0) : TF) rw0 (0 : TP) (fun _ => 0) bd0 bd0 bd0 ((0, 0, fun _ => 0) : AC) ((0, fun _ => 0) : AS) ms0 := by
  refine ⟨⟨rfl, rfl⟩, ⟨fun k _ => rfl, fun r hr => Or.inl ⟨?_, ?_⟩⟩, ⟨0, by omega, nI_0.symm, nI_0.symm, fun k hk => absurd hk (by omega)⟩, ⟨0, by omega, nI_0.symm, nI_0.symm, fun k hk => absurd hk (by omega)⟩, ?_⟩
  · match r, hr with
    | 0, _ => exact (by decide +kernel : rw_lanes rw0 0 = -1)
    | 1, _ => exact (by decide +kernel : rw_lanes rw0 1 = -1)
    | 2, _ => exact (by decide +kernel : rw_lanes rw0 2 = -1)
    | 3, _ => exact (by decide +kernel : rw_lanes rw0 3 = -1)
    | 4, _ => exact (by decide +kernel : rw_lanes rw0 4 = -1)
    | 5, _ => exact (by decide +kernel : rw_lanes rw0 5 = -1)
    | 6, _ => exact (by decide +kernel : rw_lanes rw0 6 = -1)
    | 7, _ => exact (by decide +kernel : rw_lanes rw0 7 = -1)
    | r + 8, hr => omega
  · match r, hr with
    | 0, _ => exact (by decide +kernel : ms_sizes ms0 0 = -1)
    | 1, _ => exact (by decide +kernel : ms_sizes ms0 1 = -1)
    | 2, _ => exact (by decide +kernel : ms_sizes ms0 2 = -1)
    | 3, _ => exact (by decide +kernel : ms_sizes ms0 3 = -1)
    | 4, _ => exact (by decide +kernel : ms_sizes ms0 4 = -1)
    | 5, _ => exact (by decide +kernel : ms_sizes ms0 5 = -1)
    | 6, _ => exact (by decide +kernel : ms_sizes ms0 6 = -1)
    | 7, _ => exact (by decide +kernel : ms_sizes ms0 7 = -1)
    | r + 8, hr => omega
  · refine ⟨0, 0, 0, fun _ => 0, fun _ => 0, fun _ => 0, 0, 0, 0, 0, Or.inl ⟨rfl, rfl, rfl, rfl, rfl, rfl, rfl, rfl⟩, ⟨nI_0.symm, nI_0.symm, nI_0.symm, fun i hi => absurd hi (by omega), fun f a _ _ => nI_0.symm, fun f _ => ⟨nI_0.symm, nI_0.symm⟩⟩, ⟨nI_0.symm, nI_0.symm, nI_0.symm, fun i hi => absurd hi (by omega)⟩, ⟨0, 0, by omega, by omega, nI_0.symm, nI_0.symm, nI_0.symm, fun j hj => absurd hj (by omega)⟩, rfl, 0, 0, nI_0.symm, Or.inl ⟨rfl, rfl⟩, Or.inl ⟨rfl, rfl⟩⟩
