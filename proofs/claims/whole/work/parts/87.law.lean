/-! ===== the law: what holds at its start ===== -/
def nwC : Cond := Jvm.Cond.and given_1 narrow_1
def nwT (i : Nat) : Term := .string "CapStacks$Text" (zWn i)
def nwN : Term := .static "CapStacks" "NUMBERS_OF" "[I"
theorem nw_ex : ∀ i : Fin 7, Cond.exactly (nwT i.1) "java/lang/String" ∈ flatC nwC := by decide +kernel
theorem nw_co : ∀ i : Fin 7, Cond.eq (.field (nwT i.1) "java/lang/String" "coder" "B") (.int 0) ∈ flatC nwC := by decide +kernel
theorem nw_ar : ∀ i : Fin 7, Cond.arrayOf (.field (nwT i.1) "java/lang/String" "value" "[B") .byte ∈ flatC nwC := by decide +kernel
theorem nw_le : ∀ i : Fin 7, Cond.eq (.length (.field (nwT i.1) "java/lang/String" "value" "[B")) (.int (Int32.ofNat (zLen.getD i.1 0))) ∈ flatC nwC := by decide +kernel
theorem nw_el : ∀ i : Fin 7, ∀ j : Fin 5, j.1 < zLen.getD i.1 0 → Cond.eq (.elem (.field (nwT i.1) "java/lang/String" "value" "[B") (.int (Int32.ofNat j.1))) (.int ((zByt.getD i.1 []).getD j.1 0)) ∈ flatC nwC := by decide +kernel
theorem nw_ne : ∀ i : Fin 7, ∀ j : Fin 7, i.1 ≠ j.1 → Cond.not (Cond.eq (nwT i.1) (nwT j.1)) ∈ flatC nwC ∨ Cond.not (Cond.eq (nwT j.1) (nwT i.1)) ∈ flatC nwC := by decide +kernel
theorem nw_na : Cond.arrayOf nwN .int ∈ flatC nwC := by decide +kernel
theorem nw_nl : Cond.eq (.length nwN) (.int 7) ∈ flatC nwC := by decide +kernel
theorem nw_nu : ∀ j : Fin 7, Cond.eq (.elem nwN (.int (Int32.ofNat j.1))) (.int (zNum j.1)) ∈ flatC nwC := by decide +kernel
theorem nw_cs : Cond.eq (.static "java/lang/String" "COMPACT_STRINGS" "Z") (.int 1) ∈ flatC nwC := by decide +kernel
theorem nw_si : Cond.isRef (.static "jdk/internal/util/Preconditions" "SIOOBE_FORMATTER" "Ljava/util/function/BiFunction;") ∈ flatC nwC := by decide +kernel
theorem nt_sr : ∀ i : Fin 7, Cond.stringRef RX8 (zWn i.1) (zWt i.1) ∈ tables_1 := by decide +kernel
theorem nt_nest : ∀ q ∈ zNest, Cond.methodLinkNest q.1 q.2.1 q.2.2.1 q.2.2.2 ∈ tables_1 := by decide +kernel
theorem nt_ao : Cond.arrayOver (.object "CapStacks$Company") ∈ tables_1 := by decide +kernel
theorem nt_fn : Cond.fieldLinkNest RX8 38 "CapStacks" "NUMBERS_OF" "[I" "CapStacks" ∈ tables_1 := by decide +kernel
theorem nt_l1 : Cond.laysStatic "java/lang/String" "COMPACT_STRINGS" "Z" ∈ tables_1 := by decide +kernel
theorem nt_l2 : Cond.laysStatic "jdk/internal/util/Preconditions" "SIOOBE_FORMATTER" "Ljava/util/function/BiFunction;" ∈ tables_1 := by decide +kernel
theorem nt_l3 : Cond.laysStatic "CapStacks" "NUMBERS_OF" "[I" ∈ tables_1 := by decide +kernel
theorem nt_i1 : Cond.initialized "java/lang/String" ∈ tables_1 := by decide +kernel
theorem nt_i2 : Cond.initialized "jdk/internal/util/Preconditions" ∈ tables_1 := by decide +kernel
theorem nt_i3 : Cond.initialized "CapStacks" ∈ tables_1 := by decide +kernel
theorem nt_aI : Cond.arrayClass .int ∈ tables_1 := by decide +kernel
theorem nt_aJ : Cond.arrayClass .long ∈ tables_1 := by decide +kernel
theorem nt_aC : Cond.arrayClass .char ∈ tables_1 := by decide +kernel
theorem nt_u0 : ∀ w ∈ u_ws RX0 TX0 4, w ∈ tables_1 := by decide +kernel
theorem nt_n0 : Cond.instantiable RX0 4 ∈ tables_1 := by decide +kernel
theorem nt_u1 : ∀ w ∈ u_ws RX1 TX1 6, w ∈ tables_1 := by decide +kernel
theorem nt_n1 : Cond.instantiable RX1 6 ∈ tables_1 := by decide +kernel
theorem nt_u2 : ∀ w ∈ u_ws RX2 TX2 11, w ∈ tables_1 := by decide +kernel
theorem nt_n2 : Cond.instantiable RX2 11 ∈ tables_1 := by decide +kernel
theorem nt_u3 : ∀ w ∈ u_ws RX3 TX3 8, w ∈ tables_1 := by decide +kernel
theorem nt_n3 : Cond.instantiable RX3 8 ∈ tables_1 := by decide +kernel
theorem nt_u4 : ∀ w ∈ u_ws RX4 TX4 8, w ∈ tables_1 := by decide +kernel
theorem nt_n4 : Cond.instantiable RX4 8 ∈ tables_1 := by decide +kernel
theorem nt_u5 : ∀ w ∈ u_ws RX5 TX5 2, w ∈ tables_1 := by decide +kernel
theorem nt_n5 : Cond.instantiable RX5 2 ∈ tables_1 := by decide +kernel
theorem nt_u6 : ∀ w ∈ u_ws RX6 TX6 4, w ∈ tables_1 := by decide +kernel
theorem nt_n6 : Cond.instantiable RX6 4 ∈ tables_1 := by decide +kernel
theorem nt_u7 : ∀ w ∈ u_ws RX7 TX7 6, w ∈ tables_1 := by decide +kernel
theorem nt_n7 : Cond.instantiable RX7 6 ∈ tables_1 := by decide +kernel
theorem nt_u8 : ∀ w ∈ u_ws RX8 TX8 4, w ∈ tables_1 := by decide +kernel
theorem nt_n8 : Cond.instantiable RX8 4 ∈ tables_1 := by decide +kernel
theorem nt_u9 : ∀ w ∈ u_ws RX9 TX9 6, w ∈ tables_1 := by decide +kernel
theorem nt_n9 : Cond.instantiable RX9 6 ∈ tables_1 := by decide +kernel
theorem nt_u10 : ∀ w ∈ u_ws RX10 TX10 15, w ∈ tables_1 := by decide +kernel
theorem nt_n10 : Cond.instantiable RX10 15 ∈ tables_1 := by decide +kernel
/-- the words and the numbers that nobody writes -/
theorem nw_G {s : State} {b : Nat} (hts : ∀ w ∈ tables_1, w.before #[Value.ref b] s = true) (hgv : nwC.before #[Value.ref b] s = true) : ∃ gs : zGs, zG gs (fun q : Nat => s.heap.size ≤ q) s s.heap := by
  have hs := flat_of_before _ hgv
  have hA : ∀ a : Nat, a < s.heap.size → ¬ (fun q : Nat => s.heap.size ≤ q) a := fun a h => Nat.not_le.mpr h
  have l7 : ∀ i, i < 7 → zLen.getD i 0 ≤ 5 := fun i hi => (zlen_0 ⟨i, hi⟩).2
  obtain ⟨adK, adV, hS, hev⟩ := vk_Sof (args := #[Value.ref b]) (s := s) (N := 7) (tm := nwT) (len := zLen) (byt := zByt) (A := fun q : Nat => s.heap.size ≤ q) (fun i hi => by have := l7 i hi; omega) (fun i hi => hs _ (nw_ex ⟨i, hi⟩)) (fun i hi => hs _ (nw_co ⟨i, hi⟩)) (fun i hi => hs _ (nw_ar ⟨i, hi⟩)) (fun i hi => hs _ (nw_le ⟨i, hi⟩)) (fun i hi j hj => hs _ (nw_el ⟨i, hi⟩ ⟨j, by have := l7 i hi; omega⟩ hj)) (fun i j hi hj hij => (nw_ne ⟨i, hi⟩ ⟨j, hj⟩ hij).elim (fun h => Or.inl (hs _ h)) (fun h => Or.inr (hs _ h))) hA
  obtain ⟨t, ht, hT⟩ := va_Tof (args := #[Value.ref b]) (s := s) (tm := nwN) (ty := .int) (N := 7) (f := fun j => .int (zNum j)) (A := fun q : Nat => s.heap.size ≤ q) (by omega) (hs _ nw_na) (va_eqt (hs _ nw_nl)) (fun j hj => va_eqt (hs _ (nw_nu ⟨j, hj⟩))) hA
  have hZ := va_Zqof (A := fun q : Nat => s.heap.size ≤ q) (hts _ nt_l2) (hts _ nt_i2) (hs _ nw_si) hA
  obtain ⟨vz, hvz, hZ2⟩ : ∃ vz : Value, (vz = .null ∨ ∃ t, vz = .ref t) ∧ va_Z "jdk/internal/util/Preconditions" "SIOOBE_FORMATTER" "Ljava/util/function/BiFunction;" vz (fun q : Nat => s.heap.size ≤ q) s s.heap := by
    rcases hZ with h | ⟨t, h⟩
    · exact ⟨.null, Or.inl rfl, h⟩
    · exact ⟨.ref t, Or.inr ⟨t, rfl⟩, h⟩
  exact ⟨(adK, adV, t, vz), fun i hi => vk_R.of (hts _ (nt_sr ⟨i, hi⟩)) (hev i hi), hS, va_Zof (hts _ nt_l1) (hts _ nt_i1) (va_eqt (hs _ nw_cs)) hA, hZ2, hvz, va_Zof (hts _ nt_l3) (hts _ nt_i3) ht hA, hT, va_Nw.of rfl (hts _ nt_fn)⟩
theorem nw_A {s : State} {b : Nat} {ty : FieldType} (h : (Cond.arrayClass ty).before #[Value.ref b] s = true) : ∃ c, ArrOfT s c ty ∧ s.vm.findClass ("[" ++ ty.toString) = some c := by
  obtain ⟨c, k, comp, h1, h2, h3⟩ := Cond.arrayClass_spec h
  exact ⟨c, fun n z => ⟨fun k h => (by cases h), k, h2, comp, h3⟩, h1⟩
/-- the classes and the rows that there are -/
theorem nw_K {s : State} {b : Nat} (hts : ∀ w ∈ tables_1, w.before #[Value.ref b] s = true) : ∃ (D : va_G) (tt : Nat → ClassId), zK D tt s := by
  obtain ⟨c0, i0, k0⟩ := u_known (C := RX0) (T := TX0) (N := 4) (n := 4) hts nt_u0 (hts _ nt_n0)
  obtain ⟨c1, i1, k1⟩ := u_known (C := RX1) (T := TX1) (N := 6) (n := 6) hts nt_u1 (hts _ nt_n1)
  obtain ⟨c2, i2, k2⟩ := u_known (C := RX2) (T := TX2) (N := 11) (n := 11) hts nt_u2 (hts _ nt_n2)
  obtain ⟨c3, i3, k3⟩ := u_known (C := RX3) (T := TX3) (N := 8) (n := 8) hts nt_u3 (hts _ nt_n3)
  obtain ⟨c4, i4, k4⟩ := u_known (C := RX4) (T := TX4) (N := 8) (n := 8) hts nt_u4 (hts _ nt_n4)
  obtain ⟨c5, i5, k5⟩ := u_known (C := RX5) (T := TX5) (N := 2) (n := 2) hts nt_u5 (hts _ nt_n5)
  obtain ⟨c6, i6, k6⟩ := u_known (C := RX6) (T := TX6) (N := 4) (n := 4) hts nt_u6 (hts _ nt_n6)
  obtain ⟨c7, i7, k7⟩ := u_known (C := RX7) (T := TX7) (N := 6) (n := 6) hts nt_u7 (hts _ nt_n7)
  obtain ⟨c8, i8, k8⟩ := u_known (C := RX8) (T := TX8) (N := 4) (n := 4) hts nt_u8 (hts _ nt_n8)
  obtain ⟨c9, i9, k9⟩ := u_known (C := RX9) (T := TX9) (N := 6) (n := 6) hts nt_u9 (hts _ nt_n9)
  obtain ⟨c10, i10, k10⟩ := u_known (C := RX10) (T := TX10) (N := 15) (n := 15) hts nt_u10 (hts _ nt_n10)
  obtain ⟨t0, a0, b0⟩ := nw_A (hts _ nt_aI)
  obtain ⟨t1, a1, b1⟩ := nw_A (hts _ nt_aJ)
  obtain ⟨t2, a2, b2⟩ := nw_A (hts _ nt_aC)
  obtain ⟨comp, t3, kA, g1, -, g2, g3, g4⟩ := Cond.arrayOver_spec (hts _ nt_ao)
  refine ⟨(fun k => match k with | 0 => c0 | 1 => c1 | 2 => c2 | 3 => c3 | 4 => c4 | 5 => c5 | 6 => c6 | 7 => c7 | 8 => c8 | 9 => c9 | _ => c10, fun k => match k with | 0 => i0 | 1 => i1 | 2 => i2 | 3 => i3 | 4 => i4 | 5 => i5 | 6 => i6 | 7 => i7 | 8 => i8 | 9 => i9 | _ => i10), fun k => match k with | 0 => t0 | 1 => t1 | 2 => t2 | _ => t3, ⟨?_, ?_⟩, fun q hq => va_Nw.of rfl (hts _ (nt_nest q hq)), va_AO.of (hts _ nt_ao)⟩
  · intro k q hq
    match k, hq with
    | 0, hq => cases hq; exact k0
    | 1, hq => cases hq; exact k1
    | 2, hq => cases hq; exact k2
    | 3, hq => cases hq; exact k3
    | 4, hq => cases hq; exact k4
    | 5, hq => cases hq; exact k5
    | 6, hq => cases hq; exact k6
    | 7, hq => cases hq; exact k7
    | 8, hq => cases hq; exact k8
    | 9, hq => cases hq; exact k9
    | 10, hq => cases hq; exact k10
    | k + 11, hq => simp [vwCl] at hq
  · intro k q hq
    match k, hq with
    | 0, hq => cases hq; exact ⟨a0, b0⟩
    | 1, hq => cases hq; exact ⟨a1, b1⟩
    | 2, hq => cases hq; exact ⟨a2, b2⟩
    | 3, hq => cases hq; exact ⟨fun N z => ⟨fun k h => (by cases h), kA, g2, comp, g3⟩, kA, comp, g2, g3, g1, g4⟩
    | k + 4, hq => simp at hq
