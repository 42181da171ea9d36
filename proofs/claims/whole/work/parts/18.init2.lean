/-! ===== constructors of the larger ones ===== -/
set_option maxHeartbeats 8000000 in
set_option maxRecDepth 100000 in
theorem c_X2_init (l : Launch) (D : va_G) (tt : Nat → ClassId) (h0 : Nat) (sz : Nat) : Met l yX2_init wsX2_init { frames := 2, cells := 23, slots := 225, locals := 32 } (zPm [.ref h0] D tt ([(h0, .inr (2, [.null, .null, .null, .null, .int 0, .null, .int 0, .int 0, .int 0, .int 0, .int 0]))] : va_W) sz) (zNv D h0 0 (fun kv => zw_co tt kv zv0) (va_A ([(h0, .inr (2, [.null, .null, .null, .null, .int 0, .null, .int 0, .int 0, .int 0, .int 0, .int 0]))] : va_W) sz)) 23 225 (va_A ([(h0, .inr (2, [.null, .null, .null, .null, .int 0, .null, .int 0, .int 0, .int 0, .int 0, .int 0]))] : va_W) sz) := by
  refine Met.ofW (cc := cX2_init) (maxL := 1) (ret := none) (by decide) rfl ?_
  intro p e s m args below meth c s₁ B hml hv
  obtain ⟨ha, hsz, hP, hK, hD0⟩ := hv
  have hx := B.exec
  have hb := B.bytes
  have hr := B.returns
  have hts := atoms_spec (ws := wsX2_init) B.pre
  have hown : s.vm.findClass RX2 = some m.cls := findClass_of_methodNamed B.named
  have hlocks := B.notSynchronized
  have hin : meth.name = "<init>" := (name_of_methodNamed B.named B.method).1
  have hi0 : ∀ w ∈ u_ws RX0 TX0 4, w ∈ wsX2_init := fun _ h => List.mem_cons_of_mem _ (List.mem_append_left _ (List.mem_append_left _ (List.mem_append_right _ h)))
  have hi1 : ∀ w ∈ u_ws RX1 TX1 6, w ∈ wsX2_init := fun _ h => List.mem_cons_of_mem _ (List.mem_append_left _ (List.mem_append_left _ (List.mem_append_left _ (List.mem_append_left _ (List.mem_append_right _ h)))))
  have hi2 : ∀ w ∈ u_ws RX2 TX2 11, w ∈ wsX2_init := fun _ h => List.mem_cons_of_mem _ (List.mem_append_left _ (List.mem_append_left _ (List.mem_append_left _ (List.mem_append_right _ h))))
  have hi4 : ∀ w ∈ u_ws RX4 TX4 8, w ∈ wsX2_init := fun _ h => List.mem_cons_of_mem _ (List.mem_append_left _ (List.mem_append_right _ h))
  have hi7 : ∀ w ∈ u_ws RX7 TX7 6, w ∈ wsX2_init := fun _ h => List.mem_cons_of_mem _ (List.mem_append_right _ h)
  have ac0 := hts (.arrayClass .int) (by decide +kernel)
  have cl18 := hts (.classLink RX2 18 RX0) (by decide +kernel)
  have cl25 := hts (.classLink RX2 25 RX4) (by decide +kernel)
  have cl32 := hts (.classLink RX2 32 RX7) (by decide +kernel)
  have cl9 := hts (.classLink RX2 9 RX1) (by decide +kernel)
  have fl12 := hts (.fieldLink RX2 12 "CapStacks$Company" "classes" "LCapStacks$Classes;") (by decide +kernel)
  have fl21 := hts (.fieldLink RX2 21 "CapStacks$Company" "certificates" "LCapStacks$Certificates;") (by decide +kernel)
  have fl28 := hts (.fieldLink RX2 28 "CapStacks$Company" "grants" "LCapStacks$Grants;") (by decide +kernel)
  have fl35 := hts (.fieldLink RX2 35 "CapStacks$Company" "round" "LCapStacks$Round;") (by decide +kernel)
  have fl39 := hts (.fieldLink RX2 39 "CapStacks$Company" "leftAt" "[I") (by decide +kernel)
  have iiX0 := hts (.initialized RX0) (by decide +kernel)
  have iiX1 := hts (.initialized RX1) (by decide +kernel)
  have iiX4 := hts (.initialized RX4) (by decide +kernel)
  have iiX7 := hts (.initialized RX7) (by decide +kernel)
  have imX0 := hts (.instanceMethod yX0_init) (by decide +kernel)
  have imX1 := hts (.instanceMethod yX1_init) (by decide +kernel)
  have imX4 := hts (.instanceMethod yX4_init) (by decide +kernel)
  have imX7 := hts (.instanceMethod yX7_init) (by decide +kernel)
  have itX0 := hts (.instantiable RX0 4) (by decide +kernel)
  have itX1 := hts (.instantiable RX1 6) (by decide +kernel)
  have itX4 := hts (.instantiable RX4 8) (by decide +kernel)
  have itX7 := hts (.instantiable RX7 6) (by decide +kernel)
  have ml11 := hts (.methodLink RX2 11 yX1_init) (by decide +kernel)
  subst hsz
  have hD := hD0.self (sz := s.heap.size)
  generalize hAe : va_A ([(h0, .inr (2, [.null, .null, .null, .null, .int 0, .null, .int 0, .int 0, .int 0, .int 0, .int 0]))] : va_W) s.heap.size = A at hD ⊢
  have hA : ∀ q : Nat, s.heap.size ≤ q → A q := fun q h => by rw [← hAe]; exact Or.inr h
  have hS : va_S A s.heap s.heap [] := va_S.rf
  have hl := lv_entry ([.ref h0]) (n := 1) (Nat.le_of_ble_eq_true rfl)
  refine W.eq (g2 := F0 m 0 ((lg_sl ([.ref h0]) ++ List.replicate (1 - (lg_sl ([.ref h0])).length) Slot.unset).toArray) []) (by rw [ha]; exact lg_entry_eq _ _ _) ?_
  generalize (lg_sl ([.ref h0]) ++ List.replicate (1 - (lg_sl ([.ref h0])).length) Slot.unset).toArray = ls at hl ⊢
  have hl : lv_has ls 1 [(0, .ref h0)] := hl
  refine lv_aload_n hx hb dX2_init_0 rfl (lv_at hl 0 rfl) ?_
  refine W.objInit hx hb hown (hts (.methodLink RX2 3 objectInit) (by decide +kernel)) (hts (.instanceMethod objectInit) (by decide +kernel)) (hts (.code objectInit ⟨#[0xb1]⟩ 1 none) (by decide +kernel)) rfl (by rw [hml]; exact hl.1) rfl dX2_init_1 (Nat.le_of_ble_eq_true rfl) (Nat.le_of_ble_eq_true rfl) ?_
  refine W.eq (g2 := F0 m 4 ls []) rfl ?_
  refine lv_aload_n hx hb dX2_init_4 rfl (lv_at hl 0 rfl) ?_
  refine va_new (ci := 1) (fs := [.int 0, .null, .null, .null, .null, .null]) (C := RX1) (T := TX1) (N := 6) hx hb hts hi1 tyX1 tyX1_ok hown cl9 itX1 iiX1 hK.1 hP hD hS hA rfl (by intro j hj; match j, hj with | 0, _ => rfl | 1, _ => rfl | 2, _ => rfl | 3, _ => rfl | 4, _ => rfl | 5, _ => rfl | j + 6, hj => exact absurd hj (by omega)) (Nat.le_of_ble_eq_true rfl) (Nat.le_of_ble_eq_true rfl) dX2_init_5 (fun q1 H hP hD hS => ?_)
  have hP : va_P D vwCl (([(h0, .inr (2, [.null, .null, .null, .null, .int 0, .null, .int 0, .int 0, .int 0, .int 0, .int 0]))] : va_W) ++ ([(q1, .inr (1, [.int 0, .null, .null, .null, .null, .null]))] : va_W)) H := hP
  have hD : va_D A (([(h0, .inr (2, [.null, .null, .null, .null, .int 0, .null, .int 0, .int 0, .int 0, .int 0, .int 0]))] : va_W) ++ ([(q1, .inr (1, [.int 0, .null, .null, .null, .null, .null]))] : va_W)) := hD
  refine lv_dup hx hb dX2_init_8 rfl ?_
  have hpm : List.Perm (([(h0, .inr (2, [.null, .null, .null, .null, .int 0, .null, .int 0, .int 0, .int 0, .int 0, .int 0]))] : va_W) ++ ([(q1, .inr (1, [.int 0, .null, .null, .null, .null, .null]))] : va_W)) (([(q1, .inr (1, [.int 0, .null, .null, .null, .null, .null]))] : va_W) ++ ([(h0, .inr (2, [.null, .null, .null, .null, .int 0, .null, .int 0, .int 0, .int 0, .int 0, .int 0]))] : va_W)) := z_pm (fun _ x => by simp only [List.count_append] <;> omega)
  have hPc := z_takeP hpm hP
  have hDc := z_takeD hpm hD
  have hFc := z_free0 hDc hS hA
  refine va_callv (va_runI (As := []) (rest := [.ref q1, .ref h0]) ⟨hx, hb, hml, hown, hts⟩ (c_X1_init l D tt q1 _) (cwI 0 hts gX2_init_X1_init rfl rfl rfl iiX1 ml11 imX1 rfl (by decide +kernel) ⟨Nat.le_of_ble_eq_true rfl, Nat.le_of_ble_eq_true rfl⟩) (z_preSm hK hPc hDc) rfl rfl hl.1 rfl (lv_room (Nat.le_of_ble_eq_true rfl)) dX2_init_9 ⟨Nat.le_of_ble_eq_true rfl, Nat.le_of_ble_eq_true rfl⟩) hS (fun q _ h => hFc q h) hFc (fun k2 t H1 locs ht hvm hw hB hz1 hk1 hS => ?_)
  have hw : k2 1 = q1 := hw
  subst hw
  obtain ⟨hP1, hD1⟩ := hB
  rw [ht] at hP1
  clear ht hvm hz1
  have hpm2 : List.Perm (([(h0, .inr (2, [.null, .null, .null, .null, .int 0, .null, .int 0, .int 0, .int 0, .int 0, .int 0]))] : va_W) ++ zw_cl tt k2 zv0) ((zw_cl tt k2 zv0) ++ ([(h0, .inr (2, [.null, .null, .null, .null, .int 0, .null, .int 0, .int 0, .int 0, .int 0, .int 0]))] : va_W)) := z_pm (fun _ x => by simp only [List.count_append] <;> omega)
  obtain ⟨hP, hD⟩ := z_joinB hpm hpm2 hP hD hk1 hFc hP1 hD1
  clear hpm hpm2
  generalize H1 = H at hP hS ⊢
  refine va_putF (D := D) (ci := 2) (v := .ref (k2 1)) (ty := .object "CapStacks$Classes") (C := RX2) (T := TX2) (N := 11) hx hb hts hi2 tyX2 tyX2_ok nmX2 hown hK.1 hP hD hS 0 rfl rfl 0 (by decide) fl12 (fun _ h9 => h9) rfl hin rfl (by decide +kernel) rfl rfl (Nat.le_of_ble_eq_true rfl) dX2_init_12 (fun H locs hP hD hS => ?_)
  have hP : va_P D vwCl (([(h0, .inr (2, [.ref (k2 1), .null, .null, .null, .int 0, .null, .int 0, .int 0, .int 0, .int 0, .int 0]))] : va_W) ++ zw_cl tt k2 zv0) H := hP
  have hD : va_D A (([(h0, .inr (2, [.ref (k2 1), .null, .null, .null, .int 0, .null, .int 0, .int 0, .int 0, .int 0, .int 0]))] : va_W) ++ zw_cl tt k2 zv0) := hD
  refine lv_aload_n hx hb dX2_init_15 rfl (lv_at hl 0 rfl) ?_
  refine va_new (ci := 0) (fs := [.null, .null, .null, .null]) (C := RX0) (T := TX0) (N := 4) hx hb hts hi0 tyX0 tyX0_ok hown cl18 itX0 iiX0 hK.1 hP hD hS hA rfl (by intro j hj; match j, hj with | 0, _ => rfl | 1, _ => rfl | 2, _ => rfl | 3, _ => rfl | j + 4, hj => exact absurd hj (by omega)) (Nat.le_of_ble_eq_true rfl) (Nat.le_of_ble_eq_true rfl) dX2_init_16 (fun q3 H hP hD hS => ?_)
  have hP : va_P D vwCl (([(h0, .inr (2, [.ref (k2 1), .null, .null, .null, .int 0, .null, .int 0, .int 0, .int 0, .int 0, .int 0]))] : va_W) ++ zw_cl tt k2 zv0 ++ ([(q3, .inr (0, [.null, .null, .null, .null]))] : va_W)) H := hP
  have hD : va_D A (([(h0, .inr (2, [.ref (k2 1), .null, .null, .null, .int 0, .null, .int 0, .int 0, .int 0, .int 0, .int 0]))] : va_W) ++ zw_cl tt k2 zv0 ++ ([(q3, .inr (0, [.null, .null, .null, .null]))] : va_W)) := hD
  refine lv_dup hx hb dX2_init_19 rfl ?_
  have hpm : List.Perm (([(h0, .inr (2, [.ref (k2 1), .null, .null, .null, .int 0, .null, .int 0, .int 0, .int 0, .int 0, .int 0]))] : va_W) ++ zw_cl tt k2 zv0 ++ ([(q3, .inr (0, [.null, .null, .null, .null]))] : va_W)) (([(q3, .inr (0, [.null, .null, .null, .null]))] : va_W) ++ (([(h0, .inr (2, [.ref (k2 1), .null, .null, .null, .int 0, .null, .int 0, .int 0, .int 0, .int 0, .int 0]))] : va_W) ++ zw_cl tt k2 zv0)) := z_pm (fun _ x => by simp only [List.count_append] <;> omega)
  have hPc := z_takeP hpm hP
  have hDc := z_takeD hpm hD
  have hFc := z_free0 hDc hS hA
  refine va_callv (va_runIN (As := []) (rest := [.ref q3, .ref h0]) ⟨hx, hb, hml, hown, hts⟩ (c_X0_init l D tt q3 _) ⟨va_cnB (host := "CapStacks") 0 hts gX2_init_X0_init_n20 rfl rfl rfl (hK.2.1 (RX2, 20, yX0_init, "CapStacks") (List.mem_of_getElem? (i := 1) rfl)) iiX0 (by decide +kernel) ⟨Nat.le_of_ble_eq_true rfl, Nat.le_of_ble_eq_true rfl⟩, rfl, imX0⟩ (z_preSm hK hPc hDc) rfl rfl hl.1 rfl (lv_room (Nat.le_of_ble_eq_true rfl)) dX2_init_20 ⟨Nat.le_of_ble_eq_true rfl, Nat.le_of_ble_eq_true rfl⟩) hS (fun q _ h => hFc q h) hFc (fun k4 t H1 locs ht hvm hw hB hz1 hk1 hS => ?_)
  have hw : k4 2 = q3 := hw
  subst hw
  obtain ⟨hP1, hD1⟩ := hB
  rw [ht] at hP1
  clear ht hvm hz1
  have hpm2 : List.Perm (([(h0, .inr (2, [.ref (k2 1), .null, .null, .null, .int 0, .null, .int 0, .int 0, .int 0, .int 0, .int 0]))] : va_W) ++ zw_cl tt k2 zv0 ++ zw_ce tt k4 zv0) ((zw_ce tt k4 zv0) ++ (([(h0, .inr (2, [.ref (k2 1), .null, .null, .null, .int 0, .null, .int 0, .int 0, .int 0, .int 0, .int 0]))] : va_W) ++ zw_cl tt k2 zv0)) := z_pm (fun _ x => by simp only [List.count_append] <;> omega)
  obtain ⟨hP, hD⟩ := z_joinB hpm hpm2 hP hD hk1 hFc hP1 hD1
  clear hpm hpm2
  generalize H1 = H at hP hS ⊢
  refine va_putF (D := D) (ci := 2) (v := .ref (k4 2)) (ty := .object "CapStacks$Certificates") (C := RX2) (T := TX2) (N := 11) hx hb hts hi2 tyX2 tyX2_ok nmX2 hown hK.1 hP hD hS 0 rfl rfl 1 (by decide) fl21 (fun _ h9 => h9) rfl hin rfl (by decide +kernel) rfl rfl (Nat.le_of_ble_eq_true rfl) dX2_init_23 (fun H locs hP hD hS => ?_)
  have hP : va_P D vwCl (([(h0, .inr (2, [.ref (k2 1), .ref (k4 2), .null, .null, .int 0, .null, .int 0, .int 0, .int 0, .int 0, .int 0]))] : va_W) ++ zw_cl tt k2 zv0 ++ zw_ce tt k4 zv0) H := hP
  have hD : va_D A (([(h0, .inr (2, [.ref (k2 1), .ref (k4 2), .null, .null, .int 0, .null, .int 0, .int 0, .int 0, .int 0, .int 0]))] : va_W) ++ zw_cl tt k2 zv0 ++ zw_ce tt k4 zv0) := hD
  refine lv_aload_n hx hb dX2_init_26 rfl (lv_at hl 0 rfl) ?_
  refine va_new (ci := 4) (fs := [.int 0, .null, .null, .null, .null, .null, .null, .null]) (C := RX4) (T := TX4) (N := 8) hx hb hts hi4 tyX4 tyX4_ok hown cl25 itX4 iiX4 hK.1 hP hD hS hA rfl (by intro j hj; match j, hj with | 0, _ => rfl | 1, _ => rfl | 2, _ => rfl | 3, _ => rfl | 4, _ => rfl | 5, _ => rfl | 6, _ => rfl | 7, _ => rfl | j + 8, hj => exact absurd hj (by omega)) (Nat.le_of_ble_eq_true rfl) (Nat.le_of_ble_eq_true rfl) dX2_init_27 (fun q5 H hP hD hS => ?_)
  have hP : va_P D vwCl (([(h0, .inr (2, [.ref (k2 1), .ref (k4 2), .null, .null, .int 0, .null, .int 0, .int 0, .int 0, .int 0, .int 0]))] : va_W) ++ zw_cl tt k2 zv0 ++ zw_ce tt k4 zv0 ++ ([(q5, .inr (4, [.int 0, .null, .null, .null, .null, .null, .null, .null]))] : va_W)) H := hP
  have hD : va_D A (([(h0, .inr (2, [.ref (k2 1), .ref (k4 2), .null, .null, .int 0, .null, .int 0, .int 0, .int 0, .int 0, .int 0]))] : va_W) ++ zw_cl tt k2 zv0 ++ zw_ce tt k4 zv0 ++ ([(q5, .inr (4, [.int 0, .null, .null, .null, .null, .null, .null, .null]))] : va_W)) := hD
  refine lv_dup hx hb dX2_init_30 rfl ?_
  have hpm : List.Perm (([(h0, .inr (2, [.ref (k2 1), .ref (k4 2), .null, .null, .int 0, .null, .int 0, .int 0, .int 0, .int 0, .int 0]))] : va_W) ++ zw_cl tt k2 zv0 ++ zw_ce tt k4 zv0 ++ ([(q5, .inr (4, [.int 0, .null, .null, .null, .null, .null, .null, .null]))] : va_W)) (([(q5, .inr (4, [.int 0, .null, .null, .null, .null, .null, .null, .null]))] : va_W) ++ (([(h0, .inr (2, [.ref (k2 1), .ref (k4 2), .null, .null, .int 0, .null, .int 0, .int 0, .int 0, .int 0, .int 0]))] : va_W) ++ zw_cl tt k2 zv0 ++ zw_ce tt k4 zv0)) := z_pm (fun _ x => by simp only [List.count_append] <;> omega)
  have hPc := z_takeP hpm hP
  have hDc := z_takeD hpm hD
  have hFc := z_free0 hDc hS hA
  refine va_callv (va_runIN (As := []) (rest := [.ref q5, .ref h0]) ⟨hx, hb, hml, hown, hts⟩ (c_X4_init l D tt q5 _) ⟨va_cnB (host := "CapStacks") 0 hts gX2_init_X4_init_n27 rfl rfl rfl (hK.2.1 (RX2, 27, yX4_init, "CapStacks") (List.mem_of_getElem? (i := 2) rfl)) iiX4 (by decide +kernel) ⟨Nat.le_of_ble_eq_true rfl, Nat.le_of_ble_eq_true rfl⟩, rfl, imX4⟩ (z_preSm hK hPc hDc) rfl rfl hl.1 rfl (lv_room (Nat.le_of_ble_eq_true rfl)) dX2_init_31 ⟨Nat.le_of_ble_eq_true rfl, Nat.le_of_ble_eq_true rfl⟩) hS (fun q _ h => hFc q h) hFc (fun k6 t H1 locs ht hvm hw hB hz1 hk1 hS => ?_)
  have hw : k6 3 = q5 := hw
  subst hw
  obtain ⟨hP1, hD1⟩ := hB
  rw [ht] at hP1
  clear ht hvm hz1
  have hpm2 : List.Perm (([(h0, .inr (2, [.ref (k2 1), .ref (k4 2), .null, .null, .int 0, .null, .int 0, .int 0, .int 0, .int 0, .int 0]))] : va_W) ++ zw_cl tt k2 zv0 ++ zw_ce tt k4 zv0 ++ zw_gr tt k6 zv0) ((zw_gr tt k6 zv0) ++ (([(h0, .inr (2, [.ref (k2 1), .ref (k4 2), .null, .null, .int 0, .null, .int 0, .int 0, .int 0, .int 0, .int 0]))] : va_W) ++ zw_cl tt k2 zv0 ++ zw_ce tt k4 zv0)) := z_pm (fun _ x => by simp only [List.count_append] <;> omega)
  obtain ⟨hP, hD⟩ := z_joinB hpm hpm2 hP hD hk1 hFc hP1 hD1
  clear hpm hpm2
  generalize H1 = H at hP hS ⊢
  refine va_putF (D := D) (ci := 2) (v := .ref (k6 3)) (ty := .object "CapStacks$Grants") (C := RX2) (T := TX2) (N := 11) hx hb hts hi2 tyX2 tyX2_ok nmX2 hown hK.1 hP hD hS 0 rfl rfl 2 (by decide) fl28 (fun _ h9 => h9) rfl hin rfl (by decide +kernel) rfl rfl (Nat.le_of_ble_eq_true rfl) dX2_init_34 (fun H locs hP hD hS => ?_)
  have hP : va_P D vwCl (([(h0, .inr (2, [.ref (k2 1), .ref (k4 2), .ref (k6 3), .null, .int 0, .null, .int 0, .int 0, .int 0, .int 0, .int 0]))] : va_W) ++ zw_cl tt k2 zv0 ++ zw_ce tt k4 zv0 ++ zw_gr tt k6 zv0) H := hP
  have hD : va_D A (([(h0, .inr (2, [.ref (k2 1), .ref (k4 2), .ref (k6 3), .null, .int 0, .null, .int 0, .int 0, .int 0, .int 0, .int 0]))] : va_W) ++ zw_cl tt k2 zv0 ++ zw_ce tt k4 zv0 ++ zw_gr tt k6 zv0) := hD
  refine lv_aload_n hx hb dX2_init_37 rfl (lv_at hl 0 rfl) ?_
  refine va_new (ci := 7) (fs := [.int 0, .int 0, .int 0, .int 0, .null, .null]) (C := RX7) (T := TX7) (N := 6) hx hb hts hi7 tyX7 tyX7_ok hown cl32 itX7 iiX7 hK.1 hP hD hS hA rfl (by intro j hj; match j, hj with | 0, _ => rfl | 1, _ => rfl | 2, _ => rfl | 3, _ => rfl | 4, _ => rfl | 5, _ => rfl | j + 6, hj => exact absurd hj (by omega)) (Nat.le_of_ble_eq_true rfl) (Nat.le_of_ble_eq_true rfl) dX2_init_38 (fun q7 H hP hD hS => ?_)
  have hP : va_P D vwCl (([(h0, .inr (2, [.ref (k2 1), .ref (k4 2), .ref (k6 3), .null, .int 0, .null, .int 0, .int 0, .int 0, .int 0, .int 0]))] : va_W) ++ zw_cl tt k2 zv0 ++ zw_ce tt k4 zv0 ++ zw_gr tt k6 zv0 ++ ([(q7, .inr (7, [.int 0, .int 0, .int 0, .int 0, .null, .null]))] : va_W)) H := hP
  have hD : va_D A (([(h0, .inr (2, [.ref (k2 1), .ref (k4 2), .ref (k6 3), .null, .int 0, .null, .int 0, .int 0, .int 0, .int 0, .int 0]))] : va_W) ++ zw_cl tt k2 zv0 ++ zw_ce tt k4 zv0 ++ zw_gr tt k6 zv0 ++ ([(q7, .inr (7, [.int 0, .int 0, .int 0, .int 0, .null, .null]))] : va_W)) := hD
  refine lv_dup hx hb dX2_init_41 rfl ?_
  have hpm : List.Perm (([(h0, .inr (2, [.ref (k2 1), .ref (k4 2), .ref (k6 3), .null, .int 0, .null, .int 0, .int 0, .int 0, .int 0, .int 0]))] : va_W) ++ zw_cl tt k2 zv0 ++ zw_ce tt k4 zv0 ++ zw_gr tt k6 zv0 ++ ([(q7, .inr (7, [.int 0, .int 0, .int 0, .int 0, .null, .null]))] : va_W)) (([(q7, .inr (7, [.int 0, .int 0, .int 0, .int 0, .null, .null]))] : va_W) ++ (([(h0, .inr (2, [.ref (k2 1), .ref (k4 2), .ref (k6 3), .null, .int 0, .null, .int 0, .int 0, .int 0, .int 0, .int 0]))] : va_W) ++ zw_cl tt k2 zv0 ++ zw_ce tt k4 zv0 ++ zw_gr tt k6 zv0)) := z_pm (fun _ x => by simp only [List.count_append] <;> omega)
  have hPc := z_takeP hpm hP
  have hDc := z_takeD hpm hD
  have hFc := z_free0 hDc hS hA
  refine va_callv (va_runIN (As := []) (rest := [.ref q7, .ref h0]) ⟨hx, hb, hml, hown, hts⟩ (c_X7_init l D tt q7 _) ⟨va_cnB (host := "CapStacks") 0 hts gX2_init_X7_init_n34 rfl rfl rfl (hK.2.1 (RX2, 34, yX7_init, "CapStacks") (List.mem_of_getElem? (i := 3) rfl)) iiX7 (by decide +kernel) ⟨Nat.le_of_ble_eq_true rfl, Nat.le_of_ble_eq_true rfl⟩, rfl, imX7⟩ (z_preSm hK hPc hDc) rfl rfl hl.1 rfl (lv_room (Nat.le_of_ble_eq_true rfl)) dX2_init_42 ⟨Nat.le_of_ble_eq_true rfl, Nat.le_of_ble_eq_true rfl⟩) hS (fun q _ h => hFc q h) hFc (fun k8 t H1 locs ht hvm hw hB hz1 hk1 hS => ?_)
  have hw : k8 4 = q7 := hw
  subst hw
  obtain ⟨hP1, hD1⟩ := hB
  rw [ht] at hP1
  clear ht hvm hz1
  have hpm2 : List.Perm (([(h0, .inr (2, [.ref (k2 1), .ref (k4 2), .ref (k6 3), .null, .int 0, .null, .int 0, .int 0, .int 0, .int 0, .int 0]))] : va_W) ++ zw_cl tt k2 zv0 ++ zw_ce tt k4 zv0 ++ zw_gr tt k6 zv0 ++ zw_ro tt k8 zv0) ((zw_ro tt k8 zv0) ++ (([(h0, .inr (2, [.ref (k2 1), .ref (k4 2), .ref (k6 3), .null, .int 0, .null, .int 0, .int 0, .int 0, .int 0, .int 0]))] : va_W) ++ zw_cl tt k2 zv0 ++ zw_ce tt k4 zv0 ++ zw_gr tt k6 zv0)) := z_pm (fun _ x => by simp only [List.count_append] <;> omega)
  obtain ⟨hP, hD⟩ := z_joinB hpm hpm2 hP hD hk1 hFc hP1 hD1
  clear hpm hpm2
  generalize H1 = H at hP hS ⊢
  refine va_putF (D := D) (ci := 2) (v := .ref (k8 4)) (ty := .object "CapStacks$Round") (C := RX2) (T := TX2) (N := 11) hx hb hts hi2 tyX2 tyX2_ok nmX2 hown hK.1 hP hD hS 0 rfl rfl 3 (by decide) fl35 (fun _ h9 => h9) rfl hin rfl (by decide +kernel) rfl rfl (Nat.le_of_ble_eq_true rfl) dX2_init_45 (fun H locs hP hD hS => ?_)
  have hP : va_P D vwCl (([(h0, .inr (2, [.ref (k2 1), .ref (k4 2), .ref (k6 3), .ref (k8 4), .int 0, .null, .int 0, .int 0, .int 0, .int 0, .int 0]))] : va_W) ++ zw_cl tt k2 zv0 ++ zw_ce tt k4 zv0 ++ zw_gr tt k6 zv0 ++ zw_ro tt k8 zv0) H := hP
  have hD : va_D A (([(h0, .inr (2, [.ref (k2 1), .ref (k4 2), .ref (k6 3), .ref (k8 4), .int 0, .null, .int 0, .int 0, .int 0, .int 0, .int 0]))] : va_W) ++ zw_cl tt k2 zv0 ++ zw_ce tt k4 zv0 ++ zw_gr tt k6 zv0 ++ zw_ro tt k8 zv0) := hD
  refine lv_aload_n hx hb dX2_init_48 rfl (lv_at hl 0 rfl) ?_
  refine lv_bipush (v := 8) hx hb dX2_init_49 (by decide) ?_
  refine va_newa (atype := .int) (ty := .int) (N' := 8) (a0 := (8, .inl (fun _ => 0))) hx hb ac0 rfl hK.1 hP hD hS hA (fun _ => rfl) (by decide) (by decide) (Nat.le_of_ble_eq_true rfl) (Nat.le_of_ble_eq_true rfl) (Nat.le_of_ble_eq_true rfl) dX2_init_51 (fun q9 cq9 H hK1 hP hD hS => ?_)
  obtain rfl : cq9 = tt 0 := z_uniq hK1 0 rfl _ (fun _ h => h)
  clear hK1
  have hP : va_P D vwCl (([(h0, .inr (2, [.ref (k2 1), .ref (k4 2), .ref (k6 3), .ref (k8 4), .int 0, .null, .int 0, .int 0, .int 0, .int 0, .int 0]))] : va_W) ++ zw_cl tt k2 zv0 ++ zw_ce tt k4 zv0 ++ zw_gr tt k6 zv0 ++ zw_ro tt k8 zv0 ++ ([(q9, .inl (tt 0, 8, .inl (fun _ => 0)))] : va_W)) H := hP
  have hD : va_D A (([(h0, .inr (2, [.ref (k2 1), .ref (k4 2), .ref (k6 3), .ref (k8 4), .int 0, .null, .int 0, .int 0, .int 0, .int 0, .int 0]))] : va_W) ++ zw_cl tt k2 zv0 ++ zw_ce tt k4 zv0 ++ zw_gr tt k6 zv0 ++ zw_ro tt k8 zv0 ++ ([(q9, .inl (tt 0, 8, .inl (fun _ => 0)))] : va_W)) := hD
  refine va_putF (D := D) (ci := 2) (v := .ref q9) (ty := .array .int) (C := RX2) (T := TX2) (N := 11) hx hb hts hi2 tyX2 tyX2_ok nmX2 hown hK.1 hP hD hS 0 rfl rfl 5 (by decide) fl39 (fun _ h9 => h9) rfl hin rfl (by decide +kernel) rfl rfl (Nat.le_of_ble_eq_true rfl) dX2_init_53 (fun H locs hP hD hS => ?_)
  have hP : va_P D vwCl (([(h0, .inr (2, [.ref (k2 1), .ref (k4 2), .ref (k6 3), .ref (k8 4), .int 0, .ref q9, .int 0, .int 0, .int 0, .int 0, .int 0]))] : va_W) ++ zw_cl tt k2 zv0 ++ zw_ce tt k4 zv0 ++ zw_gr tt k6 zv0 ++ zw_ro tt k8 zv0 ++ ([(q9, .inl (tt 0, 8, .inl (fun _ => 0)))] : va_W)) H := hP
  have hD : va_D A (([(h0, .inr (2, [.ref (k2 1), .ref (k4 2), .ref (k6 3), .ref (k8 4), .int 0, .ref q9, .int 0, .int 0, .int 0, .int 0, .int 0]))] : va_W) ++ zw_cl tt k2 zv0 ++ zw_ce tt k4 zv0 ++ zw_gr tt k6 zv0 ++ zw_ro tt k8 zv0 ++ ([(q9, .inl (tt 0, 8, .inl (fun _ => 0)))] : va_W)) := hD
  have hpm : List.Perm (([(h0, .inr (2, [.ref (k2 1), .ref (k4 2), .ref (k6 3), .ref (k8 4), .int 0, .ref q9, .int 0, .int 0, .int 0, .int 0, .int 0]))] : va_W) ++ zw_cl tt k2 zv0 ++ zw_ce tt k4 zv0 ++ zw_gr tt k6 zv0 ++ zw_ro tt k8 zv0 ++ ([(q9, .inl (tt 0, 8, .inl (fun _ => 0)))] : va_W)) ((([(h0, .inr (2, [.ref (k2 1), .ref (k4 2), .ref (k6 3), .ref (k8 4), .int 0, .ref q9, .int 0, .int 0, .int 0, .int 0, .int 0]))] : va_W) ++ (zw_cl tt k2 zv0 ++ (zw_ce tt k4 zv0 ++ (zw_gr tt k6 zv0 ++ (zw_ro tt k8 zv0 ++ ([(q9, .inl (tt 0, 8, .inl (fun _ => 0)))] : va_W)))))) ++ []) := z_pm (fun _ x => by simp only [List.count_append, List.count_nil] <;> omega)
  have hP9 : va_P D vwCl (zw_co tt (zu (zu (zu (zu (zu (zu (zu (zu (zu (zu (zu (zu (zu (zu (zu (zu (zu (zu (zu (zu (zu (zu (zu (zu (zu (zu (zu (zu (fun _ => 0) 0 h0) 1 (k2 1)) 2 (k4 2)) 3 (k6 3)) 4 (k8 4)) 23 q9) 1 (k2 1)) 5 (k2 5)) 6 (k2 6)) 7 (k2 7)) 8 (k2 8)) 9 (k2 9)) 2 (k4 2)) 10 (k4 10)) 11 (k4 11)) 12 (k4 12)) 13 (k4 13)) 3 (k6 3)) 14 (k6 14)) 15 (k6 15)) 16 (k6 16)) 17 (k6 17)) 18 (k6 18)) 19 (k6 19)) 20 (k6 20)) 4 (k8 4)) 21 (k8 21)) 22 (k8 22)) zv0) H := z_takeP hpm hP
  have hD9 : va_D A (zw_co tt (zu (zu (zu (zu (zu (zu (zu (zu (zu (zu (zu (zu (zu (zu (zu (zu (zu (zu (zu (zu (zu (zu (zu (zu (zu (zu (zu (zu (fun _ => 0) 0 h0) 1 (k2 1)) 2 (k4 2)) 3 (k6 3)) 4 (k8 4)) 23 q9) 1 (k2 1)) 5 (k2 5)) 6 (k2 6)) 7 (k2 7)) 8 (k2 8)) 9 (k2 9)) 2 (k4 2)) 10 (k4 10)) 11 (k4 11)) 12 (k4 12)) 13 (k4 13)) 3 (k6 3)) 14 (k6 14)) 15 (k6 15)) 16 (k6 16)) 17 (k6 17)) 18 (k6 18)) 19 (k6 19)) 20 (k6 20)) 4 (k8 4)) 21 (k8 21)) 22 (k8 22)) zv0) := z_takeD hpm hD
  exact W.vret hx hb hr (fun t ht hW => ⟨⟨(zu (zu (zu (zu (zu (zu (zu (zu (zu (zu (zu (zu (zu (zu (zu (zu (zu (zu (zu (zu (zu (zu (zu (zu (zu (zu (zu (zu (fun _ => 0) 0 h0) 1 (k2 1)) 2 (k4 2)) 3 (k6 3)) 4 (k8 4)) 23 q9) 1 (k2 1)) 5 (k2 5)) 6 (k2 6)) 7 (k2 7)) 8 (k2 8)) 9 (k2 9)) 2 (k4 2)) 10 (k4 10)) 11 (k4 11)) 12 (k4 12)) 13 (k4 13)) 3 (k6 3)) 14 (k6 14)) 15 (k6 15)) 16 (k6 16)) 17 (k6 17)) 18 (k6 18)) 19 (k6 19)) 20 (k6 20)) 4 (k8 4)) 21 (k8 21)) 22 (k8 22)), rfl, rfl, by rw [ht]; exact hP9, hD9⟩, hS.F ht⟩) hS.2.2 dX2_init_56
set_option maxHeartbeats 8000000 in
set_option maxRecDepth 100000 in
theorem c_X5_init (l : Launch) (D : va_G) (tt : Nat → ClassId) (h0 : Nat) (sz : Nat) : Met l yX5_init wsX5_init { frames := 3, cells := 97, slots := 948, locals := 52 } (zPm [.ref h0] D tt ([(h0, .inr (5, [.int 0, .null]))] : va_W) sz) (zNx D tt h0 (va_A ([(h0, .inr (5, [.int 0, .null]))] : va_W) sz)) 97 948 (va_A ([(h0, .inr (5, [.int 0, .null]))] : va_W) sz) := by
  refine Met.ofW (cc := cX5_init) (maxL := 2) (ret := none) (by decide) rfl ?_
  intro p e s m args below meth c s₁ B hml hv
  obtain ⟨ha, hsz, hP, hK, hD0⟩ := hv
  have hx := B.exec
  have hb := B.bytes
  have hr := B.returns
  have hts := atoms_spec (ws := wsX5_init) B.pre
  have hown : s.vm.findClass RX5 = some m.cls := findClass_of_methodNamed B.named
  have hlocks := B.notSynchronized
  have hin : meth.name = "<init>" := (name_of_methodNamed B.named B.method).1
  have hi2 : ∀ w ∈ u_ws RX2 TX2 11, w ∈ wsX5_init := fun _ h => List.mem_cons_of_mem _ (List.mem_append_left _ (List.mem_append_left _ (List.mem_append_left _ (List.mem_append_left _ (List.mem_append_right _ h)))))
  have hi5 : ∀ w ∈ u_ws RX5 TX5 2, w ∈ wsX5_init := fun _ h => List.mem_cons_of_mem _ (List.mem_append_left _ (List.mem_append_left _ (List.mem_append_left _ (List.mem_append_left _ (List.mem_append_left _ (List.mem_append_right _ h))))))
  have cl9 := hts (.classLink RX5 9 RX2) (by decide +kernel)
  have fl11 := hts (.fieldLink RX5 11 "CapStacks$History" "states" "[LCapStacks$Company;") (by decide +kernel)
  have iiX2 := hts (.initialized RX2) (by decide +kernel)
  have imX2 := hts (.instanceMethod yX2_init) (by decide +kernel)
  have itX2 := hts (.instantiable RX2 11) (by decide +kernel)
  subst hsz
  have hD := hD0.self (sz := s.heap.size)
  generalize hAe : va_A ([(h0, .inr (5, [.int 0, .null]))] : va_W) s.heap.size = A at hD ⊢
  have hA : ∀ q : Nat, s.heap.size ≤ q → A q := fun q h => by rw [← hAe]; exact Or.inr h
  have hS : va_S A s.heap s.heap [] := va_S.rf
  have hl := lv_entry ([.ref h0]) (n := 2) (Nat.le_of_ble_eq_true rfl)
  refine W.eq (g2 := F0 m 0 ((lg_sl ([.ref h0]) ++ List.replicate (2 - (lg_sl ([.ref h0])).length) Slot.unset).toArray) []) (by rw [ha]; exact lg_entry_eq _ _ _) ?_
  generalize (lg_sl ([.ref h0]) ++ List.replicate (2 - (lg_sl ([.ref h0])).length) Slot.unset).toArray = ls at hl ⊢
  have hl : lv_has ls 2 [(0, .ref h0)] := hl
  refine lv_aload_n hx hb dX5_init_0 rfl (lv_at hl 0 rfl) ?_
  refine W.objInit hx hb hown (hts (.methodLink RX5 3 objectInit) (by decide +kernel)) (hts (.instanceMethod objectInit) (by decide +kernel)) (hts (.code objectInit ⟨#[0xb1]⟩ 1 none) (by decide +kernel)) rfl (by rw [hml]; exact hl.1) rfl dX5_init_1 (Nat.le_of_ble_eq_true rfl) (Nat.le_of_ble_eq_true rfl) ?_
  refine W.eq (g2 := F0 m 4 ls []) rfl ?_
  refine lv_aload_n hx hb dX5_init_4 rfl (lv_at hl 0 rfl) ?_
  refine lv_iconst (v := 4) hx hb dX5_init_5 (by decide) ?_
  refine va_newq (C := RX2) (N' := 4) hx hb hown cl9 hK.2.2 hK.1 hP hD hS hA (by decide) (by decide) (Nat.le_of_ble_eq_true rfl) (Nat.le_of_ble_eq_true rfl) (Nat.le_of_ble_eq_true rfl) dX5_init_6 (fun q1 cq1 H hK1 hP hD hS => ?_)
  obtain rfl : cq1 = tt 3 := z_uniq hK1 3 rfl _ (fun _ h => by obtain ⟨_, _, _, _, _, h⟩ := h; exact h)
  clear hK1
  have hP : va_P D vwCl (([(h0, .inr (5, [.int 0, .null]))] : va_W) ++ ([(q1, .inl (tt 3, 4, .inr (.inr (.inr (.inr (fun _ => none))))))] : va_W)) H := hP
  have hD : va_D A (([(h0, .inr (5, [.int 0, .null]))] : va_W) ++ ([(q1, .inl (tt 3, 4, .inr (.inr (.inr (.inr (fun _ => none))))))] : va_W)) := hD
  refine va_putF (D := D) (ci := 5) (v := .ref q1) (ty := .array (.object "CapStacks$Company")) (C := RX5) (T := TX5) (N := 2) hx hb hts hi5 tyX5 tyX5_ok nmX5 hown hK.1 hP hD hS 0 rfl rfl 1 (by decide) fl11 (fun _ h9 => h9) rfl hin rfl (by decide +kernel) rfl rfl (Nat.le_of_ble_eq_true rfl) dX5_init_9 (fun H locs hP hD hS => ?_)
  have hP : va_P D vwCl (([(h0, .inr (5, [.int 0, .ref q1]))] : va_W) ++ ([(q1, .inl (tt 3, 4, .inr (.inr (.inr (.inr (fun _ => none))))))] : va_W)) H := hP
  have hD : va_D A (([(h0, .inr (5, [.int 0, .ref q1]))] : va_W) ++ ([(q1, .inl (tt 3, 4, .inr (.inr (.inr (.inr (fun _ => none))))))] : va_W)) := hD
  refine lv_iconst (v := 0) hx hb dX5_init_12 (by decide) ?_
  refine lv_istore_n (lv' := [(1, .int 0), (0, .ref h0)]) hx hb dX5_init_13 rfl hl (by decide) rfl (fun ls hl => ?_)
  refine lv_iload_n hx hb dX5_init_14 rfl (lv_at hl 0 rfl) ?_
  refine lv_iconst (v := 4) hx hb dX5_init_15 (by decide) ?_
  refine lv_icmp_ge (tgt := 38) hx hb dX5_init_16 (by decide) (fun k => absurd k (by decide)) (fun k => ?_)
  clear k
  refine lv_aload_n hx hb dX5_init_19 rfl (lv_at hl 1 rfl) ?_
  refine va_get (D := D) (ci := 5) (v := .ref q1) (C := RX5) (T := TX5) (N := 2) hx hb hts hi5 hown hK.1 hP 0 rfl rfl 1 (by decide) fl11 (fun _ h9 => h9) rfl dX5_init_20 ?_
  refine lv_iload_n hx hb dX5_init_23 rfl (lv_at hl 0 rfl) ?_
  refine va_new (ci := 2) (fs := [.null, .null, .null, .null, .int 0, .null, .int 0, .int 0, .int 0, .int 0, .int 0]) (C := RX2) (T := TX2) (N := 11) hx hb hts hi2 tyX2 tyX2_ok hown cl9 itX2 iiX2 hK.1 hP hD hS hA rfl (by intro j hj; match j, hj with | 0, _ => rfl | 1, _ => rfl | 2, _ => rfl | 3, _ => rfl | 4, _ => rfl | 5, _ => rfl | 6, _ => rfl | 7, _ => rfl | 8, _ => rfl | 9, _ => rfl | 10, _ => rfl | j + 11, hj => exact absurd hj (by omega)) (Nat.le_of_ble_eq_true rfl) (Nat.le_of_ble_eq_true rfl) dX5_init_24 (fun q2 H hP hD hS => ?_)
  have hP : va_P D vwCl (([(h0, .inr (5, [.int 0, .ref q1]))] : va_W) ++ ([(q1, .inl (tt 3, 4, .inr (.inr (.inr (.inr (fun _ => none))))))] : va_W) ++ ([(q2, .inr (2, [.null, .null, .null, .null, .int 0, .null, .int 0, .int 0, .int 0, .int 0, .int 0]))] : va_W)) H := hP
  have hD : va_D A (([(h0, .inr (5, [.int 0, .ref q1]))] : va_W) ++ ([(q1, .inl (tt 3, 4, .inr (.inr (.inr (.inr (fun _ => none))))))] : va_W) ++ ([(q2, .inr (2, [.null, .null, .null, .null, .int 0, .null, .int 0, .int 0, .int 0, .int 0, .int 0]))] : va_W)) := hD
  refine lv_dup hx hb dX5_init_27 rfl ?_
  have hpm : List.Perm (([(h0, .inr (5, [.int 0, .ref q1]))] : va_W) ++ ([(q1, .inl (tt 3, 4, .inr (.inr (.inr (.inr (fun _ => none))))))] : va_W) ++ ([(q2, .inr (2, [.null, .null, .null, .null, .int 0, .null, .int 0, .int 0, .int 0, .int 0, .int 0]))] : va_W)) (([(q2, .inr (2, [.null, .null, .null, .null, .int 0, .null, .int 0, .int 0, .int 0, .int 0, .int 0]))] : va_W) ++ (([(h0, .inr (5, [.int 0, .ref q1]))] : va_W) ++ ([(q1, .inl (tt 3, 4, .inr (.inr (.inr (.inr (fun _ => none))))))] : va_W))) := z_pm (fun _ x => by simp only [List.count_append] <;> omega)
  have hPc := z_takeP hpm hP
  have hDc := z_takeD hpm hD
  have hFc := z_free0 hDc hS hA
  refine va_callv (va_runIN (As := []) (rest := [.ref q2, .int 0, .ref q1]) ⟨hx, hb, hml, hown, hts⟩ (c_X2_init l D tt q2 _) ⟨va_cnB (host := "CapStacks") 0 hts gX5_init_X2_init_n17 rfl rfl rfl (hK.2.1 (RX5, 17, yX2_init, "CapStacks") (List.mem_of_getElem? (i := 4) rfl)) iiX2 (by decide +kernel) ⟨Nat.le_of_ble_eq_true rfl, Nat.le_of_ble_eq_true rfl⟩, rfl, imX2⟩ (z_preSm hK hPc hDc) rfl rfl hl.1 rfl (lv_room (Nat.le_of_ble_eq_true rfl)) dX5_init_28 ⟨Nat.le_of_ble_eq_true rfl, Nat.le_of_ble_eq_true rfl⟩) hS (fun q _ h => hFc q h) hFc (fun k3 t H1 locs ht hvm hw hB hz1 hk1 hS => ?_)
  have hw : k3 0 = q2 := hw
  subst hw
  obtain ⟨hP1, hD1⟩ := hB
  rw [ht] at hP1
  clear ht hvm hz1
  have hpm2 : List.Perm (([(h0, .inr (5, [.int 0, .ref q1]))] : va_W) ++ ([(q1, .inl (tt 3, 4, .inr (.inr (.inr (.inr (fun _ => none))))))] : va_W) ++ zw_co tt k3 zv0) ((zw_co tt k3 zv0) ++ (([(h0, .inr (5, [.int 0, .ref q1]))] : va_W) ++ ([(q1, .inl (tt 3, 4, .inr (.inr (.inr (.inr (fun _ => none))))))] : va_W))) := z_pm (fun _ x => by simp only [List.count_append] <;> omega)
  obtain ⟨hP, hD⟩ := z_joinB hpm hpm2 hP hD hk1 hFc hP1 hD1
  clear hpm hpm2
  generalize H1 = H at hP hS ⊢
  refine va_astq hx hb hK.1 hP hD hS 1 3 2 2 rfl rfl rfl rfl (vp_in_lit 0 4 rfl) dX5_init_31 (fun H locs hP hD hS => ?_)
  rw [show (0 : Int32).toNatClampNeg = 0 from by decide] at hP hD
  have hP : va_P D vwCl (([(h0, .inr (5, [.int 0, .ref q1]))] : va_W) ++ ([(q1, .inl (tt 3, 4, .inr (.inr (.inr (.inr (va_up (fun _ => none) 0 (some (k3 0))))))))] : va_W) ++ zw_co tt k3 zv0) H := hP
  have hD : va_D A (([(h0, .inr (5, [.int 0, .ref q1]))] : va_W) ++ ([(q1, .inl (tt 3, 4, .inr (.inr (.inr (.inr (va_up (fun _ => none) 0 (some (k3 0))))))))] : va_W) ++ zw_co tt k3 zv0) := hD
  refine lv_iinc (v := 1) (lv' := [(1, .int 1), (0, .ref h0)]) hx hb dX5_init_32 hl (k := 0) rfl (by decide) (by decide) rfl (fun ls hl => ?_)
  refine lv_goto (tgt := 14) hx hb dX5_init_35 (by decide) ?_
  refine lv_iload_n hx hb dX5_init_14 rfl (lv_at hl 0 rfl) ?_
  refine lv_iconst (v := 4) hx hb dX5_init_15 (by decide) ?_
  refine lv_icmp_ge (tgt := 38) hx hb dX5_init_16 (by decide) (fun k => absurd k (by decide)) (fun k => ?_)
  clear k
  refine lv_aload_n hx hb dX5_init_19 rfl (lv_at hl 1 rfl) ?_
  refine va_get (D := D) (ci := 5) (v := .ref q1) (C := RX5) (T := TX5) (N := 2) hx hb hts hi5 hown hK.1 hP 0 rfl rfl 1 (by decide) fl11 (fun _ h9 => h9) rfl dX5_init_20 ?_
  refine lv_iload_n hx hb dX5_init_23 rfl (lv_at hl 0 rfl) ?_
  refine va_new (ci := 2) (fs := [.null, .null, .null, .null, .int 0, .null, .int 0, .int 0, .int 0, .int 0, .int 0]) (C := RX2) (T := TX2) (N := 11) hx hb hts hi2 tyX2 tyX2_ok hown cl9 itX2 iiX2 hK.1 hP hD hS hA rfl (by intro j hj; match j, hj with | 0, _ => rfl | 1, _ => rfl | 2, _ => rfl | 3, _ => rfl | 4, _ => rfl | 5, _ => rfl | 6, _ => rfl | 7, _ => rfl | 8, _ => rfl | 9, _ => rfl | 10, _ => rfl | j + 11, hj => exact absurd hj (by omega)) (Nat.le_of_ble_eq_true rfl) (Nat.le_of_ble_eq_true rfl) dX5_init_24 (fun q4 H hP hD hS => ?_)
  have hP : va_P D vwCl (([(h0, .inr (5, [.int 0, .ref q1]))] : va_W) ++ ([(q1, .inl (tt 3, 4, .inr (.inr (.inr (.inr (va_up (fun _ => none) 0 (some (k3 0))))))))] : va_W) ++ zw_co tt k3 zv0 ++ ([(q4, .inr (2, [.null, .null, .null, .null, .int 0, .null, .int 0, .int 0, .int 0, .int 0, .int 0]))] : va_W)) H := hP
  have hD : va_D A (([(h0, .inr (5, [.int 0, .ref q1]))] : va_W) ++ ([(q1, .inl (tt 3, 4, .inr (.inr (.inr (.inr (va_up (fun _ => none) 0 (some (k3 0))))))))] : va_W) ++ zw_co tt k3 zv0 ++ ([(q4, .inr (2, [.null, .null, .null, .null, .int 0, .null, .int 0, .int 0, .int 0, .int 0, .int 0]))] : va_W)) := hD
  refine lv_dup hx hb dX5_init_27 rfl ?_
  have hpm : List.Perm (([(h0, .inr (5, [.int 0, .ref q1]))] : va_W) ++ ([(q1, .inl (tt 3, 4, .inr (.inr (.inr (.inr (va_up (fun _ => none) 0 (some (k3 0))))))))] : va_W) ++ zw_co tt k3 zv0 ++ ([(q4, .inr (2, [.null, .null, .null, .null, .int 0, .null, .int 0, .int 0, .int 0, .int 0, .int 0]))] : va_W)) (([(q4, .inr (2, [.null, .null, .null, .null, .int 0, .null, .int 0, .int 0, .int 0, .int 0, .int 0]))] : va_W) ++ (([(h0, .inr (5, [.int 0, .ref q1]))] : va_W) ++ ([(q1, .inl (tt 3, 4, .inr (.inr (.inr (.inr (va_up (fun _ => none) 0 (some (k3 0))))))))] : va_W) ++ zw_co tt k3 zv0)) := z_pm (fun _ x => by simp only [List.count_append] <;> omega)
  have hPc := z_takeP hpm hP
  have hDc := z_takeD hpm hD
  have hFc := z_free0 hDc hS hA
  refine va_callv (va_runIN (As := []) (rest := [.ref q4, .int 1, .ref q1]) ⟨hx, hb, hml, hown, hts⟩ (c_X2_init l D tt q4 _) ⟨va_cnB (host := "CapStacks") 0 hts gX5_init_X2_init_n17 rfl rfl rfl (hK.2.1 (RX5, 17, yX2_init, "CapStacks") (List.mem_of_getElem? (i := 4) rfl)) iiX2 (by decide +kernel) ⟨Nat.le_of_ble_eq_true rfl, Nat.le_of_ble_eq_true rfl⟩, rfl, imX2⟩ (z_preSm hK hPc hDc) rfl rfl hl.1 rfl (lv_room (Nat.le_of_ble_eq_true rfl)) dX5_init_28 ⟨Nat.le_of_ble_eq_true rfl, Nat.le_of_ble_eq_true rfl⟩) hS (fun q _ h => hFc q h) hFc (fun k5 t H1 locs ht hvm hw hB hz1 hk1 hS => ?_)
  have hw : k5 0 = q4 := hw
  subst hw
  obtain ⟨hP1, hD1⟩ := hB
  rw [ht] at hP1
  clear ht hvm hz1
  have hpm2 : List.Perm (([(h0, .inr (5, [.int 0, .ref q1]))] : va_W) ++ ([(q1, .inl (tt 3, 4, .inr (.inr (.inr (.inr (va_up (fun _ => none) 0 (some (k3 0))))))))] : va_W) ++ zw_co tt k3 zv0 ++ zw_co tt k5 zv0) ((zw_co tt k5 zv0) ++ (([(h0, .inr (5, [.int 0, .ref q1]))] : va_W) ++ ([(q1, .inl (tt 3, 4, .inr (.inr (.inr (.inr (va_up (fun _ => none) 0 (some (k3 0))))))))] : va_W) ++ zw_co tt k3 zv0)) := z_pm (fun _ x => by simp only [List.count_append] <;> omega)
  obtain ⟨hP, hD⟩ := z_joinB hpm hpm2 hP hD hk1 hFc hP1 hD1
  clear hpm hpm2
  generalize H1 = H at hP hS ⊢
  refine va_astq hx hb hK.1 hP hD hS 1 3 26 2 rfl rfl rfl rfl (vp_in_lit 1 4 rfl) dX5_init_31 (fun H locs hP hD hS => ?_)
  rw [show (1 : Int32).toNatClampNeg = 1 from by decide] at hP hD
  have hP : va_P D vwCl (([(h0, .inr (5, [.int 0, .ref q1]))] : va_W) ++ ([(q1, .inl (tt 3, 4, .inr (.inr (.inr (.inr (va_up (va_up (fun _ => none) 0 (some (k3 0))) 1 (some (k5 0))))))))] : va_W) ++ zw_co tt k3 zv0 ++ zw_co tt k5 zv0) H := hP
  have hD : va_D A (([(h0, .inr (5, [.int 0, .ref q1]))] : va_W) ++ ([(q1, .inl (tt 3, 4, .inr (.inr (.inr (.inr (va_up (va_up (fun _ => none) 0 (some (k3 0))) 1 (some (k5 0))))))))] : va_W) ++ zw_co tt k3 zv0 ++ zw_co tt k5 zv0) := hD
  refine lv_iinc (v := 2) (lv' := [(1, .int 2), (0, .ref h0)]) hx hb dX5_init_32 hl (k := 0) rfl (by decide) (by decide) rfl (fun ls hl => ?_)
  refine lv_goto (tgt := 14) hx hb dX5_init_35 (by decide) ?_
  refine lv_iload_n hx hb dX5_init_14 rfl (lv_at hl 0 rfl) ?_
  refine lv_iconst (v := 4) hx hb dX5_init_15 (by decide) ?_
  refine lv_icmp_ge (tgt := 38) hx hb dX5_init_16 (by decide) (fun k => absurd k (by decide)) (fun k => ?_)
  clear k
  refine lv_aload_n hx hb dX5_init_19 rfl (lv_at hl 1 rfl) ?_
  refine va_get (D := D) (ci := 5) (v := .ref q1) (C := RX5) (T := TX5) (N := 2) hx hb hts hi5 hown hK.1 hP 0 rfl rfl 1 (by decide) fl11 (fun _ h9 => h9) rfl dX5_init_20 ?_
  refine lv_iload_n hx hb dX5_init_23 rfl (lv_at hl 0 rfl) ?_
  refine va_new (ci := 2) (fs := [.null, .null, .null, .null, .int 0, .null, .int 0, .int 0, .int 0, .int 0, .int 0]) (C := RX2) (T := TX2) (N := 11) hx hb hts hi2 tyX2 tyX2_ok hown cl9 itX2 iiX2 hK.1 hP hD hS hA rfl (by intro j hj; match j, hj with | 0, _ => rfl | 1, _ => rfl | 2, _ => rfl | 3, _ => rfl | 4, _ => rfl | 5, _ => rfl | 6, _ => rfl | 7, _ => rfl | 8, _ => rfl | 9, _ => rfl | 10, _ => rfl | j + 11, hj => exact absurd hj (by omega)) (Nat.le_of_ble_eq_true rfl) (Nat.le_of_ble_eq_true rfl) dX5_init_24 (fun q6 H hP hD hS => ?_)
  have hP : va_P D vwCl (([(h0, .inr (5, [.int 0, .ref q1]))] : va_W) ++ ([(q1, .inl (tt 3, 4, .inr (.inr (.inr (.inr (va_up (va_up (fun _ => none) 0 (some (k3 0))) 1 (some (k5 0))))))))] : va_W) ++ zw_co tt k3 zv0 ++ zw_co tt k5 zv0 ++ ([(q6, .inr (2, [.null, .null, .null, .null, .int 0, .null, .int 0, .int 0, .int 0, .int 0, .int 0]))] : va_W)) H := hP
  have hD : va_D A (([(h0, .inr (5, [.int 0, .ref q1]))] : va_W) ++ ([(q1, .inl (tt 3, 4, .inr (.inr (.inr (.inr (va_up (va_up (fun _ => none) 0 (some (k3 0))) 1 (some (k5 0))))))))] : va_W) ++ zw_co tt k3 zv0 ++ zw_co tt k5 zv0 ++ ([(q6, .inr (2, [.null, .null, .null, .null, .int 0, .null, .int 0, .int 0, .int 0, .int 0, .int 0]))] : va_W)) := hD
  refine lv_dup hx hb dX5_init_27 rfl ?_
  have hpm : List.Perm (([(h0, .inr (5, [.int 0, .ref q1]))] : va_W) ++ ([(q1, .inl (tt 3, 4, .inr (.inr (.inr (.inr (va_up (va_up (fun _ => none) 0 (some (k3 0))) 1 (some (k5 0))))))))] : va_W) ++ zw_co tt k3 zv0 ++ zw_co tt k5 zv0 ++ ([(q6, .inr (2, [.null, .null, .null, .null, .int 0, .null, .int 0, .int 0, .int 0, .int 0, .int 0]))] : va_W)) (([(q6, .inr (2, [.null, .null, .null, .null, .int 0, .null, .int 0, .int 0, .int 0, .int 0, .int 0]))] : va_W) ++ (([(h0, .inr (5, [.int 0, .ref q1]))] : va_W) ++ ([(q1, .inl (tt 3, 4, .inr (.inr (.inr (.inr (va_up (va_up (fun _ => none) 0 (some (k3 0))) 1 (some (k5 0))))))))] : va_W) ++ zw_co tt k3 zv0 ++ zw_co tt k5 zv0)) := z_pm (fun _ x => by simp only [List.count_append] <;> omega)
  have hPc := z_takeP hpm hP
  have hDc := z_takeD hpm hD
  have hFc := z_free0 hDc hS hA
  refine va_callv (va_runIN (As := []) (rest := [.ref q6, .int 2, .ref q1]) ⟨hx, hb, hml, hown, hts⟩ (c_X2_init l D tt q6 _) ⟨va_cnB (host := "CapStacks") 0 hts gX5_init_X2_init_n17 rfl rfl rfl (hK.2.1 (RX5, 17, yX2_init, "CapStacks") (List.mem_of_getElem? (i := 4) rfl)) iiX2 (by decide +kernel) ⟨Nat.le_of_ble_eq_true rfl, Nat.le_of_ble_eq_true rfl⟩, rfl, imX2⟩ (z_preSm hK hPc hDc) rfl rfl hl.1 rfl (lv_room (Nat.le_of_ble_eq_true rfl)) dX5_init_28 ⟨Nat.le_of_ble_eq_true rfl, Nat.le_of_ble_eq_true rfl⟩) hS (fun q _ h => hFc q h) hFc (fun k7 t H1 locs ht hvm hw hB hz1 hk1 hS => ?_)
  have hw : k7 0 = q6 := hw
  subst hw
  obtain ⟨hP1, hD1⟩ := hB
  rw [ht] at hP1
  clear ht hvm hz1
  have hpm2 : List.Perm (([(h0, .inr (5, [.int 0, .ref q1]))] : va_W) ++ ([(q1, .inl (tt 3, 4, .inr (.inr (.inr (.inr (va_up (va_up (fun _ => none) 0 (some (k3 0))) 1 (some (k5 0))))))))] : va_W) ++ zw_co tt k3 zv0 ++ zw_co tt k5 zv0 ++ zw_co tt k7 zv0) ((zw_co tt k7 zv0) ++ (([(h0, .inr (5, [.int 0, .ref q1]))] : va_W) ++ ([(q1, .inl (tt 3, 4, .inr (.inr (.inr (.inr (va_up (va_up (fun _ => none) 0 (some (k3 0))) 1 (some (k5 0))))))))] : va_W) ++ zw_co tt k3 zv0 ++ zw_co tt k5 zv0)) := z_pm (fun _ x => by simp only [List.count_append] <;> omega)
  obtain ⟨hP, hD⟩ := z_joinB hpm hpm2 hP hD hk1 hFc hP1 hD1
  clear hpm hpm2
  generalize H1 = H at hP hS ⊢
  refine va_astq hx hb hK.1 hP hD hS 1 3 50 2 rfl rfl rfl rfl (vp_in_lit 2 4 rfl) dX5_init_31 (fun H locs hP hD hS => ?_)
  rw [show (2 : Int32).toNatClampNeg = 2 from by decide] at hP hD
  have hP : va_P D vwCl (([(h0, .inr (5, [.int 0, .ref q1]))] : va_W) ++ ([(q1, .inl (tt 3, 4, .inr (.inr (.inr (.inr (va_up (va_up (va_up (fun _ => none) 0 (some (k3 0))) 1 (some (k5 0))) 2 (some (k7 0))))))))] : va_W) ++ zw_co tt k3 zv0 ++ zw_co tt k5 zv0 ++ zw_co tt k7 zv0) H := hP
  have hD : va_D A (([(h0, .inr (5, [.int 0, .ref q1]))] : va_W) ++ ([(q1, .inl (tt 3, 4, .inr (.inr (.inr (.inr (va_up (va_up (va_up (fun _ => none) 0 (some (k3 0))) 1 (some (k5 0))) 2 (some (k7 0))))))))] : va_W) ++ zw_co tt k3 zv0 ++ zw_co tt k5 zv0 ++ zw_co tt k7 zv0) := hD
  refine lv_iinc (v := 3) (lv' := [(1, .int 3), (0, .ref h0)]) hx hb dX5_init_32 hl (k := 0) rfl (by decide) (by decide) rfl (fun ls hl => ?_)
  refine lv_goto (tgt := 14) hx hb dX5_init_35 (by decide) ?_
  refine lv_iload_n hx hb dX5_init_14 rfl (lv_at hl 0 rfl) ?_
  refine lv_iconst (v := 4) hx hb dX5_init_15 (by decide) ?_
  refine lv_icmp_ge (tgt := 38) hx hb dX5_init_16 (by decide) (fun k => absurd k (by decide)) (fun k => ?_)
  clear k
  refine lv_aload_n hx hb dX5_init_19 rfl (lv_at hl 1 rfl) ?_
  refine va_get (D := D) (ci := 5) (v := .ref q1) (C := RX5) (T := TX5) (N := 2) hx hb hts hi5 hown hK.1 hP 0 rfl rfl 1 (by decide) fl11 (fun _ h9 => h9) rfl dX5_init_20 ?_
  refine lv_iload_n hx hb dX5_init_23 rfl (lv_at hl 0 rfl) ?_
  refine va_new (ci := 2) (fs := [.null, .null, .null, .null, .int 0, .null, .int 0, .int 0, .int 0, .int 0, .int 0]) (C := RX2) (T := TX2) (N := 11) hx hb hts hi2 tyX2 tyX2_ok hown cl9 itX2 iiX2 hK.1 hP hD hS hA rfl (by intro j hj; match j, hj with | 0, _ => rfl | 1, _ => rfl | 2, _ => rfl | 3, _ => rfl | 4, _ => rfl | 5, _ => rfl | 6, _ => rfl | 7, _ => rfl | 8, _ => rfl | 9, _ => rfl | 10, _ => rfl | j + 11, hj => exact absurd hj (by omega)) (Nat.le_of_ble_eq_true rfl) (Nat.le_of_ble_eq_true rfl) dX5_init_24 (fun q8 H hP hD hS => ?_)
  have hP : va_P D vwCl (([(h0, .inr (5, [.int 0, .ref q1]))] : va_W) ++ ([(q1, .inl (tt 3, 4, .inr (.inr (.inr (.inr (va_up (va_up (va_up (fun _ => none) 0 (some (k3 0))) 1 (some (k5 0))) 2 (some (k7 0))))))))] : va_W) ++ zw_co tt k3 zv0 ++ zw_co tt k5 zv0 ++ zw_co tt k7 zv0 ++ ([(q8, .inr (2, [.null, .null, .null, .null, .int 0, .null, .int 0, .int 0, .int 0, .int 0, .int 0]))] : va_W)) H := hP
  have hD : va_D A (([(h0, .inr (5, [.int 0, .ref q1]))] : va_W) ++ ([(q1, .inl (tt 3, 4, .inr (.inr (.inr (.inr (va_up (va_up (va_up (fun _ => none) 0 (some (k3 0))) 1 (some (k5 0))) 2 (some (k7 0))))))))] : va_W) ++ zw_co tt k3 zv0 ++ zw_co tt k5 zv0 ++ zw_co tt k7 zv0 ++ ([(q8, .inr (2, [.null, .null, .null, .null, .int 0, .null, .int 0, .int 0, .int 0, .int 0, .int 0]))] : va_W)) := hD
  refine lv_dup hx hb dX5_init_27 rfl ?_
  have hpm : List.Perm (([(h0, .inr (5, [.int 0, .ref q1]))] : va_W) ++ ([(q1, .inl (tt 3, 4, .inr (.inr (.inr (.inr (va_up (va_up (va_up (fun _ => none) 0 (some (k3 0))) 1 (some (k5 0))) 2 (some (k7 0))))))))] : va_W) ++ zw_co tt k3 zv0 ++ zw_co tt k5 zv0 ++ zw_co tt k7 zv0 ++ ([(q8, .inr (2, [.null, .null, .null, .null, .int 0, .null, .int 0, .int 0, .int 0, .int 0, .int 0]))] : va_W)) (([(q8, .inr (2, [.null, .null, .null, .null, .int 0, .null, .int 0, .int 0, .int 0, .int 0, .int 0]))] : va_W) ++ (([(h0, .inr (5, [.int 0, .ref q1]))] : va_W) ++ ([(q1, .inl (tt 3, 4, .inr (.inr (.inr (.inr (va_up (va_up (va_up (fun _ => none) 0 (some (k3 0))) 1 (some (k5 0))) 2 (some (k7 0))))))))] : va_W) ++ zw_co tt k3 zv0 ++ zw_co tt k5 zv0 ++ zw_co tt k7 zv0)) := z_pm (fun _ x => by simp only [List.count_append] <;> omega)
  have hPc := z_takeP hpm hP
  have hDc := z_takeD hpm hD
  have hFc := z_free0 hDc hS hA
  refine va_callv (va_runIN (As := []) (rest := [.ref q8, .int 3, .ref q1]) ⟨hx, hb, hml, hown, hts⟩ (c_X2_init l D tt q8 _) ⟨va_cnB (host := "CapStacks") 0 hts gX5_init_X2_init_n17 rfl rfl rfl (hK.2.1 (RX5, 17, yX2_init, "CapStacks") (List.mem_of_getElem? (i := 4) rfl)) iiX2 (by decide +kernel) ⟨Nat.le_of_ble_eq_true rfl, Nat.le_of_ble_eq_true rfl⟩, rfl, imX2⟩ (z_preSm hK hPc hDc) rfl rfl hl.1 rfl (lv_room (Nat.le_of_ble_eq_true rfl)) dX5_init_28 ⟨Nat.le_of_ble_eq_true rfl, Nat.le_of_ble_eq_true rfl⟩) hS (fun q _ h => hFc q h) hFc (fun k9 t H1 locs ht hvm hw hB hz1 hk1 hS => ?_)
  have hw : k9 0 = q8 := hw
  subst hw
  obtain ⟨hP1, hD1⟩ := hB
  rw [ht] at hP1
  clear ht hvm hz1
  have hpm2 : List.Perm (([(h0, .inr (5, [.int 0, .ref q1]))] : va_W) ++ ([(q1, .inl (tt 3, 4, .inr (.inr (.inr (.inr (va_up (va_up (va_up (fun _ => none) 0 (some (k3 0))) 1 (some (k5 0))) 2 (some (k7 0))))))))] : va_W) ++ zw_co tt k3 zv0 ++ zw_co tt k5 zv0 ++ zw_co tt k7 zv0 ++ zw_co tt k9 zv0) ((zw_co tt k9 zv0) ++ (([(h0, .inr (5, [.int 0, .ref q1]))] : va_W) ++ ([(q1, .inl (tt 3, 4, .inr (.inr (.inr (.inr (va_up (va_up (va_up (fun _ => none) 0 (some (k3 0))) 1 (some (k5 0))) 2 (some (k7 0))))))))] : va_W) ++ zw_co tt k3 zv0 ++ zw_co tt k5 zv0 ++ zw_co tt k7 zv0)) := z_pm (fun _ x => by simp only [List.count_append] <;> omega)
  obtain ⟨hP, hD⟩ := z_joinB hpm hpm2 hP hD hk1 hFc hP1 hD1
  clear hpm hpm2
  generalize H1 = H at hP hS ⊢
  refine va_astq hx hb hK.1 hP hD hS 1 3 74 2 rfl rfl rfl rfl (vp_in_lit 3 4 rfl) dX5_init_31 (fun H locs hP hD hS => ?_)
  rw [show (3 : Int32).toNatClampNeg = 3 from by decide] at hP hD
  have hP : va_P D vwCl (([(h0, .inr (5, [.int 0, .ref q1]))] : va_W) ++ ([(q1, .inl (tt 3, 4, .inr (.inr (.inr (.inr (va_up (va_up (va_up (va_up (fun _ => none) 0 (some (k3 0))) 1 (some (k5 0))) 2 (some (k7 0))) 3 (some (k9 0))))))))] : va_W) ++ zw_co tt k3 zv0 ++ zw_co tt k5 zv0 ++ zw_co tt k7 zv0 ++ zw_co tt k9 zv0) H := hP
  have hD : va_D A (([(h0, .inr (5, [.int 0, .ref q1]))] : va_W) ++ ([(q1, .inl (tt 3, 4, .inr (.inr (.inr (.inr (va_up (va_up (va_up (va_up (fun _ => none) 0 (some (k3 0))) 1 (some (k5 0))) 2 (some (k7 0))) 3 (some (k9 0))))))))] : va_W) ++ zw_co tt k3 zv0 ++ zw_co tt k5 zv0 ++ zw_co tt k7 zv0 ++ zw_co tt k9 zv0) := hD
  refine lv_iinc (v := 4) (lv' := [(1, .int 4), (0, .ref h0)]) hx hb dX5_init_32 hl (k := 0) rfl (by decide) (by decide) rfl (fun ls hl => ?_)
  refine lv_goto (tgt := 14) hx hb dX5_init_35 (by decide) ?_
  refine lv_iload_n hx hb dX5_init_14 rfl (lv_at hl 0 rfl) ?_
  refine lv_iconst (v := 4) hx hb dX5_init_15 (by decide) ?_
  refine lv_icmp_ge (tgt := 38) hx hb dX5_init_16 (by decide) (fun k => ?_) (fun k => absurd (by decide) k)
  clear k
  have hpm : List.Perm (([(h0, .inr (5, [.int 0, .ref q1]))] : va_W) ++ ([(q1, .inl (tt 3, 4, .inr (.inr (.inr (.inr (va_up (va_up (va_up (va_up (fun _ => none) 0 (some (k3 0))) 1 (some (k5 0))) 2 (some (k7 0))) 3 (some (k9 0))))))))] : va_W) ++ zw_co tt k3 zv0 ++ zw_co tt k5 zv0 ++ zw_co tt k7 zv0 ++ zw_co tt k9 zv0) ((([(h0, .inr (5, [.int 0, .ref q1]))] : va_W) ++ (([(q1, .inl (tt 3, 4, .inr (.inr (.inr (.inr (va_up (va_up (va_up (va_up (fun _ => none) 0 (some (k3 0))) 1 (some (k5 0))) 2 (some (k7 0))) 3 (some (k9 0))))))))] : va_W) ++ (zw_co tt k3 zv0 ++ (zw_co tt k5 zv0 ++ (zw_co tt k7 zv0 ++ zw_co tt k9 zv0))))) ++ []) := z_pm (fun _ x => by simp only [List.count_append, List.count_nil] <;> omega)
  have hP : va_P D vwCl (([(h0, .inr (5, [.int 0, .ref q1]))] : va_W) ++ (q1, .inl (tt 3, 4, .inr (.inr (.inr (.inr (va_up (va_up (va_up (va_up (fun _ => none) 0 (some (k3 0))) 1 (some (k5 0))) 2 (some (k7 0))) 3 (some (k9 0)))))))) :: (zw_co tt k3 zv0 ++ (zw_co tt k5 zv0 ++ (zw_co tt k7 zv0 ++ zw_co tt k9 zv0)))) H := z_takeP hpm hP
  have hD : va_D A (([(h0, .inr (5, [.int 0, .ref q1]))] : va_W) ++ (q1, .inl (tt 3, 4, .inr (.inr (.inr (.inr (va_up (va_up (va_up (va_up (fun _ => none) 0 (some (k3 0))) 1 (some (k5 0))) 2 (some (k7 0))) 3 (some (k9 0)))))))) :: (zw_co tt k3 zv0 ++ (zw_co tt k5 zv0 ++ (zw_co tt k7 zv0 ++ zw_co tt k9 zv0)))) := z_takeD hpm hD
  have hP := z_swapP (e' := .inl (tt 3, 4, .inr (.inr (.inr (.inr fun i => some ((zu (zu (zu (zu (fun _ _ => 0) 0 k3) 1 k5) 2 k7) 3 k9) i 0)))))) hP (fun h => by
    show H[_]? = some (vp_cell _ _)
    rw [show vp_cell (tt 3) (4, .inr (.inr (.inr (.inr fun i => some ((zu (zu (zu (zu (fun _ _ => 0) 0 k3) 1 k5) 2 k7) 3 k9) i 0))))) = vp_cell (tt 3) (4, .inr (.inr (.inr (.inr (va_up (va_up (va_up (va_up (fun _ => none) 0 (some (k3 0))) 1 (some (k5 0))) 2 (some (k7 0))) 3 (some (k9 0))))))) from z_arr4 _ (fun j hj => by match j, hj with | 0, _ => rfl | 1, _ => rfl | 2, _ => rfl | 3, _ => rfl | j + 4, hj => exact absurd hj (by omega))]
    exact h)
  have hD := z_swapD (e' := .inl (tt 3, 4, .inr (.inr (.inr (.inr fun i => some ((zu (zu (zu (zu (fun _ _ => 0) 0 k3) 1 k5) 2 k7) 3 k9) i 0)))))) hD
  have hpm : List.Perm (([(h0, .inr (5, [.int 0, .ref q1]))] : va_W) ++ (([(q1, .inl (tt 3, 4, .inr (.inr (.inr (.inr fun i => some ((zu (zu (zu (zu (fun _ _ => 0) 0 k3) 1 k5) 2 k7) 3 k9) i 0))))))] : va_W) ++ (zw_co tt k3 zv0 ++ (zw_co tt k5 zv0 ++ (zw_co tt k7 zv0 ++ zw_co tt k9 zv0))))) ((([(h0, .inr (5, [.int 0, .ref q1]))] : va_W) ++ ([(q1, .inl (tt 3, 4, .inr (.inr (.inr (.inr fun i => some ((zu (zu (zu (zu (fun _ _ => 0) 0 k3) 1 k5) 2 k7) 3 k9) i 0))))))] : va_W) ++ zw_co tt k3 zv0 ++ zw_co tt k5 zv0 ++ zw_co tt k7 zv0 ++ zw_co tt k9 zv0) ++ []) := z_pm (fun _ x => by simp only [List.count_append, List.count_nil] <;> omega)
  have hP : va_P D vwCl (([(h0, .inr (5, [.int 0, .ref q1]))] : va_W) ++ ([(q1, .inl (tt 3, 4, .inr (.inr (.inr (.inr fun i => some ((zu (zu (zu (zu (fun _ _ => 0) 0 k3) 1 k5) 2 k7) 3 k9) i 0))))))] : va_W) ++ zw_co tt k3 zv0 ++ zw_co tt k5 zv0 ++ zw_co tt k7 zv0 ++ zw_co tt k9 zv0) H := z_takeP hpm hP
  have hD : va_D A (([(h0, .inr (5, [.int 0, .ref q1]))] : va_W) ++ ([(q1, .inl (tt 3, 4, .inr (.inr (.inr (.inr fun i => some ((zu (zu (zu (zu (fun _ _ => 0) 0 k3) 1 k5) 2 k7) 3 k9) i 0))))))] : va_W) ++ zw_co tt k3 zv0 ++ zw_co tt k5 zv0 ++ zw_co tt k7 zv0 ++ zw_co tt k9 zv0) := z_takeD hpm hD
  have hP9 : va_P D vwCl (zw_hi tt (zu (zu (fun _ => 0) 1 h0) 2 q1) (0, (fun _ => zv0), (zu (zu (zu (zu (fun _ _ => 0) 0 k3) 1 k5) 2 k7) 3 k9))) H := hP
  have hD9 : va_D A (zw_hi tt (zu (zu (fun _ => 0) 1 h0) 2 q1) (0, (fun _ => zv0), (zu (zu (zu (zu (fun _ _ => 0) 0 k3) 1 k5) 2 k7) 3 k9))) := hD
  exact W.vret hx hb hr (fun t ht hW => ⟨⟨((zu (zu (fun _ => 0) 1 h0) 2 q1), (zu (zu (zu (zu (fun _ _ => 0) 0 k3) 1 k5) 2 k7) 3 k9)), rfl, rfl, by rw [ht]; exact hP9, hD9⟩, hS.F ht⟩) hS.2.2 dX5_init_38
set_option maxHeartbeats 8000000 in
set_option maxRecDepth 100000 in
theorem c_X9_init (l : Launch) (D : va_G) (tt : Nat → ClassId) (h0 : Nat) (sz : Nat) : Met l yX9_init wsX9_init { frames := 4, cells := 157, slots := 1553, locals := 73 } (zPm [.ref h0] D tt ([(h0, .inr (9, [.null, .null, .null, .null, .null, .null]))] : va_W) sz) (zNo D tt h0 (va_A ([(h0, .inr (9, [.null, .null, .null, .null, .null, .null]))] : va_W) sz)) 157 1553 (va_A ([(h0, .inr (9, [.null, .null, .null, .null, .null, .null]))] : va_W) sz) := by
  refine Met.ofW (cc := cX9_init) (maxL := 1) (ret := none) (by decide) rfl ?_
  intro p e s m args below meth c s₁ B hml hv
  obtain ⟨ha, hsz, hP, hK, hD0⟩ := hv
  have hx := B.exec
  have hb := B.bytes
  have hr := B.returns
  have hts := atoms_spec (ws := wsX9_init) B.pre
  have hown : s.vm.findClass RX9 = some m.cls := findClass_of_methodNamed B.named
  have hlocks := B.notSynchronized
  have hin : meth.name = "<init>" := (name_of_methodNamed B.named B.method).1
  have hi2 : ∀ w ∈ u_ws RX2 TX2 11, w ∈ wsX9_init := fun _ h => List.mem_cons_of_mem _ (List.mem_append_left _ (List.mem_append_left _ (List.mem_append_left _ (List.mem_append_left _ (List.mem_append_left _ (List.mem_append_left _ (List.mem_append_left _ (List.mem_append_left _ (List.mem_append_left _ (List.mem_append_right _ h))))))))))
  have hi3 : ∀ w ∈ u_ws RX3 TX3 8, w ∈ wsX9_init := fun _ h => List.mem_cons_of_mem _ (List.mem_append_left _ (List.mem_append_left _ (List.mem_append_left _ (List.mem_append_left _ (List.mem_append_left _ (List.mem_append_left _ (List.mem_append_right _ h)))))))
  have hi5 : ∀ w ∈ u_ws RX5 TX5 2, w ∈ wsX9_init := fun _ h => List.mem_cons_of_mem _ (List.mem_append_left _ (List.mem_append_left _ (List.mem_append_left _ (List.mem_append_left _ (List.mem_append_left _ (List.mem_append_left _ (List.mem_append_left _ (List.mem_append_right _ h))))))))
  have hi6 : ∀ w ∈ u_ws RX6 TX6 4, w ∈ wsX9_init := fun _ h => List.mem_cons_of_mem _ (List.mem_append_left _ (List.mem_append_left _ (List.mem_append_left _ (List.mem_append_left _ (List.mem_append_right _ h)))))
  have hi8 : ∀ w ∈ u_ws RX8 TX8 4, w ∈ wsX9_init := fun _ h => List.mem_cons_of_mem _ (List.mem_append_left _ (List.mem_append_left _ (List.mem_append_left _ (List.mem_append_left _ (List.mem_append_left _ (List.mem_append_right _ h))))))
  have hi9 : ∀ w ∈ u_ws RX9 TX9 6, w ∈ wsX9_init := fun _ h => List.mem_cons_of_mem _ (List.mem_append_left _ (List.mem_append_left _ (List.mem_append_left _ (List.mem_append_left _ (List.mem_append_left _ (List.mem_append_left _ (List.mem_append_left _ (List.mem_append_left _ (List.mem_append_right _ h)))))))))
  have cl19 := hts (.classLink RX9 19 RX5) (by decide +kernel)
  have cl26 := hts (.classLink RX9 26 RX3) (by decide +kernel)
  have cl33 := hts (.classLink RX9 33 RX8) (by decide +kernel)
  have cl40 := hts (.classLink RX9 40 RX6) (by decide +kernel)
  have cl7 := hts (.classLink RX9 7 RX2) (by decide +kernel)
  have fl10 := hts (.fieldLink RX9 10 "CapStacks" "company" "LCapStacks$Company;") (by decide +kernel)
  have fl16 := hts (.fieldLink RX9 16 "CapStacks" "draft" "LCapStacks$Company;") (by decide +kernel)
  have fl22 := hts (.fieldLink RX9 22 "CapStacks" "history" "LCapStacks$History;") (by decide +kernel)
  have fl29 := hts (.fieldLink RX9 29 "CapStacks" "exit" "LCapStacks$Exit;") (by decide +kernel)
  have fl36 := hts (.fieldLink RX9 36 "CapStacks" "text" "LCapStacks$Text;") (by decide +kernel)
  have fl43 := hts (.fieldLink RX9 43 "CapStacks" "rehearsal" "LCapStacks$Rehearsal;") (by decide +kernel)
  have iiX2 := hts (.initialized RX2) (by decide +kernel)
  have iiX3 := hts (.initialized RX3) (by decide +kernel)
  have iiX5 := hts (.initialized RX5) (by decide +kernel)
  have iiX6 := hts (.initialized RX6) (by decide +kernel)
  have iiX8 := hts (.initialized RX8) (by decide +kernel)
  have imX2 := hts (.instanceMethod yX2_init) (by decide +kernel)
  have imX3 := hts (.instanceMethod yX3_init) (by decide +kernel)
  have imX5 := hts (.instanceMethod yX5_init) (by decide +kernel)
  have imX6 := hts (.instanceMethod yX6_init) (by decide +kernel)
  have imX8 := hts (.instanceMethod yX8_init) (by decide +kernel)
  have itX2 := hts (.instantiable RX2 11) (by decide +kernel)
  have itX3 := hts (.instantiable RX3 8) (by decide +kernel)
  have itX5 := hts (.instantiable RX5 2) (by decide +kernel)
  have itX6 := hts (.instantiable RX6 4) (by decide +kernel)
  have itX8 := hts (.instantiable RX8 4) (by decide +kernel)
  have ml21 := hts (.methodLink RX9 21 yX5_init) (by decide +kernel)
  subst hsz
  have hD := hD0.self (sz := s.heap.size)
  generalize hAe : va_A ([(h0, .inr (9, [.null, .null, .null, .null, .null, .null]))] : va_W) s.heap.size = A at hD ⊢
  have hA : ∀ q : Nat, s.heap.size ≤ q → A q := fun q h => by rw [← hAe]; exact Or.inr h
  have hS : va_S A s.heap s.heap [] := va_S.rf
  have hl := lv_entry ([.ref h0]) (n := 1) (Nat.le_of_ble_eq_true rfl)
  refine W.eq (g2 := F0 m 0 ((lg_sl ([.ref h0]) ++ List.replicate (1 - (lg_sl ([.ref h0])).length) Slot.unset).toArray) []) (by rw [ha]; exact lg_entry_eq _ _ _) ?_
  generalize (lg_sl ([.ref h0]) ++ List.replicate (1 - (lg_sl ([.ref h0])).length) Slot.unset).toArray = ls at hl ⊢
  have hl : lv_has ls 1 [(0, .ref h0)] := hl
  refine lv_aload_n hx hb dX9_init_0 rfl (lv_at hl 0 rfl) ?_
  refine W.objInit hx hb hown (hts (.methodLink RX9 1 objectInit) (by decide +kernel)) (hts (.instanceMethod objectInit) (by decide +kernel)) (hts (.code objectInit ⟨#[0xb1]⟩ 1 none) (by decide +kernel)) rfl (by rw [hml]; exact hl.1) rfl dX9_init_1 (Nat.le_of_ble_eq_true rfl) (Nat.le_of_ble_eq_true rfl) ?_
  refine W.eq (g2 := F0 m 4 ls []) rfl ?_
  refine lv_aload_n hx hb dX9_init_4 rfl (lv_at hl 0 rfl) ?_
  refine va_new (ci := 2) (fs := [.null, .null, .null, .null, .int 0, .null, .int 0, .int 0, .int 0, .int 0, .int 0]) (C := RX2) (T := TX2) (N := 11) hx hb hts hi2 tyX2 tyX2_ok hown cl7 itX2 iiX2 hK.1 hP hD hS hA rfl (by intro j hj; match j, hj with | 0, _ => rfl | 1, _ => rfl | 2, _ => rfl | 3, _ => rfl | 4, _ => rfl | 5, _ => rfl | 6, _ => rfl | 7, _ => rfl | 8, _ => rfl | 9, _ => rfl | 10, _ => rfl | j + 11, hj => exact absurd hj (by omega)) (Nat.le_of_ble_eq_true rfl) (Nat.le_of_ble_eq_true rfl) dX9_init_5 (fun q1 H hP hD hS => ?_)
  have hP : va_P D vwCl (([(h0, .inr (9, [.null, .null, .null, .null, .null, .null]))] : va_W) ++ ([(q1, .inr (2, [.null, .null, .null, .null, .int 0, .null, .int 0, .int 0, .int 0, .int 0, .int 0]))] : va_W)) H := hP
  have hD : va_D A (([(h0, .inr (9, [.null, .null, .null, .null, .null, .null]))] : va_W) ++ ([(q1, .inr (2, [.null, .null, .null, .null, .int 0, .null, .int 0, .int 0, .int 0, .int 0, .int 0]))] : va_W)) := hD
  refine lv_dup hx hb dX9_init_8 rfl ?_
  have hpm : List.Perm (([(h0, .inr (9, [.null, .null, .null, .null, .null, .null]))] : va_W) ++ ([(q1, .inr (2, [.null, .null, .null, .null, .int 0, .null, .int 0, .int 0, .int 0, .int 0, .int 0]))] : va_W)) (([(q1, .inr (2, [.null, .null, .null, .null, .int 0, .null, .int 0, .int 0, .int 0, .int 0, .int 0]))] : va_W) ++ ([(h0, .inr (9, [.null, .null, .null, .null, .null, .null]))] : va_W)) := z_pm (fun _ x => by simp only [List.count_append] <;> omega)
  have hPc := z_takeP hpm hP
  have hDc := z_takeD hpm hD
  have hFc := z_free0 hDc hS hA
  refine va_callv (va_runIN (As := []) (rest := [.ref q1, .ref h0]) ⟨hx, hb, hml, hown, hts⟩ (c_X2_init l D tt q1 _) ⟨va_cnB (host := "CapStacks") 0 hts gX9_init_X2_init_n9 rfl rfl rfl (hK.2.1 (RX9, 9, yX2_init, "CapStacks") (List.mem_of_getElem? (i := 0) rfl)) iiX2 (by decide +kernel) ⟨Nat.le_of_ble_eq_true rfl, Nat.le_of_ble_eq_true rfl⟩, rfl, imX2⟩ (z_preSm hK hPc hDc) rfl rfl hl.1 rfl (lv_room (Nat.le_of_ble_eq_true rfl)) dX9_init_9 ⟨Nat.le_of_ble_eq_true rfl, Nat.le_of_ble_eq_true rfl⟩) hS (fun q _ h => hFc q h) hFc (fun k2 t H1 locs ht hvm hw hB hz1 hk1 hS => ?_)
  have hw : k2 0 = q1 := hw
  subst hw
  obtain ⟨hP1, hD1⟩ := hB
  rw [ht] at hP1
  clear ht hvm hz1
  have hpm2 : List.Perm (([(h0, .inr (9, [.null, .null, .null, .null, .null, .null]))] : va_W) ++ zw_co tt k2 zv0) ((zw_co tt k2 zv0) ++ ([(h0, .inr (9, [.null, .null, .null, .null, .null, .null]))] : va_W)) := z_pm (fun _ x => by simp only [List.count_append] <;> omega)
  obtain ⟨hP, hD⟩ := z_joinB hpm hpm2 hP hD hk1 hFc hP1 hD1
  clear hpm hpm2
  generalize H1 = H at hP hS ⊢
  refine va_putF (D := D) (ci := 9) (v := .ref (k2 0)) (ty := .object "CapStacks$Company") (C := RX9) (T := TX9) (N := 6) hx hb hts hi9 tyX9 tyX9_ok nmX9 hown hK.1 hP hD hS 0 rfl rfl 0 (by decide) fl10 (fun _ h9 => h9) rfl hin rfl (by decide +kernel) rfl rfl (Nat.le_of_ble_eq_true rfl) dX9_init_12 (fun H locs hP hD hS => ?_)
  have hP : va_P D vwCl (([(h0, .inr (9, [.ref (k2 0), .null, .null, .null, .null, .null]))] : va_W) ++ zw_co tt k2 zv0) H := hP
  have hD : va_D A (([(h0, .inr (9, [.ref (k2 0), .null, .null, .null, .null, .null]))] : va_W) ++ zw_co tt k2 zv0) := hD
  refine lv_aload_n hx hb dX9_init_15 rfl (lv_at hl 0 rfl) ?_
  refine va_new (ci := 2) (fs := [.null, .null, .null, .null, .int 0, .null, .int 0, .int 0, .int 0, .int 0, .int 0]) (C := RX2) (T := TX2) (N := 11) hx hb hts hi2 tyX2 tyX2_ok hown cl7 itX2 iiX2 hK.1 hP hD hS hA rfl (by intro j hj; match j, hj with | 0, _ => rfl | 1, _ => rfl | 2, _ => rfl | 3, _ => rfl | 4, _ => rfl | 5, _ => rfl | 6, _ => rfl | 7, _ => rfl | 8, _ => rfl | 9, _ => rfl | 10, _ => rfl | j + 11, hj => exact absurd hj (by omega)) (Nat.le_of_ble_eq_true rfl) (Nat.le_of_ble_eq_true rfl) dX9_init_16 (fun q3 H hP hD hS => ?_)
  have hP : va_P D vwCl (([(h0, .inr (9, [.ref (k2 0), .null, .null, .null, .null, .null]))] : va_W) ++ zw_co tt k2 zv0 ++ ([(q3, .inr (2, [.null, .null, .null, .null, .int 0, .null, .int 0, .int 0, .int 0, .int 0, .int 0]))] : va_W)) H := hP
  have hD : va_D A (([(h0, .inr (9, [.ref (k2 0), .null, .null, .null, .null, .null]))] : va_W) ++ zw_co tt k2 zv0 ++ ([(q3, .inr (2, [.null, .null, .null, .null, .int 0, .null, .int 0, .int 0, .int 0, .int 0, .int 0]))] : va_W)) := hD
  refine lv_dup hx hb dX9_init_19 rfl ?_
  have hpm : List.Perm (([(h0, .inr (9, [.ref (k2 0), .null, .null, .null, .null, .null]))] : va_W) ++ zw_co tt k2 zv0 ++ ([(q3, .inr (2, [.null, .null, .null, .null, .int 0, .null, .int 0, .int 0, .int 0, .int 0, .int 0]))] : va_W)) (([(q3, .inr (2, [.null, .null, .null, .null, .int 0, .null, .int 0, .int 0, .int 0, .int 0, .int 0]))] : va_W) ++ (([(h0, .inr (9, [.ref (k2 0), .null, .null, .null, .null, .null]))] : va_W) ++ zw_co tt k2 zv0)) := z_pm (fun _ x => by simp only [List.count_append] <;> omega)
  have hPc := z_takeP hpm hP
  have hDc := z_takeD hpm hD
  have hFc := z_free0 hDc hS hA
  refine va_callv (va_runIN (As := []) (rest := [.ref q3, .ref h0]) ⟨hx, hb, hml, hown, hts⟩ (c_X2_init l D tt q3 _) ⟨va_cnB (host := "CapStacks") 0 hts gX9_init_X2_init_n9 rfl rfl rfl (hK.2.1 (RX9, 9, yX2_init, "CapStacks") (List.mem_of_getElem? (i := 0) rfl)) iiX2 (by decide +kernel) ⟨Nat.le_of_ble_eq_true rfl, Nat.le_of_ble_eq_true rfl⟩, rfl, imX2⟩ (z_preSm hK hPc hDc) rfl rfl hl.1 rfl (lv_room (Nat.le_of_ble_eq_true rfl)) dX9_init_20 ⟨Nat.le_of_ble_eq_true rfl, Nat.le_of_ble_eq_true rfl⟩) hS (fun q _ h => hFc q h) hFc (fun k4 t H1 locs ht hvm hw hB hz1 hk1 hS => ?_)
  have hw : k4 0 = q3 := hw
  subst hw
  obtain ⟨hP1, hD1⟩ := hB
  rw [ht] at hP1
  clear ht hvm hz1
  have hpm2 : List.Perm (([(h0, .inr (9, [.ref (k2 0), .null, .null, .null, .null, .null]))] : va_W) ++ zw_co tt k2 zv0 ++ zw_co tt k4 zv0) ((zw_co tt k4 zv0) ++ (([(h0, .inr (9, [.ref (k2 0), .null, .null, .null, .null, .null]))] : va_W) ++ zw_co tt k2 zv0)) := z_pm (fun _ x => by simp only [List.count_append] <;> omega)
  obtain ⟨hP, hD⟩ := z_joinB hpm hpm2 hP hD hk1 hFc hP1 hD1
  clear hpm hpm2
  generalize H1 = H at hP hS ⊢
  refine va_putF (D := D) (ci := 9) (v := .ref (k4 0)) (ty := .object "CapStacks$Company") (C := RX9) (T := TX9) (N := 6) hx hb hts hi9 tyX9 tyX9_ok nmX9 hown hK.1 hP hD hS 0 rfl rfl 1 (by decide) fl16 (fun _ h9 => h9) rfl hin rfl (by decide +kernel) rfl rfl (Nat.le_of_ble_eq_true rfl) dX9_init_23 (fun H locs hP hD hS => ?_)
  have hP : va_P D vwCl (([(h0, .inr (9, [.ref (k2 0), .ref (k4 0), .null, .null, .null, .null]))] : va_W) ++ zw_co tt k2 zv0 ++ zw_co tt k4 zv0) H := hP
  have hD : va_D A (([(h0, .inr (9, [.ref (k2 0), .ref (k4 0), .null, .null, .null, .null]))] : va_W) ++ zw_co tt k2 zv0 ++ zw_co tt k4 zv0) := hD
  refine lv_aload_n hx hb dX9_init_26 rfl (lv_at hl 0 rfl) ?_
  refine va_new (ci := 5) (fs := [.int 0, .null]) (C := RX5) (T := TX5) (N := 2) hx hb hts hi5 tyX5 tyX5_ok hown cl19 itX5 iiX5 hK.1 hP hD hS hA rfl (by intro j hj; match j, hj with | 0, _ => rfl | 1, _ => rfl | j + 2, hj => exact absurd hj (by omega)) (Nat.le_of_ble_eq_true rfl) (Nat.le_of_ble_eq_true rfl) dX9_init_27 (fun q5 H hP hD hS => ?_)
  have hP : va_P D vwCl (([(h0, .inr (9, [.ref (k2 0), .ref (k4 0), .null, .null, .null, .null]))] : va_W) ++ zw_co tt k2 zv0 ++ zw_co tt k4 zv0 ++ ([(q5, .inr (5, [.int 0, .null]))] : va_W)) H := hP
  have hD : va_D A (([(h0, .inr (9, [.ref (k2 0), .ref (k4 0), .null, .null, .null, .null]))] : va_W) ++ zw_co tt k2 zv0 ++ zw_co tt k4 zv0 ++ ([(q5, .inr (5, [.int 0, .null]))] : va_W)) := hD
  refine lv_dup hx hb dX9_init_30 rfl ?_
  have hpm : List.Perm (([(h0, .inr (9, [.ref (k2 0), .ref (k4 0), .null, .null, .null, .null]))] : va_W) ++ zw_co tt k2 zv0 ++ zw_co tt k4 zv0 ++ ([(q5, .inr (5, [.int 0, .null]))] : va_W)) (([(q5, .inr (5, [.int 0, .null]))] : va_W) ++ (([(h0, .inr (9, [.ref (k2 0), .ref (k4 0), .null, .null, .null, .null]))] : va_W) ++ zw_co tt k2 zv0 ++ zw_co tt k4 zv0)) := z_pm (fun _ x => by simp only [List.count_append] <;> omega)
  have hPc := z_takeP hpm hP
  have hDc := z_takeD hpm hD
  have hFc := z_free0 hDc hS hA
  refine va_callv (va_runI (As := []) (rest := [.ref q5, .ref h0]) ⟨hx, hb, hml, hown, hts⟩ (c_X5_init l D tt q5 _) (cwI 0 hts gX9_init_X5_init rfl rfl rfl iiX5 ml21 imX5 rfl (by decide +kernel) ⟨Nat.le_of_ble_eq_true rfl, Nat.le_of_ble_eq_true rfl⟩) (z_preSm hK hPc hDc) rfl rfl hl.1 rfl (lv_room (Nat.le_of_ble_eq_true rfl)) dX9_init_31 ⟨Nat.le_of_ble_eq_true rfl, Nat.le_of_ble_eq_true rfl⟩) hS (fun q _ h => hFc q h) hFc (fun k6 t H1 locs ht hvm hw hB hz1 hk1 hS => ?_)
  have hw : k6.1 1 = q5 := hw
  subst hw
  obtain ⟨hP1, hD1⟩ := hB
  rw [ht] at hP1
  clear ht hvm hz1
  have hpm2 : List.Perm (([(h0, .inr (9, [.ref (k2 0), .ref (k4 0), .null, .null, .null, .null]))] : va_W) ++ zw_co tt k2 zv0 ++ zw_co tt k4 zv0 ++ zw_hi tt k6.1 (0, (fun _ => zv0), k6.2)) ((zw_hi tt k6.1 (0, (fun _ => zv0), k6.2)) ++ (([(h0, .inr (9, [.ref (k2 0), .ref (k4 0), .null, .null, .null, .null]))] : va_W) ++ zw_co tt k2 zv0 ++ zw_co tt k4 zv0)) := z_pm (fun _ x => by simp only [List.count_append] <;> omega)
  obtain ⟨hP, hD⟩ := z_joinB hpm hpm2 hP hD hk1 hFc hP1 hD1
  clear hpm hpm2
  generalize H1 = H at hP hS ⊢
  refine va_putF (D := D) (ci := 9) (v := .ref (k6.1 1)) (ty := .object "CapStacks$History") (C := RX9) (T := TX9) (N := 6) hx hb hts hi9 tyX9 tyX9_ok nmX9 hown hK.1 hP hD hS 0 rfl rfl 2 (by decide) fl22 (fun _ h9 => h9) rfl hin rfl (by decide +kernel) rfl rfl (Nat.le_of_ble_eq_true rfl) dX9_init_34 (fun H locs hP hD hS => ?_)
  have hP : va_P D vwCl (([(h0, .inr (9, [.ref (k2 0), .ref (k4 0), .ref (k6.1 1), .null, .null, .null]))] : va_W) ++ zw_co tt k2 zv0 ++ zw_co tt k4 zv0 ++ zw_hi tt k6.1 (0, (fun _ => zv0), k6.2)) H := hP
  have hD : va_D A (([(h0, .inr (9, [.ref (k2 0), .ref (k4 0), .ref (k6.1 1), .null, .null, .null]))] : va_W) ++ zw_co tt k2 zv0 ++ zw_co tt k4 zv0 ++ zw_hi tt k6.1 (0, (fun _ => zv0), k6.2)) := hD
  refine lv_aload_n hx hb dX9_init_37 rfl (lv_at hl 0 rfl) ?_
  refine va_new (ci := 3) (fs := [.int 0, .null, .int 0, .null, .null, .null, .null, .null]) (C := RX3) (T := TX3) (N := 8) hx hb hts hi3 tyX3 tyX3_ok hown cl26 itX3 iiX3 hK.1 hP hD hS hA rfl (by intro j hj; match j, hj with | 0, _ => rfl | 1, _ => rfl | 2, _ => rfl | 3, _ => rfl | 4, _ => rfl | 5, _ => rfl | 6, _ => rfl | 7, _ => rfl | j + 8, hj => exact absurd hj (by omega)) (Nat.le_of_ble_eq_true rfl) (Nat.le_of_ble_eq_true rfl) dX9_init_38 (fun q7 H hP hD hS => ?_)
  have hP : va_P D vwCl (([(h0, .inr (9, [.ref (k2 0), .ref (k4 0), .ref (k6.1 1), .null, .null, .null]))] : va_W) ++ zw_co tt k2 zv0 ++ zw_co tt k4 zv0 ++ zw_hi tt k6.1 (0, (fun _ => zv0), k6.2) ++ ([(q7, .inr (3, [.int 0, .null, .int 0, .null, .null, .null, .null, .null]))] : va_W)) H := hP
  have hD : va_D A (([(h0, .inr (9, [.ref (k2 0), .ref (k4 0), .ref (k6.1 1), .null, .null, .null]))] : va_W) ++ zw_co tt k2 zv0 ++ zw_co tt k4 zv0 ++ zw_hi tt k6.1 (0, (fun _ => zv0), k6.2) ++ ([(q7, .inr (3, [.int 0, .null, .int 0, .null, .null, .null, .null, .null]))] : va_W)) := hD
  refine lv_dup hx hb dX9_init_41 rfl ?_
  have hpm : List.Perm (([(h0, .inr (9, [.ref (k2 0), .ref (k4 0), .ref (k6.1 1), .null, .null, .null]))] : va_W) ++ zw_co tt k2 zv0 ++ zw_co tt k4 zv0 ++ zw_hi tt k6.1 (0, (fun _ => zv0), k6.2) ++ ([(q7, .inr (3, [.int 0, .null, .int 0, .null, .null, .null, .null, .null]))] : va_W)) (([(q7, .inr (3, [.int 0, .null, .int 0, .null, .null, .null, .null, .null]))] : va_W) ++ (([(h0, .inr (9, [.ref (k2 0), .ref (k4 0), .ref (k6.1 1), .null, .null, .null]))] : va_W) ++ zw_co tt k2 zv0 ++ zw_co tt k4 zv0 ++ zw_hi tt k6.1 (0, (fun _ => zv0), k6.2))) := z_pm (fun _ x => by simp only [List.count_append] <;> omega)
  have hPc := z_takeP hpm hP
  have hDc := z_takeD hpm hD
  have hFc := z_free0 hDc hS hA
  refine va_callv (va_runIN (As := []) (rest := [.ref q7, .ref h0]) ⟨hx, hb, hml, hown, hts⟩ (c_X3_init l D tt q7 _) ⟨va_cnB (host := "CapStacks") 0 hts gX9_init_X3_init_n28 rfl rfl rfl (hK.2.1 (RX9, 28, yX3_init, "CapStacks") (List.mem_of_getElem? (i := 5) rfl)) iiX3 (by decide +kernel) ⟨Nat.le_of_ble_eq_true rfl, Nat.le_of_ble_eq_true rfl⟩, rfl, imX3⟩ (z_preSm hK hPc hDc) rfl rfl hl.1 rfl (lv_room (Nat.le_of_ble_eq_true rfl)) dX9_init_42 ⟨Nat.le_of_ble_eq_true rfl, Nat.le_of_ble_eq_true rfl⟩) hS (fun q _ h => hFc q h) hFc (fun k8 t H1 locs ht hvm hw hB hz1 hk1 hS => ?_)
  have hw : k8 0 = q7 := hw
  subst hw
  obtain ⟨hP1, hD1⟩ := hB
  rw [ht] at hP1
  clear ht hvm hz1
  have hpm2 : List.Perm (([(h0, .inr (9, [.ref (k2 0), .ref (k4 0), .ref (k6.1 1), .null, .null, .null]))] : va_W) ++ zw_co tt k2 zv0 ++ zw_co tt k4 zv0 ++ zw_hi tt k6.1 (0, (fun _ => zv0), k6.2) ++ zw_ex tt k8 (fun _ _ => 0)) ((zw_ex tt k8 (fun _ _ => 0)) ++ (([(h0, .inr (9, [.ref (k2 0), .ref (k4 0), .ref (k6.1 1), .null, .null, .null]))] : va_W) ++ zw_co tt k2 zv0 ++ zw_co tt k4 zv0 ++ zw_hi tt k6.1 (0, (fun _ => zv0), k6.2))) := z_pm (fun _ x => by simp only [List.count_append] <;> omega)
  obtain ⟨hP, hD⟩ := z_joinB hpm hpm2 hP hD hk1 hFc hP1 hD1
  clear hpm hpm2
  generalize H1 = H at hP hS ⊢
  refine va_putF (D := D) (ci := 9) (v := .ref (k8 0)) (ty := .object "CapStacks$Exit") (C := RX9) (T := TX9) (N := 6) hx hb hts hi9 tyX9 tyX9_ok nmX9 hown hK.1 hP hD hS 0 rfl rfl 3 (by decide) fl29 (fun _ h9 => h9) rfl hin rfl (by decide +kernel) rfl rfl (Nat.le_of_ble_eq_true rfl) dX9_init_45 (fun H locs hP hD hS => ?_)
  have hP : va_P D vwCl (([(h0, .inr (9, [.ref (k2 0), .ref (k4 0), .ref (k6.1 1), .ref (k8 0), .null, .null]))] : va_W) ++ zw_co tt k2 zv0 ++ zw_co tt k4 zv0 ++ zw_hi tt k6.1 (0, (fun _ => zv0), k6.2) ++ zw_ex tt k8 (fun _ _ => 0)) H := hP
  have hD : va_D A (([(h0, .inr (9, [.ref (k2 0), .ref (k4 0), .ref (k6.1 1), .ref (k8 0), .null, .null]))] : va_W) ++ zw_co tt k2 zv0 ++ zw_co tt k4 zv0 ++ zw_hi tt k6.1 (0, (fun _ => zv0), k6.2) ++ zw_ex tt k8 (fun _ _ => 0)) := hD
  refine lv_aload_n hx hb dX9_init_48 rfl (lv_at hl 0 rfl) ?_
  refine va_new (ci := 8) (fs := [.int 0, .int 0, .null, .null]) (C := RX8) (T := TX8) (N := 4) hx hb hts hi8 tyX8 tyX8_ok hown cl33 itX8 iiX8 hK.1 hP hD hS hA rfl (by intro j hj; match j, hj with | 0, _ => rfl | 1, _ => rfl | 2, _ => rfl | 3, _ => rfl | j + 4, hj => exact absurd hj (by omega)) (Nat.le_of_ble_eq_true rfl) (Nat.le_of_ble_eq_true rfl) dX9_init_49 (fun q9 H hP hD hS => ?_)
  have hP : va_P D vwCl (([(h0, .inr (9, [.ref (k2 0), .ref (k4 0), .ref (k6.1 1), .ref (k8 0), .null, .null]))] : va_W) ++ zw_co tt k2 zv0 ++ zw_co tt k4 zv0 ++ zw_hi tt k6.1 (0, (fun _ => zv0), k6.2) ++ zw_ex tt k8 (fun _ _ => 0) ++ ([(q9, .inr (8, [.int 0, .int 0, .null, .null]))] : va_W)) H := hP
  have hD : va_D A (([(h0, .inr (9, [.ref (k2 0), .ref (k4 0), .ref (k6.1 1), .ref (k8 0), .null, .null]))] : va_W) ++ zw_co tt k2 zv0 ++ zw_co tt k4 zv0 ++ zw_hi tt k6.1 (0, (fun _ => zv0), k6.2) ++ zw_ex tt k8 (fun _ _ => 0) ++ ([(q9, .inr (8, [.int 0, .int 0, .null, .null]))] : va_W)) := hD
  refine lv_dup hx hb dX9_init_52 rfl ?_
  have hpm : List.Perm (([(h0, .inr (9, [.ref (k2 0), .ref (k4 0), .ref (k6.1 1), .ref (k8 0), .null, .null]))] : va_W) ++ zw_co tt k2 zv0 ++ zw_co tt k4 zv0 ++ zw_hi tt k6.1 (0, (fun _ => zv0), k6.2) ++ zw_ex tt k8 (fun _ _ => 0) ++ ([(q9, .inr (8, [.int 0, .int 0, .null, .null]))] : va_W)) (([(q9, .inr (8, [.int 0, .int 0, .null, .null]))] : va_W) ++ (([(h0, .inr (9, [.ref (k2 0), .ref (k4 0), .ref (k6.1 1), .ref (k8 0), .null, .null]))] : va_W) ++ zw_co tt k2 zv0 ++ zw_co tt k4 zv0 ++ zw_hi tt k6.1 (0, (fun _ => zv0), k6.2) ++ zw_ex tt k8 (fun _ _ => 0))) := z_pm (fun _ x => by simp only [List.count_append] <;> omega)
  have hPc := z_takeP hpm hP
  have hDc := z_takeD hpm hD
  have hFc := z_free0 hDc hS hA
  refine va_callv (va_runIN (As := []) (rest := [.ref q9, .ref h0]) ⟨hx, hb, hml, hown, hts⟩ (c_X8_init l D tt q9 _) ⟨va_cnB (host := "CapStacks") 0 hts gX9_init_X8_init_n35 rfl rfl rfl (hK.2.1 (RX9, 35, yX8_init, "CapStacks") (List.mem_of_getElem? (i := 6) rfl)) iiX8 (by decide +kernel) ⟨Nat.le_of_ble_eq_true rfl, Nat.le_of_ble_eq_true rfl⟩, rfl, imX8⟩ (z_preSm hK hPc hDc) rfl rfl hl.1 rfl (lv_room (Nat.le_of_ble_eq_true rfl)) dX9_init_53 ⟨Nat.le_of_ble_eq_true rfl, Nat.le_of_ble_eq_true rfl⟩) hS (fun q _ h => hFc q h) hFc (fun k10 t H1 locs ht hvm hw hB hz1 hk1 hS => ?_)
  have hw : k10 0 = q9 := hw
  subst hw
  obtain ⟨hP1, hD1⟩ := hB
  rw [ht] at hP1
  clear ht hvm hz1
  have hpm2 : List.Perm (([(h0, .inr (9, [.ref (k2 0), .ref (k4 0), .ref (k6.1 1), .ref (k8 0), .null, .null]))] : va_W) ++ zw_co tt k2 zv0 ++ zw_co tt k4 zv0 ++ zw_hi tt k6.1 (0, (fun _ => zv0), k6.2) ++ zw_ex tt k8 (fun _ _ => 0) ++ zw_tx tt k10 (fun _ _ => 0)) ((zw_tx tt k10 (fun _ _ => 0)) ++ (([(h0, .inr (9, [.ref (k2 0), .ref (k4 0), .ref (k6.1 1), .ref (k8 0), .null, .null]))] : va_W) ++ zw_co tt k2 zv0 ++ zw_co tt k4 zv0 ++ zw_hi tt k6.1 (0, (fun _ => zv0), k6.2) ++ zw_ex tt k8 (fun _ _ => 0))) := z_pm (fun _ x => by simp only [List.count_append] <;> omega)
  obtain ⟨hP, hD⟩ := z_joinB hpm hpm2 hP hD hk1 hFc hP1 hD1
  clear hpm hpm2
  generalize H1 = H at hP hS ⊢
  refine va_putF (D := D) (ci := 9) (v := .ref (k10 0)) (ty := .object "CapStacks$Text") (C := RX9) (T := TX9) (N := 6) hx hb hts hi9 tyX9 tyX9_ok nmX9 hown hK.1 hP hD hS 0 rfl rfl 4 (by decide) fl36 (fun _ h9 => h9) rfl hin rfl (by decide +kernel) rfl rfl (Nat.le_of_ble_eq_true rfl) dX9_init_56 (fun H locs hP hD hS => ?_)
  have hP : va_P D vwCl (([(h0, .inr (9, [.ref (k2 0), .ref (k4 0), .ref (k6.1 1), .ref (k8 0), .ref (k10 0), .null]))] : va_W) ++ zw_co tt k2 zv0 ++ zw_co tt k4 zv0 ++ zw_hi tt k6.1 (0, (fun _ => zv0), k6.2) ++ zw_ex tt k8 (fun _ _ => 0) ++ zw_tx tt k10 (fun _ _ => 0)) H := hP
  have hD : va_D A (([(h0, .inr (9, [.ref (k2 0), .ref (k4 0), .ref (k6.1 1), .ref (k8 0), .ref (k10 0), .null]))] : va_W) ++ zw_co tt k2 zv0 ++ zw_co tt k4 zv0 ++ zw_hi tt k6.1 (0, (fun _ => zv0), k6.2) ++ zw_ex tt k8 (fun _ _ => 0) ++ zw_tx tt k10 (fun _ _ => 0)) := hD
  refine lv_aload_n hx hb dX9_init_59 rfl (lv_at hl 0 rfl) ?_
  refine va_new (ci := 6) (fs := [.int 0, .int 0, .int 0, .int 0]) (C := RX6) (T := TX6) (N := 4) hx hb hts hi6 tyX6 tyX6_ok hown cl40 itX6 iiX6 hK.1 hP hD hS hA rfl (by intro j hj; match j, hj with | 0, _ => rfl | 1, _ => rfl | 2, _ => rfl | 3, _ => rfl | j + 4, hj => exact absurd hj (by omega)) (Nat.le_of_ble_eq_true rfl) (Nat.le_of_ble_eq_true rfl) dX9_init_60 (fun q11 H hP hD hS => ?_)
  have hP : va_P D vwCl (([(h0, .inr (9, [.ref (k2 0), .ref (k4 0), .ref (k6.1 1), .ref (k8 0), .ref (k10 0), .null]))] : va_W) ++ zw_co tt k2 zv0 ++ zw_co tt k4 zv0 ++ zw_hi tt k6.1 (0, (fun _ => zv0), k6.2) ++ zw_ex tt k8 (fun _ _ => 0) ++ zw_tx tt k10 (fun _ _ => 0) ++ ([(q11, .inr (6, [.int 0, .int 0, .int 0, .int 0]))] : va_W)) H := hP
  have hD : va_D A (([(h0, .inr (9, [.ref (k2 0), .ref (k4 0), .ref (k6.1 1), .ref (k8 0), .ref (k10 0), .null]))] : va_W) ++ zw_co tt k2 zv0 ++ zw_co tt k4 zv0 ++ zw_hi tt k6.1 (0, (fun _ => zv0), k6.2) ++ zw_ex tt k8 (fun _ _ => 0) ++ zw_tx tt k10 (fun _ _ => 0) ++ ([(q11, .inr (6, [.int 0, .int 0, .int 0, .int 0]))] : va_W)) := hD
  refine lv_dup hx hb dX9_init_63 rfl ?_
  have hpm : List.Perm (([(h0, .inr (9, [.ref (k2 0), .ref (k4 0), .ref (k6.1 1), .ref (k8 0), .ref (k10 0), .null]))] : va_W) ++ zw_co tt k2 zv0 ++ zw_co tt k4 zv0 ++ zw_hi tt k6.1 (0, (fun _ => zv0), k6.2) ++ zw_ex tt k8 (fun _ _ => 0) ++ zw_tx tt k10 (fun _ _ => 0) ++ ([(q11, .inr (6, [.int 0, .int 0, .int 0, .int 0]))] : va_W)) (([(q11, .inr (6, [.int 0, .int 0, .int 0, .int 0]))] : va_W) ++ (([(h0, .inr (9, [.ref (k2 0), .ref (k4 0), .ref (k6.1 1), .ref (k8 0), .ref (k10 0), .null]))] : va_W) ++ zw_co tt k2 zv0 ++ zw_co tt k4 zv0 ++ zw_hi tt k6.1 (0, (fun _ => zv0), k6.2) ++ zw_ex tt k8 (fun _ _ => 0) ++ zw_tx tt k10 (fun _ _ => 0))) := z_pm (fun _ x => by simp only [List.count_append] <;> omega)
  have hPc := z_takeP hpm hP
  have hDc := z_takeD hpm hD
  have hFc := z_free0 hDc hS hA
  refine va_callv (va_runIN (As := []) (rest := [.ref q11, .ref h0]) ⟨hx, hb, hml, hown, hts⟩ (c_X6_init l D tt q11 _) ⟨va_cnB (host := "CapStacks") 0 hts gX9_init_X6_init_n42 rfl rfl rfl (hK.2.1 (RX9, 42, yX6_init, "CapStacks") (List.mem_of_getElem? (i := 7) rfl)) iiX6 (by decide +kernel) ⟨Nat.le_of_ble_eq_true rfl, Nat.le_of_ble_eq_true rfl⟩, rfl, imX6⟩ (z_preSm hK hPc hDc) rfl rfl hl.1 rfl (lv_room (Nat.le_of_ble_eq_true rfl)) dX9_init_64 ⟨Nat.le_of_ble_eq_true rfl, Nat.le_of_ble_eq_true rfl⟩) hS (fun q _ h => hFc q h) hFc (fun k12 t H1 locs ht hvm hw hB hz1 hk1 hS => ?_)
  have hw : k12 0 = q11 := hw
  subst hw
  obtain ⟨hP1, hD1⟩ := hB
  rw [ht] at hP1
  clear ht hvm hz1
  have hpm2 : List.Perm (([(h0, .inr (9, [.ref (k2 0), .ref (k4 0), .ref (k6.1 1), .ref (k8 0), .ref (k10 0), .null]))] : va_W) ++ zw_co tt k2 zv0 ++ zw_co tt k4 zv0 ++ zw_hi tt k6.1 (0, (fun _ => zv0), k6.2) ++ zw_ex tt k8 (fun _ _ => 0) ++ zw_tx tt k10 (fun _ _ => 0) ++ zw_rh tt k12 (fun _ _ => 0)) ((zw_rh tt k12 (fun _ _ => 0)) ++ (([(h0, .inr (9, [.ref (k2 0), .ref (k4 0), .ref (k6.1 1), .ref (k8 0), .ref (k10 0), .null]))] : va_W) ++ zw_co tt k2 zv0 ++ zw_co tt k4 zv0 ++ zw_hi tt k6.1 (0, (fun _ => zv0), k6.2) ++ zw_ex tt k8 (fun _ _ => 0) ++ zw_tx tt k10 (fun _ _ => 0))) := z_pm (fun _ x => by simp only [List.count_append] <;> omega)
  obtain ⟨hP, hD⟩ := z_joinB hpm hpm2 hP hD hk1 hFc hP1 hD1
  clear hpm hpm2
  generalize H1 = H at hP hS ⊢
  refine va_putF (D := D) (ci := 9) (v := .ref (k12 0)) (ty := .object "CapStacks$Rehearsal") (C := RX9) (T := TX9) (N := 6) hx hb hts hi9 tyX9 tyX9_ok nmX9 hown hK.1 hP hD hS 0 rfl rfl 5 (by decide) fl43 (fun _ h9 => h9) rfl hin rfl (by decide +kernel) rfl rfl (Nat.le_of_ble_eq_true rfl) dX9_init_67 (fun H locs hP hD hS => ?_)
  have hP : va_P D vwCl (([(h0, .inr (9, [.ref (k2 0), .ref (k4 0), .ref (k6.1 1), .ref (k8 0), .ref (k10 0), .ref (k12 0)]))] : va_W) ++ zw_co tt k2 zv0 ++ zw_co tt k4 zv0 ++ zw_hi tt k6.1 (0, (fun _ => zv0), k6.2) ++ zw_ex tt k8 (fun _ _ => 0) ++ zw_tx tt k10 (fun _ _ => 0) ++ zw_rh tt k12 (fun _ _ => 0)) H := hP
  have hD : va_D A (([(h0, .inr (9, [.ref (k2 0), .ref (k4 0), .ref (k6.1 1), .ref (k8 0), .ref (k10 0), .ref (k12 0)]))] : va_W) ++ zw_co tt k2 zv0 ++ zw_co tt k4 zv0 ++ zw_hi tt k6.1 (0, (fun _ => zv0), k6.2) ++ zw_ex tt k8 (fun _ _ => 0) ++ zw_tx tt k10 (fun _ _ => 0) ++ zw_rh tt k12 (fun _ _ => 0)) := hD
  have hP9 : va_P D vwCl (zw_cs tt ((zu (zu (zu (fun _ => 0) 0 h0) 1 (k6.1 1)) 2 (k6.1 2)), k2, k4, k8, k10, k12, k6.2)) H := hP
  have hD9 : va_D A (zw_cs tt ((zu (zu (zu (fun _ => 0) 0 h0) 1 (k6.1 1)) 2 (k6.1 2)), k2, k4, k8, k10, k12, k6.2)) := hD
  exact W.vret hx hb hr (fun t ht hW => ⟨⟨((zu (zu (zu (fun _ => 0) 0 h0) 1 (k6.1 1)) 2 (k6.1 2)), k2, k4, k8, k10, k12, k6.2), rfl, rfl, by rw [ht]; exact hP9, hD9⟩, hS.F ht⟩) hS.2.2 dX9_init_70
