/-! ===== contracts: 11.company ===== -/
set_option maxHeartbeats 4000000 in
set_option maxRecDepth 100000 in
theorem c_X2_copyFrom (l : Launch) (D : va_G) (tt : Nat → ClassId) (kv : Nat → Nat) (kd : Nat → Nat) (sz : Nat) (bv : zV) (bd : zV)  (out : zV) (h : f_X2_copyFrom bv bd = some out) : Met l yX2_copyFrom wsX2_copyFrom { frames := 3, cells := 0, slots := 0, locals := 82 } (zPm [.ref (kv 0), .ref (kd 0)] D tt (zw_co tt kv bv ++ zw_co tt kd bd) sz) (zMv D (zw_co tt kv out ++ zw_co tt kd bd) (va_A (zw_co tt kv bv ++ zw_co tt kd bd) sz)) 0 0 (va_A (zw_co tt kv bv ++ zw_co tt kd bd) sz) := by
  refine Met.ofW (cc := cX2_copyFrom) (maxL := 2) (ret := none) (by decide) rfl ?_
  intro p e s m args below meth c s₁ B hml hv
  obtain ⟨ha, hsz, hP, hK, hD0⟩ := hv
  have hx := B.exec
  have hb := B.bytes
  have hr := B.returns
  have hts := atoms_spec (ws := wsX2_copyFrom) B.pre
  have hown : s.vm.findClass RX2 = some m.cls := findClass_of_methodNamed B.named
  have hlocks := B.notSynchronized
  have hi2 : ∀ w ∈ u_ws RX2 TX2 11, w ∈ wsX2_copyFrom := fun _ h => List.mem_cons_of_mem _ (List.mem_append_left _ (List.mem_append_left _ (List.mem_append_left _ (List.mem_append_left _ (List.mem_append_right _ h)))))
  have fl12 := hts (.fieldLink RX2 12 "CapStacks$Company" "classes" "LCapStacks$Classes;") (by decide +kernel)
  have fl21 := hts (.fieldLink RX2 21 "CapStacks$Company" "certificates" "LCapStacks$Certificates;") (by decide +kernel)
  have fl28 := hts (.fieldLink RX2 28 "CapStacks$Company" "grants" "LCapStacks$Grants;") (by decide +kernel)
  have fl35 := hts (.fieldLink RX2 35 "CapStacks$Company" "round" "LCapStacks$Round;") (by decide +kernel)
  have fl39 := hts (.fieldLink RX2 39 "CapStacks$Company" "leftAt" "[I") (by decide +kernel)
  have fl56 := hts (.fieldLink RX2 56 "CapStacks$Company" "holders" "I") (by decide +kernel)
  have fl64 := hts (.fieldLink RX2 64 "CapStacks$Company" "time" "I") (by decide +kernel)
  have fl67 := hts (.fieldLink RX2 67 "CapStacks$Company" "sharesIssued" "I") (by decide +kernel)
  have fl70 := hts (.fieldLink RX2 70 "CapStacks$Company" "sharesBought" "I") (by decide +kernel)
  have fl73 := hts (.fieldLink RX2 73 "CapStacks$Company" "optionMoney" "I") (by decide +kernel)
  have fl76 := hts (.fieldLink RX2 76 "CapStacks$Company" "roundMoney" "I") (by decide +kernel)
  have iniX9 := hts (.initialized RX9) (by decide +kernel)
  have st_X9_copyRow := hts (.static yX9_copyRow) (by decide +kernel)
  have nw60 : va_Nw (.methodLinkNest RX2 60 yX9_copyRow "CapStacks") s := hK.2.1 (RX2, 60, yX9_copyRow, "CapStacks") (List.mem_of_getElem? (i := 12) rfl)
  subst hsz
  have hD := hD0.self (sz := s.heap.size)
  generalize hAe : va_A (zw_co tt kv bv ++ zw_co tt kd bd) s.heap.size = A at hD ⊢
  have hA : ∀ q : Nat, s.heap.size ≤ q → A q := fun q h => by rw [← hAe]; exact Or.inr h
  have hS : va_S A s.heap s.heap [] := va_S.rf
  have hfin : ∀ (bv : zV) (pc : Nat) (ls : Array Slot) (H : Heap) (locs : List Loc), some bv = some out → va_P D vwCl (zw_co tt kv bv ++ zw_co tt kd bd) H → va_D A (zw_co tt kv bv ++ zw_co tt kd bd) → va_S A s.heap H locs → decode cX2_copyFrom pc = .ok (.return_, 1) → W p l e (headSpec wsX2_copyFrom { frames := 3, cells := 0, slots := 0, locals := 82 }).room s m args below meth c H locs 0 0 (MQ below (zMv D (zw_co tt kv out ++ zw_co tt kd bd) A) args s 0 0 A) (F0 m pc ls []) := by
    intro bv pc ls H locs he hP hD hS hd
    cases he
    exact W.vret hx hb hr (fun t ht hW => ⟨⟨(), rfl, trivial, by rw [ht]; exact hP, hD⟩, hS.F ht⟩) hS.2.2 hd
  generalize MQ below (zMv D (zw_co tt kv out ++ zw_co tt kd bd) A) args s 0 0 A = Q at hfin ⊢
  have hl := lv_entry ([.ref (kv 0), .ref (kd 0)]) (n := 2) (Nat.le_of_ble_eq_true rfl)
  refine W.eq (g2 := F0 m 0 ((lg_sl ([.ref (kv 0), .ref (kd 0)]) ++ List.replicate (2 - (lg_sl ([.ref (kv 0), .ref (kd 0)])).length) Slot.unset).toArray) []) (by rw [ha]; exact lg_entry_eq _ _ _) ?_
  generalize (lg_sl ([.ref (kv 0), .ref (kd 0)]) ++ List.replicate (2 - (lg_sl ([.ref (kv 0), .ref (kd 0)])).length) Slot.unset).toArray = ls at hl ⊢
  have hl : lv_has ls 2 [(0, .ref (kv 0)), (1, .ref (kd 0))] := hl
  rw [f_X2_copyFrom] at h
  refine lv_aload_n hx hb dX2_copyFrom_0 rfl (lv_at hl 0 rfl) ?_
  refine va_get (D := D) (ci := 2) (v := .ref (kv 1)) (C := RX2) (T := TX2) (N := 11) hx hb hts hi2 hown hK.1 hP 0 rfl rfl 0 (by decide) fl12 (fun _ h9 => h9) rfl dX2_copyFrom_1 ?_
  refine lv_aload_n hx hb dX2_copyFrom_4 rfl (lv_at hl 1 rfl) ?_
  refine va_get (D := D) (ci := 2) (v := .ref (kd 1)) (C := RX2) (T := TX2) (N := 11) hx hb hts hi2 hown hK.1 hP 24 rfl rfl 0 (by decide) fl12 (fun _ h9 => h9) rfl dX2_copyFrom_5 ?_
  obtain ⟨y1, gy1, h⟩ := zb_some h
  have hpm : List.Perm ((zw_c0 tt kv bv ++ (zw_cl tt kv bv ++ (zw_ce tt kv bv ++ (zw_gr tt kv bv ++ (zw_ro tt kv bv ++ (zw_la tt kv bv)))))) ++ (zw_c0 tt kd bd ++ (zw_cl tt kd bd ++ (zw_ce tt kd bd ++ (zw_gr tt kd bd ++ (zw_ro tt kd bd ++ (zw_la tt kd bd))))))) ((zw_cl tt kv bv ++ zw_cl tt kd bd) ++ (zw_c0 tt kv bv ++ zw_ce tt kv bv ++ zw_gr tt kv bv ++ zw_ro tt kv bv ++ zw_la tt kv bv ++ zw_c0 tt kd bd ++ zw_ce tt kd bd ++ zw_gr tt kd bd ++ zw_ro tt kd bd ++ zw_la tt kd bd)) := z_pm (fun _ x => by simp only [List.count_append, List.count_nil] <;> omega)
  have hPc := z_takeP hpm hP
  have hDc := z_takeD hpm hD
  have hFc := z_free0 hDc hS hA
  refine z_callmv (wc := (zw_cl tt kv bv ++ zw_cl tt kd bd)) (w1 := (zw_cl tt kv y1 ++ zw_cl tt kd bd)) (va_runV (As := [.ref (kd 1)]) (rest := []) ⟨hx, hb, hml, hown, hts⟩ (c_X1_copyFrom l D tt kv kd _ bv bd y1 gy1) (cwV 1 hts gX2_copyFrom_X1_copyFrom rfl rfl rfl (by decide +kernel) ⟨Nat.le_of_ble_eq_true rfl, Nat.le_of_ble_eq_true rfl⟩) (z_preVm hK hPc hDc (ci := 1) (q0 := 0) rfl rfl) rfl rfl hl.1 rfl (lv_room (Nat.le_of_ble_eq_true rfl)) dX2_copyFrom_8 ⟨Nat.zero_le _, Nat.zero_le _⟩) hS hFc (fun H locs hP1 hD1 hk1 hS => ?_)
  have hpm2 : List.Perm ((zw_c0 tt kv bv ++ (zw_cl tt kv y1 ++ (zw_ce tt kv bv ++ (zw_gr tt kv bv ++ (zw_ro tt kv bv ++ (zw_la tt kv bv)))))) ++ (zw_c0 tt kd bd ++ (zw_cl tt kd bd ++ (zw_ce tt kd bd ++ (zw_gr tt kd bd ++ (zw_ro tt kd bd ++ (zw_la tt kd bd))))))) ((zw_cl tt kv y1 ++ zw_cl tt kd bd) ++ (zw_c0 tt kv bv ++ zw_ce tt kv bv ++ zw_gr tt kv bv ++ zw_ro tt kv bv ++ zw_la tt kv bv ++ zw_c0 tt kd bd ++ zw_ce tt kd bd ++ zw_gr tt kd bd ++ zw_ro tt kd bd ++ zw_la tt kd bd)) := z_pm (fun _ x => by simp only [List.count_append, List.count_nil] <;> omega)
  obtain ⟨hP, hD⟩ := z_joinB hpm hpm2 hP hD hk1 hFc hP1 hD1
  clear hpm hpm2
  have hP : va_P D vwCl (zw_co tt kv (zg_cl y1 bv) ++ zw_co tt kd bd) H := hP
  have hD : va_D A (zw_co tt kv (zg_cl y1 bv) ++ zw_co tt kd bd) := hD
  refine lv_aload_n hx hb dX2_copyFrom_11 rfl (lv_at hl 0 rfl) ?_
  refine va_get (D := D) (ci := 2) (v := .ref (kv 2)) (C := RX2) (T := TX2) (N := 11) hx hb hts hi2 hown hK.1 hP 0 rfl rfl 1 (by decide) fl21 (fun _ h9 => h9) rfl dX2_copyFrom_12 ?_
  refine lv_aload_n hx hb dX2_copyFrom_15 rfl (lv_at hl 1 rfl) ?_
  refine va_get (D := D) (ci := 2) (v := .ref (kd 2)) (C := RX2) (T := TX2) (N := 11) hx hb hts hi2 hown hK.1 hP 24 rfl rfl 1 (by decide) fl21 (fun _ h9 => h9) rfl dX2_copyFrom_16 ?_
  obtain ⟨y2, gy2, h⟩ := zb_some h
  have hpm : List.Perm ((zw_c0 tt kv (zg_cl y1 bv) ++ (zw_cl tt kv (zg_cl y1 bv) ++ (zw_ce tt kv (zg_cl y1 bv) ++ (zw_gr tt kv (zg_cl y1 bv) ++ (zw_ro tt kv (zg_cl y1 bv) ++ (zw_la tt kv (zg_cl y1 bv))))))) ++ (zw_c0 tt kd bd ++ (zw_cl tt kd bd ++ (zw_ce tt kd bd ++ (zw_gr tt kd bd ++ (zw_ro tt kd bd ++ (zw_la tt kd bd))))))) ((zw_ce tt kv (zg_cl y1 bv) ++ zw_ce tt kd bd) ++ (zw_c0 tt kv (zg_cl y1 bv) ++ zw_cl tt kv (zg_cl y1 bv) ++ zw_gr tt kv (zg_cl y1 bv) ++ zw_ro tt kv (zg_cl y1 bv) ++ zw_la tt kv (zg_cl y1 bv) ++ zw_c0 tt kd bd ++ zw_cl tt kd bd ++ zw_gr tt kd bd ++ zw_ro tt kd bd ++ zw_la tt kd bd)) := z_pm (fun _ x => by simp only [List.count_append, List.count_nil] <;> omega)
  have hPc := z_takeP hpm hP
  have hDc := z_takeD hpm hD
  have hFc := z_free0 hDc hS hA
  refine z_callmv (wc := (zw_ce tt kv (zg_cl y1 bv) ++ zw_ce tt kd bd)) (w1 := (zw_ce tt kv y2 ++ zw_ce tt kd bd)) (va_runV (As := [.ref (kd 2)]) (rest := []) ⟨hx, hb, hml, hown, hts⟩ (c_X0_copyFrom l D tt kv kd _ (zg_cl y1 bv) bd y2 gy2) (cwV 1 hts gX2_copyFrom_X0_copyFrom rfl rfl rfl (by decide +kernel) ⟨Nat.le_of_ble_eq_true rfl, Nat.le_of_ble_eq_true rfl⟩) (z_preVm hK hPc hDc (ci := 0) (q0 := 0) rfl rfl) rfl rfl hl.1 rfl (lv_room (Nat.le_of_ble_eq_true rfl)) dX2_copyFrom_19 ⟨Nat.zero_le _, Nat.zero_le _⟩) hS hFc (fun H locs hP1 hD1 hk1 hS => ?_)
  have hpm2 : List.Perm ((zw_c0 tt kv (zg_cl y1 bv) ++ (zw_cl tt kv (zg_cl y1 bv) ++ (zw_ce tt kv y2 ++ (zw_gr tt kv (zg_cl y1 bv) ++ (zw_ro tt kv (zg_cl y1 bv) ++ (zw_la tt kv (zg_cl y1 bv))))))) ++ (zw_c0 tt kd bd ++ (zw_cl tt kd bd ++ (zw_ce tt kd bd ++ (zw_gr tt kd bd ++ (zw_ro tt kd bd ++ (zw_la tt kd bd))))))) ((zw_ce tt kv y2 ++ zw_ce tt kd bd) ++ (zw_c0 tt kv (zg_cl y1 bv) ++ zw_cl tt kv (zg_cl y1 bv) ++ zw_gr tt kv (zg_cl y1 bv) ++ zw_ro tt kv (zg_cl y1 bv) ++ zw_la tt kv (zg_cl y1 bv) ++ zw_c0 tt kd bd ++ zw_cl tt kd bd ++ zw_gr tt kd bd ++ zw_ro tt kd bd ++ zw_la tt kd bd)) := z_pm (fun _ x => by simp only [List.count_append, List.count_nil] <;> omega)
  obtain ⟨hP, hD⟩ := z_joinB hpm hpm2 hP hD hk1 hFc hP1 hD1
  clear hpm hpm2
  have hP : va_P D vwCl (zw_co tt kv (zg_ce y2 (zg_cl y1 bv)) ++ zw_co tt kd bd) H := hP
  have hD : va_D A (zw_co tt kv (zg_ce y2 (zg_cl y1 bv)) ++ zw_co tt kd bd) := hD
  refine lv_aload_n hx hb dX2_copyFrom_22 rfl (lv_at hl 0 rfl) ?_
  refine va_get (D := D) (ci := 2) (v := .ref (kv 3)) (C := RX2) (T := TX2) (N := 11) hx hb hts hi2 hown hK.1 hP 0 rfl rfl 2 (by decide) fl28 (fun _ h9 => h9) rfl dX2_copyFrom_23 ?_
  refine lv_aload_n hx hb dX2_copyFrom_26 rfl (lv_at hl 1 rfl) ?_
  refine va_get (D := D) (ci := 2) (v := .ref (kd 3)) (C := RX2) (T := TX2) (N := 11) hx hb hts hi2 hown hK.1 hP 24 rfl rfl 2 (by decide) fl28 (fun _ h9 => h9) rfl dX2_copyFrom_27 ?_
  obtain ⟨y3, gy3, h⟩ := zb_some h
  have hpm : List.Perm ((zw_c0 tt kv (zg_ce y2 (zg_cl y1 bv)) ++ (zw_cl tt kv (zg_ce y2 (zg_cl y1 bv)) ++ (zw_ce tt kv (zg_ce y2 (zg_cl y1 bv)) ++ (zw_gr tt kv (zg_ce y2 (zg_cl y1 bv)) ++ (zw_ro tt kv (zg_ce y2 (zg_cl y1 bv)) ++ (zw_la tt kv (zg_ce y2 (zg_cl y1 bv)))))))) ++ (zw_c0 tt kd bd ++ (zw_cl tt kd bd ++ (zw_ce tt kd bd ++ (zw_gr tt kd bd ++ (zw_ro tt kd bd ++ (zw_la tt kd bd))))))) ((zw_gr tt kv (zg_ce y2 (zg_cl y1 bv)) ++ zw_gr tt kd bd) ++ (zw_c0 tt kv (zg_ce y2 (zg_cl y1 bv)) ++ zw_cl tt kv (zg_ce y2 (zg_cl y1 bv)) ++ zw_ce tt kv (zg_ce y2 (zg_cl y1 bv)) ++ zw_ro tt kv (zg_ce y2 (zg_cl y1 bv)) ++ zw_la tt kv (zg_ce y2 (zg_cl y1 bv)) ++ zw_c0 tt kd bd ++ zw_cl tt kd bd ++ zw_ce tt kd bd ++ zw_ro tt kd bd ++ zw_la tt kd bd)) := z_pm (fun _ x => by simp only [List.count_append, List.count_nil] <;> omega)
  have hPc := z_takeP hpm hP
  have hDc := z_takeD hpm hD
  have hFc := z_free0 hDc hS hA
  refine z_callmv (wc := (zw_gr tt kv (zg_ce y2 (zg_cl y1 bv)) ++ zw_gr tt kd bd)) (w1 := (zw_gr tt kv y3 ++ zw_gr tt kd bd)) (va_runV (As := [.ref (kd 3)]) (rest := []) ⟨hx, hb, hml, hown, hts⟩ (c_X4_copyFrom l D tt kv kd _ (zg_ce y2 (zg_cl y1 bv)) bd y3 gy3) (cwV 1 hts gX2_copyFrom_X4_copyFrom rfl rfl rfl (by decide +kernel) ⟨Nat.le_of_ble_eq_true rfl, Nat.le_of_ble_eq_true rfl⟩) (z_preVm hK hPc hDc (ci := 4) (q0 := 0) rfl rfl) rfl rfl hl.1 rfl (lv_room (Nat.le_of_ble_eq_true rfl)) dX2_copyFrom_30 ⟨Nat.zero_le _, Nat.zero_le _⟩) hS hFc (fun H locs hP1 hD1 hk1 hS => ?_)
  have hpm2 : List.Perm ((zw_c0 tt kv (zg_ce y2 (zg_cl y1 bv)) ++ (zw_cl tt kv (zg_ce y2 (zg_cl y1 bv)) ++ (zw_ce tt kv (zg_ce y2 (zg_cl y1 bv)) ++ (zw_gr tt kv y3 ++ (zw_ro tt kv (zg_ce y2 (zg_cl y1 bv)) ++ (zw_la tt kv (zg_ce y2 (zg_cl y1 bv)))))))) ++ (zw_c0 tt kd bd ++ (zw_cl tt kd bd ++ (zw_ce tt kd bd ++ (zw_gr tt kd bd ++ (zw_ro tt kd bd ++ (zw_la tt kd bd))))))) ((zw_gr tt kv y3 ++ zw_gr tt kd bd) ++ (zw_c0 tt kv (zg_ce y2 (zg_cl y1 bv)) ++ zw_cl tt kv (zg_ce y2 (zg_cl y1 bv)) ++ zw_ce tt kv (zg_ce y2 (zg_cl y1 bv)) ++ zw_ro tt kv (zg_ce y2 (zg_cl y1 bv)) ++ zw_la tt kv (zg_ce y2 (zg_cl y1 bv)) ++ zw_c0 tt kd bd ++ zw_cl tt kd bd ++ zw_ce tt kd bd ++ zw_ro tt kd bd ++ zw_la tt kd bd)) := z_pm (fun _ x => by simp only [List.count_append, List.count_nil] <;> omega)
  obtain ⟨hP, hD⟩ := z_joinB hpm hpm2 hP hD hk1 hFc hP1 hD1
  clear hpm hpm2
  have hP : va_P D vwCl (zw_co tt kv (zg_gr y3 (zg_ce y2 (zg_cl y1 bv))) ++ zw_co tt kd bd) H := hP
  have hD : va_D A (zw_co tt kv (zg_gr y3 (zg_ce y2 (zg_cl y1 bv))) ++ zw_co tt kd bd) := hD
  refine lv_aload_n hx hb dX2_copyFrom_33 rfl (lv_at hl 0 rfl) ?_
  refine va_get (D := D) (ci := 2) (v := .ref (kv 4)) (C := RX2) (T := TX2) (N := 11) hx hb hts hi2 hown hK.1 hP 0 rfl rfl 3 (by decide) fl35 (fun _ h9 => h9) rfl dX2_copyFrom_34 ?_
  refine lv_aload_n hx hb dX2_copyFrom_37 rfl (lv_at hl 1 rfl) ?_
  refine va_get (D := D) (ci := 2) (v := .ref (kd 4)) (C := RX2) (T := TX2) (N := 11) hx hb hts hi2 hown hK.1 hP 24 rfl rfl 3 (by decide) fl35 (fun _ h9 => h9) rfl dX2_copyFrom_38 ?_
  obtain ⟨y4, gy4, h⟩ := zb_some h
  have hpm : List.Perm ((zw_c0 tt kv (zg_gr y3 (zg_ce y2 (zg_cl y1 bv))) ++ (zw_cl tt kv (zg_gr y3 (zg_ce y2 (zg_cl y1 bv))) ++ (zw_ce tt kv (zg_gr y3 (zg_ce y2 (zg_cl y1 bv))) ++ (zw_gr tt kv (zg_gr y3 (zg_ce y2 (zg_cl y1 bv))) ++ (zw_ro tt kv (zg_gr y3 (zg_ce y2 (zg_cl y1 bv))) ++ (zw_la tt kv (zg_gr y3 (zg_ce y2 (zg_cl y1 bv))))))))) ++ (zw_c0 tt kd bd ++ (zw_cl tt kd bd ++ (zw_ce tt kd bd ++ (zw_gr tt kd bd ++ (zw_ro tt kd bd ++ (zw_la tt kd bd))))))) ((zw_ro tt kv (zg_gr y3 (zg_ce y2 (zg_cl y1 bv))) ++ zw_ro tt kd bd) ++ (zw_c0 tt kv (zg_gr y3 (zg_ce y2 (zg_cl y1 bv))) ++ zw_cl tt kv (zg_gr y3 (zg_ce y2 (zg_cl y1 bv))) ++ zw_ce tt kv (zg_gr y3 (zg_ce y2 (zg_cl y1 bv))) ++ zw_gr tt kv (zg_gr y3 (zg_ce y2 (zg_cl y1 bv))) ++ zw_la tt kv (zg_gr y3 (zg_ce y2 (zg_cl y1 bv))) ++ zw_c0 tt kd bd ++ zw_cl tt kd bd ++ zw_ce tt kd bd ++ zw_gr tt kd bd ++ zw_la tt kd bd)) := z_pm (fun _ x => by simp only [List.count_append, List.count_nil] <;> omega)
  have hPc := z_takeP hpm hP
  have hDc := z_takeD hpm hD
  have hFc := z_free0 hDc hS hA
  refine z_callmv (wc := (zw_ro tt kv (zg_gr y3 (zg_ce y2 (zg_cl y1 bv))) ++ zw_ro tt kd bd)) (w1 := (zw_ro tt kv y4 ++ zw_ro tt kd bd)) (va_runV (As := [.ref (kd 4)]) (rest := []) ⟨hx, hb, hml, hown, hts⟩ (c_X7_copyFrom l D tt kv kd _ (zg_gr y3 (zg_ce y2 (zg_cl y1 bv))) bd y4 gy4) (cwV 1 hts gX2_copyFrom_X7_copyFrom rfl rfl rfl (by decide +kernel) ⟨Nat.le_of_ble_eq_true rfl, Nat.le_of_ble_eq_true rfl⟩) (z_preVm hK hPc hDc (ci := 7) (q0 := 0) rfl rfl) rfl rfl hl.1 rfl (lv_room (Nat.le_of_ble_eq_true rfl)) dX2_copyFrom_41 ⟨Nat.zero_le _, Nat.zero_le _⟩) hS hFc (fun H locs hP1 hD1 hk1 hS => ?_)
  have hpm2 : List.Perm ((zw_c0 tt kv (zg_gr y3 (zg_ce y2 (zg_cl y1 bv))) ++ (zw_cl tt kv (zg_gr y3 (zg_ce y2 (zg_cl y1 bv))) ++ (zw_ce tt kv (zg_gr y3 (zg_ce y2 (zg_cl y1 bv))) ++ (zw_gr tt kv (zg_gr y3 (zg_ce y2 (zg_cl y1 bv))) ++ (zw_ro tt kv y4 ++ (zw_la tt kv (zg_gr y3 (zg_ce y2 (zg_cl y1 bv))))))))) ++ (zw_c0 tt kd bd ++ (zw_cl tt kd bd ++ (zw_ce tt kd bd ++ (zw_gr tt kd bd ++ (zw_ro tt kd bd ++ (zw_la tt kd bd))))))) ((zw_ro tt kv y4 ++ zw_ro tt kd bd) ++ (zw_c0 tt kv (zg_gr y3 (zg_ce y2 (zg_cl y1 bv))) ++ zw_cl tt kv (zg_gr y3 (zg_ce y2 (zg_cl y1 bv))) ++ zw_ce tt kv (zg_gr y3 (zg_ce y2 (zg_cl y1 bv))) ++ zw_gr tt kv (zg_gr y3 (zg_ce y2 (zg_cl y1 bv))) ++ zw_la tt kv (zg_gr y3 (zg_ce y2 (zg_cl y1 bv))) ++ zw_c0 tt kd bd ++ zw_cl tt kd bd ++ zw_ce tt kd bd ++ zw_gr tt kd bd ++ zw_la tt kd bd)) := z_pm (fun _ x => by simp only [List.count_append, List.count_nil] <;> omega)
  obtain ⟨hP, hD⟩ := z_joinB hpm hpm2 hP hD hk1 hFc hP1 hD1
  clear hpm hpm2
  have hP : va_P D vwCl (zw_co tt kv (zg_ro y4 (zg_gr y3 (zg_ce y2 (zg_cl y1 bv)))) ++ zw_co tt kd bd) H := hP
  have hD : va_D A (zw_co tt kv (zg_ro y4 (zg_gr y3 (zg_ce y2 (zg_cl y1 bv)))) ++ zw_co tt kd bd) := hD
  refine lv_aload_n hx hb dX2_copyFrom_44 rfl (lv_at hl 0 rfl) ?_
  refine lv_aload_n hx hb dX2_copyFrom_45 rfl (lv_at hl 1 rfl) ?_
  refine va_get (D := D) (ci := 2) (v := .int (bd 0 6)) (C := RX2) (T := TX2) (N := 11) hx hb hts hi2 hown hK.1 hP 24 rfl rfl 4 (by decide) fl56 (fun _ h9 => h9) rfl dX2_copyFrom_46 ?_
  refine va_put (D := D) (ci := 2) (v := .int (bd 0 6)) (ty := .int) (C := RX2) (T := TX2) (N := 11) hx hb hts hi2 tyX2 tyX2_ok nmX2 hown hK.1 hP hD hS 0 rfl rfl 4 (by decide) fl56 (fun _ h9 => h9) rfl (by decide +kernel) rfl rfl (Nat.le_of_ble_eq_true rfl) dX2_copyFrom_49 (fun H locs hP hD hS => ?_)
  have hP : va_P D vwCl (zw_co tt kv (zu (zg_ro y4 (zg_gr y3 (zg_ce y2 (zg_cl y1 bv)))) 0 (zu ((zg_ro y4 (zg_gr y3 (zg_ce y2 (zg_cl y1 bv)))) 0) 6 (bd 0 6))) ++ zw_co tt kd bd) H := hP
  have hD : va_D A (zw_co tt kv (zu (zg_ro y4 (zg_gr y3 (zg_ce y2 (zg_cl y1 bv)))) 0 (zu ((zg_ro y4 (zg_gr y3 (zg_ce y2 (zg_cl y1 bv)))) 0) 6 (bd 0 6))) ++ zw_co tt kd bd) := hD
  refine lv_aload_n hx hb dX2_copyFrom_52 rfl (lv_at hl 1 rfl) ?_
  refine va_get (D := D) (ci := 2) (v := .ref (kd 23)) (C := RX2) (T := TX2) (N := 11) hx hb hts hi2 hown hK.1 hP 24 rfl rfl 5 (by decide) fl39 (fun _ h9 => h9) rfl dX2_copyFrom_53 ?_
  refine lv_aload_n hx hb dX2_copyFrom_56 rfl (lv_at hl 0 rfl) ?_
  refine va_get (D := D) (ci := 2) (v := .ref (kv 23)) (C := RX2) (T := TX2) (N := 11) hx hb hts hi2 hown hK.1 hP 0 rfl rfl 5 (by decide) fl39 (fun _ h9 => h9) rfl dX2_copyFrom_57 ?_
  have hpm : List.Perm ((zw_c0 tt kv (zu (zg_ro y4 (zg_gr y3 (zg_ce y2 (zg_cl y1 bv)))) 0 (zu ((zg_ro y4 (zg_gr y3 (zg_ce y2 (zg_cl y1 bv)))) 0) 6 (bd 0 6))) ++ (zw_cl tt kv (zu (zg_ro y4 (zg_gr y3 (zg_ce y2 (zg_cl y1 bv)))) 0 (zu ((zg_ro y4 (zg_gr y3 (zg_ce y2 (zg_cl y1 bv)))) 0) 6 (bd 0 6))) ++ (zw_ce tt kv (zu (zg_ro y4 (zg_gr y3 (zg_ce y2 (zg_cl y1 bv)))) 0 (zu ((zg_ro y4 (zg_gr y3 (zg_ce y2 (zg_cl y1 bv)))) 0) 6 (bd 0 6))) ++ (zw_gr tt kv (zu (zg_ro y4 (zg_gr y3 (zg_ce y2 (zg_cl y1 bv)))) 0 (zu ((zg_ro y4 (zg_gr y3 (zg_ce y2 (zg_cl y1 bv)))) 0) 6 (bd 0 6))) ++ (zw_ro tt kv (zu (zg_ro y4 (zg_gr y3 (zg_ce y2 (zg_cl y1 bv)))) 0 (zu ((zg_ro y4 (zg_gr y3 (zg_ce y2 (zg_cl y1 bv)))) 0) 6 (bd 0 6))) ++ (zw_la tt kv (zu (zg_ro y4 (zg_gr y3 (zg_ce y2 (zg_cl y1 bv)))) 0 (zu ((zg_ro y4 (zg_gr y3 (zg_ce y2 (zg_cl y1 bv)))) 0) 6 (bd 0 6))))))))) ++ (zw_c0 tt kd bd ++ (zw_cl tt kd bd ++ (zw_ce tt kd bd ++ (zw_gr tt kd bd ++ (zw_ro tt kd bd ++ (zw_la tt kd bd))))))) ((zw_la tt kd bd ++ zw_la tt kv (zu (zg_ro y4 (zg_gr y3 (zg_ce y2 (zg_cl y1 bv)))) 0 (zu ((zg_ro y4 (zg_gr y3 (zg_ce y2 (zg_cl y1 bv)))) 0) 6 (bd 0 6)))) ++ (zw_c0 tt kv (zu (zg_ro y4 (zg_gr y3 (zg_ce y2 (zg_cl y1 bv)))) 0 (zu ((zg_ro y4 (zg_gr y3 (zg_ce y2 (zg_cl y1 bv)))) 0) 6 (bd 0 6))) ++ zw_cl tt kv (zu (zg_ro y4 (zg_gr y3 (zg_ce y2 (zg_cl y1 bv)))) 0 (zu ((zg_ro y4 (zg_gr y3 (zg_ce y2 (zg_cl y1 bv)))) 0) 6 (bd 0 6))) ++ zw_ce tt kv (zu (zg_ro y4 (zg_gr y3 (zg_ce y2 (zg_cl y1 bv)))) 0 (zu ((zg_ro y4 (zg_gr y3 (zg_ce y2 (zg_cl y1 bv)))) 0) 6 (bd 0 6))) ++ zw_gr tt kv (zu (zg_ro y4 (zg_gr y3 (zg_ce y2 (zg_cl y1 bv)))) 0 (zu ((zg_ro y4 (zg_gr y3 (zg_ce y2 (zg_cl y1 bv)))) 0) 6 (bd 0 6))) ++ zw_ro tt kv (zu (zg_ro y4 (zg_gr y3 (zg_ce y2 (zg_cl y1 bv)))) 0 (zu ((zg_ro y4 (zg_gr y3 (zg_ce y2 (zg_cl y1 bv)))) 0) 6 (bd 0 6))) ++ zw_c0 tt kd bd ++ zw_cl tt kd bd ++ zw_ce tt kd bd ++ zw_gr tt kd bd ++ zw_ro tt kd bd)) := z_pm (fun _ x => by simp only [List.count_append, List.count_nil] <;> omega)
  have hPc : va_P D vwCl [(kd 23, .inl (tt 0, 8, .inl (bd 19))), (kv 23, .inl (tt 0, 8, .inl ((zg_ro y4 (zg_gr y3 (zg_ce y2 (zg_cl y1 bv)))) 19)))] _ := z_takeP hpm hP
  have hDc : va_D A [(kd 23, .inl (tt 0, 8, .inl (bd 19))), (kv 23, .inl (tt 0, 8, .inl ((zg_ro y4 (zg_gr y3 (zg_ce y2 (zg_cl y1 bv)))) 19)))] := z_takeD hpm hD
  have hFc := z_free0 hDc hS hA
  refine z_callmv (wc := [(kd 23, .inl (tt 0, 8, .inl (bd 19))), (kv 23, .inl (tt 0, 8, .inl ((zg_ro y4 (zg_gr y3 (zg_ce y2 (zg_cl y1 bv)))) 19)))]) (w1 := [(kd 23, .inl (tt 0, 8, .inl (bd 19))), (kv 23, .inl (tt 0, 8, .inl (va_cpy (bd 19) ((zg_ro y4 (zg_gr y3 (zg_ce y2 (zg_cl y1 bv)))) 19) 0 0 8)))]) (va_runSN (As := [.ref (kd 23), .ref (kv 23)]) (rest := []) ⟨hx, hb, hml, hown, hts⟩ (c_X9_copyRow l D tt (kd 23) (kv 23) _ 8 (by decide) (bd 19) ((zg_ro y4 (zg_gr y3 (zg_ce y2 (zg_cl y1 bv)))) 19)) ⟨va_cnB (host := "CapStacks") 2 hts gX2_copyFrom_X9_copyRow_n60 rfl rfl rfl nw60 iniX9 (by decide +kernel) ⟨Nat.le_of_ble_eq_true rfl, Nat.le_of_ble_eq_true rfl⟩, st_X9_copyRow, trivial⟩ (z_preSm hK hPc hDc) rfl rfl hl.1 rfl (lv_room (Nat.le_of_ble_eq_true rfl)) dX2_copyFrom_60 ⟨Nat.zero_le _, Nat.zero_le _⟩) hS hFc (fun H locs hP1 hD1 hk1 hS => ?_)
  have hpm2 : List.Perm ((zw_c0 tt kv (zu (zg_ro y4 (zg_gr y3 (zg_ce y2 (zg_cl y1 bv)))) 0 (zu ((zg_ro y4 (zg_gr y3 (zg_ce y2 (zg_cl y1 bv)))) 0) 6 (bd 0 6))) ++ (zw_cl tt kv (zu (zg_ro y4 (zg_gr y3 (zg_ce y2 (zg_cl y1 bv)))) 0 (zu ((zg_ro y4 (zg_gr y3 (zg_ce y2 (zg_cl y1 bv)))) 0) 6 (bd 0 6))) ++ (zw_ce tt kv (zu (zg_ro y4 (zg_gr y3 (zg_ce y2 (zg_cl y1 bv)))) 0 (zu ((zg_ro y4 (zg_gr y3 (zg_ce y2 (zg_cl y1 bv)))) 0) 6 (bd 0 6))) ++ (zw_gr tt kv (zu (zg_ro y4 (zg_gr y3 (zg_ce y2 (zg_cl y1 bv)))) 0 (zu ((zg_ro y4 (zg_gr y3 (zg_ce y2 (zg_cl y1 bv)))) 0) 6 (bd 0 6))) ++ (zw_ro tt kv (zu (zg_ro y4 (zg_gr y3 (zg_ce y2 (zg_cl y1 bv)))) 0 (zu ((zg_ro y4 (zg_gr y3 (zg_ce y2 (zg_cl y1 bv)))) 0) 6 (bd 0 6))) ++ (zw_la tt kv (zu (zu (zg_ro y4 (zg_gr y3 (zg_ce y2 (zg_cl y1 bv)))) 0 (zu ((zg_ro y4 (zg_gr y3 (zg_ce y2 (zg_cl y1 bv)))) 0) 6 (bd 0 6))) 19 (va_cpy (bd 19) ((zg_ro y4 (zg_gr y3 (zg_ce y2 (zg_cl y1 bv)))) 19) 0 0 8)))))))) ++ (zw_c0 tt kd bd ++ (zw_cl tt kd bd ++ (zw_ce tt kd bd ++ (zw_gr tt kd bd ++ (zw_ro tt kd bd ++ (zw_la tt kd bd))))))) ((zw_la tt kd bd ++ zw_la tt kv (zu (zu (zg_ro y4 (zg_gr y3 (zg_ce y2 (zg_cl y1 bv)))) 0 (zu ((zg_ro y4 (zg_gr y3 (zg_ce y2 (zg_cl y1 bv)))) 0) 6 (bd 0 6))) 19 (va_cpy (bd 19) ((zg_ro y4 (zg_gr y3 (zg_ce y2 (zg_cl y1 bv)))) 19) 0 0 8))) ++ (zw_c0 tt kv (zu (zg_ro y4 (zg_gr y3 (zg_ce y2 (zg_cl y1 bv)))) 0 (zu ((zg_ro y4 (zg_gr y3 (zg_ce y2 (zg_cl y1 bv)))) 0) 6 (bd 0 6))) ++ zw_cl tt kv (zu (zg_ro y4 (zg_gr y3 (zg_ce y2 (zg_cl y1 bv)))) 0 (zu ((zg_ro y4 (zg_gr y3 (zg_ce y2 (zg_cl y1 bv)))) 0) 6 (bd 0 6))) ++ zw_ce tt kv (zu (zg_ro y4 (zg_gr y3 (zg_ce y2 (zg_cl y1 bv)))) 0 (zu ((zg_ro y4 (zg_gr y3 (zg_ce y2 (zg_cl y1 bv)))) 0) 6 (bd 0 6))) ++ zw_gr tt kv (zu (zg_ro y4 (zg_gr y3 (zg_ce y2 (zg_cl y1 bv)))) 0 (zu ((zg_ro y4 (zg_gr y3 (zg_ce y2 (zg_cl y1 bv)))) 0) 6 (bd 0 6))) ++ zw_ro tt kv (zu (zg_ro y4 (zg_gr y3 (zg_ce y2 (zg_cl y1 bv)))) 0 (zu ((zg_ro y4 (zg_gr y3 (zg_ce y2 (zg_cl y1 bv)))) 0) 6 (bd 0 6))) ++ zw_c0 tt kd bd ++ zw_cl tt kd bd ++ zw_ce tt kd bd ++ zw_gr tt kd bd ++ zw_ro tt kd bd)) := z_pm (fun _ x => by simp only [List.count_append, List.count_nil] <;> omega)
  obtain ⟨hP, hD⟩ := z_joinB (wc := (zw_la tt kd bd ++ zw_la tt kv (zu (zg_ro y4 (zg_gr y3 (zg_ce y2 (zg_cl y1 bv)))) 0 (zu ((zg_ro y4 (zg_gr y3 (zg_ce y2 (zg_cl y1 bv)))) 0) 6 (bd 0 6))))) hpm hpm2 hP hD hk1 hFc hP1 hD1
  clear hpm hpm2
  have hP : va_P D vwCl (zw_co tt kv (zu (zu (zg_ro y4 (zg_gr y3 (zg_ce y2 (zg_cl y1 bv)))) 0 (zu ((zg_ro y4 (zg_gr y3 (zg_ce y2 (zg_cl y1 bv)))) 0) 6 (bd 0 6))) 19 (va_cpy (bd 19) ((zg_ro y4 (zg_gr y3 (zg_ce y2 (zg_cl y1 bv)))) 19) 0 0 8)) ++ zw_co tt kd bd) H := hP
  have hD : va_D A (zw_co tt kv (zu (zu (zg_ro y4 (zg_gr y3 (zg_ce y2 (zg_cl y1 bv)))) 0 (zu ((zg_ro y4 (zg_gr y3 (zg_ce y2 (zg_cl y1 bv)))) 0) 6 (bd 0 6))) 19 (va_cpy (bd 19) ((zg_ro y4 (zg_gr y3 (zg_ce y2 (zg_cl y1 bv)))) 19) 0 0 8)) ++ zw_co tt kd bd) := hD
  refine lv_aload_n hx hb dX2_copyFrom_63 rfl (lv_at hl 0 rfl) ?_
  refine lv_aload_n hx hb dX2_copyFrom_64 rfl (lv_at hl 1 rfl) ?_
  refine va_get (D := D) (ci := 2) (v := .int (bd 0 7)) (C := RX2) (T := TX2) (N := 11) hx hb hts hi2 hown hK.1 hP 24 rfl rfl 6 (by decide) fl64 (fun _ h9 => h9) rfl dX2_copyFrom_65 ?_
  refine va_put (D := D) (ci := 2) (v := .int (bd 0 7)) (ty := .int) (C := RX2) (T := TX2) (N := 11) hx hb hts hi2 tyX2 tyX2_ok nmX2 hown hK.1 hP hD hS 0 rfl rfl 6 (by decide) fl64 (fun _ h9 => h9) rfl (by decide +kernel) rfl rfl (Nat.le_of_ble_eq_true rfl) dX2_copyFrom_68 (fun H locs hP hD hS => ?_)
  have hP : va_P D vwCl (zw_co tt kv (zu (zu (zg_ro y4 (zg_gr y3 (zg_ce y2 (zg_cl y1 bv)))) 0 (zu (zu ((zg_ro y4 (zg_gr y3 (zg_ce y2 (zg_cl y1 bv)))) 0) 6 (bd 0 6)) 7 (bd 0 7))) 19 (va_cpy (bd 19) ((zg_ro y4 (zg_gr y3 (zg_ce y2 (zg_cl y1 bv)))) 19) 0 0 8)) ++ zw_co tt kd bd) H := hP
  have hD : va_D A (zw_co tt kv (zu (zu (zg_ro y4 (zg_gr y3 (zg_ce y2 (zg_cl y1 bv)))) 0 (zu (zu ((zg_ro y4 (zg_gr y3 (zg_ce y2 (zg_cl y1 bv)))) 0) 6 (bd 0 6)) 7 (bd 0 7))) 19 (va_cpy (bd 19) ((zg_ro y4 (zg_gr y3 (zg_ce y2 (zg_cl y1 bv)))) 19) 0 0 8)) ++ zw_co tt kd bd) := hD
  refine lv_aload_n hx hb dX2_copyFrom_71 rfl (lv_at hl 0 rfl) ?_
  refine lv_aload_n hx hb dX2_copyFrom_72 rfl (lv_at hl 1 rfl) ?_
  refine va_get (D := D) (ci := 2) (v := .int (bd 0 8)) (C := RX2) (T := TX2) (N := 11) hx hb hts hi2 hown hK.1 hP 24 rfl rfl 7 (by decide) fl67 (fun _ h9 => h9) rfl dX2_copyFrom_73 ?_
  refine va_put (D := D) (ci := 2) (v := .int (bd 0 8)) (ty := .int) (C := RX2) (T := TX2) (N := 11) hx hb hts hi2 tyX2 tyX2_ok nmX2 hown hK.1 hP hD hS 0 rfl rfl 7 (by decide) fl67 (fun _ h9 => h9) rfl (by decide +kernel) rfl rfl (Nat.le_of_ble_eq_true rfl) dX2_copyFrom_76 (fun H locs hP hD hS => ?_)
  have hP : va_P D vwCl (zw_co tt kv (zu (zu (zg_ro y4 (zg_gr y3 (zg_ce y2 (zg_cl y1 bv)))) 0 (zu (zu (zu ((zg_ro y4 (zg_gr y3 (zg_ce y2 (zg_cl y1 bv)))) 0) 6 (bd 0 6)) 7 (bd 0 7)) 8 (bd 0 8))) 19 (va_cpy (bd 19) ((zg_ro y4 (zg_gr y3 (zg_ce y2 (zg_cl y1 bv)))) 19) 0 0 8)) ++ zw_co tt kd bd) H := hP
  have hD : va_D A (zw_co tt kv (zu (zu (zg_ro y4 (zg_gr y3 (zg_ce y2 (zg_cl y1 bv)))) 0 (zu (zu (zu ((zg_ro y4 (zg_gr y3 (zg_ce y2 (zg_cl y1 bv)))) 0) 6 (bd 0 6)) 7 (bd 0 7)) 8 (bd 0 8))) 19 (va_cpy (bd 19) ((zg_ro y4 (zg_gr y3 (zg_ce y2 (zg_cl y1 bv)))) 19) 0 0 8)) ++ zw_co tt kd bd) := hD
  refine lv_aload_n hx hb dX2_copyFrom_79 rfl (lv_at hl 0 rfl) ?_
  refine lv_aload_n hx hb dX2_copyFrom_80 rfl (lv_at hl 1 rfl) ?_
  refine va_get (D := D) (ci := 2) (v := .int (bd 0 9)) (C := RX2) (T := TX2) (N := 11) hx hb hts hi2 hown hK.1 hP 24 rfl rfl 8 (by decide) fl70 (fun _ h9 => h9) rfl dX2_copyFrom_81 ?_
  refine va_put (D := D) (ci := 2) (v := .int (bd 0 9)) (ty := .int) (C := RX2) (T := TX2) (N := 11) hx hb hts hi2 tyX2 tyX2_ok nmX2 hown hK.1 hP hD hS 0 rfl rfl 8 (by decide) fl70 (fun _ h9 => h9) rfl (by decide +kernel) rfl rfl (Nat.le_of_ble_eq_true rfl) dX2_copyFrom_84 (fun H locs hP hD hS => ?_)
  have hP : va_P D vwCl (zw_co tt kv (zu (zu (zg_ro y4 (zg_gr y3 (zg_ce y2 (zg_cl y1 bv)))) 0 (zu (zu (zu (zu ((zg_ro y4 (zg_gr y3 (zg_ce y2 (zg_cl y1 bv)))) 0) 6 (bd 0 6)) 7 (bd 0 7)) 8 (bd 0 8)) 9 (bd 0 9))) 19 (va_cpy (bd 19) ((zg_ro y4 (zg_gr y3 (zg_ce y2 (zg_cl y1 bv)))) 19) 0 0 8)) ++ zw_co tt kd bd) H := hP
  have hD : va_D A (zw_co tt kv (zu (zu (zg_ro y4 (zg_gr y3 (zg_ce y2 (zg_cl y1 bv)))) 0 (zu (zu (zu (zu ((zg_ro y4 (zg_gr y3 (zg_ce y2 (zg_cl y1 bv)))) 0) 6 (bd 0 6)) 7 (bd 0 7)) 8 (bd 0 8)) 9 (bd 0 9))) 19 (va_cpy (bd 19) ((zg_ro y4 (zg_gr y3 (zg_ce y2 (zg_cl y1 bv)))) 19) 0 0 8)) ++ zw_co tt kd bd) := hD
  refine lv_aload_n hx hb dX2_copyFrom_87 rfl (lv_at hl 0 rfl) ?_
  refine lv_aload_n hx hb dX2_copyFrom_88 rfl (lv_at hl 1 rfl) ?_
  refine va_get (D := D) (ci := 2) (v := .int (bd 0 10)) (C := RX2) (T := TX2) (N := 11) hx hb hts hi2 hown hK.1 hP 24 rfl rfl 9 (by decide) fl73 (fun _ h9 => h9) rfl dX2_copyFrom_89 ?_
  refine va_put (D := D) (ci := 2) (v := .int (bd 0 10)) (ty := .int) (C := RX2) (T := TX2) (N := 11) hx hb hts hi2 tyX2 tyX2_ok nmX2 hown hK.1 hP hD hS 0 rfl rfl 9 (by decide) fl73 (fun _ h9 => h9) rfl (by decide +kernel) rfl rfl (Nat.le_of_ble_eq_true rfl) dX2_copyFrom_92 (fun H locs hP hD hS => ?_)
  have hP : va_P D vwCl (zw_co tt kv (zu (zu (zg_ro y4 (zg_gr y3 (zg_ce y2 (zg_cl y1 bv)))) 0 (zu (zu (zu (zu (zu ((zg_ro y4 (zg_gr y3 (zg_ce y2 (zg_cl y1 bv)))) 0) 6 (bd 0 6)) 7 (bd 0 7)) 8 (bd 0 8)) 9 (bd 0 9)) 10 (bd 0 10))) 19 (va_cpy (bd 19) ((zg_ro y4 (zg_gr y3 (zg_ce y2 (zg_cl y1 bv)))) 19) 0 0 8)) ++ zw_co tt kd bd) H := hP
  have hD : va_D A (zw_co tt kv (zu (zu (zg_ro y4 (zg_gr y3 (zg_ce y2 (zg_cl y1 bv)))) 0 (zu (zu (zu (zu (zu ((zg_ro y4 (zg_gr y3 (zg_ce y2 (zg_cl y1 bv)))) 0) 6 (bd 0 6)) 7 (bd 0 7)) 8 (bd 0 8)) 9 (bd 0 9)) 10 (bd 0 10))) 19 (va_cpy (bd 19) ((zg_ro y4 (zg_gr y3 (zg_ce y2 (zg_cl y1 bv)))) 19) 0 0 8)) ++ zw_co tt kd bd) := hD
  refine lv_aload_n hx hb dX2_copyFrom_95 rfl (lv_at hl 0 rfl) ?_
  refine lv_aload_n hx hb dX2_copyFrom_96 rfl (lv_at hl 1 rfl) ?_
  refine va_get (D := D) (ci := 2) (v := .int (bd 0 11)) (C := RX2) (T := TX2) (N := 11) hx hb hts hi2 hown hK.1 hP 24 rfl rfl 10 (by decide) fl76 (fun _ h9 => h9) rfl dX2_copyFrom_97 ?_
  refine va_put (D := D) (ci := 2) (v := .int (bd 0 11)) (ty := .int) (C := RX2) (T := TX2) (N := 11) hx hb hts hi2 tyX2 tyX2_ok nmX2 hown hK.1 hP hD hS 0 rfl rfl 10 (by decide) fl76 (fun _ h9 => h9) rfl (by decide +kernel) rfl rfl (Nat.le_of_ble_eq_true rfl) dX2_copyFrom_100 (fun H locs hP hD hS => ?_)
  have hP : va_P D vwCl (zw_co tt kv (zu (zu (zg_ro y4 (zg_gr y3 (zg_ce y2 (zg_cl y1 bv)))) 0 (zu (zu (zu (zu (zu (zu ((zg_ro y4 (zg_gr y3 (zg_ce y2 (zg_cl y1 bv)))) 0) 6 (bd 0 6)) 7 (bd 0 7)) 8 (bd 0 8)) 9 (bd 0 9)) 10 (bd 0 10)) 11 (bd 0 11))) 19 (va_cpy (bd 19) ((zg_ro y4 (zg_gr y3 (zg_ce y2 (zg_cl y1 bv)))) 19) 0 0 8)) ++ zw_co tt kd bd) H := hP
  have hD : va_D A (zw_co tt kv (zu (zu (zg_ro y4 (zg_gr y3 (zg_ce y2 (zg_cl y1 bv)))) 0 (zu (zu (zu (zu (zu (zu ((zg_ro y4 (zg_gr y3 (zg_ce y2 (zg_cl y1 bv)))) 0) 6 (bd 0 6)) 7 (bd 0 7)) 8 (bd 0 8)) 9 (bd 0 9)) 10 (bd 0 10)) 11 (bd 0 11))) 19 (va_cpy (bd 19) ((zg_ro y4 (zg_gr y3 (zg_ce y2 (zg_cl y1 bv)))) 19) 0 0 8)) ++ zw_co tt kd bd) := hD
  exact hfin _ _ _ _ _ h hP hD hS dX2_copyFrom_103
set_option maxHeartbeats 4000000 in
set_option maxRecDepth 100000 in
theorem c_X2_addClass (l : Launch) (D : va_G) (tt : Nat → ClassId) (kv : Nat → Nat) (sz : Nat) (bv : zV) (x1 : Int32) (x2 : Int32) (x3 : Int32) (x4 : Int32) (x5 : Int32) (out : Int32 × zV) (h : f_X2_addClass bv x1 x2 x3 x4 x5 = some out) : Met l yX2_addClass wsX2_addClass { frames := 1, cells := 0, slots := 0, locals := 22 } (zPm [.ref (kv 0), .int x1, .int x2, .int x3, .int x4, .int x5] D tt (zw_co tt kv bv) sz) (zMi .int out.1 D (zw_co tt kv out.2) (va_A (zw_co tt kv bv) sz)) 0 0 (va_A (zw_co tt kv bv) sz) := by
  refine Met.ofW (cc := cX2_addClass) (maxL := 7) (ret := (some .int)) (by decide) rfl ?_
  intro p e s m args below meth c s₁ B hml hv
  obtain ⟨ha, hsz, hP, hK, hD0⟩ := hv
  have hx := B.exec
  have hb := B.bytes
  have hr := B.returns
  have hts := atoms_spec (ws := wsX2_addClass) B.pre
  have hown : s.vm.findClass RX2 = some m.cls := findClass_of_methodNamed B.named
  have hlocks := B.notSynchronized
  have hi1 : ∀ w ∈ u_ws RX1 TX1 6, w ∈ wsX2_addClass := fun _ h => List.mem_cons_of_mem _ (List.mem_append_right _ h)
  have hi2 : ∀ w ∈ u_ws RX2 TX2 11, w ∈ wsX2_addClass := fun _ h => List.mem_cons_of_mem _ (List.mem_append_left _ (List.mem_append_right _ h))
  have fl12 := hts (.fieldLink RX2 12 "CapStacks$Company" "classes" "LCapStacks$Classes;") (by decide +kernel)
  have fl79 := hts (.fieldLink RX2 79 "CapStacks$Classes" "size" "I") (by decide +kernel)
  have fl87 := hts (.fieldLink RX2 87 "CapStacks$Classes" "price" "[I") (by decide +kernel)
  have fl90 := hts (.fieldLink RX2 90 "CapStacks$Classes" "multiple" "[I") (by decide +kernel)
  have fl93 := hts (.fieldLink RX2 93 "CapStacks$Classes" "rank" "[I") (by decide +kernel)
  have fl96 := hts (.fieldLink RX2 96 "CapStacks$Classes" "kind" "[I") (by decide +kernel)
  have fl99 := hts (.fieldLink RX2 99 "CapStacks$Classes" "ratio" "[I") (by decide +kernel)
  have iniX9 := hts (.initialized RX9) (by decide +kernel)
  have st_X9_within := hts (.static yX9_within) (by decide +kernel)
  have nw82 : va_Nw (.methodLinkNest RX2 82 yX9_within "CapStacks") s := hK.2.1 (RX2, 82, yX9_within, "CapStacks") (List.mem_of_getElem? (i := 13) rfl)
  subst hsz
  have hD := hD0.self (sz := s.heap.size)
  generalize hAe : va_A (zw_co tt kv bv) s.heap.size = A at hD ⊢
  have hA : ∀ q : Nat, s.heap.size ≤ q → A q := fun q h => by rw [← hAe]; exact Or.inr h
  have hS : va_S A s.heap s.heap [] := va_S.rf
  have hfin : ∀ (v : Int32) (bv : zV) (pc : Nat) (ls : Array Slot) (H : Heap) (locs : List Loc), some (v, bv) = some out → narrow .int (.int v) = .int v → va_P D vwCl (zw_co tt kv bv) H → va_D A (zw_co tt kv bv) → va_S A s.heap H locs → decode cX2_addClass pc = .ok (.ireturn, 1) → W p l e (headSpec wsX2_addClass { frames := 1, cells := 0, slots := 0, locals := 22 }).room s m args below meth c H locs 0 0 (MQ below (zMi .int out.1 D (zw_co tt kv out.2) A) args s 0 0 A) (F0 m pc ls [.int v]) := by
    intro v bv pc ls H locs he hn hP hD hS hd
    cases he
    exact W.zret hx hb hr hn (fun t ht hW => ⟨⟨_, (), rfl, ⟨rfl, hn⟩, by rw [ht]; exact hP, hD⟩, hS.F ht⟩) hS.2.2 hd
  generalize MQ below (zMi .int out.1 D (zw_co tt kv out.2) A) args s 0 0 A = Q at hfin ⊢
  have hl := lv_entry ([.ref (kv 0), .int x1, .int x2, .int x3, .int x4, .int x5]) (n := 7) (Nat.le_of_ble_eq_true rfl)
  refine W.eq (g2 := F0 m 0 ((lg_sl ([.ref (kv 0), .int x1, .int x2, .int x3, .int x4, .int x5]) ++ List.replicate (7 - (lg_sl ([.ref (kv 0), .int x1, .int x2, .int x3, .int x4, .int x5])).length) Slot.unset).toArray) []) (by rw [ha]; exact lg_entry_eq _ _ _) ?_
  generalize (lg_sl ([.ref (kv 0), .int x1, .int x2, .int x3, .int x4, .int x5]) ++ List.replicate (7 - (lg_sl ([.ref (kv 0), .int x1, .int x2, .int x3, .int x4, .int x5])).length) Slot.unset).toArray = ls at hl ⊢
  have hl : lv_has ls 7 [(0, .ref (kv 0)), (1, .int x1), (2, .int x2), (3, .int x3), (4, .int x4), (5, .int x5)] := hl
  rw [f_X2_addClass] at h
  refine lv_iload_n hx hb dX2_addClass_0 rfl (lv_at hl 1 rfl) ?_
  refine lv_iconst (v := 1) hx hb dX2_addClass_1 (by decide) ?_
  refine lv_bipush (v := 99) hx hb dX2_addClass_2 (by decide) ?_
  obtain ⟨y1, gy1, h⟩ := zb_some h
  refine z_callr (va_runSN (As := [.int x1, .int 1, .int 99]) (rest := []) ⟨hx, hb, hml, hown, hts⟩ (c_X9_within l D tt x1 1 99 y1 gy1) ⟨va_cnB (host := "CapStacks") 3 hts gX2_addClass_X9_within_n82 rfl rfl rfl nw82 iniX9 (by decide +kernel) ⟨Nat.le_of_ble_eq_true rfl, Nat.le_of_ble_eq_true rfl⟩, st_X9_within, trivial⟩ (z_preSr hK (hP.sub (ws' := ([] : va_W)) [] rfl)) rfl rfl hl.1 rfl (lv_room (Nat.le_of_ble_eq_true rfl)) dX2_addClass_4 ⟨Nat.zero_le _, Nat.zero_le _⟩) (fun ny1 => ?_)
  refine lv_if_eq (tgt := 49) hx hb dX2_addClass_7 (by decide) (fun k2 => ?_) (fun k2 => ?_)
  · replace h := z_pos k2 h
    refine lv_iconst (v := (-1)) hx hb dX2_addClass_49 (by decide) ?_
    exact hfin _ _ _ _ _ _ h rfl hP hD hS dX2_addClass_50
  replace h := z_neg k2 h
  refine lv_iload_n hx hb dX2_addClass_10 rfl (lv_at hl 2 rfl) ?_
  refine lv_iconst (v := 1) hx hb dX2_addClass_11 (by decide) ?_
  refine lv_iconst (v := 3) hx hb dX2_addClass_12 (by decide) ?_
  obtain ⟨y3, gy3, h⟩ := zb_some h
  refine z_callr (va_runSN (As := [.int x2, .int 1, .int 3]) (rest := []) ⟨hx, hb, hml, hown, hts⟩ (c_X9_within l D tt x2 1 3 y3 gy3) ⟨va_cnB (host := "CapStacks") 3 hts gX2_addClass_X9_within_n82 rfl rfl rfl nw82 iniX9 (by decide +kernel) ⟨Nat.le_of_ble_eq_true rfl, Nat.le_of_ble_eq_true rfl⟩, st_X9_within, trivial⟩ (z_preSr hK (hP.sub (ws' := ([] : va_W)) [] rfl)) rfl rfl hl.1 rfl (lv_room (Nat.le_of_ble_eq_true rfl)) dX2_addClass_13 ⟨Nat.zero_le _, Nat.zero_le _⟩) (fun ny3 => ?_)
  refine lv_if_eq (tgt := 49) hx hb dX2_addClass_16 (by decide) (fun k4 => ?_) (fun k4 => ?_)
  · replace h := z_pos k4 h
    refine lv_iconst (v := (-1)) hx hb dX2_addClass_49 (by decide) ?_
    exact hfin _ _ _ _ _ _ h rfl hP hD hS dX2_addClass_50
  replace h := z_neg k4 h
  refine lv_iload_n hx hb dX2_addClass_19 rfl (lv_at hl 3 rfl) ?_
  refine lv_iconst (v := 0) hx hb dX2_addClass_20 (by decide) ?_
  refine lv_bipush (v := 9) hx hb dX2_addClass_21 (by decide) ?_
  obtain ⟨y5, gy5, h⟩ := zb_some h
  refine z_callr (va_runSN (As := [.int x3, .int 0, .int 9]) (rest := []) ⟨hx, hb, hml, hown, hts⟩ (c_X9_within l D tt x3 0 9 y5 gy5) ⟨va_cnB (host := "CapStacks") 3 hts gX2_addClass_X9_within_n82 rfl rfl rfl nw82 iniX9 (by decide +kernel) ⟨Nat.le_of_ble_eq_true rfl, Nat.le_of_ble_eq_true rfl⟩, st_X9_within, trivial⟩ (z_preSr hK (hP.sub (ws' := ([] : va_W)) [] rfl)) rfl rfl hl.1 rfl (lv_room (Nat.le_of_ble_eq_true rfl)) dX2_addClass_23 ⟨Nat.zero_le _, Nat.zero_le _⟩) (fun ny5 => ?_)
  refine lv_if_eq (tgt := 49) hx hb dX2_addClass_26 (by decide) (fun k6 => ?_) (fun k6 => ?_)
  · replace h := z_pos k6 h
    refine lv_iconst (v := (-1)) hx hb dX2_addClass_49 (by decide) ?_
    exact hfin _ _ _ _ _ _ h rfl hP hD hS dX2_addClass_50
  replace h := z_neg k6 h
  refine lv_iload hx hb dX2_addClass_29 (lv_at hl 4 rfl) ?_
  refine lv_iconst (v := 0) hx hb dX2_addClass_31 (by decide) ?_
  refine lv_iconst (v := 2) hx hb dX2_addClass_32 (by decide) ?_
  obtain ⟨y7, gy7, h⟩ := zb_some h
  refine z_callr (va_runSN (As := [.int x4, .int 0, .int 2]) (rest := []) ⟨hx, hb, hml, hown, hts⟩ (c_X9_within l D tt x4 0 2 y7 gy7) ⟨va_cnB (host := "CapStacks") 3 hts gX2_addClass_X9_within_n82 rfl rfl rfl nw82 iniX9 (by decide +kernel) ⟨Nat.le_of_ble_eq_true rfl, Nat.le_of_ble_eq_true rfl⟩, st_X9_within, trivial⟩ (z_preSr hK (hP.sub (ws' := ([] : va_W)) [] rfl)) rfl rfl hl.1 rfl (lv_room (Nat.le_of_ble_eq_true rfl)) dX2_addClass_33 ⟨Nat.zero_le _, Nat.zero_le _⟩) (fun ny7 => ?_)
  refine lv_if_eq (tgt := 49) hx hb dX2_addClass_36 (by decide) (fun k8 => ?_) (fun k8 => ?_)
  · replace h := z_pos k8 h
    refine lv_iconst (v := (-1)) hx hb dX2_addClass_49 (by decide) ?_
    exact hfin _ _ _ _ _ _ h rfl hP hD hS dX2_addClass_50
  replace h := z_neg k8 h
  refine lv_iload hx hb dX2_addClass_39 (lv_at hl 5 rfl) ?_
  refine lv_iconst (v := 1) hx hb dX2_addClass_41 (by decide) ?_
  refine lv_iconst (v := 4) hx hb dX2_addClass_42 (by decide) ?_
  obtain ⟨y9, gy9, h⟩ := zb_some h
  refine z_callr (va_runSN (As := [.int x5, .int 1, .int 4]) (rest := []) ⟨hx, hb, hml, hown, hts⟩ (c_X9_within l D tt x5 1 4 y9 gy9) ⟨va_cnB (host := "CapStacks") 3 hts gX2_addClass_X9_within_n82 rfl rfl rfl nw82 iniX9 (by decide +kernel) ⟨Nat.le_of_ble_eq_true rfl, Nat.le_of_ble_eq_true rfl⟩, st_X9_within, trivial⟩ (z_preSr hK (hP.sub (ws' := ([] : va_W)) [] rfl)) rfl rfl hl.1 rfl (lv_room (Nat.le_of_ble_eq_true rfl)) dX2_addClass_43 ⟨Nat.zero_le _, Nat.zero_le _⟩) (fun ny9 => ?_)
  refine lv_if_ne (tgt := 51) hx hb dX2_addClass_46 (by decide) (fun k10 => ?_) (fun k10 => ?_)
  rotate_left
  · replace h := z_pos k10 h
    refine lv_iconst (v := (-1)) hx hb dX2_addClass_49 (by decide) ?_
    exact hfin _ _ _ _ _ _ h rfl hP hD hS dX2_addClass_50
  replace h := z_neg k10 h
  refine lv_aload_n hx hb dX2_addClass_51 rfl (lv_at hl 0 rfl) ?_
  refine va_get (D := D) (ci := 2) (v := .ref (kv 1)) (C := RX2) (T := TX2) (N := 11) hx hb hts hi2 hown hK.1 hP 0 rfl rfl 0 (by decide) fl12 (fun _ h9 => h9) rfl dX2_addClass_52 ?_
  refine va_get (D := D) (ci := 1) (v := .int (bv 0 0)) (C := RX1) (T := TX1) (N := 6) hx hb hts hi1 hown hK.1 hP 1 rfl rfl 0 (by decide) fl79 (fun _ h9 => h9) rfl dX2_addClass_55 ?_
  refine lv_istore (lv' := [(6, .int (bv 0 0)), (0, .ref (kv 0)), (1, .int x1), (2, .int x2), (3, .int x3), (4, .int x4), (5, .int x5)]) hx hb dX2_addClass_58 hl (by decide) rfl (fun ls hl => ?_)
  refine lv_iload hx hb dX2_addClass_60 (lv_at hl 0 rfl) ?_
  refine lv_iconst (v := 5) hx hb dX2_addClass_62 (by decide) ?_
  refine lv_icmp_lt (tgt := 69) hx hb dX2_addClass_63 (by decide) (fun k11 => ?_) (fun k11 => ?_)
  rotate_left
  · replace h := z_neg k11 h
    refine lv_bipush (v := (-3)) hx hb dX2_addClass_66 (by decide) ?_
    exact hfin _ _ _ _ _ _ h rfl hP hD hS dX2_addClass_68
  replace h := z_pos k11 h
  refine lv_aload_n hx hb dX2_addClass_69 rfl (lv_at hl 1 rfl) ?_
  refine va_get (D := D) (ci := 2) (v := .ref (kv 1)) (C := RX2) (T := TX2) (N := 11) hx hb hts hi2 hown hK.1 hP 0 rfl rfl 0 (by decide) fl12 (fun _ h9 => h9) rfl dX2_addClass_70 ?_
  refine va_get (D := D) (ci := 1) (v := .ref (kv 5)) (C := RX1) (T := TX1) (N := 6) hx hb hts hi1 hown hK.1 hP 1 rfl rfl 1 (by decide) fl87 (fun _ h9 => h9) rfl dX2_addClass_73 ?_
  refine lv_iload hx hb dX2_addClass_76 (lv_at hl 0 rfl) ?_
  refine lv_iload_n hx hb dX2_addClass_78 rfl (lv_at hl 2 rfl) ?_
  obtain ⟨q12, h⟩ := zA_some h
  refine va_iast hx hb hK.1 hP hD hS 2 0 rfl rfl q12 dX2_addClass_79 (fun H locs hP hD hS => ?_)
  have hP : va_P D vwCl (zw_co tt kv (zu bv 1 (upd (bv 1) (bv 0 0).toNatClampNeg x1))) H := hP
  have hD : va_D A (zw_co tt kv (zu bv 1 (upd (bv 1) (bv 0 0).toNatClampNeg x1))) := hD
  refine lv_aload_n hx hb dX2_addClass_80 rfl (lv_at hl 1 rfl) ?_
  refine va_get (D := D) (ci := 2) (v := .ref (kv 1)) (C := RX2) (T := TX2) (N := 11) hx hb hts hi2 hown hK.1 hP 0 rfl rfl 0 (by decide) fl12 (fun _ h9 => h9) rfl dX2_addClass_81 ?_
  refine va_get (D := D) (ci := 1) (v := .ref (kv 6)) (C := RX1) (T := TX1) (N := 6) hx hb hts hi1 hown hK.1 hP 1 rfl rfl 2 (by decide) fl90 (fun _ h9 => h9) rfl dX2_addClass_84 ?_
  refine lv_iload hx hb dX2_addClass_87 (lv_at hl 0 rfl) ?_
  refine lv_iload_n hx hb dX2_addClass_89 rfl (lv_at hl 3 rfl) ?_
  refine va_iast hx hb hK.1 hP hD hS 3 0 rfl rfl q12 dX2_addClass_90 (fun H locs hP hD hS => ?_)
  have hP : va_P D vwCl (zw_co tt kv (zu (zu bv 1 (upd (bv 1) (bv 0 0).toNatClampNeg x1)) 2 (upd (bv 2) (bv 0 0).toNatClampNeg x2))) H := hP
  have hD : va_D A (zw_co tt kv (zu (zu bv 1 (upd (bv 1) (bv 0 0).toNatClampNeg x1)) 2 (upd (bv 2) (bv 0 0).toNatClampNeg x2))) := hD
  refine lv_aload_n hx hb dX2_addClass_91 rfl (lv_at hl 1 rfl) ?_
  refine va_get (D := D) (ci := 2) (v := .ref (kv 1)) (C := RX2) (T := TX2) (N := 11) hx hb hts hi2 hown hK.1 hP 0 rfl rfl 0 (by decide) fl12 (fun _ h9 => h9) rfl dX2_addClass_92 ?_
  refine va_get (D := D) (ci := 1) (v := .ref (kv 7)) (C := RX1) (T := TX1) (N := 6) hx hb hts hi1 hown hK.1 hP 1 rfl rfl 3 (by decide) fl93 (fun _ h9 => h9) rfl dX2_addClass_95 ?_
  refine lv_iload hx hb dX2_addClass_98 (lv_at hl 0 rfl) ?_
  refine lv_iload_n hx hb dX2_addClass_100 rfl (lv_at hl 4 rfl) ?_
  refine va_iast hx hb hK.1 hP hD hS 4 0 rfl rfl q12 dX2_addClass_101 (fun H locs hP hD hS => ?_)
  have hP : va_P D vwCl (zw_co tt kv (zu (zu (zu bv 1 (upd (bv 1) (bv 0 0).toNatClampNeg x1)) 2 (upd (bv 2) (bv 0 0).toNatClampNeg x2)) 3 (upd (bv 3) (bv 0 0).toNatClampNeg x3))) H := hP
  have hD : va_D A (zw_co tt kv (zu (zu (zu bv 1 (upd (bv 1) (bv 0 0).toNatClampNeg x1)) 2 (upd (bv 2) (bv 0 0).toNatClampNeg x2)) 3 (upd (bv 3) (bv 0 0).toNatClampNeg x3))) := hD
  refine lv_aload_n hx hb dX2_addClass_102 rfl (lv_at hl 1 rfl) ?_
  refine va_get (D := D) (ci := 2) (v := .ref (kv 1)) (C := RX2) (T := TX2) (N := 11) hx hb hts hi2 hown hK.1 hP 0 rfl rfl 0 (by decide) fl12 (fun _ h9 => h9) rfl dX2_addClass_103 ?_
  refine va_get (D := D) (ci := 1) (v := .ref (kv 8)) (C := RX1) (T := TX1) (N := 6) hx hb hts hi1 hown hK.1 hP 1 rfl rfl 4 (by decide) fl96 (fun _ h9 => h9) rfl dX2_addClass_106 ?_
  refine lv_iload hx hb dX2_addClass_109 (lv_at hl 0 rfl) ?_
  refine lv_iload hx hb dX2_addClass_111 (lv_at hl 5 rfl) ?_
  refine va_iast hx hb hK.1 hP hD hS 5 0 rfl rfl q12 dX2_addClass_113 (fun H locs hP hD hS => ?_)
  have hP : va_P D vwCl (zw_co tt kv (zu (zu (zu (zu bv 1 (upd (bv 1) (bv 0 0).toNatClampNeg x1)) 2 (upd (bv 2) (bv 0 0).toNatClampNeg x2)) 3 (upd (bv 3) (bv 0 0).toNatClampNeg x3)) 4 (upd (bv 4) (bv 0 0).toNatClampNeg x4))) H := hP
  have hD : va_D A (zw_co tt kv (zu (zu (zu (zu bv 1 (upd (bv 1) (bv 0 0).toNatClampNeg x1)) 2 (upd (bv 2) (bv 0 0).toNatClampNeg x2)) 3 (upd (bv 3) (bv 0 0).toNatClampNeg x3)) 4 (upd (bv 4) (bv 0 0).toNatClampNeg x4))) := hD
  refine lv_aload_n hx hb dX2_addClass_114 rfl (lv_at hl 1 rfl) ?_
  refine va_get (D := D) (ci := 2) (v := .ref (kv 1)) (C := RX2) (T := TX2) (N := 11) hx hb hts hi2 hown hK.1 hP 0 rfl rfl 0 (by decide) fl12 (fun _ h9 => h9) rfl dX2_addClass_115 ?_
  refine va_get (D := D) (ci := 1) (v := .ref (kv 9)) (C := RX1) (T := TX1) (N := 6) hx hb hts hi1 hown hK.1 hP 1 rfl rfl 5 (by decide) fl99 (fun _ h9 => h9) rfl dX2_addClass_118 ?_
  refine lv_iload hx hb dX2_addClass_121 (lv_at hl 0 rfl) ?_
  refine lv_iload hx hb dX2_addClass_123 (lv_at hl 6 rfl) ?_
  refine va_iast hx hb hK.1 hP hD hS 6 0 rfl rfl q12 dX2_addClass_125 (fun H locs hP hD hS => ?_)
  have hP : va_P D vwCl (zw_co tt kv (zu (zu (zu (zu (zu bv 1 (upd (bv 1) (bv 0 0).toNatClampNeg x1)) 2 (upd (bv 2) (bv 0 0).toNatClampNeg x2)) 3 (upd (bv 3) (bv 0 0).toNatClampNeg x3)) 4 (upd (bv 4) (bv 0 0).toNatClampNeg x4)) 5 (upd (bv 5) (bv 0 0).toNatClampNeg x5))) H := hP
  have hD : va_D A (zw_co tt kv (zu (zu (zu (zu (zu bv 1 (upd (bv 1) (bv 0 0).toNatClampNeg x1)) 2 (upd (bv 2) (bv 0 0).toNatClampNeg x2)) 3 (upd (bv 3) (bv 0 0).toNatClampNeg x3)) 4 (upd (bv 4) (bv 0 0).toNatClampNeg x4)) 5 (upd (bv 5) (bv 0 0).toNatClampNeg x5))) := hD
  refine lv_aload_n hx hb dX2_addClass_126 rfl (lv_at hl 1 rfl) ?_
  refine va_get (D := D) (ci := 2) (v := .ref (kv 1)) (C := RX2) (T := TX2) (N := 11) hx hb hts hi2 hown hK.1 hP 0 rfl rfl 0 (by decide) fl12 (fun _ h9 => h9) rfl dX2_addClass_127 ?_
  refine lv_iload hx hb dX2_addClass_130 (lv_at hl 0 rfl) ?_
  refine lv_iconst (v := 1) hx hb dX2_addClass_132 (by decide) ?_
  refine lv_iadd hx hb dX2_addClass_133 ?_
  refine va_put (D := D) (ci := 1) (v := .int ((bv 0 0) + 1)) (ty := .int) (C := RX1) (T := TX1) (N := 6) hx hb hts hi1 tyX1 tyX1_ok nmX1 hown hK.1 hP hD hS 1 rfl rfl 0 (by decide) fl79 (fun _ h9 => h9) rfl (by decide +kernel) rfl rfl (Nat.le_of_ble_eq_true rfl) dX2_addClass_134 (fun H locs hP hD hS => ?_)
  have hP : va_P D vwCl (zw_co tt kv (zu (zu (zu (zu (zu (zu bv 0 (zu (bv 0) 0 ((bv 0 0) + 1))) 1 (upd (bv 1) (bv 0 0).toNatClampNeg x1)) 2 (upd (bv 2) (bv 0 0).toNatClampNeg x2)) 3 (upd (bv 3) (bv 0 0).toNatClampNeg x3)) 4 (upd (bv 4) (bv 0 0).toNatClampNeg x4)) 5 (upd (bv 5) (bv 0 0).toNatClampNeg x5))) H := hP
  have hD : va_D A (zw_co tt kv (zu (zu (zu (zu (zu (zu bv 0 (zu (bv 0) 0 ((bv 0 0) + 1))) 1 (upd (bv 1) (bv 0 0).toNatClampNeg x1)) 2 (upd (bv 2) (bv 0 0).toNatClampNeg x2)) 3 (upd (bv 3) (bv 0 0).toNatClampNeg x3)) 4 (upd (bv 4) (bv 0 0).toNatClampNeg x4)) 5 (upd (bv 5) (bv 0 0).toNatClampNeg x5))) := hD
  refine lv_iload hx hb dX2_addClass_137 (lv_at hl 0 rfl) ?_
  exact hfin _ _ _ _ _ _ h rfl hP hD hS dX2_addClass_139
set_option maxHeartbeats 4000000 in
set_option maxRecDepth 100000 in
theorem c_X2_addHolder (l : Launch) (D : va_G) (tt : Nat → ClassId) (kv : Nat → Nat) (sz : Nat) (bv : zV)  (out : Int32 × zV) (h : f_X2_addHolder bv = some out) : Met l yX2_addHolder wsX2_addHolder { frames := 0, cells := 0, slots := 0, locals := 0 } (zPm [.ref (kv 0)] D tt (zw_co tt kv bv) sz) (zMi .int out.1 D (zw_co tt kv out.2) (va_A (zw_co tt kv bv) sz)) 0 0 (va_A (zw_co tt kv bv) sz) := by
  refine Met.ofW (cc := cX2_addHolder) (maxL := 2) (ret := (some .int)) (by decide) rfl ?_
  intro p e s m args below meth c s₁ B hml hv
  obtain ⟨ha, hsz, hP, hK, hD0⟩ := hv
  have hx := B.exec
  have hb := B.bytes
  have hr := B.returns
  have hts := atoms_spec (ws := wsX2_addHolder) B.pre
  have hown : s.vm.findClass RX2 = some m.cls := findClass_of_methodNamed B.named
  have hlocks := B.notSynchronized
  have hi2 : ∀ w ∈ u_ws RX2 TX2 11, w ∈ wsX2_addHolder := fun _ h => List.mem_cons_of_mem _ (List.mem_append_right _ h)
  have fl39 := hts (.fieldLink RX2 39 "CapStacks$Company" "leftAt" "[I") (by decide +kernel)
  have fl56 := hts (.fieldLink RX2 56 "CapStacks$Company" "holders" "I") (by decide +kernel)
  subst hsz
  have hD := hD0.self (sz := s.heap.size)
  generalize hAe : va_A (zw_co tt kv bv) s.heap.size = A at hD ⊢
  have hA : ∀ q : Nat, s.heap.size ≤ q → A q := fun q h => by rw [← hAe]; exact Or.inr h
  have hS : va_S A s.heap s.heap [] := va_S.rf
  have hfin : ∀ (v : Int32) (bv : zV) (pc : Nat) (ls : Array Slot) (H : Heap) (locs : List Loc), some (v, bv) = some out → narrow .int (.int v) = .int v → va_P D vwCl (zw_co tt kv bv) H → va_D A (zw_co tt kv bv) → va_S A s.heap H locs → decode cX2_addHolder pc = .ok (.ireturn, 1) → W p l e (headSpec wsX2_addHolder { frames := 0, cells := 0, slots := 0, locals := 0 }).room s m args below meth c H locs 0 0 (MQ below (zMi .int out.1 D (zw_co tt kv out.2) A) args s 0 0 A) (F0 m pc ls [.int v]) := by
    intro v bv pc ls H locs he hn hP hD hS hd
    cases he
    exact W.zret hx hb hr hn (fun t ht hW => ⟨⟨_, (), rfl, ⟨rfl, hn⟩, by rw [ht]; exact hP, hD⟩, hS.F ht⟩) hS.2.2 hd
  generalize MQ below (zMi .int out.1 D (zw_co tt kv out.2) A) args s 0 0 A = Q at hfin ⊢
  have hl := lv_entry ([.ref (kv 0)]) (n := 2) (Nat.le_of_ble_eq_true rfl)
  refine W.eq (g2 := F0 m 0 ((lg_sl ([.ref (kv 0)]) ++ List.replicate (2 - (lg_sl ([.ref (kv 0)])).length) Slot.unset).toArray) []) (by rw [ha]; exact lg_entry_eq _ _ _) ?_
  generalize (lg_sl ([.ref (kv 0)]) ++ List.replicate (2 - (lg_sl ([.ref (kv 0)])).length) Slot.unset).toArray = ls at hl ⊢
  have hl : lv_has ls 2 [(0, .ref (kv 0))] := hl
  rw [f_X2_addHolder] at h
  refine lv_aload_n hx hb dX2_addHolder_0 rfl (lv_at hl 0 rfl) ?_
  refine va_get (D := D) (ci := 2) (v := .int (bv 0 6)) (C := RX2) (T := TX2) (N := 11) hx hb hts hi2 hown hK.1 hP 0 rfl rfl 4 (by decide) fl56 (fun _ h9 => h9) rfl dX2_addHolder_1 ?_
  refine lv_istore_n (lv' := [(1, .int (bv 0 6)), (0, .ref (kv 0))]) hx hb dX2_addHolder_4 rfl hl (by decide) rfl (fun ls hl => ?_)
  refine lv_iload_n hx hb dX2_addHolder_5 rfl (lv_at hl 0 rfl) ?_
  refine lv_bipush (v := 8) hx hb dX2_addHolder_6 (by decide) ?_
  refine lv_icmp_lt (tgt := 14) hx hb dX2_addHolder_8 (by decide) (fun k1 => ?_) (fun k1 => ?_)
  rotate_left
  · replace h := z_neg k1 h
    refine lv_bipush (v := (-3)) hx hb dX2_addHolder_11 (by decide) ?_
    exact hfin _ _ _ _ _ _ h rfl hP hD hS dX2_addHolder_13
  replace h := z_pos k1 h
  refine lv_aload_n hx hb dX2_addHolder_14 rfl (lv_at hl 1 rfl) ?_
  refine va_get (D := D) (ci := 2) (v := .ref (kv 23)) (C := RX2) (T := TX2) (N := 11) hx hb hts hi2 hown hK.1 hP 0 rfl rfl 5 (by decide) fl39 (fun _ h9 => h9) rfl dX2_addHolder_15 ?_
  refine lv_iload_n hx hb dX2_addHolder_18 rfl (lv_at hl 0 rfl) ?_
  refine lv_iconst (v := (-1)) hx hb dX2_addHolder_19 (by decide) ?_
  obtain ⟨q2, h⟩ := zA_some h
  refine va_iast hx hb hK.1 hP hD hS 23 0 rfl rfl q2 dX2_addHolder_20 (fun H locs hP hD hS => ?_)
  have hP : va_P D vwCl (zw_co tt kv (zu bv 19 (upd (bv 19) (bv 0 6).toNatClampNeg (-1)))) H := hP
  have hD : va_D A (zw_co tt kv (zu bv 19 (upd (bv 19) (bv 0 6).toNatClampNeg (-1)))) := hD
  refine lv_aload_n hx hb dX2_addHolder_21 rfl (lv_at hl 1 rfl) ?_
  refine lv_iload_n hx hb dX2_addHolder_22 rfl (lv_at hl 0 rfl) ?_
  refine lv_iconst (v := 1) hx hb dX2_addHolder_23 (by decide) ?_
  refine lv_iadd hx hb dX2_addHolder_24 ?_
  refine va_put (D := D) (ci := 2) (v := .int ((bv 0 6) + 1)) (ty := .int) (C := RX2) (T := TX2) (N := 11) hx hb hts hi2 tyX2 tyX2_ok nmX2 hown hK.1 hP hD hS 0 rfl rfl 4 (by decide) fl56 (fun _ h9 => h9) rfl (by decide +kernel) rfl rfl (Nat.le_of_ble_eq_true rfl) dX2_addHolder_25 (fun H locs hP hD hS => ?_)
  have hP : va_P D vwCl (zw_co tt kv (zu (zu bv 0 (zu (bv 0) 6 ((bv 0 6) + 1))) 19 (upd (bv 19) (bv 0 6).toNatClampNeg (-1)))) H := hP
  have hD : va_D A (zw_co tt kv (zu (zu bv 0 (zu (bv 0) 6 ((bv 0 6) + 1))) 19 (upd (bv 19) (bv 0 6).toNatClampNeg (-1)))) := hD
  refine lv_iload_n hx hb dX2_addHolder_28 rfl (lv_at hl 0 rfl) ?_
  exact hfin _ _ _ _ _ _ h rfl hP hD hS dX2_addHolder_29
set_option maxHeartbeats 4000000 in
set_option maxRecDepth 100000 in
theorem c_X2_hasHolder (l : Launch) (D : va_G) (tt : Nat → ClassId) (kv : Nat → Nat) (bv : zV) (x1 : Int32) (out : Int32) (h : f_X2_hasHolder bv x1 = some out) : Met l yX2_hasHolder wsX2_hasHolder { frames := 1, cells := 0, slots := 0, locals := 22 } (zPr [.ref (kv 0), .int x1] D tt (zw_co tt kv bv)) (zQr .boolean out) 0 0 (fun _ => False) := by
  refine Met.ofW (cc := cX2_hasHolder) (maxL := 2) (ret := (some .boolean)) (by decide) rfl ?_
  intro p e s m args below meth c s₁ B hml hv
  obtain ⟨ha, hP, hK⟩ := hv
  have hx := B.exec
  have hb := B.bytes
  have hr := B.returns
  have hts := atoms_spec (ws := wsX2_hasHolder) B.pre
  have hown : s.vm.findClass RX2 = some m.cls := findClass_of_methodNamed B.named
  have hlocks := B.notSynchronized
  have hi2 : ∀ w ∈ u_ws RX2 TX2 11, w ∈ wsX2_hasHolder := fun _ h => List.mem_cons_of_mem _ (List.mem_append_right _ h)
  have fl56 := hts (.fieldLink RX2 56 "CapStacks$Company" "holders" "I") (by decide +kernel)
  have iniX9 := hts (.initialized RX9) (by decide +kernel)
  have st_X9_within := hts (.static yX9_within) (by decide +kernel)
  have nw82 : va_Nw (.methodLinkNest RX2 82 yX9_within "CapStacks") s := hK.2.1 (RX2, 82, yX9_within, "CapStacks") (List.mem_of_getElem? (i := 13) rfl)
  have hfin : ∀ (v : Int32) (pc : Nat) (ls : Array Slot), some v = some out → narrow .boolean (.int v) = .int v → decode cX2_hasHolder pc = .ok (.ireturn, 1) → W p l e (headSpec wsX2_hasHolder { frames := 1, cells := 0, slots := 0, locals := 22 }).room s m args below meth c s.heap [] 0 0 (MQ below (zQr .boolean out) args s 0 0 (fun _ => False)) (F0 m pc ls [.int v]) := by
    intro v pc ls he hn hd
    cases he
    exact W.zret hx hb hr hn (fun t ht hW => ⟨rfl, hn, ht⟩) (fun _ h => by cases h) hd
  generalize MQ below (zQr .boolean out) args s 0 0 (fun _ => False) = Q at hfin ⊢
  have hl := lv_entry ([.ref (kv 0), .int x1]) (n := 2) (Nat.le_of_ble_eq_true rfl)
  refine W.eq (g2 := F0 m 0 ((lg_sl ([.ref (kv 0), .int x1]) ++ List.replicate (2 - (lg_sl ([.ref (kv 0), .int x1])).length) Slot.unset).toArray) []) (by rw [ha]; exact lg_entry_eq _ _ _) ?_
  generalize (lg_sl ([.ref (kv 0), .int x1]) ++ List.replicate (2 - (lg_sl ([.ref (kv 0), .int x1])).length) Slot.unset).toArray = ls at hl ⊢
  have hl : lv_has ls 2 [(0, .ref (kv 0)), (1, .int x1)] := hl
  rw [f_X2_hasHolder] at h
  refine lv_iload_n hx hb dX2_hasHolder_0 rfl (lv_at hl 1 rfl) ?_
  refine lv_iconst (v := 0) hx hb dX2_hasHolder_1 (by decide) ?_
  refine lv_aload_n hx hb dX2_hasHolder_2 rfl (lv_at hl 0 rfl) ?_
  refine va_get (D := D) (ci := 2) (v := .int (bv 0 6)) (C := RX2) (T := TX2) (N := 11) hx hb hts hi2 hown hK.1 hP 0 rfl rfl 4 (by decide) fl56 (fun _ h9 => h9) rfl dX2_hasHolder_3 ?_
  refine lv_iconst (v := 1) hx hb dX2_hasHolder_6 (by decide) ?_
  refine lv_isub hx hb dX2_hasHolder_7 ?_
  obtain ⟨y1, gy1, h⟩ := zb_some h
  refine z_callr (va_runSN (As := [.int x1, .int 0, .int ((bv 0 6) - 1)]) (rest := []) ⟨hx, hb, hml, hown, hts⟩ (c_X9_within l D tt x1 0 ((bv 0 6) - 1) y1 gy1) ⟨va_cnB (host := "CapStacks") 3 hts gX2_hasHolder_X9_within_n82 rfl rfl rfl nw82 iniX9 (by decide +kernel) ⟨Nat.le_of_ble_eq_true rfl, Nat.le_of_ble_eq_true rfl⟩, st_X9_within, trivial⟩ (z_preSr hK (hP.sub (ws' := ([] : va_W)) [] rfl)) rfl rfl hl.1 rfl (lv_room (Nat.le_of_ble_eq_true rfl)) dX2_hasHolder_8 ⟨Nat.zero_le _, Nat.zero_le _⟩) (fun ny1 => ?_)
  exact hfin _ _ _ h ny1 dX2_hasHolder_11
set_option maxHeartbeats 4000000 in
set_option maxRecDepth 100000 in
theorem c_X2_hasClass (l : Launch) (D : va_G) (tt : Nat → ClassId) (kv : Nat → Nat) (bv : zV) (x1 : Int32) (out : Int32) (h : f_X2_hasClass bv x1 = some out) : Met l yX2_hasClass wsX2_hasClass { frames := 1, cells := 0, slots := 0, locals := 22 } (zPr [.ref (kv 0), .int x1] D tt (zw_co tt kv bv)) (zQr .boolean out) 0 0 (fun _ => False) := by
  refine Met.ofW (cc := cX2_hasClass) (maxL := 2) (ret := (some .boolean)) (by decide) rfl ?_
  intro p e s m args below meth c s₁ B hml hv
  obtain ⟨ha, hP, hK⟩ := hv
  have hx := B.exec
  have hb := B.bytes
  have hr := B.returns
  have hts := atoms_spec (ws := wsX2_hasClass) B.pre
  have hown : s.vm.findClass RX2 = some m.cls := findClass_of_methodNamed B.named
  have hlocks := B.notSynchronized
  have hi1 : ∀ w ∈ u_ws RX1 TX1 6, w ∈ wsX2_hasClass := fun _ h => List.mem_cons_of_mem _ (List.mem_append_right _ h)
  have hi2 : ∀ w ∈ u_ws RX2 TX2 11, w ∈ wsX2_hasClass := fun _ h => List.mem_cons_of_mem _ (List.mem_append_left _ (List.mem_append_right _ h))
  have fl12 := hts (.fieldLink RX2 12 "CapStacks$Company" "classes" "LCapStacks$Classes;") (by decide +kernel)
  have fl79 := hts (.fieldLink RX2 79 "CapStacks$Classes" "size" "I") (by decide +kernel)
  have iniX9 := hts (.initialized RX9) (by decide +kernel)
  have st_X9_within := hts (.static yX9_within) (by decide +kernel)
  have nw82 : va_Nw (.methodLinkNest RX2 82 yX9_within "CapStacks") s := hK.2.1 (RX2, 82, yX9_within, "CapStacks") (List.mem_of_getElem? (i := 13) rfl)
  have hfin : ∀ (v : Int32) (pc : Nat) (ls : Array Slot), some v = some out → narrow .boolean (.int v) = .int v → decode cX2_hasClass pc = .ok (.ireturn, 1) → W p l e (headSpec wsX2_hasClass { frames := 1, cells := 0, slots := 0, locals := 22 }).room s m args below meth c s.heap [] 0 0 (MQ below (zQr .boolean out) args s 0 0 (fun _ => False)) (F0 m pc ls [.int v]) := by
    intro v pc ls he hn hd
    cases he
    exact W.zret hx hb hr hn (fun t ht hW => ⟨rfl, hn, ht⟩) (fun _ h => by cases h) hd
  generalize MQ below (zQr .boolean out) args s 0 0 (fun _ => False) = Q at hfin ⊢
  have hl := lv_entry ([.ref (kv 0), .int x1]) (n := 2) (Nat.le_of_ble_eq_true rfl)
  refine W.eq (g2 := F0 m 0 ((lg_sl ([.ref (kv 0), .int x1]) ++ List.replicate (2 - (lg_sl ([.ref (kv 0), .int x1])).length) Slot.unset).toArray) []) (by rw [ha]; exact lg_entry_eq _ _ _) ?_
  generalize (lg_sl ([.ref (kv 0), .int x1]) ++ List.replicate (2 - (lg_sl ([.ref (kv 0), .int x1])).length) Slot.unset).toArray = ls at hl ⊢
  have hl : lv_has ls 2 [(0, .ref (kv 0)), (1, .int x1)] := hl
  rw [f_X2_hasClass] at h
  refine lv_iload_n hx hb dX2_hasClass_0 rfl (lv_at hl 1 rfl) ?_
  refine lv_iconst (v := 0) hx hb dX2_hasClass_1 (by decide) ?_
  refine lv_aload_n hx hb dX2_hasClass_2 rfl (lv_at hl 0 rfl) ?_
  refine va_get (D := D) (ci := 2) (v := .ref (kv 1)) (C := RX2) (T := TX2) (N := 11) hx hb hts hi2 hown hK.1 hP 0 rfl rfl 0 (by decide) fl12 (fun _ h9 => h9) rfl dX2_hasClass_3 ?_
  refine va_get (D := D) (ci := 1) (v := .int (bv 0 0)) (C := RX1) (T := TX1) (N := 6) hx hb hts hi1 hown hK.1 hP 1 rfl rfl 0 (by decide) fl79 (fun _ h9 => h9) rfl dX2_hasClass_6 ?_
  refine lv_iconst (v := 1) hx hb dX2_hasClass_9 (by decide) ?_
  refine lv_isub hx hb dX2_hasClass_10 ?_
  obtain ⟨y1, gy1, h⟩ := zb_some h
  refine z_callr (va_runSN (As := [.int x1, .int 0, .int ((bv 0 0) - 1)]) (rest := []) ⟨hx, hb, hml, hown, hts⟩ (c_X9_within l D tt x1 0 ((bv 0 0) - 1) y1 gy1) ⟨va_cnB (host := "CapStacks") 3 hts gX2_hasClass_X9_within_n82 rfl rfl rfl nw82 iniX9 (by decide +kernel) ⟨Nat.le_of_ble_eq_true rfl, Nat.le_of_ble_eq_true rfl⟩, st_X9_within, trivial⟩ (z_preSr hK (hP.sub (ws' := ([] : va_W)) [] rfl)) rfl rfl hl.1 rfl (lv_room (Nat.le_of_ble_eq_true rfl)) dX2_hasClass_11 ⟨Nat.zero_le _, Nat.zero_le _⟩) (fun ny1 => ?_)
  exact hfin _ _ _ h ny1 dX2_hasClass_14
set_option maxHeartbeats 4000000 in
set_option maxRecDepth 100000 in
theorem c_X2_issueShares (l : Launch) (D : va_G) (tt : Nat → ClassId) (kv : Nat → Nat) (sz : Nat) (bv : zV) (x1 : Int32) (x2 : Int32) (x3 : Int32) (out : Int32 × zV) (h : f_X2_issueShares bv x1 x2 x3 = some out) : Met l yX2_issueShares wsX2_issueShares { frames := 2, cells := 0, slots := 0, locals := 43 } (zPm [.ref (kv 0), .int x1, .int x2, .int x3] D tt (zw_co tt kv bv) sz) (zMi .int out.1 D (zw_co tt kv out.2) (va_A (zw_co tt kv bv) sz)) 0 0 (va_A (zw_co tt kv bv) sz) := by
  refine Met.ofW (cc := cX2_issueShares) (maxL := 4) (ret := (some .int)) (by decide) rfl ?_
  intro p e s m args below meth c s₁ B hml hv
  obtain ⟨ha, hsz, hP, hK, hD0⟩ := hv
  have hx := B.exec
  have hb := B.bytes
  have hr := B.returns
  have hts := atoms_spec (ws := wsX2_issueShares) B.pre
  have hown : s.vm.findClass RX2 = some m.cls := findClass_of_methodNamed B.named
  have hlocks := B.notSynchronized
  have hi2 : ∀ w ∈ u_ws RX2 TX2 11, w ∈ wsX2_issueShares := fun _ h => List.mem_cons_of_mem _ (List.mem_append_left _ (List.mem_append_left _ (List.mem_append_left _ (List.mem_append_right _ h))))
  have hi7 : ∀ w ∈ u_ws RX7 TX7 6, w ∈ wsX2_issueShares := fun _ h => List.mem_cons_of_mem _ (List.mem_append_left _ (List.mem_append_left _ (List.mem_append_right _ h)))
  have fl109 := hts (.fieldLink RX2 109 "CapStacks$Round" "on" "Z") (by decide +kernel)
  have fl21 := hts (.fieldLink RX2 21 "CapStacks$Company" "certificates" "LCapStacks$Certificates;") (by decide +kernel)
  have fl35 := hts (.fieldLink RX2 35 "CapStacks$Company" "round" "LCapStacks$Round;") (by decide +kernel)
  have fl64 := hts (.fieldLink RX2 64 "CapStacks$Company" "time" "I") (by decide +kernel)
  have fl67 := hts (.fieldLink RX2 67 "CapStacks$Company" "sharesIssued" "I") (by decide +kernel)
  have iniX9 := hts (.initialized RX9) (by decide +kernel)
  have st_X9_within := hts (.static yX9_within) (by decide +kernel)
  have nw82 : va_Nw (.methodLinkNest RX2 82 yX9_within "CapStacks") s := hK.2.1 (RX2, 82, yX9_within, "CapStacks") (List.mem_of_getElem? (i := 13) rfl)
  subst hsz
  have hD := hD0.self (sz := s.heap.size)
  generalize hAe : va_A (zw_co tt kv bv) s.heap.size = A at hD ⊢
  have hA : ∀ q : Nat, s.heap.size ≤ q → A q := fun q h => by rw [← hAe]; exact Or.inr h
  have hS : va_S A s.heap s.heap [] := va_S.rf
  have hfin : ∀ (v : Int32) (bv : zV) (pc : Nat) (ls : Array Slot) (H : Heap) (locs : List Loc), some (v, bv) = some out → narrow .int (.int v) = .int v → va_P D vwCl (zw_co tt kv bv) H → va_D A (zw_co tt kv bv) → va_S A s.heap H locs → decode cX2_issueShares pc = .ok (.ireturn, 1) → W p l e (headSpec wsX2_issueShares { frames := 2, cells := 0, slots := 0, locals := 43 }).room s m args below meth c H locs 0 0 (MQ below (zMi .int out.1 D (zw_co tt kv out.2) A) args s 0 0 A) (F0 m pc ls [.int v]) := by
    intro v bv pc ls H locs he hn hP hD hS hd
    cases he
    exact W.zret hx hb hr hn (fun t ht hW => ⟨⟨_, (), rfl, ⟨rfl, hn⟩, by rw [ht]; exact hP, hD⟩, hS.F ht⟩) hS.2.2 hd
  generalize MQ below (zMi .int out.1 D (zw_co tt kv out.2) A) args s 0 0 A = Q at hfin ⊢
  have hl := lv_entry ([.ref (kv 0), .int x1, .int x2, .int x3]) (n := 4) (Nat.le_of_ble_eq_true rfl)
  refine W.eq (g2 := F0 m 0 ((lg_sl ([.ref (kv 0), .int x1, .int x2, .int x3]) ++ List.replicate (4 - (lg_sl ([.ref (kv 0), .int x1, .int x2, .int x3])).length) Slot.unset).toArray) []) (by rw [ha]; exact lg_entry_eq _ _ _) ?_
  generalize (lg_sl ([.ref (kv 0), .int x1, .int x2, .int x3]) ++ List.replicate (4 - (lg_sl ([.ref (kv 0), .int x1, .int x2, .int x3])).length) Slot.unset).toArray = ls at hl ⊢
  have hl : lv_has ls 4 [(0, .ref (kv 0)), (1, .int x1), (2, .int x2), (3, .int x3)] := hl
  rw [f_X2_issueShares] at h
  refine lv_aload_n hx hb dX2_issueShares_0 rfl (lv_at hl 0 rfl) ?_
  refine lv_iload_n hx hb dX2_issueShares_1 rfl (lv_at hl 1 rfl) ?_
  obtain ⟨y1, gy1, h⟩ := zb_some h
  refine z_callr (va_runV (As := [.int x1]) (rest := []) ⟨hx, hb, hml, hown, hts⟩ (c_X2_hasHolder l D tt kv bv x1 y1 gy1) (cwV 1 hts gX2_issueShares_X2_hasHolder rfl rfl rfl (by decide +kernel) ⟨Nat.le_of_ble_eq_true rfl, Nat.le_of_ble_eq_true rfl⟩) (z_preVr hK hP (ci := 2) (q0 := 0) rfl rfl) rfl rfl hl.1 rfl (lv_room (Nat.le_of_ble_eq_true rfl)) dX2_issueShares_2 ⟨Nat.zero_le _, Nat.zero_le _⟩) (fun ny1 => ?_)
  refine lv_if_eq (tgt := 27) hx hb dX2_issueShares_5 (by decide) (fun k2 => ?_) (fun k2 => ?_)
  · replace h := z_pos k2 h
    refine lv_iconst (v := (-1)) hx hb dX2_issueShares_27 (by decide) ?_
    exact hfin _ _ _ _ _ _ h rfl hP hD hS dX2_issueShares_28
  replace h := z_neg k2 h
  refine lv_aload_n hx hb dX2_issueShares_8 rfl (lv_at hl 0 rfl) ?_
  refine lv_iload_n hx hb dX2_issueShares_9 rfl (lv_at hl 2 rfl) ?_
  obtain ⟨y3, gy3, h⟩ := zb_some h
  refine z_callr (va_runV (As := [.int x2]) (rest := []) ⟨hx, hb, hml, hown, hts⟩ (c_X2_hasClass l D tt kv bv x2 y3 gy3) (cwV 1 hts gX2_issueShares_X2_hasClass rfl rfl rfl (by decide +kernel) ⟨Nat.le_of_ble_eq_true rfl, Nat.le_of_ble_eq_true rfl⟩) (z_preVr hK hP (ci := 2) (q0 := 0) rfl rfl) rfl rfl hl.1 rfl (lv_room (Nat.le_of_ble_eq_true rfl)) dX2_issueShares_10 ⟨Nat.zero_le _, Nat.zero_le _⟩) (fun ny3 => ?_)
  refine lv_if_eq (tgt := 27) hx hb dX2_issueShares_13 (by decide) (fun k4 => ?_) (fun k4 => ?_)
  · replace h := z_pos k4 h
    refine lv_iconst (v := (-1)) hx hb dX2_issueShares_27 (by decide) ?_
    exact hfin _ _ _ _ _ _ h rfl hP hD hS dX2_issueShares_28
  replace h := z_neg k4 h
  refine lv_iload_n hx hb dX2_issueShares_16 rfl (lv_at hl 3 rfl) ?_
  refine lv_iconst (v := 1) hx hb dX2_issueShares_17 (by decide) ?_
  refine lv_sipush (v := 9999) hx hb dX2_issueShares_18 (by decide) ?_
  obtain ⟨y5, gy5, h⟩ := zb_some h
  refine z_callr (va_runSN (As := [.int x3, .int 1, .int 9999]) (rest := []) ⟨hx, hb, hml, hown, hts⟩ (c_X9_within l D tt x3 1 9999 y5 gy5) ⟨va_cnB (host := "CapStacks") 3 hts gX2_issueShares_X9_within_n82 rfl rfl rfl nw82 iniX9 (by decide +kernel) ⟨Nat.le_of_ble_eq_true rfl, Nat.le_of_ble_eq_true rfl⟩, st_X9_within, trivial⟩ (z_preSr hK (hP.sub (ws' := ([] : va_W)) [] rfl)) rfl rfl hl.1 rfl (lv_room (Nat.le_of_ble_eq_true rfl)) dX2_issueShares_21 ⟨Nat.zero_le _, Nat.zero_le _⟩) (fun ny5 => ?_)
  refine lv_if_ne (tgt := 29) hx hb dX2_issueShares_24 (by decide) (fun k6 => ?_) (fun k6 => ?_)
  rotate_left
  · replace h := z_pos k6 h
    refine lv_iconst (v := (-1)) hx hb dX2_issueShares_27 (by decide) ?_
    exact hfin _ _ _ _ _ _ h rfl hP hD hS dX2_issueShares_28
  replace h := z_neg k6 h
  refine lv_aload_n hx hb dX2_issueShares_29 rfl (lv_at hl 0 rfl) ?_
  refine va_get (D := D) (ci := 2) (v := .ref (kv 4)) (C := RX2) (T := TX2) (N := 11) hx hb hts hi2 hown hK.1 hP 0 rfl rfl 3 (by decide) fl35 (fun _ h9 => h9) rfl dX2_issueShares_30 ?_
  refine va_get (D := D) (ci := 7) (v := .int (bv 0 2)) (C := RX7) (T := TX7) (N := 6) hx hb hts hi7 hown hK.1 hP 20 rfl rfl 0 (by decide) fl109 (fun _ h9 => h9) rfl dX2_issueShares_33 ?_
  refine lv_if_eq (tgt := 42) hx hb dX2_issueShares_36 (by decide) (fun k7 => ?_) (fun k7 => ?_)
  rotate_left
  · replace h := z_neg k7 h
    refine lv_bipush (v := (-2)) hx hb dX2_issueShares_39 (by decide) ?_
    exact hfin _ _ _ _ _ _ h rfl hP hD hS dX2_issueShares_41
  replace h := z_pos k7 h
  refine lv_aload_n hx hb dX2_issueShares_42 rfl (lv_at hl 0 rfl) ?_
  refine va_get (D := D) (ci := 2) (v := .ref (kv 2)) (C := RX2) (T := TX2) (N := 11) hx hb hts hi2 hown hK.1 hP 0 rfl rfl 1 (by decide) fl21 (fun _ h9 => h9) rfl dX2_issueShares_43 ?_
  obtain ⟨y8, gy8, h⟩ := zb_some h
  have hpm : List.Perm (zw_c0 tt kv bv ++ (zw_cl tt kv bv ++ (zw_ce tt kv bv ++ (zw_gr tt kv bv ++ (zw_ro tt kv bv ++ (zw_la tt kv bv)))))) ((zw_ce tt kv bv) ++ (zw_c0 tt kv bv ++ zw_cl tt kv bv ++ zw_gr tt kv bv ++ zw_ro tt kv bv ++ zw_la tt kv bv)) := z_pm (fun _ x => by simp only [List.count_append, List.count_nil] <;> omega)
  refine z_callr (va_runV (As := []) (rest := []) ⟨hx, hb, hml, hown, hts⟩ (c_X0_size l D tt kv bv y8 gy8) (cwV 0 hts gX2_issueShares_X0_size rfl rfl rfl (by decide +kernel) ⟨Nat.le_of_ble_eq_true rfl, Nat.le_of_ble_eq_true rfl⟩) (z_preVr hK (z_takeP hpm hP) (ci := 0) (q0 := 0) rfl rfl) rfl rfl hl.1 rfl (lv_room (Nat.le_of_ble_eq_true rfl)) dX2_issueShares_46 ⟨Nat.zero_le _, Nat.zero_le _⟩) (fun ny8 => ?_)
  refine lv_bipush (v := 24) hx hb dX2_issueShares_49 (by decide) ?_
  refine lv_icmp_lt (tgt := 57) hx hb dX2_issueShares_51 (by decide) (fun k9 => ?_) (fun k9 => ?_)
  rotate_left
  · replace h := z_neg k9 h
    refine lv_bipush (v := (-3)) hx hb dX2_issueShares_54 (by decide) ?_
    exact hfin _ _ _ _ _ _ h rfl hP hD hS dX2_issueShares_56
  replace h := z_pos k9 h
  refine lv_aload_n hx hb dX2_issueShares_57 rfl (lv_at hl 0 rfl) ?_
  refine lv_dup hx hb dX2_issueShares_58 rfl ?_
  refine va_get (D := D) (ci := 2) (v := .int (bv 0 8)) (C := RX2) (T := TX2) (N := 11) hx hb hts hi2 hown hK.1 hP 0 rfl rfl 7 (by decide) fl67 (fun _ h9 => h9) rfl dX2_issueShares_59 ?_
  refine lv_iload_n hx hb dX2_issueShares_62 rfl (lv_at hl 3 rfl) ?_
  refine lv_iadd hx hb dX2_issueShares_63 ?_
  refine va_put (D := D) (ci := 2) (v := .int ((bv 0 8) + x3)) (ty := .int) (C := RX2) (T := TX2) (N := 11) hx hb hts hi2 tyX2 tyX2_ok nmX2 hown hK.1 hP hD hS 0 rfl rfl 7 (by decide) fl67 (fun _ h9 => h9) rfl (by decide +kernel) rfl rfl (Nat.le_of_ble_eq_true rfl) dX2_issueShares_64 (fun H locs hP hD hS => ?_)
  have hP : va_P D vwCl (zw_co tt kv (zu bv 0 (zu (bv 0) 8 ((bv 0 8) + x3)))) H := hP
  have hD : va_D A (zw_co tt kv (zu bv 0 (zu (bv 0) 8 ((bv 0 8) + x3)))) := hD
  refine lv_aload_n hx hb dX2_issueShares_67 rfl (lv_at hl 0 rfl) ?_
  refine va_get (D := D) (ci := 2) (v := .ref (kv 2)) (C := RX2) (T := TX2) (N := 11) hx hb hts hi2 hown hK.1 hP 0 rfl rfl 1 (by decide) fl21 (fun _ h9 => h9) rfl dX2_issueShares_68 ?_
  refine lv_iload_n hx hb dX2_issueShares_71 rfl (lv_at hl 1 rfl) ?_
  refine lv_iload_n hx hb dX2_issueShares_72 rfl (lv_at hl 2 rfl) ?_
  refine lv_iload_n hx hb dX2_issueShares_73 rfl (lv_at hl 3 rfl) ?_
  refine lv_aload_n hx hb dX2_issueShares_74 rfl (lv_at hl 0 rfl) ?_
  refine va_get (D := D) (ci := 2) (v := .int (bv 0 7)) (C := RX2) (T := TX2) (N := 11) hx hb hts hi2 hown hK.1 hP 0 rfl rfl 6 (by decide) fl64 (fun _ h9 => h9) rfl dX2_issueShares_75 ?_
  obtain ⟨y10, gy10, h⟩ := zb_some h
  have hpm : List.Perm (zw_c0 tt kv (zu bv 0 (zu (bv 0) 8 ((bv 0 8) + x3))) ++ (zw_cl tt kv (zu bv 0 (zu (bv 0) 8 ((bv 0 8) + x3))) ++ (zw_ce tt kv (zu bv 0 (zu (bv 0) 8 ((bv 0 8) + x3))) ++ (zw_gr tt kv (zu bv 0 (zu (bv 0) 8 ((bv 0 8) + x3))) ++ (zw_ro tt kv (zu bv 0 (zu (bv 0) 8 ((bv 0 8) + x3))) ++ (zw_la tt kv (zu bv 0 (zu (bv 0) 8 ((bv 0 8) + x3))))))))) ((zw_ce tt kv (zu bv 0 (zu (bv 0) 8 ((bv 0 8) + x3)))) ++ (zw_c0 tt kv (zu bv 0 (zu (bv 0) 8 ((bv 0 8) + x3))) ++ zw_cl tt kv (zu bv 0 (zu (bv 0) 8 ((bv 0 8) + x3))) ++ zw_gr tt kv (zu bv 0 (zu (bv 0) 8 ((bv 0 8) + x3))) ++ zw_ro tt kv (zu bv 0 (zu (bv 0) 8 ((bv 0 8) + x3))) ++ zw_la tt kv (zu bv 0 (zu (bv 0) 8 ((bv 0 8) + x3))))) := z_pm (fun _ x => by simp only [List.count_append, List.count_nil] <;> omega)
  have hPc := z_takeP hpm hP
  have hDc := z_takeD hpm hD
  have hFc := z_free0 hDc hS hA
  refine z_callmi (wc := (zw_ce tt kv (zu bv 0 (zu (bv 0) 8 ((bv 0 8) + x3))))) (w1 := (zw_ce tt kv y10.2)) (va_runV (As := [.int x1, .int x2, .int x3, .int (bv 0 7)]) (rest := []) ⟨hx, hb, hml, hown, hts⟩ (c_X0_add l D tt kv _ (zu bv 0 (zu (bv 0) 8 ((bv 0 8) + x3))) x1 x2 x3 (bv 0 7) y10 gy10) (cwV 4 hts gX2_issueShares_X0_add rfl rfl rfl (by decide +kernel) ⟨Nat.le_of_ble_eq_true rfl, Nat.le_of_ble_eq_true rfl⟩) (z_preVm hK hPc hDc (ci := 0) (q0 := 0) rfl rfl) rfl rfl hl.1 rfl (lv_room (Nat.le_of_ble_eq_true rfl)) dX2_issueShares_78 ⟨Nat.zero_le _, Nat.zero_le _⟩) hS hFc (fun H locs ny10 hP1 hD1 hk1 hS => ?_)
  have hpm2 : List.Perm (zw_c0 tt kv (zu bv 0 (zu (bv 0) 8 ((bv 0 8) + x3))) ++ (zw_cl tt kv (zu bv 0 (zu (bv 0) 8 ((bv 0 8) + x3))) ++ (zw_ce tt kv y10.2 ++ (zw_gr tt kv (zu bv 0 (zu (bv 0) 8 ((bv 0 8) + x3))) ++ (zw_ro tt kv (zu bv 0 (zu (bv 0) 8 ((bv 0 8) + x3))) ++ (zw_la tt kv (zu bv 0 (zu (bv 0) 8 ((bv 0 8) + x3))))))))) ((zw_ce tt kv y10.2) ++ (zw_c0 tt kv (zu bv 0 (zu (bv 0) 8 ((bv 0 8) + x3))) ++ zw_cl tt kv (zu bv 0 (zu (bv 0) 8 ((bv 0 8) + x3))) ++ zw_gr tt kv (zu bv 0 (zu (bv 0) 8 ((bv 0 8) + x3))) ++ zw_ro tt kv (zu bv 0 (zu (bv 0) 8 ((bv 0 8) + x3))) ++ zw_la tt kv (zu bv 0 (zu (bv 0) 8 ((bv 0 8) + x3))))) := z_pm (fun _ x => by simp only [List.count_append, List.count_nil] <;> omega)
  obtain ⟨hP, hD⟩ := z_joinB hpm hpm2 hP hD hk1 hFc hP1 hD1
  clear hpm hpm2
  have hP : va_P D vwCl (zw_co tt kv (zg_ce y10.2 (zu bv 0 (zu (bv 0) 8 ((bv 0 8) + x3))))) H := hP
  have hD : va_D A (zw_co tt kv (zg_ce y10.2 (zu bv 0 (zu (bv 0) 8 ((bv 0 8) + x3))))) := hD
  exact hfin _ _ _ _ _ _ h rfl hP hD hS dX2_issueShares_81
set_option maxHeartbeats 4000000 in
set_option maxRecDepth 100000 in
theorem c_X2_splitCertificate (l : Launch) (D : va_G) (tt : Nat → ClassId) (kv : Nat → Nat) (sz : Nat) (bv : zV) (x1 : Int32) (x2 : Int32) (x3 : Int32) (out : Int32 × zV) (h : f_X2_splitCertificate bv x1 x2 x3 = some out) : Met l yX2_splitCertificate wsX2_splitCertificate { frames := 2, cells := 0, slots := 0, locals := 43 } (zPm [.ref (kv 0), .int x1, .int x2, .int x3] D tt (zw_co tt kv bv) sz) (zMi .int out.1 D (zw_co tt kv out.2) (va_A (zw_co tt kv bv) sz)) 0 0 (va_A (zw_co tt kv bv) sz) := by
  refine Met.ofW (cc := cX2_splitCertificate) (maxL := 5) (ret := (some .int)) (by decide) rfl ?_
  intro p e s m args below meth c s₁ B hml hv
  obtain ⟨ha, hsz, hP, hK, hD0⟩ := hv
  have hx := B.exec
  have hb := B.bytes
  have hr := B.returns
  have hts := atoms_spec (ws := wsX2_splitCertificate) B.pre
  have hown : s.vm.findClass RX2 = some m.cls := findClass_of_methodNamed B.named
  have hlocks := B.notSynchronized
  have hi0 : ∀ w ∈ u_ws RX0 TX0 4, w ∈ wsX2_splitCertificate := fun _ h => List.mem_cons_of_mem _ (List.mem_append_left _ (List.mem_append_right _ h))
  have hi2 : ∀ w ∈ u_ws RX2 TX2 11, w ∈ wsX2_splitCertificate := fun _ h => List.mem_cons_of_mem _ (List.mem_append_left _ (List.mem_append_left _ (List.mem_append_right _ h)))
  have hi7 : ∀ w ∈ u_ws RX7 TX7 6, w ∈ wsX2_splitCertificate := fun _ h => List.mem_cons_of_mem _ (List.mem_append_right _ h)
  have fl109 := hts (.fieldLink RX2 109 "CapStacks$Round" "on" "Z") (by decide +kernel)
  have fl123 := hts (.fieldLink RX2 123 "CapStacks$Certificates" "holder" "[I") (by decide +kernel)
  have fl126 := hts (.fieldLink RX2 126 "CapStacks$Certificates" "shares" "[I") (by decide +kernel)
  have fl129 := hts (.fieldLink RX2 129 "CapStacks$Certificates" "of" "[I") (by decide +kernel)
  have fl21 := hts (.fieldLink RX2 21 "CapStacks$Company" "certificates" "LCapStacks$Certificates;") (by decide +kernel)
  have fl35 := hts (.fieldLink RX2 35 "CapStacks$Company" "round" "LCapStacks$Round;") (by decide +kernel)
  have fl64 := hts (.fieldLink RX2 64 "CapStacks$Company" "time" "I") (by decide +kernel)
  have iniX9 := hts (.initialized RX9) (by decide +kernel)
  have st_X9_within := hts (.static yX9_within) (by decide +kernel)
  have nw82 : va_Nw (.methodLinkNest RX2 82 yX9_within "CapStacks") s := hK.2.1 (RX2, 82, yX9_within, "CapStacks") (List.mem_of_getElem? (i := 13) rfl)
  subst hsz
  have hD := hD0.self (sz := s.heap.size)
  generalize hAe : va_A (zw_co tt kv bv) s.heap.size = A at hD ⊢
  have hA : ∀ q : Nat, s.heap.size ≤ q → A q := fun q h => by rw [← hAe]; exact Or.inr h
  have hS : va_S A s.heap s.heap [] := va_S.rf
  have hfin : ∀ (v : Int32) (bv : zV) (pc : Nat) (ls : Array Slot) (H : Heap) (locs : List Loc), some (v, bv) = some out → narrow .int (.int v) = .int v → va_P D vwCl (zw_co tt kv bv) H → va_D A (zw_co tt kv bv) → va_S A s.heap H locs → decode cX2_splitCertificate pc = .ok (.ireturn, 1) → W p l e (headSpec wsX2_splitCertificate { frames := 2, cells := 0, slots := 0, locals := 43 }).room s m args below meth c H locs 0 0 (MQ below (zMi .int out.1 D (zw_co tt kv out.2) A) args s 0 0 A) (F0 m pc ls [.int v]) := by
    intro v bv pc ls H locs he hn hP hD hS hd
    cases he
    exact W.zret hx hb hr hn (fun t ht hW => ⟨⟨_, (), rfl, ⟨rfl, hn⟩, by rw [ht]; exact hP, hD⟩, hS.F ht⟩) hS.2.2 hd
  generalize MQ below (zMi .int out.1 D (zw_co tt kv out.2) A) args s 0 0 A = Q at hfin ⊢
  have b104 : ∀ (bv : zV) (x1 : Int32) (x2 : Int32) (x3 : Int32) (H : Heap) (locs : List Loc) (ls : Array Slot), va_P D vwCl (zw_co tt kv bv) H → va_D A (zw_co tt kv bv) → va_S A s.heap H locs → lv_has ls 5 [(0, .ref (kv 0)), (1, .int x1), (2, .int x2), (3, .int x3)] → f_X2_splitCertificate_b104 bv x1 x2 x3 = some out → W p l e (headSpec wsX2_splitCertificate { frames := 2, cells := 0, slots := 0, locals := 43 }).room s m args below meth c H locs 0 0 Q (F0 m 104 ls []) := by
    intro bv x1 x2 x3 H locs ls hP hD hS hl h
    rw [f_X2_splitCertificate_b104] at h
    refine lv_aload_n hx hb dX2_splitCertificate_104 rfl (lv_at hl 0 rfl) ?_
    refine va_get (D := D) (ci := 2) (v := .ref (kv 2)) (C := RX2) (T := TX2) (N := 11) hx hb hts hi2 hown hK.1 hP 0 rfl rfl 1 (by decide) fl21 (fun _ h9 => h9) rfl dX2_splitCertificate_105 ?_
    refine va_get (D := D) (ci := 0) (v := .ref (kv 12)) (C := RX0) (T := TX0) (N := 4) hx hb hts hi0 hown hK.1 hP 7 rfl rfl 2 (by decide) fl126 (fun _ h9 => h9) rfl dX2_splitCertificate_108 ?_
    refine lv_iload_n hx hb dX2_splitCertificate_111 rfl (lv_at hl 1 rfl) ?_
    refine lv_dup2_11 hx hb dX2_splitCertificate_112 rfl rfl ?_
    obtain ⟨q1, h⟩ := zA_some h
    refine va_iald hx hb hK.1 hP 10 0 rfl rfl q1 dX2_splitCertificate_113 ?_
    refine lv_iload_n hx hb dX2_splitCertificate_114 rfl (lv_at hl 3 rfl) ?_
    refine lv_isub hx hb dX2_splitCertificate_115 ?_
    refine va_iast hx hb hK.1 hP hD hS 10 0 rfl rfl q1 dX2_splitCertificate_116 (fun H locs hP hD hS => ?_)
    have hP : va_P D vwCl (zw_co tt kv (zu bv 8 (upd (bv 8) x1.toNatClampNeg (((bv 8) x1.toNatClampNeg) - x3)))) H := hP
    have hD : va_D A (zw_co tt kv (zu bv 8 (upd (bv 8) x1.toNatClampNeg (((bv 8) x1.toNatClampNeg) - x3)))) := hD
    refine lv_aload_n hx hb dX2_splitCertificate_117 rfl (lv_at hl 0 rfl) ?_
    refine va_get (D := D) (ci := 2) (v := .ref (kv 2)) (C := RX2) (T := TX2) (N := 11) hx hb hts hi2 hown hK.1 hP 0 rfl rfl 1 (by decide) fl21 (fun _ h9 => h9) rfl dX2_splitCertificate_118 ?_
    refine lv_iload_n hx hb dX2_splitCertificate_121 rfl (lv_at hl 2 rfl) ?_
    refine lv_aload_n hx hb dX2_splitCertificate_122 rfl (lv_at hl 0 rfl) ?_
    refine va_get (D := D) (ci := 2) (v := .ref (kv 2)) (C := RX2) (T := TX2) (N := 11) hx hb hts hi2 hown hK.1 hP 0 rfl rfl 1 (by decide) fl21 (fun _ h9 => h9) rfl dX2_splitCertificate_123 ?_
    refine va_get (D := D) (ci := 0) (v := .ref (kv 11)) (C := RX0) (T := TX0) (N := 4) hx hb hts hi0 hown hK.1 hP 7 rfl rfl 1 (by decide) fl129 (fun _ h9 => h9) rfl dX2_splitCertificate_126 ?_
    refine lv_iload_n hx hb dX2_splitCertificate_129 rfl (lv_at hl 1 rfl) ?_
    refine va_iald hx hb hK.1 hP 9 0 rfl rfl q1 dX2_splitCertificate_130 ?_
    refine lv_iload_n hx hb dX2_splitCertificate_131 rfl (lv_at hl 3 rfl) ?_
    refine lv_aload_n hx hb dX2_splitCertificate_132 rfl (lv_at hl 0 rfl) ?_
    refine va_get (D := D) (ci := 2) (v := .int (bv 0 7)) (C := RX2) (T := TX2) (N := 11) hx hb hts hi2 hown hK.1 hP 0 rfl rfl 6 (by decide) fl64 (fun _ h9 => h9) rfl dX2_splitCertificate_133 ?_
    obtain ⟨y2, gy2, h⟩ := zb_some h
    have hpm : List.Perm (zw_c0 tt kv (zu bv 8 (upd (bv 8) x1.toNatClampNeg (((bv 8) x1.toNatClampNeg) - x3))) ++ (zw_cl tt kv (zu bv 8 (upd (bv 8) x1.toNatClampNeg (((bv 8) x1.toNatClampNeg) - x3))) ++ (zw_ce tt kv (zu bv 8 (upd (bv 8) x1.toNatClampNeg (((bv 8) x1.toNatClampNeg) - x3))) ++ (zw_gr tt kv (zu bv 8 (upd (bv 8) x1.toNatClampNeg (((bv 8) x1.toNatClampNeg) - x3))) ++ (zw_ro tt kv (zu bv 8 (upd (bv 8) x1.toNatClampNeg (((bv 8) x1.toNatClampNeg) - x3))) ++ (zw_la tt kv (zu bv 8 (upd (bv 8) x1.toNatClampNeg (((bv 8) x1.toNatClampNeg) - x3))))))))) ((zw_ce tt kv (zu bv 8 (upd (bv 8) x1.toNatClampNeg (((bv 8) x1.toNatClampNeg) - x3)))) ++ (zw_c0 tt kv (zu bv 8 (upd (bv 8) x1.toNatClampNeg (((bv 8) x1.toNatClampNeg) - x3))) ++ zw_cl tt kv (zu bv 8 (upd (bv 8) x1.toNatClampNeg (((bv 8) x1.toNatClampNeg) - x3))) ++ zw_gr tt kv (zu bv 8 (upd (bv 8) x1.toNatClampNeg (((bv 8) x1.toNatClampNeg) - x3))) ++ zw_ro tt kv (zu bv 8 (upd (bv 8) x1.toNatClampNeg (((bv 8) x1.toNatClampNeg) - x3))) ++ zw_la tt kv (zu bv 8 (upd (bv 8) x1.toNatClampNeg (((bv 8) x1.toNatClampNeg) - x3))))) := z_pm (fun _ x => by simp only [List.count_append, List.count_nil] <;> omega)
    have hPc := z_takeP hpm hP
    have hDc := z_takeD hpm hD
    have hFc := z_free0 hDc hS hA
    refine z_callmi (wc := (zw_ce tt kv (zu bv 8 (upd (bv 8) x1.toNatClampNeg (((bv 8) x1.toNatClampNeg) - x3))))) (w1 := (zw_ce tt kv y2.2)) (va_runV (As := [.int x2, .int ((bv 7) x1.toNatClampNeg), .int x3, .int (bv 0 7)]) (rest := []) ⟨hx, hb, hml, hown, hts⟩ (c_X0_add l D tt kv _ (zu bv 8 (upd (bv 8) x1.toNatClampNeg (((bv 8) x1.toNatClampNeg) - x3))) x2 ((bv 7) x1.toNatClampNeg) x3 (bv 0 7) y2 gy2) (cwV 4 hts gX2_splitCertificate_X0_add rfl rfl rfl (by decide +kernel) ⟨Nat.le_of_ble_eq_true rfl, Nat.le_of_ble_eq_true rfl⟩) (z_preVm hK hPc hDc (ci := 0) (q0 := 0) rfl rfl) rfl rfl hl.1 rfl (lv_room (Nat.le_of_ble_eq_true rfl)) dX2_splitCertificate_136 ⟨Nat.zero_le _, Nat.zero_le _⟩) hS hFc (fun H locs ny2 hP1 hD1 hk1 hS => ?_)
    have hpm2 : List.Perm (zw_c0 tt kv (zu bv 8 (upd (bv 8) x1.toNatClampNeg (((bv 8) x1.toNatClampNeg) - x3))) ++ (zw_cl tt kv (zu bv 8 (upd (bv 8) x1.toNatClampNeg (((bv 8) x1.toNatClampNeg) - x3))) ++ (zw_ce tt kv y2.2 ++ (zw_gr tt kv (zu bv 8 (upd (bv 8) x1.toNatClampNeg (((bv 8) x1.toNatClampNeg) - x3))) ++ (zw_ro tt kv (zu bv 8 (upd (bv 8) x1.toNatClampNeg (((bv 8) x1.toNatClampNeg) - x3))) ++ (zw_la tt kv (zu bv 8 (upd (bv 8) x1.toNatClampNeg (((bv 8) x1.toNatClampNeg) - x3))))))))) ((zw_ce tt kv y2.2) ++ (zw_c0 tt kv (zu bv 8 (upd (bv 8) x1.toNatClampNeg (((bv 8) x1.toNatClampNeg) - x3))) ++ zw_cl tt kv (zu bv 8 (upd (bv 8) x1.toNatClampNeg (((bv 8) x1.toNatClampNeg) - x3))) ++ zw_gr tt kv (zu bv 8 (upd (bv 8) x1.toNatClampNeg (((bv 8) x1.toNatClampNeg) - x3))) ++ zw_ro tt kv (zu bv 8 (upd (bv 8) x1.toNatClampNeg (((bv 8) x1.toNatClampNeg) - x3))) ++ zw_la tt kv (zu bv 8 (upd (bv 8) x1.toNatClampNeg (((bv 8) x1.toNatClampNeg) - x3))))) := z_pm (fun _ x => by simp only [List.count_append, List.count_nil] <;> omega)
    obtain ⟨hP, hD⟩ := z_joinB hpm hpm2 hP hD hk1 hFc hP1 hD1
    clear hpm hpm2
    have hP : va_P D vwCl (zw_co tt kv (zg_ce y2.2 (zu bv 8 (upd (bv 8) x1.toNatClampNeg (((bv 8) x1.toNatClampNeg) - x3))))) H := hP
    have hD : va_D A (zw_co tt kv (zg_ce y2.2 (zu bv 8 (upd (bv 8) x1.toNatClampNeg (((bv 8) x1.toNatClampNeg) - x3))))) := hD
    exact hfin _ _ _ _ _ _ h rfl hP hD hS dX2_splitCertificate_139
  have hl := lv_entry ([.ref (kv 0), .int x1, .int x2, .int x3]) (n := 5) (Nat.le_of_ble_eq_true rfl)
  refine W.eq (g2 := F0 m 0 ((lg_sl ([.ref (kv 0), .int x1, .int x2, .int x3]) ++ List.replicate (5 - (lg_sl ([.ref (kv 0), .int x1, .int x2, .int x3])).length) Slot.unset).toArray) []) (by rw [ha]; exact lg_entry_eq _ _ _) ?_
  generalize (lg_sl ([.ref (kv 0), .int x1, .int x2, .int x3]) ++ List.replicate (5 - (lg_sl ([.ref (kv 0), .int x1, .int x2, .int x3])).length) Slot.unset).toArray = ls at hl ⊢
  have hl : lv_has ls 5 [(0, .ref (kv 0)), (1, .int x1), (2, .int x2), (3, .int x3)] := hl
  rw [f_X2_splitCertificate] at h
  refine lv_aload_n hx hb dX2_splitCertificate_0 rfl (lv_at hl 0 rfl) ?_
  refine va_get (D := D) (ci := 2) (v := .ref (kv 2)) (C := RX2) (T := TX2) (N := 11) hx hb hts hi2 hown hK.1 hP 0 rfl rfl 1 (by decide) fl21 (fun _ h9 => h9) rfl dX2_splitCertificate_1 ?_
  refine lv_iload_n hx hb dX2_splitCertificate_4 rfl (lv_at hl 1 rfl) ?_
  obtain ⟨y3, gy3, h⟩ := zb_some h
  have hpm : List.Perm (zw_c0 tt kv bv ++ (zw_cl tt kv bv ++ (zw_ce tt kv bv ++ (zw_gr tt kv bv ++ (zw_ro tt kv bv ++ (zw_la tt kv bv)))))) ((zw_ce tt kv bv) ++ (zw_c0 tt kv bv ++ zw_cl tt kv bv ++ zw_gr tt kv bv ++ zw_ro tt kv bv ++ zw_la tt kv bv)) := z_pm (fun _ x => by simp only [List.count_append, List.count_nil] <;> omega)
  refine z_callr (va_runV (As := [.int x1]) (rest := []) ⟨hx, hb, hml, hown, hts⟩ (c_X0_has l D tt kv bv x1 y3 gy3) (cwV 1 hts gX2_splitCertificate_X0_has rfl rfl rfl (by decide +kernel) ⟨Nat.le_of_ble_eq_true rfl, Nat.le_of_ble_eq_true rfl⟩) (z_preVr hK (z_takeP hpm hP) (ci := 0) (q0 := 0) rfl rfl) rfl rfl hl.1 rfl (lv_room (Nat.le_of_ble_eq_true rfl)) dX2_splitCertificate_5 ⟨Nat.zero_le _, Nat.zero_le _⟩) (fun ny3 => ?_)
  refine lv_if_eq (tgt := 49) hx hb dX2_splitCertificate_8 (by decide) (fun k4 => ?_) (fun k4 => ?_)
  · replace h := z_pos k4 h
    refine lv_iconst (v := (-1)) hx hb dX2_splitCertificate_49 (by decide) ?_
    exact hfin _ _ _ _ _ _ h rfl hP hD hS dX2_splitCertificate_50
  replace h := z_neg k4 h
  refine lv_aload_n hx hb dX2_splitCertificate_11 rfl (lv_at hl 0 rfl) ?_
  refine lv_iload_n hx hb dX2_splitCertificate_12 rfl (lv_at hl 2 rfl) ?_
  obtain ⟨y5, gy5, h⟩ := zb_some h
  refine z_callr (va_runV (As := [.int x2]) (rest := []) ⟨hx, hb, hml, hown, hts⟩ (c_X2_hasHolder l D tt kv bv x2 y5 gy5) (cwV 1 hts gX2_splitCertificate_X2_hasHolder rfl rfl rfl (by decide +kernel) ⟨Nat.le_of_ble_eq_true rfl, Nat.le_of_ble_eq_true rfl⟩) (z_preVr hK hP (ci := 2) (q0 := 0) rfl rfl) rfl rfl hl.1 rfl (lv_room (Nat.le_of_ble_eq_true rfl)) dX2_splitCertificate_13 ⟨Nat.zero_le _, Nat.zero_le _⟩) (fun ny5 => ?_)
  refine lv_if_eq (tgt := 49) hx hb dX2_splitCertificate_16 (by decide) (fun k6 => ?_) (fun k6 => ?_)
  · replace h := z_pos k6 h
    refine lv_iconst (v := (-1)) hx hb dX2_splitCertificate_49 (by decide) ?_
    exact hfin _ _ _ _ _ _ h rfl hP hD hS dX2_splitCertificate_50
  replace h := z_neg k6 h
  refine lv_aload_n hx hb dX2_splitCertificate_19 rfl (lv_at hl 0 rfl) ?_
  refine va_get (D := D) (ci := 2) (v := .ref (kv 2)) (C := RX2) (T := TX2) (N := 11) hx hb hts hi2 hown hK.1 hP 0 rfl rfl 1 (by decide) fl21 (fun _ h9 => h9) rfl dX2_splitCertificate_20 ?_
  refine va_get (D := D) (ci := 0) (v := .ref (kv 10)) (C := RX0) (T := TX0) (N := 4) hx hb hts hi0 hown hK.1 hP 7 rfl rfl 0 (by decide) fl123 (fun _ h9 => h9) rfl dX2_splitCertificate_23 ?_
  refine lv_iload_n hx hb dX2_splitCertificate_26 rfl (lv_at hl 1 rfl) ?_
  obtain ⟨q7, h⟩ := zA_some h
  refine va_iald hx hb hK.1 hP 8 0 rfl rfl q7 dX2_splitCertificate_27 ?_
  refine lv_iload_n hx hb dX2_splitCertificate_28 rfl (lv_at hl 2 rfl) ?_
  refine lv_icmp_eq (tgt := 49) hx hb dX2_splitCertificate_29 (by decide) (fun k8 => ?_) (fun k8 => ?_)
  · replace h := z_pos k8 h
    refine lv_iconst (v := (-1)) hx hb dX2_splitCertificate_49 (by decide) ?_
    exact hfin _ _ _ _ _ _ h rfl hP hD hS dX2_splitCertificate_50
  replace h := z_neg k8 h
  refine lv_iload_n hx hb dX2_splitCertificate_32 rfl (lv_at hl 3 rfl) ?_
  refine lv_iconst (v := 1) hx hb dX2_splitCertificate_33 (by decide) ?_
  refine lv_aload_n hx hb dX2_splitCertificate_34 rfl (lv_at hl 0 rfl) ?_
  refine va_get (D := D) (ci := 2) (v := .ref (kv 2)) (C := RX2) (T := TX2) (N := 11) hx hb hts hi2 hown hK.1 hP 0 rfl rfl 1 (by decide) fl21 (fun _ h9 => h9) rfl dX2_splitCertificate_35 ?_
  refine va_get (D := D) (ci := 0) (v := .ref (kv 12)) (C := RX0) (T := TX0) (N := 4) hx hb hts hi0 hown hK.1 hP 7 rfl rfl 2 (by decide) fl126 (fun _ h9 => h9) rfl dX2_splitCertificate_38 ?_
  refine lv_iload_n hx hb dX2_splitCertificate_41 rfl (lv_at hl 1 rfl) ?_
  refine va_iald hx hb hK.1 hP 10 0 rfl rfl q7 dX2_splitCertificate_42 ?_
  obtain ⟨y9, gy9, h⟩ := zb_some h
  refine z_callr (va_runSN (As := [.int x3, .int 1, .int ((bv 8) x1.toNatClampNeg)]) (rest := []) ⟨hx, hb, hml, hown, hts⟩ (c_X9_within l D tt x3 1 ((bv 8) x1.toNatClampNeg) y9 gy9) ⟨va_cnB (host := "CapStacks") 3 hts gX2_splitCertificate_X9_within_n82 rfl rfl rfl nw82 iniX9 (by decide +kernel) ⟨Nat.le_of_ble_eq_true rfl, Nat.le_of_ble_eq_true rfl⟩, st_X9_within, trivial⟩ (z_preSr hK (hP.sub (ws' := ([] : va_W)) [] rfl)) rfl rfl hl.1 rfl (lv_room (Nat.le_of_ble_eq_true rfl)) dX2_splitCertificate_43 ⟨Nat.zero_le _, Nat.zero_le _⟩) (fun ny9 => ?_)
  refine lv_if_ne (tgt := 51) hx hb dX2_splitCertificate_46 (by decide) (fun k10 => ?_) (fun k10 => ?_)
  rotate_left
  · replace h := z_pos k10 h
    refine lv_iconst (v := (-1)) hx hb dX2_splitCertificate_49 (by decide) ?_
    exact hfin _ _ _ _ _ _ h rfl hP hD hS dX2_splitCertificate_50
  replace h := z_neg k10 h
  refine lv_aload_n hx hb dX2_splitCertificate_51 rfl (lv_at hl 0 rfl) ?_
  refine va_get (D := D) (ci := 2) (v := .ref (kv 4)) (C := RX2) (T := TX2) (N := 11) hx hb hts hi2 hown hK.1 hP 0 rfl rfl 3 (by decide) fl35 (fun _ h9 => h9) rfl dX2_splitCertificate_52 ?_
  refine va_get (D := D) (ci := 7) (v := .int (bv 0 2)) (C := RX7) (T := TX7) (N := 6) hx hb hts hi7 hown hK.1 hP 20 rfl rfl 0 (by decide) fl109 (fun _ h9 => h9) rfl dX2_splitCertificate_55 ?_
  refine lv_if_eq (tgt := 64) hx hb dX2_splitCertificate_58 (by decide) (fun k11 => ?_) (fun k11 => ?_)
  rotate_left
  · replace h := z_neg k11 h
    refine lv_bipush (v := (-2)) hx hb dX2_splitCertificate_61 (by decide) ?_
    exact hfin _ _ _ _ _ _ h rfl hP hD hS dX2_splitCertificate_63
  replace h := z_pos k11 h
  refine lv_aload_n hx hb dX2_splitCertificate_64 rfl (lv_at hl 0 rfl) ?_
  refine va_get (D := D) (ci := 2) (v := .ref (kv 2)) (C := RX2) (T := TX2) (N := 11) hx hb hts hi2 hown hK.1 hP 0 rfl rfl 1 (by decide) fl21 (fun _ h9 => h9) rfl dX2_splitCertificate_65 ?_
  refine va_get (D := D) (ci := 0) (v := .ref (kv 12)) (C := RX0) (T := TX0) (N := 4) hx hb hts hi0 hown hK.1 hP 7 rfl rfl 2 (by decide) fl126 (fun _ h9 => h9) rfl dX2_splitCertificate_68 ?_
  refine lv_iload_n hx hb dX2_splitCertificate_71 rfl (lv_at hl 1 rfl) ?_
  refine va_iald hx hb hK.1 hP 10 0 rfl rfl q7 dX2_splitCertificate_72 ?_
  refine lv_iload_n hx hb dX2_splitCertificate_73 rfl (lv_at hl 3 rfl) ?_
  refine lv_icmp_ne (tgt := 81) hx hb dX2_splitCertificate_74 (by decide) (fun k12 => ?_) (fun k12 => ?_)
  · replace h := z_neg k12 h
    refine lv_iconst (v := 0) hx hb dX2_splitCertificate_81 (by decide) ?_
    refine lv_istore (lv' := [(4, .int 0), (0, .ref (kv 0)), (1, .int x1), (2, .int x2), (3, .int x3)]) hx hb dX2_splitCertificate_82 hl (by decide) rfl (fun ls hl => ?_)
    refine lv_iload hx hb dX2_splitCertificate_84 (lv_at hl 0 rfl) ?_
    refine lv_if_ne (tgt := 104) hx hb dX2_splitCertificate_86 (by decide) (fun k13 => ?_) (fun k13 => ?_)
    · replace h := z_neg k13 h
      exact b104 bv x1 x2 x3 _ _ _ hP hD hS (lv_sub hl [1, 2, 3, 4] rfl) h
    replace h := z_pos k13 h
    refine lv_aload_n hx hb dX2_splitCertificate_89 rfl (lv_at hl 1 rfl) ?_
    refine va_get (D := D) (ci := 2) (v := .ref (kv 2)) (C := RX2) (T := TX2) (N := 11) hx hb hts hi2 hown hK.1 hP 0 rfl rfl 1 (by decide) fl21 (fun _ h9 => h9) rfl dX2_splitCertificate_90 ?_
    obtain ⟨y14, gy14, h⟩ := zb_some h
    have hpm : List.Perm (zw_c0 tt kv bv ++ (zw_cl tt kv bv ++ (zw_ce tt kv bv ++ (zw_gr tt kv bv ++ (zw_ro tt kv bv ++ (zw_la tt kv bv)))))) ((zw_ce tt kv bv) ++ (zw_c0 tt kv bv ++ zw_cl tt kv bv ++ zw_gr tt kv bv ++ zw_ro tt kv bv ++ zw_la tt kv bv)) := z_pm (fun _ x => by simp only [List.count_append, List.count_nil] <;> omega)
    refine z_callr (va_runV (As := []) (rest := []) ⟨hx, hb, hml, hown, hts⟩ (c_X0_size l D tt kv bv y14 gy14) (cwV 0 hts gX2_splitCertificate_X0_size rfl rfl rfl (by decide +kernel) ⟨Nat.le_of_ble_eq_true rfl, Nat.le_of_ble_eq_true rfl⟩) (z_preVr hK (z_takeP hpm hP) (ci := 0) (q0 := 0) rfl rfl) rfl rfl hl.1 rfl (lv_room (Nat.le_of_ble_eq_true rfl)) dX2_splitCertificate_93 ⟨Nat.zero_le _, Nat.zero_le _⟩) (fun ny14 => ?_)
    refine lv_bipush (v := 24) hx hb dX2_splitCertificate_96 (by decide) ?_
    refine lv_icmp_lt (tgt := 104) hx hb dX2_splitCertificate_98 (by decide) (fun k15 => ?_) (fun k15 => ?_)
    · replace h := z_pos k15 h
      exact b104 bv x1 x2 x3 _ _ _ hP hD hS (lv_sub hl [1, 2, 3, 4] rfl) h
    replace h := z_neg k15 h
    refine lv_bipush (v := (-3)) hx hb dX2_splitCertificate_101 (by decide) ?_
    exact hfin _ _ _ _ _ _ h rfl hP hD hS dX2_splitCertificate_103
  replace h := z_pos k12 h
  refine lv_iconst (v := 1) hx hb dX2_splitCertificate_77 (by decide) ?_
  refine lv_goto (tgt := 82) hx hb dX2_splitCertificate_78 (by decide) ?_
  refine lv_istore (lv' := [(4, .int 1), (0, .ref (kv 0)), (1, .int x1), (2, .int x2), (3, .int x3)]) hx hb dX2_splitCertificate_82 hl (by decide) rfl (fun ls hl => ?_)
  refine lv_iload hx hb dX2_splitCertificate_84 (lv_at hl 0 rfl) ?_
  refine lv_if_ne (tgt := 104) hx hb dX2_splitCertificate_86 (by decide) (fun k16 => ?_) (fun k16 => ?_)
  · replace h := z_neg k16 h
    exact b104 bv x1 x2 x3 _ _ _ hP hD hS (lv_sub hl [1, 2, 3, 4] rfl) h
  replace h := z_pos k16 h
  refine lv_aload_n hx hb dX2_splitCertificate_89 rfl (lv_at hl 1 rfl) ?_
  refine va_get (D := D) (ci := 2) (v := .ref (kv 2)) (C := RX2) (T := TX2) (N := 11) hx hb hts hi2 hown hK.1 hP 0 rfl rfl 1 (by decide) fl21 (fun _ h9 => h9) rfl dX2_splitCertificate_90 ?_
  obtain ⟨y17, gy17, h⟩ := zb_some h
  have hpm : List.Perm (zw_c0 tt kv bv ++ (zw_cl tt kv bv ++ (zw_ce tt kv bv ++ (zw_gr tt kv bv ++ (zw_ro tt kv bv ++ (zw_la tt kv bv)))))) ((zw_ce tt kv bv) ++ (zw_c0 tt kv bv ++ zw_cl tt kv bv ++ zw_gr tt kv bv ++ zw_ro tt kv bv ++ zw_la tt kv bv)) := z_pm (fun _ x => by simp only [List.count_append, List.count_nil] <;> omega)
  refine z_callr (va_runV (As := []) (rest := []) ⟨hx, hb, hml, hown, hts⟩ (c_X0_size l D tt kv bv y17 gy17) (cwV 0 hts gX2_splitCertificate_X0_size rfl rfl rfl (by decide +kernel) ⟨Nat.le_of_ble_eq_true rfl, Nat.le_of_ble_eq_true rfl⟩) (z_preVr hK (z_takeP hpm hP) (ci := 0) (q0 := 0) rfl rfl) rfl rfl hl.1 rfl (lv_room (Nat.le_of_ble_eq_true rfl)) dX2_splitCertificate_93 ⟨Nat.zero_le _, Nat.zero_le _⟩) (fun ny17 => ?_)
  refine lv_bipush (v := 24) hx hb dX2_splitCertificate_96 (by decide) ?_
  refine lv_icmp_lt (tgt := 104) hx hb dX2_splitCertificate_98 (by decide) (fun k18 => ?_) (fun k18 => ?_)
  · replace h := z_pos k18 h
    exact b104 bv x1 x2 x3 _ _ _ hP hD hS (lv_sub hl [1, 2, 3, 4] rfl) h
  replace h := z_neg k18 h
  refine lv_bipush (v := (-3)) hx hb dX2_splitCertificate_101 (by decide) ?_
  exact hfin _ _ _ _ _ _ h rfl hP hD hS dX2_splitCertificate_103
set_option maxHeartbeats 4000000 in
set_option maxRecDepth 100000 in
theorem c_X2_buySharesBack (l : Launch) (D : va_G) (tt : Nat → ClassId) (kv : Nat → Nat) (sz : Nat) (bv : zV) (x1 : Int32) (x2 : Int32) (out : Int32 × zV) (h : f_X2_buySharesBack bv x1 x2 = some out) : Met l yX2_buySharesBack wsX2_buySharesBack { frames := 2, cells := 0, slots := 0, locals := 43 } (zPm [.ref (kv 0), .int x1, .int x2] D tt (zw_co tt kv bv) sz) (zMi .int out.1 D (zw_co tt kv out.2) (va_A (zw_co tt kv bv) sz)) 0 0 (va_A (zw_co tt kv bv) sz) := by
  refine Met.ofW (cc := cX2_buySharesBack) (maxL := 3) (ret := (some .int)) (by decide) rfl ?_
  intro p e s m args below meth c s₁ B hml hv
  obtain ⟨ha, hsz, hP, hK, hD0⟩ := hv
  have hx := B.exec
  have hb := B.bytes
  have hr := B.returns
  have hts := atoms_spec (ws := wsX2_buySharesBack) B.pre
  have hown : s.vm.findClass RX2 = some m.cls := findClass_of_methodNamed B.named
  have hlocks := B.notSynchronized
  have hi0 : ∀ w ∈ u_ws RX0 TX0 4, w ∈ wsX2_buySharesBack := fun _ h => List.mem_cons_of_mem _ (List.mem_append_left _ (List.mem_append_right _ h))
  have hi2 : ∀ w ∈ u_ws RX2 TX2 11, w ∈ wsX2_buySharesBack := fun _ h => List.mem_cons_of_mem _ (List.mem_append_left _ (List.mem_append_left _ (List.mem_append_right _ h)))
  have hi7 : ∀ w ∈ u_ws RX7 TX7 6, w ∈ wsX2_buySharesBack := fun _ h => List.mem_cons_of_mem _ (List.mem_append_right _ h)
  have fl109 := hts (.fieldLink RX2 109 "CapStacks$Round" "on" "Z") (by decide +kernel)
  have fl126 := hts (.fieldLink RX2 126 "CapStacks$Certificates" "shares" "[I") (by decide +kernel)
  have fl21 := hts (.fieldLink RX2 21 "CapStacks$Company" "certificates" "LCapStacks$Certificates;") (by decide +kernel)
  have fl35 := hts (.fieldLink RX2 35 "CapStacks$Company" "round" "LCapStacks$Round;") (by decide +kernel)
  have fl70 := hts (.fieldLink RX2 70 "CapStacks$Company" "sharesBought" "I") (by decide +kernel)
  have iniX9 := hts (.initialized RX9) (by decide +kernel)
  have st_X9_within := hts (.static yX9_within) (by decide +kernel)
  have nw82 : va_Nw (.methodLinkNest RX2 82 yX9_within "CapStacks") s := hK.2.1 (RX2, 82, yX9_within, "CapStacks") (List.mem_of_getElem? (i := 13) rfl)
  subst hsz
  have hD := hD0.self (sz := s.heap.size)
  generalize hAe : va_A (zw_co tt kv bv) s.heap.size = A at hD ⊢
  have hA : ∀ q : Nat, s.heap.size ≤ q → A q := fun q h => by rw [← hAe]; exact Or.inr h
  have hS : va_S A s.heap s.heap [] := va_S.rf
  have hfin : ∀ (v : Int32) (bv : zV) (pc : Nat) (ls : Array Slot) (H : Heap) (locs : List Loc), some (v, bv) = some out → narrow .int (.int v) = .int v → va_P D vwCl (zw_co tt kv bv) H → va_D A (zw_co tt kv bv) → va_S A s.heap H locs → decode cX2_buySharesBack pc = .ok (.ireturn, 1) → W p l e (headSpec wsX2_buySharesBack { frames := 2, cells := 0, slots := 0, locals := 43 }).room s m args below meth c H locs 0 0 (MQ below (zMi .int out.1 D (zw_co tt kv out.2) A) args s 0 0 A) (F0 m pc ls [.int v]) := by
    intro v bv pc ls H locs he hn hP hD hS hd
    cases he
    exact W.zret hx hb hr hn (fun t ht hW => ⟨⟨_, (), rfl, ⟨rfl, hn⟩, by rw [ht]; exact hP, hD⟩, hS.F ht⟩) hS.2.2 hd
  generalize MQ below (zMi .int out.1 D (zw_co tt kv out.2) A) args s 0 0 A = Q at hfin ⊢
  have hl := lv_entry ([.ref (kv 0), .int x1, .int x2]) (n := 3) (Nat.le_of_ble_eq_true rfl)
  refine W.eq (g2 := F0 m 0 ((lg_sl ([.ref (kv 0), .int x1, .int x2]) ++ List.replicate (3 - (lg_sl ([.ref (kv 0), .int x1, .int x2])).length) Slot.unset).toArray) []) (by rw [ha]; exact lg_entry_eq _ _ _) ?_
  generalize (lg_sl ([.ref (kv 0), .int x1, .int x2]) ++ List.replicate (3 - (lg_sl ([.ref (kv 0), .int x1, .int x2])).length) Slot.unset).toArray = ls at hl ⊢
  have hl : lv_has ls 3 [(0, .ref (kv 0)), (1, .int x1), (2, .int x2)] := hl
  rw [f_X2_buySharesBack] at h
  refine lv_aload_n hx hb dX2_buySharesBack_0 rfl (lv_at hl 0 rfl) ?_
  refine va_get (D := D) (ci := 2) (v := .ref (kv 2)) (C := RX2) (T := TX2) (N := 11) hx hb hts hi2 hown hK.1 hP 0 rfl rfl 1 (by decide) fl21 (fun _ h9 => h9) rfl dX2_buySharesBack_1 ?_
  refine lv_iload_n hx hb dX2_buySharesBack_4 rfl (lv_at hl 1 rfl) ?_
  obtain ⟨y1, gy1, h⟩ := zb_some h
  have hpm : List.Perm (zw_c0 tt kv bv ++ (zw_cl tt kv bv ++ (zw_ce tt kv bv ++ (zw_gr tt kv bv ++ (zw_ro tt kv bv ++ (zw_la tt kv bv)))))) ((zw_ce tt kv bv) ++ (zw_c0 tt kv bv ++ zw_cl tt kv bv ++ zw_gr tt kv bv ++ zw_ro tt kv bv ++ zw_la tt kv bv)) := z_pm (fun _ x => by simp only [List.count_append, List.count_nil] <;> omega)
  refine z_callr (va_runV (As := [.int x1]) (rest := []) ⟨hx, hb, hml, hown, hts⟩ (c_X0_has l D tt kv bv x1 y1 gy1) (cwV 1 hts gX2_buySharesBack_X0_has rfl rfl rfl (by decide +kernel) ⟨Nat.le_of_ble_eq_true rfl, Nat.le_of_ble_eq_true rfl⟩) (z_preVr hK (z_takeP hpm hP) (ci := 0) (q0 := 0) rfl rfl) rfl rfl hl.1 rfl (lv_room (Nat.le_of_ble_eq_true rfl)) dX2_buySharesBack_5 ⟨Nat.zero_le _, Nat.zero_le _⟩) (fun ny1 => ?_)
  refine lv_if_eq (tgt := 28) hx hb dX2_buySharesBack_8 (by decide) (fun k2 => ?_) (fun k2 => ?_)
  · replace h := z_pos k2 h
    refine lv_iconst (v := (-1)) hx hb dX2_buySharesBack_28 (by decide) ?_
    exact hfin _ _ _ _ _ _ h rfl hP hD hS dX2_buySharesBack_29
  replace h := z_neg k2 h
  refine lv_iload_n hx hb dX2_buySharesBack_11 rfl (lv_at hl 2 rfl) ?_
  refine lv_iconst (v := 1) hx hb dX2_buySharesBack_12 (by decide) ?_
  refine lv_aload_n hx hb dX2_buySharesBack_13 rfl (lv_at hl 0 rfl) ?_
  refine va_get (D := D) (ci := 2) (v := .ref (kv 2)) (C := RX2) (T := TX2) (N := 11) hx hb hts hi2 hown hK.1 hP 0 rfl rfl 1 (by decide) fl21 (fun _ h9 => h9) rfl dX2_buySharesBack_14 ?_
  refine va_get (D := D) (ci := 0) (v := .ref (kv 12)) (C := RX0) (T := TX0) (N := 4) hx hb hts hi0 hown hK.1 hP 7 rfl rfl 2 (by decide) fl126 (fun _ h9 => h9) rfl dX2_buySharesBack_17 ?_
  refine lv_iload_n hx hb dX2_buySharesBack_20 rfl (lv_at hl 1 rfl) ?_
  obtain ⟨q3, h⟩ := zA_some h
  refine va_iald hx hb hK.1 hP 10 0 rfl rfl q3 dX2_buySharesBack_21 ?_
  obtain ⟨y4, gy4, h⟩ := zb_some h
  refine z_callr (va_runSN (As := [.int x2, .int 1, .int ((bv 8) x1.toNatClampNeg)]) (rest := []) ⟨hx, hb, hml, hown, hts⟩ (c_X9_within l D tt x2 1 ((bv 8) x1.toNatClampNeg) y4 gy4) ⟨va_cnB (host := "CapStacks") 3 hts gX2_buySharesBack_X9_within_n82 rfl rfl rfl nw82 iniX9 (by decide +kernel) ⟨Nat.le_of_ble_eq_true rfl, Nat.le_of_ble_eq_true rfl⟩, st_X9_within, trivial⟩ (z_preSr hK (hP.sub (ws' := ([] : va_W)) [] rfl)) rfl rfl hl.1 rfl (lv_room (Nat.le_of_ble_eq_true rfl)) dX2_buySharesBack_22 ⟨Nat.zero_le _, Nat.zero_le _⟩) (fun ny4 => ?_)
  refine lv_if_ne (tgt := 30) hx hb dX2_buySharesBack_25 (by decide) (fun k5 => ?_) (fun k5 => ?_)
  rotate_left
  · replace h := z_pos k5 h
    refine lv_iconst (v := (-1)) hx hb dX2_buySharesBack_28 (by decide) ?_
    exact hfin _ _ _ _ _ _ h rfl hP hD hS dX2_buySharesBack_29
  replace h := z_neg k5 h
  refine lv_aload_n hx hb dX2_buySharesBack_30 rfl (lv_at hl 0 rfl) ?_
  refine va_get (D := D) (ci := 2) (v := .ref (kv 4)) (C := RX2) (T := TX2) (N := 11) hx hb hts hi2 hown hK.1 hP 0 rfl rfl 3 (by decide) fl35 (fun _ h9 => h9) rfl dX2_buySharesBack_31 ?_
  refine va_get (D := D) (ci := 7) (v := .int (bv 0 2)) (C := RX7) (T := TX7) (N := 6) hx hb hts hi7 hown hK.1 hP 20 rfl rfl 0 (by decide) fl109 (fun _ h9 => h9) rfl dX2_buySharesBack_34 ?_
  refine lv_if_eq (tgt := 43) hx hb dX2_buySharesBack_37 (by decide) (fun k6 => ?_) (fun k6 => ?_)
  rotate_left
  · replace h := z_neg k6 h
    refine lv_bipush (v := (-2)) hx hb dX2_buySharesBack_40 (by decide) ?_
    exact hfin _ _ _ _ _ _ h rfl hP hD hS dX2_buySharesBack_42
  replace h := z_pos k6 h
  refine lv_aload_n hx hb dX2_buySharesBack_43 rfl (lv_at hl 0 rfl) ?_
  refine lv_dup hx hb dX2_buySharesBack_44 rfl ?_
  refine va_get (D := D) (ci := 2) (v := .int (bv 0 9)) (C := RX2) (T := TX2) (N := 11) hx hb hts hi2 hown hK.1 hP 0 rfl rfl 8 (by decide) fl70 (fun _ h9 => h9) rfl dX2_buySharesBack_45 ?_
  refine lv_iload_n hx hb dX2_buySharesBack_48 rfl (lv_at hl 2 rfl) ?_
  refine lv_iadd hx hb dX2_buySharesBack_49 ?_
  refine va_put (D := D) (ci := 2) (v := .int ((bv 0 9) + x2)) (ty := .int) (C := RX2) (T := TX2) (N := 11) hx hb hts hi2 tyX2 tyX2_ok nmX2 hown hK.1 hP hD hS 0 rfl rfl 8 (by decide) fl70 (fun _ h9 => h9) rfl (by decide +kernel) rfl rfl (Nat.le_of_ble_eq_true rfl) dX2_buySharesBack_50 (fun H locs hP hD hS => ?_)
  have hP : va_P D vwCl (zw_co tt kv (zu bv 0 (zu (bv 0) 9 ((bv 0 9) + x2)))) H := hP
  have hD : va_D A (zw_co tt kv (zu bv 0 (zu (bv 0) 9 ((bv 0 9) + x2)))) := hD
  refine lv_aload_n hx hb dX2_buySharesBack_53 rfl (lv_at hl 0 rfl) ?_
  refine va_get (D := D) (ci := 2) (v := .ref (kv 2)) (C := RX2) (T := TX2) (N := 11) hx hb hts hi2 hown hK.1 hP 0 rfl rfl 1 (by decide) fl21 (fun _ h9 => h9) rfl dX2_buySharesBack_54 ?_
  refine va_get (D := D) (ci := 0) (v := .ref (kv 12)) (C := RX0) (T := TX0) (N := 4) hx hb hts hi0 hown hK.1 hP 7 rfl rfl 2 (by decide) fl126 (fun _ h9 => h9) rfl dX2_buySharesBack_57 ?_
  refine lv_iload_n hx hb dX2_buySharesBack_60 rfl (lv_at hl 1 rfl) ?_
  refine lv_dup2_11 hx hb dX2_buySharesBack_61 rfl rfl ?_
  refine va_iald hx hb hK.1 hP 10 0 rfl rfl q3 dX2_buySharesBack_62 ?_
  refine lv_iload_n hx hb dX2_buySharesBack_63 rfl (lv_at hl 2 rfl) ?_
  refine lv_isub hx hb dX2_buySharesBack_64 ?_
  refine va_iast hx hb hK.1 hP hD hS 10 0 rfl rfl q3 dX2_buySharesBack_65 (fun H locs hP hD hS => ?_)
  have hP : va_P D vwCl (zw_co tt kv (zu (zu bv 0 (zu (bv 0) 9 ((bv 0 9) + x2))) 8 (upd (bv 8) x1.toNatClampNeg (((bv 8) x1.toNatClampNeg) - x2)))) H := hP
  have hD : va_D A (zw_co tt kv (zu (zu bv 0 (zu (bv 0) 9 ((bv 0 9) + x2))) 8 (upd (bv 8) x1.toNatClampNeg (((bv 8) x1.toNatClampNeg) - x2)))) := hD
  refine lv_aload_n hx hb dX2_buySharesBack_66 rfl (lv_at hl 0 rfl) ?_
  refine va_get (D := D) (ci := 2) (v := .ref (kv 2)) (C := RX2) (T := TX2) (N := 11) hx hb hts hi2 hown hK.1 hP 0 rfl rfl 1 (by decide) fl21 (fun _ h9 => h9) rfl dX2_buySharesBack_67 ?_
  refine va_get (D := D) (ci := 0) (v := .ref (kv 12)) (C := RX0) (T := TX0) (N := 4) hx hb hts hi0 hown hK.1 hP 7 rfl rfl 2 (by decide) fl126 (fun _ h9 => h9) rfl dX2_buySharesBack_70 ?_
  refine lv_iload_n hx hb dX2_buySharesBack_73 rfl (lv_at hl 1 rfl) ?_
  refine va_iald hx hb hK.1 hP 10 0 rfl rfl q3 dX2_buySharesBack_74 ?_
  exact hfin _ _ _ _ _ _ h rfl hP hD hS dX2_buySharesBack_75
set_option maxHeartbeats 4000000 in
set_option maxRecDepth 100000 in
theorem c_X2_addGrant (l : Launch) (D : va_G) (tt : Nat → ClassId) (kv : Nat → Nat) (sz : Nat) (bv : zV) (x1 : Int32) (x2 : Int32) (x3 : Int32) (x4 : Int32) (x5 : Int32) (out : Int32 × zV) (h : f_X2_addGrant bv x1 x2 x3 x4 x5 = some out) : Met l yX2_addGrant wsX2_addGrant { frames := 2, cells := 0, slots := 0, locals := 43 } (zPm [.ref (kv 0), .int x1, .int x2, .int x3, .int x4, .int x5] D tt (zw_co tt kv bv) sz) (zMi .int out.1 D (zw_co tt kv out.2) (va_A (zw_co tt kv bv) sz)) 0 0 (va_A (zw_co tt kv bv) sz) := by
  refine Met.ofW (cc := cX2_addGrant) (maxL := 7) (ret := (some .int)) (by decide) rfl ?_
  intro p e s m args below meth c s₁ B hml hv
  obtain ⟨ha, hsz, hP, hK, hD0⟩ := hv
  have hx := B.exec
  have hb := B.bytes
  have hr := B.returns
  have hts := atoms_spec (ws := wsX2_addGrant) B.pre
  have hown : s.vm.findClass RX2 = some m.cls := findClass_of_methodNamed B.named
  have hlocks := B.notSynchronized
  have hi2 : ∀ w ∈ u_ws RX2 TX2 11, w ∈ wsX2_addGrant := fun _ h => List.mem_cons_of_mem _ (List.mem_append_left _ (List.mem_append_right _ h))
  have hi4 : ∀ w ∈ u_ws RX4 TX4 8, w ∈ wsX2_addGrant := fun _ h => List.mem_cons_of_mem _ (List.mem_append_right _ h)
  have fl132 := hts (.fieldLink RX2 132 "CapStacks$Grants" "holder" "[I") (by decide +kernel)
  have fl133 := hts (.fieldLink RX2 133 "CapStacks$Grants" "shares" "[I") (by decide +kernel)
  have fl134 := hts (.fieldLink RX2 134 "CapStacks$Grants" "strike" "[I") (by decide +kernel)
  have fl137 := hts (.fieldLink RX2 137 "CapStacks$Grants" "cliff" "[I") (by decide +kernel)
  have fl140 := hts (.fieldLink RX2 140 "CapStacks$Grants" "term" "[I") (by decide +kernel)
  have fl143 := hts (.fieldLink RX2 143 "CapStacks$Grants" "made" "[I") (by decide +kernel)
  have fl146 := hts (.fieldLink RX2 146 "CapStacks$Grants" "taken" "[I") (by decide +kernel)
  have fl28 := hts (.fieldLink RX2 28 "CapStacks$Company" "grants" "LCapStacks$Grants;") (by decide +kernel)
  have fl39 := hts (.fieldLink RX2 39 "CapStacks$Company" "leftAt" "[I") (by decide +kernel)
  have fl64 := hts (.fieldLink RX2 64 "CapStacks$Company" "time" "I") (by decide +kernel)
  have fl86 := hts (.fieldLink RX2 86 "CapStacks$Grants" "size" "I") (by decide +kernel)
  have iniX9 := hts (.initialized RX9) (by decide +kernel)
  have st_X9_within := hts (.static yX9_within) (by decide +kernel)
  have nw82 : va_Nw (.methodLinkNest RX2 82 yX9_within "CapStacks") s := hK.2.1 (RX2, 82, yX9_within, "CapStacks") (List.mem_of_getElem? (i := 13) rfl)
  subst hsz
  have hD := hD0.self (sz := s.heap.size)
  generalize hAe : va_A (zw_co tt kv bv) s.heap.size = A at hD ⊢
  have hA : ∀ q : Nat, s.heap.size ≤ q → A q := fun q h => by rw [← hAe]; exact Or.inr h
  have hS : va_S A s.heap s.heap [] := va_S.rf
  have hfin : ∀ (v : Int32) (bv : zV) (pc : Nat) (ls : Array Slot) (H : Heap) (locs : List Loc), some (v, bv) = some out → narrow .int (.int v) = .int v → va_P D vwCl (zw_co tt kv bv) H → va_D A (zw_co tt kv bv) → va_S A s.heap H locs → decode cX2_addGrant pc = .ok (.ireturn, 1) → W p l e (headSpec wsX2_addGrant { frames := 2, cells := 0, slots := 0, locals := 43 }).room s m args below meth c H locs 0 0 (MQ below (zMi .int out.1 D (zw_co tt kv out.2) A) args s 0 0 A) (F0 m pc ls [.int v]) := by
    intro v bv pc ls H locs he hn hP hD hS hd
    cases he
    exact W.zret hx hb hr hn (fun t ht hW => ⟨⟨_, (), rfl, ⟨rfl, hn⟩, by rw [ht]; exact hP, hD⟩, hS.F ht⟩) hS.2.2 hd
  generalize MQ below (zMi .int out.1 D (zw_co tt kv out.2) A) args s 0 0 A = Q at hfin ⊢
  have hl := lv_entry ([.ref (kv 0), .int x1, .int x2, .int x3, .int x4, .int x5]) (n := 7) (Nat.le_of_ble_eq_true rfl)
  refine W.eq (g2 := F0 m 0 ((lg_sl ([.ref (kv 0), .int x1, .int x2, .int x3, .int x4, .int x5]) ++ List.replicate (7 - (lg_sl ([.ref (kv 0), .int x1, .int x2, .int x3, .int x4, .int x5])).length) Slot.unset).toArray) []) (by rw [ha]; exact lg_entry_eq _ _ _) ?_
  generalize (lg_sl ([.ref (kv 0), .int x1, .int x2, .int x3, .int x4, .int x5]) ++ List.replicate (7 - (lg_sl ([.ref (kv 0), .int x1, .int x2, .int x3, .int x4, .int x5])).length) Slot.unset).toArray = ls at hl ⊢
  have hl : lv_has ls 7 [(0, .ref (kv 0)), (1, .int x1), (2, .int x2), (3, .int x3), (4, .int x4), (5, .int x5)] := hl
  rw [f_X2_addGrant] at h
  refine lv_aload_n hx hb dX2_addGrant_0 rfl (lv_at hl 0 rfl) ?_
  refine lv_iload_n hx hb dX2_addGrant_1 rfl (lv_at hl 1 rfl) ?_
  obtain ⟨y1, gy1, h⟩ := zb_some h
  refine z_callr (va_runV (As := [.int x1]) (rest := []) ⟨hx, hb, hml, hown, hts⟩ (c_X2_hasHolder l D tt kv bv x1 y1 gy1) (cwV 1 hts gX2_addGrant_X2_hasHolder rfl rfl rfl (by decide +kernel) ⟨Nat.le_of_ble_eq_true rfl, Nat.le_of_ble_eq_true rfl⟩) (z_preVr hK hP (ci := 2) (q0 := 0) rfl rfl) rfl rfl hl.1 rfl (lv_room (Nat.le_of_ble_eq_true rfl)) dX2_addGrant_2 ⟨Nat.zero_le _, Nat.zero_le _⟩) (fun ny1 => ?_)
  refine lv_if_eq (tgt := 51) hx hb dX2_addGrant_5 (by decide) (fun k2 => ?_) (fun k2 => ?_)
  · replace h := z_pos k2 h
    refine lv_iconst (v := (-1)) hx hb dX2_addGrant_51 (by decide) ?_
    exact hfin _ _ _ _ _ _ h rfl hP hD hS dX2_addGrant_52
  replace h := z_neg k2 h
  refine lv_iload_n hx hb dX2_addGrant_8 rfl (lv_at hl 2 rfl) ?_
  refine lv_iconst (v := 1) hx hb dX2_addGrant_9 (by decide) ?_
  refine lv_sipush (v := 9999) hx hb dX2_addGrant_10 (by decide) ?_
  obtain ⟨y3, gy3, h⟩ := zb_some h
  refine z_callr (va_runSN (As := [.int x2, .int 1, .int 9999]) (rest := []) ⟨hx, hb, hml, hown, hts⟩ (c_X9_within l D tt x2 1 9999 y3 gy3) ⟨va_cnB (host := "CapStacks") 3 hts gX2_addGrant_X9_within_n82 rfl rfl rfl nw82 iniX9 (by decide +kernel) ⟨Nat.le_of_ble_eq_true rfl, Nat.le_of_ble_eq_true rfl⟩, st_X9_within, trivial⟩ (z_preSr hK (hP.sub (ws' := ([] : va_W)) [] rfl)) rfl rfl hl.1 rfl (lv_room (Nat.le_of_ble_eq_true rfl)) dX2_addGrant_13 ⟨Nat.zero_le _, Nat.zero_le _⟩) (fun ny3 => ?_)
  refine lv_if_eq (tgt := 51) hx hb dX2_addGrant_16 (by decide) (fun k4 => ?_) (fun k4 => ?_)
  · replace h := z_pos k4 h
    refine lv_iconst (v := (-1)) hx hb dX2_addGrant_51 (by decide) ?_
    exact hfin _ _ _ _ _ _ h rfl hP hD hS dX2_addGrant_52
  replace h := z_neg k4 h
  refine lv_iload_n hx hb dX2_addGrant_19 rfl (lv_at hl 3 rfl) ?_
  refine lv_iconst (v := 0) hx hb dX2_addGrant_20 (by decide) ?_
  refine lv_bipush (v := 99) hx hb dX2_addGrant_21 (by decide) ?_
  obtain ⟨y5, gy5, h⟩ := zb_some h
  refine z_callr (va_runSN (As := [.int x3, .int 0, .int 99]) (rest := []) ⟨hx, hb, hml, hown, hts⟩ (c_X9_within l D tt x3 0 99 y5 gy5) ⟨va_cnB (host := "CapStacks") 3 hts gX2_addGrant_X9_within_n82 rfl rfl rfl nw82 iniX9 (by decide +kernel) ⟨Nat.le_of_ble_eq_true rfl, Nat.le_of_ble_eq_true rfl⟩, st_X9_within, trivial⟩ (z_preSr hK (hP.sub (ws' := ([] : va_W)) [] rfl)) rfl rfl hl.1 rfl (lv_room (Nat.le_of_ble_eq_true rfl)) dX2_addGrant_23 ⟨Nat.zero_le _, Nat.zero_le _⟩) (fun ny5 => ?_)
  refine lv_if_eq (tgt := 51) hx hb dX2_addGrant_26 (by decide) (fun k6 => ?_) (fun k6 => ?_)
  · replace h := z_pos k6 h
    refine lv_iconst (v := (-1)) hx hb dX2_addGrant_51 (by decide) ?_
    exact hfin _ _ _ _ _ _ h rfl hP hD hS dX2_addGrant_52
  replace h := z_neg k6 h
  refine lv_iload hx hb dX2_addGrant_29 (lv_at hl 5 rfl) ?_
  refine lv_iconst (v := 1) hx hb dX2_addGrant_31 (by decide) ?_
  refine lv_bipush (v := 60) hx hb dX2_addGrant_32 (by decide) ?_
  obtain ⟨y7, gy7, h⟩ := zb_some h
  refine z_callr (va_runSN (As := [.int x5, .int 1, .int 60]) (rest := []) ⟨hx, hb, hml, hown, hts⟩ (c_X9_within l D tt x5 1 60 y7 gy7) ⟨va_cnB (host := "CapStacks") 3 hts gX2_addGrant_X9_within_n82 rfl rfl rfl nw82 iniX9 (by decide +kernel) ⟨Nat.le_of_ble_eq_true rfl, Nat.le_of_ble_eq_true rfl⟩, st_X9_within, trivial⟩ (z_preSr hK (hP.sub (ws' := ([] : va_W)) [] rfl)) rfl rfl hl.1 rfl (lv_room (Nat.le_of_ble_eq_true rfl)) dX2_addGrant_34 ⟨Nat.zero_le _, Nat.zero_le _⟩) (fun ny7 => ?_)
  refine lv_if_eq (tgt := 51) hx hb dX2_addGrant_37 (by decide) (fun k8 => ?_) (fun k8 => ?_)
  · replace h := z_pos k8 h
    refine lv_iconst (v := (-1)) hx hb dX2_addGrant_51 (by decide) ?_
    exact hfin _ _ _ _ _ _ h rfl hP hD hS dX2_addGrant_52
  replace h := z_neg k8 h
  refine lv_iload hx hb dX2_addGrant_40 (lv_at hl 4 rfl) ?_
  refine lv_iconst (v := 0) hx hb dX2_addGrant_42 (by decide) ?_
  refine lv_iload hx hb dX2_addGrant_43 (lv_at hl 5 rfl) ?_
  obtain ⟨y9, gy9, h⟩ := zb_some h
  refine z_callr (va_runSN (As := [.int x4, .int 0, .int x5]) (rest := []) ⟨hx, hb, hml, hown, hts⟩ (c_X9_within l D tt x4 0 x5 y9 gy9) ⟨va_cnB (host := "CapStacks") 3 hts gX2_addGrant_X9_within_n82 rfl rfl rfl nw82 iniX9 (by decide +kernel) ⟨Nat.le_of_ble_eq_true rfl, Nat.le_of_ble_eq_true rfl⟩, st_X9_within, trivial⟩ (z_preSr hK (hP.sub (ws' := ([] : va_W)) [] rfl)) rfl rfl hl.1 rfl (lv_room (Nat.le_of_ble_eq_true rfl)) dX2_addGrant_45 ⟨Nat.zero_le _, Nat.zero_le _⟩) (fun ny9 => ?_)
  refine lv_if_ne (tgt := 53) hx hb dX2_addGrant_48 (by decide) (fun k10 => ?_) (fun k10 => ?_)
  rotate_left
  · replace h := z_pos k10 h
    refine lv_iconst (v := (-1)) hx hb dX2_addGrant_51 (by decide) ?_
    exact hfin _ _ _ _ _ _ h rfl hP hD hS dX2_addGrant_52
  replace h := z_neg k10 h
  refine lv_aload_n hx hb dX2_addGrant_53 rfl (lv_at hl 0 rfl) ?_
  refine va_get (D := D) (ci := 2) (v := .ref (kv 23)) (C := RX2) (T := TX2) (N := 11) hx hb hts hi2 hown hK.1 hP 0 rfl rfl 5 (by decide) fl39 (fun _ h9 => h9) rfl dX2_addGrant_54 ?_
  refine lv_iload_n hx hb dX2_addGrant_57 rfl (lv_at hl 1 rfl) ?_
  obtain ⟨q11, h⟩ := zA_some h
  refine va_iald hx hb hK.1 hP 23 0 rfl rfl q11 dX2_addGrant_58 ?_
  refine lv_iconst (v := (-1)) hx hb dX2_addGrant_59 (by decide) ?_
  refine lv_icmp_eq (tgt := 66) hx hb dX2_addGrant_60 (by decide) (fun k12 => ?_) (fun k12 => ?_)
  rotate_left
  · replace h := z_neg k12 h
    refine lv_bipush (v := (-2)) hx hb dX2_addGrant_63 (by decide) ?_
    exact hfin _ _ _ _ _ _ h rfl hP hD hS dX2_addGrant_65
  replace h := z_pos k12 h
  refine lv_aload_n hx hb dX2_addGrant_66 rfl (lv_at hl 0 rfl) ?_
  refine va_get (D := D) (ci := 2) (v := .ref (kv 3)) (C := RX2) (T := TX2) (N := 11) hx hb hts hi2 hown hK.1 hP 0 rfl rfl 2 (by decide) fl28 (fun _ h9 => h9) rfl dX2_addGrant_67 ?_
  refine va_get (D := D) (ci := 4) (v := .int (bv 0 1)) (C := RX4) (T := TX4) (N := 8) hx hb hts hi4 hown hK.1 hP 12 rfl rfl 0 (by decide) fl86 (fun _ h9 => h9) rfl dX2_addGrant_70 ?_
  refine lv_istore (lv' := [(6, .int (bv 0 1)), (0, .ref (kv 0)), (1, .int x1), (2, .int x2), (3, .int x3), (4, .int x4), (5, .int x5)]) hx hb dX2_addGrant_73 hl (by decide) rfl (fun ls hl => ?_)
  refine lv_iload hx hb dX2_addGrant_75 (lv_at hl 0 rfl) ?_
  refine lv_bipush (v := 8) hx hb dX2_addGrant_77 (by decide) ?_
  refine lv_icmp_lt (tgt := 85) hx hb dX2_addGrant_79 (by decide) (fun k13 => ?_) (fun k13 => ?_)
  rotate_left
  · replace h := z_neg k13 h
    refine lv_bipush (v := (-3)) hx hb dX2_addGrant_82 (by decide) ?_
    exact hfin _ _ _ _ _ _ h rfl hP hD hS dX2_addGrant_84
  replace h := z_pos k13 h
  refine lv_aload_n hx hb dX2_addGrant_85 rfl (lv_at hl 1 rfl) ?_
  refine va_get (D := D) (ci := 2) (v := .ref (kv 3)) (C := RX2) (T := TX2) (N := 11) hx hb hts hi2 hown hK.1 hP 0 rfl rfl 2 (by decide) fl28 (fun _ h9 => h9) rfl dX2_addGrant_86 ?_
  refine va_get (D := D) (ci := 4) (v := .ref (kv 14)) (C := RX4) (T := TX4) (N := 8) hx hb hts hi4 hown hK.1 hP 12 rfl rfl 1 (by decide) fl132 (fun _ h9 => h9) rfl dX2_addGrant_89 ?_
  refine lv_iload hx hb dX2_addGrant_92 (lv_at hl 0 rfl) ?_
  refine lv_iload_n hx hb dX2_addGrant_94 rfl (lv_at hl 2 rfl) ?_
  obtain ⟨q14, h⟩ := zA_some h
  refine va_iast hx hb hK.1 hP hD hS 13 0 rfl rfl q14 dX2_addGrant_95 (fun H locs hP hD hS => ?_)
  have hP : va_P D vwCl (zw_co tt kv (zu bv 10 (upd (bv 10) (bv 0 1).toNatClampNeg x1))) H := hP
  have hD : va_D A (zw_co tt kv (zu bv 10 (upd (bv 10) (bv 0 1).toNatClampNeg x1))) := hD
  refine lv_aload_n hx hb dX2_addGrant_96 rfl (lv_at hl 1 rfl) ?_
  refine va_get (D := D) (ci := 2) (v := .ref (kv 3)) (C := RX2) (T := TX2) (N := 11) hx hb hts hi2 hown hK.1 hP 0 rfl rfl 2 (by decide) fl28 (fun _ h9 => h9) rfl dX2_addGrant_97 ?_
  refine va_get (D := D) (ci := 4) (v := .ref (kv 15)) (C := RX4) (T := TX4) (N := 8) hx hb hts hi4 hown hK.1 hP 12 rfl rfl 2 (by decide) fl133 (fun _ h9 => h9) rfl dX2_addGrant_100 ?_
  refine lv_iload hx hb dX2_addGrant_103 (lv_at hl 0 rfl) ?_
  refine lv_iload_n hx hb dX2_addGrant_105 rfl (lv_at hl 3 rfl) ?_
  refine va_iast hx hb hK.1 hP hD hS 14 0 rfl rfl q14 dX2_addGrant_106 (fun H locs hP hD hS => ?_)
  have hP : va_P D vwCl (zw_co tt kv (zu (zu bv 10 (upd (bv 10) (bv 0 1).toNatClampNeg x1)) 11 (upd (bv 11) (bv 0 1).toNatClampNeg x2))) H := hP
  have hD : va_D A (zw_co tt kv (zu (zu bv 10 (upd (bv 10) (bv 0 1).toNatClampNeg x1)) 11 (upd (bv 11) (bv 0 1).toNatClampNeg x2))) := hD
  refine lv_aload_n hx hb dX2_addGrant_107 rfl (lv_at hl 1 rfl) ?_
  refine va_get (D := D) (ci := 2) (v := .ref (kv 3)) (C := RX2) (T := TX2) (N := 11) hx hb hts hi2 hown hK.1 hP 0 rfl rfl 2 (by decide) fl28 (fun _ h9 => h9) rfl dX2_addGrant_108 ?_
  refine va_get (D := D) (ci := 4) (v := .ref (kv 16)) (C := RX4) (T := TX4) (N := 8) hx hb hts hi4 hown hK.1 hP 12 rfl rfl 3 (by decide) fl134 (fun _ h9 => h9) rfl dX2_addGrant_111 ?_
  refine lv_iload hx hb dX2_addGrant_114 (lv_at hl 0 rfl) ?_
  refine lv_iload_n hx hb dX2_addGrant_116 rfl (lv_at hl 4 rfl) ?_
  refine va_iast hx hb hK.1 hP hD hS 15 0 rfl rfl q14 dX2_addGrant_117 (fun H locs hP hD hS => ?_)
  have hP : va_P D vwCl (zw_co tt kv (zu (zu (zu bv 10 (upd (bv 10) (bv 0 1).toNatClampNeg x1)) 11 (upd (bv 11) (bv 0 1).toNatClampNeg x2)) 12 (upd (bv 12) (bv 0 1).toNatClampNeg x3))) H := hP
  have hD : va_D A (zw_co tt kv (zu (zu (zu bv 10 (upd (bv 10) (bv 0 1).toNatClampNeg x1)) 11 (upd (bv 11) (bv 0 1).toNatClampNeg x2)) 12 (upd (bv 12) (bv 0 1).toNatClampNeg x3))) := hD
  refine lv_aload_n hx hb dX2_addGrant_118 rfl (lv_at hl 1 rfl) ?_
  refine va_get (D := D) (ci := 2) (v := .ref (kv 3)) (C := RX2) (T := TX2) (N := 11) hx hb hts hi2 hown hK.1 hP 0 rfl rfl 2 (by decide) fl28 (fun _ h9 => h9) rfl dX2_addGrant_119 ?_
  refine va_get (D := D) (ci := 4) (v := .ref (kv 17)) (C := RX4) (T := TX4) (N := 8) hx hb hts hi4 hown hK.1 hP 12 rfl rfl 4 (by decide) fl137 (fun _ h9 => h9) rfl dX2_addGrant_122 ?_
  refine lv_iload hx hb dX2_addGrant_125 (lv_at hl 0 rfl) ?_
  refine lv_iload hx hb dX2_addGrant_127 (lv_at hl 5 rfl) ?_
  refine va_iast hx hb hK.1 hP hD hS 16 0 rfl rfl q14 dX2_addGrant_129 (fun H locs hP hD hS => ?_)
  have hP : va_P D vwCl (zw_co tt kv (zu (zu (zu (zu bv 10 (upd (bv 10) (bv 0 1).toNatClampNeg x1)) 11 (upd (bv 11) (bv 0 1).toNatClampNeg x2)) 12 (upd (bv 12) (bv 0 1).toNatClampNeg x3)) 13 (upd (bv 13) (bv 0 1).toNatClampNeg x4))) H := hP
  have hD : va_D A (zw_co tt kv (zu (zu (zu (zu bv 10 (upd (bv 10) (bv 0 1).toNatClampNeg x1)) 11 (upd (bv 11) (bv 0 1).toNatClampNeg x2)) 12 (upd (bv 12) (bv 0 1).toNatClampNeg x3)) 13 (upd (bv 13) (bv 0 1).toNatClampNeg x4))) := hD
  refine lv_aload_n hx hb dX2_addGrant_130 rfl (lv_at hl 1 rfl) ?_
  refine va_get (D := D) (ci := 2) (v := .ref (kv 3)) (C := RX2) (T := TX2) (N := 11) hx hb hts hi2 hown hK.1 hP 0 rfl rfl 2 (by decide) fl28 (fun _ h9 => h9) rfl dX2_addGrant_131 ?_
  refine va_get (D := D) (ci := 4) (v := .ref (kv 18)) (C := RX4) (T := TX4) (N := 8) hx hb hts hi4 hown hK.1 hP 12 rfl rfl 5 (by decide) fl140 (fun _ h9 => h9) rfl dX2_addGrant_134 ?_
  refine lv_iload hx hb dX2_addGrant_137 (lv_at hl 0 rfl) ?_
  refine lv_iload hx hb dX2_addGrant_139 (lv_at hl 6 rfl) ?_
  refine va_iast hx hb hK.1 hP hD hS 17 0 rfl rfl q14 dX2_addGrant_141 (fun H locs hP hD hS => ?_)
  have hP : va_P D vwCl (zw_co tt kv (zu (zu (zu (zu (zu bv 10 (upd (bv 10) (bv 0 1).toNatClampNeg x1)) 11 (upd (bv 11) (bv 0 1).toNatClampNeg x2)) 12 (upd (bv 12) (bv 0 1).toNatClampNeg x3)) 13 (upd (bv 13) (bv 0 1).toNatClampNeg x4)) 14 (upd (bv 14) (bv 0 1).toNatClampNeg x5))) H := hP
  have hD : va_D A (zw_co tt kv (zu (zu (zu (zu (zu bv 10 (upd (bv 10) (bv 0 1).toNatClampNeg x1)) 11 (upd (bv 11) (bv 0 1).toNatClampNeg x2)) 12 (upd (bv 12) (bv 0 1).toNatClampNeg x3)) 13 (upd (bv 13) (bv 0 1).toNatClampNeg x4)) 14 (upd (bv 14) (bv 0 1).toNatClampNeg x5))) := hD
  refine lv_aload_n hx hb dX2_addGrant_142 rfl (lv_at hl 1 rfl) ?_
  refine va_get (D := D) (ci := 2) (v := .ref (kv 3)) (C := RX2) (T := TX2) (N := 11) hx hb hts hi2 hown hK.1 hP 0 rfl rfl 2 (by decide) fl28 (fun _ h9 => h9) rfl dX2_addGrant_143 ?_
  refine va_get (D := D) (ci := 4) (v := .ref (kv 19)) (C := RX4) (T := TX4) (N := 8) hx hb hts hi4 hown hK.1 hP 12 rfl rfl 6 (by decide) fl143 (fun _ h9 => h9) rfl dX2_addGrant_146 ?_
  refine lv_iload hx hb dX2_addGrant_149 (lv_at hl 0 rfl) ?_
  refine lv_aload_n hx hb dX2_addGrant_151 rfl (lv_at hl 1 rfl) ?_
  refine va_get (D := D) (ci := 2) (v := .int (bv 0 7)) (C := RX2) (T := TX2) (N := 11) hx hb hts hi2 hown hK.1 hP 0 rfl rfl 6 (by decide) fl64 (fun _ h9 => h9) rfl dX2_addGrant_152 ?_
  refine va_iast hx hb hK.1 hP hD hS 18 0 rfl rfl q14 dX2_addGrant_155 (fun H locs hP hD hS => ?_)
  have hP : va_P D vwCl (zw_co tt kv (zu (zu (zu (zu (zu (zu bv 10 (upd (bv 10) (bv 0 1).toNatClampNeg x1)) 11 (upd (bv 11) (bv 0 1).toNatClampNeg x2)) 12 (upd (bv 12) (bv 0 1).toNatClampNeg x3)) 13 (upd (bv 13) (bv 0 1).toNatClampNeg x4)) 14 (upd (bv 14) (bv 0 1).toNatClampNeg x5)) 15 (upd (bv 15) (bv 0 1).toNatClampNeg (bv 0 7)))) H := hP
  have hD : va_D A (zw_co tt kv (zu (zu (zu (zu (zu (zu bv 10 (upd (bv 10) (bv 0 1).toNatClampNeg x1)) 11 (upd (bv 11) (bv 0 1).toNatClampNeg x2)) 12 (upd (bv 12) (bv 0 1).toNatClampNeg x3)) 13 (upd (bv 13) (bv 0 1).toNatClampNeg x4)) 14 (upd (bv 14) (bv 0 1).toNatClampNeg x5)) 15 (upd (bv 15) (bv 0 1).toNatClampNeg (bv 0 7)))) := hD
  refine lv_aload_n hx hb dX2_addGrant_156 rfl (lv_at hl 1 rfl) ?_
  refine va_get (D := D) (ci := 2) (v := .ref (kv 3)) (C := RX2) (T := TX2) (N := 11) hx hb hts hi2 hown hK.1 hP 0 rfl rfl 2 (by decide) fl28 (fun _ h9 => h9) rfl dX2_addGrant_157 ?_
  refine va_get (D := D) (ci := 4) (v := .ref (kv 20)) (C := RX4) (T := TX4) (N := 8) hx hb hts hi4 hown hK.1 hP 12 rfl rfl 7 (by decide) fl146 (fun _ h9 => h9) rfl dX2_addGrant_160 ?_
  refine lv_iload hx hb dX2_addGrant_163 (lv_at hl 0 rfl) ?_
  refine lv_iconst (v := 0) hx hb dX2_addGrant_165 (by decide) ?_
  refine va_iast hx hb hK.1 hP hD hS 19 0 rfl rfl q14 dX2_addGrant_166 (fun H locs hP hD hS => ?_)
  have hP : va_P D vwCl (zw_co tt kv (zu (zu (zu (zu (zu (zu (zu bv 10 (upd (bv 10) (bv 0 1).toNatClampNeg x1)) 11 (upd (bv 11) (bv 0 1).toNatClampNeg x2)) 12 (upd (bv 12) (bv 0 1).toNatClampNeg x3)) 13 (upd (bv 13) (bv 0 1).toNatClampNeg x4)) 14 (upd (bv 14) (bv 0 1).toNatClampNeg x5)) 15 (upd (bv 15) (bv 0 1).toNatClampNeg (bv 0 7))) 16 (upd (bv 16) (bv 0 1).toNatClampNeg 0))) H := hP
  have hD : va_D A (zw_co tt kv (zu (zu (zu (zu (zu (zu (zu bv 10 (upd (bv 10) (bv 0 1).toNatClampNeg x1)) 11 (upd (bv 11) (bv 0 1).toNatClampNeg x2)) 12 (upd (bv 12) (bv 0 1).toNatClampNeg x3)) 13 (upd (bv 13) (bv 0 1).toNatClampNeg x4)) 14 (upd (bv 14) (bv 0 1).toNatClampNeg x5)) 15 (upd (bv 15) (bv 0 1).toNatClampNeg (bv 0 7))) 16 (upd (bv 16) (bv 0 1).toNatClampNeg 0))) := hD
  refine lv_aload_n hx hb dX2_addGrant_167 rfl (lv_at hl 1 rfl) ?_
  refine va_get (D := D) (ci := 2) (v := .ref (kv 3)) (C := RX2) (T := TX2) (N := 11) hx hb hts hi2 hown hK.1 hP 0 rfl rfl 2 (by decide) fl28 (fun _ h9 => h9) rfl dX2_addGrant_168 ?_
  refine lv_iload hx hb dX2_addGrant_171 (lv_at hl 0 rfl) ?_
  refine lv_iconst (v := 1) hx hb dX2_addGrant_173 (by decide) ?_
  refine lv_iadd hx hb dX2_addGrant_174 ?_
  refine va_put (D := D) (ci := 4) (v := .int ((bv 0 1) + 1)) (ty := .int) (C := RX4) (T := TX4) (N := 8) hx hb hts hi4 tyX4 tyX4_ok nmX4 hown hK.1 hP hD hS 12 rfl rfl 0 (by decide) fl86 (fun _ h9 => h9) rfl (by decide +kernel) rfl rfl (Nat.le_of_ble_eq_true rfl) dX2_addGrant_175 (fun H locs hP hD hS => ?_)
  have hP : va_P D vwCl (zw_co tt kv (zu (zu (zu (zu (zu (zu (zu (zu bv 0 (zu (bv 0) 1 ((bv 0 1) + 1))) 10 (upd (bv 10) (bv 0 1).toNatClampNeg x1)) 11 (upd (bv 11) (bv 0 1).toNatClampNeg x2)) 12 (upd (bv 12) (bv 0 1).toNatClampNeg x3)) 13 (upd (bv 13) (bv 0 1).toNatClampNeg x4)) 14 (upd (bv 14) (bv 0 1).toNatClampNeg x5)) 15 (upd (bv 15) (bv 0 1).toNatClampNeg (bv 0 7))) 16 (upd (bv 16) (bv 0 1).toNatClampNeg 0))) H := hP
  have hD : va_D A (zw_co tt kv (zu (zu (zu (zu (zu (zu (zu (zu bv 0 (zu (bv 0) 1 ((bv 0 1) + 1))) 10 (upd (bv 10) (bv 0 1).toNatClampNeg x1)) 11 (upd (bv 11) (bv 0 1).toNatClampNeg x2)) 12 (upd (bv 12) (bv 0 1).toNatClampNeg x3)) 13 (upd (bv 13) (bv 0 1).toNatClampNeg x4)) 14 (upd (bv 14) (bv 0 1).toNatClampNeg x5)) 15 (upd (bv 15) (bv 0 1).toNatClampNeg (bv 0 7))) 16 (upd (bv 16) (bv 0 1).toNatClampNeg 0))) := hD
  refine lv_iload hx hb dX2_addGrant_178 (lv_at hl 0 rfl) ?_
  exact hfin _ _ _ _ _ _ h rfl hP hD hS dX2_addGrant_180
set_option maxHeartbeats 4000000 in
set_option maxRecDepth 100000 in
theorem c_X2_hasGrant (l : Launch) (D : va_G) (tt : Nat → ClassId) (kv : Nat → Nat) (bv : zV) (x1 : Int32) (out : Int32) (h : f_X2_hasGrant bv x1 = some out) : Met l yX2_hasGrant wsX2_hasGrant { frames := 1, cells := 0, slots := 0, locals := 22 } (zPr [.ref (kv 0), .int x1] D tt (zw_co tt kv bv)) (zQr .boolean out) 0 0 (fun _ => False) := by
  refine Met.ofW (cc := cX2_hasGrant) (maxL := 2) (ret := (some .boolean)) (by decide) rfl ?_
  intro p e s m args below meth c s₁ B hml hv
  obtain ⟨ha, hP, hK⟩ := hv
  have hx := B.exec
  have hb := B.bytes
  have hr := B.returns
  have hts := atoms_spec (ws := wsX2_hasGrant) B.pre
  have hown : s.vm.findClass RX2 = some m.cls := findClass_of_methodNamed B.named
  have hlocks := B.notSynchronized
  have hi2 : ∀ w ∈ u_ws RX2 TX2 11, w ∈ wsX2_hasGrant := fun _ h => List.mem_cons_of_mem _ (List.mem_append_left _ (List.mem_append_right _ h))
  have hi4 : ∀ w ∈ u_ws RX4 TX4 8, w ∈ wsX2_hasGrant := fun _ h => List.mem_cons_of_mem _ (List.mem_append_right _ h)
  have fl28 := hts (.fieldLink RX2 28 "CapStacks$Company" "grants" "LCapStacks$Grants;") (by decide +kernel)
  have fl86 := hts (.fieldLink RX2 86 "CapStacks$Grants" "size" "I") (by decide +kernel)
  have iniX9 := hts (.initialized RX9) (by decide +kernel)
  have st_X9_within := hts (.static yX9_within) (by decide +kernel)
  have nw82 : va_Nw (.methodLinkNest RX2 82 yX9_within "CapStacks") s := hK.2.1 (RX2, 82, yX9_within, "CapStacks") (List.mem_of_getElem? (i := 13) rfl)
  have hfin : ∀ (v : Int32) (pc : Nat) (ls : Array Slot), some v = some out → narrow .boolean (.int v) = .int v → decode cX2_hasGrant pc = .ok (.ireturn, 1) → W p l e (headSpec wsX2_hasGrant { frames := 1, cells := 0, slots := 0, locals := 22 }).room s m args below meth c s.heap [] 0 0 (MQ below (zQr .boolean out) args s 0 0 (fun _ => False)) (F0 m pc ls [.int v]) := by
    intro v pc ls he hn hd
    cases he
    exact W.zret hx hb hr hn (fun t ht hW => ⟨rfl, hn, ht⟩) (fun _ h => by cases h) hd
  generalize MQ below (zQr .boolean out) args s 0 0 (fun _ => False) = Q at hfin ⊢
  have hl := lv_entry ([.ref (kv 0), .int x1]) (n := 2) (Nat.le_of_ble_eq_true rfl)
  refine W.eq (g2 := F0 m 0 ((lg_sl ([.ref (kv 0), .int x1]) ++ List.replicate (2 - (lg_sl ([.ref (kv 0), .int x1])).length) Slot.unset).toArray) []) (by rw [ha]; exact lg_entry_eq _ _ _) ?_
  generalize (lg_sl ([.ref (kv 0), .int x1]) ++ List.replicate (2 - (lg_sl ([.ref (kv 0), .int x1])).length) Slot.unset).toArray = ls at hl ⊢
  have hl : lv_has ls 2 [(0, .ref (kv 0)), (1, .int x1)] := hl
  rw [f_X2_hasGrant] at h
  refine lv_iload_n hx hb dX2_hasGrant_0 rfl (lv_at hl 1 rfl) ?_
  refine lv_iconst (v := 0) hx hb dX2_hasGrant_1 (by decide) ?_
  refine lv_aload_n hx hb dX2_hasGrant_2 rfl (lv_at hl 0 rfl) ?_
  refine va_get (D := D) (ci := 2) (v := .ref (kv 3)) (C := RX2) (T := TX2) (N := 11) hx hb hts hi2 hown hK.1 hP 0 rfl rfl 2 (by decide) fl28 (fun _ h9 => h9) rfl dX2_hasGrant_3 ?_
  refine va_get (D := D) (ci := 4) (v := .int (bv 0 1)) (C := RX4) (T := TX4) (N := 8) hx hb hts hi4 hown hK.1 hP 12 rfl rfl 0 (by decide) fl86 (fun _ h9 => h9) rfl dX2_hasGrant_6 ?_
  refine lv_iconst (v := 1) hx hb dX2_hasGrant_9 (by decide) ?_
  refine lv_isub hx hb dX2_hasGrant_10 ?_
  obtain ⟨y1, gy1, h⟩ := zb_some h
  refine z_callr (va_runSN (As := [.int x1, .int 0, .int ((bv 0 1) - 1)]) (rest := []) ⟨hx, hb, hml, hown, hts⟩ (c_X9_within l D tt x1 0 ((bv 0 1) - 1) y1 gy1) ⟨va_cnB (host := "CapStacks") 3 hts gX2_hasGrant_X9_within_n82 rfl rfl rfl nw82 iniX9 (by decide +kernel) ⟨Nat.le_of_ble_eq_true rfl, Nat.le_of_ble_eq_true rfl⟩, st_X9_within, trivial⟩ (z_preSr hK (hP.sub (ws' := ([] : va_W)) [] rfl)) rfl rfl hl.1 rfl (lv_room (Nat.le_of_ble_eq_true rfl)) dX2_hasGrant_11 ⟨Nat.zero_le _, Nat.zero_le _⟩) (fun ny1 => ?_)
  exact hfin _ _ _ h ny1 dX2_hasGrant_14
set_option maxHeartbeats 4000000 in
set_option maxRecDepth 100000 in
theorem c_X2_vested (l : Launch) (D : va_G) (tt : Nat → ClassId) (kv : Nat → Nat) (bv : zV) (x1 : Int32) (out : Int32) (h : f_X2_vested bv x1 = some out) : Met l yX2_vested wsX2_vested { frames := 0, cells := 0, slots := 0, locals := 0 } (zPr [.ref (kv 0), .int x1] D tt (zw_co tt kv bv)) (zQr .int out) 0 0 (fun _ => False) := by
  refine Met.ofW (cc := cX2_vested) (maxL := 5) (ret := (some .int)) (by decide) rfl ?_
  intro p e s m args below meth c s₁ B hml hv
  obtain ⟨ha, hP, hK⟩ := hv
  have hx := B.exec
  have hb := B.bytes
  have hr := B.returns
  have hts := atoms_spec (ws := wsX2_vested) B.pre
  have hown : s.vm.findClass RX2 = some m.cls := findClass_of_methodNamed B.named
  have hlocks := B.notSynchronized
  have hi2 : ∀ w ∈ u_ws RX2 TX2 11, w ∈ wsX2_vested := fun _ h => List.mem_cons_of_mem _ (List.mem_append_left _ (List.mem_append_right _ h))
  have hi4 : ∀ w ∈ u_ws RX4 TX4 8, w ∈ wsX2_vested := fun _ h => List.mem_cons_of_mem _ (List.mem_append_right _ h)
  have fl132 := hts (.fieldLink RX2 132 "CapStacks$Grants" "holder" "[I") (by decide +kernel)
  have fl133 := hts (.fieldLink RX2 133 "CapStacks$Grants" "shares" "[I") (by decide +kernel)
  have fl137 := hts (.fieldLink RX2 137 "CapStacks$Grants" "cliff" "[I") (by decide +kernel)
  have fl140 := hts (.fieldLink RX2 140 "CapStacks$Grants" "term" "[I") (by decide +kernel)
  have fl143 := hts (.fieldLink RX2 143 "CapStacks$Grants" "made" "[I") (by decide +kernel)
  have fl28 := hts (.fieldLink RX2 28 "CapStacks$Company" "grants" "LCapStacks$Grants;") (by decide +kernel)
  have fl39 := hts (.fieldLink RX2 39 "CapStacks$Company" "leftAt" "[I") (by decide +kernel)
  have fl64 := hts (.fieldLink RX2 64 "CapStacks$Company" "time" "I") (by decide +kernel)
  have hfin : ∀ (v : Int32) (pc : Nat) (ls : Array Slot), some v = some out → narrow .int (.int v) = .int v → decode cX2_vested pc = .ok (.ireturn, 1) → W p l e (headSpec wsX2_vested { frames := 0, cells := 0, slots := 0, locals := 0 }).room s m args below meth c s.heap [] 0 0 (MQ below (zQr .int out) args s 0 0 (fun _ => False)) (F0 m pc ls [.int v]) := by
    intro v pc ls he hn hd
    cases he
    exact W.zret hx hb hr hn (fun t ht hW => ⟨rfl, hn, ht⟩) (fun _ h => by cases h) hd
  generalize MQ below (zQr .int out) args s 0 0 (fun _ => False) = Q at hfin ⊢
  have hl := lv_entry ([.ref (kv 0), .int x1]) (n := 5) (Nat.le_of_ble_eq_true rfl)
  refine W.eq (g2 := F0 m 0 ((lg_sl ([.ref (kv 0), .int x1]) ++ List.replicate (5 - (lg_sl ([.ref (kv 0), .int x1])).length) Slot.unset).toArray) []) (by rw [ha]; exact lg_entry_eq _ _ _) ?_
  generalize (lg_sl ([.ref (kv 0), .int x1]) ++ List.replicate (5 - (lg_sl ([.ref (kv 0), .int x1])).length) Slot.unset).toArray = ls at hl ⊢
  have hl : lv_has ls 5 [(0, .ref (kv 0)), (1, .int x1)] := hl
  rw [f_X2_vested] at h
  refine lv_aload_n hx hb dX2_vested_0 rfl (lv_at hl 0 rfl) ?_
  refine va_get (D := D) (ci := 2) (v := .ref (kv 23)) (C := RX2) (T := TX2) (N := 11) hx hb hts hi2 hown hK.1 hP 0 rfl rfl 5 (by decide) fl39 (fun _ h9 => h9) rfl dX2_vested_1 ?_
  refine lv_aload_n hx hb dX2_vested_4 rfl (lv_at hl 0 rfl) ?_
  refine va_get (D := D) (ci := 2) (v := .ref (kv 3)) (C := RX2) (T := TX2) (N := 11) hx hb hts hi2 hown hK.1 hP 0 rfl rfl 2 (by decide) fl28 (fun _ h9 => h9) rfl dX2_vested_5 ?_
  refine va_get (D := D) (ci := 4) (v := .ref (kv 14)) (C := RX4) (T := TX4) (N := 8) hx hb hts hi4 hown hK.1 hP 12 rfl rfl 1 (by decide) fl132 (fun _ h9 => h9) rfl dX2_vested_8 ?_
  refine lv_iload_n hx hb dX2_vested_11 rfl (lv_at hl 1 rfl) ?_
  obtain ⟨q1, h⟩ := zA_some h
  refine va_iald hx hb hK.1 hP 13 0 rfl rfl q1 dX2_vested_12 ?_
  obtain ⟨q2, h⟩ := zA_some h
  refine va_iald hx hb hK.1 hP 23 0 rfl rfl q2 dX2_vested_13 ?_
  refine lv_istore_n (lv' := [(2, .int ((bv 19) ((bv 10) x1.toNatClampNeg).toNatClampNeg)), (0, .ref (kv 0)), (1, .int x1)]) hx hb dX2_vested_14 rfl hl (by decide) rfl (fun ls hl => ?_)
  refine lv_iload_n hx hb dX2_vested_15 rfl (lv_at hl 0 rfl) ?_
  refine lv_iconst (v := (-1)) hx hb dX2_vested_16 (by decide) ?_
  refine lv_icmp_ne (tgt := 27) hx hb dX2_vested_17 (by decide) (fun k3 => ?_) (fun k3 => ?_)
  · replace h := z_neg k3 h
    refine lv_iload_n hx hb dX2_vested_27 rfl (lv_at hl 0 rfl) ?_
    refine lv_aload_n hx hb dX2_vested_28 rfl (lv_at hl 1 rfl) ?_
    refine va_get (D := D) (ci := 2) (v := .ref (kv 3)) (C := RX2) (T := TX2) (N := 11) hx hb hts hi2 hown hK.1 hP 0 rfl rfl 2 (by decide) fl28 (fun _ h9 => h9) rfl dX2_vested_29 ?_
    refine va_get (D := D) (ci := 4) (v := .ref (kv 19)) (C := RX4) (T := TX4) (N := 8) hx hb hts hi4 hown hK.1 hP 12 rfl rfl 6 (by decide) fl143 (fun _ h9 => h9) rfl dX2_vested_32 ?_
    refine lv_iload_n hx hb dX2_vested_35 rfl (lv_at hl 2 rfl) ?_
    refine va_iald hx hb hK.1 hP 18 0 rfl rfl q1 dX2_vested_36 ?_
    refine lv_isub hx hb dX2_vested_37 ?_
    refine lv_istore_n (lv' := [(3, .int (((bv 19) ((bv 10) x1.toNatClampNeg).toNatClampNeg) - ((bv 15) x1.toNatClampNeg))), (2, .int ((bv 19) ((bv 10) x1.toNatClampNeg).toNatClampNeg)), (0, .ref (kv 0)), (1, .int x1)]) hx hb dX2_vested_38 rfl hl (by decide) rfl (fun ls hl => ?_)
    refine lv_aload_n hx hb dX2_vested_39 rfl (lv_at hl 2 rfl) ?_
    refine va_get (D := D) (ci := 2) (v := .ref (kv 3)) (C := RX2) (T := TX2) (N := 11) hx hb hts hi2 hown hK.1 hP 0 rfl rfl 2 (by decide) fl28 (fun _ h9 => h9) rfl dX2_vested_40 ?_
    refine va_get (D := D) (ci := 4) (v := .ref (kv 18)) (C := RX4) (T := TX4) (N := 8) hx hb hts hi4 hown hK.1 hP 12 rfl rfl 5 (by decide) fl140 (fun _ h9 => h9) rfl dX2_vested_43 ?_
    refine lv_iload_n hx hb dX2_vested_46 rfl (lv_at hl 3 rfl) ?_
    refine va_iald hx hb hK.1 hP 17 0 rfl rfl q1 dX2_vested_47 ?_
    refine lv_istore (lv' := [(4, .int ((bv 14) x1.toNatClampNeg)), (3, .int (((bv 19) ((bv 10) x1.toNatClampNeg).toNatClampNeg) - ((bv 15) x1.toNatClampNeg))), (2, .int ((bv 19) ((bv 10) x1.toNatClampNeg).toNatClampNeg)), (0, .ref (kv 0)), (1, .int x1)]) hx hb dX2_vested_48 hl (by decide) rfl (fun ls hl => ?_)
    refine lv_iload_n hx hb dX2_vested_50 rfl (lv_at hl 1 rfl) ?_
    refine lv_aload_n hx hb dX2_vested_51 rfl (lv_at hl 3 rfl) ?_
    refine va_get (D := D) (ci := 2) (v := .ref (kv 3)) (C := RX2) (T := TX2) (N := 11) hx hb hts hi2 hown hK.1 hP 0 rfl rfl 2 (by decide) fl28 (fun _ h9 => h9) rfl dX2_vested_52 ?_
    refine va_get (D := D) (ci := 4) (v := .ref (kv 17)) (C := RX4) (T := TX4) (N := 8) hx hb hts hi4 hown hK.1 hP 12 rfl rfl 4 (by decide) fl137 (fun _ h9 => h9) rfl dX2_vested_55 ?_
    refine lv_iload_n hx hb dX2_vested_58 rfl (lv_at hl 4 rfl) ?_
    refine va_iald hx hb hK.1 hP 16 0 rfl rfl q1 dX2_vested_59 ?_
    refine lv_icmp_ge (tgt := 65) hx hb dX2_vested_60 (by decide) (fun k4 => ?_) (fun k4 => ?_)
    rotate_left
    · replace h := z_neg k4 h
      refine lv_iconst (v := 0) hx hb dX2_vested_63 (by decide) ?_
      exact hfin _ _ _ h rfl dX2_vested_64
    replace h := z_pos k4 h
    refine lv_iload hx hb dX2_vested_65 (lv_at hl 0 rfl) ?_
    refine lv_if_le (tgt := 76) hx hb dX2_vested_67 (by decide) (fun k5 => ?_) (fun k5 => ?_)
    · replace h := z_pos k5 h
      refine lv_aload_n hx hb dX2_vested_76 rfl (lv_at hl 3 rfl) ?_
      refine va_get (D := D) (ci := 2) (v := .ref (kv 3)) (C := RX2) (T := TX2) (N := 11) hx hb hts hi2 hown hK.1 hP 0 rfl rfl 2 (by decide) fl28 (fun _ h9 => h9) rfl dX2_vested_77 ?_
      refine va_get (D := D) (ci := 4) (v := .ref (kv 15)) (C := RX4) (T := TX4) (N := 8) hx hb hts hi4 hown hK.1 hP 12 rfl rfl 2 (by decide) fl133 (fun _ h9 => h9) rfl dX2_vested_80 ?_
      refine lv_iload_n hx hb dX2_vested_83 rfl (lv_at hl 4 rfl) ?_
      refine va_iald hx hb hK.1 hP 14 0 rfl rfl q1 dX2_vested_84 ?_
      exact hfin _ _ _ h rfl dX2_vested_85
    replace h := z_neg k5 h
    refine lv_iload_n hx hb dX2_vested_70 rfl (lv_at hl 1 rfl) ?_
    refine lv_iload hx hb dX2_vested_71 (lv_at hl 0 rfl) ?_
    refine lv_icmp_lt (tgt := 86) hx hb dX2_vested_73 (by decide) (fun k6 => ?_) (fun k6 => ?_)
    rotate_left
    · replace h := z_neg k6 h
      refine lv_aload_n hx hb dX2_vested_76 rfl (lv_at hl 3 rfl) ?_
      refine va_get (D := D) (ci := 2) (v := .ref (kv 3)) (C := RX2) (T := TX2) (N := 11) hx hb hts hi2 hown hK.1 hP 0 rfl rfl 2 (by decide) fl28 (fun _ h9 => h9) rfl dX2_vested_77 ?_
      refine va_get (D := D) (ci := 4) (v := .ref (kv 15)) (C := RX4) (T := TX4) (N := 8) hx hb hts hi4 hown hK.1 hP 12 rfl rfl 2 (by decide) fl133 (fun _ h9 => h9) rfl dX2_vested_80 ?_
      refine lv_iload_n hx hb dX2_vested_83 rfl (lv_at hl 4 rfl) ?_
      refine va_iald hx hb hK.1 hP 14 0 rfl rfl q1 dX2_vested_84 ?_
      exact hfin _ _ _ h rfl dX2_vested_85
    replace h := z_pos k6 h
    refine lv_aload_n hx hb dX2_vested_86 rfl (lv_at hl 3 rfl) ?_
    refine va_get (D := D) (ci := 2) (v := .ref (kv 3)) (C := RX2) (T := TX2) (N := 11) hx hb hts hi2 hown hK.1 hP 0 rfl rfl 2 (by decide) fl28 (fun _ h9 => h9) rfl dX2_vested_87 ?_
    refine va_get (D := D) (ci := 4) (v := .ref (kv 15)) (C := RX4) (T := TX4) (N := 8) hx hb hts hi4 hown hK.1 hP 12 rfl rfl 2 (by decide) fl133 (fun _ h9 => h9) rfl dX2_vested_90 ?_
    refine lv_iload_n hx hb dX2_vested_93 rfl (lv_at hl 4 rfl) ?_
    refine va_iald hx hb hK.1 hP 14 0 rfl rfl q1 dX2_vested_94 ?_
    refine lv_iload_n hx hb dX2_vested_95 rfl (lv_at hl 1 rfl) ?_
    refine lv_imul hx hb dX2_vested_96 ?_
    refine lv_iload hx hb dX2_vested_97 (lv_at hl 0 rfl) ?_
    obtain ⟨q7, h⟩ := zDi_some h
    refine lv_idiv hx hb dX2_vested_99 q7 ?_
    exact hfin _ _ _ h rfl dX2_vested_100
  replace h := z_pos k3 h
  refine lv_aload_n hx hb dX2_vested_20 rfl (lv_at hl 1 rfl) ?_
  refine va_get (D := D) (ci := 2) (v := .int (bv 0 7)) (C := RX2) (T := TX2) (N := 11) hx hb hts hi2 hown hK.1 hP 0 rfl rfl 6 (by decide) fl64 (fun _ h9 => h9) rfl dX2_vested_21 ?_
  refine lv_goto (tgt := 28) hx hb dX2_vested_24 (by decide) ?_
  refine lv_aload_n hx hb dX2_vested_28 rfl (lv_at hl 1 rfl) ?_
  refine va_get (D := D) (ci := 2) (v := .ref (kv 3)) (C := RX2) (T := TX2) (N := 11) hx hb hts hi2 hown hK.1 hP 0 rfl rfl 2 (by decide) fl28 (fun _ h9 => h9) rfl dX2_vested_29 ?_
  refine va_get (D := D) (ci := 4) (v := .ref (kv 19)) (C := RX4) (T := TX4) (N := 8) hx hb hts hi4 hown hK.1 hP 12 rfl rfl 6 (by decide) fl143 (fun _ h9 => h9) rfl dX2_vested_32 ?_
  refine lv_iload_n hx hb dX2_vested_35 rfl (lv_at hl 2 rfl) ?_
  refine va_iald hx hb hK.1 hP 18 0 rfl rfl q1 dX2_vested_36 ?_
  refine lv_isub hx hb dX2_vested_37 ?_
  refine lv_istore_n (lv' := [(3, .int ((bv 0 7) - ((bv 15) x1.toNatClampNeg))), (2, .int ((bv 19) ((bv 10) x1.toNatClampNeg).toNatClampNeg)), (0, .ref (kv 0)), (1, .int x1)]) hx hb dX2_vested_38 rfl hl (by decide) rfl (fun ls hl => ?_)
  refine lv_aload_n hx hb dX2_vested_39 rfl (lv_at hl 2 rfl) ?_
  refine va_get (D := D) (ci := 2) (v := .ref (kv 3)) (C := RX2) (T := TX2) (N := 11) hx hb hts hi2 hown hK.1 hP 0 rfl rfl 2 (by decide) fl28 (fun _ h9 => h9) rfl dX2_vested_40 ?_
  refine va_get (D := D) (ci := 4) (v := .ref (kv 18)) (C := RX4) (T := TX4) (N := 8) hx hb hts hi4 hown hK.1 hP 12 rfl rfl 5 (by decide) fl140 (fun _ h9 => h9) rfl dX2_vested_43 ?_
  refine lv_iload_n hx hb dX2_vested_46 rfl (lv_at hl 3 rfl) ?_
  refine va_iald hx hb hK.1 hP 17 0 rfl rfl q1 dX2_vested_47 ?_
  refine lv_istore (lv' := [(4, .int ((bv 14) x1.toNatClampNeg)), (3, .int ((bv 0 7) - ((bv 15) x1.toNatClampNeg))), (2, .int ((bv 19) ((bv 10) x1.toNatClampNeg).toNatClampNeg)), (0, .ref (kv 0)), (1, .int x1)]) hx hb dX2_vested_48 hl (by decide) rfl (fun ls hl => ?_)
  refine lv_iload_n hx hb dX2_vested_50 rfl (lv_at hl 1 rfl) ?_
  refine lv_aload_n hx hb dX2_vested_51 rfl (lv_at hl 3 rfl) ?_
  refine va_get (D := D) (ci := 2) (v := .ref (kv 3)) (C := RX2) (T := TX2) (N := 11) hx hb hts hi2 hown hK.1 hP 0 rfl rfl 2 (by decide) fl28 (fun _ h9 => h9) rfl dX2_vested_52 ?_
  refine va_get (D := D) (ci := 4) (v := .ref (kv 17)) (C := RX4) (T := TX4) (N := 8) hx hb hts hi4 hown hK.1 hP 12 rfl rfl 4 (by decide) fl137 (fun _ h9 => h9) rfl dX2_vested_55 ?_
  refine lv_iload_n hx hb dX2_vested_58 rfl (lv_at hl 4 rfl) ?_
  refine va_iald hx hb hK.1 hP 16 0 rfl rfl q1 dX2_vested_59 ?_
  refine lv_icmp_ge (tgt := 65) hx hb dX2_vested_60 (by decide) (fun k8 => ?_) (fun k8 => ?_)
  rotate_left
  · replace h := z_neg k8 h
    refine lv_iconst (v := 0) hx hb dX2_vested_63 (by decide) ?_
    exact hfin _ _ _ h rfl dX2_vested_64
  replace h := z_pos k8 h
  refine lv_iload hx hb dX2_vested_65 (lv_at hl 0 rfl) ?_
  refine lv_if_le (tgt := 76) hx hb dX2_vested_67 (by decide) (fun k9 => ?_) (fun k9 => ?_)
  · replace h := z_pos k9 h
    refine lv_aload_n hx hb dX2_vested_76 rfl (lv_at hl 3 rfl) ?_
    refine va_get (D := D) (ci := 2) (v := .ref (kv 3)) (C := RX2) (T := TX2) (N := 11) hx hb hts hi2 hown hK.1 hP 0 rfl rfl 2 (by decide) fl28 (fun _ h9 => h9) rfl dX2_vested_77 ?_
    refine va_get (D := D) (ci := 4) (v := .ref (kv 15)) (C := RX4) (T := TX4) (N := 8) hx hb hts hi4 hown hK.1 hP 12 rfl rfl 2 (by decide) fl133 (fun _ h9 => h9) rfl dX2_vested_80 ?_
    refine lv_iload_n hx hb dX2_vested_83 rfl (lv_at hl 4 rfl) ?_
    refine va_iald hx hb hK.1 hP 14 0 rfl rfl q1 dX2_vested_84 ?_
    exact hfin _ _ _ h rfl dX2_vested_85
  replace h := z_neg k9 h
  refine lv_iload_n hx hb dX2_vested_70 rfl (lv_at hl 1 rfl) ?_
  refine lv_iload hx hb dX2_vested_71 (lv_at hl 0 rfl) ?_
  refine lv_icmp_lt (tgt := 86) hx hb dX2_vested_73 (by decide) (fun k10 => ?_) (fun k10 => ?_)
  rotate_left
  · replace h := z_neg k10 h
    refine lv_aload_n hx hb dX2_vested_76 rfl (lv_at hl 3 rfl) ?_
    refine va_get (D := D) (ci := 2) (v := .ref (kv 3)) (C := RX2) (T := TX2) (N := 11) hx hb hts hi2 hown hK.1 hP 0 rfl rfl 2 (by decide) fl28 (fun _ h9 => h9) rfl dX2_vested_77 ?_
    refine va_get (D := D) (ci := 4) (v := .ref (kv 15)) (C := RX4) (T := TX4) (N := 8) hx hb hts hi4 hown hK.1 hP 12 rfl rfl 2 (by decide) fl133 (fun _ h9 => h9) rfl dX2_vested_80 ?_
    refine lv_iload_n hx hb dX2_vested_83 rfl (lv_at hl 4 rfl) ?_
    refine va_iald hx hb hK.1 hP 14 0 rfl rfl q1 dX2_vested_84 ?_
    exact hfin _ _ _ h rfl dX2_vested_85
  replace h := z_pos k10 h
  refine lv_aload_n hx hb dX2_vested_86 rfl (lv_at hl 3 rfl) ?_
  refine va_get (D := D) (ci := 2) (v := .ref (kv 3)) (C := RX2) (T := TX2) (N := 11) hx hb hts hi2 hown hK.1 hP 0 rfl rfl 2 (by decide) fl28 (fun _ h9 => h9) rfl dX2_vested_87 ?_
  refine va_get (D := D) (ci := 4) (v := .ref (kv 15)) (C := RX4) (T := TX4) (N := 8) hx hb hts hi4 hown hK.1 hP 12 rfl rfl 2 (by decide) fl133 (fun _ h9 => h9) rfl dX2_vested_90 ?_
  refine lv_iload_n hx hb dX2_vested_93 rfl (lv_at hl 4 rfl) ?_
  refine va_iald hx hb hK.1 hP 14 0 rfl rfl q1 dX2_vested_94 ?_
  refine lv_iload_n hx hb dX2_vested_95 rfl (lv_at hl 1 rfl) ?_
  refine lv_imul hx hb dX2_vested_96 ?_
  refine lv_iload hx hb dX2_vested_97 (lv_at hl 0 rfl) ?_
  obtain ⟨q11, h⟩ := zDi_some h
  refine lv_idiv hx hb dX2_vested_99 q11 ?_
  exact hfin _ _ _ h rfl dX2_vested_100
set_option maxHeartbeats 4000000 in
set_option maxRecDepth 100000 in
theorem c_X2_takeable (l : Launch) (D : va_G) (tt : Nat → ClassId) (kv : Nat → Nat) (bv : zV) (x1 : Int32) (out : Int32) (h : f_X2_takeable bv x1 = some out) : Met l yX2_takeable wsX2_takeable { frames := 1, cells := 0, slots := 0, locals := 24 } (zPr [.ref (kv 0), .int x1] D tt (zw_co tt kv bv)) (zQr .int out) 0 0 (fun _ => False) := by
  refine Met.ofW (cc := cX2_takeable) (maxL := 3) (ret := (some .int)) (by decide) rfl ?_
  intro p e s m args below meth c s₁ B hml hv
  obtain ⟨ha, hP, hK⟩ := hv
  have hx := B.exec
  have hb := B.bytes
  have hr := B.returns
  have hts := atoms_spec (ws := wsX2_takeable) B.pre
  have hown : s.vm.findClass RX2 = some m.cls := findClass_of_methodNamed B.named
  have hlocks := B.notSynchronized
  have hi2 : ∀ w ∈ u_ws RX2 TX2 11, w ∈ wsX2_takeable := fun _ h => List.mem_cons_of_mem _ (List.mem_append_left _ (List.mem_append_right _ h))
  have hi4 : ∀ w ∈ u_ws RX4 TX4 8, w ∈ wsX2_takeable := fun _ h => List.mem_cons_of_mem _ (List.mem_append_right _ h)
  have fl132 := hts (.fieldLink RX2 132 "CapStacks$Grants" "holder" "[I") (by decide +kernel)
  have fl146 := hts (.fieldLink RX2 146 "CapStacks$Grants" "taken" "[I") (by decide +kernel)
  have fl28 := hts (.fieldLink RX2 28 "CapStacks$Company" "grants" "LCapStacks$Grants;") (by decide +kernel)
  have fl39 := hts (.fieldLink RX2 39 "CapStacks$Company" "leftAt" "[I") (by decide +kernel)
  have fl64 := hts (.fieldLink RX2 64 "CapStacks$Company" "time" "I") (by decide +kernel)
  have hfin : ∀ (v : Int32) (pc : Nat) (ls : Array Slot), some v = some out → narrow .int (.int v) = .int v → decode cX2_takeable pc = .ok (.ireturn, 1) → W p l e (headSpec wsX2_takeable { frames := 1, cells := 0, slots := 0, locals := 24 }).room s m args below meth c s.heap [] 0 0 (MQ below (zQr .int out) args s 0 0 (fun _ => False)) (F0 m pc ls [.int v]) := by
    intro v pc ls he hn hd
    cases he
    exact W.zret hx hb hr hn (fun t ht hW => ⟨rfl, hn, ht⟩) (fun _ h => by cases h) hd
  generalize MQ below (zQr .int out) args s 0 0 (fun _ => False) = Q at hfin ⊢
  have b32 : ∀ (x1 : Int32) (ls : Array Slot), lv_has ls 3 [(0, .ref (kv 0)), (1, .int x1)] → f_X2_takeable_b32 bv x1 = some out → W p l e (headSpec wsX2_takeable { frames := 1, cells := 0, slots := 0, locals := 24 }).room s m args below meth c s.heap [] 0 0 Q (F0 m 32 ls []) := by
    intro x1 ls hl h
    rw [f_X2_takeable_b32] at h
    refine lv_aload_n hx hb dX2_takeable_32 rfl (lv_at hl 0 rfl) ?_
    refine lv_iload_n hx hb dX2_takeable_33 rfl (lv_at hl 1 rfl) ?_
    obtain ⟨y1, gy1, h⟩ := zb_some h
    refine z_callr (va_runV (As := [.int x1]) (rest := []) ⟨hx, hb, hml, hown, hts⟩ (c_X2_vested l D tt kv bv x1 y1 gy1) (cwV 1 hts gX2_takeable_X2_vested rfl rfl rfl (by decide +kernel) ⟨Nat.le_of_ble_eq_true rfl, Nat.le_of_ble_eq_true rfl⟩) (z_preVr hK hP (ci := 2) (q0 := 0) rfl rfl) rfl rfl hl.1 rfl (lv_room (Nat.le_of_ble_eq_true rfl)) dX2_takeable_34 ⟨Nat.zero_le _, Nat.zero_le _⟩) (fun ny1 => ?_)
    refine lv_aload_n hx hb dX2_takeable_37 rfl (lv_at hl 0 rfl) ?_
    refine va_get (D := D) (ci := 2) (v := .ref (kv 3)) (C := RX2) (T := TX2) (N := 11) hx hb hts hi2 hown hK.1 hP 0 rfl rfl 2 (by decide) fl28 (fun _ h9 => h9) rfl dX2_takeable_38 ?_
    refine va_get (D := D) (ci := 4) (v := .ref (kv 20)) (C := RX4) (T := TX4) (N := 8) hx hb hts hi4 hown hK.1 hP 12 rfl rfl 7 (by decide) fl146 (fun _ h9 => h9) rfl dX2_takeable_41 ?_
    refine lv_iload_n hx hb dX2_takeable_44 rfl (lv_at hl 1 rfl) ?_
    obtain ⟨q2, h⟩ := zA_some h
    refine va_iald hx hb hK.1 hP 19 0 rfl rfl q2 dX2_takeable_45 ?_
    refine lv_isub hx hb dX2_takeable_46 ?_
    exact hfin _ _ _ h rfl dX2_takeable_47
  have hl := lv_entry ([.ref (kv 0), .int x1]) (n := 3) (Nat.le_of_ble_eq_true rfl)
  refine W.eq (g2 := F0 m 0 ((lg_sl ([.ref (kv 0), .int x1]) ++ List.replicate (3 - (lg_sl ([.ref (kv 0), .int x1])).length) Slot.unset).toArray) []) (by rw [ha]; exact lg_entry_eq _ _ _) ?_
  generalize (lg_sl ([.ref (kv 0), .int x1]) ++ List.replicate (3 - (lg_sl ([.ref (kv 0), .int x1])).length) Slot.unset).toArray = ls at hl ⊢
  have hl : lv_has ls 3 [(0, .ref (kv 0)), (1, .int x1)] := hl
  rw [f_X2_takeable] at h
  refine lv_aload_n hx hb dX2_takeable_0 rfl (lv_at hl 0 rfl) ?_
  refine va_get (D := D) (ci := 2) (v := .ref (kv 23)) (C := RX2) (T := TX2) (N := 11) hx hb hts hi2 hown hK.1 hP 0 rfl rfl 5 (by decide) fl39 (fun _ h9 => h9) rfl dX2_takeable_1 ?_
  refine lv_aload_n hx hb dX2_takeable_4 rfl (lv_at hl 0 rfl) ?_
  refine va_get (D := D) (ci := 2) (v := .ref (kv 3)) (C := RX2) (T := TX2) (N := 11) hx hb hts hi2 hown hK.1 hP 0 rfl rfl 2 (by decide) fl28 (fun _ h9 => h9) rfl dX2_takeable_5 ?_
  refine va_get (D := D) (ci := 4) (v := .ref (kv 14)) (C := RX4) (T := TX4) (N := 8) hx hb hts hi4 hown hK.1 hP 12 rfl rfl 1 (by decide) fl132 (fun _ h9 => h9) rfl dX2_takeable_8 ?_
  refine lv_iload_n hx hb dX2_takeable_11 rfl (lv_at hl 1 rfl) ?_
  obtain ⟨q3, h⟩ := zA_some h
  refine va_iald hx hb hK.1 hP 13 0 rfl rfl q3 dX2_takeable_12 ?_
  obtain ⟨q4, h⟩ := zA_some h
  refine va_iald hx hb hK.1 hP 23 0 rfl rfl q4 dX2_takeable_13 ?_
  refine lv_istore_n (lv' := [(2, .int ((bv 19) ((bv 10) x1.toNatClampNeg).toNatClampNeg)), (0, .ref (kv 0)), (1, .int x1)]) hx hb dX2_takeable_14 rfl hl (by decide) rfl (fun ls hl => ?_)
  refine lv_iload_n hx hb dX2_takeable_15 rfl (lv_at hl 0 rfl) ?_
  refine lv_iconst (v := (-1)) hx hb dX2_takeable_16 (by decide) ?_
  refine lv_icmp_eq (tgt := 32) hx hb dX2_takeable_17 (by decide) (fun k5 => ?_) (fun k5 => ?_)
  · replace h := z_pos k5 h
    exact b32 x1 _ (lv_sub hl [1, 2] rfl) h
  replace h := z_neg k5 h
  refine lv_aload_n hx hb dX2_takeable_20 rfl (lv_at hl 1 rfl) ?_
  refine va_get (D := D) (ci := 2) (v := .int (bv 0 7)) (C := RX2) (T := TX2) (N := 11) hx hb hts hi2 hown hK.1 hP 0 rfl rfl 6 (by decide) fl64 (fun _ h9 => h9) rfl dX2_takeable_21 ?_
  refine lv_iload_n hx hb dX2_takeable_24 rfl (lv_at hl 0 rfl) ?_
  refine lv_isub hx hb dX2_takeable_25 ?_
  refine lv_iconst (v := 3) hx hb dX2_takeable_26 (by decide) ?_
  refine lv_icmp_le (tgt := 32) hx hb dX2_takeable_27 (by decide) (fun k6 => ?_) (fun k6 => ?_)
  · replace h := z_pos k6 h
    exact b32 x1 _ (lv_sub hl [1, 2] rfl) h
  replace h := z_neg k6 h
  refine lv_iconst (v := 0) hx hb dX2_takeable_30 (by decide) ?_
  exact hfin _ _ _ h rfl dX2_takeable_31
set_option maxHeartbeats 4000000 in
set_option maxRecDepth 100000 in
theorem c_X2_takeOptions (l : Launch) (D : va_G) (tt : Nat → ClassId) (kv : Nat → Nat) (sz : Nat) (bv : zV) (x1 : Int32) (x2 : Int32) (out : Int32 × zV) (h : f_X2_takeOptions bv x1 x2 = some out) : Met l yX2_takeOptions wsX2_takeOptions { frames := 2, cells := 0, slots := 0, locals := 46 } (zPm [.ref (kv 0), .int x1, .int x2] D tt (zw_co tt kv bv) sz) (zMi .int out.1 D (zw_co tt kv out.2) (va_A (zw_co tt kv bv) sz)) 0 0 (va_A (zw_co tt kv bv) sz) := by
  refine Met.ofW (cc := cX2_takeOptions) (maxL := 4) (ret := (some .int)) (by decide) rfl ?_
  intro p e s m args below meth c s₁ B hml hv
  obtain ⟨ha, hsz, hP, hK, hD0⟩ := hv
  have hx := B.exec
  have hb := B.bytes
  have hr := B.returns
  have hts := atoms_spec (ws := wsX2_takeOptions) B.pre
  have hown : s.vm.findClass RX2 = some m.cls := findClass_of_methodNamed B.named
  have hlocks := B.notSynchronized
  have hi2 : ∀ w ∈ u_ws RX2 TX2 11, w ∈ wsX2_takeOptions := fun _ h => List.mem_cons_of_mem _ (List.mem_append_left _ (List.mem_append_left _ (List.mem_append_left _ (List.mem_append_right _ h))))
  have hi4 : ∀ w ∈ u_ws RX4 TX4 8, w ∈ wsX2_takeOptions := fun _ h => List.mem_cons_of_mem _ (List.mem_append_left _ (List.mem_append_right _ h))
  have hi7 : ∀ w ∈ u_ws RX7 TX7 6, w ∈ wsX2_takeOptions := fun _ h => List.mem_cons_of_mem _ (List.mem_append_left _ (List.mem_append_left _ (List.mem_append_right _ h)))
  have fl109 := hts (.fieldLink RX2 109 "CapStacks$Round" "on" "Z") (by decide +kernel)
  have fl132 := hts (.fieldLink RX2 132 "CapStacks$Grants" "holder" "[I") (by decide +kernel)
  have fl134 := hts (.fieldLink RX2 134 "CapStacks$Grants" "strike" "[I") (by decide +kernel)
  have fl146 := hts (.fieldLink RX2 146 "CapStacks$Grants" "taken" "[I") (by decide +kernel)
  have fl21 := hts (.fieldLink RX2 21 "CapStacks$Company" "certificates" "LCapStacks$Certificates;") (by decide +kernel)
  have fl28 := hts (.fieldLink RX2 28 "CapStacks$Company" "grants" "LCapStacks$Grants;") (by decide +kernel)
  have fl35 := hts (.fieldLink RX2 35 "CapStacks$Company" "round" "LCapStacks$Round;") (by decide +kernel)
  have fl64 := hts (.fieldLink RX2 64 "CapStacks$Company" "time" "I") (by decide +kernel)
  have fl67 := hts (.fieldLink RX2 67 "CapStacks$Company" "sharesIssued" "I") (by decide +kernel)
  have fl73 := hts (.fieldLink RX2 73 "CapStacks$Company" "optionMoney" "I") (by decide +kernel)
  have iniX9 := hts (.initialized RX9) (by decide +kernel)
  have st_X9_within := hts (.static yX9_within) (by decide +kernel)
  have nw82 : va_Nw (.methodLinkNest RX2 82 yX9_within "CapStacks") s := hK.2.1 (RX2, 82, yX9_within, "CapStacks") (List.mem_of_getElem? (i := 13) rfl)
  subst hsz
  have hD := hD0.self (sz := s.heap.size)
  generalize hAe : va_A (zw_co tt kv bv) s.heap.size = A at hD ⊢
  have hA : ∀ q : Nat, s.heap.size ≤ q → A q := fun q h => by rw [← hAe]; exact Or.inr h
  have hS : va_S A s.heap s.heap [] := va_S.rf
  have hfin : ∀ (v : Int32) (bv : zV) (pc : Nat) (ls : Array Slot) (H : Heap) (locs : List Loc), some (v, bv) = some out → narrow .int (.int v) = .int v → va_P D vwCl (zw_co tt kv bv) H → va_D A (zw_co tt kv bv) → va_S A s.heap H locs → decode cX2_takeOptions pc = .ok (.ireturn, 1) → W p l e (headSpec wsX2_takeOptions { frames := 2, cells := 0, slots := 0, locals := 46 }).room s m args below meth c H locs 0 0 (MQ below (zMi .int out.1 D (zw_co tt kv out.2) A) args s 0 0 A) (F0 m pc ls [.int v]) := by
    intro v bv pc ls H locs he hn hP hD hS hd
    cases he
    exact W.zret hx hb hr hn (fun t ht hW => ⟨⟨_, (), rfl, ⟨rfl, hn⟩, by rw [ht]; exact hP, hD⟩, hS.F ht⟩) hS.2.2 hd
  generalize MQ below (zMi .int out.1 D (zw_co tt kv out.2) A) args s 0 0 A = Q at hfin ⊢
  have hl := lv_entry ([.ref (kv 0), .int x1, .int x2]) (n := 4) (Nat.le_of_ble_eq_true rfl)
  refine W.eq (g2 := F0 m 0 ((lg_sl ([.ref (kv 0), .int x1, .int x2]) ++ List.replicate (4 - (lg_sl ([.ref (kv 0), .int x1, .int x2])).length) Slot.unset).toArray) []) (by rw [ha]; exact lg_entry_eq _ _ _) ?_
  generalize (lg_sl ([.ref (kv 0), .int x1, .int x2]) ++ List.replicate (4 - (lg_sl ([.ref (kv 0), .int x1, .int x2])).length) Slot.unset).toArray = ls at hl ⊢
  have hl : lv_has ls 4 [(0, .ref (kv 0)), (1, .int x1), (2, .int x2)] := hl
  rw [f_X2_takeOptions] at h
  refine lv_aload_n hx hb dX2_takeOptions_0 rfl (lv_at hl 0 rfl) ?_
  refine lv_iload_n hx hb dX2_takeOptions_1 rfl (lv_at hl 1 rfl) ?_
  obtain ⟨y1, gy1, h⟩ := zb_some h
  refine z_callr (va_runV (As := [.int x1]) (rest := []) ⟨hx, hb, hml, hown, hts⟩ (c_X2_hasGrant l D tt kv bv x1 y1 gy1) (cwV 1 hts gX2_takeOptions_X2_hasGrant rfl rfl rfl (by decide +kernel) ⟨Nat.le_of_ble_eq_true rfl, Nat.le_of_ble_eq_true rfl⟩) (z_preVr hK hP (ci := 2) (q0 := 0) rfl rfl) rfl rfl hl.1 rfl (lv_room (Nat.le_of_ble_eq_true rfl)) dX2_takeOptions_2 ⟨Nat.zero_le _, Nat.zero_le _⟩) (fun ny1 => ?_)
  refine lv_if_eq (tgt := 19) hx hb dX2_takeOptions_5 (by decide) (fun k2 => ?_) (fun k2 => ?_)
  · replace h := z_pos k2 h
    refine lv_iconst (v := (-1)) hx hb dX2_takeOptions_19 (by decide) ?_
    exact hfin _ _ _ _ _ _ h rfl hP hD hS dX2_takeOptions_20
  replace h := z_neg k2 h
  refine lv_iload_n hx hb dX2_takeOptions_8 rfl (lv_at hl 2 rfl) ?_
  refine lv_iconst (v := 1) hx hb dX2_takeOptions_9 (by decide) ?_
  refine lv_sipush (v := 9999) hx hb dX2_takeOptions_10 (by decide) ?_
  obtain ⟨y3, gy3, h⟩ := zb_some h
  refine z_callr (va_runSN (As := [.int x2, .int 1, .int 9999]) (rest := []) ⟨hx, hb, hml, hown, hts⟩ (c_X9_within l D tt x2 1 9999 y3 gy3) ⟨va_cnB (host := "CapStacks") 3 hts gX2_takeOptions_X9_within_n82 rfl rfl rfl nw82 iniX9 (by decide +kernel) ⟨Nat.le_of_ble_eq_true rfl, Nat.le_of_ble_eq_true rfl⟩, st_X9_within, trivial⟩ (z_preSr hK (hP.sub (ws' := ([] : va_W)) [] rfl)) rfl rfl hl.1 rfl (lv_room (Nat.le_of_ble_eq_true rfl)) dX2_takeOptions_13 ⟨Nat.zero_le _, Nat.zero_le _⟩) (fun ny3 => ?_)
  refine lv_if_ne (tgt := 21) hx hb dX2_takeOptions_16 (by decide) (fun k4 => ?_) (fun k4 => ?_)
  rotate_left
  · replace h := z_pos k4 h
    refine lv_iconst (v := (-1)) hx hb dX2_takeOptions_19 (by decide) ?_
    exact hfin _ _ _ _ _ _ h rfl hP hD hS dX2_takeOptions_20
  replace h := z_neg k4 h
  refine lv_aload_n hx hb dX2_takeOptions_21 rfl (lv_at hl 0 rfl) ?_
  refine va_get (D := D) (ci := 2) (v := .ref (kv 4)) (C := RX2) (T := TX2) (N := 11) hx hb hts hi2 hown hK.1 hP 0 rfl rfl 3 (by decide) fl35 (fun _ h9 => h9) rfl dX2_takeOptions_22 ?_
  refine va_get (D := D) (ci := 7) (v := .int (bv 0 2)) (C := RX7) (T := TX7) (N := 6) hx hb hts hi7 hown hK.1 hP 20 rfl rfl 0 (by decide) fl109 (fun _ h9 => h9) rfl dX2_takeOptions_25 ?_
  refine lv_if_ne (tgt := 40) hx hb dX2_takeOptions_28 (by decide) (fun k5 => ?_) (fun k5 => ?_)
  · replace h := z_neg k5 h
    refine lv_bipush (v := (-2)) hx hb dX2_takeOptions_40 (by decide) ?_
    exact hfin _ _ _ _ _ _ h rfl hP hD hS dX2_takeOptions_42
  replace h := z_pos k5 h
  refine lv_aload_n hx hb dX2_takeOptions_31 rfl (lv_at hl 0 rfl) ?_
  refine lv_iload_n hx hb dX2_takeOptions_32 rfl (lv_at hl 1 rfl) ?_
  obtain ⟨y6, gy6, h⟩ := zb_some h
  refine z_callr (va_runV (As := [.int x1]) (rest := []) ⟨hx, hb, hml, hown, hts⟩ (c_X2_takeable l D tt kv bv x1 y6 gy6) (cwV 1 hts gX2_takeOptions_X2_takeable rfl rfl rfl (by decide +kernel) ⟨Nat.le_of_ble_eq_true rfl, Nat.le_of_ble_eq_true rfl⟩) (z_preVr hK hP (ci := 2) (q0 := 0) rfl rfl) rfl rfl hl.1 rfl (lv_room (Nat.le_of_ble_eq_true rfl)) dX2_takeOptions_33 ⟨Nat.zero_le _, Nat.zero_le _⟩) (fun ny6 => ?_)
  refine lv_iload_n hx hb dX2_takeOptions_36 rfl (lv_at hl 2 rfl) ?_
  refine lv_icmp_ge (tgt := 43) hx hb dX2_takeOptions_37 (by decide) (fun k7 => ?_) (fun k7 => ?_)
  rotate_left
  · replace h := z_neg k7 h
    refine lv_bipush (v := (-2)) hx hb dX2_takeOptions_40 (by decide) ?_
    exact hfin _ _ _ _ _ _ h rfl hP hD hS dX2_takeOptions_42
  replace h := z_pos k7 h
  refine lv_aload_n hx hb dX2_takeOptions_43 rfl (lv_at hl 0 rfl) ?_
  refine va_get (D := D) (ci := 2) (v := .ref (kv 2)) (C := RX2) (T := TX2) (N := 11) hx hb hts hi2 hown hK.1 hP 0 rfl rfl 1 (by decide) fl21 (fun _ h9 => h9) rfl dX2_takeOptions_44 ?_
  obtain ⟨y8, gy8, h⟩ := zb_some h
  have hpm : List.Perm (zw_c0 tt kv bv ++ (zw_cl tt kv bv ++ (zw_ce tt kv bv ++ (zw_gr tt kv bv ++ (zw_ro tt kv bv ++ (zw_la tt kv bv)))))) ((zw_ce tt kv bv) ++ (zw_c0 tt kv bv ++ zw_cl tt kv bv ++ zw_gr tt kv bv ++ zw_ro tt kv bv ++ zw_la tt kv bv)) := z_pm (fun _ x => by simp only [List.count_append, List.count_nil] <;> omega)
  refine z_callr (va_runV (As := []) (rest := []) ⟨hx, hb, hml, hown, hts⟩ (c_X0_size l D tt kv bv y8 gy8) (cwV 0 hts gX2_takeOptions_X0_size rfl rfl rfl (by decide +kernel) ⟨Nat.le_of_ble_eq_true rfl, Nat.le_of_ble_eq_true rfl⟩) (z_preVr hK (z_takeP hpm hP) (ci := 0) (q0 := 0) rfl rfl) rfl rfl hl.1 rfl (lv_room (Nat.le_of_ble_eq_true rfl)) dX2_takeOptions_47 ⟨Nat.zero_le _, Nat.zero_le _⟩) (fun ny8 => ?_)
  refine lv_bipush (v := 24) hx hb dX2_takeOptions_50 (by decide) ?_
  refine lv_icmp_lt (tgt := 58) hx hb dX2_takeOptions_52 (by decide) (fun k9 => ?_) (fun k9 => ?_)
  rotate_left
  · replace h := z_neg k9 h
    refine lv_bipush (v := (-3)) hx hb dX2_takeOptions_55 (by decide) ?_
    exact hfin _ _ _ _ _ _ h rfl hP hD hS dX2_takeOptions_57
  replace h := z_pos k9 h
  refine lv_iload_n hx hb dX2_takeOptions_58 rfl (lv_at hl 2 rfl) ?_
  refine lv_aload_n hx hb dX2_takeOptions_59 rfl (lv_at hl 0 rfl) ?_
  refine va_get (D := D) (ci := 2) (v := .ref (kv 3)) (C := RX2) (T := TX2) (N := 11) hx hb hts hi2 hown hK.1 hP 0 rfl rfl 2 (by decide) fl28 (fun _ h9 => h9) rfl dX2_takeOptions_60 ?_
  refine va_get (D := D) (ci := 4) (v := .ref (kv 16)) (C := RX4) (T := TX4) (N := 8) hx hb hts hi4 hown hK.1 hP 12 rfl rfl 3 (by decide) fl134 (fun _ h9 => h9) rfl dX2_takeOptions_63 ?_
  refine lv_iload_n hx hb dX2_takeOptions_66 rfl (lv_at hl 1 rfl) ?_
  obtain ⟨q10, h⟩ := zA_some h
  refine va_iald hx hb hK.1 hP 15 0 rfl rfl q10 dX2_takeOptions_67 ?_
  refine lv_imul hx hb dX2_takeOptions_68 ?_
  refine lv_istore_n (lv' := [(3, .int (x2 * ((bv 12) x1.toNatClampNeg))), (0, .ref (kv 0)), (1, .int x1), (2, .int x2)]) hx hb dX2_takeOptions_69 rfl hl (by decide) rfl (fun ls hl => ?_)
  refine lv_aload_n hx hb dX2_takeOptions_70 rfl (lv_at hl 1 rfl) ?_
  refine va_get (D := D) (ci := 2) (v := .ref (kv 3)) (C := RX2) (T := TX2) (N := 11) hx hb hts hi2 hown hK.1 hP 0 rfl rfl 2 (by decide) fl28 (fun _ h9 => h9) rfl dX2_takeOptions_71 ?_
  refine va_get (D := D) (ci := 4) (v := .ref (kv 20)) (C := RX4) (T := TX4) (N := 8) hx hb hts hi4 hown hK.1 hP 12 rfl rfl 7 (by decide) fl146 (fun _ h9 => h9) rfl dX2_takeOptions_74 ?_
  refine lv_iload_n hx hb dX2_takeOptions_77 rfl (lv_at hl 2 rfl) ?_
  refine lv_dup2_11 hx hb dX2_takeOptions_78 rfl rfl ?_
  refine va_iald hx hb hK.1 hP 19 0 rfl rfl q10 dX2_takeOptions_79 ?_
  refine lv_iload_n hx hb dX2_takeOptions_80 rfl (lv_at hl 3 rfl) ?_
  refine lv_iadd hx hb dX2_takeOptions_81 ?_
  refine va_iast hx hb hK.1 hP hD hS 19 0 rfl rfl q10 dX2_takeOptions_82 (fun H locs hP hD hS => ?_)
  have hP : va_P D vwCl (zw_co tt kv (zu bv 16 (upd (bv 16) x1.toNatClampNeg (((bv 16) x1.toNatClampNeg) + x2)))) H := hP
  have hD : va_D A (zw_co tt kv (zu bv 16 (upd (bv 16) x1.toNatClampNeg (((bv 16) x1.toNatClampNeg) + x2)))) := hD
  refine lv_aload_n hx hb dX2_takeOptions_83 rfl (lv_at hl 1 rfl) ?_
  refine lv_dup hx hb dX2_takeOptions_84 rfl ?_
  refine va_get (D := D) (ci := 2) (v := .int (bv 0 10)) (C := RX2) (T := TX2) (N := 11) hx hb hts hi2 hown hK.1 hP 0 rfl rfl 9 (by decide) fl73 (fun _ h9 => h9) rfl dX2_takeOptions_85 ?_
  refine lv_iload_n hx hb dX2_takeOptions_88 rfl (lv_at hl 0 rfl) ?_
  refine lv_iadd hx hb dX2_takeOptions_89 ?_
  refine va_put (D := D) (ci := 2) (v := .int ((bv 0 10) + (x2 * ((bv 12) x1.toNatClampNeg)))) (ty := .int) (C := RX2) (T := TX2) (N := 11) hx hb hts hi2 tyX2 tyX2_ok nmX2 hown hK.1 hP hD hS 0 rfl rfl 9 (by decide) fl73 (fun _ h9 => h9) rfl (by decide +kernel) rfl rfl (Nat.le_of_ble_eq_true rfl) dX2_takeOptions_90 (fun H locs hP hD hS => ?_)
  have hP : va_P D vwCl (zw_co tt kv (zu (zu bv 0 (zu (bv 0) 10 ((bv 0 10) + (x2 * ((bv 12) x1.toNatClampNeg))))) 16 (upd (bv 16) x1.toNatClampNeg (((bv 16) x1.toNatClampNeg) + x2)))) H := hP
  have hD : va_D A (zw_co tt kv (zu (zu bv 0 (zu (bv 0) 10 ((bv 0 10) + (x2 * ((bv 12) x1.toNatClampNeg))))) 16 (upd (bv 16) x1.toNatClampNeg (((bv 16) x1.toNatClampNeg) + x2)))) := hD
  refine lv_aload_n hx hb dX2_takeOptions_93 rfl (lv_at hl 1 rfl) ?_
  refine lv_dup hx hb dX2_takeOptions_94 rfl ?_
  refine va_get (D := D) (ci := 2) (v := .int (bv 0 8)) (C := RX2) (T := TX2) (N := 11) hx hb hts hi2 hown hK.1 hP 0 rfl rfl 7 (by decide) fl67 (fun _ h9 => h9) rfl dX2_takeOptions_95 ?_
  refine lv_iload_n hx hb dX2_takeOptions_98 rfl (lv_at hl 3 rfl) ?_
  refine lv_iadd hx hb dX2_takeOptions_99 ?_
  refine va_put (D := D) (ci := 2) (v := .int ((bv 0 8) + x2)) (ty := .int) (C := RX2) (T := TX2) (N := 11) hx hb hts hi2 tyX2 tyX2_ok nmX2 hown hK.1 hP hD hS 0 rfl rfl 7 (by decide) fl67 (fun _ h9 => h9) rfl (by decide +kernel) rfl rfl (Nat.le_of_ble_eq_true rfl) dX2_takeOptions_100 (fun H locs hP hD hS => ?_)
  have hP : va_P D vwCl (zw_co tt kv (zu (zu bv 0 (zu (zu (bv 0) 8 ((bv 0 8) + x2)) 10 ((bv 0 10) + (x2 * ((bv 12) x1.toNatClampNeg))))) 16 (upd (bv 16) x1.toNatClampNeg (((bv 16) x1.toNatClampNeg) + x2)))) H := hP
  have hD : va_D A (zw_co tt kv (zu (zu bv 0 (zu (zu (bv 0) 8 ((bv 0 8) + x2)) 10 ((bv 0 10) + (x2 * ((bv 12) x1.toNatClampNeg))))) 16 (upd (bv 16) x1.toNatClampNeg (((bv 16) x1.toNatClampNeg) + x2)))) := hD
  refine lv_aload_n hx hb dX2_takeOptions_103 rfl (lv_at hl 1 rfl) ?_
  refine va_get (D := D) (ci := 2) (v := .ref (kv 2)) (C := RX2) (T := TX2) (N := 11) hx hb hts hi2 hown hK.1 hP 0 rfl rfl 1 (by decide) fl21 (fun _ h9 => h9) rfl dX2_takeOptions_104 ?_
  refine lv_aload_n hx hb dX2_takeOptions_107 rfl (lv_at hl 1 rfl) ?_
  refine va_get (D := D) (ci := 2) (v := .ref (kv 3)) (C := RX2) (T := TX2) (N := 11) hx hb hts hi2 hown hK.1 hP 0 rfl rfl 2 (by decide) fl28 (fun _ h9 => h9) rfl dX2_takeOptions_108 ?_
  refine va_get (D := D) (ci := 4) (v := .ref (kv 14)) (C := RX4) (T := TX4) (N := 8) hx hb hts hi4 hown hK.1 hP 12 rfl rfl 1 (by decide) fl132 (fun _ h9 => h9) rfl dX2_takeOptions_111 ?_
  refine lv_iload_n hx hb dX2_takeOptions_114 rfl (lv_at hl 2 rfl) ?_
  refine va_iald hx hb hK.1 hP 13 0 rfl rfl q10 dX2_takeOptions_115 ?_
  refine lv_iconst (v := 0) hx hb dX2_takeOptions_116 (by decide) ?_
  refine lv_iload_n hx hb dX2_takeOptions_117 rfl (lv_at hl 3 rfl) ?_
  refine lv_aload_n hx hb dX2_takeOptions_118 rfl (lv_at hl 1 rfl) ?_
  refine va_get (D := D) (ci := 2) (v := .int (bv 0 7)) (C := RX2) (T := TX2) (N := 11) hx hb hts hi2 hown hK.1 hP 0 rfl rfl 6 (by decide) fl64 (fun _ h9 => h9) rfl dX2_takeOptions_119 ?_
  obtain ⟨y11, gy11, h⟩ := zb_some h
  have hpm : List.Perm (zw_c0 tt kv (zu (zu bv 0 (zu (zu (bv 0) 8 ((bv 0 8) + x2)) 10 ((bv 0 10) + (x2 * ((bv 12) x1.toNatClampNeg))))) 16 (upd (bv 16) x1.toNatClampNeg (((bv 16) x1.toNatClampNeg) + x2))) ++ (zw_cl tt kv (zu (zu bv 0 (zu (zu (bv 0) 8 ((bv 0 8) + x2)) 10 ((bv 0 10) + (x2 * ((bv 12) x1.toNatClampNeg))))) 16 (upd (bv 16) x1.toNatClampNeg (((bv 16) x1.toNatClampNeg) + x2))) ++ (zw_ce tt kv (zu (zu bv 0 (zu (zu (bv 0) 8 ((bv 0 8) + x2)) 10 ((bv 0 10) + (x2 * ((bv 12) x1.toNatClampNeg))))) 16 (upd (bv 16) x1.toNatClampNeg (((bv 16) x1.toNatClampNeg) + x2))) ++ (zw_gr tt kv (zu (zu bv 0 (zu (zu (bv 0) 8 ((bv 0 8) + x2)) 10 ((bv 0 10) + (x2 * ((bv 12) x1.toNatClampNeg))))) 16 (upd (bv 16) x1.toNatClampNeg (((bv 16) x1.toNatClampNeg) + x2))) ++ (zw_ro tt kv (zu (zu bv 0 (zu (zu (bv 0) 8 ((bv 0 8) + x2)) 10 ((bv 0 10) + (x2 * ((bv 12) x1.toNatClampNeg))))) 16 (upd (bv 16) x1.toNatClampNeg (((bv 16) x1.toNatClampNeg) + x2))) ++ (zw_la tt kv (zu (zu bv 0 (zu (zu (bv 0) 8 ((bv 0 8) + x2)) 10 ((bv 0 10) + (x2 * ((bv 12) x1.toNatClampNeg))))) 16 (upd (bv 16) x1.toNatClampNeg (((bv 16) x1.toNatClampNeg) + x2))))))))) ((zw_ce tt kv (zu (zu bv 0 (zu (zu (bv 0) 8 ((bv 0 8) + x2)) 10 ((bv 0 10) + (x2 * ((bv 12) x1.toNatClampNeg))))) 16 (upd (bv 16) x1.toNatClampNeg (((bv 16) x1.toNatClampNeg) + x2)))) ++ (zw_c0 tt kv (zu (zu bv 0 (zu (zu (bv 0) 8 ((bv 0 8) + x2)) 10 ((bv 0 10) + (x2 * ((bv 12) x1.toNatClampNeg))))) 16 (upd (bv 16) x1.toNatClampNeg (((bv 16) x1.toNatClampNeg) + x2))) ++ zw_cl tt kv (zu (zu bv 0 (zu (zu (bv 0) 8 ((bv 0 8) + x2)) 10 ((bv 0 10) + (x2 * ((bv 12) x1.toNatClampNeg))))) 16 (upd (bv 16) x1.toNatClampNeg (((bv 16) x1.toNatClampNeg) + x2))) ++ zw_gr tt kv (zu (zu bv 0 (zu (zu (bv 0) 8 ((bv 0 8) + x2)) 10 ((bv 0 10) + (x2 * ((bv 12) x1.toNatClampNeg))))) 16 (upd (bv 16) x1.toNatClampNeg (((bv 16) x1.toNatClampNeg) + x2))) ++ zw_ro tt kv (zu (zu bv 0 (zu (zu (bv 0) 8 ((bv 0 8) + x2)) 10 ((bv 0 10) + (x2 * ((bv 12) x1.toNatClampNeg))))) 16 (upd (bv 16) x1.toNatClampNeg (((bv 16) x1.toNatClampNeg) + x2))) ++ zw_la tt kv (zu (zu bv 0 (zu (zu (bv 0) 8 ((bv 0 8) + x2)) 10 ((bv 0 10) + (x2 * ((bv 12) x1.toNatClampNeg))))) 16 (upd (bv 16) x1.toNatClampNeg (((bv 16) x1.toNatClampNeg) + x2))))) := z_pm (fun _ x => by simp only [List.count_append, List.count_nil] <;> omega)
  have hPc := z_takeP hpm hP
  have hDc := z_takeD hpm hD
  have hFc := z_free0 hDc hS hA
  refine z_callmi (wc := (zw_ce tt kv (zu (zu bv 0 (zu (zu (bv 0) 8 ((bv 0 8) + x2)) 10 ((bv 0 10) + (x2 * ((bv 12) x1.toNatClampNeg))))) 16 (upd (bv 16) x1.toNatClampNeg (((bv 16) x1.toNatClampNeg) + x2))))) (w1 := (zw_ce tt kv y11.2)) (va_runV (As := [.int ((bv 10) x1.toNatClampNeg), .int 0, .int x2, .int (bv 0 7)]) (rest := []) ⟨hx, hb, hml, hown, hts⟩ (c_X0_add l D tt kv _ (zu (zu bv 0 (zu (zu (bv 0) 8 ((bv 0 8) + x2)) 10 ((bv 0 10) + (x2 * ((bv 12) x1.toNatClampNeg))))) 16 (upd (bv 16) x1.toNatClampNeg (((bv 16) x1.toNatClampNeg) + x2))) ((bv 10) x1.toNatClampNeg) 0 x2 (bv 0 7) y11 gy11) (cwV 4 hts gX2_takeOptions_X0_add rfl rfl rfl (by decide +kernel) ⟨Nat.le_of_ble_eq_true rfl, Nat.le_of_ble_eq_true rfl⟩) (z_preVm hK hPc hDc (ci := 0) (q0 := 0) rfl rfl) rfl rfl hl.1 rfl (lv_room (Nat.le_of_ble_eq_true rfl)) dX2_takeOptions_122 ⟨Nat.zero_le _, Nat.zero_le _⟩) hS hFc (fun H locs ny11 hP1 hD1 hk1 hS => ?_)
  have hpm2 : List.Perm (zw_c0 tt kv (zu (zu bv 0 (zu (zu (bv 0) 8 ((bv 0 8) + x2)) 10 ((bv 0 10) + (x2 * ((bv 12) x1.toNatClampNeg))))) 16 (upd (bv 16) x1.toNatClampNeg (((bv 16) x1.toNatClampNeg) + x2))) ++ (zw_cl tt kv (zu (zu bv 0 (zu (zu (bv 0) 8 ((bv 0 8) + x2)) 10 ((bv 0 10) + (x2 * ((bv 12) x1.toNatClampNeg))))) 16 (upd (bv 16) x1.toNatClampNeg (((bv 16) x1.toNatClampNeg) + x2))) ++ (zw_ce tt kv y11.2 ++ (zw_gr tt kv (zu (zu bv 0 (zu (zu (bv 0) 8 ((bv 0 8) + x2)) 10 ((bv 0 10) + (x2 * ((bv 12) x1.toNatClampNeg))))) 16 (upd (bv 16) x1.toNatClampNeg (((bv 16) x1.toNatClampNeg) + x2))) ++ (zw_ro tt kv (zu (zu bv 0 (zu (zu (bv 0) 8 ((bv 0 8) + x2)) 10 ((bv 0 10) + (x2 * ((bv 12) x1.toNatClampNeg))))) 16 (upd (bv 16) x1.toNatClampNeg (((bv 16) x1.toNatClampNeg) + x2))) ++ (zw_la tt kv (zu (zu bv 0 (zu (zu (bv 0) 8 ((bv 0 8) + x2)) 10 ((bv 0 10) + (x2 * ((bv 12) x1.toNatClampNeg))))) 16 (upd (bv 16) x1.toNatClampNeg (((bv 16) x1.toNatClampNeg) + x2))))))))) ((zw_ce tt kv y11.2) ++ (zw_c0 tt kv (zu (zu bv 0 (zu (zu (bv 0) 8 ((bv 0 8) + x2)) 10 ((bv 0 10) + (x2 * ((bv 12) x1.toNatClampNeg))))) 16 (upd (bv 16) x1.toNatClampNeg (((bv 16) x1.toNatClampNeg) + x2))) ++ zw_cl tt kv (zu (zu bv 0 (zu (zu (bv 0) 8 ((bv 0 8) + x2)) 10 ((bv 0 10) + (x2 * ((bv 12) x1.toNatClampNeg))))) 16 (upd (bv 16) x1.toNatClampNeg (((bv 16) x1.toNatClampNeg) + x2))) ++ zw_gr tt kv (zu (zu bv 0 (zu (zu (bv 0) 8 ((bv 0 8) + x2)) 10 ((bv 0 10) + (x2 * ((bv 12) x1.toNatClampNeg))))) 16 (upd (bv 16) x1.toNatClampNeg (((bv 16) x1.toNatClampNeg) + x2))) ++ zw_ro tt kv (zu (zu bv 0 (zu (zu (bv 0) 8 ((bv 0 8) + x2)) 10 ((bv 0 10) + (x2 * ((bv 12) x1.toNatClampNeg))))) 16 (upd (bv 16) x1.toNatClampNeg (((bv 16) x1.toNatClampNeg) + x2))) ++ zw_la tt kv (zu (zu bv 0 (zu (zu (bv 0) 8 ((bv 0 8) + x2)) 10 ((bv 0 10) + (x2 * ((bv 12) x1.toNatClampNeg))))) 16 (upd (bv 16) x1.toNatClampNeg (((bv 16) x1.toNatClampNeg) + x2))))) := z_pm (fun _ x => by simp only [List.count_append, List.count_nil] <;> omega)
  obtain ⟨hP, hD⟩ := z_joinB hpm hpm2 hP hD hk1 hFc hP1 hD1
  clear hpm hpm2
  have hP : va_P D vwCl (zw_co tt kv (zg_ce y11.2 (zu (zu bv 0 (zu (zu (bv 0) 8 ((bv 0 8) + x2)) 10 ((bv 0 10) + (x2 * ((bv 12) x1.toNatClampNeg))))) 16 (upd (bv 16) x1.toNatClampNeg (((bv 16) x1.toNatClampNeg) + x2))))) H := hP
  have hD : va_D A (zw_co tt kv (zg_ce y11.2 (zu (zu bv 0 (zu (zu (bv 0) 8 ((bv 0 8) + x2)) 10 ((bv 0 10) + (x2 * ((bv 12) x1.toNatClampNeg))))) 16 (upd (bv 16) x1.toNatClampNeg (((bv 16) x1.toNatClampNeg) + x2))))) := hD
  refine lv_pop hx hb dX2_takeOptions_125 rfl ?_
  refine lv_iload_n hx hb dX2_takeOptions_126 rfl (lv_at hl 0 rfl) ?_
  exact hfin _ _ _ _ _ _ h rfl hP hD hS dX2_takeOptions_127
set_option maxHeartbeats 4000000 in
set_option maxRecDepth 100000 in
theorem c_X2_takeableOf (l : Launch) (D : va_G) (tt : Nat → ClassId) (kv : Nat → Nat) (bv : zV) (x1 : Int32) (out : Int32) (h : f_X2_takeableOf bv x1 = some out) : Met l yX2_takeableOf wsX2_takeableOf { frames := 2, cells := 0, slots := 0, locals := 46 } (zPr [.ref (kv 0), .int x1] D tt (zw_co tt kv bv)) (zQr .int out) 0 0 (fun _ => False) := by
  refine Met.ofW (cc := cX2_takeableOf) (maxL := 4) (ret := (some .int)) (by decide) rfl ?_
  intro p e s m args below meth c s₁ B hml hv
  obtain ⟨ha, hP, hK⟩ := hv
  have hx := B.exec
  have hb := B.bytes
  have hr := B.returns
  have hts := atoms_spec (ws := wsX2_takeableOf) B.pre
  have hown : s.vm.findClass RX2 = some m.cls := findClass_of_methodNamed B.named
  have hlocks := B.notSynchronized
  have hi2 : ∀ w ∈ u_ws RX2 TX2 11, w ∈ wsX2_takeableOf := fun _ h => List.mem_cons_of_mem _ (List.mem_append_left _ (List.mem_append_right _ h))
  have hi4 : ∀ w ∈ u_ws RX4 TX4 8, w ∈ wsX2_takeableOf := fun _ h => List.mem_cons_of_mem _ (List.mem_append_right _ h)
  have fl132 := hts (.fieldLink RX2 132 "CapStacks$Grants" "holder" "[I") (by decide +kernel)
  have fl28 := hts (.fieldLink RX2 28 "CapStacks$Company" "grants" "LCapStacks$Grants;") (by decide +kernel)
  have fl86 := hts (.fieldLink RX2 86 "CapStacks$Grants" "size" "I") (by decide +kernel)
  have hfin : ∀ (v : Int32) (pc : Nat) (ls : Array Slot), some v = some out → narrow .int (.int v) = .int v → decode cX2_takeableOf pc = .ok (.ireturn, 1) → W p l e (headSpec wsX2_takeableOf { frames := 2, cells := 0, slots := 0, locals := 46 }).room s m args below meth c s.heap [] 0 0 (MQ below (zQr .int out) args s 0 0 (fun _ => False)) (F0 m pc ls [.int v]) := by
    intro v pc ls he hn hd
    cases he
    exact W.zret hx hb hr hn (fun t ht hW => ⟨rfl, hn, ht⟩) (fun _ h => by cases h) hd
  generalize MQ below (zQr .int out) args s 0 0 (fun _ => False) = Q at hfin ⊢
  have b4 : ∀ n : Nat, ∀ (x1 : Int32) (x2 : Int32) (x3 : Int32) (ls : Array Slot), lv_has ls 4 [(0, .ref (kv 0)), (1, .int x1), (2, .int x2), (3, .int x3)] → f_X2_takeableOf_b4 bv n x1 x2 x3 = some out → W p l e (headSpec wsX2_takeableOf { frames := 2, cells := 0, slots := 0, locals := 46 }).room s m args below meth c s.heap [] 0 0 Q (F0 m 4 ls []) := by
    intro n
    induction n with
    | zero =>
      intro x1 x2 x3 ls hl h
      cases h
    | succ n ih =>
      intro x1 x2 x3 ls hl h
      rw [f_X2_takeableOf_b4] at h
      refine lv_iload_n hx hb dX2_takeableOf_4 rfl (lv_at hl 3 rfl) ?_
      refine lv_aload_n hx hb dX2_takeableOf_5 rfl (lv_at hl 0 rfl) ?_
      refine va_get (D := D) (ci := 2) (v := .ref (kv 3)) (C := RX2) (T := TX2) (N := 11) hx hb hts hi2 hown hK.1 hP 0 rfl rfl 2 (by decide) fl28 (fun _ h9 => h9) rfl dX2_takeableOf_6 ?_
      refine va_get (D := D) (ci := 4) (v := .int (bv 0 1)) (C := RX4) (T := TX4) (N := 8) hx hb hts hi4 hown hK.1 hP 12 rfl rfl 0 (by decide) fl86 (fun _ h9 => h9) rfl dX2_takeableOf_9 ?_
      refine lv_icmp_ge (tgt := 42) hx hb dX2_takeableOf_12 (by decide) (fun k1 => ?_) (fun k1 => ?_)
      · replace h := z_pos k1 h
        refine lv_iload_n hx hb dX2_takeableOf_42 rfl (lv_at hl 2 rfl) ?_
        exact hfin _ _ _ h rfl dX2_takeableOf_43
      replace h := z_neg k1 h
      refine lv_aload_n hx hb dX2_takeableOf_15 rfl (lv_at hl 0 rfl) ?_
      refine va_get (D := D) (ci := 2) (v := .ref (kv 3)) (C := RX2) (T := TX2) (N := 11) hx hb hts hi2 hown hK.1 hP 0 rfl rfl 2 (by decide) fl28 (fun _ h9 => h9) rfl dX2_takeableOf_16 ?_
      refine va_get (D := D) (ci := 4) (v := .ref (kv 14)) (C := RX4) (T := TX4) (N := 8) hx hb hts hi4 hown hK.1 hP 12 rfl rfl 1 (by decide) fl132 (fun _ h9 => h9) rfl dX2_takeableOf_19 ?_
      refine lv_iload_n hx hb dX2_takeableOf_22 rfl (lv_at hl 3 rfl) ?_
      obtain ⟨q2, h⟩ := zA_some h
      refine va_iald hx hb hK.1 hP 13 0 rfl rfl q2 dX2_takeableOf_23 ?_
      refine lv_iload_n hx hb dX2_takeableOf_24 rfl (lv_at hl 1 rfl) ?_
      refine lv_icmp_ne (tgt := 36) hx hb dX2_takeableOf_25 (by decide) (fun k3 => ?_) (fun k3 => ?_)
      · replace h := z_neg k3 h
        refine lv_iinc (v := (x3 + 1)) (lv' := [(3, .int (x3 + 1)), (0, .ref (kv 0)), (1, .int x1), (2, .int x2)]) hx hb dX2_takeableOf_36 hl (k := 3) rfl rfl (by decide) rfl (fun ls hl => ?_)
        refine lv_goto (tgt := 4) hx hb dX2_takeableOf_39 (by decide) ?_
        exact ih x1 x2 (x3 + 1) _ (lv_sub hl [1, 2, 3, 0] rfl) h
      replace h := z_pos k3 h
      refine lv_iload_n hx hb dX2_takeableOf_28 rfl (lv_at hl 2 rfl) ?_
      refine lv_aload_n hx hb dX2_takeableOf_29 rfl (lv_at hl 0 rfl) ?_
      refine lv_iload_n hx hb dX2_takeableOf_30 rfl (lv_at hl 3 rfl) ?_
      obtain ⟨y4, gy4, h⟩ := zb_some h
      refine z_callr (va_runV (As := [.int x3]) (rest := [.int x2]) ⟨hx, hb, hml, hown, hts⟩ (c_X2_takeable l D tt kv bv x3 y4 gy4) (cwV 1 hts gX2_takeableOf_X2_takeable rfl rfl rfl (by decide +kernel) ⟨Nat.le_of_ble_eq_true rfl, Nat.le_of_ble_eq_true rfl⟩) (z_preVr hK hP (ci := 2) (q0 := 0) rfl rfl) rfl rfl hl.1 rfl (lv_room (Nat.le_of_ble_eq_true rfl)) dX2_takeableOf_31 ⟨Nat.zero_le _, Nat.zero_le _⟩) (fun ny4 => ?_)
      refine lv_iadd hx hb dX2_takeableOf_34 ?_
      refine lv_istore_n (lv' := [(2, .int (x2 + y4)), (0, .ref (kv 0)), (1, .int x1), (3, .int x3)]) hx hb dX2_takeableOf_35 rfl hl (by decide) rfl (fun ls hl => ?_)
      refine lv_iinc (v := (x3 + 1)) (lv' := [(3, .int (x3 + 1)), (2, .int (x2 + y4)), (0, .ref (kv 0)), (1, .int x1)]) hx hb dX2_takeableOf_36 hl (k := 3) rfl rfl (by decide) rfl (fun ls hl => ?_)
      refine lv_goto (tgt := 4) hx hb dX2_takeableOf_39 (by decide) ?_
      exact ih x1 (x2 + y4) (x3 + 1) _ (lv_sub hl [2, 3, 1, 0] rfl) h
  have hl := lv_entry ([.ref (kv 0), .int x1]) (n := 4) (Nat.le_of_ble_eq_true rfl)
  refine W.eq (g2 := F0 m 0 ((lg_sl ([.ref (kv 0), .int x1]) ++ List.replicate (4 - (lg_sl ([.ref (kv 0), .int x1])).length) Slot.unset).toArray) []) (by rw [ha]; exact lg_entry_eq _ _ _) ?_
  generalize (lg_sl ([.ref (kv 0), .int x1]) ++ List.replicate (4 - (lg_sl ([.ref (kv 0), .int x1])).length) Slot.unset).toArray = ls at hl ⊢
  have hl : lv_has ls 4 [(0, .ref (kv 0)), (1, .int x1)] := hl
  rw [f_X2_takeableOf] at h
  refine lv_iconst (v := 0) hx hb dX2_takeableOf_0 (by decide) ?_
  refine lv_istore_n (lv' := [(2, .int 0), (0, .ref (kv 0)), (1, .int x1)]) hx hb dX2_takeableOf_1 rfl hl (by decide) rfl (fun ls hl => ?_)
  refine lv_iconst (v := 0) hx hb dX2_takeableOf_2 (by decide) ?_
  refine lv_istore_n (lv' := [(3, .int 0), (2, .int 0), (0, .ref (kv 0)), (1, .int x1)]) hx hb dX2_takeableOf_3 rfl hl (by decide) rfl (fun ls hl => ?_)
  exact b4 1000 x1 0 0 _ (lv_sub hl [2, 3, 1, 0] rfl) h
set_option maxHeartbeats 4000000 in
set_option maxRecDepth 100000 in
theorem c_X2_letLeave (l : Launch) (D : va_G) (tt : Nat → ClassId) (kv : Nat → Nat) (sz : Nat) (bv : zV) (x1 : Int32) (out : Int32 × zV) (h : f_X2_letLeave bv x1 = some out) : Met l yX2_letLeave wsX2_letLeave { frames := 3, cells := 0, slots := 0, locals := 69 } (zPm [.ref (kv 0), .int x1] D tt (zw_co tt kv bv) sz) (zMi .int out.1 D (zw_co tt kv out.2) (va_A (zw_co tt kv bv) sz)) 0 0 (va_A (zw_co tt kv bv) sz) := by
  refine Met.ofW (cc := cX2_letLeave) (maxL := 2) (ret := (some .int)) (by decide) rfl ?_
  intro p e s m args below meth c s₁ B hml hv
  obtain ⟨ha, hsz, hP, hK, hD0⟩ := hv
  have hx := B.exec
  have hb := B.bytes
  have hr := B.returns
  have hts := atoms_spec (ws := wsX2_letLeave) B.pre
  have hown : s.vm.findClass RX2 = some m.cls := findClass_of_methodNamed B.named
  have hlocks := B.notSynchronized
  have hi2 : ∀ w ∈ u_ws RX2 TX2 11, w ∈ wsX2_letLeave := fun _ h => List.mem_cons_of_mem _ (List.mem_append_left _ (List.mem_append_right _ h))
  have fl39 := hts (.fieldLink RX2 39 "CapStacks$Company" "leftAt" "[I") (by decide +kernel)
  have fl64 := hts (.fieldLink RX2 64 "CapStacks$Company" "time" "I") (by decide +kernel)
  subst hsz
  have hD := hD0.self (sz := s.heap.size)
  generalize hAe : va_A (zw_co tt kv bv) s.heap.size = A at hD ⊢
  have hA : ∀ q : Nat, s.heap.size ≤ q → A q := fun q h => by rw [← hAe]; exact Or.inr h
  have hS : va_S A s.heap s.heap [] := va_S.rf
  have hfin : ∀ (v : Int32) (bv : zV) (pc : Nat) (ls : Array Slot) (H : Heap) (locs : List Loc), some (v, bv) = some out → narrow .int (.int v) = .int v → va_P D vwCl (zw_co tt kv bv) H → va_D A (zw_co tt kv bv) → va_S A s.heap H locs → decode cX2_letLeave pc = .ok (.ireturn, 1) → W p l e (headSpec wsX2_letLeave { frames := 3, cells := 0, slots := 0, locals := 69 }).room s m args below meth c H locs 0 0 (MQ below (zMi .int out.1 D (zw_co tt kv out.2) A) args s 0 0 A) (F0 m pc ls [.int v]) := by
    intro v bv pc ls H locs he hn hP hD hS hd
    cases he
    exact W.zret hx hb hr hn (fun t ht hW => ⟨⟨_, (), rfl, ⟨rfl, hn⟩, by rw [ht]; exact hP, hD⟩, hS.F ht⟩) hS.2.2 hd
  generalize MQ below (zMi .int out.1 D (zw_co tt kv out.2) A) args s 0 0 A = Q at hfin ⊢
  have hl := lv_entry ([.ref (kv 0), .int x1]) (n := 2) (Nat.le_of_ble_eq_true rfl)
  refine W.eq (g2 := F0 m 0 ((lg_sl ([.ref (kv 0), .int x1]) ++ List.replicate (2 - (lg_sl ([.ref (kv 0), .int x1])).length) Slot.unset).toArray) []) (by rw [ha]; exact lg_entry_eq _ _ _) ?_
  generalize (lg_sl ([.ref (kv 0), .int x1]) ++ List.replicate (2 - (lg_sl ([.ref (kv 0), .int x1])).length) Slot.unset).toArray = ls at hl ⊢
  have hl : lv_has ls 2 [(0, .ref (kv 0)), (1, .int x1)] := hl
  rw [f_X2_letLeave] at h
  refine lv_aload_n hx hb dX2_letLeave_0 rfl (lv_at hl 0 rfl) ?_
  refine lv_iload_n hx hb dX2_letLeave_1 rfl (lv_at hl 1 rfl) ?_
  obtain ⟨y1, gy1, h⟩ := zb_some h
  refine z_callr (va_runV (As := [.int x1]) (rest := []) ⟨hx, hb, hml, hown, hts⟩ (c_X2_hasHolder l D tt kv bv x1 y1 gy1) (cwV 1 hts gX2_letLeave_X2_hasHolder rfl rfl rfl (by decide +kernel) ⟨Nat.le_of_ble_eq_true rfl, Nat.le_of_ble_eq_true rfl⟩) (z_preVr hK hP (ci := 2) (q0 := 0) rfl rfl) rfl rfl hl.1 rfl (lv_room (Nat.le_of_ble_eq_true rfl)) dX2_letLeave_2 ⟨Nat.zero_le _, Nat.zero_le _⟩) (fun ny1 => ?_)
  refine lv_if_ne (tgt := 10) hx hb dX2_letLeave_5 (by decide) (fun k2 => ?_) (fun k2 => ?_)
  rotate_left
  · replace h := z_pos k2 h
    refine lv_iconst (v := (-1)) hx hb dX2_letLeave_8 (by decide) ?_
    exact hfin _ _ _ _ _ _ h rfl hP hD hS dX2_letLeave_9
  replace h := z_neg k2 h
  refine lv_aload_n hx hb dX2_letLeave_10 rfl (lv_at hl 0 rfl) ?_
  refine va_get (D := D) (ci := 2) (v := .ref (kv 23)) (C := RX2) (T := TX2) (N := 11) hx hb hts hi2 hown hK.1 hP 0 rfl rfl 5 (by decide) fl39 (fun _ h9 => h9) rfl dX2_letLeave_11 ?_
  refine lv_iload_n hx hb dX2_letLeave_14 rfl (lv_at hl 1 rfl) ?_
  obtain ⟨q3, h⟩ := zA_some h
  refine va_iald hx hb hK.1 hP 23 0 rfl rfl q3 dX2_letLeave_15 ?_
  refine lv_iconst (v := (-1)) hx hb dX2_letLeave_16 (by decide) ?_
  refine lv_icmp_eq (tgt := 23) hx hb dX2_letLeave_17 (by decide) (fun k4 => ?_) (fun k4 => ?_)
  rotate_left
  · replace h := z_neg k4 h
    refine lv_bipush (v := (-2)) hx hb dX2_letLeave_20 (by decide) ?_
    exact hfin _ _ _ _ _ _ h rfl hP hD hS dX2_letLeave_22
  replace h := z_pos k4 h
  refine lv_aload_n hx hb dX2_letLeave_23 rfl (lv_at hl 0 rfl) ?_
  refine va_get (D := D) (ci := 2) (v := .ref (kv 23)) (C := RX2) (T := TX2) (N := 11) hx hb hts hi2 hown hK.1 hP 0 rfl rfl 5 (by decide) fl39 (fun _ h9 => h9) rfl dX2_letLeave_24 ?_
  refine lv_iload_n hx hb dX2_letLeave_27 rfl (lv_at hl 1 rfl) ?_
  refine lv_aload_n hx hb dX2_letLeave_28 rfl (lv_at hl 0 rfl) ?_
  refine va_get (D := D) (ci := 2) (v := .int (bv 0 7)) (C := RX2) (T := TX2) (N := 11) hx hb hts hi2 hown hK.1 hP 0 rfl rfl 6 (by decide) fl64 (fun _ h9 => h9) rfl dX2_letLeave_29 ?_
  refine va_iast hx hb hK.1 hP hD hS 23 0 rfl rfl q3 dX2_letLeave_32 (fun H locs hP hD hS => ?_)
  have hP : va_P D vwCl (zw_co tt kv (zu bv 19 (upd (bv 19) x1.toNatClampNeg (bv 0 7)))) H := hP
  have hD : va_D A (zw_co tt kv (zu bv 19 (upd (bv 19) x1.toNatClampNeg (bv 0 7)))) := hD
  refine lv_aload_n hx hb dX2_letLeave_33 rfl (lv_at hl 0 rfl) ?_
  refine lv_iload_n hx hb dX2_letLeave_34 rfl (lv_at hl 1 rfl) ?_
  obtain ⟨y5, gy5, h⟩ := zb_some h
  refine z_callr (va_runV (As := [.int x1]) (rest := []) ⟨hx, hb, hml, hown, hts⟩ (c_X2_takeableOf l D tt kv (zu bv 19 (upd (bv 19) x1.toNatClampNeg (bv 0 7))) x1 y5 gy5) (cwV 1 hts gX2_letLeave_X2_takeableOf rfl rfl rfl (by decide +kernel) ⟨Nat.le_of_ble_eq_true rfl, Nat.le_of_ble_eq_true rfl⟩) (z_preVr hK hP (ci := 2) (q0 := 0) rfl rfl) rfl rfl hl.1 rfl (lv_room (Nat.le_of_ble_eq_true rfl)) dX2_letLeave_35 ⟨Nat.zero_le _, Nat.zero_le _⟩) (fun ny5 => ?_)
  exact hfin _ _ _ _ _ _ h rfl hP hD hS dX2_letLeave_38
set_option maxHeartbeats 4000000 in
set_option maxRecDepth 100000 in
theorem c_X2_passMonths (l : Launch) (D : va_G) (tt : Nat → ClassId) (kv : Nat → Nat) (sz : Nat) (bv : zV) (x1 : Int32) (out : Int32 × zV) (h : f_X2_passMonths bv x1 = some out) : Met l yX2_passMonths wsX2_passMonths { frames := 1, cells := 0, slots := 0, locals := 22 } (zPm [.ref (kv 0), .int x1] D tt (zw_co tt kv bv) sz) (zMi .int out.1 D (zw_co tt kv out.2) (va_A (zw_co tt kv bv) sz)) 0 0 (va_A (zw_co tt kv bv) sz) := by
  refine Met.ofW (cc := cX2_passMonths) (maxL := 2) (ret := (some .int)) (by decide) rfl ?_
  intro p e s m args below meth c s₁ B hml hv
  obtain ⟨ha, hsz, hP, hK, hD0⟩ := hv
  have hx := B.exec
  have hb := B.bytes
  have hr := B.returns
  have hts := atoms_spec (ws := wsX2_passMonths) B.pre
  have hown : s.vm.findClass RX2 = some m.cls := findClass_of_methodNamed B.named
  have hlocks := B.notSynchronized
  have hi2 : ∀ w ∈ u_ws RX2 TX2 11, w ∈ wsX2_passMonths := fun _ h => List.mem_cons_of_mem _ (List.mem_append_right _ h)
  have fl64 := hts (.fieldLink RX2 64 "CapStacks$Company" "time" "I") (by decide +kernel)
  have iniX9 := hts (.initialized RX9) (by decide +kernel)
  have st_X9_within := hts (.static yX9_within) (by decide +kernel)
  have nw82 : va_Nw (.methodLinkNest RX2 82 yX9_within "CapStacks") s := hK.2.1 (RX2, 82, yX9_within, "CapStacks") (List.mem_of_getElem? (i := 13) rfl)
  subst hsz
  have hD := hD0.self (sz := s.heap.size)
  generalize hAe : va_A (zw_co tt kv bv) s.heap.size = A at hD ⊢
  have hA : ∀ q : Nat, s.heap.size ≤ q → A q := fun q h => by rw [← hAe]; exact Or.inr h
  have hS : va_S A s.heap s.heap [] := va_S.rf
  have hfin : ∀ (v : Int32) (bv : zV) (pc : Nat) (ls : Array Slot) (H : Heap) (locs : List Loc), some (v, bv) = some out → narrow .int (.int v) = .int v → va_P D vwCl (zw_co tt kv bv) H → va_D A (zw_co tt kv bv) → va_S A s.heap H locs → decode cX2_passMonths pc = .ok (.ireturn, 1) → W p l e (headSpec wsX2_passMonths { frames := 1, cells := 0, slots := 0, locals := 22 }).room s m args below meth c H locs 0 0 (MQ below (zMi .int out.1 D (zw_co tt kv out.2) A) args s 0 0 A) (F0 m pc ls [.int v]) := by
    intro v bv pc ls H locs he hn hP hD hS hd
    cases he
    exact W.zret hx hb hr hn (fun t ht hW => ⟨⟨_, (), rfl, ⟨rfl, hn⟩, by rw [ht]; exact hP, hD⟩, hS.F ht⟩) hS.2.2 hd
  generalize MQ below (zMi .int out.1 D (zw_co tt kv out.2) A) args s 0 0 A = Q at hfin ⊢
  have hl := lv_entry ([.ref (kv 0), .int x1]) (n := 2) (Nat.le_of_ble_eq_true rfl)
  refine W.eq (g2 := F0 m 0 ((lg_sl ([.ref (kv 0), .int x1]) ++ List.replicate (2 - (lg_sl ([.ref (kv 0), .int x1])).length) Slot.unset).toArray) []) (by rw [ha]; exact lg_entry_eq _ _ _) ?_
  generalize (lg_sl ([.ref (kv 0), .int x1]) ++ List.replicate (2 - (lg_sl ([.ref (kv 0), .int x1])).length) Slot.unset).toArray = ls at hl ⊢
  have hl : lv_has ls 2 [(0, .ref (kv 0)), (1, .int x1)] := hl
  rw [f_X2_passMonths] at h
  refine lv_iload_n hx hb dX2_passMonths_0 rfl (lv_at hl 1 rfl) ?_
  refine lv_iconst (v := 1) hx hb dX2_passMonths_1 (by decide) ?_
  refine lv_bipush (v := 99) hx hb dX2_passMonths_2 (by decide) ?_
  obtain ⟨y1, gy1, h⟩ := zb_some h
  refine z_callr (va_runSN (As := [.int x1, .int 1, .int 99]) (rest := []) ⟨hx, hb, hml, hown, hts⟩ (c_X9_within l D tt x1 1 99 y1 gy1) ⟨va_cnB (host := "CapStacks") 3 hts gX2_passMonths_X9_within_n82 rfl rfl rfl nw82 iniX9 (by decide +kernel) ⟨Nat.le_of_ble_eq_true rfl, Nat.le_of_ble_eq_true rfl⟩, st_X9_within, trivial⟩ (z_preSr hK (hP.sub (ws' := ([] : va_W)) [] rfl)) rfl rfl hl.1 rfl (lv_room (Nat.le_of_ble_eq_true rfl)) dX2_passMonths_4 ⟨Nat.zero_le _, Nat.zero_le _⟩) (fun ny1 => ?_)
  refine lv_if_ne (tgt := 12) hx hb dX2_passMonths_7 (by decide) (fun k2 => ?_) (fun k2 => ?_)
  rotate_left
  · replace h := z_pos k2 h
    refine lv_iconst (v := (-1)) hx hb dX2_passMonths_10 (by decide) ?_
    exact hfin _ _ _ _ _ _ h rfl hP hD hS dX2_passMonths_11
  replace h := z_neg k2 h
  refine lv_aload_n hx hb dX2_passMonths_12 rfl (lv_at hl 0 rfl) ?_
  refine va_get (D := D) (ci := 2) (v := .int (bv 0 7)) (C := RX2) (T := TX2) (N := 11) hx hb hts hi2 hown hK.1 hP 0 rfl rfl 6 (by decide) fl64 (fun _ h9 => h9) rfl dX2_passMonths_13 ?_
  refine lv_iload_n hx hb dX2_passMonths_16 rfl (lv_at hl 1 rfl) ?_
  refine lv_iadd hx hb dX2_passMonths_17 ?_
  refine lv_sipush (v := 999) hx hb dX2_passMonths_18 (by decide) ?_
  refine lv_icmp_le (tgt := 27) hx hb dX2_passMonths_21 (by decide) (fun k3 => ?_) (fun k3 => ?_)
  rotate_left
  · replace h := z_neg k3 h
    refine lv_bipush (v := (-3)) hx hb dX2_passMonths_24 (by decide) ?_
    exact hfin _ _ _ _ _ _ h rfl hP hD hS dX2_passMonths_26
  replace h := z_pos k3 h
  refine lv_aload_n hx hb dX2_passMonths_27 rfl (lv_at hl 0 rfl) ?_
  refine lv_dup hx hb dX2_passMonths_28 rfl ?_
  refine va_get (D := D) (ci := 2) (v := .int (bv 0 7)) (C := RX2) (T := TX2) (N := 11) hx hb hts hi2 hown hK.1 hP 0 rfl rfl 6 (by decide) fl64 (fun _ h9 => h9) rfl dX2_passMonths_29 ?_
  refine lv_iload_n hx hb dX2_passMonths_32 rfl (lv_at hl 1 rfl) ?_
  refine lv_iadd hx hb dX2_passMonths_33 ?_
  refine va_put (D := D) (ci := 2) (v := .int ((bv 0 7) + x1)) (ty := .int) (C := RX2) (T := TX2) (N := 11) hx hb hts hi2 tyX2 tyX2_ok nmX2 hown hK.1 hP hD hS 0 rfl rfl 6 (by decide) fl64 (fun _ h9 => h9) rfl (by decide +kernel) rfl rfl (Nat.le_of_ble_eq_true rfl) dX2_passMonths_34 (fun H locs hP hD hS => ?_)
  have hP : va_P D vwCl (zw_co tt kv (zu bv 0 (zu (bv 0) 7 ((bv 0 7) + x1)))) H := hP
  have hD : va_D A (zw_co tt kv (zu bv 0 (zu (bv 0) 7 ((bv 0 7) + x1)))) := hD
  refine lv_aload_n hx hb dX2_passMonths_37 rfl (lv_at hl 0 rfl) ?_
  refine va_get (D := D) (ci := 2) (v := .int ((bv 0 7) + x1)) (C := RX2) (T := TX2) (N := 11) hx hb hts hi2 hown hK.1 hP 0 rfl rfl 6 (by decide) fl64 (fun _ h9 => h9) rfl dX2_passMonths_38 ?_
  exact hfin _ _ _ _ _ _ h rfl hP hD hS dX2_passMonths_41
set_option maxHeartbeats 4000000 in
set_option maxRecDepth 100000 in
theorem c_X2_commonOfAll (l : Launch) (D : va_G) (tt : Nat → ClassId) (kv : Nat → Nat) (bv : zV)  (out : Int32) (h : f_X2_commonOfAll bv = some out) : Met l yX2_commonOfAll wsX2_commonOfAll { frames := 1, cells := 0, slots := 0, locals := 23 } (zPr [.ref (kv 0)] D tt (zw_co tt kv bv)) (zQr .int out) 0 0 (fun _ => False) := by
  refine Met.ofW (cc := cX2_commonOfAll) (maxL := 3) (ret := (some .int)) (by decide) rfl ?_
  intro p e s m args below meth c s₁ B hml hv
  obtain ⟨ha, hP, hK⟩ := hv
  have hx := B.exec
  have hb := B.bytes
  have hr := B.returns
  have hts := atoms_spec (ws := wsX2_commonOfAll) B.pre
  have hown : s.vm.findClass RX2 = some m.cls := findClass_of_methodNamed B.named
  have hlocks := B.notSynchronized
  have hi1 : ∀ w ∈ u_ws RX1 TX1 6, w ∈ wsX2_commonOfAll := fun _ h => List.mem_cons_of_mem _ (List.mem_append_left _ (List.mem_append_right _ h))
  have hi2 : ∀ w ∈ u_ws RX2 TX2 11, w ∈ wsX2_commonOfAll := fun _ h => List.mem_cons_of_mem _ (List.mem_append_left _ (List.mem_append_left _ (List.mem_append_right _ h)))
  have fl12 := hts (.fieldLink RX2 12 "CapStacks$Company" "classes" "LCapStacks$Classes;") (by decide +kernel)
  have fl21 := hts (.fieldLink RX2 21 "CapStacks$Company" "certificates" "LCapStacks$Certificates;") (by decide +kernel)
  have fl79 := hts (.fieldLink RX2 79 "CapStacks$Classes" "size" "I") (by decide +kernel)
  have hfin : ∀ (v : Int32) (pc : Nat) (ls : Array Slot), some v = some out → narrow .int (.int v) = .int v → decode cX2_commonOfAll pc = .ok (.ireturn, 1) → W p l e (headSpec wsX2_commonOfAll { frames := 1, cells := 0, slots := 0, locals := 23 }).room s m args below meth c s.heap [] 0 0 (MQ below (zQr .int out) args s 0 0 (fun _ => False)) (F0 m pc ls [.int v]) := by
    intro v pc ls he hn hd
    cases he
    exact W.zret hx hb hr hn (fun t ht hW => ⟨rfl, hn, ht⟩) (fun _ h => by cases h) hd
  generalize MQ below (zQr .int out) args s 0 0 (fun _ => False) = Q at hfin ⊢
  have b4 : ∀ n : Nat, ∀ (x1 : Int32) (x2 : Int32) (ls : Array Slot), lv_has ls 3 [(0, .ref (kv 0)), (1, .int x1), (2, .int x2)] → f_X2_commonOfAll_b4 bv n x1 x2 = some out → W p l e (headSpec wsX2_commonOfAll { frames := 1, cells := 0, slots := 0, locals := 23 }).room s m args below meth c s.heap [] 0 0 Q (F0 m 4 ls []) := by
    intro n
    induction n with
    | zero =>
      intro x1 x2 ls hl h
      cases h
    | succ n ih =>
      intro x1 x2 ls hl h
      rw [f_X2_commonOfAll_b4] at h
      refine lv_iload_n hx hb dX2_commonOfAll_4 rfl (lv_at hl 2 rfl) ?_
      refine lv_aload_n hx hb dX2_commonOfAll_5 rfl (lv_at hl 0 rfl) ?_
      refine va_get (D := D) (ci := 2) (v := .ref (kv 1)) (C := RX2) (T := TX2) (N := 11) hx hb hts hi2 hown hK.1 hP 0 rfl rfl 0 (by decide) fl12 (fun _ h9 => h9) rfl dX2_commonOfAll_6 ?_
      refine va_get (D := D) (ci := 1) (v := .int (bv 0 0)) (C := RX1) (T := TX1) (N := 6) hx hb hts hi1 hown hK.1 hP 1 rfl rfl 0 (by decide) fl79 (fun _ h9 => h9) rfl dX2_commonOfAll_9 ?_
      refine lv_icmp_ge (tgt := 40) hx hb dX2_commonOfAll_12 (by decide) (fun k1 => ?_) (fun k1 => ?_)
      · replace h := z_pos k1 h
        refine lv_iload_n hx hb dX2_commonOfAll_40 rfl (lv_at hl 1 rfl) ?_
        exact hfin _ _ _ h rfl dX2_commonOfAll_41
      replace h := z_neg k1 h
      refine lv_iload_n hx hb dX2_commonOfAll_15 rfl (lv_at hl 1 rfl) ?_
      refine lv_aload_n hx hb dX2_commonOfAll_16 rfl (lv_at hl 0 rfl) ?_
      refine va_get (D := D) (ci := 2) (v := .ref (kv 1)) (C := RX2) (T := TX2) (N := 11) hx hb hts hi2 hown hK.1 hP 0 rfl rfl 0 (by decide) fl12 (fun _ h9 => h9) rfl dX2_commonOfAll_17 ?_
      refine lv_iload_n hx hb dX2_commonOfAll_20 rfl (lv_at hl 2 rfl) ?_
      refine lv_aload_n hx hb dX2_commonOfAll_21 rfl (lv_at hl 0 rfl) ?_
      refine va_get (D := D) (ci := 2) (v := .ref (kv 2)) (C := RX2) (T := TX2) (N := 11) hx hb hts hi2 hown hK.1 hP 0 rfl rfl 1 (by decide) fl21 (fun _ h9 => h9) rfl dX2_commonOfAll_22 ?_
      refine lv_iload_n hx hb dX2_commonOfAll_25 rfl (lv_at hl 2 rfl) ?_
      obtain ⟨y2, gy2, h⟩ := zb_some h
      have hpm : List.Perm (zw_c0 tt kv bv ++ (zw_cl tt kv bv ++ (zw_ce tt kv bv ++ (zw_gr tt kv bv ++ (zw_ro tt kv bv ++ (zw_la tt kv bv)))))) ((zw_ce tt kv bv) ++ (zw_c0 tt kv bv ++ zw_cl tt kv bv ++ zw_gr tt kv bv ++ zw_ro tt kv bv ++ zw_la tt kv bv)) := z_pm (fun _ x => by simp only [List.count_append, List.count_nil] <;> omega)
      refine z_callr (va_runV (As := [.int x2]) (rest := [.int x2, .ref (kv 1), .int x1]) ⟨hx, hb, hml, hown, hts⟩ (c_X0_sharesIn l D tt kv bv x2 y2 gy2) (cwV 1 hts gX2_commonOfAll_X0_sharesIn rfl rfl rfl (by decide +kernel) ⟨Nat.le_of_ble_eq_true rfl, Nat.le_of_ble_eq_true rfl⟩) (z_preVr hK (z_takeP hpm hP) (ci := 0) (q0 := 0) rfl rfl) rfl rfl hl.1 rfl (lv_room (Nat.le_of_ble_eq_true rfl)) dX2_commonOfAll_26 ⟨Nat.zero_le _, Nat.zero_le _⟩) (fun ny2 => ?_)
      obtain ⟨y3, gy3, h⟩ := zb_some h
      have hpm : List.Perm (zw_c0 tt kv bv ++ (zw_cl tt kv bv ++ (zw_ce tt kv bv ++ (zw_gr tt kv bv ++ (zw_ro tt kv bv ++ (zw_la tt kv bv)))))) ((zw_cl tt kv bv) ++ (zw_c0 tt kv bv ++ zw_ce tt kv bv ++ zw_gr tt kv bv ++ zw_ro tt kv bv ++ zw_la tt kv bv)) := z_pm (fun _ x => by simp only [List.count_append, List.count_nil] <;> omega)
      refine z_callr (va_runV (As := [.int x2, .int y2]) (rest := [.int x1]) ⟨hx, hb, hml, hown, hts⟩ (c_X1_common l D tt kv bv x2 y2 y3 gy3) (cwV 2 hts gX2_commonOfAll_X1_common rfl rfl rfl (by decide +kernel) ⟨Nat.le_of_ble_eq_true rfl, Nat.le_of_ble_eq_true rfl⟩) (z_preVr hK (z_takeP hpm hP) (ci := 1) (q0 := 0) rfl rfl) rfl rfl hl.1 rfl (lv_room (Nat.le_of_ble_eq_true rfl)) dX2_commonOfAll_29 ⟨Nat.zero_le _, Nat.zero_le _⟩) (fun ny3 => ?_)
      refine lv_iadd hx hb dX2_commonOfAll_32 ?_
      refine lv_istore_n (lv' := [(1, .int (x1 + y3)), (0, .ref (kv 0)), (2, .int x2)]) hx hb dX2_commonOfAll_33 rfl hl (by decide) rfl (fun ls hl => ?_)
      refine lv_iinc (v := (x2 + 1)) (lv' := [(2, .int (x2 + 1)), (1, .int (x1 + y3)), (0, .ref (kv 0))]) hx hb dX2_commonOfAll_34 hl (k := 2) rfl rfl (by decide) rfl (fun ls hl => ?_)
      refine lv_goto (tgt := 4) hx hb dX2_commonOfAll_37 (by decide) ?_
      exact ih (x1 + y3) (x2 + 1) _ (lv_sub hl [2, 1, 0] rfl) h
  have hl := lv_entry ([.ref (kv 0)]) (n := 3) (Nat.le_of_ble_eq_true rfl)
  refine W.eq (g2 := F0 m 0 ((lg_sl ([.ref (kv 0)]) ++ List.replicate (3 - (lg_sl ([.ref (kv 0)])).length) Slot.unset).toArray) []) (by rw [ha]; exact lg_entry_eq _ _ _) ?_
  generalize (lg_sl ([.ref (kv 0)]) ++ List.replicate (3 - (lg_sl ([.ref (kv 0)])).length) Slot.unset).toArray = ls at hl ⊢
  have hl : lv_has ls 3 [(0, .ref (kv 0))] := hl
  rw [f_X2_commonOfAll] at h
  refine lv_iconst (v := 0) hx hb dX2_commonOfAll_0 (by decide) ?_
  refine lv_istore_n (lv' := [(1, .int 0), (0, .ref (kv 0))]) hx hb dX2_commonOfAll_1 rfl hl (by decide) rfl (fun ls hl => ?_)
  refine lv_iconst (v := 0) hx hb dX2_commonOfAll_2 (by decide) ?_
  refine lv_istore_n (lv' := [(2, .int 0), (1, .int 0), (0, .ref (kv 0))]) hx hb dX2_commonOfAll_3 rfl hl (by decide) rfl (fun ls hl => ?_)
  exact b4 1000 0 0 _ (lv_sub hl [2, 1, 0] rfl) h
set_option maxHeartbeats 4000000 in
set_option maxRecDepth 100000 in
theorem c_X2_commonOf (l : Launch) (D : va_G) (tt : Nat → ClassId) (kv : Nat → Nat) (bv : zV) (x1 : Int32) (out : Int32) (h : f_X2_commonOf bv x1 = some out) : Met l yX2_commonOf wsX2_commonOf { frames := 1, cells := 0, slots := 0, locals := 24 } (zPr [.ref (kv 0), .int x1] D tt (zw_co tt kv bv)) (zQr .int out) 0 0 (fun _ => False) := by
  refine Met.ofW (cc := cX2_commonOf) (maxL := 4) (ret := (some .int)) (by decide) rfl ?_
  intro p e s m args below meth c s₁ B hml hv
  obtain ⟨ha, hP, hK⟩ := hv
  have hx := B.exec
  have hb := B.bytes
  have hr := B.returns
  have hts := atoms_spec (ws := wsX2_commonOf) B.pre
  have hown : s.vm.findClass RX2 = some m.cls := findClass_of_methodNamed B.named
  have hlocks := B.notSynchronized
  have hi1 : ∀ w ∈ u_ws RX1 TX1 6, w ∈ wsX2_commonOf := fun _ h => List.mem_cons_of_mem _ (List.mem_append_left _ (List.mem_append_right _ h))
  have hi2 : ∀ w ∈ u_ws RX2 TX2 11, w ∈ wsX2_commonOf := fun _ h => List.mem_cons_of_mem _ (List.mem_append_left _ (List.mem_append_left _ (List.mem_append_right _ h)))
  have fl12 := hts (.fieldLink RX2 12 "CapStacks$Company" "classes" "LCapStacks$Classes;") (by decide +kernel)
  have fl21 := hts (.fieldLink RX2 21 "CapStacks$Company" "certificates" "LCapStacks$Certificates;") (by decide +kernel)
  have fl79 := hts (.fieldLink RX2 79 "CapStacks$Classes" "size" "I") (by decide +kernel)
  have hfin : ∀ (v : Int32) (pc : Nat) (ls : Array Slot), some v = some out → narrow .int (.int v) = .int v → decode cX2_commonOf pc = .ok (.ireturn, 1) → W p l e (headSpec wsX2_commonOf { frames := 1, cells := 0, slots := 0, locals := 24 }).room s m args below meth c s.heap [] 0 0 (MQ below (zQr .int out) args s 0 0 (fun _ => False)) (F0 m pc ls [.int v]) := by
    intro v pc ls he hn hd
    cases he
    exact W.zret hx hb hr hn (fun t ht hW => ⟨rfl, hn, ht⟩) (fun _ h => by cases h) hd
  generalize MQ below (zQr .int out) args s 0 0 (fun _ => False) = Q at hfin ⊢
  have b4 : ∀ n : Nat, ∀ (x1 : Int32) (x2 : Int32) (x3 : Int32) (ls : Array Slot), lv_has ls 4 [(0, .ref (kv 0)), (1, .int x1), (2, .int x2), (3, .int x3)] → f_X2_commonOf_b4 bv n x1 x2 x3 = some out → W p l e (headSpec wsX2_commonOf { frames := 1, cells := 0, slots := 0, locals := 24 }).room s m args below meth c s.heap [] 0 0 Q (F0 m 4 ls []) := by
    intro n
    induction n with
    | zero =>
      intro x1 x2 x3 ls hl h
      cases h
    | succ n ih =>
      intro x1 x2 x3 ls hl h
      rw [f_X2_commonOf_b4] at h
      refine lv_iload_n hx hb dX2_commonOf_4 rfl (lv_at hl 3 rfl) ?_
      refine lv_aload_n hx hb dX2_commonOf_5 rfl (lv_at hl 0 rfl) ?_
      refine va_get (D := D) (ci := 2) (v := .ref (kv 1)) (C := RX2) (T := TX2) (N := 11) hx hb hts hi2 hown hK.1 hP 0 rfl rfl 0 (by decide) fl12 (fun _ h9 => h9) rfl dX2_commonOf_6 ?_
      refine va_get (D := D) (ci := 1) (v := .int (bv 0 0)) (C := RX1) (T := TX1) (N := 6) hx hb hts hi1 hown hK.1 hP 1 rfl rfl 0 (by decide) fl79 (fun _ h9 => h9) rfl dX2_commonOf_9 ?_
      refine lv_icmp_ge (tgt := 41) hx hb dX2_commonOf_12 (by decide) (fun k1 => ?_) (fun k1 => ?_)
      · replace h := z_pos k1 h
        refine lv_iload_n hx hb dX2_commonOf_41 rfl (lv_at hl 2 rfl) ?_
        exact hfin _ _ _ h rfl dX2_commonOf_42
      replace h := z_neg k1 h
      refine lv_iload_n hx hb dX2_commonOf_15 rfl (lv_at hl 2 rfl) ?_
      refine lv_aload_n hx hb dX2_commonOf_16 rfl (lv_at hl 0 rfl) ?_
      refine va_get (D := D) (ci := 2) (v := .ref (kv 1)) (C := RX2) (T := TX2) (N := 11) hx hb hts hi2 hown hK.1 hP 0 rfl rfl 0 (by decide) fl12 (fun _ h9 => h9) rfl dX2_commonOf_17 ?_
      refine lv_iload_n hx hb dX2_commonOf_20 rfl (lv_at hl 3 rfl) ?_
      refine lv_aload_n hx hb dX2_commonOf_21 rfl (lv_at hl 0 rfl) ?_
      refine va_get (D := D) (ci := 2) (v := .ref (kv 2)) (C := RX2) (T := TX2) (N := 11) hx hb hts hi2 hown hK.1 hP 0 rfl rfl 1 (by decide) fl21 (fun _ h9 => h9) rfl dX2_commonOf_22 ?_
      refine lv_iload_n hx hb dX2_commonOf_25 rfl (lv_at hl 1 rfl) ?_
      refine lv_iload_n hx hb dX2_commonOf_26 rfl (lv_at hl 3 rfl) ?_
      obtain ⟨y2, gy2, h⟩ := zb_some h
      have hpm : List.Perm (zw_c0 tt kv bv ++ (zw_cl tt kv bv ++ (zw_ce tt kv bv ++ (zw_gr tt kv bv ++ (zw_ro tt kv bv ++ (zw_la tt kv bv)))))) ((zw_ce tt kv bv) ++ (zw_c0 tt kv bv ++ zw_cl tt kv bv ++ zw_gr tt kv bv ++ zw_ro tt kv bv ++ zw_la tt kv bv)) := z_pm (fun _ x => by simp only [List.count_append, List.count_nil] <;> omega)
      refine z_callr (va_runV (As := [.int x1, .int x3]) (rest := [.int x3, .ref (kv 1), .int x2]) ⟨hx, hb, hml, hown, hts⟩ (c_X0_sharesOwned l D tt kv bv x1 x3 y2 gy2) (cwV 2 hts gX2_commonOf_X0_sharesOwned rfl rfl rfl (by decide +kernel) ⟨Nat.le_of_ble_eq_true rfl, Nat.le_of_ble_eq_true rfl⟩) (z_preVr hK (z_takeP hpm hP) (ci := 0) (q0 := 0) rfl rfl) rfl rfl hl.1 rfl (lv_room (Nat.le_of_ble_eq_true rfl)) dX2_commonOf_27 ⟨Nat.zero_le _, Nat.zero_le _⟩) (fun ny2 => ?_)
      obtain ⟨y3, gy3, h⟩ := zb_some h
      have hpm : List.Perm (zw_c0 tt kv bv ++ (zw_cl tt kv bv ++ (zw_ce tt kv bv ++ (zw_gr tt kv bv ++ (zw_ro tt kv bv ++ (zw_la tt kv bv)))))) ((zw_cl tt kv bv) ++ (zw_c0 tt kv bv ++ zw_ce tt kv bv ++ zw_gr tt kv bv ++ zw_ro tt kv bv ++ zw_la tt kv bv)) := z_pm (fun _ x => by simp only [List.count_append, List.count_nil] <;> omega)
      refine z_callr (va_runV (As := [.int x3, .int y2]) (rest := [.int x2]) ⟨hx, hb, hml, hown, hts⟩ (c_X1_common l D tt kv bv x3 y2 y3 gy3) (cwV 2 hts gX2_commonOf_X1_common rfl rfl rfl (by decide +kernel) ⟨Nat.le_of_ble_eq_true rfl, Nat.le_of_ble_eq_true rfl⟩) (z_preVr hK (z_takeP hpm hP) (ci := 1) (q0 := 0) rfl rfl) rfl rfl hl.1 rfl (lv_room (Nat.le_of_ble_eq_true rfl)) dX2_commonOf_30 ⟨Nat.zero_le _, Nat.zero_le _⟩) (fun ny3 => ?_)
      refine lv_iadd hx hb dX2_commonOf_33 ?_
      refine lv_istore_n (lv' := [(2, .int (x2 + y3)), (0, .ref (kv 0)), (1, .int x1), (3, .int x3)]) hx hb dX2_commonOf_34 rfl hl (by decide) rfl (fun ls hl => ?_)
      refine lv_iinc (v := (x3 + 1)) (lv' := [(3, .int (x3 + 1)), (2, .int (x2 + y3)), (0, .ref (kv 0)), (1, .int x1)]) hx hb dX2_commonOf_35 hl (k := 3) rfl rfl (by decide) rfl (fun ls hl => ?_)
      refine lv_goto (tgt := 4) hx hb dX2_commonOf_38 (by decide) ?_
      exact ih x1 (x2 + y3) (x3 + 1) _ (lv_sub hl [2, 3, 1, 0] rfl) h
  have hl := lv_entry ([.ref (kv 0), .int x1]) (n := 4) (Nat.le_of_ble_eq_true rfl)
  refine W.eq (g2 := F0 m 0 ((lg_sl ([.ref (kv 0), .int x1]) ++ List.replicate (4 - (lg_sl ([.ref (kv 0), .int x1])).length) Slot.unset).toArray) []) (by rw [ha]; exact lg_entry_eq _ _ _) ?_
  generalize (lg_sl ([.ref (kv 0), .int x1]) ++ List.replicate (4 - (lg_sl ([.ref (kv 0), .int x1])).length) Slot.unset).toArray = ls at hl ⊢
  have hl : lv_has ls 4 [(0, .ref (kv 0)), (1, .int x1)] := hl
  rw [f_X2_commonOf] at h
  refine lv_iconst (v := 0) hx hb dX2_commonOf_0 (by decide) ?_
  refine lv_istore_n (lv' := [(2, .int 0), (0, .ref (kv 0)), (1, .int x1)]) hx hb dX2_commonOf_1 rfl hl (by decide) rfl (fun ls hl => ?_)
  refine lv_iconst (v := 0) hx hb dX2_commonOf_2 (by decide) ?_
  refine lv_istore_n (lv' := [(3, .int 0), (2, .int 0), (0, .ref (kv 0)), (1, .int x1)]) hx hb dX2_commonOf_3 rfl hl (by decide) rfl (fun ls hl => ?_)
  exact b4 1000 x1 0 0 _ (lv_sub hl [2, 3, 1, 0] rfl) h
set_option maxHeartbeats 4000000 in
set_option maxRecDepth 100000 in
theorem c_X2_beginRound (l : Launch) (D : va_G) (tt : Nat → ClassId) (kv : Nat → Nat) (sz : Nat) (bv : zV) (x1 : Int32) (x2 : Int32) (x3 : Int32) (out : Int32 × zV) (h : f_X2_beginRound bv x1 x2 x3 = some out) : Met l yX2_beginRound wsX2_beginRound { frames := 2, cells := 0, slots := 0, locals := 47 } (zPm [.ref (kv 0), .int x1, .int x2, .int x3] D tt (zw_co tt kv bv) sz) (zMi .int out.1 D (zw_co tt kv out.2) (va_A (zw_co tt kv bv) sz)) 0 0 (va_A (zw_co tt kv bv) sz) := by
  refine Met.ofW (cc := cX2_beginRound) (maxL := 6) (ret := (some .int)) (by decide) rfl ?_
  intro p e s m args below meth c s₁ B hml hv
  obtain ⟨ha, hsz, hP, hK, hD0⟩ := hv
  have hx := B.exec
  have hb := B.bytes
  have hr := B.returns
  have hts := atoms_spec (ws := wsX2_beginRound) B.pre
  have hown : s.vm.findClass RX2 = some m.cls := findClass_of_methodNamed B.named
  have hlocks := B.notSynchronized
  have hi1 : ∀ w ∈ u_ws RX1 TX1 6, w ∈ wsX2_beginRound := fun _ h => List.mem_cons_of_mem _ (List.mem_append_left _ (List.mem_append_right _ h))
  have hi2 : ∀ w ∈ u_ws RX2 TX2 11, w ∈ wsX2_beginRound := fun _ h => List.mem_cons_of_mem _ (List.mem_append_left _ (List.mem_append_left _ (List.mem_append_left _ (List.mem_append_right _ h))))
  have hi7 : ∀ w ∈ u_ws RX7 TX7 6, w ∈ wsX2_beginRound := fun _ h => List.mem_cons_of_mem _ (List.mem_append_left _ (List.mem_append_left _ (List.mem_append_right _ h)))
  have fl109 := hts (.fieldLink RX2 109 "CapStacks$Round" "on" "Z") (by decide +kernel)
  have fl12 := hts (.fieldLink RX2 12 "CapStacks$Company" "classes" "LCapStacks$Classes;") (by decide +kernel)
  have fl166 := hts (.fieldLink RX2 166 "CapStacks$Round" "right" "[I") (by decide +kernel)
  have fl35 := hts (.fieldLink RX2 35 "CapStacks$Company" "round" "LCapStacks$Round;") (by decide +kernel)
  have fl56 := hts (.fieldLink RX2 56 "CapStacks$Company" "holders" "I") (by decide +kernel)
  have fl87 := hts (.fieldLink RX2 87 "CapStacks$Classes" "price" "[I") (by decide +kernel)
  have iniX9 := hts (.initialized RX9) (by decide +kernel)
  have st_X9_portion := hts (.static yX9_portion) (by decide +kernel)
  have st_X9_within := hts (.static yX9_within) (by decide +kernel)
  have nw172 : va_Nw (.methodLinkNest RX2 172 yX9_portion "CapStacks") s := hK.2.1 (RX2, 172, yX9_portion, "CapStacks") (List.mem_of_getElem? (i := 15) rfl)
  have nw82 : va_Nw (.methodLinkNest RX2 82 yX9_within "CapStacks") s := hK.2.1 (RX2, 82, yX9_within, "CapStacks") (List.mem_of_getElem? (i := 13) rfl)
  subst hsz
  have hD := hD0.self (sz := s.heap.size)
  generalize hAe : va_A (zw_co tt kv bv) s.heap.size = A at hD ⊢
  have hA : ∀ q : Nat, s.heap.size ≤ q → A q := fun q h => by rw [← hAe]; exact Or.inr h
  have hS : va_S A s.heap s.heap [] := va_S.rf
  have hfin : ∀ (v : Int32) (bv : zV) (pc : Nat) (ls : Array Slot) (H : Heap) (locs : List Loc), some (v, bv) = some out → narrow .int (.int v) = .int v → va_P D vwCl (zw_co tt kv bv) H → va_D A (zw_co tt kv bv) → va_S A s.heap H locs → decode cX2_beginRound pc = .ok (.ireturn, 1) → W p l e (headSpec wsX2_beginRound { frames := 2, cells := 0, slots := 0, locals := 47 }).room s m args below meth c H locs 0 0 (MQ below (zMi .int out.1 D (zw_co tt kv out.2) A) args s 0 0 A) (F0 m pc ls [.int v]) := by
    intro v bv pc ls H locs he hn hP hD hS hd
    cases he
    exact W.zret hx hb hr hn (fun t ht hW => ⟨⟨_, (), rfl, ⟨rfl, hn⟩, by rw [ht]; exact hP, hD⟩, hS.F ht⟩) hS.2.2 hd
  generalize MQ below (zMi .int out.1 D (zw_co tt kv out.2) A) args s 0 0 A = Q at hfin ⊢
  have b65 : ∀ n : Nat, ∀ (bv : zV) (x1 : Int32) (x2 : Int32) (x4 : Int32) (x5 : Int32) (H : Heap) (locs : List Loc) (ls : Array Slot), va_P D vwCl (zw_co tt kv bv) H → va_D A (zw_co tt kv bv) → va_S A s.heap H locs → lv_has ls 6 [(0, .ref (kv 0)), (1, .int x1), (2, .int x2), (4, .int x4), (5, .int x5)] → f_X2_beginRound_b65 n bv x1 x2 x4 x5 = some out → W p l e (headSpec wsX2_beginRound { frames := 2, cells := 0, slots := 0, locals := 47 }).room s m args below meth c H locs 0 0 Q (F0 m 65 ls []) := by
    intro n
    induction n with
    | zero =>
      intro bv x1 x2 x4 x5 H locs ls hP hD hS hl h
      cases h
    | succ n ih =>
      intro bv x1 x2 x4 x5 H locs ls hP hD hS hl h
      rw [f_X2_beginRound_b65] at h
      refine lv_iload hx hb dX2_beginRound_65 (lv_at hl 4 rfl) ?_
      refine lv_aload_n hx hb dX2_beginRound_67 rfl (lv_at hl 0 rfl) ?_
      refine va_get (D := D) (ci := 2) (v := .int (bv 0 6)) (C := RX2) (T := TX2) (N := 11) hx hb hts hi2 hown hK.1 hP 0 rfl rfl 4 (by decide) fl56 (fun _ h9 => h9) rfl dX2_beginRound_68 ?_
      refine lv_icmp_ge (tgt := 102) hx hb dX2_beginRound_71 (by decide) (fun k1 => ?_) (fun k1 => ?_)
      · replace h := z_pos k1 h
        refine lv_iload_n hx hb dX2_beginRound_102 rfl (lv_at hl 2 rfl) ?_
        refine lv_aload_n hx hb dX2_beginRound_103 rfl (lv_at hl 0 rfl) ?_
        refine va_get (D := D) (ci := 2) (v := .ref (kv 1)) (C := RX2) (T := TX2) (N := 11) hx hb hts hi2 hown hK.1 hP 0 rfl rfl 0 (by decide) fl12 (fun _ h9 => h9) rfl dX2_beginRound_104 ?_
        refine va_get (D := D) (ci := 1) (v := .ref (kv 5)) (C := RX1) (T := TX1) (N := 6) hx hb hts hi1 hown hK.1 hP 1 rfl rfl 1 (by decide) fl87 (fun _ h9 => h9) rfl dX2_beginRound_107 ?_
        refine lv_iload_n hx hb dX2_beginRound_110 rfl (lv_at hl 1 rfl) ?_
        obtain ⟨q2, h⟩ := zA_some h
        refine va_iald hx hb hK.1 hP 2 0 rfl rfl q2 dX2_beginRound_111 ?_
        refine lv_imul hx hb dX2_beginRound_112 ?_
        exact hfin _ _ _ _ _ _ h rfl hP hD hS dX2_beginRound_113
      replace h := z_neg k1 h
      refine lv_aload_n hx hb dX2_beginRound_74 rfl (lv_at hl 0 rfl) ?_
      refine va_get (D := D) (ci := 2) (v := .ref (kv 4)) (C := RX2) (T := TX2) (N := 11) hx hb hts hi2 hown hK.1 hP 0 rfl rfl 3 (by decide) fl35 (fun _ h9 => h9) rfl dX2_beginRound_75 ?_
      refine va_get (D := D) (ci := 7) (v := .ref (kv 21)) (C := RX7) (T := TX7) (N := 6) hx hb hts hi7 hown hK.1 hP 20 rfl rfl 4 (by decide) fl166 (fun _ h9 => h9) rfl dX2_beginRound_78 ?_
      refine lv_iload hx hb dX2_beginRound_81 (lv_at hl 4 rfl) ?_
      refine lv_iload_n hx hb dX2_beginRound_83 rfl (lv_at hl 2 rfl) ?_
      refine lv_aload_n hx hb dX2_beginRound_84 rfl (lv_at hl 0 rfl) ?_
      refine lv_iload hx hb dX2_beginRound_85 (lv_at hl 4 rfl) ?_
      obtain ⟨y3, gy3, h⟩ := zb_some h
      refine z_callr (va_runV (As := [.int x5]) (rest := [.int x2, .int x5, .ref (kv 21)]) ⟨hx, hb, hml, hown, hts⟩ (c_X2_commonOf l D tt kv bv x5 y3 gy3) (cwV 1 hts gX2_beginRound_X2_commonOf rfl rfl rfl (by decide +kernel) ⟨Nat.le_of_ble_eq_true rfl, Nat.le_of_ble_eq_true rfl⟩) (z_preVr hK hP (ci := 2) (q0 := 0) rfl rfl) rfl rfl hl.1 rfl (lv_room (Nat.le_of_ble_eq_true rfl)) dX2_beginRound_87 ⟨Nat.zero_le _, Nat.zero_le _⟩) (fun ny3 => ?_)
      refine lv_iload hx hb dX2_beginRound_90 (lv_at hl 3 rfl) ?_
      obtain ⟨y4, gy4, h⟩ := zb_some h
      refine z_callr (va_runSN (As := [.int x2, .int y3, .int x4]) (rest := [.int x5, .ref (kv 21)]) ⟨hx, hb, hml, hown, hts⟩ (c_X9_portion l D tt x2 y3 x4 y4 gy4) ⟨va_cnB (host := "CapStacks") 3 hts gX2_beginRound_X9_portion_n172 rfl rfl rfl nw172 iniX9 (by decide +kernel) ⟨Nat.le_of_ble_eq_true rfl, Nat.le_of_ble_eq_true rfl⟩, st_X9_portion, trivial⟩ (z_preSr hK (hP.sub (ws' := ([] : va_W)) [] rfl)) rfl rfl hl.1 rfl (lv_room (Nat.le_of_ble_eq_true rfl)) dX2_beginRound_92 ⟨Nat.zero_le _, Nat.zero_le _⟩) (fun ny4 => ?_)
      obtain ⟨q5, h⟩ := zA_some h
      refine va_iast hx hb hK.1 hP hD hS 21 0 rfl rfl q5 dX2_beginRound_95 (fun H locs hP hD hS => ?_)
      have hP : va_P D vwCl (zw_co tt kv (zu bv 17 (upd (bv 17) x5.toNatClampNeg y4))) H := hP
      have hD : va_D A (zw_co tt kv (zu bv 17 (upd (bv 17) x5.toNatClampNeg y4))) := hD
      refine lv_iinc (v := (x5 + 1)) (lv' := [(5, .int (x5 + 1)), (0, .ref (kv 0)), (1, .int x1), (2, .int x2), (4, .int x4)]) hx hb dX2_beginRound_96 hl (k := 4) rfl rfl (by decide) rfl (fun ls hl => ?_)
      refine lv_goto (tgt := 65) hx hb dX2_beginRound_99 (by decide) ?_
      exact ih (zu bv 17 (upd (bv 17) x5.toNatClampNeg y4)) x1 x2 x4 (x5 + 1) _ _ _ hP hD hS (lv_sub hl [1, 2, 3, 4, 0] rfl) h
  have hl := lv_entry ([.ref (kv 0), .int x1, .int x2, .int x3]) (n := 6) (Nat.le_of_ble_eq_true rfl)
  refine W.eq (g2 := F0 m 0 ((lg_sl ([.ref (kv 0), .int x1, .int x2, .int x3]) ++ List.replicate (6 - (lg_sl ([.ref (kv 0), .int x1, .int x2, .int x3])).length) Slot.unset).toArray) []) (by rw [ha]; exact lg_entry_eq _ _ _) ?_
  generalize (lg_sl ([.ref (kv 0), .int x1, .int x2, .int x3]) ++ List.replicate (6 - (lg_sl ([.ref (kv 0), .int x1, .int x2, .int x3])).length) Slot.unset).toArray = ls at hl ⊢
  have hl : lv_has ls 6 [(0, .ref (kv 0)), (1, .int x1), (2, .int x2), (3, .int x3)] := hl
  rw [f_X2_beginRound] at h
  refine lv_iload_n hx hb dX2_beginRound_0 rfl (lv_at hl 1 rfl) ?_
  refine lv_if_eq (tgt := 31) hx hb dX2_beginRound_1 (by decide) (fun k6 => ?_) (fun k6 => ?_)
  · replace h := z_pos k6 h
    refine lv_iconst (v := (-1)) hx hb dX2_beginRound_31 (by decide) ?_
    exact hfin _ _ _ _ _ _ h rfl hP hD hS dX2_beginRound_32
  replace h := z_neg k6 h
  refine lv_aload_n hx hb dX2_beginRound_4 rfl (lv_at hl 0 rfl) ?_
  refine lv_iload_n hx hb dX2_beginRound_5 rfl (lv_at hl 1 rfl) ?_
  obtain ⟨y7, gy7, h⟩ := zb_some h
  refine z_callr (va_runV (As := [.int x1]) (rest := []) ⟨hx, hb, hml, hown, hts⟩ (c_X2_hasClass l D tt kv bv x1 y7 gy7) (cwV 1 hts gX2_beginRound_X2_hasClass rfl rfl rfl (by decide +kernel) ⟨Nat.le_of_ble_eq_true rfl, Nat.le_of_ble_eq_true rfl⟩) (z_preVr hK hP (ci := 2) (q0 := 0) rfl rfl) rfl rfl hl.1 rfl (lv_room (Nat.le_of_ble_eq_true rfl)) dX2_beginRound_6 ⟨Nat.zero_le _, Nat.zero_le _⟩) (fun ny7 => ?_)
  refine lv_if_eq (tgt := 31) hx hb dX2_beginRound_9 (by decide) (fun k8 => ?_) (fun k8 => ?_)
  · replace h := z_pos k8 h
    refine lv_iconst (v := (-1)) hx hb dX2_beginRound_31 (by decide) ?_
    exact hfin _ _ _ _ _ _ h rfl hP hD hS dX2_beginRound_32
  replace h := z_neg k8 h
  refine lv_iload_n hx hb dX2_beginRound_12 rfl (lv_at hl 2 rfl) ?_
  refine lv_iconst (v := 1) hx hb dX2_beginRound_13 (by decide) ?_
  refine lv_sipush (v := 9999) hx hb dX2_beginRound_14 (by decide) ?_
  obtain ⟨y9, gy9, h⟩ := zb_some h
  refine z_callr (va_runSN (As := [.int x2, .int 1, .int 9999]) (rest := []) ⟨hx, hb, hml, hown, hts⟩ (c_X9_within l D tt x2 1 9999 y9 gy9) ⟨va_cnB (host := "CapStacks") 3 hts gX2_beginRound_X9_within_n82 rfl rfl rfl nw82 iniX9 (by decide +kernel) ⟨Nat.le_of_ble_eq_true rfl, Nat.le_of_ble_eq_true rfl⟩, st_X9_within, trivial⟩ (z_preSr hK (hP.sub (ws' := ([] : va_W)) [] rfl)) rfl rfl hl.1 rfl (lv_room (Nat.le_of_ble_eq_true rfl)) dX2_beginRound_17 ⟨Nat.zero_le _, Nat.zero_le _⟩) (fun ny9 => ?_)
  refine lv_if_eq (tgt := 31) hx hb dX2_beginRound_20 (by decide) (fun k10 => ?_) (fun k10 => ?_)
  · replace h := z_pos k10 h
    refine lv_iconst (v := (-1)) hx hb dX2_beginRound_31 (by decide) ?_
    exact hfin _ _ _ _ _ _ h rfl hP hD hS dX2_beginRound_32
  replace h := z_neg k10 h
  refine lv_aload_n hx hb dX2_beginRound_23 rfl (lv_at hl 0 rfl) ?_
  refine lv_iload_n hx hb dX2_beginRound_24 rfl (lv_at hl 3 rfl) ?_
  obtain ⟨y11, gy11, h⟩ := zb_some h
  refine z_callr (va_runV (As := [.int x3]) (rest := []) ⟨hx, hb, hml, hown, hts⟩ (c_X2_hasHolder l D tt kv bv x3 y11 gy11) (cwV 1 hts gX2_beginRound_X2_hasHolder rfl rfl rfl (by decide +kernel) ⟨Nat.le_of_ble_eq_true rfl, Nat.le_of_ble_eq_true rfl⟩) (z_preVr hK hP (ci := 2) (q0 := 0) rfl rfl) rfl rfl hl.1 rfl (lv_room (Nat.le_of_ble_eq_true rfl)) dX2_beginRound_25 ⟨Nat.zero_le _, Nat.zero_le _⟩) (fun ny11 => ?_)
  refine lv_if_ne (tgt := 33) hx hb dX2_beginRound_28 (by decide) (fun k12 => ?_) (fun k12 => ?_)
  rotate_left
  · replace h := z_pos k12 h
    refine lv_iconst (v := (-1)) hx hb dX2_beginRound_31 (by decide) ?_
    exact hfin _ _ _ _ _ _ h rfl hP hD hS dX2_beginRound_32
  replace h := z_neg k12 h
  refine lv_aload_n hx hb dX2_beginRound_33 rfl (lv_at hl 0 rfl) ?_
  refine va_get (D := D) (ci := 2) (v := .ref (kv 4)) (C := RX2) (T := TX2) (N := 11) hx hb hts hi2 hown hK.1 hP 0 rfl rfl 3 (by decide) fl35 (fun _ h9 => h9) rfl dX2_beginRound_34 ?_
  refine va_get (D := D) (ci := 7) (v := .int (bv 0 2)) (C := RX7) (T := TX7) (N := 6) hx hb hts hi7 hown hK.1 hP 20 rfl rfl 0 (by decide) fl109 (fun _ h9 => h9) rfl dX2_beginRound_37 ?_
  refine lv_if_eq (tgt := 46) hx hb dX2_beginRound_40 (by decide) (fun k13 => ?_) (fun k13 => ?_)
  rotate_left
  · replace h := z_neg k13 h
    refine lv_bipush (v := (-2)) hx hb dX2_beginRound_43 (by decide) ?_
    exact hfin _ _ _ _ _ _ h rfl hP hD hS dX2_beginRound_45
  replace h := z_pos k13 h
  refine lv_aload_n hx hb dX2_beginRound_46 rfl (lv_at hl 0 rfl) ?_
  refine va_get (D := D) (ci := 2) (v := .ref (kv 4)) (C := RX2) (T := TX2) (N := 11) hx hb hts hi2 hown hK.1 hP 0 rfl rfl 3 (by decide) fl35 (fun _ h9 => h9) rfl dX2_beginRound_47 ?_
  refine lv_iload_n hx hb dX2_beginRound_50 rfl (lv_at hl 1 rfl) ?_
  refine lv_iload_n hx hb dX2_beginRound_51 rfl (lv_at hl 2 rfl) ?_
  refine lv_iload_n hx hb dX2_beginRound_52 rfl (lv_at hl 3 rfl) ?_
  obtain ⟨y14, gy14, h⟩ := zb_some h
  have hpm : List.Perm (zw_c0 tt kv bv ++ (zw_cl tt kv bv ++ (zw_ce tt kv bv ++ (zw_gr tt kv bv ++ (zw_ro tt kv bv ++ (zw_la tt kv bv)))))) ((zw_ro tt kv bv) ++ (zw_c0 tt kv bv ++ zw_cl tt kv bv ++ zw_ce tt kv bv ++ zw_gr tt kv bv ++ zw_la tt kv bv)) := z_pm (fun _ x => by simp only [List.count_append, List.count_nil] <;> omega)
  have hPc := z_takeP hpm hP
  have hDc := z_takeD hpm hD
  have hFc := z_free0 hDc hS hA
  refine z_callmv (wc := (zw_ro tt kv bv)) (w1 := (zw_ro tt kv y14)) (va_runV (As := [.int x1, .int x2, .int x3]) (rest := []) ⟨hx, hb, hml, hown, hts⟩ (c_X7_begin l D tt kv _ bv x1 x2 x3 y14 gy14) (cwV 3 hts gX2_beginRound_X7_begin rfl rfl rfl (by decide +kernel) ⟨Nat.le_of_ble_eq_true rfl, Nat.le_of_ble_eq_true rfl⟩) (z_preVm hK hPc hDc (ci := 7) (q0 := 0) rfl rfl) rfl rfl hl.1 rfl (lv_room (Nat.le_of_ble_eq_true rfl)) dX2_beginRound_53 ⟨Nat.zero_le _, Nat.zero_le _⟩) hS hFc (fun H locs hP1 hD1 hk1 hS => ?_)
  have hpm2 : List.Perm (zw_c0 tt kv bv ++ (zw_cl tt kv bv ++ (zw_ce tt kv bv ++ (zw_gr tt kv bv ++ (zw_ro tt kv y14 ++ (zw_la tt kv bv)))))) ((zw_ro tt kv y14) ++ (zw_c0 tt kv bv ++ zw_cl tt kv bv ++ zw_ce tt kv bv ++ zw_gr tt kv bv ++ zw_la tt kv bv)) := z_pm (fun _ x => by simp only [List.count_append, List.count_nil] <;> omega)
  obtain ⟨hP, hD⟩ := z_joinB hpm hpm2 hP hD hk1 hFc hP1 hD1
  clear hpm hpm2
  have hP : va_P D vwCl (zw_co tt kv (zg_ro y14 bv)) H := hP
  have hD : va_D A (zw_co tt kv (zg_ro y14 bv)) := hD
  refine lv_aload_n hx hb dX2_beginRound_56 rfl (lv_at hl 0 rfl) ?_
  obtain ⟨y15, gy15, h⟩ := zb_some h
  refine z_callr (va_runV (As := []) (rest := []) ⟨hx, hb, hml, hown, hts⟩ (c_X2_commonOfAll l D tt kv (zg_ro y14 bv) y15 gy15) (cwV 0 hts gX2_beginRound_X2_commonOfAll rfl rfl rfl (by decide +kernel) ⟨Nat.le_of_ble_eq_true rfl, Nat.le_of_ble_eq_true rfl⟩) (z_preVr hK hP (ci := 2) (q0 := 0) rfl rfl) rfl rfl hl.1 rfl (lv_room (Nat.le_of_ble_eq_true rfl)) dX2_beginRound_57 ⟨Nat.zero_le _, Nat.zero_le _⟩) (fun ny15 => ?_)
  refine lv_istore (lv' := [(4, .int y15), (0, .ref (kv 0)), (1, .int x1), (2, .int x2), (3, .int x3)]) hx hb dX2_beginRound_60 hl (by decide) rfl (fun ls hl => ?_)
  refine lv_iconst (v := 0) hx hb dX2_beginRound_62 (by decide) ?_
  refine lv_istore (lv' := [(5, .int 0), (4, .int y15), (0, .ref (kv 0)), (1, .int x1), (2, .int x2), (3, .int x3)]) hx hb dX2_beginRound_63 hl (by decide) rfl (fun ls hl => ?_)
  exact b65 1000 (zg_ro y14 bv) x1 x2 y15 0 _ _ _ hP hD hS (lv_sub hl [2, 3, 4, 1, 0] rfl) h
set_option maxHeartbeats 4000000 in
set_option maxRecDepth 100000 in
theorem c_X2_takeUpShares (l : Launch) (D : va_G) (tt : Nat → ClassId) (kv : Nat → Nat) (sz : Nat) (bv : zV) (x1 : Int32) (x2 : Int32) (out : Int32 × zV) (h : f_X2_takeUpShares bv x1 x2 = some out) : Met l yX2_takeUpShares wsX2_takeUpShares { frames := 2, cells := 0, slots := 0, locals := 43 } (zPm [.ref (kv 0), .int x1, .int x2] D tt (zw_co tt kv bv) sz) (zMi .int out.1 D (zw_co tt kv out.2) (va_A (zw_co tt kv bv) sz)) 0 0 (va_A (zw_co tt kv bv) sz) := by
  refine Met.ofW (cc := cX2_takeUpShares) (maxL := 3) (ret := (some .int)) (by decide) rfl ?_
  intro p e s m args below meth c s₁ B hml hv
  obtain ⟨ha, hsz, hP, hK, hD0⟩ := hv
  have hx := B.exec
  have hb := B.bytes
  have hr := B.returns
  have hts := atoms_spec (ws := wsX2_takeUpShares) B.pre
  have hown : s.vm.findClass RX2 = some m.cls := findClass_of_methodNamed B.named
  have hlocks := B.notSynchronized
  have hi2 : ∀ w ∈ u_ws RX2 TX2 11, w ∈ wsX2_takeUpShares := fun _ h => List.mem_cons_of_mem _ (List.mem_append_left _ (List.mem_append_right _ h))
  have hi7 : ∀ w ∈ u_ws RX7 TX7 6, w ∈ wsX2_takeUpShares := fun _ h => List.mem_cons_of_mem _ (List.mem_append_right _ h)
  have fl109 := hts (.fieldLink RX2 109 "CapStacks$Round" "on" "Z") (by decide +kernel)
  have fl166 := hts (.fieldLink RX2 166 "CapStacks$Round" "right" "[I") (by decide +kernel)
  have fl176 := hts (.fieldLink RX2 176 "CapStacks$Round" "takenUp" "[I") (by decide +kernel)
  have fl35 := hts (.fieldLink RX2 35 "CapStacks$Company" "round" "LCapStacks$Round;") (by decide +kernel)
  have iniX9 := hts (.initialized RX9) (by decide +kernel)
  have st_X9_within := hts (.static yX9_within) (by decide +kernel)
  have nw82 : va_Nw (.methodLinkNest RX2 82 yX9_within "CapStacks") s := hK.2.1 (RX2, 82, yX9_within, "CapStacks") (List.mem_of_getElem? (i := 13) rfl)
  subst hsz
  have hD := hD0.self (sz := s.heap.size)
  generalize hAe : va_A (zw_co tt kv bv) s.heap.size = A at hD ⊢
  have hA : ∀ q : Nat, s.heap.size ≤ q → A q := fun q h => by rw [← hAe]; exact Or.inr h
  have hS : va_S A s.heap s.heap [] := va_S.rf
  have hfin : ∀ (v : Int32) (bv : zV) (pc : Nat) (ls : Array Slot) (H : Heap) (locs : List Loc), some (v, bv) = some out → narrow .int (.int v) = .int v → va_P D vwCl (zw_co tt kv bv) H → va_D A (zw_co tt kv bv) → va_S A s.heap H locs → decode cX2_takeUpShares pc = .ok (.ireturn, 1) → W p l e (headSpec wsX2_takeUpShares { frames := 2, cells := 0, slots := 0, locals := 43 }).room s m args below meth c H locs 0 0 (MQ below (zMi .int out.1 D (zw_co tt kv out.2) A) args s 0 0 A) (F0 m pc ls [.int v]) := by
    intro v bv pc ls H locs he hn hP hD hS hd
    cases he
    exact W.zret hx hb hr hn (fun t ht hW => ⟨⟨_, (), rfl, ⟨rfl, hn⟩, by rw [ht]; exact hP, hD⟩, hS.F ht⟩) hS.2.2 hd
  generalize MQ below (zMi .int out.1 D (zw_co tt kv out.2) A) args s 0 0 A = Q at hfin ⊢
  have hl := lv_entry ([.ref (kv 0), .int x1, .int x2]) (n := 3) (Nat.le_of_ble_eq_true rfl)
  refine W.eq (g2 := F0 m 0 ((lg_sl ([.ref (kv 0), .int x1, .int x2]) ++ List.replicate (3 - (lg_sl ([.ref (kv 0), .int x1, .int x2])).length) Slot.unset).toArray) []) (by rw [ha]; exact lg_entry_eq _ _ _) ?_
  generalize (lg_sl ([.ref (kv 0), .int x1, .int x2]) ++ List.replicate (3 - (lg_sl ([.ref (kv 0), .int x1, .int x2])).length) Slot.unset).toArray = ls at hl ⊢
  have hl : lv_has ls 3 [(0, .ref (kv 0)), (1, .int x1), (2, .int x2)] := hl
  rw [f_X2_takeUpShares] at h
  refine lv_aload_n hx hb dX2_takeUpShares_0 rfl (lv_at hl 0 rfl) ?_
  refine lv_iload_n hx hb dX2_takeUpShares_1 rfl (lv_at hl 1 rfl) ?_
  obtain ⟨y1, gy1, h⟩ := zb_some h
  refine z_callr (va_runV (As := [.int x1]) (rest := []) ⟨hx, hb, hml, hown, hts⟩ (c_X2_hasHolder l D tt kv bv x1 y1 gy1) (cwV 1 hts gX2_takeUpShares_X2_hasHolder rfl rfl rfl (by decide +kernel) ⟨Nat.le_of_ble_eq_true rfl, Nat.le_of_ble_eq_true rfl⟩) (z_preVr hK hP (ci := 2) (q0 := 0) rfl rfl) rfl rfl hl.1 rfl (lv_room (Nat.le_of_ble_eq_true rfl)) dX2_takeUpShares_2 ⟨Nat.zero_le _, Nat.zero_le _⟩) (fun ny1 => ?_)
  refine lv_if_eq (tgt := 19) hx hb dX2_takeUpShares_5 (by decide) (fun k2 => ?_) (fun k2 => ?_)
  · replace h := z_pos k2 h
    refine lv_iconst (v := (-1)) hx hb dX2_takeUpShares_19 (by decide) ?_
    exact hfin _ _ _ _ _ _ h rfl hP hD hS dX2_takeUpShares_20
  replace h := z_neg k2 h
  refine lv_iload_n hx hb dX2_takeUpShares_8 rfl (lv_at hl 2 rfl) ?_
  refine lv_iconst (v := 1) hx hb dX2_takeUpShares_9 (by decide) ?_
  refine lv_sipush (v := 9999) hx hb dX2_takeUpShares_10 (by decide) ?_
  obtain ⟨y3, gy3, h⟩ := zb_some h
  refine z_callr (va_runSN (As := [.int x2, .int 1, .int 9999]) (rest := []) ⟨hx, hb, hml, hown, hts⟩ (c_X9_within l D tt x2 1 9999 y3 gy3) ⟨va_cnB (host := "CapStacks") 3 hts gX2_takeUpShares_X9_within_n82 rfl rfl rfl nw82 iniX9 (by decide +kernel) ⟨Nat.le_of_ble_eq_true rfl, Nat.le_of_ble_eq_true rfl⟩, st_X9_within, trivial⟩ (z_preSr hK (hP.sub (ws' := ([] : va_W)) [] rfl)) rfl rfl hl.1 rfl (lv_room (Nat.le_of_ble_eq_true rfl)) dX2_takeUpShares_13 ⟨Nat.zero_le _, Nat.zero_le _⟩) (fun ny3 => ?_)
  refine lv_if_ne (tgt := 21) hx hb dX2_takeUpShares_16 (by decide) (fun k4 => ?_) (fun k4 => ?_)
  rotate_left
  · replace h := z_pos k4 h
    refine lv_iconst (v := (-1)) hx hb dX2_takeUpShares_19 (by decide) ?_
    exact hfin _ _ _ _ _ _ h rfl hP hD hS dX2_takeUpShares_20
  replace h := z_neg k4 h
  refine lv_aload_n hx hb dX2_takeUpShares_21 rfl (lv_at hl 0 rfl) ?_
  refine va_get (D := D) (ci := 2) (v := .ref (kv 4)) (C := RX2) (T := TX2) (N := 11) hx hb hts hi2 hown hK.1 hP 0 rfl rfl 3 (by decide) fl35 (fun _ h9 => h9) rfl dX2_takeUpShares_22 ?_
  refine va_get (D := D) (ci := 7) (v := .int (bv 0 2)) (C := RX7) (T := TX7) (N := 6) hx hb hts hi7 hown hK.1 hP 20 rfl rfl 0 (by decide) fl109 (fun _ h9 => h9) rfl dX2_takeUpShares_25 ?_
  refine lv_if_eq (tgt := 54) hx hb dX2_takeUpShares_28 (by decide) (fun k5 => ?_) (fun k5 => ?_)
  · replace h := z_pos k5 h
    refine lv_bipush (v := (-2)) hx hb dX2_takeUpShares_54 (by decide) ?_
    exact hfin _ _ _ _ _ _ h rfl hP hD hS dX2_takeUpShares_56
  replace h := z_neg k5 h
  refine lv_aload_n hx hb dX2_takeUpShares_31 rfl (lv_at hl 0 rfl) ?_
  refine va_get (D := D) (ci := 2) (v := .ref (kv 4)) (C := RX2) (T := TX2) (N := 11) hx hb hts hi2 hown hK.1 hP 0 rfl rfl 3 (by decide) fl35 (fun _ h9 => h9) rfl dX2_takeUpShares_32 ?_
  refine va_get (D := D) (ci := 7) (v := .ref (kv 21)) (C := RX7) (T := TX7) (N := 6) hx hb hts hi7 hown hK.1 hP 20 rfl rfl 4 (by decide) fl166 (fun _ h9 => h9) rfl dX2_takeUpShares_35 ?_
  refine lv_iload_n hx hb dX2_takeUpShares_38 rfl (lv_at hl 1 rfl) ?_
  obtain ⟨q6, h⟩ := zA_some h
  refine va_iald hx hb hK.1 hP 21 0 rfl rfl q6 dX2_takeUpShares_39 ?_
  refine lv_aload_n hx hb dX2_takeUpShares_40 rfl (lv_at hl 0 rfl) ?_
  refine va_get (D := D) (ci := 2) (v := .ref (kv 4)) (C := RX2) (T := TX2) (N := 11) hx hb hts hi2 hown hK.1 hP 0 rfl rfl 3 (by decide) fl35 (fun _ h9 => h9) rfl dX2_takeUpShares_41 ?_
  refine va_get (D := D) (ci := 7) (v := .ref (kv 22)) (C := RX7) (T := TX7) (N := 6) hx hb hts hi7 hown hK.1 hP 20 rfl rfl 5 (by decide) fl176 (fun _ h9 => h9) rfl dX2_takeUpShares_44 ?_
  refine lv_iload_n hx hb dX2_takeUpShares_47 rfl (lv_at hl 1 rfl) ?_
  refine va_iald hx hb hK.1 hP 22 0 rfl rfl q6 dX2_takeUpShares_48 ?_
  refine lv_iload_n hx hb dX2_takeUpShares_49 rfl (lv_at hl 2 rfl) ?_
  refine lv_iadd hx hb dX2_takeUpShares_50 ?_
  refine lv_icmp_ge (tgt := 57) hx hb dX2_takeUpShares_51 (by decide) (fun k7 => ?_) (fun k7 => ?_)
  rotate_left
  · replace h := z_neg k7 h
    refine lv_bipush (v := (-2)) hx hb dX2_takeUpShares_54 (by decide) ?_
    exact hfin _ _ _ _ _ _ h rfl hP hD hS dX2_takeUpShares_56
  replace h := z_pos k7 h
  refine lv_aload_n hx hb dX2_takeUpShares_57 rfl (lv_at hl 0 rfl) ?_
  refine va_get (D := D) (ci := 2) (v := .ref (kv 4)) (C := RX2) (T := TX2) (N := 11) hx hb hts hi2 hown hK.1 hP 0 rfl rfl 3 (by decide) fl35 (fun _ h9 => h9) rfl dX2_takeUpShares_58 ?_
  refine va_get (D := D) (ci := 7) (v := .ref (kv 22)) (C := RX7) (T := TX7) (N := 6) hx hb hts hi7 hown hK.1 hP 20 rfl rfl 5 (by decide) fl176 (fun _ h9 => h9) rfl dX2_takeUpShares_61 ?_
  refine lv_iload_n hx hb dX2_takeUpShares_64 rfl (lv_at hl 1 rfl) ?_
  refine lv_dup2_11 hx hb dX2_takeUpShares_65 rfl rfl ?_
  refine va_iald hx hb hK.1 hP 22 0 rfl rfl q6 dX2_takeUpShares_66 ?_
  refine lv_iload_n hx hb dX2_takeUpShares_67 rfl (lv_at hl 2 rfl) ?_
  refine lv_iadd hx hb dX2_takeUpShares_68 ?_
  refine va_iast hx hb hK.1 hP hD hS 22 0 rfl rfl q6 dX2_takeUpShares_69 (fun H locs hP hD hS => ?_)
  have hP : va_P D vwCl (zw_co tt kv (zu bv 18 (upd (bv 18) x1.toNatClampNeg (((bv 18) x1.toNatClampNeg) + x2)))) H := hP
  have hD : va_D A (zw_co tt kv (zu bv 18 (upd (bv 18) x1.toNatClampNeg (((bv 18) x1.toNatClampNeg) + x2)))) := hD
  refine lv_aload_n hx hb dX2_takeUpShares_70 rfl (lv_at hl 0 rfl) ?_
  refine va_get (D := D) (ci := 2) (v := .ref (kv 4)) (C := RX2) (T := TX2) (N := 11) hx hb hts hi2 hown hK.1 hP 0 rfl rfl 3 (by decide) fl35 (fun _ h9 => h9) rfl dX2_takeUpShares_71 ?_
  refine va_get (D := D) (ci := 7) (v := .ref (kv 21)) (C := RX7) (T := TX7) (N := 6) hx hb hts hi7 hown hK.1 hP 20 rfl rfl 4 (by decide) fl166 (fun _ h9 => h9) rfl dX2_takeUpShares_74 ?_
  refine lv_iload_n hx hb dX2_takeUpShares_77 rfl (lv_at hl 1 rfl) ?_
  refine va_iald hx hb hK.1 hP 21 0 rfl rfl q6 dX2_takeUpShares_78 ?_
  refine lv_aload_n hx hb dX2_takeUpShares_79 rfl (lv_at hl 0 rfl) ?_
  refine va_get (D := D) (ci := 2) (v := .ref (kv 4)) (C := RX2) (T := TX2) (N := 11) hx hb hts hi2 hown hK.1 hP 0 rfl rfl 3 (by decide) fl35 (fun _ h9 => h9) rfl dX2_takeUpShares_80 ?_
  refine va_get (D := D) (ci := 7) (v := .ref (kv 22)) (C := RX7) (T := TX7) (N := 6) hx hb hts hi7 hown hK.1 hP 20 rfl rfl 5 (by decide) fl176 (fun _ h9 => h9) rfl dX2_takeUpShares_83 ?_
  refine lv_iload_n hx hb dX2_takeUpShares_86 rfl (lv_at hl 1 rfl) ?_
  refine va_iald hx hb hK.1 hP 22 0 rfl rfl q6 dX2_takeUpShares_87 ?_
  refine lv_isub hx hb dX2_takeUpShares_88 ?_
  exact hfin _ _ _ _ _ _ h rfl hP hD hS dX2_takeUpShares_89
set_option maxHeartbeats 4000000 in
set_option maxRecDepth 100000 in
theorem c_X2_closeRound (l : Launch) (D : va_G) (tt : Nat → ClassId) (kv : Nat → Nat) (sz : Nat) (bv : zV)  (out : Int32 × zV) (h : f_X2_closeRound bv = some out) : Met l yX2_closeRound wsX2_closeRound { frames := 2, cells := 0, slots := 0, locals := 44 } (zPm [.ref (kv 0)] D tt (zw_co tt kv bv) sz) (zMi .int out.1 D (zw_co tt kv out.2) (va_A (zw_co tt kv bv) sz)) 0 0 (va_A (zw_co tt kv bv) sz) := by
  refine Met.ofW (cc := cX2_closeRound) (maxL := 3) (ret := (some .int)) (by decide) rfl ?_
  intro p e s m args below meth c s₁ B hml hv
  obtain ⟨ha, hsz, hP, hK, hD0⟩ := hv
  have hx := B.exec
  have hb := B.bytes
  have hr := B.returns
  have hts := atoms_spec (ws := wsX2_closeRound) B.pre
  have hown : s.vm.findClass RX2 = some m.cls := findClass_of_methodNamed B.named
  have hlocks := B.notSynchronized
  have hi1 : ∀ w ∈ u_ws RX1 TX1 6, w ∈ wsX2_closeRound := fun _ h => List.mem_cons_of_mem _ (List.mem_append_left _ (List.mem_append_right _ h))
  have hi2 : ∀ w ∈ u_ws RX2 TX2 11, w ∈ wsX2_closeRound := fun _ h => List.mem_cons_of_mem _ (List.mem_append_left _ (List.mem_append_left _ (List.mem_append_left _ (List.mem_append_right _ h))))
  have hi7 : ∀ w ∈ u_ws RX7 TX7 6, w ∈ wsX2_closeRound := fun _ h => List.mem_cons_of_mem _ (List.mem_append_left _ (List.mem_append_left _ (List.mem_append_right _ h)))
  have fl109 := hts (.fieldLink RX2 109 "CapStacks$Round" "on" "Z") (by decide +kernel)
  have fl12 := hts (.fieldLink RX2 12 "CapStacks$Company" "classes" "LCapStacks$Classes;") (by decide +kernel)
  have fl176 := hts (.fieldLink RX2 176 "CapStacks$Round" "takenUp" "[I") (by decide +kernel)
  have fl182 := hts (.fieldLink RX2 182 "CapStacks$Round" "of" "I") (by decide +kernel)
  have fl187 := hts (.fieldLink RX2 187 "CapStacks$Round" "leader" "I") (by decide +kernel)
  have fl190 := hts (.fieldLink RX2 190 "CapStacks$Round" "shares" "I") (by decide +kernel)
  have fl21 := hts (.fieldLink RX2 21 "CapStacks$Company" "certificates" "LCapStacks$Certificates;") (by decide +kernel)
  have fl35 := hts (.fieldLink RX2 35 "CapStacks$Company" "round" "LCapStacks$Round;") (by decide +kernel)
  have fl56 := hts (.fieldLink RX2 56 "CapStacks$Company" "holders" "I") (by decide +kernel)
  have fl64 := hts (.fieldLink RX2 64 "CapStacks$Company" "time" "I") (by decide +kernel)
  have fl67 := hts (.fieldLink RX2 67 "CapStacks$Company" "sharesIssued" "I") (by decide +kernel)
  have fl76 := hts (.fieldLink RX2 76 "CapStacks$Company" "roundMoney" "I") (by decide +kernel)
  have fl87 := hts (.fieldLink RX2 87 "CapStacks$Classes" "price" "[I") (by decide +kernel)
  subst hsz
  have hD := hD0.self (sz := s.heap.size)
  generalize hAe : va_A (zw_co tt kv bv) s.heap.size = A at hD ⊢
  have hA : ∀ q : Nat, s.heap.size ≤ q → A q := fun q h => by rw [← hAe]; exact Or.inr h
  have hS : va_S A s.heap s.heap [] := va_S.rf
  have hfin : ∀ (v : Int32) (bv : zV) (pc : Nat) (ls : Array Slot) (H : Heap) (locs : List Loc), some (v, bv) = some out → narrow .int (.int v) = .int v → va_P D vwCl (zw_co tt kv bv) H → va_D A (zw_co tt kv bv) → va_S A s.heap H locs → decode cX2_closeRound pc = .ok (.ireturn, 1) → W p l e (headSpec wsX2_closeRound { frames := 2, cells := 0, slots := 0, locals := 44 }).room s m args below meth c H locs 0 0 (MQ below (zMi .int out.1 D (zw_co tt kv out.2) A) args s 0 0 A) (F0 m pc ls [.int v]) := by
    intro v bv pc ls H locs he hn hP hD hS hd
    cases he
    exact W.zret hx hb hr hn (fun t ht hW => ⟨⟨_, (), rfl, ⟨rfl, hn⟩, by rw [ht]; exact hP, hD⟩, hS.F ht⟩) hS.2.2 hd
  generalize MQ below (zMi .int out.1 D (zw_co tt kv out.2) A) args s 0 0 A = Q at hfin ⊢
  have b134 : ∀ (bv : zV) (x1 : Int32) (H : Heap) (locs : List Loc) (ls : Array Slot), va_P D vwCl (zw_co tt kv bv) H → va_D A (zw_co tt kv bv) → va_S A s.heap H locs → lv_has ls 3 [(0, .ref (kv 0)), (1, .int x1)] → f_X2_closeRound_b134 bv x1 = some out → W p l e (headSpec wsX2_closeRound { frames := 2, cells := 0, slots := 0, locals := 44 }).room s m args below meth c H locs 0 0 Q (F0 m 134 ls []) := by
    intro bv x1 H locs ls hP hD hS hl h
    rw [f_X2_closeRound_b134] at h
    refine lv_aload_n hx hb dX2_closeRound_134 rfl (lv_at hl 0 rfl) ?_
    refine lv_dup hx hb dX2_closeRound_135 rfl ?_
    refine va_get (D := D) (ci := 2) (v := .int (bv 0 8)) (C := RX2) (T := TX2) (N := 11) hx hb hts hi2 hown hK.1 hP 0 rfl rfl 7 (by decide) fl67 (fun _ h9 => h9) rfl dX2_closeRound_136 ?_
    refine lv_aload_n hx hb dX2_closeRound_139 rfl (lv_at hl 0 rfl) ?_
    refine va_get (D := D) (ci := 2) (v := .ref (kv 4)) (C := RX2) (T := TX2) (N := 11) hx hb hts hi2 hown hK.1 hP 0 rfl rfl 3 (by decide) fl35 (fun _ h9 => h9) rfl dX2_closeRound_140 ?_
    refine va_get (D := D) (ci := 7) (v := .int (bv 0 4)) (C := RX7) (T := TX7) (N := 6) hx hb hts hi7 hown hK.1 hP 20 rfl rfl 2 (by decide) fl190 (fun _ h9 => h9) rfl dX2_closeRound_143 ?_
    refine lv_iadd hx hb dX2_closeRound_146 ?_
    refine va_put (D := D) (ci := 2) (v := .int ((bv 0 8) + (bv 0 4))) (ty := .int) (C := RX2) (T := TX2) (N := 11) hx hb hts hi2 tyX2 tyX2_ok nmX2 hown hK.1 hP hD hS 0 rfl rfl 7 (by decide) fl67 (fun _ h9 => h9) rfl (by decide +kernel) rfl rfl (Nat.le_of_ble_eq_true rfl) dX2_closeRound_147 (fun H locs hP hD hS => ?_)
    have hP : va_P D vwCl (zw_co tt kv (zu bv 0 (zu (bv 0) 8 ((bv 0 8) + (bv 0 4))))) H := hP
    have hD : va_D A (zw_co tt kv (zu bv 0 (zu (bv 0) 8 ((bv 0 8) + (bv 0 4))))) := hD
    refine lv_aload_n hx hb dX2_closeRound_150 rfl (lv_at hl 0 rfl) ?_
    refine lv_dup hx hb dX2_closeRound_151 rfl ?_
    refine va_get (D := D) (ci := 2) (v := .int (bv 0 11)) (C := RX2) (T := TX2) (N := 11) hx hb hts hi2 hown hK.1 hP 0 rfl rfl 10 (by decide) fl76 (fun _ h9 => h9) rfl dX2_closeRound_152 ?_
    refine lv_aload_n hx hb dX2_closeRound_155 rfl (lv_at hl 0 rfl) ?_
    refine va_get (D := D) (ci := 2) (v := .ref (kv 4)) (C := RX2) (T := TX2) (N := 11) hx hb hts hi2 hown hK.1 hP 0 rfl rfl 3 (by decide) fl35 (fun _ h9 => h9) rfl dX2_closeRound_156 ?_
    refine va_get (D := D) (ci := 7) (v := .int (bv 0 4)) (C := RX7) (T := TX7) (N := 6) hx hb hts hi7 hown hK.1 hP 20 rfl rfl 2 (by decide) fl190 (fun _ h9 => h9) rfl dX2_closeRound_159 ?_
    refine lv_aload_n hx hb dX2_closeRound_162 rfl (lv_at hl 0 rfl) ?_
    refine va_get (D := D) (ci := 2) (v := .ref (kv 1)) (C := RX2) (T := TX2) (N := 11) hx hb hts hi2 hown hK.1 hP 0 rfl rfl 0 (by decide) fl12 (fun _ h9 => h9) rfl dX2_closeRound_163 ?_
    refine va_get (D := D) (ci := 1) (v := .ref (kv 5)) (C := RX1) (T := TX1) (N := 6) hx hb hts hi1 hown hK.1 hP 1 rfl rfl 1 (by decide) fl87 (fun _ h9 => h9) rfl dX2_closeRound_166 ?_
    refine lv_aload_n hx hb dX2_closeRound_169 rfl (lv_at hl 0 rfl) ?_
    refine va_get (D := D) (ci := 2) (v := .ref (kv 4)) (C := RX2) (T := TX2) (N := 11) hx hb hts hi2 hown hK.1 hP 0 rfl rfl 3 (by decide) fl35 (fun _ h9 => h9) rfl dX2_closeRound_170 ?_
    refine va_get (D := D) (ci := 7) (v := .int (bv 0 3)) (C := RX7) (T := TX7) (N := 6) hx hb hts hi7 hown hK.1 hP 20 rfl rfl 1 (by decide) fl182 (fun _ h9 => h9) rfl dX2_closeRound_173 ?_
    obtain ⟨q1, h⟩ := zA_some h
    refine va_iald hx hb hK.1 hP 2 0 rfl rfl q1 dX2_closeRound_176 ?_
    refine lv_imul hx hb dX2_closeRound_177 ?_
    refine lv_iadd hx hb dX2_closeRound_178 ?_
    refine va_put (D := D) (ci := 2) (v := .int ((bv 0 11) + ((bv 0 4) * ((bv 1) (bv 0 3).toNatClampNeg)))) (ty := .int) (C := RX2) (T := TX2) (N := 11) hx hb hts hi2 tyX2 tyX2_ok nmX2 hown hK.1 hP hD hS 0 rfl rfl 10 (by decide) fl76 (fun _ h9 => h9) rfl (by decide +kernel) rfl rfl (Nat.le_of_ble_eq_true rfl) dX2_closeRound_179 (fun H locs hP hD hS => ?_)
    have hP : va_P D vwCl (zw_co tt kv (zu bv 0 (zu (zu (bv 0) 8 ((bv 0 8) + (bv 0 4))) 11 ((bv 0 11) + ((bv 0 4) * ((bv 1) (bv 0 3).toNatClampNeg)))))) H := hP
    have hD : va_D A (zw_co tt kv (zu bv 0 (zu (zu (bv 0) 8 ((bv 0 8) + (bv 0 4))) 11 ((bv 0 11) + ((bv 0 4) * ((bv 1) (bv 0 3).toNatClampNeg)))))) := hD
    refine lv_aload_n hx hb dX2_closeRound_182 rfl (lv_at hl 0 rfl) ?_
    refine va_get (D := D) (ci := 2) (v := .ref (kv 4)) (C := RX2) (T := TX2) (N := 11) hx hb hts hi2 hown hK.1 hP 0 rfl rfl 3 (by decide) fl35 (fun _ h9 => h9) rfl dX2_closeRound_183 ?_
    refine lv_iconst (v := 0) hx hb dX2_closeRound_186 (by decide) ?_
    refine va_put (D := D) (ci := 7) (v := .int 0) (ty := .boolean) (C := RX7) (T := TX7) (N := 6) hx hb hts hi7 tyX7 tyX7_ok nmX7 hown hK.1 hP hD hS 20 rfl rfl 0 (by decide) fl109 (fun _ h9 => h9) rfl (by decide +kernel) rfl rfl (Nat.le_of_ble_eq_true rfl) dX2_closeRound_187 (fun H locs hP hD hS => ?_)
    have hP : va_P D vwCl (zw_co tt kv (zu bv 0 (zu (zu (zu (bv 0) 2 0) 8 ((bv 0 8) + (bv 0 4))) 11 ((bv 0 11) + ((bv 0 4) * ((bv 1) (bv 0 3).toNatClampNeg)))))) H := hP
    have hD : va_D A (zw_co tt kv (zu bv 0 (zu (zu (zu (bv 0) 2 0) 8 ((bv 0 8) + (bv 0 4))) 11 ((bv 0 11) + ((bv 0 4) * ((bv 1) (bv 0 3).toNatClampNeg)))))) := hD
    refine lv_iload_n hx hb dX2_closeRound_190 rfl (lv_at hl 1 rfl) ?_
    exact hfin _ _ _ _ _ _ h rfl hP hD hS dX2_closeRound_191
  have b40 : ∀ n : Nat, ∀ (bv : zV) (x1 : Int32) (x2 : Int32) (H : Heap) (locs : List Loc) (ls : Array Slot), va_P D vwCl (zw_co tt kv bv) H → va_D A (zw_co tt kv bv) → va_S A s.heap H locs → lv_has ls 3 [(0, .ref (kv 0)), (1, .int x1), (2, .int x2)] → f_X2_closeRound_b40 n bv x1 x2 = some out → W p l e (headSpec wsX2_closeRound { frames := 2, cells := 0, slots := 0, locals := 44 }).room s m args below meth c H locs 0 0 Q (F0 m 40 ls []) := by
    intro n
    induction n with
    | zero =>
      intro bv x1 x2 H locs ls hP hD hS hl h
      cases h
    | succ n ih =>
      intro bv x1 x2 H locs ls hP hD hS hl h
      rw [f_X2_closeRound_b40] at h
      refine lv_iload_n hx hb dX2_closeRound_40 rfl (lv_at hl 2 rfl) ?_
      refine lv_aload_n hx hb dX2_closeRound_41 rfl (lv_at hl 0 rfl) ?_
      refine va_get (D := D) (ci := 2) (v := .int (bv 0 6)) (C := RX2) (T := TX2) (N := 11) hx hb hts hi2 hown hK.1 hP 0 rfl rfl 4 (by decide) fl56 (fun _ h9 => h9) rfl dX2_closeRound_42 ?_
      refine lv_icmp_ge (tgt := 95) hx hb dX2_closeRound_45 (by decide) (fun k2 => ?_) (fun k2 => ?_)
      · replace h := z_pos k2 h
        refine lv_aload_n hx hb dX2_closeRound_95 rfl (lv_at hl 0 rfl) ?_
        refine va_get (D := D) (ci := 2) (v := .ref (kv 4)) (C := RX2) (T := TX2) (N := 11) hx hb hts hi2 hown hK.1 hP 0 rfl rfl 3 (by decide) fl35 (fun _ h9 => h9) rfl dX2_closeRound_96 ?_
        obtain ⟨y3, gy3, h⟩ := zb_some h
        have hpm : List.Perm (zw_c0 tt kv bv ++ (zw_cl tt kv bv ++ (zw_ce tt kv bv ++ (zw_gr tt kv bv ++ (zw_ro tt kv bv ++ (zw_la tt kv bv)))))) ((zw_ro tt kv bv) ++ (zw_c0 tt kv bv ++ zw_cl tt kv bv ++ zw_ce tt kv bv ++ zw_gr tt kv bv ++ zw_la tt kv bv)) := z_pm (fun _ x => by simp only [List.count_append, List.count_nil] <;> omega)
        refine z_callr (va_runV (As := []) (rest := []) ⟨hx, hb, hml, hown, hts⟩ (c_X7_notTakenUp l D tt kv bv y3 gy3) (cwV 0 hts gX2_closeRound_X7_notTakenUp rfl rfl rfl (by decide +kernel) ⟨Nat.le_of_ble_eq_true rfl, Nat.le_of_ble_eq_true rfl⟩) (z_preVr hK (z_takeP hpm hP) (ci := 7) (q0 := 0) rfl rfl) rfl rfl hl.1 rfl (lv_room (Nat.le_of_ble_eq_true rfl)) dX2_closeRound_99 ⟨Nat.zero_le _, Nat.zero_le _⟩) (fun ny3 => ?_)
        refine lv_istore_n (lv' := [(2, .int y3), (0, .ref (kv 0)), (1, .int x1)]) hx hb dX2_closeRound_102 rfl hl (by decide) rfl (fun ls hl => ?_)
        refine lv_iload_n hx hb dX2_closeRound_103 rfl (lv_at hl 0 rfl) ?_
        refine lv_if_le (tgt := 134) hx hb dX2_closeRound_104 (by decide) (fun k4 => ?_) (fun k4 => ?_)
        · replace h := z_pos k4 h
          exact b134 bv x1 _ _ _ hP hD hS (lv_sub hl [1, 2] rfl) h
        replace h := z_neg k4 h
        refine lv_aload_n hx hb dX2_closeRound_107 rfl (lv_at hl 1 rfl) ?_
        refine va_get (D := D) (ci := 2) (v := .ref (kv 2)) (C := RX2) (T := TX2) (N := 11) hx hb hts hi2 hown hK.1 hP 0 rfl rfl 1 (by decide) fl21 (fun _ h9 => h9) rfl dX2_closeRound_108 ?_
        refine lv_aload_n hx hb dX2_closeRound_111 rfl (lv_at hl 1 rfl) ?_
        refine va_get (D := D) (ci := 2) (v := .ref (kv 4)) (C := RX2) (T := TX2) (N := 11) hx hb hts hi2 hown hK.1 hP 0 rfl rfl 3 (by decide) fl35 (fun _ h9 => h9) rfl dX2_closeRound_112 ?_
        refine va_get (D := D) (ci := 7) (v := .int (bv 0 5)) (C := RX7) (T := TX7) (N := 6) hx hb hts hi7 hown hK.1 hP 20 rfl rfl 3 (by decide) fl187 (fun _ h9 => h9) rfl dX2_closeRound_115 ?_
        refine lv_aload_n hx hb dX2_closeRound_118 rfl (lv_at hl 1 rfl) ?_
        refine va_get (D := D) (ci := 2) (v := .ref (kv 4)) (C := RX2) (T := TX2) (N := 11) hx hb hts hi2 hown hK.1 hP 0 rfl rfl 3 (by decide) fl35 (fun _ h9 => h9) rfl dX2_closeRound_119 ?_
        refine va_get (D := D) (ci := 7) (v := .int (bv 0 3)) (C := RX7) (T := TX7) (N := 6) hx hb hts hi7 hown hK.1 hP 20 rfl rfl 1 (by decide) fl182 (fun _ h9 => h9) rfl dX2_closeRound_122 ?_
        refine lv_iload_n hx hb dX2_closeRound_125 rfl (lv_at hl 0 rfl) ?_
        refine lv_aload_n hx hb dX2_closeRound_126 rfl (lv_at hl 1 rfl) ?_
        refine va_get (D := D) (ci := 2) (v := .int (bv 0 7)) (C := RX2) (T := TX2) (N := 11) hx hb hts hi2 hown hK.1 hP 0 rfl rfl 6 (by decide) fl64 (fun _ h9 => h9) rfl dX2_closeRound_127 ?_
        obtain ⟨y5, gy5, h⟩ := zb_some h
        have hpm : List.Perm (zw_c0 tt kv bv ++ (zw_cl tt kv bv ++ (zw_ce tt kv bv ++ (zw_gr tt kv bv ++ (zw_ro tt kv bv ++ (zw_la tt kv bv)))))) ((zw_ce tt kv bv) ++ (zw_c0 tt kv bv ++ zw_cl tt kv bv ++ zw_gr tt kv bv ++ zw_ro tt kv bv ++ zw_la tt kv bv)) := z_pm (fun _ x => by simp only [List.count_append, List.count_nil] <;> omega)
        have hPc := z_takeP hpm hP
        have hDc := z_takeD hpm hD
        have hFc := z_free0 hDc hS hA
        refine z_callmi (wc := (zw_ce tt kv bv)) (w1 := (zw_ce tt kv y5.2)) (va_runV (As := [.int (bv 0 5), .int (bv 0 3), .int y3, .int (bv 0 7)]) (rest := []) ⟨hx, hb, hml, hown, hts⟩ (c_X0_add l D tt kv _ bv (bv 0 5) (bv 0 3) y3 (bv 0 7) y5 gy5) (cwV 4 hts gX2_closeRound_X0_add rfl rfl rfl (by decide +kernel) ⟨Nat.le_of_ble_eq_true rfl, Nat.le_of_ble_eq_true rfl⟩) (z_preVm hK hPc hDc (ci := 0) (q0 := 0) rfl rfl) rfl rfl hl.1 rfl (lv_room (Nat.le_of_ble_eq_true rfl)) dX2_closeRound_130 ⟨Nat.zero_le _, Nat.zero_le _⟩) hS hFc (fun H locs ny5 hP1 hD1 hk1 hS => ?_)
        have hpm2 : List.Perm (zw_c0 tt kv bv ++ (zw_cl tt kv bv ++ (zw_ce tt kv y5.2 ++ (zw_gr tt kv bv ++ (zw_ro tt kv bv ++ (zw_la tt kv bv)))))) ((zw_ce tt kv y5.2) ++ (zw_c0 tt kv bv ++ zw_cl tt kv bv ++ zw_gr tt kv bv ++ zw_ro tt kv bv ++ zw_la tt kv bv)) := z_pm (fun _ x => by simp only [List.count_append, List.count_nil] <;> omega)
        obtain ⟨hP, hD⟩ := z_joinB hpm hpm2 hP hD hk1 hFc hP1 hD1
        clear hpm hpm2
        have hP : va_P D vwCl (zw_co tt kv (zg_ce y5.2 bv)) H := hP
        have hD : va_D A (zw_co tt kv (zg_ce y5.2 bv)) := hD
        refine lv_pop hx hb dX2_closeRound_133 rfl ?_
        exact b134 (zg_ce y5.2 bv) x1 _ _ _ hP hD hS (lv_sub hl [1, 2] rfl) h
      replace h := z_neg k2 h
      refine lv_aload_n hx hb dX2_closeRound_48 rfl (lv_at hl 0 rfl) ?_
      refine va_get (D := D) (ci := 2) (v := .ref (kv 4)) (C := RX2) (T := TX2) (N := 11) hx hb hts hi2 hown hK.1 hP 0 rfl rfl 3 (by decide) fl35 (fun _ h9 => h9) rfl dX2_closeRound_49 ?_
      refine va_get (D := D) (ci := 7) (v := .ref (kv 22)) (C := RX7) (T := TX7) (N := 6) hx hb hts hi7 hown hK.1 hP 20 rfl rfl 5 (by decide) fl176 (fun _ h9 => h9) rfl dX2_closeRound_52 ?_
      refine lv_iload_n hx hb dX2_closeRound_55 rfl (lv_at hl 2 rfl) ?_
      obtain ⟨q6, h⟩ := zA_some h
      refine va_iald hx hb hK.1 hP 22 0 rfl rfl q6 dX2_closeRound_56 ?_
      refine lv_if_le (tgt := 89) hx hb dX2_closeRound_57 (by decide) (fun k7 => ?_) (fun k7 => ?_)
      · replace h := z_pos k7 h
        refine lv_iinc (v := (x2 + 1)) (lv' := [(2, .int (x2 + 1)), (0, .ref (kv 0)), (1, .int x1)]) hx hb dX2_closeRound_89 hl (k := 2) rfl rfl (by decide) rfl (fun ls hl => ?_)
        refine lv_goto (tgt := 40) hx hb dX2_closeRound_92 (by decide) ?_
        exact ih bv x1 (x2 + 1) _ _ _ hP hD hS (lv_sub hl [1, 2, 0] rfl) h
      replace h := z_neg k7 h
      refine lv_aload_n hx hb dX2_closeRound_60 rfl (lv_at hl 0 rfl) ?_
      refine va_get (D := D) (ci := 2) (v := .ref (kv 2)) (C := RX2) (T := TX2) (N := 11) hx hb hts hi2 hown hK.1 hP 0 rfl rfl 1 (by decide) fl21 (fun _ h9 => h9) rfl dX2_closeRound_61 ?_
      refine lv_iload_n hx hb dX2_closeRound_64 rfl (lv_at hl 2 rfl) ?_
      refine lv_aload_n hx hb dX2_closeRound_65 rfl (lv_at hl 0 rfl) ?_
      refine va_get (D := D) (ci := 2) (v := .ref (kv 4)) (C := RX2) (T := TX2) (N := 11) hx hb hts hi2 hown hK.1 hP 0 rfl rfl 3 (by decide) fl35 (fun _ h9 => h9) rfl dX2_closeRound_66 ?_
      refine va_get (D := D) (ci := 7) (v := .int (bv 0 3)) (C := RX7) (T := TX7) (N := 6) hx hb hts hi7 hown hK.1 hP 20 rfl rfl 1 (by decide) fl182 (fun _ h9 => h9) rfl dX2_closeRound_69 ?_
      refine lv_aload_n hx hb dX2_closeRound_72 rfl (lv_at hl 0 rfl) ?_
      refine va_get (D := D) (ci := 2) (v := .ref (kv 4)) (C := RX2) (T := TX2) (N := 11) hx hb hts hi2 hown hK.1 hP 0 rfl rfl 3 (by decide) fl35 (fun _ h9 => h9) rfl dX2_closeRound_73 ?_
      refine va_get (D := D) (ci := 7) (v := .ref (kv 22)) (C := RX7) (T := TX7) (N := 6) hx hb hts hi7 hown hK.1 hP 20 rfl rfl 5 (by decide) fl176 (fun _ h9 => h9) rfl dX2_closeRound_76 ?_
      refine lv_iload_n hx hb dX2_closeRound_79 rfl (lv_at hl 2 rfl) ?_
      refine va_iald hx hb hK.1 hP 22 0 rfl rfl q6 dX2_closeRound_80 ?_
      refine lv_aload_n hx hb dX2_closeRound_81 rfl (lv_at hl 0 rfl) ?_
      refine va_get (D := D) (ci := 2) (v := .int (bv 0 7)) (C := RX2) (T := TX2) (N := 11) hx hb hts hi2 hown hK.1 hP 0 rfl rfl 6 (by decide) fl64 (fun _ h9 => h9) rfl dX2_closeRound_82 ?_
      obtain ⟨y8, gy8, h⟩ := zb_some h
      have hpm : List.Perm (zw_c0 tt kv bv ++ (zw_cl tt kv bv ++ (zw_ce tt kv bv ++ (zw_gr tt kv bv ++ (zw_ro tt kv bv ++ (zw_la tt kv bv)))))) ((zw_ce tt kv bv) ++ (zw_c0 tt kv bv ++ zw_cl tt kv bv ++ zw_gr tt kv bv ++ zw_ro tt kv bv ++ zw_la tt kv bv)) := z_pm (fun _ x => by simp only [List.count_append, List.count_nil] <;> omega)
      have hPc := z_takeP hpm hP
      have hDc := z_takeD hpm hD
      have hFc := z_free0 hDc hS hA
      refine z_callmi (wc := (zw_ce tt kv bv)) (w1 := (zw_ce tt kv y8.2)) (va_runV (As := [.int x2, .int (bv 0 3), .int ((bv 18) x2.toNatClampNeg), .int (bv 0 7)]) (rest := []) ⟨hx, hb, hml, hown, hts⟩ (c_X0_add l D tt kv _ bv x2 (bv 0 3) ((bv 18) x2.toNatClampNeg) (bv 0 7) y8 gy8) (cwV 4 hts gX2_closeRound_X0_add rfl rfl rfl (by decide +kernel) ⟨Nat.le_of_ble_eq_true rfl, Nat.le_of_ble_eq_true rfl⟩) (z_preVm hK hPc hDc (ci := 0) (q0 := 0) rfl rfl) rfl rfl hl.1 rfl (lv_room (Nat.le_of_ble_eq_true rfl)) dX2_closeRound_85 ⟨Nat.zero_le _, Nat.zero_le _⟩) hS hFc (fun H locs ny8 hP1 hD1 hk1 hS => ?_)
      have hpm2 : List.Perm (zw_c0 tt kv bv ++ (zw_cl tt kv bv ++ (zw_ce tt kv y8.2 ++ (zw_gr tt kv bv ++ (zw_ro tt kv bv ++ (zw_la tt kv bv)))))) ((zw_ce tt kv y8.2) ++ (zw_c0 tt kv bv ++ zw_cl tt kv bv ++ zw_gr tt kv bv ++ zw_ro tt kv bv ++ zw_la tt kv bv)) := z_pm (fun _ x => by simp only [List.count_append, List.count_nil] <;> omega)
      obtain ⟨hP, hD⟩ := z_joinB hpm hpm2 hP hD hk1 hFc hP1 hD1
      clear hpm hpm2
      have hP : va_P D vwCl (zw_co tt kv (zg_ce y8.2 bv)) H := hP
      have hD : va_D A (zw_co tt kv (zg_ce y8.2 bv)) := hD
      refine lv_pop hx hb dX2_closeRound_88 rfl ?_
      refine lv_iinc (v := (x2 + 1)) (lv' := [(2, .int (x2 + 1)), (0, .ref (kv 0)), (1, .int x1)]) hx hb dX2_closeRound_89 hl (k := 2) rfl rfl (by decide) rfl (fun ls hl => ?_)
      refine lv_goto (tgt := 40) hx hb dX2_closeRound_92 (by decide) ?_
      exact ih (zg_ce y8.2 bv) x1 (x2 + 1) _ _ _ hP hD hS (lv_sub hl [1, 2, 0] rfl) h
  have hl := lv_entry ([.ref (kv 0)]) (n := 3) (Nat.le_of_ble_eq_true rfl)
  refine W.eq (g2 := F0 m 0 ((lg_sl ([.ref (kv 0)]) ++ List.replicate (3 - (lg_sl ([.ref (kv 0)])).length) Slot.unset).toArray) []) (by rw [ha]; exact lg_entry_eq _ _ _) ?_
  generalize (lg_sl ([.ref (kv 0)]) ++ List.replicate (3 - (lg_sl ([.ref (kv 0)])).length) Slot.unset).toArray = ls at hl ⊢
  have hl : lv_has ls 3 [(0, .ref (kv 0))] := hl
  rw [f_X2_closeRound] at h
  refine lv_aload_n hx hb dX2_closeRound_0 rfl (lv_at hl 0 rfl) ?_
  refine va_get (D := D) (ci := 2) (v := .ref (kv 4)) (C := RX2) (T := TX2) (N := 11) hx hb hts hi2 hown hK.1 hP 0 rfl rfl 3 (by decide) fl35 (fun _ h9 => h9) rfl dX2_closeRound_1 ?_
  refine va_get (D := D) (ci := 7) (v := .int (bv 0 2)) (C := RX7) (T := TX7) (N := 6) hx hb hts hi7 hown hK.1 hP 20 rfl rfl 0 (by decide) fl109 (fun _ h9 => h9) rfl dX2_closeRound_4 ?_
  refine lv_if_ne (tgt := 13) hx hb dX2_closeRound_7 (by decide) (fun k9 => ?_) (fun k9 => ?_)
  rotate_left
  · replace h := z_pos k9 h
    refine lv_bipush (v := (-2)) hx hb dX2_closeRound_10 (by decide) ?_
    exact hfin _ _ _ _ _ _ h rfl hP hD hS dX2_closeRound_12
  replace h := z_neg k9 h
  refine lv_aload_n hx hb dX2_closeRound_13 rfl (lv_at hl 0 rfl) ?_
  refine va_get (D := D) (ci := 2) (v := .ref (kv 4)) (C := RX2) (T := TX2) (N := 11) hx hb hts hi2 hown hK.1 hP 0 rfl rfl 3 (by decide) fl35 (fun _ h9 => h9) rfl dX2_closeRound_14 ?_
  obtain ⟨y10, gy10, h⟩ := zb_some h
  have hpm : List.Perm (zw_c0 tt kv bv ++ (zw_cl tt kv bv ++ (zw_ce tt kv bv ++ (zw_gr tt kv bv ++ (zw_ro tt kv bv ++ (zw_la tt kv bv)))))) ((zw_ro tt kv bv) ++ (zw_c0 tt kv bv ++ zw_cl tt kv bv ++ zw_ce tt kv bv ++ zw_gr tt kv bv ++ zw_la tt kv bv)) := z_pm (fun _ x => by simp only [List.count_append, List.count_nil] <;> omega)
  refine z_callr (va_runV (As := []) (rest := []) ⟨hx, hb, hml, hown, hts⟩ (c_X7_certificatesToMake l D tt kv bv y10 gy10) (cwV 0 hts gX2_closeRound_X7_certificatesToMake rfl rfl rfl (by decide +kernel) ⟨Nat.le_of_ble_eq_true rfl, Nat.le_of_ble_eq_true rfl⟩) (z_preVr hK (z_takeP hpm hP) (ci := 7) (q0 := 0) rfl rfl) rfl rfl hl.1 rfl (lv_room (Nat.le_of_ble_eq_true rfl)) dX2_closeRound_17 ⟨Nat.zero_le _, Nat.zero_le _⟩) (fun ny10 => ?_)
  refine lv_istore_n (lv' := [(1, .int y10), (0, .ref (kv 0))]) hx hb dX2_closeRound_20 rfl hl (by decide) rfl (fun ls hl => ?_)
  refine lv_aload_n hx hb dX2_closeRound_21 rfl (lv_at hl 1 rfl) ?_
  refine va_get (D := D) (ci := 2) (v := .ref (kv 2)) (C := RX2) (T := TX2) (N := 11) hx hb hts hi2 hown hK.1 hP 0 rfl rfl 1 (by decide) fl21 (fun _ h9 => h9) rfl dX2_closeRound_22 ?_
  obtain ⟨y11, gy11, h⟩ := zb_some h
  have hpm : List.Perm (zw_c0 tt kv bv ++ (zw_cl tt kv bv ++ (zw_ce tt kv bv ++ (zw_gr tt kv bv ++ (zw_ro tt kv bv ++ (zw_la tt kv bv)))))) ((zw_ce tt kv bv) ++ (zw_c0 tt kv bv ++ zw_cl tt kv bv ++ zw_gr tt kv bv ++ zw_ro tt kv bv ++ zw_la tt kv bv)) := z_pm (fun _ x => by simp only [List.count_append, List.count_nil] <;> omega)
  refine z_callr (va_runV (As := []) (rest := []) ⟨hx, hb, hml, hown, hts⟩ (c_X0_size l D tt kv bv y11 gy11) (cwV 0 hts gX2_closeRound_X0_size rfl rfl rfl (by decide +kernel) ⟨Nat.le_of_ble_eq_true rfl, Nat.le_of_ble_eq_true rfl⟩) (z_preVr hK (z_takeP hpm hP) (ci := 0) (q0 := 0) rfl rfl) rfl rfl hl.1 rfl (lv_room (Nat.le_of_ble_eq_true rfl)) dX2_closeRound_25 ⟨Nat.zero_le _, Nat.zero_le _⟩) (fun ny11 => ?_)
  refine lv_iload_n hx hb dX2_closeRound_28 rfl (lv_at hl 0 rfl) ?_
  refine lv_iadd hx hb dX2_closeRound_29 ?_
  refine lv_bipush (v := 24) hx hb dX2_closeRound_30 (by decide) ?_
  refine lv_icmp_le (tgt := 38) hx hb dX2_closeRound_32 (by decide) (fun k12 => ?_) (fun k12 => ?_)
  rotate_left
  · replace h := z_neg k12 h
    refine lv_bipush (v := (-3)) hx hb dX2_closeRound_35 (by decide) ?_
    exact hfin _ _ _ _ _ _ h rfl hP hD hS dX2_closeRound_37
  replace h := z_pos k12 h
  refine lv_iconst (v := 0) hx hb dX2_closeRound_38 (by decide) ?_
  refine lv_istore_n (lv' := [(2, .int 0), (1, .int y10), (0, .ref (kv 0))]) hx hb dX2_closeRound_39 rfl hl (by decide) rfl (fun ls hl => ?_)
  exact b40 1000 bv y10 0 _ _ _ hP hD hS (lv_sub hl [2, 1, 0] rfl) h
set_option maxHeartbeats 4000000 in
set_option maxRecDepth 100000 in
theorem c_X2_aboutRound (l : Launch) (D : va_G) (tt : Nat → ClassId) (kv : Nat → Nat) (bv : zV) (x1 : Int32) (x2 : Int32) (out : Int32) (h : f_X2_aboutRound bv x1 x2 = some out) : Met l yX2_aboutRound wsX2_aboutRound { frames := 2, cells := 0, slots := 0, locals := 43 } (zPr [.ref (kv 0), .int x1, .int x2] D tt (zw_co tt kv bv)) (zQr .int out) 0 0 (fun _ => False) := by
  refine Met.ofW (cc := cX2_aboutRound) (maxL := 3) (ret := (some .int)) (by decide) rfl ?_
  intro p e s m args below meth c s₁ B hml hv
  obtain ⟨ha, hP, hK⟩ := hv
  have hx := B.exec
  have hb := B.bytes
  have hr := B.returns
  have hts := atoms_spec (ws := wsX2_aboutRound) B.pre
  have hown : s.vm.findClass RX2 = some m.cls := findClass_of_methodNamed B.named
  have hlocks := B.notSynchronized
  have hi2 : ∀ w ∈ u_ws RX2 TX2 11, w ∈ wsX2_aboutRound := fun _ h => List.mem_cons_of_mem _ (List.mem_append_left _ (List.mem_append_right _ h))
  have hi7 : ∀ w ∈ u_ws RX7 TX7 6, w ∈ wsX2_aboutRound := fun _ h => List.mem_cons_of_mem _ (List.mem_append_right _ h)
  have fl109 := hts (.fieldLink RX2 109 "CapStacks$Round" "on" "Z") (by decide +kernel)
  have fl166 := hts (.fieldLink RX2 166 "CapStacks$Round" "right" "[I") (by decide +kernel)
  have fl176 := hts (.fieldLink RX2 176 "CapStacks$Round" "takenUp" "[I") (by decide +kernel)
  have fl182 := hts (.fieldLink RX2 182 "CapStacks$Round" "of" "I") (by decide +kernel)
  have fl187 := hts (.fieldLink RX2 187 "CapStacks$Round" "leader" "I") (by decide +kernel)
  have fl190 := hts (.fieldLink RX2 190 "CapStacks$Round" "shares" "I") (by decide +kernel)
  have fl35 := hts (.fieldLink RX2 35 "CapStacks$Company" "round" "LCapStacks$Round;") (by decide +kernel)
  have iniX9 := hts (.initialized RX9) (by decide +kernel)
  have st_X9_within := hts (.static yX9_within) (by decide +kernel)
  have nw82 : va_Nw (.methodLinkNest RX2 82 yX9_within "CapStacks") s := hK.2.1 (RX2, 82, yX9_within, "CapStacks") (List.mem_of_getElem? (i := 13) rfl)
  have hfin : ∀ (v : Int32) (pc : Nat) (ls : Array Slot), some v = some out → narrow .int (.int v) = .int v → decode cX2_aboutRound pc = .ok (.ireturn, 1) → W p l e (headSpec wsX2_aboutRound { frames := 2, cells := 0, slots := 0, locals := 43 }).room s m args below meth c s.heap [] 0 0 (MQ below (zQr .int out) args s 0 0 (fun _ => False)) (F0 m pc ls [.int v]) := by
    intro v pc ls he hn hd
    cases he
    exact W.zret hx hb hr hn (fun t ht hW => ⟨rfl, hn, ht⟩) (fun _ h => by cases h) hd
  generalize MQ below (zQr .int out) args s 0 0 (fun _ => False) = Q at hfin ⊢
  have hl := lv_entry ([.ref (kv 0), .int x1, .int x2]) (n := 3) (Nat.le_of_ble_eq_true rfl)
  refine W.eq (g2 := F0 m 0 ((lg_sl ([.ref (kv 0), .int x1, .int x2]) ++ List.replicate (3 - (lg_sl ([.ref (kv 0), .int x1, .int x2])).length) Slot.unset).toArray) []) (by rw [ha]; exact lg_entry_eq _ _ _) ?_
  generalize (lg_sl ([.ref (kv 0), .int x1, .int x2]) ++ List.replicate (3 - (lg_sl ([.ref (kv 0), .int x1, .int x2])).length) Slot.unset).toArray = ls at hl ⊢
  have hl : lv_has ls 3 [(0, .ref (kv 0)), (1, .int x1), (2, .int x2)] := hl
  rw [f_X2_aboutRound] at h
  refine lv_aload_n hx hb dX2_aboutRound_0 rfl (lv_at hl 0 rfl) ?_
  refine lv_iload_n hx hb dX2_aboutRound_1 rfl (lv_at hl 1 rfl) ?_
  obtain ⟨y1, gy1, h⟩ := zb_some h
  refine z_callr (va_runV (As := [.int x1]) (rest := []) ⟨hx, hb, hml, hown, hts⟩ (c_X2_hasHolder l D tt kv bv x1 y1 gy1) (cwV 1 hts gX2_aboutRound_X2_hasHolder rfl rfl rfl (by decide +kernel) ⟨Nat.le_of_ble_eq_true rfl, Nat.le_of_ble_eq_true rfl⟩) (z_preVr hK hP (ci := 2) (q0 := 0) rfl rfl) rfl rfl hl.1 rfl (lv_room (Nat.le_of_ble_eq_true rfl)) dX2_aboutRound_2 ⟨Nat.zero_le _, Nat.zero_le _⟩) (fun ny1 => ?_)
  refine lv_if_eq (tgt := 17) hx hb dX2_aboutRound_5 (by decide) (fun k2 => ?_) (fun k2 => ?_)
  · replace h := z_pos k2 h
    refine lv_iconst (v := (-1)) hx hb dX2_aboutRound_17 (by decide) ?_
    exact hfin _ _ _ h rfl dX2_aboutRound_18
  replace h := z_neg k2 h
  refine lv_iload_n hx hb dX2_aboutRound_8 rfl (lv_at hl 2 rfl) ?_
  refine lv_iconst (v := 0) hx hb dX2_aboutRound_9 (by decide) ?_
  refine lv_iconst (v := 4) hx hb dX2_aboutRound_10 (by decide) ?_
  obtain ⟨y3, gy3, h⟩ := zb_some h
  refine z_callr (va_runSN (As := [.int x2, .int 0, .int 4]) (rest := []) ⟨hx, hb, hml, hown, hts⟩ (c_X9_within l D tt x2 0 4 y3 gy3) ⟨va_cnB (host := "CapStacks") 3 hts gX2_aboutRound_X9_within_n82 rfl rfl rfl nw82 iniX9 (by decide +kernel) ⟨Nat.le_of_ble_eq_true rfl, Nat.le_of_ble_eq_true rfl⟩, st_X9_within, trivial⟩ (z_preSr hK (hP.sub (ws' := ([] : va_W)) [] rfl)) rfl rfl hl.1 rfl (lv_room (Nat.le_of_ble_eq_true rfl)) dX2_aboutRound_11 ⟨Nat.zero_le _, Nat.zero_le _⟩) (fun ny3 => ?_)
  refine lv_if_ne (tgt := 19) hx hb dX2_aboutRound_14 (by decide) (fun k4 => ?_) (fun k4 => ?_)
  rotate_left
  · replace h := z_pos k4 h
    refine lv_iconst (v := (-1)) hx hb dX2_aboutRound_17 (by decide) ?_
    exact hfin _ _ _ h rfl dX2_aboutRound_18
  replace h := z_neg k4 h
  refine lv_aload_n hx hb dX2_aboutRound_19 rfl (lv_at hl 0 rfl) ?_
  refine va_get (D := D) (ci := 2) (v := .ref (kv 4)) (C := RX2) (T := TX2) (N := 11) hx hb hts hi2 hown hK.1 hP 0 rfl rfl 3 (by decide) fl35 (fun _ h9 => h9) rfl dX2_aboutRound_20 ?_
  refine va_get (D := D) (ci := 7) (v := .int (bv 0 2)) (C := RX7) (T := TX7) (N := 6) hx hb hts hi7 hown hK.1 hP 20 rfl rfl 0 (by decide) fl109 (fun _ h9 => h9) rfl dX2_aboutRound_23 ?_
  refine lv_if_ne (tgt := 32) hx hb dX2_aboutRound_26 (by decide) (fun k5 => ?_) (fun k5 => ?_)
  rotate_left
  · replace h := z_pos k5 h
    refine lv_bipush (v := (-4)) hx hb dX2_aboutRound_29 (by decide) ?_
    exact hfin _ _ _ h rfl dX2_aboutRound_31
  replace h := z_neg k5 h
  refine lv_iload_n hx hb dX2_aboutRound_32 rfl (lv_at hl 2 rfl) ?_
  by_cases k6 : x2 = 0
  · replace h := z_pos k6 h
    rw [k6]
    refine lv_tableIn (off := 31) (tgt := 64) hx hb dX2_aboutRound_33 (by decide) (by decide) (by decide) (by decide) ?_
    refine lv_aload_n hx hb dX2_aboutRound_64 rfl (lv_at hl 0 rfl) ?_
    refine va_get (D := D) (ci := 2) (v := .ref (kv 4)) (C := RX2) (T := TX2) (N := 11) hx hb hts hi2 hown hK.1 hP 0 rfl rfl 3 (by decide) fl35 (fun _ h9 => h9) rfl dX2_aboutRound_65 ?_
    refine va_get (D := D) (ci := 7) (v := .ref (kv 21)) (C := RX7) (T := TX7) (N := 6) hx hb hts hi7 hown hK.1 hP 20 rfl rfl 4 (by decide) fl166 (fun _ h9 => h9) rfl dX2_aboutRound_68 ?_
    refine lv_iload_n hx hb dX2_aboutRound_71 rfl (lv_at hl 1 rfl) ?_
    obtain ⟨q7, h⟩ := zA_some h
    refine va_iald hx hb hK.1 hP 21 0 rfl rfl q7 dX2_aboutRound_72 ?_
    exact hfin _ _ _ h rfl dX2_aboutRound_73
  replace h := z_neg k6 h
  by_cases k8 : x2 = 1
  · replace h := z_pos k8 h
    rw [k8]
    refine lv_tableIn (off := 41) (tgt := 74) hx hb dX2_aboutRound_33 (by decide) (by decide) (by decide) (by decide) ?_
    refine lv_aload_n hx hb dX2_aboutRound_74 rfl (lv_at hl 0 rfl) ?_
    refine va_get (D := D) (ci := 2) (v := .ref (kv 4)) (C := RX2) (T := TX2) (N := 11) hx hb hts hi2 hown hK.1 hP 0 rfl rfl 3 (by decide) fl35 (fun _ h9 => h9) rfl dX2_aboutRound_75 ?_
    refine va_get (D := D) (ci := 7) (v := .ref (kv 22)) (C := RX7) (T := TX7) (N := 6) hx hb hts hi7 hown hK.1 hP 20 rfl rfl 5 (by decide) fl176 (fun _ h9 => h9) rfl dX2_aboutRound_78 ?_
    refine lv_iload_n hx hb dX2_aboutRound_81 rfl (lv_at hl 1 rfl) ?_
    obtain ⟨q9, h⟩ := zA_some h
    refine va_iald hx hb hK.1 hP 22 0 rfl rfl q9 dX2_aboutRound_82 ?_
    exact hfin _ _ _ h rfl dX2_aboutRound_83
  replace h := z_neg k8 h
  by_cases k10 : x2 = 2
  · replace h := z_pos k10 h
    rw [k10]
    refine lv_tableIn (off := 51) (tgt := 84) hx hb dX2_aboutRound_33 (by decide) (by decide) (by decide) (by decide) ?_
    refine lv_aload_n hx hb dX2_aboutRound_84 rfl (lv_at hl 0 rfl) ?_
    refine va_get (D := D) (ci := 2) (v := .ref (kv 4)) (C := RX2) (T := TX2) (N := 11) hx hb hts hi2 hown hK.1 hP 0 rfl rfl 3 (by decide) fl35 (fun _ h9 => h9) rfl dX2_aboutRound_85 ?_
    refine va_get (D := D) (ci := 7) (v := .int (bv 0 3)) (C := RX7) (T := TX7) (N := 6) hx hb hts hi7 hown hK.1 hP 20 rfl rfl 1 (by decide) fl182 (fun _ h9 => h9) rfl dX2_aboutRound_88 ?_
    exact hfin _ _ _ h rfl dX2_aboutRound_91
  replace h := z_neg k10 h
  by_cases k11 : x2 = 3
  · replace h := z_pos k11 h
    rw [k11]
    refine lv_tableIn (off := 59) (tgt := 92) hx hb dX2_aboutRound_33 (by decide) (by decide) (by decide) (by decide) ?_
    refine lv_aload_n hx hb dX2_aboutRound_92 rfl (lv_at hl 0 rfl) ?_
    refine va_get (D := D) (ci := 2) (v := .ref (kv 4)) (C := RX2) (T := TX2) (N := 11) hx hb hts hi2 hown hK.1 hP 0 rfl rfl 3 (by decide) fl35 (fun _ h9 => h9) rfl dX2_aboutRound_93 ?_
    refine va_get (D := D) (ci := 7) (v := .int (bv 0 4)) (C := RX7) (T := TX7) (N := 6) hx hb hts hi7 hown hK.1 hP 20 rfl rfl 2 (by decide) fl190 (fun _ h9 => h9) rfl dX2_aboutRound_96 ?_
    exact hfin _ _ _ h rfl dX2_aboutRound_99
  replace h := z_neg k11 h
  have ek6 : Int32.toInt x2 ≠ 0 := fun e => k6 (Int32.toInt_inj.mp (e.trans (by decide)))
  have ek8 : Int32.toInt x2 ≠ 1 := fun e => k8 (Int32.toInt_inj.mp (e.trans (by decide)))
  have ek10 : Int32.toInt x2 ≠ 2 := fun e => k10 (Int32.toInt_inj.mp (e.trans (by decide)))
  have ek11 : Int32.toInt x2 ≠ 3 := fun e => k11 (Int32.toInt_inj.mp (e.trans (by decide)))
  refine lv_tableOut (tgt := 100) hx hb dX2_aboutRound_33 (by omega) (by decide) ?_
  refine lv_aload_n hx hb dX2_aboutRound_100 rfl (lv_at hl 0 rfl) ?_
  refine va_get (D := D) (ci := 2) (v := .ref (kv 4)) (C := RX2) (T := TX2) (N := 11) hx hb hts hi2 hown hK.1 hP 0 rfl rfl 3 (by decide) fl35 (fun _ h9 => h9) rfl dX2_aboutRound_101 ?_
  refine va_get (D := D) (ci := 7) (v := .int (bv 0 5)) (C := RX7) (T := TX7) (N := 6) hx hb hts hi7 hown hK.1 hP 20 rfl rfl 3 (by decide) fl187 (fun _ h9 => h9) rfl dX2_aboutRound_104 ?_
  exact hfin _ _ _ h rfl dX2_aboutRound_107
set_option maxHeartbeats 4000000 in
set_option maxRecDepth 100000 in
theorem c_X2_aboutClass (l : Launch) (D : va_G) (tt : Nat → ClassId) (kv : Nat → Nat) (bv : zV) (x1 : Int32) (x2 : Int32) (out : Int32) (h : f_X2_aboutClass bv x1 x2 = some out) : Met l yX2_aboutClass wsX2_aboutClass { frames := 2, cells := 0, slots := 0, locals := 43 } (zPr [.ref (kv 0), .int x1, .int x2] D tt (zw_co tt kv bv)) (zQr .int out) 0 0 (fun _ => False) := by
  refine Met.ofW (cc := cX2_aboutClass) (maxL := 3) (ret := (some .int)) (by decide) rfl ?_
  intro p e s m args below meth c s₁ B hml hv
  obtain ⟨ha, hP, hK⟩ := hv
  have hx := B.exec
  have hb := B.bytes
  have hr := B.returns
  have hts := atoms_spec (ws := wsX2_aboutClass) B.pre
  have hown : s.vm.findClass RX2 = some m.cls := findClass_of_methodNamed B.named
  have hlocks := B.notSynchronized
  have hi1 : ∀ w ∈ u_ws RX1 TX1 6, w ∈ wsX2_aboutClass := fun _ h => List.mem_cons_of_mem _ (List.mem_append_left _ (List.mem_append_right _ h))
  have hi2 : ∀ w ∈ u_ws RX2 TX2 11, w ∈ wsX2_aboutClass := fun _ h => List.mem_cons_of_mem _ (List.mem_append_left _ (List.mem_append_left _ (List.mem_append_right _ h)))
  have fl12 := hts (.fieldLink RX2 12 "CapStacks$Company" "classes" "LCapStacks$Classes;") (by decide +kernel)
  have fl21 := hts (.fieldLink RX2 21 "CapStacks$Company" "certificates" "LCapStacks$Certificates;") (by decide +kernel)
  have fl87 := hts (.fieldLink RX2 87 "CapStacks$Classes" "price" "[I") (by decide +kernel)
  have fl90 := hts (.fieldLink RX2 90 "CapStacks$Classes" "multiple" "[I") (by decide +kernel)
  have fl93 := hts (.fieldLink RX2 93 "CapStacks$Classes" "rank" "[I") (by decide +kernel)
  have fl96 := hts (.fieldLink RX2 96 "CapStacks$Classes" "kind" "[I") (by decide +kernel)
  have fl99 := hts (.fieldLink RX2 99 "CapStacks$Classes" "ratio" "[I") (by decide +kernel)
  have iniX9 := hts (.initialized RX9) (by decide +kernel)
  have st_X9_within := hts (.static yX9_within) (by decide +kernel)
  have nw82 : va_Nw (.methodLinkNest RX2 82 yX9_within "CapStacks") s := hK.2.1 (RX2, 82, yX9_within, "CapStacks") (List.mem_of_getElem? (i := 13) rfl)
  have hfin : ∀ (v : Int32) (pc : Nat) (ls : Array Slot), some v = some out → narrow .int (.int v) = .int v → decode cX2_aboutClass pc = .ok (.ireturn, 1) → W p l e (headSpec wsX2_aboutClass { frames := 2, cells := 0, slots := 0, locals := 43 }).room s m args below meth c s.heap [] 0 0 (MQ below (zQr .int out) args s 0 0 (fun _ => False)) (F0 m pc ls [.int v]) := by
    intro v pc ls he hn hd
    cases he
    exact W.zret hx hb hr hn (fun t ht hW => ⟨rfl, hn, ht⟩) (fun _ h => by cases h) hd
  generalize MQ below (zQr .int out) args s 0 0 (fun _ => False) = Q at hfin ⊢
  have b32 : ∀ (x1 : Int32) (x2 : Int32) (ls : Array Slot), lv_has ls 3 [(0, .ref (kv 0)), (1, .int x1), (2, .int x2)] → f_X2_aboutClass_b32 bv x1 x2 = some out → W p l e (headSpec wsX2_aboutClass { frames := 2, cells := 0, slots := 0, locals := 43 }).room s m args below meth c s.heap [] 0 0 Q (F0 m 32 ls []) := by
    intro x1 x2 ls hl h
    rw [f_X2_aboutClass_b32] at h
    refine lv_iload_n hx hb dX2_aboutClass_32 rfl (lv_at hl 2 rfl) ?_
    by_cases k1 : x2 = 0
    · replace h := z_pos k1 h
      rw [k1]
      refine lv_tableIn (off := 43) (tgt := 76) hx hb dX2_aboutClass_33 (by decide) (by decide) (by decide) (by decide) ?_
      refine lv_aload_n hx hb dX2_aboutClass_76 rfl (lv_at hl 0 rfl) ?_
      refine va_get (D := D) (ci := 2) (v := .ref (kv 2)) (C := RX2) (T := TX2) (N := 11) hx hb hts hi2 hown hK.1 hP 0 rfl rfl 1 (by decide) fl21 (fun _ h9 => h9) rfl dX2_aboutClass_77 ?_
      refine lv_iload_n hx hb dX2_aboutClass_80 rfl (lv_at hl 1 rfl) ?_
      obtain ⟨y2, gy2, h⟩ := zb_some h
      have hpm : List.Perm (zw_c0 tt kv bv ++ (zw_cl tt kv bv ++ (zw_ce tt kv bv ++ (zw_gr tt kv bv ++ (zw_ro tt kv bv ++ (zw_la tt kv bv)))))) ((zw_ce tt kv bv) ++ (zw_c0 tt kv bv ++ zw_cl tt kv bv ++ zw_gr tt kv bv ++ zw_ro tt kv bv ++ zw_la tt kv bv)) := z_pm (fun _ x => by simp only [List.count_append, List.count_nil] <;> omega)
      refine z_callr (va_runV (As := [.int x1]) (rest := []) ⟨hx, hb, hml, hown, hts⟩ (c_X0_sharesIn l D tt kv bv x1 y2 gy2) (cwV 1 hts gX2_aboutClass_X0_sharesIn rfl rfl rfl (by decide +kernel) ⟨Nat.le_of_ble_eq_true rfl, Nat.le_of_ble_eq_true rfl⟩) (z_preVr hK (z_takeP hpm hP) (ci := 0) (q0 := 0) rfl rfl) rfl rfl hl.1 rfl (lv_room (Nat.le_of_ble_eq_true rfl)) dX2_aboutClass_81 ⟨Nat.zero_le _, Nat.zero_le _⟩) (fun ny2 => ?_)
      exact hfin _ _ _ h rfl dX2_aboutClass_84
    replace h := z_neg k1 h
    by_cases k3 : x2 = 1
    · replace h := z_pos k3 h
      rw [k3]
      refine lv_tableIn (off := 52) (tgt := 85) hx hb dX2_aboutClass_33 (by decide) (by decide) (by decide) (by decide) ?_
      refine lv_aload_n hx hb dX2_aboutClass_85 rfl (lv_at hl 0 rfl) ?_
      refine va_get (D := D) (ci := 2) (v := .ref (kv 1)) (C := RX2) (T := TX2) (N := 11) hx hb hts hi2 hown hK.1 hP 0 rfl rfl 0 (by decide) fl12 (fun _ h9 => h9) rfl dX2_aboutClass_86 ?_
      refine lv_iload_n hx hb dX2_aboutClass_89 rfl (lv_at hl 1 rfl) ?_
      refine lv_aload_n hx hb dX2_aboutClass_90 rfl (lv_at hl 0 rfl) ?_
      refine va_get (D := D) (ci := 2) (v := .ref (kv 2)) (C := RX2) (T := TX2) (N := 11) hx hb hts hi2 hown hK.1 hP 0 rfl rfl 1 (by decide) fl21 (fun _ h9 => h9) rfl dX2_aboutClass_91 ?_
      refine lv_iload_n hx hb dX2_aboutClass_94 rfl (lv_at hl 1 rfl) ?_
      obtain ⟨y4, gy4, h⟩ := zb_some h
      have hpm : List.Perm (zw_c0 tt kv bv ++ (zw_cl tt kv bv ++ (zw_ce tt kv bv ++ (zw_gr tt kv bv ++ (zw_ro tt kv bv ++ (zw_la tt kv bv)))))) ((zw_ce tt kv bv) ++ (zw_c0 tt kv bv ++ zw_cl tt kv bv ++ zw_gr tt kv bv ++ zw_ro tt kv bv ++ zw_la tt kv bv)) := z_pm (fun _ x => by simp only [List.count_append, List.count_nil] <;> omega)
      refine z_callr (va_runV (As := [.int x1]) (rest := [.int x1, .ref (kv 1)]) ⟨hx, hb, hml, hown, hts⟩ (c_X0_sharesIn l D tt kv bv x1 y4 gy4) (cwV 1 hts gX2_aboutClass_X0_sharesIn rfl rfl rfl (by decide +kernel) ⟨Nat.le_of_ble_eq_true rfl, Nat.le_of_ble_eq_true rfl⟩) (z_preVr hK (z_takeP hpm hP) (ci := 0) (q0 := 0) rfl rfl) rfl rfl hl.1 rfl (lv_room (Nat.le_of_ble_eq_true rfl)) dX2_aboutClass_95 ⟨Nat.zero_le _, Nat.zero_le _⟩) (fun ny4 => ?_)
      obtain ⟨y5, gy5, h⟩ := zb_some h
      have hpm : List.Perm (zw_c0 tt kv bv ++ (zw_cl tt kv bv ++ (zw_ce tt kv bv ++ (zw_gr tt kv bv ++ (zw_ro tt kv bv ++ (zw_la tt kv bv)))))) ((zw_cl tt kv bv) ++ (zw_c0 tt kv bv ++ zw_ce tt kv bv ++ zw_gr tt kv bv ++ zw_ro tt kv bv ++ zw_la tt kv bv)) := z_pm (fun _ x => by simp only [List.count_append, List.count_nil] <;> omega)
      refine z_callr (va_runV (As := [.int x1, .int y4]) (rest := []) ⟨hx, hb, hml, hown, hts⟩ (c_X1_preference l D tt kv bv x1 y4 y5 gy5) (cwV 2 hts gX2_aboutClass_X1_preference rfl rfl rfl (by decide +kernel) ⟨Nat.le_of_ble_eq_true rfl, Nat.le_of_ble_eq_true rfl⟩) (z_preVr hK (z_takeP hpm hP) (ci := 1) (q0 := 0) rfl rfl) rfl rfl hl.1 rfl (lv_room (Nat.le_of_ble_eq_true rfl)) dX2_aboutClass_98 ⟨Nat.zero_le _, Nat.zero_le _⟩) (fun ny5 => ?_)
      exact hfin _ _ _ h rfl dX2_aboutClass_101
    replace h := z_neg k3 h
    by_cases k6 : x2 = 2
    · replace h := z_pos k6 h
      rw [k6]
      refine lv_tableIn (off := 69) (tgt := 102) hx hb dX2_aboutClass_33 (by decide) (by decide) (by decide) (by decide) ?_
      refine lv_aload_n hx hb dX2_aboutClass_102 rfl (lv_at hl 0 rfl) ?_
      refine va_get (D := D) (ci := 2) (v := .ref (kv 1)) (C := RX2) (T := TX2) (N := 11) hx hb hts hi2 hown hK.1 hP 0 rfl rfl 0 (by decide) fl12 (fun _ h9 => h9) rfl dX2_aboutClass_103 ?_
      refine lv_iload_n hx hb dX2_aboutClass_106 rfl (lv_at hl 1 rfl) ?_
      refine lv_aload_n hx hb dX2_aboutClass_107 rfl (lv_at hl 0 rfl) ?_
      refine va_get (D := D) (ci := 2) (v := .ref (kv 2)) (C := RX2) (T := TX2) (N := 11) hx hb hts hi2 hown hK.1 hP 0 rfl rfl 1 (by decide) fl21 (fun _ h9 => h9) rfl dX2_aboutClass_108 ?_
      refine lv_iload_n hx hb dX2_aboutClass_111 rfl (lv_at hl 1 rfl) ?_
      obtain ⟨y7, gy7, h⟩ := zb_some h
      have hpm : List.Perm (zw_c0 tt kv bv ++ (zw_cl tt kv bv ++ (zw_ce tt kv bv ++ (zw_gr tt kv bv ++ (zw_ro tt kv bv ++ (zw_la tt kv bv)))))) ((zw_ce tt kv bv) ++ (zw_c0 tt kv bv ++ zw_cl tt kv bv ++ zw_gr tt kv bv ++ zw_ro tt kv bv ++ zw_la tt kv bv)) := z_pm (fun _ x => by simp only [List.count_append, List.count_nil] <;> omega)
      refine z_callr (va_runV (As := [.int x1]) (rest := [.int x1, .ref (kv 1)]) ⟨hx, hb, hml, hown, hts⟩ (c_X0_sharesIn l D tt kv bv x1 y7 gy7) (cwV 1 hts gX2_aboutClass_X0_sharesIn rfl rfl rfl (by decide +kernel) ⟨Nat.le_of_ble_eq_true rfl, Nat.le_of_ble_eq_true rfl⟩) (z_preVr hK (z_takeP hpm hP) (ci := 0) (q0 := 0) rfl rfl) rfl rfl hl.1 rfl (lv_room (Nat.le_of_ble_eq_true rfl)) dX2_aboutClass_112 ⟨Nat.zero_le _, Nat.zero_le _⟩) (fun ny7 => ?_)
      obtain ⟨y8, gy8, h⟩ := zb_some h
      have hpm : List.Perm (zw_c0 tt kv bv ++ (zw_cl tt kv bv ++ (zw_ce tt kv bv ++ (zw_gr tt kv bv ++ (zw_ro tt kv bv ++ (zw_la tt kv bv)))))) ((zw_cl tt kv bv) ++ (zw_c0 tt kv bv ++ zw_ce tt kv bv ++ zw_gr tt kv bv ++ zw_ro tt kv bv ++ zw_la tt kv bv)) := z_pm (fun _ x => by simp only [List.count_append, List.count_nil] <;> omega)
      refine z_callr (va_runV (As := [.int x1, .int y7]) (rest := []) ⟨hx, hb, hml, hown, hts⟩ (c_X1_common l D tt kv bv x1 y7 y8 gy8) (cwV 2 hts gX2_aboutClass_X1_common rfl rfl rfl (by decide +kernel) ⟨Nat.le_of_ble_eq_true rfl, Nat.le_of_ble_eq_true rfl⟩) (z_preVr hK (z_takeP hpm hP) (ci := 1) (q0 := 0) rfl rfl) rfl rfl hl.1 rfl (lv_room (Nat.le_of_ble_eq_true rfl)) dX2_aboutClass_115 ⟨Nat.zero_le _, Nat.zero_le _⟩) (fun ny8 => ?_)
      exact hfin _ _ _ h rfl dX2_aboutClass_118
    replace h := z_neg k6 h
    by_cases k9 : x2 = 3
    · replace h := z_pos k9 h
      rw [k9]
      refine lv_tableIn (off := 86) (tgt := 119) hx hb dX2_aboutClass_33 (by decide) (by decide) (by decide) (by decide) ?_
      refine lv_aload_n hx hb dX2_aboutClass_119 rfl (lv_at hl 0 rfl) ?_
      refine va_get (D := D) (ci := 2) (v := .ref (kv 1)) (C := RX2) (T := TX2) (N := 11) hx hb hts hi2 hown hK.1 hP 0 rfl rfl 0 (by decide) fl12 (fun _ h9 => h9) rfl dX2_aboutClass_120 ?_
      refine va_get (D := D) (ci := 1) (v := .ref (kv 5)) (C := RX1) (T := TX1) (N := 6) hx hb hts hi1 hown hK.1 hP 1 rfl rfl 1 (by decide) fl87 (fun _ h9 => h9) rfl dX2_aboutClass_123 ?_
      refine lv_iload_n hx hb dX2_aboutClass_126 rfl (lv_at hl 1 rfl) ?_
      obtain ⟨q10, h⟩ := zA_some h
      refine va_iald hx hb hK.1 hP 2 0 rfl rfl q10 dX2_aboutClass_127 ?_
      exact hfin _ _ _ h rfl dX2_aboutClass_128
    replace h := z_neg k9 h
    by_cases k11 : x2 = 4
    · replace h := z_pos k11 h
      rw [k11]
      refine lv_tableIn (off := 96) (tgt := 129) hx hb dX2_aboutClass_33 (by decide) (by decide) (by decide) (by decide) ?_
      refine lv_aload_n hx hb dX2_aboutClass_129 rfl (lv_at hl 0 rfl) ?_
      refine va_get (D := D) (ci := 2) (v := .ref (kv 1)) (C := RX2) (T := TX2) (N := 11) hx hb hts hi2 hown hK.1 hP 0 rfl rfl 0 (by decide) fl12 (fun _ h9 => h9) rfl dX2_aboutClass_130 ?_
      refine va_get (D := D) (ci := 1) (v := .ref (kv 6)) (C := RX1) (T := TX1) (N := 6) hx hb hts hi1 hown hK.1 hP 1 rfl rfl 2 (by decide) fl90 (fun _ h9 => h9) rfl dX2_aboutClass_133 ?_
      refine lv_iload_n hx hb dX2_aboutClass_136 rfl (lv_at hl 1 rfl) ?_
      obtain ⟨q12, h⟩ := zA_some h
      refine va_iald hx hb hK.1 hP 3 0 rfl rfl q12 dX2_aboutClass_137 ?_
      exact hfin _ _ _ h rfl dX2_aboutClass_138
    replace h := z_neg k11 h
    by_cases k13 : x2 = 5
    · replace h := z_pos k13 h
      rw [k13]
      refine lv_tableIn (off := 106) (tgt := 139) hx hb dX2_aboutClass_33 (by decide) (by decide) (by decide) (by decide) ?_
      refine lv_aload_n hx hb dX2_aboutClass_139 rfl (lv_at hl 0 rfl) ?_
      refine va_get (D := D) (ci := 2) (v := .ref (kv 1)) (C := RX2) (T := TX2) (N := 11) hx hb hts hi2 hown hK.1 hP 0 rfl rfl 0 (by decide) fl12 (fun _ h9 => h9) rfl dX2_aboutClass_140 ?_
      refine va_get (D := D) (ci := 1) (v := .ref (kv 7)) (C := RX1) (T := TX1) (N := 6) hx hb hts hi1 hown hK.1 hP 1 rfl rfl 3 (by decide) fl93 (fun _ h9 => h9) rfl dX2_aboutClass_143 ?_
      refine lv_iload_n hx hb dX2_aboutClass_146 rfl (lv_at hl 1 rfl) ?_
      obtain ⟨q14, h⟩ := zA_some h
      refine va_iald hx hb hK.1 hP 4 0 rfl rfl q14 dX2_aboutClass_147 ?_
      exact hfin _ _ _ h rfl dX2_aboutClass_148
    replace h := z_neg k13 h
    by_cases k15 : x2 = 6
    · replace h := z_pos k15 h
      rw [k15]
      refine lv_tableIn (off := 116) (tgt := 149) hx hb dX2_aboutClass_33 (by decide) (by decide) (by decide) (by decide) ?_
      refine lv_aload_n hx hb dX2_aboutClass_149 rfl (lv_at hl 0 rfl) ?_
      refine va_get (D := D) (ci := 2) (v := .ref (kv 1)) (C := RX2) (T := TX2) (N := 11) hx hb hts hi2 hown hK.1 hP 0 rfl rfl 0 (by decide) fl12 (fun _ h9 => h9) rfl dX2_aboutClass_150 ?_
      refine va_get (D := D) (ci := 1) (v := .ref (kv 8)) (C := RX1) (T := TX1) (N := 6) hx hb hts hi1 hown hK.1 hP 1 rfl rfl 4 (by decide) fl96 (fun _ h9 => h9) rfl dX2_aboutClass_153 ?_
      refine lv_iload_n hx hb dX2_aboutClass_156 rfl (lv_at hl 1 rfl) ?_
      obtain ⟨q16, h⟩ := zA_some h
      refine va_iald hx hb hK.1 hP 5 0 rfl rfl q16 dX2_aboutClass_157 ?_
      exact hfin _ _ _ h rfl dX2_aboutClass_158
    replace h := z_neg k15 h
    have ek1 : Int32.toInt x2 ≠ 0 := fun e => k1 (Int32.toInt_inj.mp (e.trans (by decide)))
    have ek3 : Int32.toInt x2 ≠ 1 := fun e => k3 (Int32.toInt_inj.mp (e.trans (by decide)))
    have ek6 : Int32.toInt x2 ≠ 2 := fun e => k6 (Int32.toInt_inj.mp (e.trans (by decide)))
    have ek9 : Int32.toInt x2 ≠ 3 := fun e => k9 (Int32.toInt_inj.mp (e.trans (by decide)))
    have ek11 : Int32.toInt x2 ≠ 4 := fun e => k11 (Int32.toInt_inj.mp (e.trans (by decide)))
    have ek13 : Int32.toInt x2 ≠ 5 := fun e => k13 (Int32.toInt_inj.mp (e.trans (by decide)))
    have ek15 : Int32.toInt x2 ≠ 6 := fun e => k15 (Int32.toInt_inj.mp (e.trans (by decide)))
    refine lv_tableOut (tgt := 159) hx hb dX2_aboutClass_33 (by omega) (by decide) ?_
    refine lv_aload_n hx hb dX2_aboutClass_159 rfl (lv_at hl 0 rfl) ?_
    refine va_get (D := D) (ci := 2) (v := .ref (kv 1)) (C := RX2) (T := TX2) (N := 11) hx hb hts hi2 hown hK.1 hP 0 rfl rfl 0 (by decide) fl12 (fun _ h9 => h9) rfl dX2_aboutClass_160 ?_
    refine va_get (D := D) (ci := 1) (v := .ref (kv 9)) (C := RX1) (T := TX1) (N := 6) hx hb hts hi1 hown hK.1 hP 1 rfl rfl 5 (by decide) fl99 (fun _ h9 => h9) rfl dX2_aboutClass_163 ?_
    refine lv_iload_n hx hb dX2_aboutClass_166 rfl (lv_at hl 1 rfl) ?_
    obtain ⟨q17, h⟩ := zA_some h
    refine va_iald hx hb hK.1 hP 6 0 rfl rfl q17 dX2_aboutClass_167 ?_
    exact hfin _ _ _ h rfl dX2_aboutClass_168
  have hl := lv_entry ([.ref (kv 0), .int x1, .int x2]) (n := 3) (Nat.le_of_ble_eq_true rfl)
  refine W.eq (g2 := F0 m 0 ((lg_sl ([.ref (kv 0), .int x1, .int x2]) ++ List.replicate (3 - (lg_sl ([.ref (kv 0), .int x1, .int x2])).length) Slot.unset).toArray) []) (by rw [ha]; exact lg_entry_eq _ _ _) ?_
  generalize (lg_sl ([.ref (kv 0), .int x1, .int x2]) ++ List.replicate (3 - (lg_sl ([.ref (kv 0), .int x1, .int x2])).length) Slot.unset).toArray = ls at hl ⊢
  have hl : lv_has ls 3 [(0, .ref (kv 0)), (1, .int x1), (2, .int x2)] := hl
  rw [f_X2_aboutClass] at h
  refine lv_aload_n hx hb dX2_aboutClass_0 rfl (lv_at hl 0 rfl) ?_
  refine lv_iload_n hx hb dX2_aboutClass_1 rfl (lv_at hl 1 rfl) ?_
  obtain ⟨y18, gy18, h⟩ := zb_some h
  refine z_callr (va_runV (As := [.int x1]) (rest := []) ⟨hx, hb, hml, hown, hts⟩ (c_X2_hasClass l D tt kv bv x1 y18 gy18) (cwV 1 hts gX2_aboutClass_X2_hasClass rfl rfl rfl (by decide +kernel) ⟨Nat.le_of_ble_eq_true rfl, Nat.le_of_ble_eq_true rfl⟩) (z_preVr hK hP (ci := 2) (q0 := 0) rfl rfl) rfl rfl hl.1 rfl (lv_room (Nat.le_of_ble_eq_true rfl)) dX2_aboutClass_2 ⟨Nat.zero_le _, Nat.zero_le _⟩) (fun ny18 => ?_)
  refine lv_if_eq (tgt := 18) hx hb dX2_aboutClass_5 (by decide) (fun k19 => ?_) (fun k19 => ?_)
  · replace h := z_pos k19 h
    refine lv_iconst (v := (-1)) hx hb dX2_aboutClass_18 (by decide) ?_
    exact hfin _ _ _ h rfl dX2_aboutClass_19
  replace h := z_neg k19 h
  refine lv_iload_n hx hb dX2_aboutClass_8 rfl (lv_at hl 2 rfl) ?_
  refine lv_iconst (v := 0) hx hb dX2_aboutClass_9 (by decide) ?_
  refine lv_bipush (v := 7) hx hb dX2_aboutClass_10 (by decide) ?_
  obtain ⟨y20, gy20, h⟩ := zb_some h
  refine z_callr (va_runSN (As := [.int x2, .int 0, .int 7]) (rest := []) ⟨hx, hb, hml, hown, hts⟩ (c_X9_within l D tt x2 0 7 y20 gy20) ⟨va_cnB (host := "CapStacks") 3 hts gX2_aboutClass_X9_within_n82 rfl rfl rfl nw82 iniX9 (by decide +kernel) ⟨Nat.le_of_ble_eq_true rfl, Nat.le_of_ble_eq_true rfl⟩, st_X9_within, trivial⟩ (z_preSr hK (hP.sub (ws' := ([] : va_W)) [] rfl)) rfl rfl hl.1 rfl (lv_room (Nat.le_of_ble_eq_true rfl)) dX2_aboutClass_12 ⟨Nat.zero_le _, Nat.zero_le _⟩) (fun ny20 => ?_)
  refine lv_if_ne (tgt := 20) hx hb dX2_aboutClass_15 (by decide) (fun k21 => ?_) (fun k21 => ?_)
  rotate_left
  · replace h := z_pos k21 h
    refine lv_iconst (v := (-1)) hx hb dX2_aboutClass_18 (by decide) ?_
    exact hfin _ _ _ h rfl dX2_aboutClass_19
  replace h := z_neg k21 h
  refine lv_iload_n hx hb dX2_aboutClass_20 rfl (lv_at hl 1 rfl) ?_
  refine lv_if_ne (tgt := 32) hx hb dX2_aboutClass_21 (by decide) (fun k22 => ?_) (fun k22 => ?_)
  · replace h := z_neg k22 h
    exact b32 x1 x2 _ (lv_sub hl [0, 1, 2] rfl) h
  replace h := z_pos k22 h
  refine lv_iload_n hx hb dX2_aboutClass_24 rfl (lv_at hl 2 rfl) ?_
  refine lv_iconst (v := 3) hx hb dX2_aboutClass_25 (by decide) ?_
  refine lv_icmp_lt (tgt := 32) hx hb dX2_aboutClass_26 (by decide) (fun k23 => ?_) (fun k23 => ?_)
  · replace h := z_pos k23 h
    exact b32 x1 x2 _ (lv_sub hl [0, 1, 2] rfl) h
  replace h := z_neg k23 h
  refine lv_bipush (v := (-4)) hx hb dX2_aboutClass_29 (by decide) ?_
  exact hfin _ _ _ h rfl dX2_aboutClass_31
set_option maxHeartbeats 4000000 in
set_option maxRecDepth 100000 in
theorem c_X2_aboutCertificate (l : Launch) (D : va_G) (tt : Nat → ClassId) (kv : Nat → Nat) (bv : zV) (x1 : Int32) (x2 : Int32) (out : Int32) (h : f_X2_aboutCertificate bv x1 x2 = some out) : Met l yX2_aboutCertificate wsX2_aboutCertificate { frames := 2, cells := 0, slots := 0, locals := 43 } (zPr [.ref (kv 0), .int x1, .int x2] D tt (zw_co tt kv bv)) (zQr .int out) 0 0 (fun _ => False) := by
  refine Met.ofW (cc := cX2_aboutCertificate) (maxL := 3) (ret := (some .int)) (by decide) rfl ?_
  intro p e s m args below meth c s₁ B hml hv
  obtain ⟨ha, hP, hK⟩ := hv
  have hx := B.exec
  have hb := B.bytes
  have hr := B.returns
  have hts := atoms_spec (ws := wsX2_aboutCertificate) B.pre
  have hown : s.vm.findClass RX2 = some m.cls := findClass_of_methodNamed B.named
  have hlocks := B.notSynchronized
  have hi0 : ∀ w ∈ u_ws RX0 TX0 4, w ∈ wsX2_aboutCertificate := fun _ h => List.mem_cons_of_mem _ (List.mem_append_right _ h)
  have hi2 : ∀ w ∈ u_ws RX2 TX2 11, w ∈ wsX2_aboutCertificate := fun _ h => List.mem_cons_of_mem _ (List.mem_append_left _ (List.mem_append_right _ h))
  have fl123 := hts (.fieldLink RX2 123 "CapStacks$Certificates" "holder" "[I") (by decide +kernel)
  have fl126 := hts (.fieldLink RX2 126 "CapStacks$Certificates" "shares" "[I") (by decide +kernel)
  have fl129 := hts (.fieldLink RX2 129 "CapStacks$Certificates" "of" "[I") (by decide +kernel)
  have fl202 := hts (.fieldLink RX2 202 "CapStacks$Certificates" "made" "[I") (by decide +kernel)
  have fl21 := hts (.fieldLink RX2 21 "CapStacks$Company" "certificates" "LCapStacks$Certificates;") (by decide +kernel)
  have iniX9 := hts (.initialized RX9) (by decide +kernel)
  have st_X9_within := hts (.static yX9_within) (by decide +kernel)
  have nw82 : va_Nw (.methodLinkNest RX2 82 yX9_within "CapStacks") s := hK.2.1 (RX2, 82, yX9_within, "CapStacks") (List.mem_of_getElem? (i := 13) rfl)
  have hfin : ∀ (v : Int32) (pc : Nat) (ls : Array Slot), some v = some out → narrow .int (.int v) = .int v → decode cX2_aboutCertificate pc = .ok (.ireturn, 1) → W p l e (headSpec wsX2_aboutCertificate { frames := 2, cells := 0, slots := 0, locals := 43 }).room s m args below meth c s.heap [] 0 0 (MQ below (zQr .int out) args s 0 0 (fun _ => False)) (F0 m pc ls [.int v]) := by
    intro v pc ls he hn hd
    cases he
    exact W.zret hx hb hr hn (fun t ht hW => ⟨rfl, hn, ht⟩) (fun _ h => by cases h) hd
  generalize MQ below (zQr .int out) args s 0 0 (fun _ => False) = Q at hfin ⊢
  have hl := lv_entry ([.ref (kv 0), .int x1, .int x2]) (n := 3) (Nat.le_of_ble_eq_true rfl)
  refine W.eq (g2 := F0 m 0 ((lg_sl ([.ref (kv 0), .int x1, .int x2]) ++ List.replicate (3 - (lg_sl ([.ref (kv 0), .int x1, .int x2])).length) Slot.unset).toArray) []) (by rw [ha]; exact lg_entry_eq _ _ _) ?_
  generalize (lg_sl ([.ref (kv 0), .int x1, .int x2]) ++ List.replicate (3 - (lg_sl ([.ref (kv 0), .int x1, .int x2])).length) Slot.unset).toArray = ls at hl ⊢
  have hl : lv_has ls 3 [(0, .ref (kv 0)), (1, .int x1), (2, .int x2)] := hl
  rw [f_X2_aboutCertificate] at h
  refine lv_aload_n hx hb dX2_aboutCertificate_0 rfl (lv_at hl 0 rfl) ?_
  refine va_get (D := D) (ci := 2) (v := .ref (kv 2)) (C := RX2) (T := TX2) (N := 11) hx hb hts hi2 hown hK.1 hP 0 rfl rfl 1 (by decide) fl21 (fun _ h9 => h9) rfl dX2_aboutCertificate_1 ?_
  refine lv_iload_n hx hb dX2_aboutCertificate_4 rfl (lv_at hl 1 rfl) ?_
  obtain ⟨y1, gy1, h⟩ := zb_some h
  have hpm : List.Perm (zw_c0 tt kv bv ++ (zw_cl tt kv bv ++ (zw_ce tt kv bv ++ (zw_gr tt kv bv ++ (zw_ro tt kv bv ++ (zw_la tt kv bv)))))) ((zw_ce tt kv bv) ++ (zw_c0 tt kv bv ++ zw_cl tt kv bv ++ zw_gr tt kv bv ++ zw_ro tt kv bv ++ zw_la tt kv bv)) := z_pm (fun _ x => by simp only [List.count_append, List.count_nil] <;> omega)
  refine z_callr (va_runV (As := [.int x1]) (rest := []) ⟨hx, hb, hml, hown, hts⟩ (c_X0_has l D tt kv bv x1 y1 gy1) (cwV 1 hts gX2_aboutCertificate_X0_has rfl rfl rfl (by decide +kernel) ⟨Nat.le_of_ble_eq_true rfl, Nat.le_of_ble_eq_true rfl⟩) (z_preVr hK (z_takeP hpm hP) (ci := 0) (q0 := 0) rfl rfl) rfl rfl hl.1 rfl (lv_room (Nat.le_of_ble_eq_true rfl)) dX2_aboutCertificate_5 ⟨Nat.zero_le _, Nat.zero_le _⟩) (fun ny1 => ?_)
  refine lv_if_eq (tgt := 20) hx hb dX2_aboutCertificate_8 (by decide) (fun k2 => ?_) (fun k2 => ?_)
  · replace h := z_pos k2 h
    refine lv_iconst (v := (-1)) hx hb dX2_aboutCertificate_20 (by decide) ?_
    exact hfin _ _ _ h rfl dX2_aboutCertificate_21
  replace h := z_neg k2 h
  refine lv_iload_n hx hb dX2_aboutCertificate_11 rfl (lv_at hl 2 rfl) ?_
  refine lv_iconst (v := 0) hx hb dX2_aboutCertificate_12 (by decide) ?_
  refine lv_iconst (v := 3) hx hb dX2_aboutCertificate_13 (by decide) ?_
  obtain ⟨y3, gy3, h⟩ := zb_some h
  refine z_callr (va_runSN (As := [.int x2, .int 0, .int 3]) (rest := []) ⟨hx, hb, hml, hown, hts⟩ (c_X9_within l D tt x2 0 3 y3 gy3) ⟨va_cnB (host := "CapStacks") 3 hts gX2_aboutCertificate_X9_within_n82 rfl rfl rfl nw82 iniX9 (by decide +kernel) ⟨Nat.le_of_ble_eq_true rfl, Nat.le_of_ble_eq_true rfl⟩, st_X9_within, trivial⟩ (z_preSr hK (hP.sub (ws' := ([] : va_W)) [] rfl)) rfl rfl hl.1 rfl (lv_room (Nat.le_of_ble_eq_true rfl)) dX2_aboutCertificate_14 ⟨Nat.zero_le _, Nat.zero_le _⟩) (fun ny3 => ?_)
  refine lv_if_ne (tgt := 22) hx hb dX2_aboutCertificate_17 (by decide) (fun k4 => ?_) (fun k4 => ?_)
  rotate_left
  · replace h := z_pos k4 h
    refine lv_iconst (v := (-1)) hx hb dX2_aboutCertificate_20 (by decide) ?_
    exact hfin _ _ _ h rfl dX2_aboutCertificate_21
  replace h := z_neg k4 h
  refine lv_iload_n hx hb dX2_aboutCertificate_22 rfl (lv_at hl 2 rfl) ?_
  by_cases k5 : x2 = 0
  · replace h := z_pos k5 h
    rw [k5]
    refine lv_tableIn (off := 25) (tgt := 48) hx hb dX2_aboutCertificate_23 (by decide) (by decide) (by decide) (by decide) ?_
    refine lv_aload_n hx hb dX2_aboutCertificate_48 rfl (lv_at hl 0 rfl) ?_
    refine va_get (D := D) (ci := 2) (v := .ref (kv 2)) (C := RX2) (T := TX2) (N := 11) hx hb hts hi2 hown hK.1 hP 0 rfl rfl 1 (by decide) fl21 (fun _ h9 => h9) rfl dX2_aboutCertificate_49 ?_
    refine va_get (D := D) (ci := 0) (v := .ref (kv 10)) (C := RX0) (T := TX0) (N := 4) hx hb hts hi0 hown hK.1 hP 7 rfl rfl 0 (by decide) fl123 (fun _ h9 => h9) rfl dX2_aboutCertificate_52 ?_
    refine lv_iload_n hx hb dX2_aboutCertificate_55 rfl (lv_at hl 1 rfl) ?_
    obtain ⟨q6, h⟩ := zA_some h
    refine va_iald hx hb hK.1 hP 8 0 rfl rfl q6 dX2_aboutCertificate_56 ?_
    exact hfin _ _ _ h rfl dX2_aboutCertificate_57
  replace h := z_neg k5 h
  by_cases k7 : x2 = 1
  · replace h := z_pos k7 h
    rw [k7]
    refine lv_tableIn (off := 35) (tgt := 58) hx hb dX2_aboutCertificate_23 (by decide) (by decide) (by decide) (by decide) ?_
    refine lv_aload_n hx hb dX2_aboutCertificate_58 rfl (lv_at hl 0 rfl) ?_
    refine va_get (D := D) (ci := 2) (v := .ref (kv 2)) (C := RX2) (T := TX2) (N := 11) hx hb hts hi2 hown hK.1 hP 0 rfl rfl 1 (by decide) fl21 (fun _ h9 => h9) rfl dX2_aboutCertificate_59 ?_
    refine va_get (D := D) (ci := 0) (v := .ref (kv 11)) (C := RX0) (T := TX0) (N := 4) hx hb hts hi0 hown hK.1 hP 7 rfl rfl 1 (by decide) fl129 (fun _ h9 => h9) rfl dX2_aboutCertificate_62 ?_
    refine lv_iload_n hx hb dX2_aboutCertificate_65 rfl (lv_at hl 1 rfl) ?_
    obtain ⟨q8, h⟩ := zA_some h
    refine va_iald hx hb hK.1 hP 9 0 rfl rfl q8 dX2_aboutCertificate_66 ?_
    exact hfin _ _ _ h rfl dX2_aboutCertificate_67
  replace h := z_neg k7 h
  by_cases k9 : x2 = 2
  · replace h := z_pos k9 h
    rw [k9]
    refine lv_tableIn (off := 45) (tgt := 68) hx hb dX2_aboutCertificate_23 (by decide) (by decide) (by decide) (by decide) ?_
    refine lv_aload_n hx hb dX2_aboutCertificate_68 rfl (lv_at hl 0 rfl) ?_
    refine va_get (D := D) (ci := 2) (v := .ref (kv 2)) (C := RX2) (T := TX2) (N := 11) hx hb hts hi2 hown hK.1 hP 0 rfl rfl 1 (by decide) fl21 (fun _ h9 => h9) rfl dX2_aboutCertificate_69 ?_
    refine va_get (D := D) (ci := 0) (v := .ref (kv 12)) (C := RX0) (T := TX0) (N := 4) hx hb hts hi0 hown hK.1 hP 7 rfl rfl 2 (by decide) fl126 (fun _ h9 => h9) rfl dX2_aboutCertificate_72 ?_
    refine lv_iload_n hx hb dX2_aboutCertificate_75 rfl (lv_at hl 1 rfl) ?_
    obtain ⟨q10, h⟩ := zA_some h
    refine va_iald hx hb hK.1 hP 10 0 rfl rfl q10 dX2_aboutCertificate_76 ?_
    exact hfin _ _ _ h rfl dX2_aboutCertificate_77
  replace h := z_neg k9 h
  have ek5 : Int32.toInt x2 ≠ 0 := fun e => k5 (Int32.toInt_inj.mp (e.trans (by decide)))
  have ek7 : Int32.toInt x2 ≠ 1 := fun e => k7 (Int32.toInt_inj.mp (e.trans (by decide)))
  have ek9 : Int32.toInt x2 ≠ 2 := fun e => k9 (Int32.toInt_inj.mp (e.trans (by decide)))
  refine lv_tableOut (tgt := 78) hx hb dX2_aboutCertificate_23 (by omega) (by decide) ?_
  refine lv_aload_n hx hb dX2_aboutCertificate_78 rfl (lv_at hl 0 rfl) ?_
  refine va_get (D := D) (ci := 2) (v := .ref (kv 2)) (C := RX2) (T := TX2) (N := 11) hx hb hts hi2 hown hK.1 hP 0 rfl rfl 1 (by decide) fl21 (fun _ h9 => h9) rfl dX2_aboutCertificate_79 ?_
  refine va_get (D := D) (ci := 0) (v := .ref (kv 13)) (C := RX0) (T := TX0) (N := 4) hx hb hts hi0 hown hK.1 hP 7 rfl rfl 3 (by decide) fl202 (fun _ h9 => h9) rfl dX2_aboutCertificate_82 ?_
  refine lv_iload_n hx hb dX2_aboutCertificate_85 rfl (lv_at hl 1 rfl) ?_
  obtain ⟨q11, h⟩ := zA_some h
  refine va_iald hx hb hK.1 hP 11 0 rfl rfl q11 dX2_aboutCertificate_86 ?_
  exact hfin _ _ _ h rfl dX2_aboutCertificate_87
set_option maxHeartbeats 4000000 in
set_option maxRecDepth 100000 in
theorem c_X2_aboutGrant (l : Launch) (D : va_G) (tt : Nat → ClassId) (kv : Nat → Nat) (bv : zV) (x1 : Int32) (x2 : Int32) (out : Int32) (h : f_X2_aboutGrant bv x1 x2 = some out) : Met l yX2_aboutGrant wsX2_aboutGrant { frames := 2, cells := 0, slots := 0, locals := 46 } (zPr [.ref (kv 0), .int x1, .int x2] D tt (zw_co tt kv bv)) (zQr .int out) 0 0 (fun _ => False) := by
  refine Met.ofW (cc := cX2_aboutGrant) (maxL := 3) (ret := (some .int)) (by decide) rfl ?_
  intro p e s m args below meth c s₁ B hml hv
  obtain ⟨ha, hP, hK⟩ := hv
  have hx := B.exec
  have hb := B.bytes
  have hr := B.returns
  have hts := atoms_spec (ws := wsX2_aboutGrant) B.pre
  have hown : s.vm.findClass RX2 = some m.cls := findClass_of_methodNamed B.named
  have hlocks := B.notSynchronized
  have hi2 : ∀ w ∈ u_ws RX2 TX2 11, w ∈ wsX2_aboutGrant := fun _ h => List.mem_cons_of_mem _ (List.mem_append_left _ (List.mem_append_right _ h))
  have hi4 : ∀ w ∈ u_ws RX4 TX4 8, w ∈ wsX2_aboutGrant := fun _ h => List.mem_cons_of_mem _ (List.mem_append_right _ h)
  have fl132 := hts (.fieldLink RX2 132 "CapStacks$Grants" "holder" "[I") (by decide +kernel)
  have fl133 := hts (.fieldLink RX2 133 "CapStacks$Grants" "shares" "[I") (by decide +kernel)
  have fl134 := hts (.fieldLink RX2 134 "CapStacks$Grants" "strike" "[I") (by decide +kernel)
  have fl143 := hts (.fieldLink RX2 143 "CapStacks$Grants" "made" "[I") (by decide +kernel)
  have fl146 := hts (.fieldLink RX2 146 "CapStacks$Grants" "taken" "[I") (by decide +kernel)
  have fl28 := hts (.fieldLink RX2 28 "CapStacks$Company" "grants" "LCapStacks$Grants;") (by decide +kernel)
  have iniX9 := hts (.initialized RX9) (by decide +kernel)
  have st_X9_within := hts (.static yX9_within) (by decide +kernel)
  have nw82 : va_Nw (.methodLinkNest RX2 82 yX9_within "CapStacks") s := hK.2.1 (RX2, 82, yX9_within, "CapStacks") (List.mem_of_getElem? (i := 13) rfl)
  have hfin : ∀ (v : Int32) (pc : Nat) (ls : Array Slot), some v = some out → narrow .int (.int v) = .int v → decode cX2_aboutGrant pc = .ok (.ireturn, 1) → W p l e (headSpec wsX2_aboutGrant { frames := 2, cells := 0, slots := 0, locals := 46 }).room s m args below meth c s.heap [] 0 0 (MQ below (zQr .int out) args s 0 0 (fun _ => False)) (F0 m pc ls [.int v]) := by
    intro v pc ls he hn hd
    cases he
    exact W.zret hx hb hr hn (fun t ht hW => ⟨rfl, hn, ht⟩) (fun _ h => by cases h) hd
  generalize MQ below (zQr .int out) args s 0 0 (fun _ => False) = Q at hfin ⊢
  have hl := lv_entry ([.ref (kv 0), .int x1, .int x2]) (n := 3) (Nat.le_of_ble_eq_true rfl)
  refine W.eq (g2 := F0 m 0 ((lg_sl ([.ref (kv 0), .int x1, .int x2]) ++ List.replicate (3 - (lg_sl ([.ref (kv 0), .int x1, .int x2])).length) Slot.unset).toArray) []) (by rw [ha]; exact lg_entry_eq _ _ _) ?_
  generalize (lg_sl ([.ref (kv 0), .int x1, .int x2]) ++ List.replicate (3 - (lg_sl ([.ref (kv 0), .int x1, .int x2])).length) Slot.unset).toArray = ls at hl ⊢
  have hl : lv_has ls 3 [(0, .ref (kv 0)), (1, .int x1), (2, .int x2)] := hl
  rw [f_X2_aboutGrant] at h
  refine lv_aload_n hx hb dX2_aboutGrant_0 rfl (lv_at hl 0 rfl) ?_
  refine lv_iload_n hx hb dX2_aboutGrant_1 rfl (lv_at hl 1 rfl) ?_
  obtain ⟨y1, gy1, h⟩ := zb_some h
  refine z_callr (va_runV (As := [.int x1]) (rest := []) ⟨hx, hb, hml, hown, hts⟩ (c_X2_hasGrant l D tt kv bv x1 y1 gy1) (cwV 1 hts gX2_aboutGrant_X2_hasGrant rfl rfl rfl (by decide +kernel) ⟨Nat.le_of_ble_eq_true rfl, Nat.le_of_ble_eq_true rfl⟩) (z_preVr hK hP (ci := 2) (q0 := 0) rfl rfl) rfl rfl hl.1 rfl (lv_room (Nat.le_of_ble_eq_true rfl)) dX2_aboutGrant_2 ⟨Nat.zero_le _, Nat.zero_le _⟩) (fun ny1 => ?_)
  refine lv_if_eq (tgt := 18) hx hb dX2_aboutGrant_5 (by decide) (fun k2 => ?_) (fun k2 => ?_)
  · replace h := z_pos k2 h
    refine lv_iconst (v := (-1)) hx hb dX2_aboutGrant_18 (by decide) ?_
    exact hfin _ _ _ h rfl dX2_aboutGrant_19
  replace h := z_neg k2 h
  refine lv_iload_n hx hb dX2_aboutGrant_8 rfl (lv_at hl 2 rfl) ?_
  refine lv_iconst (v := 0) hx hb dX2_aboutGrant_9 (by decide) ?_
  refine lv_bipush (v := 6) hx hb dX2_aboutGrant_10 (by decide) ?_
  obtain ⟨y3, gy3, h⟩ := zb_some h
  refine z_callr (va_runSN (As := [.int x2, .int 0, .int 6]) (rest := []) ⟨hx, hb, hml, hown, hts⟩ (c_X9_within l D tt x2 0 6 y3 gy3) ⟨va_cnB (host := "CapStacks") 3 hts gX2_aboutGrant_X9_within_n82 rfl rfl rfl nw82 iniX9 (by decide +kernel) ⟨Nat.le_of_ble_eq_true rfl, Nat.le_of_ble_eq_true rfl⟩, st_X9_within, trivial⟩ (z_preSr hK (hP.sub (ws' := ([] : va_W)) [] rfl)) rfl rfl hl.1 rfl (lv_room (Nat.le_of_ble_eq_true rfl)) dX2_aboutGrant_12 ⟨Nat.zero_le _, Nat.zero_le _⟩) (fun ny3 => ?_)
  refine lv_if_ne (tgt := 20) hx hb dX2_aboutGrant_15 (by decide) (fun k4 => ?_) (fun k4 => ?_)
  rotate_left
  · replace h := z_pos k4 h
    refine lv_iconst (v := (-1)) hx hb dX2_aboutGrant_18 (by decide) ?_
    exact hfin _ _ _ h rfl dX2_aboutGrant_19
  replace h := z_neg k4 h
  refine lv_iload_n hx hb dX2_aboutGrant_20 rfl (lv_at hl 2 rfl) ?_
  by_cases k5 : x2 = 0
  · replace h := z_pos k5 h
    rw [k5]
    refine lv_tableIn (off := 39) (tgt := 60) hx hb dX2_aboutGrant_21 (by decide) (by decide) (by decide) (by decide) ?_
    refine lv_aload_n hx hb dX2_aboutGrant_60 rfl (lv_at hl 0 rfl) ?_
    refine va_get (D := D) (ci := 2) (v := .ref (kv 3)) (C := RX2) (T := TX2) (N := 11) hx hb hts hi2 hown hK.1 hP 0 rfl rfl 2 (by decide) fl28 (fun _ h9 => h9) rfl dX2_aboutGrant_61 ?_
    refine va_get (D := D) (ci := 4) (v := .ref (kv 14)) (C := RX4) (T := TX4) (N := 8) hx hb hts hi4 hown hK.1 hP 12 rfl rfl 1 (by decide) fl132 (fun _ h9 => h9) rfl dX2_aboutGrant_64 ?_
    refine lv_iload_n hx hb dX2_aboutGrant_67 rfl (lv_at hl 1 rfl) ?_
    obtain ⟨q6, h⟩ := zA_some h
    refine va_iald hx hb hK.1 hP 13 0 rfl rfl q6 dX2_aboutGrant_68 ?_
    exact hfin _ _ _ h rfl dX2_aboutGrant_69
  replace h := z_neg k5 h
  by_cases k7 : x2 = 1
  · replace h := z_pos k7 h
    rw [k7]
    refine lv_tableIn (off := 49) (tgt := 70) hx hb dX2_aboutGrant_21 (by decide) (by decide) (by decide) (by decide) ?_
    refine lv_aload_n hx hb dX2_aboutGrant_70 rfl (lv_at hl 0 rfl) ?_
    refine va_get (D := D) (ci := 2) (v := .ref (kv 3)) (C := RX2) (T := TX2) (N := 11) hx hb hts hi2 hown hK.1 hP 0 rfl rfl 2 (by decide) fl28 (fun _ h9 => h9) rfl dX2_aboutGrant_71 ?_
    refine va_get (D := D) (ci := 4) (v := .ref (kv 15)) (C := RX4) (T := TX4) (N := 8) hx hb hts hi4 hown hK.1 hP 12 rfl rfl 2 (by decide) fl133 (fun _ h9 => h9) rfl dX2_aboutGrant_74 ?_
    refine lv_iload_n hx hb dX2_aboutGrant_77 rfl (lv_at hl 1 rfl) ?_
    obtain ⟨q8, h⟩ := zA_some h
    refine va_iald hx hb hK.1 hP 14 0 rfl rfl q8 dX2_aboutGrant_78 ?_
    exact hfin _ _ _ h rfl dX2_aboutGrant_79
  replace h := z_neg k7 h
  by_cases k9 : x2 = 2
  · replace h := z_pos k9 h
    rw [k9]
    refine lv_tableIn (off := 59) (tgt := 80) hx hb dX2_aboutGrant_21 (by decide) (by decide) (by decide) (by decide) ?_
    refine lv_aload_n hx hb dX2_aboutGrant_80 rfl (lv_at hl 0 rfl) ?_
    refine va_get (D := D) (ci := 2) (v := .ref (kv 3)) (C := RX2) (T := TX2) (N := 11) hx hb hts hi2 hown hK.1 hP 0 rfl rfl 2 (by decide) fl28 (fun _ h9 => h9) rfl dX2_aboutGrant_81 ?_
    refine va_get (D := D) (ci := 4) (v := .ref (kv 16)) (C := RX4) (T := TX4) (N := 8) hx hb hts hi4 hown hK.1 hP 12 rfl rfl 3 (by decide) fl134 (fun _ h9 => h9) rfl dX2_aboutGrant_84 ?_
    refine lv_iload_n hx hb dX2_aboutGrant_87 rfl (lv_at hl 1 rfl) ?_
    obtain ⟨q10, h⟩ := zA_some h
    refine va_iald hx hb hK.1 hP 15 0 rfl rfl q10 dX2_aboutGrant_88 ?_
    exact hfin _ _ _ h rfl dX2_aboutGrant_89
  replace h := z_neg k9 h
  by_cases k11 : x2 = 3
  · replace h := z_pos k11 h
    rw [k11]
    refine lv_tableIn (off := 69) (tgt := 90) hx hb dX2_aboutGrant_21 (by decide) (by decide) (by decide) (by decide) ?_
    refine lv_aload_n hx hb dX2_aboutGrant_90 rfl (lv_at hl 0 rfl) ?_
    refine lv_iload_n hx hb dX2_aboutGrant_91 rfl (lv_at hl 1 rfl) ?_
    obtain ⟨y12, gy12, h⟩ := zb_some h
    refine z_callr (va_runV (As := [.int x1]) (rest := []) ⟨hx, hb, hml, hown, hts⟩ (c_X2_vested l D tt kv bv x1 y12 gy12) (cwV 1 hts gX2_aboutGrant_X2_vested rfl rfl rfl (by decide +kernel) ⟨Nat.le_of_ble_eq_true rfl, Nat.le_of_ble_eq_true rfl⟩) (z_preVr hK hP (ci := 2) (q0 := 0) rfl rfl) rfl rfl hl.1 rfl (lv_room (Nat.le_of_ble_eq_true rfl)) dX2_aboutGrant_92 ⟨Nat.zero_le _, Nat.zero_le _⟩) (fun ny12 => ?_)
    exact hfin _ _ _ h rfl dX2_aboutGrant_95
  replace h := z_neg k11 h
  by_cases k13 : x2 = 4
  · replace h := z_pos k13 h
    rw [k13]
    refine lv_tableIn (off := 75) (tgt := 96) hx hb dX2_aboutGrant_21 (by decide) (by decide) (by decide) (by decide) ?_
    refine lv_aload_n hx hb dX2_aboutGrant_96 rfl (lv_at hl 0 rfl) ?_
    refine va_get (D := D) (ci := 2) (v := .ref (kv 3)) (C := RX2) (T := TX2) (N := 11) hx hb hts hi2 hown hK.1 hP 0 rfl rfl 2 (by decide) fl28 (fun _ h9 => h9) rfl dX2_aboutGrant_97 ?_
    refine va_get (D := D) (ci := 4) (v := .ref (kv 20)) (C := RX4) (T := TX4) (N := 8) hx hb hts hi4 hown hK.1 hP 12 rfl rfl 7 (by decide) fl146 (fun _ h9 => h9) rfl dX2_aboutGrant_100 ?_
    refine lv_iload_n hx hb dX2_aboutGrant_103 rfl (lv_at hl 1 rfl) ?_
    obtain ⟨q14, h⟩ := zA_some h
    refine va_iald hx hb hK.1 hP 19 0 rfl rfl q14 dX2_aboutGrant_104 ?_
    exact hfin _ _ _ h rfl dX2_aboutGrant_105
  replace h := z_neg k13 h
  by_cases k15 : x2 = 5
  · replace h := z_pos k15 h
    rw [k15]
    refine lv_tableIn (off := 85) (tgt := 106) hx hb dX2_aboutGrant_21 (by decide) (by decide) (by decide) (by decide) ?_
    refine lv_aload_n hx hb dX2_aboutGrant_106 rfl (lv_at hl 0 rfl) ?_
    refine lv_iload_n hx hb dX2_aboutGrant_107 rfl (lv_at hl 1 rfl) ?_
    obtain ⟨y16, gy16, h⟩ := zb_some h
    refine z_callr (va_runV (As := [.int x1]) (rest := []) ⟨hx, hb, hml, hown, hts⟩ (c_X2_takeable l D tt kv bv x1 y16 gy16) (cwV 1 hts gX2_aboutGrant_X2_takeable rfl rfl rfl (by decide +kernel) ⟨Nat.le_of_ble_eq_true rfl, Nat.le_of_ble_eq_true rfl⟩) (z_preVr hK hP (ci := 2) (q0 := 0) rfl rfl) rfl rfl hl.1 rfl (lv_room (Nat.le_of_ble_eq_true rfl)) dX2_aboutGrant_108 ⟨Nat.zero_le _, Nat.zero_le _⟩) (fun ny16 => ?_)
    exact hfin _ _ _ h rfl dX2_aboutGrant_111
  replace h := z_neg k15 h
  have ek5 : Int32.toInt x2 ≠ 0 := fun e => k5 (Int32.toInt_inj.mp (e.trans (by decide)))
  have ek7 : Int32.toInt x2 ≠ 1 := fun e => k7 (Int32.toInt_inj.mp (e.trans (by decide)))
  have ek9 : Int32.toInt x2 ≠ 2 := fun e => k9 (Int32.toInt_inj.mp (e.trans (by decide)))
  have ek11 : Int32.toInt x2 ≠ 3 := fun e => k11 (Int32.toInt_inj.mp (e.trans (by decide)))
  have ek13 : Int32.toInt x2 ≠ 4 := fun e => k13 (Int32.toInt_inj.mp (e.trans (by decide)))
  have ek15 : Int32.toInt x2 ≠ 5 := fun e => k15 (Int32.toInt_inj.mp (e.trans (by decide)))
  refine lv_tableOut (tgt := 112) hx hb dX2_aboutGrant_21 (by omega) (by decide) ?_
  refine lv_aload_n hx hb dX2_aboutGrant_112 rfl (lv_at hl 0 rfl) ?_
  refine va_get (D := D) (ci := 2) (v := .ref (kv 3)) (C := RX2) (T := TX2) (N := 11) hx hb hts hi2 hown hK.1 hP 0 rfl rfl 2 (by decide) fl28 (fun _ h9 => h9) rfl dX2_aboutGrant_113 ?_
  refine va_get (D := D) (ci := 4) (v := .ref (kv 19)) (C := RX4) (T := TX4) (N := 8) hx hb hts hi4 hown hK.1 hP 12 rfl rfl 6 (by decide) fl143 (fun _ h9 => h9) rfl dX2_aboutGrant_116 ?_
  refine lv_iload_n hx hb dX2_aboutGrant_119 rfl (lv_at hl 1 rfl) ?_
  obtain ⟨q17, h⟩ := zA_some h
  refine va_iald hx hb hK.1 hP 18 0 rfl rfl q17 dX2_aboutGrant_120 ?_
  exact hfin _ _ _ h rfl dX2_aboutGrant_121
set_option maxHeartbeats 4000000 in
set_option maxRecDepth 100000 in
theorem c_X2_thousandths (l : Launch) (D : va_G) (tt : Nat → ClassId) (kv : Nat → Nat) (bv : zV) (x1 : Int32) (out : Int32) (h : f_X2_thousandths bv x1 = some out) : Met l yX2_thousandths wsX2_thousandths { frames := 2, cells := 0, slots := 0, locals := 47 } (zPr [.ref (kv 0), .int x1] D tt (zw_co tt kv bv)) (zQr .int out) 0 0 (fun _ => False) := by
  refine Met.ofW (cc := cX2_thousandths) (maxL := 3) (ret := (some .int)) (by decide) rfl ?_
  intro p e s m args below meth c s₁ B hml hv
  obtain ⟨ha, hP, hK⟩ := hv
  have hx := B.exec
  have hb := B.bytes
  have hr := B.returns
  have hts := atoms_spec (ws := wsX2_thousandths) B.pre
  have hown : s.vm.findClass RX2 = some m.cls := findClass_of_methodNamed B.named
  have hlocks := B.notSynchronized
  have iniX9 := hts (.initialized RX9) (by decide +kernel)
  have st_X9_portion := hts (.static yX9_portion) (by decide +kernel)
  have nw172 : va_Nw (.methodLinkNest RX2 172 yX9_portion "CapStacks") s := hK.2.1 (RX2, 172, yX9_portion, "CapStacks") (List.mem_of_getElem? (i := 15) rfl)
  have hfin : ∀ (v : Int32) (pc : Nat) (ls : Array Slot), some v = some out → narrow .int (.int v) = .int v → decode cX2_thousandths pc = .ok (.ireturn, 1) → W p l e (headSpec wsX2_thousandths { frames := 2, cells := 0, slots := 0, locals := 47 }).room s m args below meth c s.heap [] 0 0 (MQ below (zQr .int out) args s 0 0 (fun _ => False)) (F0 m pc ls [.int v]) := by
    intro v pc ls he hn hd
    cases he
    exact W.zret hx hb hr hn (fun t ht hW => ⟨rfl, hn, ht⟩) (fun _ h => by cases h) hd
  generalize MQ below (zQr .int out) args s 0 0 (fun _ => False) = Q at hfin ⊢
  have hl := lv_entry ([.ref (kv 0), .int x1]) (n := 3) (Nat.le_of_ble_eq_true rfl)
  refine W.eq (g2 := F0 m 0 ((lg_sl ([.ref (kv 0), .int x1]) ++ List.replicate (3 - (lg_sl ([.ref (kv 0), .int x1])).length) Slot.unset).toArray) []) (by rw [ha]; exact lg_entry_eq _ _ _) ?_
  generalize (lg_sl ([.ref (kv 0), .int x1]) ++ List.replicate (3 - (lg_sl ([.ref (kv 0), .int x1])).length) Slot.unset).toArray = ls at hl ⊢
  have hl : lv_has ls 3 [(0, .ref (kv 0)), (1, .int x1)] := hl
  rw [f_X2_thousandths] at h
  refine lv_aload_n hx hb dX2_thousandths_0 rfl (lv_at hl 0 rfl) ?_
  obtain ⟨y1, gy1, h⟩ := zb_some h
  refine z_callr (va_runV (As := []) (rest := []) ⟨hx, hb, hml, hown, hts⟩ (c_X2_commonOfAll l D tt kv bv y1 gy1) (cwV 0 hts gX2_thousandths_X2_commonOfAll rfl rfl rfl (by decide +kernel) ⟨Nat.le_of_ble_eq_true rfl, Nat.le_of_ble_eq_true rfl⟩) (z_preVr hK hP (ci := 2) (q0 := 0) rfl rfl) rfl rfl hl.1 rfl (lv_room (Nat.le_of_ble_eq_true rfl)) dX2_thousandths_1 ⟨Nat.zero_le _, Nat.zero_le _⟩) (fun ny1 => ?_)
  refine lv_istore_n (lv' := [(2, .int y1), (0, .ref (kv 0)), (1, .int x1)]) hx hb dX2_thousandths_4 rfl hl (by decide) rfl (fun ls hl => ?_)
  refine lv_iload_n hx hb dX2_thousandths_5 rfl (lv_at hl 0 rfl) ?_
  refine lv_if_ne (tgt := 14) hx hb dX2_thousandths_6 (by decide) (fun k2 => ?_) (fun k2 => ?_)
  rotate_left
  · replace h := z_pos k2 h
    refine lv_bipush (v := (-4)) hx hb dX2_thousandths_9 (by decide) ?_
    refine lv_goto (tgt := 26) hx hb dX2_thousandths_11 (by decide) ?_
    exact hfin _ _ _ h rfl dX2_thousandths_26
  replace h := z_neg k2 h
  refine lv_sipush (v := 1000) hx hb dX2_thousandths_14 (by decide) ?_
  refine lv_aload_n hx hb dX2_thousandths_17 rfl (lv_at hl 1 rfl) ?_
  refine lv_iload_n hx hb dX2_thousandths_18 rfl (lv_at hl 2 rfl) ?_
  obtain ⟨y3, gy3, h⟩ := zb_some h
  refine z_callr (va_runV (As := [.int x1]) (rest := [.int 1000]) ⟨hx, hb, hml, hown, hts⟩ (c_X2_commonOf l D tt kv bv x1 y3 gy3) (cwV 1 hts gX2_thousandths_X2_commonOf rfl rfl rfl (by decide +kernel) ⟨Nat.le_of_ble_eq_true rfl, Nat.le_of_ble_eq_true rfl⟩) (z_preVr hK hP (ci := 2) (q0 := 0) rfl rfl) rfl rfl hl.1 rfl (lv_room (Nat.le_of_ble_eq_true rfl)) dX2_thousandths_19 ⟨Nat.zero_le _, Nat.zero_le _⟩) (fun ny3 => ?_)
  refine lv_iload_n hx hb dX2_thousandths_22 rfl (lv_at hl 0 rfl) ?_
  obtain ⟨y4, gy4, h⟩ := zb_some h
  refine z_callr (va_runSN (As := [.int 1000, .int y3, .int y1]) (rest := []) ⟨hx, hb, hml, hown, hts⟩ (c_X9_portion l D tt 1000 y3 y1 y4 gy4) ⟨va_cnB (host := "CapStacks") 3 hts gX2_thousandths_X9_portion_n172 rfl rfl rfl nw172 iniX9 (by decide +kernel) ⟨Nat.le_of_ble_eq_true rfl, Nat.le_of_ble_eq_true rfl⟩, st_X9_portion, trivial⟩ (z_preSr hK (hP.sub (ws' := ([] : va_W)) [] rfl)) rfl rfl hl.1 rfl (lv_room (Nat.le_of_ble_eq_true rfl)) dX2_thousandths_23 ⟨Nat.zero_le _, Nat.zero_le _⟩) (fun ny4 => ?_)
  exact hfin _ _ _ h rfl dX2_thousandths_26
set_option maxHeartbeats 4000000 in
set_option maxRecDepth 100000 in
theorem c_X2_aboutHolder (l : Launch) (D : va_G) (tt : Nat → ClassId) (kv : Nat → Nat) (bv : zV) (x1 : Int32) (x2 : Int32) (out : Int32) (h : f_X2_aboutHolder bv x1 x2 = some out) : Met l yX2_aboutHolder wsX2_aboutHolder { frames := 3, cells := 0, slots := 0, locals := 69 } (zPr [.ref (kv 0), .int x1, .int x2] D tt (zw_co tt kv bv)) (zQr .int out) 0 0 (fun _ => False) := by
  refine Met.ofW (cc := cX2_aboutHolder) (maxL := 3) (ret := (some .int)) (by decide) rfl ?_
  intro p e s m args below meth c s₁ B hml hv
  obtain ⟨ha, hP, hK⟩ := hv
  have hx := B.exec
  have hb := B.bytes
  have hr := B.returns
  have hts := atoms_spec (ws := wsX2_aboutHolder) B.pre
  have hown : s.vm.findClass RX2 = some m.cls := findClass_of_methodNamed B.named
  have hlocks := B.notSynchronized
  have hi2 : ∀ w ∈ u_ws RX2 TX2 11, w ∈ wsX2_aboutHolder := fun _ h => List.mem_cons_of_mem _ (List.mem_append_left _ (List.mem_append_left _ (List.mem_append_left _ (List.mem_append_right _ h))))
  have fl21 := hts (.fieldLink RX2 21 "CapStacks$Company" "certificates" "LCapStacks$Certificates;") (by decide +kernel)
  have fl39 := hts (.fieldLink RX2 39 "CapStacks$Company" "leftAt" "[I") (by decide +kernel)
  have iniX9 := hts (.initialized RX9) (by decide +kernel)
  have st_X9_within := hts (.static yX9_within) (by decide +kernel)
  have nw82 : va_Nw (.methodLinkNest RX2 82 yX9_within "CapStacks") s := hK.2.1 (RX2, 82, yX9_within, "CapStacks") (List.mem_of_getElem? (i := 13) rfl)
  have hfin : ∀ (v : Int32) (pc : Nat) (ls : Array Slot), some v = some out → narrow .int (.int v) = .int v → decode cX2_aboutHolder pc = .ok (.ireturn, 1) → W p l e (headSpec wsX2_aboutHolder { frames := 3, cells := 0, slots := 0, locals := 69 }).room s m args below meth c s.heap [] 0 0 (MQ below (zQr .int out) args s 0 0 (fun _ => False)) (F0 m pc ls [.int v]) := by
    intro v pc ls he hn hd
    cases he
    exact W.zret hx hb hr hn (fun t ht hW => ⟨rfl, hn, ht⟩) (fun _ h => by cases h) hd
  generalize MQ below (zQr .int out) args s 0 0 (fun _ => False) = Q at hfin ⊢
  have hl := lv_entry ([.ref (kv 0), .int x1, .int x2]) (n := 3) (Nat.le_of_ble_eq_true rfl)
  refine W.eq (g2 := F0 m 0 ((lg_sl ([.ref (kv 0), .int x1, .int x2]) ++ List.replicate (3 - (lg_sl ([.ref (kv 0), .int x1, .int x2])).length) Slot.unset).toArray) []) (by rw [ha]; exact lg_entry_eq _ _ _) ?_
  generalize (lg_sl ([.ref (kv 0), .int x1, .int x2]) ++ List.replicate (3 - (lg_sl ([.ref (kv 0), .int x1, .int x2])).length) Slot.unset).toArray = ls at hl ⊢
  have hl : lv_has ls 3 [(0, .ref (kv 0)), (1, .int x1), (2, .int x2)] := hl
  rw [f_X2_aboutHolder] at h
  refine lv_aload_n hx hb dX2_aboutHolder_0 rfl (lv_at hl 0 rfl) ?_
  refine lv_iload_n hx hb dX2_aboutHolder_1 rfl (lv_at hl 1 rfl) ?_
  obtain ⟨y1, gy1, h⟩ := zb_some h
  refine z_callr (va_runV (As := [.int x1]) (rest := []) ⟨hx, hb, hml, hown, hts⟩ (c_X2_hasHolder l D tt kv bv x1 y1 gy1) (cwV 1 hts gX2_aboutHolder_X2_hasHolder rfl rfl rfl (by decide +kernel) ⟨Nat.le_of_ble_eq_true rfl, Nat.le_of_ble_eq_true rfl⟩) (z_preVr hK hP (ci := 2) (q0 := 0) rfl rfl) rfl rfl hl.1 rfl (lv_room (Nat.le_of_ble_eq_true rfl)) dX2_aboutHolder_2 ⟨Nat.zero_le _, Nat.zero_le _⟩) (fun ny1 => ?_)
  refine lv_if_eq (tgt := 18) hx hb dX2_aboutHolder_5 (by decide) (fun k2 => ?_) (fun k2 => ?_)
  · replace h := z_pos k2 h
    refine lv_iconst (v := (-1)) hx hb dX2_aboutHolder_18 (by decide) ?_
    exact hfin _ _ _ h rfl dX2_aboutHolder_19
  replace h := z_neg k2 h
  refine lv_iload_n hx hb dX2_aboutHolder_8 rfl (lv_at hl 2 rfl) ?_
  refine lv_iconst (v := 0) hx hb dX2_aboutHolder_9 (by decide) ?_
  refine lv_bipush (v := 9) hx hb dX2_aboutHolder_10 (by decide) ?_
  obtain ⟨y3, gy3, h⟩ := zb_some h
  refine z_callr (va_runSN (As := [.int x2, .int 0, .int 9]) (rest := []) ⟨hx, hb, hml, hown, hts⟩ (c_X9_within l D tt x2 0 9 y3 gy3) ⟨va_cnB (host := "CapStacks") 3 hts gX2_aboutHolder_X9_within_n82 rfl rfl rfl nw82 iniX9 (by decide +kernel) ⟨Nat.le_of_ble_eq_true rfl, Nat.le_of_ble_eq_true rfl⟩, st_X9_within, trivial⟩ (z_preSr hK (hP.sub (ws' := ([] : va_W)) [] rfl)) rfl rfl hl.1 rfl (lv_room (Nat.le_of_ble_eq_true rfl)) dX2_aboutHolder_12 ⟨Nat.zero_le _, Nat.zero_le _⟩) (fun ny3 => ?_)
  refine lv_if_ne (tgt := 20) hx hb dX2_aboutHolder_15 (by decide) (fun k4 => ?_) (fun k4 => ?_)
  rotate_left
  · replace h := z_pos k4 h
    refine lv_iconst (v := (-1)) hx hb dX2_aboutHolder_18 (by decide) ?_
    exact hfin _ _ _ h rfl dX2_aboutHolder_19
  replace h := z_neg k4 h
  refine lv_iload_n hx hb dX2_aboutHolder_20 rfl (lv_at hl 2 rfl) ?_
  by_cases k5 : x2 = 5
  · replace h := z_pos k5 h
    rw [k5]
    refine lv_tableIn (off := 35) (tgt := 56) hx hb dX2_aboutHolder_21 (by decide) (by decide) (by decide) (by decide) ?_
    refine lv_aload_n hx hb dX2_aboutHolder_56 rfl (lv_at hl 0 rfl) ?_
    refine lv_iload_n hx hb dX2_aboutHolder_57 rfl (lv_at hl 1 rfl) ?_
    obtain ⟨y6, gy6, h⟩ := zb_some h
    refine z_callr (va_runV (As := [.int x1]) (rest := []) ⟨hx, hb, hml, hown, hts⟩ (c_X2_commonOf l D tt kv bv x1 y6 gy6) (cwV 1 hts gX2_aboutHolder_X2_commonOf rfl rfl rfl (by decide +kernel) ⟨Nat.le_of_ble_eq_true rfl, Nat.le_of_ble_eq_true rfl⟩) (z_preVr hK hP (ci := 2) (q0 := 0) rfl rfl) rfl rfl hl.1 rfl (lv_room (Nat.le_of_ble_eq_true rfl)) dX2_aboutHolder_58 ⟨Nat.zero_le _, Nat.zero_le _⟩) (fun ny6 => ?_)
    exact hfin _ _ _ h rfl dX2_aboutHolder_61
  replace h := z_neg k5 h
  by_cases k7 : x2 = 6
  · replace h := z_pos k7 h
    rw [k7]
    refine lv_tableIn (off := 41) (tgt := 62) hx hb dX2_aboutHolder_21 (by decide) (by decide) (by decide) (by decide) ?_
    refine lv_aload_n hx hb dX2_aboutHolder_62 rfl (lv_at hl 0 rfl) ?_
    refine va_get (D := D) (ci := 2) (v := .ref (kv 23)) (C := RX2) (T := TX2) (N := 11) hx hb hts hi2 hown hK.1 hP 0 rfl rfl 5 (by decide) fl39 (fun _ h9 => h9) rfl dX2_aboutHolder_63 ?_
    refine lv_iload_n hx hb dX2_aboutHolder_66 rfl (lv_at hl 1 rfl) ?_
    obtain ⟨q8, h⟩ := zA_some h
    refine va_iald hx hb hK.1 hP 23 0 rfl rfl q8 dX2_aboutHolder_67 ?_
    refine lv_iconst (v := (-1)) hx hb dX2_aboutHolder_68 (by decide) ?_
    refine lv_icmp_ne (tgt := 77) hx hb dX2_aboutHolder_69 (by decide) (fun k9 => ?_) (fun k9 => ?_)
    rotate_left
    · replace h := z_pos k9 h
      refine lv_bipush (v := (-4)) hx hb dX2_aboutHolder_72 (by decide) ?_
      refine lv_goto (tgt := 83) hx hb dX2_aboutHolder_74 (by decide) ?_
      exact hfin _ _ _ h rfl dX2_aboutHolder_83
    replace h := z_neg k9 h
    refine lv_aload_n hx hb dX2_aboutHolder_77 rfl (lv_at hl 0 rfl) ?_
    refine va_get (D := D) (ci := 2) (v := .ref (kv 23)) (C := RX2) (T := TX2) (N := 11) hx hb hts hi2 hown hK.1 hP 0 rfl rfl 5 (by decide) fl39 (fun _ h9 => h9) rfl dX2_aboutHolder_78 ?_
    refine lv_iload_n hx hb dX2_aboutHolder_81 rfl (lv_at hl 1 rfl) ?_
    refine va_iald hx hb hK.1 hP 23 0 rfl rfl q8 dX2_aboutHolder_82 ?_
    exact hfin _ _ _ h rfl dX2_aboutHolder_83
  replace h := z_neg k7 h
  by_cases k10 : x2 = 7
  · replace h := z_pos k10 h
    rw [k10]
    refine lv_tableIn (off := 63) (tgt := 84) hx hb dX2_aboutHolder_21 (by decide) (by decide) (by decide) (by decide) ?_
    refine lv_aload_n hx hb dX2_aboutHolder_84 rfl (lv_at hl 0 rfl) ?_
    refine va_get (D := D) (ci := 2) (v := .ref (kv 2)) (C := RX2) (T := TX2) (N := 11) hx hb hts hi2 hown hK.1 hP 0 rfl rfl 1 (by decide) fl21 (fun _ h9 => h9) rfl dX2_aboutHolder_85 ?_
    refine lv_iload_n hx hb dX2_aboutHolder_88 rfl (lv_at hl 1 rfl) ?_
    obtain ⟨y11, gy11, h⟩ := zb_some h
    have hpm : List.Perm (zw_c0 tt kv bv ++ (zw_cl tt kv bv ++ (zw_ce tt kv bv ++ (zw_gr tt kv bv ++ (zw_ro tt kv bv ++ (zw_la tt kv bv)))))) ((zw_ce tt kv bv) ++ (zw_c0 tt kv bv ++ zw_cl tt kv bv ++ zw_gr tt kv bv ++ zw_ro tt kv bv ++ zw_la tt kv bv)) := z_pm (fun _ x => by simp only [List.count_append, List.count_nil] <;> omega)
    refine z_callr (va_runV (As := [.int x1]) (rest := []) ⟨hx, hb, hml, hown, hts⟩ (c_X0_sizeOf l D tt kv bv x1 y11 gy11) (cwV 1 hts gX2_aboutHolder_X0_sizeOf rfl rfl rfl (by decide +kernel) ⟨Nat.le_of_ble_eq_true rfl, Nat.le_of_ble_eq_true rfl⟩) (z_preVr hK (z_takeP hpm hP) (ci := 0) (q0 := 0) rfl rfl) rfl rfl hl.1 rfl (lv_room (Nat.le_of_ble_eq_true rfl)) dX2_aboutHolder_89 ⟨Nat.zero_le _, Nat.zero_le _⟩) (fun ny11 => ?_)
    exact hfin _ _ _ h rfl dX2_aboutHolder_92
  replace h := z_neg k10 h
  by_cases k12 : x2 = 8
  · replace h := z_pos k12 h
    rw [k12]
    refine lv_tableIn (off := 72) (tgt := 93) hx hb dX2_aboutHolder_21 (by decide) (by decide) (by decide) (by decide) ?_
    refine lv_aload_n hx hb dX2_aboutHolder_93 rfl (lv_at hl 0 rfl) ?_
    refine lv_iload_n hx hb dX2_aboutHolder_94 rfl (lv_at hl 1 rfl) ?_
    obtain ⟨y13, gy13, h⟩ := zb_some h
    refine z_callr (va_runV (As := [.int x1]) (rest := []) ⟨hx, hb, hml, hown, hts⟩ (c_X2_takeableOf l D tt kv bv x1 y13 gy13) (cwV 1 hts gX2_aboutHolder_X2_takeableOf rfl rfl rfl (by decide +kernel) ⟨Nat.le_of_ble_eq_true rfl, Nat.le_of_ble_eq_true rfl⟩) (z_preVr hK hP (ci := 2) (q0 := 0) rfl rfl) rfl rfl hl.1 rfl (lv_room (Nat.le_of_ble_eq_true rfl)) dX2_aboutHolder_95 ⟨Nat.zero_le _, Nat.zero_le _⟩) (fun ny13 => ?_)
    exact hfin _ _ _ h rfl dX2_aboutHolder_98
  replace h := z_neg k12 h
  by_cases k14 : x2 = 9
  · replace h := z_pos k14 h
    rw [k14]
    refine lv_tableIn (off := 78) (tgt := 99) hx hb dX2_aboutHolder_21 (by decide) (by decide) (by decide) (by decide) ?_
    refine lv_aload_n hx hb dX2_aboutHolder_99 rfl (lv_at hl 0 rfl) ?_
    refine lv_iload_n hx hb dX2_aboutHolder_100 rfl (lv_at hl 1 rfl) ?_
    obtain ⟨y15, gy15, h⟩ := zb_some h
    refine z_callr (va_runV (As := [.int x1]) (rest := []) ⟨hx, hb, hml, hown, hts⟩ (c_X2_thousandths l D tt kv bv x1 y15 gy15) (cwV 1 hts gX2_aboutHolder_X2_thousandths rfl rfl rfl (by decide +kernel) ⟨Nat.le_of_ble_eq_true rfl, Nat.le_of_ble_eq_true rfl⟩) (z_preVr hK hP (ci := 2) (q0 := 0) rfl rfl) rfl rfl hl.1 rfl (lv_room (Nat.le_of_ble_eq_true rfl)) dX2_aboutHolder_101 ⟨Nat.zero_le _, Nat.zero_le _⟩) (fun ny15 => ?_)
    exact hfin _ _ _ h rfl dX2_aboutHolder_104
  replace h := z_neg k14 h
  have ek5 : Int32.toInt x2 ≠ 5 := fun e => k5 (Int32.toInt_inj.mp (e.trans (by decide)))
  have ek7 : Int32.toInt x2 ≠ 6 := fun e => k7 (Int32.toInt_inj.mp (e.trans (by decide)))
  have ek10 : Int32.toInt x2 ≠ 7 := fun e => k10 (Int32.toInt_inj.mp (e.trans (by decide)))
  have ek12 : Int32.toInt x2 ≠ 8 := fun e => k12 (Int32.toInt_inj.mp (e.trans (by decide)))
  have ek14 : Int32.toInt x2 ≠ 9 := fun e => k14 (Int32.toInt_inj.mp (e.trans (by decide)))
  refine lv_tableOut (tgt := 105) hx hb dX2_aboutHolder_21 (by omega) (by decide) ?_
  refine lv_aload_n hx hb dX2_aboutHolder_105 rfl (lv_at hl 0 rfl) ?_
  refine va_get (D := D) (ci := 2) (v := .ref (kv 2)) (C := RX2) (T := TX2) (N := 11) hx hb hts hi2 hown hK.1 hP 0 rfl rfl 1 (by decide) fl21 (fun _ h9 => h9) rfl dX2_aboutHolder_106 ?_
  refine lv_iload_n hx hb dX2_aboutHolder_109 rfl (lv_at hl 1 rfl) ?_
  refine lv_iload_n hx hb dX2_aboutHolder_110 rfl (lv_at hl 2 rfl) ?_
  obtain ⟨y16, gy16, h⟩ := zb_some h
  have hpm : List.Perm (zw_c0 tt kv bv ++ (zw_cl tt kv bv ++ (zw_ce tt kv bv ++ (zw_gr tt kv bv ++ (zw_ro tt kv bv ++ (zw_la tt kv bv)))))) ((zw_ce tt kv bv) ++ (zw_c0 tt kv bv ++ zw_cl tt kv bv ++ zw_gr tt kv bv ++ zw_ro tt kv bv ++ zw_la tt kv bv)) := z_pm (fun _ x => by simp only [List.count_append, List.count_nil] <;> omega)
  refine z_callr (va_runV (As := [.int x1, .int x2]) (rest := []) ⟨hx, hb, hml, hown, hts⟩ (c_X0_sharesOwned l D tt kv bv x1 x2 y16 gy16) (cwV 2 hts gX2_aboutHolder_X0_sharesOwned rfl rfl rfl (by decide +kernel) ⟨Nat.le_of_ble_eq_true rfl, Nat.le_of_ble_eq_true rfl⟩) (z_preVr hK (z_takeP hpm hP) (ci := 0) (q0 := 0) rfl rfl) rfl rfl hl.1 rfl (lv_room (Nat.le_of_ble_eq_true rfl)) dX2_aboutHolder_111 ⟨Nat.zero_le _, Nat.zero_le _⟩) (fun ny16 => ?_)
  exact hfin _ _ _ h rfl dX2_aboutHolder_114
set_option maxHeartbeats 4000000 in
set_option maxRecDepth 100000 in
theorem c_X2_aboutAll (l : Launch) (D : va_G) (tt : Nat → ClassId) (kv : Nat → Nat) (bv : zV) (x1 : Int32) (out : Int32) (h : f_X2_aboutAll bv x1 = some out) : Met l yX2_aboutAll wsX2_aboutAll { frames := 2, cells := 0, slots := 0, locals := 45 } (zPr [.ref (kv 0), .int x1] D tt (zw_co tt kv bv)) (zQr .int out) 0 0 (fun _ => False) := by
  refine Met.ofW (cc := cX2_aboutAll) (maxL := 2) (ret := (some .int)) (by decide) rfl ?_
  intro p e s m args below meth c s₁ B hml hv
  obtain ⟨ha, hP, hK⟩ := hv
  have hx := B.exec
  have hb := B.bytes
  have hr := B.returns
  have hts := atoms_spec (ws := wsX2_aboutAll) B.pre
  have hown : s.vm.findClass RX2 = some m.cls := findClass_of_methodNamed B.named
  have hlocks := B.notSynchronized
  have hi1 : ∀ w ∈ u_ws RX1 TX1 6, w ∈ wsX2_aboutAll := fun _ h => List.mem_cons_of_mem _ (List.mem_append_left _ (List.mem_append_left _ (List.mem_append_left _ (List.mem_append_right _ h))))
  have hi2 : ∀ w ∈ u_ws RX2 TX2 11, w ∈ wsX2_aboutAll := fun _ h => List.mem_cons_of_mem _ (List.mem_append_left _ (List.mem_append_left _ (List.mem_append_left _ (List.mem_append_left _ (List.mem_append_right _ h)))))
  have hi4 : ∀ w ∈ u_ws RX4 TX4 8, w ∈ wsX2_aboutAll := fun _ h => List.mem_cons_of_mem _ (List.mem_append_left _ (List.mem_append_left _ (List.mem_append_right _ h)))
  have hi7 : ∀ w ∈ u_ws RX7 TX7 6, w ∈ wsX2_aboutAll := fun _ h => List.mem_cons_of_mem _ (List.mem_append_left _ (List.mem_append_right _ h))
  have fl109 := hts (.fieldLink RX2 109 "CapStacks$Round" "on" "Z") (by decide +kernel)
  have fl12 := hts (.fieldLink RX2 12 "CapStacks$Company" "classes" "LCapStacks$Classes;") (by decide +kernel)
  have fl21 := hts (.fieldLink RX2 21 "CapStacks$Company" "certificates" "LCapStacks$Certificates;") (by decide +kernel)
  have fl28 := hts (.fieldLink RX2 28 "CapStacks$Company" "grants" "LCapStacks$Grants;") (by decide +kernel)
  have fl35 := hts (.fieldLink RX2 35 "CapStacks$Company" "round" "LCapStacks$Round;") (by decide +kernel)
  have fl56 := hts (.fieldLink RX2 56 "CapStacks$Company" "holders" "I") (by decide +kernel)
  have fl64 := hts (.fieldLink RX2 64 "CapStacks$Company" "time" "I") (by decide +kernel)
  have fl67 := hts (.fieldLink RX2 67 "CapStacks$Company" "sharesIssued" "I") (by decide +kernel)
  have fl70 := hts (.fieldLink RX2 70 "CapStacks$Company" "sharesBought" "I") (by decide +kernel)
  have fl73 := hts (.fieldLink RX2 73 "CapStacks$Company" "optionMoney" "I") (by decide +kernel)
  have fl76 := hts (.fieldLink RX2 76 "CapStacks$Company" "roundMoney" "I") (by decide +kernel)
  have fl79 := hts (.fieldLink RX2 79 "CapStacks$Classes" "size" "I") (by decide +kernel)
  have fl86 := hts (.fieldLink RX2 86 "CapStacks$Grants" "size" "I") (by decide +kernel)
  have hfin : ∀ (v : Int32) (pc : Nat) (ls : Array Slot), some v = some out → narrow .int (.int v) = .int v → decode cX2_aboutAll pc = .ok (.ireturn, 1) → W p l e (headSpec wsX2_aboutAll { frames := 2, cells := 0, slots := 0, locals := 45 }).room s m args below meth c s.heap [] 0 0 (MQ below (zQr .int out) args s 0 0 (fun _ => False)) (F0 m pc ls [.int v]) := by
    intro v pc ls he hn hd
    cases he
    exact W.zret hx hb hr hn (fun t ht hW => ⟨rfl, hn, ht⟩) (fun _ h => by cases h) hd
  generalize MQ below (zQr .int out) args s 0 0 (fun _ => False) = Q at hfin ⊢
  have hl := lv_entry ([.ref (kv 0), .int x1]) (n := 2) (Nat.le_of_ble_eq_true rfl)
  refine W.eq (g2 := F0 m 0 ((lg_sl ([.ref (kv 0), .int x1]) ++ List.replicate (2 - (lg_sl ([.ref (kv 0), .int x1])).length) Slot.unset).toArray) []) (by rw [ha]; exact lg_entry_eq _ _ _) ?_
  generalize (lg_sl ([.ref (kv 0), .int x1]) ++ List.replicate (2 - (lg_sl ([.ref (kv 0), .int x1])).length) Slot.unset).toArray = ls at hl ⊢
  have hl : lv_has ls 2 [(0, .ref (kv 0)), (1, .int x1)] := hl
  rw [f_X2_aboutAll] at h
  refine lv_iload_n hx hb dX2_aboutAll_0 rfl (lv_at hl 1 rfl) ?_
  by_cases k1 : x1 = 0
  · replace h := z_pos k1 h
    rw [k1]
    refine lv_tableIn (off := 59) (tgt := 60) hx hb dX2_aboutAll_1 (by decide) (by decide) (by decide) (by decide) ?_
    refine lv_aload_n hx hb dX2_aboutAll_60 rfl (lv_at hl 0 rfl) ?_
    refine va_get (D := D) (ci := 2) (v := .ref (kv 1)) (C := RX2) (T := TX2) (N := 11) hx hb hts hi2 hown hK.1 hP 0 rfl rfl 0 (by decide) fl12 (fun _ h9 => h9) rfl dX2_aboutAll_61 ?_
    refine va_get (D := D) (ci := 1) (v := .int (bv 0 0)) (C := RX1) (T := TX1) (N := 6) hx hb hts hi1 hown hK.1 hP 1 rfl rfl 0 (by decide) fl79 (fun _ h9 => h9) rfl dX2_aboutAll_64 ?_
    exact hfin _ _ _ h rfl dX2_aboutAll_67
  replace h := z_neg k1 h
  by_cases k2 : x1 = 1
  · replace h := z_pos k2 h
    rw [k2]
    refine lv_tableIn (off := 67) (tgt := 68) hx hb dX2_aboutAll_1 (by decide) (by decide) (by decide) (by decide) ?_
    refine lv_aload_n hx hb dX2_aboutAll_68 rfl (lv_at hl 0 rfl) ?_
    refine va_get (D := D) (ci := 2) (v := .int (bv 0 6)) (C := RX2) (T := TX2) (N := 11) hx hb hts hi2 hown hK.1 hP 0 rfl rfl 4 (by decide) fl56 (fun _ h9 => h9) rfl dX2_aboutAll_69 ?_
    exact hfin _ _ _ h rfl dX2_aboutAll_72
  replace h := z_neg k2 h
  by_cases k3 : x1 = 2
  · replace h := z_pos k3 h
    rw [k3]
    refine lv_tableIn (off := 72) (tgt := 73) hx hb dX2_aboutAll_1 (by decide) (by decide) (by decide) (by decide) ?_
    refine lv_aload_n hx hb dX2_aboutAll_73 rfl (lv_at hl 0 rfl) ?_
    refine va_get (D := D) (ci := 2) (v := .ref (kv 2)) (C := RX2) (T := TX2) (N := 11) hx hb hts hi2 hown hK.1 hP 0 rfl rfl 1 (by decide) fl21 (fun _ h9 => h9) rfl dX2_aboutAll_74 ?_
    obtain ⟨y4, gy4, h⟩ := zb_some h
    have hpm : List.Perm (zw_c0 tt kv bv ++ (zw_cl tt kv bv ++ (zw_ce tt kv bv ++ (zw_gr tt kv bv ++ (zw_ro tt kv bv ++ (zw_la tt kv bv)))))) ((zw_ce tt kv bv) ++ (zw_c0 tt kv bv ++ zw_cl tt kv bv ++ zw_gr tt kv bv ++ zw_ro tt kv bv ++ zw_la tt kv bv)) := z_pm (fun _ x => by simp only [List.count_append, List.count_nil] <;> omega)
    refine z_callr (va_runV (As := []) (rest := []) ⟨hx, hb, hml, hown, hts⟩ (c_X0_size l D tt kv bv y4 gy4) (cwV 0 hts gX2_aboutAll_X0_size rfl rfl rfl (by decide +kernel) ⟨Nat.le_of_ble_eq_true rfl, Nat.le_of_ble_eq_true rfl⟩) (z_preVr hK (z_takeP hpm hP) (ci := 0) (q0 := 0) rfl rfl) rfl rfl hl.1 rfl (lv_room (Nat.le_of_ble_eq_true rfl)) dX2_aboutAll_77 ⟨Nat.zero_le _, Nat.zero_le _⟩) (fun ny4 => ?_)
    exact hfin _ _ _ h rfl dX2_aboutAll_80
  replace h := z_neg k3 h
  by_cases k5 : x1 = 3
  · replace h := z_pos k5 h
    rw [k5]
    refine lv_tableIn (off := 80) (tgt := 81) hx hb dX2_aboutAll_1 (by decide) (by decide) (by decide) (by decide) ?_
    refine lv_aload_n hx hb dX2_aboutAll_81 rfl (lv_at hl 0 rfl) ?_
    refine va_get (D := D) (ci := 2) (v := .ref (kv 3)) (C := RX2) (T := TX2) (N := 11) hx hb hts hi2 hown hK.1 hP 0 rfl rfl 2 (by decide) fl28 (fun _ h9 => h9) rfl dX2_aboutAll_82 ?_
    refine va_get (D := D) (ci := 4) (v := .int (bv 0 1)) (C := RX4) (T := TX4) (N := 8) hx hb hts hi4 hown hK.1 hP 12 rfl rfl 0 (by decide) fl86 (fun _ h9 => h9) rfl dX2_aboutAll_85 ?_
    exact hfin _ _ _ h rfl dX2_aboutAll_88
  replace h := z_neg k5 h
  by_cases k6 : x1 = 4
  · replace h := z_pos k6 h
    rw [k6]
    refine lv_tableIn (off := 88) (tgt := 89) hx hb dX2_aboutAll_1 (by decide) (by decide) (by decide) (by decide) ?_
    refine lv_aload_n hx hb dX2_aboutAll_89 rfl (lv_at hl 0 rfl) ?_
    refine va_get (D := D) (ci := 2) (v := .int (bv 0 7)) (C := RX2) (T := TX2) (N := 11) hx hb hts hi2 hown hK.1 hP 0 rfl rfl 6 (by decide) fl64 (fun _ h9 => h9) rfl dX2_aboutAll_90 ?_
    exact hfin _ _ _ h rfl dX2_aboutAll_93
  replace h := z_neg k6 h
  by_cases k7 : x1 = 5
  · replace h := z_pos k7 h
    rw [k7]
    refine lv_tableIn (off := 93) (tgt := 94) hx hb dX2_aboutAll_1 (by decide) (by decide) (by decide) (by decide) ?_
    refine lv_aload_n hx hb dX2_aboutAll_94 rfl (lv_at hl 0 rfl) ?_
    obtain ⟨y8, gy8, h⟩ := zb_some h
    refine z_callr (va_runV (As := []) (rest := []) ⟨hx, hb, hml, hown, hts⟩ (c_X2_commonOfAll l D tt kv bv y8 gy8) (cwV 0 hts gX2_aboutAll_X2_commonOfAll rfl rfl rfl (by decide +kernel) ⟨Nat.le_of_ble_eq_true rfl, Nat.le_of_ble_eq_true rfl⟩) (z_preVr hK hP (ci := 2) (q0 := 0) rfl rfl) rfl rfl hl.1 rfl (lv_room (Nat.le_of_ble_eq_true rfl)) dX2_aboutAll_95 ⟨Nat.zero_le _, Nat.zero_le _⟩) (fun ny8 => ?_)
    exact hfin _ _ _ h rfl dX2_aboutAll_98
  replace h := z_neg k7 h
  by_cases k9 : x1 = 6
  · replace h := z_pos k9 h
    rw [k9]
    refine lv_tableIn (off := 98) (tgt := 99) hx hb dX2_aboutAll_1 (by decide) (by decide) (by decide) (by decide) ?_
    refine lv_aload_n hx hb dX2_aboutAll_99 rfl (lv_at hl 0 rfl) ?_
    refine va_get (D := D) (ci := 2) (v := .ref (kv 4)) (C := RX2) (T := TX2) (N := 11) hx hb hts hi2 hown hK.1 hP 0 rfl rfl 3 (by decide) fl35 (fun _ h9 => h9) rfl dX2_aboutAll_100 ?_
    refine va_get (D := D) (ci := 7) (v := .int (bv 0 2)) (C := RX7) (T := TX7) (N := 6) hx hb hts hi7 hown hK.1 hP 20 rfl rfl 0 (by decide) fl109 (fun _ h9 => h9) rfl dX2_aboutAll_103 ?_
    refine lv_if_eq (tgt := 113) hx hb dX2_aboutAll_106 (by decide) (fun k10 => ?_) (fun k10 => ?_)
    · replace h := z_pos k10 h
      refine lv_iconst (v := 0) hx hb dX2_aboutAll_113 (by decide) ?_
      exact hfin _ _ _ h rfl dX2_aboutAll_114
    replace h := z_neg k10 h
    refine lv_iconst (v := 1) hx hb dX2_aboutAll_109 (by decide) ?_
    refine lv_goto (tgt := 114) hx hb dX2_aboutAll_110 (by decide) ?_
    exact hfin _ _ _ h rfl dX2_aboutAll_114
  replace h := z_neg k9 h
  by_cases k11 : x1 = 7
  · replace h := z_pos k11 h
    rw [k11]
    refine lv_tableIn (off := 114) (tgt := 115) hx hb dX2_aboutAll_1 (by decide) (by decide) (by decide) (by decide) ?_
    refine lv_aload_n hx hb dX2_aboutAll_115 rfl (lv_at hl 0 rfl) ?_
    refine va_get (D := D) (ci := 2) (v := .int (bv 0 8)) (C := RX2) (T := TX2) (N := 11) hx hb hts hi2 hown hK.1 hP 0 rfl rfl 7 (by decide) fl67 (fun _ h9 => h9) rfl dX2_aboutAll_116 ?_
    exact hfin _ _ _ h rfl dX2_aboutAll_119
  replace h := z_neg k11 h
  by_cases k12 : x1 = 8
  · replace h := z_pos k12 h
    rw [k12]
    refine lv_tableIn (off := 119) (tgt := 120) hx hb dX2_aboutAll_1 (by decide) (by decide) (by decide) (by decide) ?_
    refine lv_aload_n hx hb dX2_aboutAll_120 rfl (lv_at hl 0 rfl) ?_
    refine va_get (D := D) (ci := 2) (v := .int (bv 0 9)) (C := RX2) (T := TX2) (N := 11) hx hb hts hi2 hown hK.1 hP 0 rfl rfl 8 (by decide) fl70 (fun _ h9 => h9) rfl dX2_aboutAll_121 ?_
    exact hfin _ _ _ h rfl dX2_aboutAll_124
  replace h := z_neg k12 h
  by_cases k13 : x1 = 9
  · replace h := z_pos k13 h
    rw [k13]
    refine lv_tableIn (off := 124) (tgt := 125) hx hb dX2_aboutAll_1 (by decide) (by decide) (by decide) (by decide) ?_
    refine lv_aload_n hx hb dX2_aboutAll_125 rfl (lv_at hl 0 rfl) ?_
    refine va_get (D := D) (ci := 2) (v := .int (bv 0 10)) (C := RX2) (T := TX2) (N := 11) hx hb hts hi2 hown hK.1 hP 0 rfl rfl 9 (by decide) fl73 (fun _ h9 => h9) rfl dX2_aboutAll_126 ?_
    exact hfin _ _ _ h rfl dX2_aboutAll_129
  replace h := z_neg k13 h
  by_cases k14 : x1 = 10
  · replace h := z_pos k14 h
    rw [k14]
    refine lv_tableIn (off := 129) (tgt := 130) hx hb dX2_aboutAll_1 (by decide) (by decide) (by decide) (by decide) ?_
    refine lv_aload_n hx hb dX2_aboutAll_130 rfl (lv_at hl 0 rfl) ?_
    refine va_get (D := D) (ci := 2) (v := .int (bv 0 11)) (C := RX2) (T := TX2) (N := 11) hx hb hts hi2 hown hK.1 hP 0 rfl rfl 10 (by decide) fl76 (fun _ h9 => h9) rfl dX2_aboutAll_131 ?_
    exact hfin _ _ _ h rfl dX2_aboutAll_134
  replace h := z_neg k14 h
  have ek1 : Int32.toInt x1 ≠ 0 := fun e => k1 (Int32.toInt_inj.mp (e.trans (by decide)))
  have ek2 : Int32.toInt x1 ≠ 1 := fun e => k2 (Int32.toInt_inj.mp (e.trans (by decide)))
  have ek3 : Int32.toInt x1 ≠ 2 := fun e => k3 (Int32.toInt_inj.mp (e.trans (by decide)))
  have ek5 : Int32.toInt x1 ≠ 3 := fun e => k5 (Int32.toInt_inj.mp (e.trans (by decide)))
  have ek6 : Int32.toInt x1 ≠ 4 := fun e => k6 (Int32.toInt_inj.mp (e.trans (by decide)))
  have ek7 : Int32.toInt x1 ≠ 5 := fun e => k7 (Int32.toInt_inj.mp (e.trans (by decide)))
  have ek9 : Int32.toInt x1 ≠ 6 := fun e => k9 (Int32.toInt_inj.mp (e.trans (by decide)))
  have ek11 : Int32.toInt x1 ≠ 7 := fun e => k11 (Int32.toInt_inj.mp (e.trans (by decide)))
  have ek12 : Int32.toInt x1 ≠ 8 := fun e => k12 (Int32.toInt_inj.mp (e.trans (by decide)))
  have ek13 : Int32.toInt x1 ≠ 9 := fun e => k13 (Int32.toInt_inj.mp (e.trans (by decide)))
  have ek14 : Int32.toInt x1 ≠ 10 := fun e => k14 (Int32.toInt_inj.mp (e.trans (by decide)))
  refine lv_tableOut (tgt := 135) hx hb dX2_aboutAll_1 (by omega) (by decide) ?_
  refine lv_iconst (v := (-1)) hx hb dX2_aboutAll_135 (by decide) ?_
  exact hfin _ _ _ h rfl dX2_aboutAll_136
