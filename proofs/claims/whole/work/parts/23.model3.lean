/-! ===== contracts: 23.model3 ===== -/
set_option maxHeartbeats 4000000 in
set_option maxRecDepth 100000 in
theorem c_X10_shareClass (l : Launch) (D : va_G) (tt : Nat → ClassId) (kw : Nat → Nat) (sz : Nat) (bw : zV) (bj : zJ) (x1 : Int32) (x2 : Int32) (x3 : Int32) (x4 : Int32) (x5 : Int32) (out : Int32 × zV) (h : f_X10_shareClass bw bj x1 x2 x3 x4 x5 = some out) : Met l yX10_shareClass wsX10_shareClass { frames := 2, cells := 0, slots := 0, locals := 48 } (zPm [.ref (kw 0), .int x1, .int x2, .int x3, .int x4, .int x5] D tt (zw_mo tt kw bw bj) sz) (zMi .int out.1 D (zw_mo tt kw out.2 bj) (va_A (zw_mo tt kw bw bj) sz)) 0 0 (va_A (zw_mo tt kw bw bj) sz) := by
  refine Met.ofW (cc := cX10_shareClass) (maxL := 6) (ret := (some .int)) (by decide) rfl ?_
  intro p e s m args below meth c s₁ B hml hv
  obtain ⟨ha, hsz, hP, hK, hD0⟩ := hv
  have hx := B.exec
  have hb := B.bytes
  have hr := B.returns
  have hts := atoms_spec (ws := wsX10_shareClass) B.pre
  have hown : s.vm.findClass RX10 = some m.cls := findClass_of_methodNamed B.named
  have hlocks := B.notSynchronized
  subst hsz
  have hD := hD0.self (sz := s.heap.size)
  generalize hAe : va_A (zw_mo tt kw bw bj) s.heap.size = A at hD ⊢
  have hA : ∀ q : Nat, s.heap.size ≤ q → A q := fun q h => by rw [← hAe]; exact Or.inr h
  have hS : va_S A s.heap s.heap [] := va_S.rf
  have hfin : ∀ (v : Int32) (bw : zV) (pc : Nat) (ls : Array Slot) (H : Heap) (locs : List Loc), some (v, bw) = some out → narrow .int (.int v) = .int v → va_P D vwCl (zw_mo tt kw bw bj) H → va_D A (zw_mo tt kw bw bj) → va_S A s.heap H locs → decode cX10_shareClass pc = .ok (.ireturn, 1) → W p l e (headSpec wsX10_shareClass { frames := 2, cells := 0, slots := 0, locals := 48 }).room s m args below meth c H locs 0 0 (MQ below (zMi .int out.1 D (zw_mo tt kw out.2 bj) A) args s 0 0 A) (F0 m pc ls [.int v]) := by
    intro v bw pc ls H locs he hn hP hD hS hd
    cases he
    exact W.zret hx hb hr hn (fun t ht hW => ⟨⟨_, (), rfl, ⟨rfl, hn⟩, by rw [ht]; exact hP, hD⟩, hS.F ht⟩) hS.2.2 hd
  generalize MQ below (zMi .int out.1 D (zw_mo tt kw out.2 bj) A) args s 0 0 A = Q at hfin ⊢
  have hl := lv_entry ([.ref (kw 0), .int x1, .int x2, .int x3, .int x4, .int x5]) (n := 6) (Nat.le_of_ble_eq_true rfl)
  refine W.eq (g2 := F0 m 0 ((lg_sl ([.ref (kw 0), .int x1, .int x2, .int x3, .int x4, .int x5]) ++ List.replicate (6 - (lg_sl ([.ref (kw 0), .int x1, .int x2, .int x3, .int x4, .int x5])).length) Slot.unset).toArray) []) (by rw [ha]; exact lg_entry_eq _ _ _) ?_
  generalize (lg_sl ([.ref (kw 0), .int x1, .int x2, .int x3, .int x4, .int x5]) ++ List.replicate (6 - (lg_sl ([.ref (kw 0), .int x1, .int x2, .int x3, .int x4, .int x5])).length) Slot.unset).toArray = ls at hl ⊢
  have hl : lv_has ls 6 [(0, .ref (kw 0)), (1, .int x1), (2, .int x2), (3, .int x3), (4, .int x4), (5, .int x5)] := hl
  rw [f_X10_shareClass] at h
  refine lv_aload_n hx hb dX10_shareClass_0 rfl (lv_at hl 0 rfl) ?_
  obtain ⟨y1, gy1, h⟩ := zb_some h
  have hFc := z_free0 hD hS hA
  refine z_callmv (wc := (zw_mo tt kw bw bj)) (w1 := (zw_mo tt kw y1 bj)) (va_runV (As := []) (rest := []) ⟨hx, hb, hml, hown, hts⟩ (c_X10_begins l D tt kw _ bw bj y1 gy1) (cwV 0 hts gX10_shareClass_X10_begins rfl rfl rfl (by decide +kernel) ⟨Nat.le_of_ble_eq_true rfl, Nat.le_of_ble_eq_true rfl⟩) (z_preVm hK hP hD (ci := 10) (q0 := 0) rfl rfl) rfl rfl hl.1 rfl (lv_room (Nat.le_of_ble_eq_true rfl)) dX10_shareClass_1 ⟨Nat.zero_le _, Nat.zero_le _⟩) hS hFc (fun H locs hP1 hD1 hk1 hS => ?_)
  have hP := hP1
  have hD := hD1.weaken (fun _ q _ h => hFc q.1 h)
  refine lv_aload_n hx hb dX10_shareClass_4 rfl (lv_at hl 0 rfl) ?_
  refine lv_aload_n hx hb dX10_shareClass_5 rfl (lv_at hl 0 rfl) ?_
  refine lv_iload_n hx hb dX10_shareClass_6 rfl (lv_at hl 1 rfl) ?_
  refine lv_iload_n hx hb dX10_shareClass_7 rfl (lv_at hl 2 rfl) ?_
  refine lv_iload_n hx hb dX10_shareClass_8 rfl (lv_at hl 3 rfl) ?_
  refine lv_iload hx hb dX10_shareClass_9 (lv_at hl 4 rfl) ?_
  refine lv_iload hx hb dX10_shareClass_11 (lv_at hl 5 rfl) ?_
  obtain ⟨y2, gy2, h⟩ := zb_some h
  have hFc := z_free0 hD hS hA
  refine z_callmi (wc := (zw_mo tt kw y1 bj)) (w1 := (zw_mo tt kw y2.2 bj)) (va_runV (As := [.int x1, .int x2, .int x3, .int x4, .int x5]) (rest := [.ref (kw 0)]) ⟨hx, hb, hml, hown, hts⟩ (c_X10_founds l D tt kw _ y1 bj x1 x2 x3 x4 x5 y2 gy2) (cwV 5 hts gX10_shareClass_X10_founds rfl rfl rfl (by decide +kernel) ⟨Nat.le_of_ble_eq_true rfl, Nat.le_of_ble_eq_true rfl⟩) (z_preVm hK hP hD (ci := 10) (q0 := 0) rfl rfl) rfl rfl hl.1 rfl (lv_room (Nat.le_of_ble_eq_true rfl)) dX10_shareClass_13 ⟨Nat.zero_le _, Nat.zero_le _⟩) hS hFc (fun H locs ny2 hP1 hD1 hk1 hS => ?_)
  have hP := hP1
  have hD := hD1.weaken (fun _ q _ h => hFc q.1 h)
  obtain ⟨y3, gy3, h⟩ := zb_some h
  have hFc := z_free0 hD hS hA
  refine z_callmi (wc := (zw_mo tt kw y2.2 bj)) (w1 := (zw_mo tt kw y3.2 bj)) (va_runV (As := [.int y2.1]) (rest := []) ⟨hx, hb, hml, hown, hts⟩ (c_X10_acted l D tt kw _ y2.2 bj y2.1 y3 gy3) (cwV 1 hts gX10_shareClass_X10_acted rfl rfl rfl (by decide +kernel) ⟨Nat.le_of_ble_eq_true rfl, Nat.le_of_ble_eq_true rfl⟩) (z_preVm hK hP hD (ci := 10) (q0 := 0) rfl rfl) rfl rfl hl.1 rfl (lv_room (Nat.le_of_ble_eq_true rfl)) dX10_shareClass_16 ⟨Nat.zero_le _, Nat.zero_le _⟩) hS hFc (fun H locs ny3 hP1 hD1 hk1 hS => ?_)
  have hP := hP1
  have hD := hD1.weaken (fun _ q _ h => hFc q.1 h)
  exact hfin _ _ _ _ _ _ h rfl hP hD hS dX10_shareClass_19
set_option maxHeartbeats 4000000 in
set_option maxRecDepth 100000 in
theorem c_X10_holder (l : Launch) (D : va_G) (tt : Nat → ClassId) (kw : Nat → Nat) (sz : Nat) (bw : zV) (bj : zJ)  (out : Int32 × zV) (h : f_X10_holder bw bj = some out) : Met l yX10_holder wsX10_holder { frames := 1, cells := 0, slots := 0, locals := 22 } (zPm [.ref (kw 0)] D tt (zw_mo tt kw bw bj) sz) (zMi .int out.1 D (zw_mo tt kw out.2 bj) (va_A (zw_mo tt kw bw bj) sz)) 0 0 (va_A (zw_mo tt kw bw bj) sz) := by
  refine Met.ofW (cc := cX10_holder) (maxL := 1) (ret := (some .int)) (by decide) rfl ?_
  intro p e s m args below meth c s₁ B hml hv
  obtain ⟨ha, hsz, hP, hK, hD0⟩ := hv
  have hx := B.exec
  have hb := B.bytes
  have hr := B.returns
  have hts := atoms_spec (ws := wsX10_holder) B.pre
  have hown : s.vm.findClass RX10 = some m.cls := findClass_of_methodNamed B.named
  have hlocks := B.notSynchronized
  subst hsz
  have hD := hD0.self (sz := s.heap.size)
  generalize hAe : va_A (zw_mo tt kw bw bj) s.heap.size = A at hD ⊢
  have hA : ∀ q : Nat, s.heap.size ≤ q → A q := fun q h => by rw [← hAe]; exact Or.inr h
  have hS : va_S A s.heap s.heap [] := va_S.rf
  have hfin : ∀ (v : Int32) (bw : zV) (pc : Nat) (ls : Array Slot) (H : Heap) (locs : List Loc), some (v, bw) = some out → narrow .int (.int v) = .int v → va_P D vwCl (zw_mo tt kw bw bj) H → va_D A (zw_mo tt kw bw bj) → va_S A s.heap H locs → decode cX10_holder pc = .ok (.ireturn, 1) → W p l e (headSpec wsX10_holder { frames := 1, cells := 0, slots := 0, locals := 22 }).room s m args below meth c H locs 0 0 (MQ below (zMi .int out.1 D (zw_mo tt kw out.2 bj) A) args s 0 0 A) (F0 m pc ls [.int v]) := by
    intro v bw pc ls H locs he hn hP hD hS hd
    cases he
    exact W.zret hx hb hr hn (fun t ht hW => ⟨⟨_, (), rfl, ⟨rfl, hn⟩, by rw [ht]; exact hP, hD⟩, hS.F ht⟩) hS.2.2 hd
  generalize MQ below (zMi .int out.1 D (zw_mo tt kw out.2 bj) A) args s 0 0 A = Q at hfin ⊢
  have hl := lv_entry ([.ref (kw 0)]) (n := 1) (Nat.le_of_ble_eq_true rfl)
  refine W.eq (g2 := F0 m 0 ((lg_sl ([.ref (kw 0)]) ++ List.replicate (1 - (lg_sl ([.ref (kw 0)])).length) Slot.unset).toArray) []) (by rw [ha]; exact lg_entry_eq _ _ _) ?_
  generalize (lg_sl ([.ref (kw 0)]) ++ List.replicate (1 - (lg_sl ([.ref (kw 0)])).length) Slot.unset).toArray = ls at hl ⊢
  have hl : lv_has ls 1 [(0, .ref (kw 0))] := hl
  rw [f_X10_holder] at h
  refine lv_aload_n hx hb dX10_holder_0 rfl (lv_at hl 0 rfl) ?_
  obtain ⟨y1, gy1, h⟩ := zb_some h
  have hFc := z_free0 hD hS hA
  refine z_callmv (wc := (zw_mo tt kw bw bj)) (w1 := (zw_mo tt kw y1 bj)) (va_runV (As := []) (rest := []) ⟨hx, hb, hml, hown, hts⟩ (c_X10_begins l D tt kw _ bw bj y1 gy1) (cwV 0 hts gX10_holder_X10_begins rfl rfl rfl (by decide +kernel) ⟨Nat.le_of_ble_eq_true rfl, Nat.le_of_ble_eq_true rfl⟩) (z_preVm hK hP hD (ci := 10) (q0 := 0) rfl rfl) rfl rfl hl.1 rfl (lv_room (Nat.le_of_ble_eq_true rfl)) dX10_holder_1 ⟨Nat.zero_le _, Nat.zero_le _⟩) hS hFc (fun H locs hP1 hD1 hk1 hS => ?_)
  have hP := hP1
  have hD := hD1.weaken (fun _ q _ h => hFc q.1 h)
  refine lv_aload_n hx hb dX10_holder_4 rfl (lv_at hl 0 rfl) ?_
  refine lv_aload_n hx hb dX10_holder_5 rfl (lv_at hl 0 rfl) ?_
  obtain ⟨y2, gy2, h⟩ := zb_some h
  have hFc := z_free0 hD hS hA
  refine z_callmi (wc := (zw_mo tt kw y1 bj)) (w1 := (zw_mo tt kw y2.2 bj)) (va_runV (As := []) (rest := [.ref (kw 0)]) ⟨hx, hb, hml, hown, hts⟩ (c_X10_comes l D tt kw _ y1 bj y2 gy2) (cwV 0 hts gX10_holder_X10_comes rfl rfl rfl (by decide +kernel) ⟨Nat.le_of_ble_eq_true rfl, Nat.le_of_ble_eq_true rfl⟩) (z_preVm hK hP hD (ci := 10) (q0 := 0) rfl rfl) rfl rfl hl.1 rfl (lv_room (Nat.le_of_ble_eq_true rfl)) dX10_holder_6 ⟨Nat.zero_le _, Nat.zero_le _⟩) hS hFc (fun H locs ny2 hP1 hD1 hk1 hS => ?_)
  have hP := hP1
  have hD := hD1.weaken (fun _ q _ h => hFc q.1 h)
  obtain ⟨y3, gy3, h⟩ := zb_some h
  have hFc := z_free0 hD hS hA
  refine z_callmi (wc := (zw_mo tt kw y2.2 bj)) (w1 := (zw_mo tt kw y3.2 bj)) (va_runV (As := [.int y2.1]) (rest := []) ⟨hx, hb, hml, hown, hts⟩ (c_X10_acted l D tt kw _ y2.2 bj y2.1 y3 gy3) (cwV 1 hts gX10_holder_X10_acted rfl rfl rfl (by decide +kernel) ⟨Nat.le_of_ble_eq_true rfl, Nat.le_of_ble_eq_true rfl⟩) (z_preVm hK hP hD (ci := 10) (q0 := 0) rfl rfl) rfl rfl hl.1 rfl (lv_room (Nat.le_of_ble_eq_true rfl)) dX10_holder_9 ⟨Nat.zero_le _, Nat.zero_le _⟩) hS hFc (fun H locs ny3 hP1 hD1 hk1 hS => ?_)
  have hP := hP1
  have hD := hD1.weaken (fun _ q _ h => hFc q.1 h)
  exact hfin _ _ _ _ _ _ h rfl hP hD hS dX10_holder_12
set_option maxHeartbeats 4000000 in
set_option maxRecDepth 100000 in
theorem c_X10_issue (l : Launch) (D : va_G) (tt : Nat → ClassId) (kw : Nat → Nat) (sz : Nat) (bw : zV) (bj : zJ) (x1 : Int32) (x2 : Int32) (x3 : Int32) (out : Int32 × zV) (h : f_X10_issue bw bj x1 x2 x3 = some out) : Met l yX10_issue wsX10_issue { frames := 3, cells := 0, slots := 0, locals := 70 } (zPm [.ref (kw 0), .int x1, .int x2, .int x3] D tt (zw_mo tt kw bw bj) sz) (zMi .int out.1 D (zw_mo tt kw out.2 bj) (va_A (zw_mo tt kw bw bj) sz)) 0 0 (va_A (zw_mo tt kw bw bj) sz) := by
  refine Met.ofW (cc := cX10_issue) (maxL := 4) (ret := (some .int)) (by decide) rfl ?_
  intro p e s m args below meth c s₁ B hml hv
  obtain ⟨ha, hsz, hP, hK, hD0⟩ := hv
  have hx := B.exec
  have hb := B.bytes
  have hr := B.returns
  have hts := atoms_spec (ws := wsX10_issue) B.pre
  have hown : s.vm.findClass RX10 = some m.cls := findClass_of_methodNamed B.named
  have hlocks := B.notSynchronized
  subst hsz
  have hD := hD0.self (sz := s.heap.size)
  generalize hAe : va_A (zw_mo tt kw bw bj) s.heap.size = A at hD ⊢
  have hA : ∀ q : Nat, s.heap.size ≤ q → A q := fun q h => by rw [← hAe]; exact Or.inr h
  have hS : va_S A s.heap s.heap [] := va_S.rf
  have hfin : ∀ (v : Int32) (bw : zV) (pc : Nat) (ls : Array Slot) (H : Heap) (locs : List Loc), some (v, bw) = some out → narrow .int (.int v) = .int v → va_P D vwCl (zw_mo tt kw bw bj) H → va_D A (zw_mo tt kw bw bj) → va_S A s.heap H locs → decode cX10_issue pc = .ok (.ireturn, 1) → W p l e (headSpec wsX10_issue { frames := 3, cells := 0, slots := 0, locals := 70 }).room s m args below meth c H locs 0 0 (MQ below (zMi .int out.1 D (zw_mo tt kw out.2 bj) A) args s 0 0 A) (F0 m pc ls [.int v]) := by
    intro v bw pc ls H locs he hn hP hD hS hd
    cases he
    exact W.zret hx hb hr hn (fun t ht hW => ⟨⟨_, (), rfl, ⟨rfl, hn⟩, by rw [ht]; exact hP, hD⟩, hS.F ht⟩) hS.2.2 hd
  generalize MQ below (zMi .int out.1 D (zw_mo tt kw out.2 bj) A) args s 0 0 A = Q at hfin ⊢
  have hl := lv_entry ([.ref (kw 0), .int x1, .int x2, .int x3]) (n := 4) (Nat.le_of_ble_eq_true rfl)
  refine W.eq (g2 := F0 m 0 ((lg_sl ([.ref (kw 0), .int x1, .int x2, .int x3]) ++ List.replicate (4 - (lg_sl ([.ref (kw 0), .int x1, .int x2, .int x3])).length) Slot.unset).toArray) []) (by rw [ha]; exact lg_entry_eq _ _ _) ?_
  generalize (lg_sl ([.ref (kw 0), .int x1, .int x2, .int x3]) ++ List.replicate (4 - (lg_sl ([.ref (kw 0), .int x1, .int x2, .int x3])).length) Slot.unset).toArray = ls at hl ⊢
  have hl : lv_has ls 4 [(0, .ref (kw 0)), (1, .int x1), (2, .int x2), (3, .int x3)] := hl
  rw [f_X10_issue] at h
  refine lv_aload_n hx hb dX10_issue_0 rfl (lv_at hl 0 rfl) ?_
  obtain ⟨y1, gy1, h⟩ := zb_some h
  have hFc := z_free0 hD hS hA
  refine z_callmv (wc := (zw_mo tt kw bw bj)) (w1 := (zw_mo tt kw y1 bj)) (va_runV (As := []) (rest := []) ⟨hx, hb, hml, hown, hts⟩ (c_X10_begins l D tt kw _ bw bj y1 gy1) (cwV 0 hts gX10_issue_X10_begins rfl rfl rfl (by decide +kernel) ⟨Nat.le_of_ble_eq_true rfl, Nat.le_of_ble_eq_true rfl⟩) (z_preVm hK hP hD (ci := 10) (q0 := 0) rfl rfl) rfl rfl hl.1 rfl (lv_room (Nat.le_of_ble_eq_true rfl)) dX10_issue_1 ⟨Nat.zero_le _, Nat.zero_le _⟩) hS hFc (fun H locs hP1 hD1 hk1 hS => ?_)
  have hP := hP1
  have hD := hD1.weaken (fun _ q _ h => hFc q.1 h)
  refine lv_aload_n hx hb dX10_issue_4 rfl (lv_at hl 0 rfl) ?_
  refine lv_aload_n hx hb dX10_issue_5 rfl (lv_at hl 0 rfl) ?_
  refine lv_iload_n hx hb dX10_issue_6 rfl (lv_at hl 1 rfl) ?_
  refine lv_iload_n hx hb dX10_issue_7 rfl (lv_at hl 2 rfl) ?_
  refine lv_iload_n hx hb dX10_issue_8 rfl (lv_at hl 3 rfl) ?_
  obtain ⟨y2, gy2, h⟩ := zb_some h
  have hFc := z_free0 hD hS hA
  refine z_callmi (wc := (zw_mo tt kw y1 bj)) (w1 := (zw_mo tt kw y2.2 bj)) (va_runV (As := [.int x1, .int x2, .int x3]) (rest := [.ref (kw 0)]) ⟨hx, hb, hml, hown, hts⟩ (c_X10_issues l D tt kw _ y1 bj x1 x2 x3 y2 gy2) (cwV 3 hts gX10_issue_X10_issues rfl rfl rfl (by decide +kernel) ⟨Nat.le_of_ble_eq_true rfl, Nat.le_of_ble_eq_true rfl⟩) (z_preVm hK hP hD (ci := 10) (q0 := 0) rfl rfl) rfl rfl hl.1 rfl (lv_room (Nat.le_of_ble_eq_true rfl)) dX10_issue_9 ⟨Nat.zero_le _, Nat.zero_le _⟩) hS hFc (fun H locs ny2 hP1 hD1 hk1 hS => ?_)
  have hP := hP1
  have hD := hD1.weaken (fun _ q _ h => hFc q.1 h)
  obtain ⟨y3, gy3, h⟩ := zb_some h
  have hFc := z_free0 hD hS hA
  refine z_callmi (wc := (zw_mo tt kw y2.2 bj)) (w1 := (zw_mo tt kw y3.2 bj)) (va_runV (As := [.int y2.1]) (rest := []) ⟨hx, hb, hml, hown, hts⟩ (c_X10_acted l D tt kw _ y2.2 bj y2.1 y3 gy3) (cwV 1 hts gX10_issue_X10_acted rfl rfl rfl (by decide +kernel) ⟨Nat.le_of_ble_eq_true rfl, Nat.le_of_ble_eq_true rfl⟩) (z_preVm hK hP hD (ci := 10) (q0 := 0) rfl rfl) rfl rfl hl.1 rfl (lv_room (Nat.le_of_ble_eq_true rfl)) dX10_issue_12 ⟨Nat.zero_le _, Nat.zero_le _⟩) hS hFc (fun H locs ny3 hP1 hD1 hk1 hS => ?_)
  have hP := hP1
  have hD := hD1.weaken (fun _ q _ h => hFc q.1 h)
  exact hfin _ _ _ _ _ _ h rfl hP hD hS dX10_issue_15
set_option maxHeartbeats 4000000 in
set_option maxRecDepth 100000 in
theorem c_X10_split (l : Launch) (D : va_G) (tt : Nat → ClassId) (kw : Nat → Nat) (sz : Nat) (bw : zV) (bj : zJ) (x1 : Int32) (x2 : Int32) (x3 : Int32) (out : Int32 × zV) (h : f_X10_split bw bj x1 x2 x3 = some out) : Met l yX10_split wsX10_split { frames := 3, cells := 0, slots := 0, locals := 71 } (zPm [.ref (kw 0), .int x1, .int x2, .int x3] D tt (zw_mo tt kw bw bj) sz) (zMi .int out.1 D (zw_mo tt kw out.2 bj) (va_A (zw_mo tt kw bw bj) sz)) 0 0 (va_A (zw_mo tt kw bw bj) sz) := by
  refine Met.ofW (cc := cX10_split) (maxL := 4) (ret := (some .int)) (by decide) rfl ?_
  intro p e s m args below meth c s₁ B hml hv
  obtain ⟨ha, hsz, hP, hK, hD0⟩ := hv
  have hx := B.exec
  have hb := B.bytes
  have hr := B.returns
  have hts := atoms_spec (ws := wsX10_split) B.pre
  have hown : s.vm.findClass RX10 = some m.cls := findClass_of_methodNamed B.named
  have hlocks := B.notSynchronized
  subst hsz
  have hD := hD0.self (sz := s.heap.size)
  generalize hAe : va_A (zw_mo tt kw bw bj) s.heap.size = A at hD ⊢
  have hA : ∀ q : Nat, s.heap.size ≤ q → A q := fun q h => by rw [← hAe]; exact Or.inr h
  have hS : va_S A s.heap s.heap [] := va_S.rf
  have hfin : ∀ (v : Int32) (bw : zV) (pc : Nat) (ls : Array Slot) (H : Heap) (locs : List Loc), some (v, bw) = some out → narrow .int (.int v) = .int v → va_P D vwCl (zw_mo tt kw bw bj) H → va_D A (zw_mo tt kw bw bj) → va_S A s.heap H locs → decode cX10_split pc = .ok (.ireturn, 1) → W p l e (headSpec wsX10_split { frames := 3, cells := 0, slots := 0, locals := 71 }).room s m args below meth c H locs 0 0 (MQ below (zMi .int out.1 D (zw_mo tt kw out.2 bj) A) args s 0 0 A) (F0 m pc ls [.int v]) := by
    intro v bw pc ls H locs he hn hP hD hS hd
    cases he
    exact W.zret hx hb hr hn (fun t ht hW => ⟨⟨_, (), rfl, ⟨rfl, hn⟩, by rw [ht]; exact hP, hD⟩, hS.F ht⟩) hS.2.2 hd
  generalize MQ below (zMi .int out.1 D (zw_mo tt kw out.2 bj) A) args s 0 0 A = Q at hfin ⊢
  have hl := lv_entry ([.ref (kw 0), .int x1, .int x2, .int x3]) (n := 4) (Nat.le_of_ble_eq_true rfl)
  refine W.eq (g2 := F0 m 0 ((lg_sl ([.ref (kw 0), .int x1, .int x2, .int x3]) ++ List.replicate (4 - (lg_sl ([.ref (kw 0), .int x1, .int x2, .int x3])).length) Slot.unset).toArray) []) (by rw [ha]; exact lg_entry_eq _ _ _) ?_
  generalize (lg_sl ([.ref (kw 0), .int x1, .int x2, .int x3]) ++ List.replicate (4 - (lg_sl ([.ref (kw 0), .int x1, .int x2, .int x3])).length) Slot.unset).toArray = ls at hl ⊢
  have hl : lv_has ls 4 [(0, .ref (kw 0)), (1, .int x1), (2, .int x2), (3, .int x3)] := hl
  rw [f_X10_split] at h
  refine lv_aload_n hx hb dX10_split_0 rfl (lv_at hl 0 rfl) ?_
  obtain ⟨y1, gy1, h⟩ := zb_some h
  have hFc := z_free0 hD hS hA
  refine z_callmv (wc := (zw_mo tt kw bw bj)) (w1 := (zw_mo tt kw y1 bj)) (va_runV (As := []) (rest := []) ⟨hx, hb, hml, hown, hts⟩ (c_X10_begins l D tt kw _ bw bj y1 gy1) (cwV 0 hts gX10_split_X10_begins rfl rfl rfl (by decide +kernel) ⟨Nat.le_of_ble_eq_true rfl, Nat.le_of_ble_eq_true rfl⟩) (z_preVm hK hP hD (ci := 10) (q0 := 0) rfl rfl) rfl rfl hl.1 rfl (lv_room (Nat.le_of_ble_eq_true rfl)) dX10_split_1 ⟨Nat.zero_le _, Nat.zero_le _⟩) hS hFc (fun H locs hP1 hD1 hk1 hS => ?_)
  have hP := hP1
  have hD := hD1.weaken (fun _ q _ h => hFc q.1 h)
  refine lv_aload_n hx hb dX10_split_4 rfl (lv_at hl 0 rfl) ?_
  refine lv_aload_n hx hb dX10_split_5 rfl (lv_at hl 0 rfl) ?_
  refine lv_iload_n hx hb dX10_split_6 rfl (lv_at hl 1 rfl) ?_
  refine lv_iload_n hx hb dX10_split_7 rfl (lv_at hl 2 rfl) ?_
  refine lv_iload_n hx hb dX10_split_8 rfl (lv_at hl 3 rfl) ?_
  obtain ⟨y2, gy2, h⟩ := zb_some h
  have hFc := z_free0 hD hS hA
  refine z_callmi (wc := (zw_mo tt kw y1 bj)) (w1 := (zw_mo tt kw y2.2 bj)) (va_runV (As := [.int x1, .int x2, .int x3]) (rest := [.ref (kw 0)]) ⟨hx, hb, hml, hown, hts⟩ (c_X10_splits l D tt kw _ y1 bj x1 x2 x3 y2 gy2) (cwV 3 hts gX10_split_X10_splits rfl rfl rfl (by decide +kernel) ⟨Nat.le_of_ble_eq_true rfl, Nat.le_of_ble_eq_true rfl⟩) (z_preVm hK hP hD (ci := 10) (q0 := 0) rfl rfl) rfl rfl hl.1 rfl (lv_room (Nat.le_of_ble_eq_true rfl)) dX10_split_9 ⟨Nat.zero_le _, Nat.zero_le _⟩) hS hFc (fun H locs ny2 hP1 hD1 hk1 hS => ?_)
  have hP := hP1
  have hD := hD1.weaken (fun _ q _ h => hFc q.1 h)
  obtain ⟨y3, gy3, h⟩ := zb_some h
  have hFc := z_free0 hD hS hA
  refine z_callmi (wc := (zw_mo tt kw y2.2 bj)) (w1 := (zw_mo tt kw y3.2 bj)) (va_runV (As := [.int y2.1]) (rest := []) ⟨hx, hb, hml, hown, hts⟩ (c_X10_acted l D tt kw _ y2.2 bj y2.1 y3 gy3) (cwV 1 hts gX10_split_X10_acted rfl rfl rfl (by decide +kernel) ⟨Nat.le_of_ble_eq_true rfl, Nat.le_of_ble_eq_true rfl⟩) (z_preVm hK hP hD (ci := 10) (q0 := 0) rfl rfl) rfl rfl hl.1 rfl (lv_room (Nat.le_of_ble_eq_true rfl)) dX10_split_12 ⟨Nat.zero_le _, Nat.zero_le _⟩) hS hFc (fun H locs ny3 hP1 hD1 hk1 hS => ?_)
  have hP := hP1
  have hD := hD1.weaken (fun _ q _ h => hFc q.1 h)
  exact hfin _ _ _ _ _ _ h rfl hP hD hS dX10_split_15
set_option maxHeartbeats 4000000 in
set_option maxRecDepth 100000 in
theorem c_X10_buyBack (l : Launch) (D : va_G) (tt : Nat → ClassId) (kw : Nat → Nat) (sz : Nat) (bw : zV) (bj : zJ) (x1 : Int32) (x2 : Int32) (out : Int32 × zV) (h : f_X10_buyBack bw bj x1 x2 = some out) : Met l yX10_buyBack wsX10_buyBack { frames := 3, cells := 0, slots := 0, locals := 66 } (zPm [.ref (kw 0), .int x1, .int x2] D tt (zw_mo tt kw bw bj) sz) (zMi .int out.1 D (zw_mo tt kw out.2 bj) (va_A (zw_mo tt kw bw bj) sz)) 0 0 (va_A (zw_mo tt kw bw bj) sz) := by
  refine Met.ofW (cc := cX10_buyBack) (maxL := 3) (ret := (some .int)) (by decide) rfl ?_
  intro p e s m args below meth c s₁ B hml hv
  obtain ⟨ha, hsz, hP, hK, hD0⟩ := hv
  have hx := B.exec
  have hb := B.bytes
  have hr := B.returns
  have hts := atoms_spec (ws := wsX10_buyBack) B.pre
  have hown : s.vm.findClass RX10 = some m.cls := findClass_of_methodNamed B.named
  have hlocks := B.notSynchronized
  subst hsz
  have hD := hD0.self (sz := s.heap.size)
  generalize hAe : va_A (zw_mo tt kw bw bj) s.heap.size = A at hD ⊢
  have hA : ∀ q : Nat, s.heap.size ≤ q → A q := fun q h => by rw [← hAe]; exact Or.inr h
  have hS : va_S A s.heap s.heap [] := va_S.rf
  have hfin : ∀ (v : Int32) (bw : zV) (pc : Nat) (ls : Array Slot) (H : Heap) (locs : List Loc), some (v, bw) = some out → narrow .int (.int v) = .int v → va_P D vwCl (zw_mo tt kw bw bj) H → va_D A (zw_mo tt kw bw bj) → va_S A s.heap H locs → decode cX10_buyBack pc = .ok (.ireturn, 1) → W p l e (headSpec wsX10_buyBack { frames := 3, cells := 0, slots := 0, locals := 66 }).room s m args below meth c H locs 0 0 (MQ below (zMi .int out.1 D (zw_mo tt kw out.2 bj) A) args s 0 0 A) (F0 m pc ls [.int v]) := by
    intro v bw pc ls H locs he hn hP hD hS hd
    cases he
    exact W.zret hx hb hr hn (fun t ht hW => ⟨⟨_, (), rfl, ⟨rfl, hn⟩, by rw [ht]; exact hP, hD⟩, hS.F ht⟩) hS.2.2 hd
  generalize MQ below (zMi .int out.1 D (zw_mo tt kw out.2 bj) A) args s 0 0 A = Q at hfin ⊢
  have hl := lv_entry ([.ref (kw 0), .int x1, .int x2]) (n := 3) (Nat.le_of_ble_eq_true rfl)
  refine W.eq (g2 := F0 m 0 ((lg_sl ([.ref (kw 0), .int x1, .int x2]) ++ List.replicate (3 - (lg_sl ([.ref (kw 0), .int x1, .int x2])).length) Slot.unset).toArray) []) (by rw [ha]; exact lg_entry_eq _ _ _) ?_
  generalize (lg_sl ([.ref (kw 0), .int x1, .int x2]) ++ List.replicate (3 - (lg_sl ([.ref (kw 0), .int x1, .int x2])).length) Slot.unset).toArray = ls at hl ⊢
  have hl : lv_has ls 3 [(0, .ref (kw 0)), (1, .int x1), (2, .int x2)] := hl
  rw [f_X10_buyBack] at h
  refine lv_aload_n hx hb dX10_buyBack_0 rfl (lv_at hl 0 rfl) ?_
  obtain ⟨y1, gy1, h⟩ := zb_some h
  have hFc := z_free0 hD hS hA
  refine z_callmv (wc := (zw_mo tt kw bw bj)) (w1 := (zw_mo tt kw y1 bj)) (va_runV (As := []) (rest := []) ⟨hx, hb, hml, hown, hts⟩ (c_X10_begins l D tt kw _ bw bj y1 gy1) (cwV 0 hts gX10_buyBack_X10_begins rfl rfl rfl (by decide +kernel) ⟨Nat.le_of_ble_eq_true rfl, Nat.le_of_ble_eq_true rfl⟩) (z_preVm hK hP hD (ci := 10) (q0 := 0) rfl rfl) rfl rfl hl.1 rfl (lv_room (Nat.le_of_ble_eq_true rfl)) dX10_buyBack_1 ⟨Nat.zero_le _, Nat.zero_le _⟩) hS hFc (fun H locs hP1 hD1 hk1 hS => ?_)
  have hP := hP1
  have hD := hD1.weaken (fun _ q _ h => hFc q.1 h)
  refine lv_aload_n hx hb dX10_buyBack_4 rfl (lv_at hl 0 rfl) ?_
  refine lv_aload_n hx hb dX10_buyBack_5 rfl (lv_at hl 0 rfl) ?_
  refine lv_iload_n hx hb dX10_buyBack_6 rfl (lv_at hl 1 rfl) ?_
  refine lv_iload_n hx hb dX10_buyBack_7 rfl (lv_at hl 2 rfl) ?_
  obtain ⟨y2, gy2, h⟩ := zb_some h
  have hFc := z_free0 hD hS hA
  refine z_callmi (wc := (zw_mo tt kw y1 bj)) (w1 := (zw_mo tt kw y2.2 bj)) (va_runV (As := [.int x1, .int x2]) (rest := [.ref (kw 0)]) ⟨hx, hb, hml, hown, hts⟩ (c_X10_buys l D tt kw _ y1 bj x1 x2 y2 gy2) (cwV 2 hts gX10_buyBack_X10_buys rfl rfl rfl (by decide +kernel) ⟨Nat.le_of_ble_eq_true rfl, Nat.le_of_ble_eq_true rfl⟩) (z_preVm hK hP hD (ci := 10) (q0 := 0) rfl rfl) rfl rfl hl.1 rfl (lv_room (Nat.le_of_ble_eq_true rfl)) dX10_buyBack_8 ⟨Nat.zero_le _, Nat.zero_le _⟩) hS hFc (fun H locs ny2 hP1 hD1 hk1 hS => ?_)
  have hP := hP1
  have hD := hD1.weaken (fun _ q _ h => hFc q.1 h)
  obtain ⟨y3, gy3, h⟩ := zb_some h
  have hFc := z_free0 hD hS hA
  refine z_callmi (wc := (zw_mo tt kw y2.2 bj)) (w1 := (zw_mo tt kw y3.2 bj)) (va_runV (As := [.int y2.1]) (rest := []) ⟨hx, hb, hml, hown, hts⟩ (c_X10_acted l D tt kw _ y2.2 bj y2.1 y3 gy3) (cwV 1 hts gX10_buyBack_X10_acted rfl rfl rfl (by decide +kernel) ⟨Nat.le_of_ble_eq_true rfl, Nat.le_of_ble_eq_true rfl⟩) (z_preVm hK hP hD (ci := 10) (q0 := 0) rfl rfl) rfl rfl hl.1 rfl (lv_room (Nat.le_of_ble_eq_true rfl)) dX10_buyBack_11 ⟨Nat.zero_le _, Nat.zero_le _⟩) hS hFc (fun H locs ny3 hP1 hD1 hk1 hS => ?_)
  have hP := hP1
  have hD := hD1.weaken (fun _ q _ h => hFc q.1 h)
  exact hfin _ _ _ _ _ _ h rfl hP hD hS dX10_buyBack_14
set_option maxHeartbeats 4000000 in
set_option maxRecDepth 100000 in
theorem c_X10_grant (l : Launch) (D : va_G) (tt : Nat → ClassId) (kw : Nat → Nat) (sz : Nat) (bw : zV) (bj : zJ) (x1 : Int32) (x2 : Int32) (x3 : Int32) (x4 : Int32) (x5 : Int32) (out : Int32 × zV) (h : f_X10_grant bw bj x1 x2 x3 x4 x5 = some out) : Met l yX10_grant wsX10_grant { frames := 3, cells := 0, slots := 0, locals := 69 } (zPm [.ref (kw 0), .int x1, .int x2, .int x3, .int x4, .int x5] D tt (zw_mo tt kw bw bj) sz) (zMi .int out.1 D (zw_mo tt kw out.2 bj) (va_A (zw_mo tt kw bw bj) sz)) 0 0 (va_A (zw_mo tt kw bw bj) sz) := by
  refine Met.ofW (cc := cX10_grant) (maxL := 6) (ret := (some .int)) (by decide) rfl ?_
  intro p e s m args below meth c s₁ B hml hv
  obtain ⟨ha, hsz, hP, hK, hD0⟩ := hv
  have hx := B.exec
  have hb := B.bytes
  have hr := B.returns
  have hts := atoms_spec (ws := wsX10_grant) B.pre
  have hown : s.vm.findClass RX10 = some m.cls := findClass_of_methodNamed B.named
  have hlocks := B.notSynchronized
  subst hsz
  have hD := hD0.self (sz := s.heap.size)
  generalize hAe : va_A (zw_mo tt kw bw bj) s.heap.size = A at hD ⊢
  have hA : ∀ q : Nat, s.heap.size ≤ q → A q := fun q h => by rw [← hAe]; exact Or.inr h
  have hS : va_S A s.heap s.heap [] := va_S.rf
  have hfin : ∀ (v : Int32) (bw : zV) (pc : Nat) (ls : Array Slot) (H : Heap) (locs : List Loc), some (v, bw) = some out → narrow .int (.int v) = .int v → va_P D vwCl (zw_mo tt kw bw bj) H → va_D A (zw_mo tt kw bw bj) → va_S A s.heap H locs → decode cX10_grant pc = .ok (.ireturn, 1) → W p l e (headSpec wsX10_grant { frames := 3, cells := 0, slots := 0, locals := 69 }).room s m args below meth c H locs 0 0 (MQ below (zMi .int out.1 D (zw_mo tt kw out.2 bj) A) args s 0 0 A) (F0 m pc ls [.int v]) := by
    intro v bw pc ls H locs he hn hP hD hS hd
    cases he
    exact W.zret hx hb hr hn (fun t ht hW => ⟨⟨_, (), rfl, ⟨rfl, hn⟩, by rw [ht]; exact hP, hD⟩, hS.F ht⟩) hS.2.2 hd
  generalize MQ below (zMi .int out.1 D (zw_mo tt kw out.2 bj) A) args s 0 0 A = Q at hfin ⊢
  have hl := lv_entry ([.ref (kw 0), .int x1, .int x2, .int x3, .int x4, .int x5]) (n := 6) (Nat.le_of_ble_eq_true rfl)
  refine W.eq (g2 := F0 m 0 ((lg_sl ([.ref (kw 0), .int x1, .int x2, .int x3, .int x4, .int x5]) ++ List.replicate (6 - (lg_sl ([.ref (kw 0), .int x1, .int x2, .int x3, .int x4, .int x5])).length) Slot.unset).toArray) []) (by rw [ha]; exact lg_entry_eq _ _ _) ?_
  generalize (lg_sl ([.ref (kw 0), .int x1, .int x2, .int x3, .int x4, .int x5]) ++ List.replicate (6 - (lg_sl ([.ref (kw 0), .int x1, .int x2, .int x3, .int x4, .int x5])).length) Slot.unset).toArray = ls at hl ⊢
  have hl : lv_has ls 6 [(0, .ref (kw 0)), (1, .int x1), (2, .int x2), (3, .int x3), (4, .int x4), (5, .int x5)] := hl
  rw [f_X10_grant] at h
  refine lv_aload_n hx hb dX10_grant_0 rfl (lv_at hl 0 rfl) ?_
  obtain ⟨y1, gy1, h⟩ := zb_some h
  have hFc := z_free0 hD hS hA
  refine z_callmv (wc := (zw_mo tt kw bw bj)) (w1 := (zw_mo tt kw y1 bj)) (va_runV (As := []) (rest := []) ⟨hx, hb, hml, hown, hts⟩ (c_X10_begins l D tt kw _ bw bj y1 gy1) (cwV 0 hts gX10_grant_X10_begins rfl rfl rfl (by decide +kernel) ⟨Nat.le_of_ble_eq_true rfl, Nat.le_of_ble_eq_true rfl⟩) (z_preVm hK hP hD (ci := 10) (q0 := 0) rfl rfl) rfl rfl hl.1 rfl (lv_room (Nat.le_of_ble_eq_true rfl)) dX10_grant_1 ⟨Nat.zero_le _, Nat.zero_le _⟩) hS hFc (fun H locs hP1 hD1 hk1 hS => ?_)
  have hP := hP1
  have hD := hD1.weaken (fun _ q _ h => hFc q.1 h)
  refine lv_aload_n hx hb dX10_grant_4 rfl (lv_at hl 0 rfl) ?_
  refine lv_aload_n hx hb dX10_grant_5 rfl (lv_at hl 0 rfl) ?_
  refine lv_iload_n hx hb dX10_grant_6 rfl (lv_at hl 1 rfl) ?_
  refine lv_iload_n hx hb dX10_grant_7 rfl (lv_at hl 2 rfl) ?_
  refine lv_iload_n hx hb dX10_grant_8 rfl (lv_at hl 3 rfl) ?_
  refine lv_iload hx hb dX10_grant_9 (lv_at hl 4 rfl) ?_
  refine lv_iload hx hb dX10_grant_11 (lv_at hl 5 rfl) ?_
  obtain ⟨y2, gy2, h⟩ := zb_some h
  have hFc := z_free0 hD hS hA
  refine z_callmi (wc := (zw_mo tt kw y1 bj)) (w1 := (zw_mo tt kw y2.2 bj)) (va_runV (As := [.int x1, .int x2, .int x3, .int x4, .int x5]) (rest := [.ref (kw 0)]) ⟨hx, hb, hml, hown, hts⟩ (c_X10_grants l D tt kw _ y1 bj x1 x2 x3 x4 x5 y2 gy2) (cwV 5 hts gX10_grant_X10_grants rfl rfl rfl (by decide +kernel) ⟨Nat.le_of_ble_eq_true rfl, Nat.le_of_ble_eq_true rfl⟩) (z_preVm hK hP hD (ci := 10) (q0 := 0) rfl rfl) rfl rfl hl.1 rfl (lv_room (Nat.le_of_ble_eq_true rfl)) dX10_grant_13 ⟨Nat.zero_le _, Nat.zero_le _⟩) hS hFc (fun H locs ny2 hP1 hD1 hk1 hS => ?_)
  have hP := hP1
  have hD := hD1.weaken (fun _ q _ h => hFc q.1 h)
  obtain ⟨y3, gy3, h⟩ := zb_some h
  have hFc := z_free0 hD hS hA
  refine z_callmi (wc := (zw_mo tt kw y2.2 bj)) (w1 := (zw_mo tt kw y3.2 bj)) (va_runV (As := [.int y2.1]) (rest := []) ⟨hx, hb, hml, hown, hts⟩ (c_X10_acted l D tt kw _ y2.2 bj y2.1 y3 gy3) (cwV 1 hts gX10_grant_X10_acted rfl rfl rfl (by decide +kernel) ⟨Nat.le_of_ble_eq_true rfl, Nat.le_of_ble_eq_true rfl⟩) (z_preVm hK hP hD (ci := 10) (q0 := 0) rfl rfl) rfl rfl hl.1 rfl (lv_room (Nat.le_of_ble_eq_true rfl)) dX10_grant_16 ⟨Nat.zero_le _, Nat.zero_le _⟩) hS hFc (fun H locs ny3 hP1 hD1 hk1 hS => ?_)
  have hP := hP1
  have hD := hD1.weaken (fun _ q _ h => hFc q.1 h)
  exact hfin _ _ _ _ _ _ h rfl hP hD hS dX10_grant_19
set_option maxHeartbeats 4000000 in
set_option maxRecDepth 100000 in
theorem c_X10_take (l : Launch) (D : va_G) (tt : Nat → ClassId) (kw : Nat → Nat) (sz : Nat) (bw : zV) (bj : zJ) (x1 : Int32) (x2 : Int32) (out : Int32 × zV) (h : f_X10_take bw bj x1 x2 = some out) : Met l yX10_take wsX10_take { frames := 4, cells := 0, slots := 0, locals := 93 } (zPm [.ref (kw 0), .int x1, .int x2] D tt (zw_mo tt kw bw bj) sz) (zMi .int out.1 D (zw_mo tt kw out.2 bj) (va_A (zw_mo tt kw bw bj) sz)) 0 0 (va_A (zw_mo tt kw bw bj) sz) := by
  refine Met.ofW (cc := cX10_take) (maxL := 3) (ret := (some .int)) (by decide) rfl ?_
  intro p e s m args below meth c s₁ B hml hv
  obtain ⟨ha, hsz, hP, hK, hD0⟩ := hv
  have hx := B.exec
  have hb := B.bytes
  have hr := B.returns
  have hts := atoms_spec (ws := wsX10_take) B.pre
  have hown : s.vm.findClass RX10 = some m.cls := findClass_of_methodNamed B.named
  have hlocks := B.notSynchronized
  subst hsz
  have hD := hD0.self (sz := s.heap.size)
  generalize hAe : va_A (zw_mo tt kw bw bj) s.heap.size = A at hD ⊢
  have hA : ∀ q : Nat, s.heap.size ≤ q → A q := fun q h => by rw [← hAe]; exact Or.inr h
  have hS : va_S A s.heap s.heap [] := va_S.rf
  have hfin : ∀ (v : Int32) (bw : zV) (pc : Nat) (ls : Array Slot) (H : Heap) (locs : List Loc), some (v, bw) = some out → narrow .int (.int v) = .int v → va_P D vwCl (zw_mo tt kw bw bj) H → va_D A (zw_mo tt kw bw bj) → va_S A s.heap H locs → decode cX10_take pc = .ok (.ireturn, 1) → W p l e (headSpec wsX10_take { frames := 4, cells := 0, slots := 0, locals := 93 }).room s m args below meth c H locs 0 0 (MQ below (zMi .int out.1 D (zw_mo tt kw out.2 bj) A) args s 0 0 A) (F0 m pc ls [.int v]) := by
    intro v bw pc ls H locs he hn hP hD hS hd
    cases he
    exact W.zret hx hb hr hn (fun t ht hW => ⟨⟨_, (), rfl, ⟨rfl, hn⟩, by rw [ht]; exact hP, hD⟩, hS.F ht⟩) hS.2.2 hd
  generalize MQ below (zMi .int out.1 D (zw_mo tt kw out.2 bj) A) args s 0 0 A = Q at hfin ⊢
  have hl := lv_entry ([.ref (kw 0), .int x1, .int x2]) (n := 3) (Nat.le_of_ble_eq_true rfl)
  refine W.eq (g2 := F0 m 0 ((lg_sl ([.ref (kw 0), .int x1, .int x2]) ++ List.replicate (3 - (lg_sl ([.ref (kw 0), .int x1, .int x2])).length) Slot.unset).toArray) []) (by rw [ha]; exact lg_entry_eq _ _ _) ?_
  generalize (lg_sl ([.ref (kw 0), .int x1, .int x2]) ++ List.replicate (3 - (lg_sl ([.ref (kw 0), .int x1, .int x2])).length) Slot.unset).toArray = ls at hl ⊢
  have hl : lv_has ls 3 [(0, .ref (kw 0)), (1, .int x1), (2, .int x2)] := hl
  rw [f_X10_take] at h
  refine lv_aload_n hx hb dX10_take_0 rfl (lv_at hl 0 rfl) ?_
  obtain ⟨y1, gy1, h⟩ := zb_some h
  have hFc := z_free0 hD hS hA
  refine z_callmv (wc := (zw_mo tt kw bw bj)) (w1 := (zw_mo tt kw y1 bj)) (va_runV (As := []) (rest := []) ⟨hx, hb, hml, hown, hts⟩ (c_X10_begins l D tt kw _ bw bj y1 gy1) (cwV 0 hts gX10_take_X10_begins rfl rfl rfl (by decide +kernel) ⟨Nat.le_of_ble_eq_true rfl, Nat.le_of_ble_eq_true rfl⟩) (z_preVm hK hP hD (ci := 10) (q0 := 0) rfl rfl) rfl rfl hl.1 rfl (lv_room (Nat.le_of_ble_eq_true rfl)) dX10_take_1 ⟨Nat.zero_le _, Nat.zero_le _⟩) hS hFc (fun H locs hP1 hD1 hk1 hS => ?_)
  have hP := hP1
  have hD := hD1.weaken (fun _ q _ h => hFc q.1 h)
  refine lv_aload_n hx hb dX10_take_4 rfl (lv_at hl 0 rfl) ?_
  refine lv_aload_n hx hb dX10_take_5 rfl (lv_at hl 0 rfl) ?_
  refine lv_iload_n hx hb dX10_take_6 rfl (lv_at hl 1 rfl) ?_
  refine lv_iload_n hx hb dX10_take_7 rfl (lv_at hl 2 rfl) ?_
  obtain ⟨y2, gy2, h⟩ := zb_some h
  have hFc := z_free0 hD hS hA
  refine z_callmi (wc := (zw_mo tt kw y1 bj)) (w1 := (zw_mo tt kw y2.2 bj)) (va_runV (As := [.int x1, .int x2]) (rest := [.ref (kw 0)]) ⟨hx, hb, hml, hown, hts⟩ (c_X10_takes l D tt kw _ y1 bj x1 x2 y2 gy2) (cwV 2 hts gX10_take_X10_takes rfl rfl rfl (by decide +kernel) ⟨Nat.le_of_ble_eq_true rfl, Nat.le_of_ble_eq_true rfl⟩) (z_preVm hK hP hD (ci := 10) (q0 := 0) rfl rfl) rfl rfl hl.1 rfl (lv_room (Nat.le_of_ble_eq_true rfl)) dX10_take_8 ⟨Nat.zero_le _, Nat.zero_le _⟩) hS hFc (fun H locs ny2 hP1 hD1 hk1 hS => ?_)
  have hP := hP1
  have hD := hD1.weaken (fun _ q _ h => hFc q.1 h)
  obtain ⟨y3, gy3, h⟩ := zb_some h
  have hFc := z_free0 hD hS hA
  refine z_callmi (wc := (zw_mo tt kw y2.2 bj)) (w1 := (zw_mo tt kw y3.2 bj)) (va_runV (As := [.int y2.1]) (rest := []) ⟨hx, hb, hml, hown, hts⟩ (c_X10_acted l D tt kw _ y2.2 bj y2.1 y3 gy3) (cwV 1 hts gX10_take_X10_acted rfl rfl rfl (by decide +kernel) ⟨Nat.le_of_ble_eq_true rfl, Nat.le_of_ble_eq_true rfl⟩) (z_preVm hK hP hD (ci := 10) (q0 := 0) rfl rfl) rfl rfl hl.1 rfl (lv_room (Nat.le_of_ble_eq_true rfl)) dX10_take_11 ⟨Nat.zero_le _, Nat.zero_le _⟩) hS hFc (fun H locs ny3 hP1 hD1 hk1 hS => ?_)
  have hP := hP1
  have hD := hD1.weaken (fun _ q _ h => hFc q.1 h)
  exact hfin _ _ _ _ _ _ h rfl hP hD hS dX10_take_14
set_option maxHeartbeats 4000000 in
set_option maxRecDepth 100000 in
theorem c_X10_leave (l : Launch) (D : va_G) (tt : Nat → ClassId) (kw : Nat → Nat) (sz : Nat) (bw : zV) (bj : zJ) (x1 : Int32) (out : Int32 × zV) (h : f_X10_leave bw bj x1 = some out) : Met l yX10_leave wsX10_leave { frames := 5, cells := 0, slots := 0, locals := 114 } (zPm [.ref (kw 0), .int x1] D tt (zw_mo tt kw bw bj) sz) (zMi .int out.1 D (zw_mo tt kw out.2 bj) (va_A (zw_mo tt kw bw bj) sz)) 0 0 (va_A (zw_mo tt kw bw bj) sz) := by
  refine Met.ofW (cc := cX10_leave) (maxL := 2) (ret := (some .int)) (by decide) rfl ?_
  intro p e s m args below meth c s₁ B hml hv
  obtain ⟨ha, hsz, hP, hK, hD0⟩ := hv
  have hx := B.exec
  have hb := B.bytes
  have hr := B.returns
  have hts := atoms_spec (ws := wsX10_leave) B.pre
  have hown : s.vm.findClass RX10 = some m.cls := findClass_of_methodNamed B.named
  have hlocks := B.notSynchronized
  subst hsz
  have hD := hD0.self (sz := s.heap.size)
  generalize hAe : va_A (zw_mo tt kw bw bj) s.heap.size = A at hD ⊢
  have hA : ∀ q : Nat, s.heap.size ≤ q → A q := fun q h => by rw [← hAe]; exact Or.inr h
  have hS : va_S A s.heap s.heap [] := va_S.rf
  have hfin : ∀ (v : Int32) (bw : zV) (pc : Nat) (ls : Array Slot) (H : Heap) (locs : List Loc), some (v, bw) = some out → narrow .int (.int v) = .int v → va_P D vwCl (zw_mo tt kw bw bj) H → va_D A (zw_mo tt kw bw bj) → va_S A s.heap H locs → decode cX10_leave pc = .ok (.ireturn, 1) → W p l e (headSpec wsX10_leave { frames := 5, cells := 0, slots := 0, locals := 114 }).room s m args below meth c H locs 0 0 (MQ below (zMi .int out.1 D (zw_mo tt kw out.2 bj) A) args s 0 0 A) (F0 m pc ls [.int v]) := by
    intro v bw pc ls H locs he hn hP hD hS hd
    cases he
    exact W.zret hx hb hr hn (fun t ht hW => ⟨⟨_, (), rfl, ⟨rfl, hn⟩, by rw [ht]; exact hP, hD⟩, hS.F ht⟩) hS.2.2 hd
  generalize MQ below (zMi .int out.1 D (zw_mo tt kw out.2 bj) A) args s 0 0 A = Q at hfin ⊢
  have hl := lv_entry ([.ref (kw 0), .int x1]) (n := 2) (Nat.le_of_ble_eq_true rfl)
  refine W.eq (g2 := F0 m 0 ((lg_sl ([.ref (kw 0), .int x1]) ++ List.replicate (2 - (lg_sl ([.ref (kw 0), .int x1])).length) Slot.unset).toArray) []) (by rw [ha]; exact lg_entry_eq _ _ _) ?_
  generalize (lg_sl ([.ref (kw 0), .int x1]) ++ List.replicate (2 - (lg_sl ([.ref (kw 0), .int x1])).length) Slot.unset).toArray = ls at hl ⊢
  have hl : lv_has ls 2 [(0, .ref (kw 0)), (1, .int x1)] := hl
  rw [f_X10_leave] at h
  refine lv_aload_n hx hb dX10_leave_0 rfl (lv_at hl 0 rfl) ?_
  obtain ⟨y1, gy1, h⟩ := zb_some h
  have hFc := z_free0 hD hS hA
  refine z_callmv (wc := (zw_mo tt kw bw bj)) (w1 := (zw_mo tt kw y1 bj)) (va_runV (As := []) (rest := []) ⟨hx, hb, hml, hown, hts⟩ (c_X10_begins l D tt kw _ bw bj y1 gy1) (cwV 0 hts gX10_leave_X10_begins rfl rfl rfl (by decide +kernel) ⟨Nat.le_of_ble_eq_true rfl, Nat.le_of_ble_eq_true rfl⟩) (z_preVm hK hP hD (ci := 10) (q0 := 0) rfl rfl) rfl rfl hl.1 rfl (lv_room (Nat.le_of_ble_eq_true rfl)) dX10_leave_1 ⟨Nat.zero_le _, Nat.zero_le _⟩) hS hFc (fun H locs hP1 hD1 hk1 hS => ?_)
  have hP := hP1
  have hD := hD1.weaken (fun _ q _ h => hFc q.1 h)
  refine lv_aload_n hx hb dX10_leave_4 rfl (lv_at hl 0 rfl) ?_
  refine lv_aload_n hx hb dX10_leave_5 rfl (lv_at hl 0 rfl) ?_
  refine lv_iload_n hx hb dX10_leave_6 rfl (lv_at hl 1 rfl) ?_
  obtain ⟨y2, gy2, h⟩ := zb_some h
  have hFc := z_free0 hD hS hA
  refine z_callmi (wc := (zw_mo tt kw y1 bj)) (w1 := (zw_mo tt kw y2.2 bj)) (va_runV (As := [.int x1]) (rest := [.ref (kw 0)]) ⟨hx, hb, hml, hown, hts⟩ (c_X10_leaves l D tt kw _ y1 bj x1 y2 gy2) (cwV 1 hts gX10_leave_X10_leaves rfl rfl rfl (by decide +kernel) ⟨Nat.le_of_ble_eq_true rfl, Nat.le_of_ble_eq_true rfl⟩) (z_preVm hK hP hD (ci := 10) (q0 := 0) rfl rfl) rfl rfl hl.1 rfl (lv_room (Nat.le_of_ble_eq_true rfl)) dX10_leave_7 ⟨Nat.zero_le _, Nat.zero_le _⟩) hS hFc (fun H locs ny2 hP1 hD1 hk1 hS => ?_)
  have hP := hP1
  have hD := hD1.weaken (fun _ q _ h => hFc q.1 h)
  obtain ⟨y3, gy3, h⟩ := zb_some h
  have hFc := z_free0 hD hS hA
  refine z_callmi (wc := (zw_mo tt kw y2.2 bj)) (w1 := (zw_mo tt kw y3.2 bj)) (va_runV (As := [.int y2.1]) (rest := []) ⟨hx, hb, hml, hown, hts⟩ (c_X10_acted l D tt kw _ y2.2 bj y2.1 y3 gy3) (cwV 1 hts gX10_leave_X10_acted rfl rfl rfl (by decide +kernel) ⟨Nat.le_of_ble_eq_true rfl, Nat.le_of_ble_eq_true rfl⟩) (z_preVm hK hP hD (ci := 10) (q0 := 0) rfl rfl) rfl rfl hl.1 rfl (lv_room (Nat.le_of_ble_eq_true rfl)) dX10_leave_10 ⟨Nat.zero_le _, Nat.zero_le _⟩) hS hFc (fun H locs ny3 hP1 hD1 hk1 hS => ?_)
  have hP := hP1
  have hD := hD1.weaken (fun _ q _ h => hFc q.1 h)
  exact hfin _ _ _ _ _ _ h rfl hP hD hS dX10_leave_13
set_option maxHeartbeats 4000000 in
set_option maxRecDepth 100000 in
theorem c_X10_pass (l : Launch) (D : va_G) (tt : Nat → ClassId) (kw : Nat → Nat) (sz : Nat) (bw : zV) (bj : zJ) (x1 : Int32) (out : Int32 × zV) (h : f_X10_pass bw bj x1 = some out) : Met l yX10_pass wsX10_pass { frames := 2, cells := 0, slots := 0, locals := 43 } (zPm [.ref (kw 0), .int x1] D tt (zw_mo tt kw bw bj) sz) (zMi .int out.1 D (zw_mo tt kw out.2 bj) (va_A (zw_mo tt kw bw bj) sz)) 0 0 (va_A (zw_mo tt kw bw bj) sz) := by
  refine Met.ofW (cc := cX10_pass) (maxL := 2) (ret := (some .int)) (by decide) rfl ?_
  intro p e s m args below meth c s₁ B hml hv
  obtain ⟨ha, hsz, hP, hK, hD0⟩ := hv
  have hx := B.exec
  have hb := B.bytes
  have hr := B.returns
  have hts := atoms_spec (ws := wsX10_pass) B.pre
  have hown : s.vm.findClass RX10 = some m.cls := findClass_of_methodNamed B.named
  have hlocks := B.notSynchronized
  subst hsz
  have hD := hD0.self (sz := s.heap.size)
  generalize hAe : va_A (zw_mo tt kw bw bj) s.heap.size = A at hD ⊢
  have hA : ∀ q : Nat, s.heap.size ≤ q → A q := fun q h => by rw [← hAe]; exact Or.inr h
  have hS : va_S A s.heap s.heap [] := va_S.rf
  have hfin : ∀ (v : Int32) (bw : zV) (pc : Nat) (ls : Array Slot) (H : Heap) (locs : List Loc), some (v, bw) = some out → narrow .int (.int v) = .int v → va_P D vwCl (zw_mo tt kw bw bj) H → va_D A (zw_mo tt kw bw bj) → va_S A s.heap H locs → decode cX10_pass pc = .ok (.ireturn, 1) → W p l e (headSpec wsX10_pass { frames := 2, cells := 0, slots := 0, locals := 43 }).room s m args below meth c H locs 0 0 (MQ below (zMi .int out.1 D (zw_mo tt kw out.2 bj) A) args s 0 0 A) (F0 m pc ls [.int v]) := by
    intro v bw pc ls H locs he hn hP hD hS hd
    cases he
    exact W.zret hx hb hr hn (fun t ht hW => ⟨⟨_, (), rfl, ⟨rfl, hn⟩, by rw [ht]; exact hP, hD⟩, hS.F ht⟩) hS.2.2 hd
  generalize MQ below (zMi .int out.1 D (zw_mo tt kw out.2 bj) A) args s 0 0 A = Q at hfin ⊢
  have hl := lv_entry ([.ref (kw 0), .int x1]) (n := 2) (Nat.le_of_ble_eq_true rfl)
  refine W.eq (g2 := F0 m 0 ((lg_sl ([.ref (kw 0), .int x1]) ++ List.replicate (2 - (lg_sl ([.ref (kw 0), .int x1])).length) Slot.unset).toArray) []) (by rw [ha]; exact lg_entry_eq _ _ _) ?_
  generalize (lg_sl ([.ref (kw 0), .int x1]) ++ List.replicate (2 - (lg_sl ([.ref (kw 0), .int x1])).length) Slot.unset).toArray = ls at hl ⊢
  have hl : lv_has ls 2 [(0, .ref (kw 0)), (1, .int x1)] := hl
  rw [f_X10_pass] at h
  refine lv_aload_n hx hb dX10_pass_0 rfl (lv_at hl 0 rfl) ?_
  obtain ⟨y1, gy1, h⟩ := zb_some h
  have hFc := z_free0 hD hS hA
  refine z_callmv (wc := (zw_mo tt kw bw bj)) (w1 := (zw_mo tt kw y1 bj)) (va_runV (As := []) (rest := []) ⟨hx, hb, hml, hown, hts⟩ (c_X10_begins l D tt kw _ bw bj y1 gy1) (cwV 0 hts gX10_pass_X10_begins rfl rfl rfl (by decide +kernel) ⟨Nat.le_of_ble_eq_true rfl, Nat.le_of_ble_eq_true rfl⟩) (z_preVm hK hP hD (ci := 10) (q0 := 0) rfl rfl) rfl rfl hl.1 rfl (lv_room (Nat.le_of_ble_eq_true rfl)) dX10_pass_1 ⟨Nat.zero_le _, Nat.zero_le _⟩) hS hFc (fun H locs hP1 hD1 hk1 hS => ?_)
  have hP := hP1
  have hD := hD1.weaken (fun _ q _ h => hFc q.1 h)
  refine lv_aload_n hx hb dX10_pass_4 rfl (lv_at hl 0 rfl) ?_
  refine lv_aload_n hx hb dX10_pass_5 rfl (lv_at hl 0 rfl) ?_
  refine lv_iload_n hx hb dX10_pass_6 rfl (lv_at hl 1 rfl) ?_
  obtain ⟨y2, gy2, h⟩ := zb_some h
  have hFc := z_free0 hD hS hA
  refine z_callmi (wc := (zw_mo tt kw y1 bj)) (w1 := (zw_mo tt kw y2.2 bj)) (va_runV (As := [.int x1]) (rest := [.ref (kw 0)]) ⟨hx, hb, hml, hown, hts⟩ (c_X10_passes l D tt kw _ y1 bj x1 y2 gy2) (cwV 1 hts gX10_pass_X10_passes rfl rfl rfl (by decide +kernel) ⟨Nat.le_of_ble_eq_true rfl, Nat.le_of_ble_eq_true rfl⟩) (z_preVm hK hP hD (ci := 10) (q0 := 0) rfl rfl) rfl rfl hl.1 rfl (lv_room (Nat.le_of_ble_eq_true rfl)) dX10_pass_7 ⟨Nat.zero_le _, Nat.zero_le _⟩) hS hFc (fun H locs ny2 hP1 hD1 hk1 hS => ?_)
  have hP := hP1
  have hD := hD1.weaken (fun _ q _ h => hFc q.1 h)
  obtain ⟨y3, gy3, h⟩ := zb_some h
  have hFc := z_free0 hD hS hA
  refine z_callmi (wc := (zw_mo tt kw y2.2 bj)) (w1 := (zw_mo tt kw y3.2 bj)) (va_runV (As := [.int y2.1]) (rest := []) ⟨hx, hb, hml, hown, hts⟩ (c_X10_acted l D tt kw _ y2.2 bj y2.1 y3 gy3) (cwV 1 hts gX10_pass_X10_acted rfl rfl rfl (by decide +kernel) ⟨Nat.le_of_ble_eq_true rfl, Nat.le_of_ble_eq_true rfl⟩) (z_preVm hK hP hD (ci := 10) (q0 := 0) rfl rfl) rfl rfl hl.1 rfl (lv_room (Nat.le_of_ble_eq_true rfl)) dX10_pass_10 ⟨Nat.zero_le _, Nat.zero_le _⟩) hS hFc (fun H locs ny3 hP1 hD1 hk1 hS => ?_)
  have hP := hP1
  have hD := hD1.weaken (fun _ q _ h => hFc q.1 h)
  exact hfin _ _ _ _ _ _ h rfl hP hD hS dX10_pass_13
set_option maxHeartbeats 4000000 in
set_option maxRecDepth 100000 in
theorem c_X10_round (l : Launch) (D : va_G) (tt : Nat → ClassId) (kw : Nat → Nat) (sz : Nat) (bw : zV) (bj : zJ) (x1 : Int32) (x2 : Int32) (x3 : Int32) (out : Int32 × zV) (h : f_X10_round bw bj x1 x2 x3 = some out) : Met l yX10_round wsX10_round { frames := 4, cells := 0, slots := 0, locals := 98 } (zPm [.ref (kw 0), .int x1, .int x2, .int x3] D tt (zw_mo tt kw bw bj) sz) (zMi .int out.1 D (zw_mo tt kw out.2 bj) (va_A (zw_mo tt kw bw bj) sz)) 0 0 (va_A (zw_mo tt kw bw bj) sz) := by
  refine Met.ofW (cc := cX10_round) (maxL := 4) (ret := (some .int)) (by decide) rfl ?_
  intro p e s m args below meth c s₁ B hml hv
  obtain ⟨ha, hsz, hP, hK, hD0⟩ := hv
  have hx := B.exec
  have hb := B.bytes
  have hr := B.returns
  have hts := atoms_spec (ws := wsX10_round) B.pre
  have hown : s.vm.findClass RX10 = some m.cls := findClass_of_methodNamed B.named
  have hlocks := B.notSynchronized
  subst hsz
  have hD := hD0.self (sz := s.heap.size)
  generalize hAe : va_A (zw_mo tt kw bw bj) s.heap.size = A at hD ⊢
  have hA : ∀ q : Nat, s.heap.size ≤ q → A q := fun q h => by rw [← hAe]; exact Or.inr h
  have hS : va_S A s.heap s.heap [] := va_S.rf
  have hfin : ∀ (v : Int32) (bw : zV) (pc : Nat) (ls : Array Slot) (H : Heap) (locs : List Loc), some (v, bw) = some out → narrow .int (.int v) = .int v → va_P D vwCl (zw_mo tt kw bw bj) H → va_D A (zw_mo tt kw bw bj) → va_S A s.heap H locs → decode cX10_round pc = .ok (.ireturn, 1) → W p l e (headSpec wsX10_round { frames := 4, cells := 0, slots := 0, locals := 98 }).room s m args below meth c H locs 0 0 (MQ below (zMi .int out.1 D (zw_mo tt kw out.2 bj) A) args s 0 0 A) (F0 m pc ls [.int v]) := by
    intro v bw pc ls H locs he hn hP hD hS hd
    cases he
    exact W.zret hx hb hr hn (fun t ht hW => ⟨⟨_, (), rfl, ⟨rfl, hn⟩, by rw [ht]; exact hP, hD⟩, hS.F ht⟩) hS.2.2 hd
  generalize MQ below (zMi .int out.1 D (zw_mo tt kw out.2 bj) A) args s 0 0 A = Q at hfin ⊢
  have hl := lv_entry ([.ref (kw 0), .int x1, .int x2, .int x3]) (n := 4) (Nat.le_of_ble_eq_true rfl)
  refine W.eq (g2 := F0 m 0 ((lg_sl ([.ref (kw 0), .int x1, .int x2, .int x3]) ++ List.replicate (4 - (lg_sl ([.ref (kw 0), .int x1, .int x2, .int x3])).length) Slot.unset).toArray) []) (by rw [ha]; exact lg_entry_eq _ _ _) ?_
  generalize (lg_sl ([.ref (kw 0), .int x1, .int x2, .int x3]) ++ List.replicate (4 - (lg_sl ([.ref (kw 0), .int x1, .int x2, .int x3])).length) Slot.unset).toArray = ls at hl ⊢
  have hl : lv_has ls 4 [(0, .ref (kw 0)), (1, .int x1), (2, .int x2), (3, .int x3)] := hl
  rw [f_X10_round] at h
  refine lv_aload_n hx hb dX10_round_0 rfl (lv_at hl 0 rfl) ?_
  obtain ⟨y1, gy1, h⟩ := zb_some h
  have hFc := z_free0 hD hS hA
  refine z_callmv (wc := (zw_mo tt kw bw bj)) (w1 := (zw_mo tt kw y1 bj)) (va_runV (As := []) (rest := []) ⟨hx, hb, hml, hown, hts⟩ (c_X10_begins l D tt kw _ bw bj y1 gy1) (cwV 0 hts gX10_round_X10_begins rfl rfl rfl (by decide +kernel) ⟨Nat.le_of_ble_eq_true rfl, Nat.le_of_ble_eq_true rfl⟩) (z_preVm hK hP hD (ci := 10) (q0 := 0) rfl rfl) rfl rfl hl.1 rfl (lv_room (Nat.le_of_ble_eq_true rfl)) dX10_round_1 ⟨Nat.zero_le _, Nat.zero_le _⟩) hS hFc (fun H locs hP1 hD1 hk1 hS => ?_)
  have hP := hP1
  have hD := hD1.weaken (fun _ q _ h => hFc q.1 h)
  refine lv_aload_n hx hb dX10_round_4 rfl (lv_at hl 0 rfl) ?_
  refine lv_aload_n hx hb dX10_round_5 rfl (lv_at hl 0 rfl) ?_
  refine lv_iload_n hx hb dX10_round_6 rfl (lv_at hl 1 rfl) ?_
  refine lv_iload_n hx hb dX10_round_7 rfl (lv_at hl 2 rfl) ?_
  refine lv_iload_n hx hb dX10_round_8 rfl (lv_at hl 3 rfl) ?_
  obtain ⟨y2, gy2, h⟩ := zb_some h
  have hFc := z_free0 hD hS hA
  refine z_callmi (wc := (zw_mo tt kw y1 bj)) (w1 := (zw_mo tt kw y2.2 bj)) (va_runV (As := [.int x1, .int x2, .int x3]) (rest := [.ref (kw 0)]) ⟨hx, hb, hml, hown, hts⟩ (c_X10_offers l D tt kw _ y1 bj x1 x2 x3 y2 gy2) (cwV 3 hts gX10_round_X10_offers rfl rfl rfl (by decide +kernel) ⟨Nat.le_of_ble_eq_true rfl, Nat.le_of_ble_eq_true rfl⟩) (z_preVm hK hP hD (ci := 10) (q0 := 0) rfl rfl) rfl rfl hl.1 rfl (lv_room (Nat.le_of_ble_eq_true rfl)) dX10_round_9 ⟨Nat.zero_le _, Nat.zero_le _⟩) hS hFc (fun H locs ny2 hP1 hD1 hk1 hS => ?_)
  have hP := hP1
  have hD := hD1.weaken (fun _ q _ h => hFc q.1 h)
  obtain ⟨y3, gy3, h⟩ := zb_some h
  have hFc := z_free0 hD hS hA
  refine z_callmi (wc := (zw_mo tt kw y2.2 bj)) (w1 := (zw_mo tt kw y3.2 bj)) (va_runV (As := [.int y2.1]) (rest := []) ⟨hx, hb, hml, hown, hts⟩ (c_X10_acted l D tt kw _ y2.2 bj y2.1 y3 gy3) (cwV 1 hts gX10_round_X10_acted rfl rfl rfl (by decide +kernel) ⟨Nat.le_of_ble_eq_true rfl, Nat.le_of_ble_eq_true rfl⟩) (z_preVm hK hP hD (ci := 10) (q0 := 0) rfl rfl) rfl rfl hl.1 rfl (lv_room (Nat.le_of_ble_eq_true rfl)) dX10_round_12 ⟨Nat.zero_le _, Nat.zero_le _⟩) hS hFc (fun H locs ny3 hP1 hD1 hk1 hS => ?_)
  have hP := hP1
  have hD := hD1.weaken (fun _ q _ h => hFc q.1 h)
  exact hfin _ _ _ _ _ _ h rfl hP hD hS dX10_round_15
set_option maxHeartbeats 4000000 in
set_option maxRecDepth 100000 in
theorem c_X10_takeUp (l : Launch) (D : va_G) (tt : Nat → ClassId) (kw : Nat → Nat) (sz : Nat) (bw : zV) (bj : zJ) (x1 : Int32) (x2 : Int32) (out : Int32 × zV) (h : f_X10_takeUp bw bj x1 x2 = some out) : Met l yX10_takeUp wsX10_takeUp { frames := 3, cells := 0, slots := 0, locals := 66 } (zPm [.ref (kw 0), .int x1, .int x2] D tt (zw_mo tt kw bw bj) sz) (zMi .int out.1 D (zw_mo tt kw out.2 bj) (va_A (zw_mo tt kw bw bj) sz)) 0 0 (va_A (zw_mo tt kw bw bj) sz) := by
  refine Met.ofW (cc := cX10_takeUp) (maxL := 3) (ret := (some .int)) (by decide) rfl ?_
  intro p e s m args below meth c s₁ B hml hv
  obtain ⟨ha, hsz, hP, hK, hD0⟩ := hv
  have hx := B.exec
  have hb := B.bytes
  have hr := B.returns
  have hts := atoms_spec (ws := wsX10_takeUp) B.pre
  have hown : s.vm.findClass RX10 = some m.cls := findClass_of_methodNamed B.named
  have hlocks := B.notSynchronized
  subst hsz
  have hD := hD0.self (sz := s.heap.size)
  generalize hAe : va_A (zw_mo tt kw bw bj) s.heap.size = A at hD ⊢
  have hA : ∀ q : Nat, s.heap.size ≤ q → A q := fun q h => by rw [← hAe]; exact Or.inr h
  have hS : va_S A s.heap s.heap [] := va_S.rf
  have hfin : ∀ (v : Int32) (bw : zV) (pc : Nat) (ls : Array Slot) (H : Heap) (locs : List Loc), some (v, bw) = some out → narrow .int (.int v) = .int v → va_P D vwCl (zw_mo tt kw bw bj) H → va_D A (zw_mo tt kw bw bj) → va_S A s.heap H locs → decode cX10_takeUp pc = .ok (.ireturn, 1) → W p l e (headSpec wsX10_takeUp { frames := 3, cells := 0, slots := 0, locals := 66 }).room s m args below meth c H locs 0 0 (MQ below (zMi .int out.1 D (zw_mo tt kw out.2 bj) A) args s 0 0 A) (F0 m pc ls [.int v]) := by
    intro v bw pc ls H locs he hn hP hD hS hd
    cases he
    exact W.zret hx hb hr hn (fun t ht hW => ⟨⟨_, (), rfl, ⟨rfl, hn⟩, by rw [ht]; exact hP, hD⟩, hS.F ht⟩) hS.2.2 hd
  generalize MQ below (zMi .int out.1 D (zw_mo tt kw out.2 bj) A) args s 0 0 A = Q at hfin ⊢
  have hl := lv_entry ([.ref (kw 0), .int x1, .int x2]) (n := 3) (Nat.le_of_ble_eq_true rfl)
  refine W.eq (g2 := F0 m 0 ((lg_sl ([.ref (kw 0), .int x1, .int x2]) ++ List.replicate (3 - (lg_sl ([.ref (kw 0), .int x1, .int x2])).length) Slot.unset).toArray) []) (by rw [ha]; exact lg_entry_eq _ _ _) ?_
  generalize (lg_sl ([.ref (kw 0), .int x1, .int x2]) ++ List.replicate (3 - (lg_sl ([.ref (kw 0), .int x1, .int x2])).length) Slot.unset).toArray = ls at hl ⊢
  have hl : lv_has ls 3 [(0, .ref (kw 0)), (1, .int x1), (2, .int x2)] := hl
  rw [f_X10_takeUp] at h
  refine lv_aload_n hx hb dX10_takeUp_0 rfl (lv_at hl 0 rfl) ?_
  obtain ⟨y1, gy1, h⟩ := zb_some h
  have hFc := z_free0 hD hS hA
  refine z_callmv (wc := (zw_mo tt kw bw bj)) (w1 := (zw_mo tt kw y1 bj)) (va_runV (As := []) (rest := []) ⟨hx, hb, hml, hown, hts⟩ (c_X10_begins l D tt kw _ bw bj y1 gy1) (cwV 0 hts gX10_takeUp_X10_begins rfl rfl rfl (by decide +kernel) ⟨Nat.le_of_ble_eq_true rfl, Nat.le_of_ble_eq_true rfl⟩) (z_preVm hK hP hD (ci := 10) (q0 := 0) rfl rfl) rfl rfl hl.1 rfl (lv_room (Nat.le_of_ble_eq_true rfl)) dX10_takeUp_1 ⟨Nat.zero_le _, Nat.zero_le _⟩) hS hFc (fun H locs hP1 hD1 hk1 hS => ?_)
  have hP := hP1
  have hD := hD1.weaken (fun _ q _ h => hFc q.1 h)
  refine lv_aload_n hx hb dX10_takeUp_4 rfl (lv_at hl 0 rfl) ?_
  refine lv_aload_n hx hb dX10_takeUp_5 rfl (lv_at hl 0 rfl) ?_
  refine lv_iload_n hx hb dX10_takeUp_6 rfl (lv_at hl 1 rfl) ?_
  refine lv_iload_n hx hb dX10_takeUp_7 rfl (lv_at hl 2 rfl) ?_
  obtain ⟨y2, gy2, h⟩ := zb_some h
  have hFc := z_free0 hD hS hA
  refine z_callmi (wc := (zw_mo tt kw y1 bj)) (w1 := (zw_mo tt kw y2.2 bj)) (va_runV (As := [.int x1, .int x2]) (rest := [.ref (kw 0)]) ⟨hx, hb, hml, hown, hts⟩ (c_X10_takesUp l D tt kw _ y1 bj x1 x2 y2 gy2) (cwV 2 hts gX10_takeUp_X10_takesUp rfl rfl rfl (by decide +kernel) ⟨Nat.le_of_ble_eq_true rfl, Nat.le_of_ble_eq_true rfl⟩) (z_preVm hK hP hD (ci := 10) (q0 := 0) rfl rfl) rfl rfl hl.1 rfl (lv_room (Nat.le_of_ble_eq_true rfl)) dX10_takeUp_8 ⟨Nat.zero_le _, Nat.zero_le _⟩) hS hFc (fun H locs ny2 hP1 hD1 hk1 hS => ?_)
  have hP := hP1
  have hD := hD1.weaken (fun _ q _ h => hFc q.1 h)
  obtain ⟨y3, gy3, h⟩ := zb_some h
  have hFc := z_free0 hD hS hA
  refine z_callmi (wc := (zw_mo tt kw y2.2 bj)) (w1 := (zw_mo tt kw y3.2 bj)) (va_runV (As := [.int y2.1]) (rest := []) ⟨hx, hb, hml, hown, hts⟩ (c_X10_acted l D tt kw _ y2.2 bj y2.1 y3 gy3) (cwV 1 hts gX10_takeUp_X10_acted rfl rfl rfl (by decide +kernel) ⟨Nat.le_of_ble_eq_true rfl, Nat.le_of_ble_eq_true rfl⟩) (z_preVm hK hP hD (ci := 10) (q0 := 0) rfl rfl) rfl rfl hl.1 rfl (lv_room (Nat.le_of_ble_eq_true rfl)) dX10_takeUp_11 ⟨Nat.zero_le _, Nat.zero_le _⟩) hS hFc (fun H locs ny3 hP1 hD1 hk1 hS => ?_)
  have hP := hP1
  have hD := hD1.weaken (fun _ q _ h => hFc q.1 h)
  exact hfin _ _ _ _ _ _ h rfl hP hD hS dX10_takeUp_14
set_option maxHeartbeats 4000000 in
set_option maxRecDepth 100000 in
theorem c_X10_close (l : Launch) (D : va_G) (tt : Nat → ClassId) (kw : Nat → Nat) (sz : Nat) (bw : zV) (bj : zJ)  (out : Int32 × zV) (h : f_X10_close bw bj = some out) : Met l yX10_close wsX10_close { frames := 3, cells := 0, slots := 0, locals := 72 } (zPm [.ref (kw 0)] D tt (zw_mo tt kw bw bj) sz) (zMi .int out.1 D (zw_mo tt kw out.2 bj) (va_A (zw_mo tt kw bw bj) sz)) 0 0 (va_A (zw_mo tt kw bw bj) sz) := by
  refine Met.ofW (cc := cX10_close) (maxL := 1) (ret := (some .int)) (by decide) rfl ?_
  intro p e s m args below meth c s₁ B hml hv
  obtain ⟨ha, hsz, hP, hK, hD0⟩ := hv
  have hx := B.exec
  have hb := B.bytes
  have hr := B.returns
  have hts := atoms_spec (ws := wsX10_close) B.pre
  have hown : s.vm.findClass RX10 = some m.cls := findClass_of_methodNamed B.named
  have hlocks := B.notSynchronized
  subst hsz
  have hD := hD0.self (sz := s.heap.size)
  generalize hAe : va_A (zw_mo tt kw bw bj) s.heap.size = A at hD ⊢
  have hA : ∀ q : Nat, s.heap.size ≤ q → A q := fun q h => by rw [← hAe]; exact Or.inr h
  have hS : va_S A s.heap s.heap [] := va_S.rf
  have hfin : ∀ (v : Int32) (bw : zV) (pc : Nat) (ls : Array Slot) (H : Heap) (locs : List Loc), some (v, bw) = some out → narrow .int (.int v) = .int v → va_P D vwCl (zw_mo tt kw bw bj) H → va_D A (zw_mo tt kw bw bj) → va_S A s.heap H locs → decode cX10_close pc = .ok (.ireturn, 1) → W p l e (headSpec wsX10_close { frames := 3, cells := 0, slots := 0, locals := 72 }).room s m args below meth c H locs 0 0 (MQ below (zMi .int out.1 D (zw_mo tt kw out.2 bj) A) args s 0 0 A) (F0 m pc ls [.int v]) := by
    intro v bw pc ls H locs he hn hP hD hS hd
    cases he
    exact W.zret hx hb hr hn (fun t ht hW => ⟨⟨_, (), rfl, ⟨rfl, hn⟩, by rw [ht]; exact hP, hD⟩, hS.F ht⟩) hS.2.2 hd
  generalize MQ below (zMi .int out.1 D (zw_mo tt kw out.2 bj) A) args s 0 0 A = Q at hfin ⊢
  have hl := lv_entry ([.ref (kw 0)]) (n := 1) (Nat.le_of_ble_eq_true rfl)
  refine W.eq (g2 := F0 m 0 ((lg_sl ([.ref (kw 0)]) ++ List.replicate (1 - (lg_sl ([.ref (kw 0)])).length) Slot.unset).toArray) []) (by rw [ha]; exact lg_entry_eq _ _ _) ?_
  generalize (lg_sl ([.ref (kw 0)]) ++ List.replicate (1 - (lg_sl ([.ref (kw 0)])).length) Slot.unset).toArray = ls at hl ⊢
  have hl : lv_has ls 1 [(0, .ref (kw 0))] := hl
  rw [f_X10_close] at h
  refine lv_aload_n hx hb dX10_close_0 rfl (lv_at hl 0 rfl) ?_
  obtain ⟨y1, gy1, h⟩ := zb_some h
  have hFc := z_free0 hD hS hA
  refine z_callmv (wc := (zw_mo tt kw bw bj)) (w1 := (zw_mo tt kw y1 bj)) (va_runV (As := []) (rest := []) ⟨hx, hb, hml, hown, hts⟩ (c_X10_begins l D tt kw _ bw bj y1 gy1) (cwV 0 hts gX10_close_X10_begins rfl rfl rfl (by decide +kernel) ⟨Nat.le_of_ble_eq_true rfl, Nat.le_of_ble_eq_true rfl⟩) (z_preVm hK hP hD (ci := 10) (q0 := 0) rfl rfl) rfl rfl hl.1 rfl (lv_room (Nat.le_of_ble_eq_true rfl)) dX10_close_1 ⟨Nat.zero_le _, Nat.zero_le _⟩) hS hFc (fun H locs hP1 hD1 hk1 hS => ?_)
  have hP := hP1
  have hD := hD1.weaken (fun _ q _ h => hFc q.1 h)
  refine lv_aload_n hx hb dX10_close_4 rfl (lv_at hl 0 rfl) ?_
  refine lv_aload_n hx hb dX10_close_5 rfl (lv_at hl 0 rfl) ?_
  obtain ⟨y2, gy2, h⟩ := zb_some h
  have hFc := z_free0 hD hS hA
  refine z_callmi (wc := (zw_mo tt kw y1 bj)) (w1 := (zw_mo tt kw y2.2 bj)) (va_runV (As := []) (rest := [.ref (kw 0)]) ⟨hx, hb, hml, hown, hts⟩ (c_X10_closes l D tt kw _ y1 bj y2 gy2) (cwV 0 hts gX10_close_X10_closes rfl rfl rfl (by decide +kernel) ⟨Nat.le_of_ble_eq_true rfl, Nat.le_of_ble_eq_true rfl⟩) (z_preVm hK hP hD (ci := 10) (q0 := 0) rfl rfl) rfl rfl hl.1 rfl (lv_room (Nat.le_of_ble_eq_true rfl)) dX10_close_6 ⟨Nat.zero_le _, Nat.zero_le _⟩) hS hFc (fun H locs ny2 hP1 hD1 hk1 hS => ?_)
  have hP := hP1
  have hD := hD1.weaken (fun _ q _ h => hFc q.1 h)
  obtain ⟨y3, gy3, h⟩ := zb_some h
  have hFc := z_free0 hD hS hA
  refine z_callmi (wc := (zw_mo tt kw y2.2 bj)) (w1 := (zw_mo tt kw y3.2 bj)) (va_runV (As := [.int y2.1]) (rest := []) ⟨hx, hb, hml, hown, hts⟩ (c_X10_acted l D tt kw _ y2.2 bj y2.1 y3 gy3) (cwV 1 hts gX10_close_X10_acted rfl rfl rfl (by decide +kernel) ⟨Nat.le_of_ble_eq_true rfl, Nat.le_of_ble_eq_true rfl⟩) (z_preVm hK hP hD (ci := 10) (q0 := 0) rfl rfl) rfl rfl hl.1 rfl (lv_room (Nat.le_of_ble_eq_true rfl)) dX10_close_9 ⟨Nat.zero_le _, Nat.zero_le _⟩) hS hFc (fun H locs ny3 hP1 hD1 hk1 hS => ?_)
  have hP := hP1
  have hD := hD1.weaken (fun _ q _ h => hFc q.1 h)
  exact hfin _ _ _ _ _ _ h rfl hP hD hS dX10_close_12
set_option maxHeartbeats 4000000 in
set_option maxRecDepth 100000 in
theorem c_X10_roundOf (l : Launch) (D : va_G) (tt : Nat → ClassId) (kw : Nat → Nat) (bw : zV) (bj : zJ) (x1 : Int32) (x2 : Int32) (out : Int32) (h : f_X10_roundOf bw bj x1 x2 = some out) : Met l yX10_roundOf wsX10_roundOf { frames := 2, cells := 0, slots := 0, locals := 43 } (zPr [.ref (kw 0), .int x1, .int x2] D tt (zw_mo tt kw bw bj)) (zQr .int out) 0 0 (fun _ => False) := by
  refine Met.ofW (cc := cX10_roundOf) (maxL := 3) (ret := (some .int)) (by decide) rfl ?_
  intro p e s m args below meth c s₁ B hml hv
  obtain ⟨ha, hP, hK⟩ := hv
  have hx := B.exec
  have hb := B.bytes
  have hr := B.returns
  have hts := atoms_spec (ws := wsX10_roundOf) B.pre
  have hown : s.vm.findClass RX10 = some m.cls := findClass_of_methodNamed B.named
  have hlocks := B.notSynchronized
  have hi10 : ∀ w ∈ u_ws RX10 TX10 15, w ∈ wsX10_roundOf := fun _ h => List.mem_cons_of_mem _ (List.mem_append_right _ h)
  have fl7 := hts (.fieldLink RX10 7 "CapStacksModel" "s" "[I") (by decide +kernel)
  have hfin : ∀ (v : Int32) (pc : Nat) (ls : Array Slot), some v = some out → narrow .int (.int v) = .int v → decode cX10_roundOf pc = .ok (.ireturn, 1) → W p l e (headSpec wsX10_roundOf { frames := 2, cells := 0, slots := 0, locals := 43 }).room s m args below meth c s.heap [] 0 0 (MQ below (zQr .int out) args s 0 0 (fun _ => False)) (F0 m pc ls [.int v]) := by
    intro v pc ls he hn hd
    cases he
    exact W.zret hx hb hr hn (fun t ht hW => ⟨rfl, hn, ht⟩) (fun _ h => by cases h) hd
  generalize MQ below (zQr .int out) args s 0 0 (fun _ => False) = Q at hfin ⊢
  have hl := lv_entry ([.ref (kw 0), .int x1, .int x2]) (n := 3) (Nat.le_of_ble_eq_true rfl)
  refine W.eq (g2 := F0 m 0 ((lg_sl ([.ref (kw 0), .int x1, .int x2]) ++ List.replicate (3 - (lg_sl ([.ref (kw 0), .int x1, .int x2])).length) Slot.unset).toArray) []) (by rw [ha]; exact lg_entry_eq _ _ _) ?_
  generalize (lg_sl ([.ref (kw 0), .int x1, .int x2]) ++ List.replicate (3 - (lg_sl ([.ref (kw 0), .int x1, .int x2])).length) Slot.unset).toArray = ls at hl ⊢
  have hl : lv_has ls 3 [(0, .ref (kw 0)), (1, .int x1), (2, .int x2)] := hl
  rw [f_X10_roundOf] at h
  refine lv_aload_n hx hb dX10_roundOf_0 rfl (lv_at hl 0 rfl) ?_
  refine lv_iload_n hx hb dX10_roundOf_1 rfl (lv_at hl 1 rfl) ?_
  obtain ⟨y1, gy1, h⟩ := zb_some h
  refine z_callr (va_runV (As := [.int x1]) (rest := []) ⟨hx, hb, hml, hown, hts⟩ (c_X10_isHolder l D tt kw bw bj x1 y1 gy1) (cwV 1 hts gX10_roundOf_X10_isHolder rfl rfl rfl (by decide +kernel) ⟨Nat.le_of_ble_eq_true rfl, Nat.le_of_ble_eq_true rfl⟩) (z_preVr hK hP (ci := 10) (q0 := 0) rfl rfl) rfl rfl hl.1 rfl (lv_room (Nat.le_of_ble_eq_true rfl)) dX10_roundOf_2 ⟨Nat.zero_le _, Nat.zero_le _⟩) (fun ny1 => ?_)
  refine lv_if_eq (tgt := 17) hx hb dX10_roundOf_5 (by decide) (fun k2 => ?_) (fun k2 => ?_)
  · replace h := z_pos k2 h
    refine lv_iconst (v := (-1)) hx hb dX10_roundOf_17 (by decide) ?_
    exact hfin _ _ _ h rfl dX10_roundOf_18
  replace h := z_neg k2 h
  refine lv_iload_n hx hb dX10_roundOf_8 rfl (lv_at hl 2 rfl) ?_
  refine lv_iconst (v := 0) hx hb dX10_roundOf_9 (by decide) ?_
  refine lv_iconst (v := 4) hx hb dX10_roundOf_10 (by decide) ?_
  obtain ⟨y3, gy3, h⟩ := zb_some h
  refine z_callr (va_runS (As := [.int x2, .int 0, .int 4]) (rest := []) ⟨hx, hb, hml, hown, hts⟩ (c_X10_in l D tt x2 0 4 y3 gy3) (va_cwS 3 hts gX10_roundOf_X10_in rfl rfl rfl (by decide +kernel) ⟨Nat.le_of_ble_eq_true rfl, Nat.le_of_ble_eq_true rfl⟩) (z_preSr hK (hP.sub (ws' := ([] : va_W)) [] rfl)) rfl rfl hl.1 rfl (lv_room (Nat.le_of_ble_eq_true rfl)) dX10_roundOf_11 ⟨Nat.zero_le _, Nat.zero_le _⟩) (fun ny3 => ?_)
  refine lv_if_ne (tgt := 19) hx hb dX10_roundOf_14 (by decide) (fun k4 => ?_) (fun k4 => ?_)
  rotate_left
  · replace h := z_pos k4 h
    refine lv_iconst (v := (-1)) hx hb dX10_roundOf_17 (by decide) ?_
    exact hfin _ _ _ h rfl dX10_roundOf_18
  replace h := z_neg k4 h
  refine lv_aload_n hx hb dX10_roundOf_19 rfl (lv_at hl 0 rfl) ?_
  obtain ⟨y5, gy5, h⟩ := zb_some h
  refine z_callr (va_runV (As := []) (rest := []) ⟨hx, hb, hml, hown, hts⟩ (c_X10_isRound l D tt kw bw bj y5 gy5) (cwV 0 hts gX10_roundOf_X10_isRound rfl rfl rfl (by decide +kernel) ⟨Nat.le_of_ble_eq_true rfl, Nat.le_of_ble_eq_true rfl⟩) (z_preVr hK hP (ci := 10) (q0 := 0) rfl rfl) rfl rfl hl.1 rfl (lv_room (Nat.le_of_ble_eq_true rfl)) dX10_roundOf_20 ⟨Nat.zero_le _, Nat.zero_le _⟩) (fun ny5 => ?_)
  refine lv_if_ne (tgt := 29) hx hb dX10_roundOf_23 (by decide) (fun k6 => ?_) (fun k6 => ?_)
  rotate_left
  · replace h := z_pos k6 h
    refine lv_bipush (v := (-4)) hx hb dX10_roundOf_26 (by decide) ?_
    exact hfin _ _ _ h rfl dX10_roundOf_28
  replace h := z_neg k6 h
  refine lv_iload_n hx hb dX10_roundOf_29 rfl (lv_at hl 2 rfl) ?_
  refine lv_if_ne (tgt := 45) hx hb dX10_roundOf_30 (by decide) (fun k7 => ?_) (fun k7 => ?_)
  rotate_left
  · replace h := z_pos k7 h
    refine lv_aload_n hx hb dX10_roundOf_33 rfl (lv_at hl 0 rfl) ?_
    refine va_get (D := D) (ci := 10) (v := .ref (kw 1)) (C := RX10) (T := TX10) (N := 15) hx hb hts hi10 hown hK.1 hP 0 rfl rfl 0 (by decide) fl7 (fun _ h9 => h9) rfl dX10_roundOf_34 ?_
    refine lv_bipush (v := 12) hx hb dX10_roundOf_37 (by decide) ?_
    refine lv_iload_n hx hb dX10_roundOf_39 rfl (lv_at hl 1 rfl) ?_
    refine lv_iadd hx hb dX10_roundOf_40 ?_
    obtain ⟨q11, h⟩ := zA_some h
    refine va_iald hx hb hK.1 hP 1 0 rfl rfl q11 dX10_roundOf_41 ?_
    refine lv_goto (tgt := 73) hx hb dX10_roundOf_42 (by decide) ?_
    exact hfin _ _ _ h rfl dX10_roundOf_73
  replace h := z_neg k7 h
  refine lv_iload_n hx hb dX10_roundOf_45 rfl (lv_at hl 2 rfl) ?_
  refine lv_iconst (v := 1) hx hb dX10_roundOf_46 (by decide) ?_
  refine lv_icmp_ne (tgt := 62) hx hb dX10_roundOf_47 (by decide) (fun k8 => ?_) (fun k8 => ?_)
  rotate_left
  · replace h := z_pos k8 h
    refine lv_aload_n hx hb dX10_roundOf_50 rfl (lv_at hl 0 rfl) ?_
    refine va_get (D := D) (ci := 10) (v := .ref (kw 1)) (C := RX10) (T := TX10) (N := 15) hx hb hts hi10 hown hK.1 hP 0 rfl rfl 0 (by decide) fl7 (fun _ h9 => h9) rfl dX10_roundOf_51 ?_
    refine lv_bipush (v := 20) hx hb dX10_roundOf_54 (by decide) ?_
    refine lv_iload_n hx hb dX10_roundOf_56 rfl (lv_at hl 1 rfl) ?_
    refine lv_iadd hx hb dX10_roundOf_57 ?_
    obtain ⟨q10, h⟩ := zA_some h
    refine va_iald hx hb hK.1 hP 1 0 rfl rfl q10 dX10_roundOf_58 ?_
    refine lv_goto (tgt := 73) hx hb dX10_roundOf_59 (by decide) ?_
    exact hfin _ _ _ h rfl dX10_roundOf_73
  replace h := z_neg k8 h
  refine lv_aload_n hx hb dX10_roundOf_62 rfl (lv_at hl 0 rfl) ?_
  refine va_get (D := D) (ci := 10) (v := .ref (kw 1)) (C := RX10) (T := TX10) (N := 15) hx hb hts hi10 hown hK.1 hP 0 rfl rfl 0 (by decide) fl7 (fun _ h9 => h9) rfl dX10_roundOf_63 ?_
  refine lv_bipush (v := 9) hx hb dX10_roundOf_66 (by decide) ?_
  refine lv_iload_n hx hb dX10_roundOf_68 rfl (lv_at hl 2 rfl) ?_
  refine lv_iadd hx hb dX10_roundOf_69 ?_
  refine lv_iconst (v := 2) hx hb dX10_roundOf_70 (by decide) ?_
  refine lv_isub hx hb dX10_roundOf_71 ?_
  obtain ⟨q9, h⟩ := zA_some h
  refine va_iald hx hb hK.1 hP 1 0 rfl rfl q9 dX10_roundOf_72 ?_
  exact hfin _ _ _ h rfl dX10_roundOf_73
set_option maxHeartbeats 4000000 in
set_option maxRecDepth 100000 in
theorem c_X10_preference (l : Launch) (D : va_G) (tt : Nat → ClassId) (kw : Nat → Nat) (bw : zV) (bj : zJ) (x1 : Int32) (out : Int32) (h : f_X10_preference bw bj x1 = some out) : Met l yX10_preference wsX10_preference { frames := 2, cells := 0, slots := 0, locals := 47 } (zPr [.ref (kw 0), .int x1] D tt (zw_mo tt kw bw bj)) (zQr .int out) 0 0 (fun _ => False) := by
  refine Met.ofW (cc := cX10_preference) (maxL := 2) (ret := (some .int)) (by decide) rfl ?_
  intro p e s m args below meth c s₁ B hml hv
  obtain ⟨ha, hP, hK⟩ := hv
  have hx := B.exec
  have hb := B.bytes
  have hr := B.returns
  have hts := atoms_spec (ws := wsX10_preference) B.pre
  have hown : s.vm.findClass RX10 = some m.cls := findClass_of_methodNamed B.named
  have hlocks := B.notSynchronized
  have hfin : ∀ (v : Int32) (pc : Nat) (ls : Array Slot), some v = some out → narrow .int (.int v) = .int v → decode cX10_preference pc = .ok (.ireturn, 1) → W p l e (headSpec wsX10_preference { frames := 2, cells := 0, slots := 0, locals := 47 }).room s m args below meth c s.heap [] 0 0 (MQ below (zQr .int out) args s 0 0 (fun _ => False)) (F0 m pc ls [.int v]) := by
    intro v pc ls he hn hd
    cases he
    exact W.zret hx hb hr hn (fun t ht hW => ⟨rfl, hn, ht⟩) (fun _ h => by cases h) hd
  generalize MQ below (zQr .int out) args s 0 0 (fun _ => False) = Q at hfin ⊢
  have hl := lv_entry ([.ref (kw 0), .int x1]) (n := 2) (Nat.le_of_ble_eq_true rfl)
  refine W.eq (g2 := F0 m 0 ((lg_sl ([.ref (kw 0), .int x1]) ++ List.replicate (2 - (lg_sl ([.ref (kw 0), .int x1])).length) Slot.unset).toArray) []) (by rw [ha]; exact lg_entry_eq _ _ _) ?_
  generalize (lg_sl ([.ref (kw 0), .int x1]) ++ List.replicate (2 - (lg_sl ([.ref (kw 0), .int x1])).length) Slot.unset).toArray = ls at hl ⊢
  have hl : lv_has ls 2 [(0, .ref (kw 0)), (1, .int x1)] := hl
  rw [f_X10_preference] at h
  refine lv_aload_n hx hb dX10_preference_0 rfl (lv_at hl 0 rfl) ?_
  refine lv_iconst (v := (-1)) hx hb dX10_preference_1 (by decide) ?_
  refine lv_iload_n hx hb dX10_preference_2 rfl (lv_at hl 1 rfl) ?_
  obtain ⟨y1, gy1, h⟩ := zb_some h
  refine z_callr (va_runV (As := [.int (-1), .int x1]) (rest := []) ⟨hx, hb, hml, hown, hts⟩ (c_X10_sharesOf l D tt kw bw bj (-1) x1 y1 gy1) (cwV 2 hts gX10_preference_X10_sharesOf rfl rfl rfl (by decide +kernel) ⟨Nat.le_of_ble_eq_true rfl, Nat.le_of_ble_eq_true rfl⟩) (z_preVr hK hP (ci := 10) (q0 := 0) rfl rfl) rfl rfl hl.1 rfl (lv_room (Nat.le_of_ble_eq_true rfl)) dX10_preference_3 ⟨Nat.zero_le _, Nat.zero_le _⟩) (fun ny1 => ?_)
  refine lv_aload_n hx hb dX10_preference_6 rfl (lv_at hl 0 rfl) ?_
  refine lv_iload_n hx hb dX10_preference_7 rfl (lv_at hl 1 rfl) ?_
  refine lv_iconst (v := 0) hx hb dX10_preference_8 (by decide) ?_
  obtain ⟨y2, gy2, h⟩ := zb_some h
  refine z_callr (va_runV (As := [.int x1, .int 0]) (rest := [.int y1]) ⟨hx, hb, hml, hown, hts⟩ (c_X10_ofClass l D tt kw bw bj x1 0 y2 gy2) (cwV 2 hts gX10_preference_X10_ofClass rfl rfl rfl (by decide +kernel) ⟨Nat.le_of_ble_eq_true rfl, Nat.le_of_ble_eq_true rfl⟩) (z_preVr hK hP (ci := 10) (q0 := 0) rfl rfl) rfl rfl hl.1 rfl (lv_room (Nat.le_of_ble_eq_true rfl)) dX10_preference_9 ⟨Nat.zero_le _, Nat.zero_le _⟩) (fun ny2 => ?_)
  refine lv_imul hx hb dX10_preference_12 ?_
  refine lv_aload_n hx hb dX10_preference_13 rfl (lv_at hl 0 rfl) ?_
  refine lv_iload_n hx hb dX10_preference_14 rfl (lv_at hl 1 rfl) ?_
  refine lv_iconst (v := 1) hx hb dX10_preference_15 (by decide) ?_
  obtain ⟨y3, gy3, h⟩ := zb_some h
  refine z_callr (va_runV (As := [.int x1, .int 1]) (rest := [.int (y1 * y2)]) ⟨hx, hb, hml, hown, hts⟩ (c_X10_ofClass l D tt kw bw bj x1 1 y3 gy3) (cwV 2 hts gX10_preference_X10_ofClass rfl rfl rfl (by decide +kernel) ⟨Nat.le_of_ble_eq_true rfl, Nat.le_of_ble_eq_true rfl⟩) (z_preVr hK hP (ci := 10) (q0 := 0) rfl rfl) rfl rfl hl.1 rfl (lv_room (Nat.le_of_ble_eq_true rfl)) dX10_preference_16 ⟨Nat.zero_le _, Nat.zero_le _⟩) (fun ny3 => ?_)
  refine lv_imul hx hb dX10_preference_19 ?_
  exact hfin _ _ _ h rfl dX10_preference_20
set_option maxHeartbeats 4000000 in
set_option maxRecDepth 100000 in
theorem c_X10_classOf (l : Launch) (D : va_G) (tt : Nat → ClassId) (kw : Nat → Nat) (bw : zV) (bj : zJ) (x1 : Int32) (x2 : Int32) (out : Int32) (h : f_X10_classOf bw bj x1 x2 = some out) : Met l yX10_classOf wsX10_classOf { frames := 3, cells := 0, slots := 0, locals := 68 } (zPr [.ref (kw 0), .int x1, .int x2] D tt (zw_mo tt kw bw bj)) (zQr .int out) 0 0 (fun _ => False) := by
  refine Met.ofW (cc := cX10_classOf) (maxL := 3) (ret := (some .int)) (by decide) rfl ?_
  intro p e s m args below meth c s₁ B hml hv
  obtain ⟨ha, hP, hK⟩ := hv
  have hx := B.exec
  have hb := B.bytes
  have hr := B.returns
  have hts := atoms_spec (ws := wsX10_classOf) B.pre
  have hown : s.vm.findClass RX10 = some m.cls := findClass_of_methodNamed B.named
  have hlocks := B.notSynchronized
  have hfin : ∀ (v : Int32) (pc : Nat) (ls : Array Slot), some v = some out → narrow .int (.int v) = .int v → decode cX10_classOf pc = .ok (.ireturn, 1) → W p l e (headSpec wsX10_classOf { frames := 3, cells := 0, slots := 0, locals := 68 }).room s m args below meth c s.heap [] 0 0 (MQ below (zQr .int out) args s 0 0 (fun _ => False)) (F0 m pc ls [.int v]) := by
    intro v pc ls he hn hd
    cases he
    exact W.zret hx hb hr hn (fun t ht hW => ⟨rfl, hn, ht⟩) (fun _ h => by cases h) hd
  generalize MQ below (zQr .int out) args s 0 0 (fun _ => False) = Q at hfin ⊢
  have hl := lv_entry ([.ref (kw 0), .int x1, .int x2]) (n := 3) (Nat.le_of_ble_eq_true rfl)
  refine W.eq (g2 := F0 m 0 ((lg_sl ([.ref (kw 0), .int x1, .int x2]) ++ List.replicate (3 - (lg_sl ([.ref (kw 0), .int x1, .int x2])).length) Slot.unset).toArray) []) (by rw [ha]; exact lg_entry_eq _ _ _) ?_
  generalize (lg_sl ([.ref (kw 0), .int x1, .int x2]) ++ List.replicate (3 - (lg_sl ([.ref (kw 0), .int x1, .int x2])).length) Slot.unset).toArray = ls at hl ⊢
  have hl : lv_has ls 3 [(0, .ref (kw 0)), (1, .int x1), (2, .int x2)] := hl
  rw [f_X10_classOf] at h
  refine lv_aload_n hx hb dX10_classOf_0 rfl (lv_at hl 0 rfl) ?_
  refine lv_iload_n hx hb dX10_classOf_1 rfl (lv_at hl 1 rfl) ?_
  obtain ⟨y1, gy1, h⟩ := zb_some h
  refine z_callr (va_runV (As := [.int x1]) (rest := []) ⟨hx, hb, hml, hown, hts⟩ (c_X10_isClass l D tt kw bw bj x1 y1 gy1) (cwV 1 hts gX10_classOf_X10_isClass rfl rfl rfl (by decide +kernel) ⟨Nat.le_of_ble_eq_true rfl, Nat.le_of_ble_eq_true rfl⟩) (z_preVr hK hP (ci := 10) (q0 := 0) rfl rfl) rfl rfl hl.1 rfl (lv_room (Nat.le_of_ble_eq_true rfl)) dX10_classOf_2 ⟨Nat.zero_le _, Nat.zero_le _⟩) (fun ny1 => ?_)
  refine lv_if_eq (tgt := 18) hx hb dX10_classOf_5 (by decide) (fun k2 => ?_) (fun k2 => ?_)
  · replace h := z_pos k2 h
    refine lv_iconst (v := (-1)) hx hb dX10_classOf_18 (by decide) ?_
    exact hfin _ _ _ h rfl dX10_classOf_19
  replace h := z_neg k2 h
  refine lv_iload_n hx hb dX10_classOf_8 rfl (lv_at hl 2 rfl) ?_
  refine lv_iconst (v := 0) hx hb dX10_classOf_9 (by decide) ?_
  refine lv_bipush (v := 7) hx hb dX10_classOf_10 (by decide) ?_
  obtain ⟨y3, gy3, h⟩ := zb_some h
  refine z_callr (va_runS (As := [.int x2, .int 0, .int 7]) (rest := []) ⟨hx, hb, hml, hown, hts⟩ (c_X10_in l D tt x2 0 7 y3 gy3) (va_cwS 3 hts gX10_classOf_X10_in rfl rfl rfl (by decide +kernel) ⟨Nat.le_of_ble_eq_true rfl, Nat.le_of_ble_eq_true rfl⟩) (z_preSr hK (hP.sub (ws' := ([] : va_W)) [] rfl)) rfl rfl hl.1 rfl (lv_room (Nat.le_of_ble_eq_true rfl)) dX10_classOf_12 ⟨Nat.zero_le _, Nat.zero_le _⟩) (fun ny3 => ?_)
  refine lv_if_ne (tgt := 20) hx hb dX10_classOf_15 (by decide) (fun k4 => ?_) (fun k4 => ?_)
  rotate_left
  · replace h := z_pos k4 h
    refine lv_iconst (v := (-1)) hx hb dX10_classOf_18 (by decide) ?_
    exact hfin _ _ _ h rfl dX10_classOf_19
  replace h := z_neg k4 h
  refine lv_iload_n hx hb dX10_classOf_20 rfl (lv_at hl 2 rfl) ?_
  by_cases k5 : x2 = 0
  · replace h := z_pos k5 h
    rw [k5]
    refine lv_tableIn (off := 27) (tgt := 48) hx hb dX10_classOf_21 (by decide) (by decide) (by decide) (by decide) ?_
    refine lv_aload_n hx hb dX10_classOf_48 rfl (lv_at hl 0 rfl) ?_
    refine lv_iconst (v := (-1)) hx hb dX10_classOf_49 (by decide) ?_
    refine lv_iload_n hx hb dX10_classOf_50 rfl (lv_at hl 1 rfl) ?_
    obtain ⟨y6, gy6, h⟩ := zb_some h
    refine z_callr (va_runV (As := [.int (-1), .int x1]) (rest := []) ⟨hx, hb, hml, hown, hts⟩ (c_X10_sharesOf l D tt kw bw bj (-1) x1 y6 gy6) (cwV 2 hts gX10_classOf_X10_sharesOf rfl rfl rfl (by decide +kernel) ⟨Nat.le_of_ble_eq_true rfl, Nat.le_of_ble_eq_true rfl⟩) (z_preVr hK hP (ci := 10) (q0 := 0) rfl rfl) rfl rfl hl.1 rfl (lv_room (Nat.le_of_ble_eq_true rfl)) dX10_classOf_51 ⟨Nat.zero_le _, Nat.zero_le _⟩) (fun ny6 => ?_)
    exact hfin _ _ _ h rfl dX10_classOf_54
  replace h := z_neg k5 h
  by_cases k7 : x2 = 1
  · replace h := z_pos k7 h
    rw [k7]
    refine lv_tableIn (off := 34) (tgt := 55) hx hb dX10_classOf_21 (by decide) (by decide) (by decide) (by decide) ?_
    refine lv_aload_n hx hb dX10_classOf_55 rfl (lv_at hl 0 rfl) ?_
    refine lv_iload_n hx hb dX10_classOf_56 rfl (lv_at hl 1 rfl) ?_
    obtain ⟨y8, gy8, h⟩ := zb_some h
    refine z_callr (va_runV (As := [.int x1]) (rest := []) ⟨hx, hb, hml, hown, hts⟩ (c_X10_preference l D tt kw bw bj x1 y8 gy8) (cwV 1 hts gX10_classOf_X10_preference rfl rfl rfl (by decide +kernel) ⟨Nat.le_of_ble_eq_true rfl, Nat.le_of_ble_eq_true rfl⟩) (z_preVr hK hP (ci := 10) (q0 := 0) rfl rfl) rfl rfl hl.1 rfl (lv_room (Nat.le_of_ble_eq_true rfl)) dX10_classOf_57 ⟨Nat.zero_le _, Nat.zero_le _⟩) (fun ny8 => ?_)
    exact hfin _ _ _ h rfl dX10_classOf_60
  replace h := z_neg k7 h
  by_cases k9 : x2 = 2
  · replace h := z_pos k9 h
    rw [k9]
    refine lv_tableIn (off := 40) (tgt := 61) hx hb dX10_classOf_21 (by decide) (by decide) (by decide) (by decide) ?_
    refine lv_aload_n hx hb dX10_classOf_61 rfl (lv_at hl 0 rfl) ?_
    refine lv_iconst (v := (-1)) hx hb dX10_classOf_62 (by decide) ?_
    refine lv_iload_n hx hb dX10_classOf_63 rfl (lv_at hl 1 rfl) ?_
    obtain ⟨y10, gy10, h⟩ := zb_some h
    refine z_callr (va_runV (As := [.int (-1), .int x1]) (rest := []) ⟨hx, hb, hml, hown, hts⟩ (c_X10_sharesOf l D tt kw bw bj (-1) x1 y10 gy10) (cwV 2 hts gX10_classOf_X10_sharesOf rfl rfl rfl (by decide +kernel) ⟨Nat.le_of_ble_eq_true rfl, Nat.le_of_ble_eq_true rfl⟩) (z_preVr hK hP (ci := 10) (q0 := 0) rfl rfl) rfl rfl hl.1 rfl (lv_room (Nat.le_of_ble_eq_true rfl)) dX10_classOf_64 ⟨Nat.zero_le _, Nat.zero_le _⟩) (fun ny10 => ?_)
    refine lv_aload_n hx hb dX10_classOf_67 rfl (lv_at hl 0 rfl) ?_
    refine lv_iload_n hx hb dX10_classOf_68 rfl (lv_at hl 1 rfl) ?_
    refine lv_iconst (v := 4) hx hb dX10_classOf_69 (by decide) ?_
    obtain ⟨y11, gy11, h⟩ := zb_some h
    refine z_callr (va_runV (As := [.int x1, .int 4]) (rest := [.int y10]) ⟨hx, hb, hml, hown, hts⟩ (c_X10_ofClass l D tt kw bw bj x1 4 y11 gy11) (cwV 2 hts gX10_classOf_X10_ofClass rfl rfl rfl (by decide +kernel) ⟨Nat.le_of_ble_eq_true rfl, Nat.le_of_ble_eq_true rfl⟩) (z_preVr hK hP (ci := 10) (q0 := 0) rfl rfl) rfl rfl hl.1 rfl (lv_room (Nat.le_of_ble_eq_true rfl)) dX10_classOf_70 ⟨Nat.zero_le _, Nat.zero_le _⟩) (fun ny11 => ?_)
    refine lv_imul hx hb dX10_classOf_73 ?_
    exact hfin _ _ _ h rfl dX10_classOf_74
  replace h := z_neg k9 h
  have ek5 : Int32.toInt x2 ≠ 0 := fun e => k5 (Int32.toInt_inj.mp (e.trans (by decide)))
  have ek7 : Int32.toInt x2 ≠ 1 := fun e => k7 (Int32.toInt_inj.mp (e.trans (by decide)))
  have ek9 : Int32.toInt x2 ≠ 2 := fun e => k9 (Int32.toInt_inj.mp (e.trans (by decide)))
  refine lv_tableOut (tgt := 75) hx hb dX10_classOf_21 (by omega) (by decide) ?_
  refine lv_iload_n hx hb dX10_classOf_75 rfl (lv_at hl 1 rfl) ?_
  refine lv_if_ne (tgt := 84) hx hb dX10_classOf_76 (by decide) (fun k12 => ?_) (fun k12 => ?_)
  rotate_left
  · replace h := z_pos k12 h
    refine lv_bipush (v := (-4)) hx hb dX10_classOf_79 (by decide) ?_
    refine lv_goto (tgt := 92) hx hb dX10_classOf_81 (by decide) ?_
    exact hfin _ _ _ h rfl dX10_classOf_92
  replace h := z_neg k12 h
  refine lv_aload_n hx hb dX10_classOf_84 rfl (lv_at hl 0 rfl) ?_
  refine lv_iload_n hx hb dX10_classOf_85 rfl (lv_at hl 1 rfl) ?_
  refine lv_iload_n hx hb dX10_classOf_86 rfl (lv_at hl 2 rfl) ?_
  refine lv_iconst (v := 3) hx hb dX10_classOf_87 (by decide) ?_
  refine lv_isub hx hb dX10_classOf_88 ?_
  obtain ⟨y13, gy13, h⟩ := zb_some h
  refine z_callr (va_runV (As := [.int x1, .int (x2 - 3)]) (rest := []) ⟨hx, hb, hml, hown, hts⟩ (c_X10_ofClass l D tt kw bw bj x1 (x2 - 3) y13 gy13) (cwV 2 hts gX10_classOf_X10_ofClass rfl rfl rfl (by decide +kernel) ⟨Nat.le_of_ble_eq_true rfl, Nat.le_of_ble_eq_true rfl⟩) (z_preVr hK hP (ci := 10) (q0 := 0) rfl rfl) rfl rfl hl.1 rfl (lv_room (Nat.le_of_ble_eq_true rfl)) dX10_classOf_89 ⟨Nat.zero_le _, Nat.zero_le _⟩) (fun ny13 => ?_)
  exact hfin _ _ _ h rfl dX10_classOf_92
set_option maxHeartbeats 4000000 in
set_option maxRecDepth 100000 in
theorem c_X10_certificateOf (l : Launch) (D : va_G) (tt : Nat → ClassId) (kw : Nat → Nat) (bw : zV) (bj : zJ) (x1 : Int32) (x2 : Int32) (out : Int32) (h : f_X10_certificateOf bw bj x1 x2 = some out) : Met l yX10_certificateOf wsX10_certificateOf { frames := 2, cells := 0, slots := 0, locals := 43 } (zPr [.ref (kw 0), .int x1, .int x2] D tt (zw_mo tt kw bw bj)) (zQr .int out) 0 0 (fun _ => False) := by
  refine Met.ofW (cc := cX10_certificateOf) (maxL := 3) (ret := (some .int)) (by decide) rfl ?_
  intro p e s m args below meth c s₁ B hml hv
  obtain ⟨ha, hP, hK⟩ := hv
  have hx := B.exec
  have hb := B.bytes
  have hr := B.returns
  have hts := atoms_spec (ws := wsX10_certificateOf) B.pre
  have hown : s.vm.findClass RX10 = some m.cls := findClass_of_methodNamed B.named
  have hlocks := B.notSynchronized
  have hfin : ∀ (v : Int32) (pc : Nat) (ls : Array Slot), some v = some out → narrow .int (.int v) = .int v → decode cX10_certificateOf pc = .ok (.ireturn, 1) → W p l e (headSpec wsX10_certificateOf { frames := 2, cells := 0, slots := 0, locals := 43 }).room s m args below meth c s.heap [] 0 0 (MQ below (zQr .int out) args s 0 0 (fun _ => False)) (F0 m pc ls [.int v]) := by
    intro v pc ls he hn hd
    cases he
    exact W.zret hx hb hr hn (fun t ht hW => ⟨rfl, hn, ht⟩) (fun _ h => by cases h) hd
  generalize MQ below (zQr .int out) args s 0 0 (fun _ => False) = Q at hfin ⊢
  have hl := lv_entry ([.ref (kw 0), .int x1, .int x2]) (n := 3) (Nat.le_of_ble_eq_true rfl)
  refine W.eq (g2 := F0 m 0 ((lg_sl ([.ref (kw 0), .int x1, .int x2]) ++ List.replicate (3 - (lg_sl ([.ref (kw 0), .int x1, .int x2])).length) Slot.unset).toArray) []) (by rw [ha]; exact lg_entry_eq _ _ _) ?_
  generalize (lg_sl ([.ref (kw 0), .int x1, .int x2]) ++ List.replicate (3 - (lg_sl ([.ref (kw 0), .int x1, .int x2])).length) Slot.unset).toArray = ls at hl ⊢
  have hl : lv_has ls 3 [(0, .ref (kw 0)), (1, .int x1), (2, .int x2)] := hl
  rw [f_X10_certificateOf] at h
  refine lv_aload_n hx hb dX10_certificateOf_0 rfl (lv_at hl 0 rfl) ?_
  refine lv_iload_n hx hb dX10_certificateOf_1 rfl (lv_at hl 1 rfl) ?_
  obtain ⟨y1, gy1, h⟩ := zb_some h
  refine z_callr (va_runV (As := [.int x1]) (rest := []) ⟨hx, hb, hml, hown, hts⟩ (c_X10_isCertificate l D tt kw bw bj x1 y1 gy1) (cwV 1 hts gX10_certificateOf_X10_isCertificate rfl rfl rfl (by decide +kernel) ⟨Nat.le_of_ble_eq_true rfl, Nat.le_of_ble_eq_true rfl⟩) (z_preVr hK hP (ci := 10) (q0 := 0) rfl rfl) rfl rfl hl.1 rfl (lv_room (Nat.le_of_ble_eq_true rfl)) dX10_certificateOf_2 ⟨Nat.zero_le _, Nat.zero_le _⟩) (fun ny1 => ?_)
  refine lv_if_eq (tgt := 17) hx hb dX10_certificateOf_5 (by decide) (fun k2 => ?_) (fun k2 => ?_)
  · replace h := z_pos k2 h
    refine lv_iconst (v := (-1)) hx hb dX10_certificateOf_17 (by decide) ?_
    exact hfin _ _ _ h rfl dX10_certificateOf_18
  replace h := z_neg k2 h
  refine lv_iload_n hx hb dX10_certificateOf_8 rfl (lv_at hl 2 rfl) ?_
  refine lv_iconst (v := 0) hx hb dX10_certificateOf_9 (by decide) ?_
  refine lv_iconst (v := 3) hx hb dX10_certificateOf_10 (by decide) ?_
  obtain ⟨y3, gy3, h⟩ := zb_some h
  refine z_callr (va_runS (As := [.int x2, .int 0, .int 3]) (rest := []) ⟨hx, hb, hml, hown, hts⟩ (c_X10_in l D tt x2 0 3 y3 gy3) (va_cwS 3 hts gX10_certificateOf_X10_in rfl rfl rfl (by decide +kernel) ⟨Nat.le_of_ble_eq_true rfl, Nat.le_of_ble_eq_true rfl⟩) (z_preSr hK (hP.sub (ws' := ([] : va_W)) [] rfl)) rfl rfl hl.1 rfl (lv_room (Nat.le_of_ble_eq_true rfl)) dX10_certificateOf_11 ⟨Nat.zero_le _, Nat.zero_le _⟩) (fun ny3 => ?_)
  refine lv_if_ne (tgt := 19) hx hb dX10_certificateOf_14 (by decide) (fun k4 => ?_) (fun k4 => ?_)
  rotate_left
  · replace h := z_pos k4 h
    refine lv_iconst (v := (-1)) hx hb dX10_certificateOf_17 (by decide) ?_
    exact hfin _ _ _ h rfl dX10_certificateOf_18
  replace h := z_neg k4 h
  refine lv_iload_n hx hb dX10_certificateOf_19 rfl (lv_at hl 2 rfl) ?_
  refine lv_if_ne (tgt := 34) hx hb dX10_certificateOf_20 (by decide) (fun k5 => ?_) (fun k5 => ?_)
  · replace h := z_neg k5 h
    refine lv_aload_n hx hb dX10_certificateOf_34 rfl (lv_at hl 0 rfl) ?_
    refine lv_iload_n hx hb dX10_certificateOf_35 rfl (lv_at hl 1 rfl) ?_
    refine lv_iload_n hx hb dX10_certificateOf_36 rfl (lv_at hl 2 rfl) ?_
    obtain ⟨y6, gy6, h⟩ := zb_some h
    refine z_callr (va_runV (As := [.int x1, .int x2]) (rest := []) ⟨hx, hb, hml, hown, hts⟩ (c_X10_ofCertificate l D tt kw bw bj x1 x2 y6 gy6) (cwV 2 hts gX10_certificateOf_X10_ofCertificate rfl rfl rfl (by decide +kernel) ⟨Nat.le_of_ble_eq_true rfl, Nat.le_of_ble_eq_true rfl⟩) (z_preVr hK hP (ci := 10) (q0 := 0) rfl rfl) rfl rfl hl.1 rfl (lv_room (Nat.le_of_ble_eq_true rfl)) dX10_certificateOf_37 ⟨Nat.zero_le _, Nat.zero_le _⟩) (fun ny6 => ?_)
    exact hfin _ _ _ h rfl dX10_certificateOf_40
  replace h := z_pos k5 h
  refine lv_aload_n hx hb dX10_certificateOf_23 rfl (lv_at hl 0 rfl) ?_
  refine lv_iload_n hx hb dX10_certificateOf_24 rfl (lv_at hl 1 rfl) ?_
  refine lv_iconst (v := 0) hx hb dX10_certificateOf_25 (by decide) ?_
  obtain ⟨y7, gy7, h⟩ := zb_some h
  refine z_callr (va_runV (As := [.int x1, .int 0]) (rest := []) ⟨hx, hb, hml, hown, hts⟩ (c_X10_ofCertificate l D tt kw bw bj x1 0 y7 gy7) (cwV 2 hts gX10_certificateOf_X10_ofCertificate rfl rfl rfl (by decide +kernel) ⟨Nat.le_of_ble_eq_true rfl, Nat.le_of_ble_eq_true rfl⟩) (z_preVr hK hP (ci := 10) (q0 := 0) rfl rfl) rfl rfl hl.1 rfl (lv_room (Nat.le_of_ble_eq_true rfl)) dX10_certificateOf_26 ⟨Nat.zero_le _, Nat.zero_le _⟩) (fun ny7 => ?_)
  refine lv_iconst (v := 1) hx hb dX10_certificateOf_29 (by decide) ?_
  refine lv_isub hx hb dX10_certificateOf_30 ?_
  refine lv_goto (tgt := 40) hx hb dX10_certificateOf_31 (by decide) ?_
  exact hfin _ _ _ h rfl dX10_certificateOf_40
set_option maxHeartbeats 4000000 in
set_option maxRecDepth 100000 in
theorem c_X10_grantOf (l : Launch) (D : va_G) (tt : Nat → ClassId) (kw : Nat → Nat) (bw : zV) (bj : zJ) (x1 : Int32) (x2 : Int32) (out : Int32) (h : f_X10_grantOf bw bj x1 x2 = some out) : Met l yX10_grantOf wsX10_grantOf { frames := 3, cells := 0, slots := 0, locals := 70 } (zPr [.ref (kw 0), .int x1, .int x2] D tt (zw_mo tt kw bw bj)) (zQr .int out) 0 0 (fun _ => False) := by
  refine Met.ofW (cc := cX10_grantOf) (maxL := 3) (ret := (some .int)) (by decide) rfl ?_
  intro p e s m args below meth c s₁ B hml hv
  obtain ⟨ha, hP, hK⟩ := hv
  have hx := B.exec
  have hb := B.bytes
  have hr := B.returns
  have hts := atoms_spec (ws := wsX10_grantOf) B.pre
  have hown : s.vm.findClass RX10 = some m.cls := findClass_of_methodNamed B.named
  have hlocks := B.notSynchronized
  have hfin : ∀ (v : Int32) (pc : Nat) (ls : Array Slot), some v = some out → narrow .int (.int v) = .int v → decode cX10_grantOf pc = .ok (.ireturn, 1) → W p l e (headSpec wsX10_grantOf { frames := 3, cells := 0, slots := 0, locals := 70 }).room s m args below meth c s.heap [] 0 0 (MQ below (zQr .int out) args s 0 0 (fun _ => False)) (F0 m pc ls [.int v]) := by
    intro v pc ls he hn hd
    cases he
    exact W.zret hx hb hr hn (fun t ht hW => ⟨rfl, hn, ht⟩) (fun _ h => by cases h) hd
  generalize MQ below (zQr .int out) args s 0 0 (fun _ => False) = Q at hfin ⊢
  have hl := lv_entry ([.ref (kw 0), .int x1, .int x2]) (n := 3) (Nat.le_of_ble_eq_true rfl)
  refine W.eq (g2 := F0 m 0 ((lg_sl ([.ref (kw 0), .int x1, .int x2]) ++ List.replicate (3 - (lg_sl ([.ref (kw 0), .int x1, .int x2])).length) Slot.unset).toArray) []) (by rw [ha]; exact lg_entry_eq _ _ _) ?_
  generalize (lg_sl ([.ref (kw 0), .int x1, .int x2]) ++ List.replicate (3 - (lg_sl ([.ref (kw 0), .int x1, .int x2])).length) Slot.unset).toArray = ls at hl ⊢
  have hl : lv_has ls 3 [(0, .ref (kw 0)), (1, .int x1), (2, .int x2)] := hl
  rw [f_X10_grantOf] at h
  refine lv_aload_n hx hb dX10_grantOf_0 rfl (lv_at hl 0 rfl) ?_
  refine lv_iload_n hx hb dX10_grantOf_1 rfl (lv_at hl 1 rfl) ?_
  obtain ⟨y1, gy1, h⟩ := zb_some h
  refine z_callr (va_runV (As := [.int x1]) (rest := []) ⟨hx, hb, hml, hown, hts⟩ (c_X10_isGrant l D tt kw bw bj x1 y1 gy1) (cwV 1 hts gX10_grantOf_X10_isGrant rfl rfl rfl (by decide +kernel) ⟨Nat.le_of_ble_eq_true rfl, Nat.le_of_ble_eq_true rfl⟩) (z_preVr hK hP (ci := 10) (q0 := 0) rfl rfl) rfl rfl hl.1 rfl (lv_room (Nat.le_of_ble_eq_true rfl)) dX10_grantOf_2 ⟨Nat.zero_le _, Nat.zero_le _⟩) (fun ny1 => ?_)
  refine lv_if_eq (tgt := 18) hx hb dX10_grantOf_5 (by decide) (fun k2 => ?_) (fun k2 => ?_)
  · replace h := z_pos k2 h
    refine lv_iconst (v := (-1)) hx hb dX10_grantOf_18 (by decide) ?_
    exact hfin _ _ _ h rfl dX10_grantOf_19
  replace h := z_neg k2 h
  refine lv_iload_n hx hb dX10_grantOf_8 rfl (lv_at hl 2 rfl) ?_
  refine lv_iconst (v := 0) hx hb dX10_grantOf_9 (by decide) ?_
  refine lv_bipush (v := 6) hx hb dX10_grantOf_10 (by decide) ?_
  obtain ⟨y3, gy3, h⟩ := zb_some h
  refine z_callr (va_runS (As := [.int x2, .int 0, .int 6]) (rest := []) ⟨hx, hb, hml, hown, hts⟩ (c_X10_in l D tt x2 0 6 y3 gy3) (va_cwS 3 hts gX10_grantOf_X10_in rfl rfl rfl (by decide +kernel) ⟨Nat.le_of_ble_eq_true rfl, Nat.le_of_ble_eq_true rfl⟩) (z_preSr hK (hP.sub (ws' := ([] : va_W)) [] rfl)) rfl rfl hl.1 rfl (lv_room (Nat.le_of_ble_eq_true rfl)) dX10_grantOf_12 ⟨Nat.zero_le _, Nat.zero_le _⟩) (fun ny3 => ?_)
  refine lv_if_ne (tgt := 20) hx hb dX10_grantOf_15 (by decide) (fun k4 => ?_) (fun k4 => ?_)
  rotate_left
  · replace h := z_pos k4 h
    refine lv_iconst (v := (-1)) hx hb dX10_grantOf_18 (by decide) ?_
    exact hfin _ _ _ h rfl dX10_grantOf_19
  replace h := z_neg k4 h
  refine lv_iload_n hx hb dX10_grantOf_20 rfl (lv_at hl 2 rfl) ?_
  by_cases k5 : x2 = 0
  · replace h := z_pos k5 h
    rw [k5]
    refine lv_tableIn (off := 39) (tgt := 60) hx hb dX10_grantOf_21 (by decide) (by decide) (by decide) (by decide) ?_
    refine lv_aload_n hx hb dX10_grantOf_60 rfl (lv_at hl 0 rfl) ?_
    refine lv_iload_n hx hb dX10_grantOf_61 rfl (lv_at hl 1 rfl) ?_
    refine lv_iload_n hx hb dX10_grantOf_62 rfl (lv_at hl 2 rfl) ?_
    obtain ⟨y6, gy6, h⟩ := zb_some h
    refine z_callr (va_runV (As := [.int x1, .int x2]) (rest := []) ⟨hx, hb, hml, hown, hts⟩ (c_X10_ofGrant l D tt kw bw bj x1 x2 y6 gy6) (cwV 2 hts gX10_grantOf_X10_ofGrant rfl rfl rfl (by decide +kernel) ⟨Nat.le_of_ble_eq_true rfl, Nat.le_of_ble_eq_true rfl⟩) (z_preVr hK hP (ci := 10) (q0 := 0) rfl rfl) rfl rfl hl.1 rfl (lv_room (Nat.le_of_ble_eq_true rfl)) dX10_grantOf_63 ⟨Nat.zero_le _, Nat.zero_le _⟩) (fun ny6 => ?_)
    exact hfin _ _ _ h rfl dX10_grantOf_66
  replace h := z_neg k5 h
  by_cases k7 : x2 = 1
  · replace h := z_pos k7 h
    rw [k7]
    refine lv_tableIn (off := 39) (tgt := 60) hx hb dX10_grantOf_21 (by decide) (by decide) (by decide) (by decide) ?_
    refine lv_aload_n hx hb dX10_grantOf_60 rfl (lv_at hl 0 rfl) ?_
    refine lv_iload_n hx hb dX10_grantOf_61 rfl (lv_at hl 1 rfl) ?_
    refine lv_iload_n hx hb dX10_grantOf_62 rfl (lv_at hl 2 rfl) ?_
    obtain ⟨y8, gy8, h⟩ := zb_some h
    refine z_callr (va_runV (As := [.int x1, .int x2]) (rest := []) ⟨hx, hb, hml, hown, hts⟩ (c_X10_ofGrant l D tt kw bw bj x1 x2 y8 gy8) (cwV 2 hts gX10_grantOf_X10_ofGrant rfl rfl rfl (by decide +kernel) ⟨Nat.le_of_ble_eq_true rfl, Nat.le_of_ble_eq_true rfl⟩) (z_preVr hK hP (ci := 10) (q0 := 0) rfl rfl) rfl rfl hl.1 rfl (lv_room (Nat.le_of_ble_eq_true rfl)) dX10_grantOf_63 ⟨Nat.zero_le _, Nat.zero_le _⟩) (fun ny8 => ?_)
    exact hfin _ _ _ h rfl dX10_grantOf_66
  replace h := z_neg k7 h
  by_cases k9 : x2 = 2
  · replace h := z_pos k9 h
    rw [k9]
    refine lv_tableIn (off := 39) (tgt := 60) hx hb dX10_grantOf_21 (by decide) (by decide) (by decide) (by decide) ?_
    refine lv_aload_n hx hb dX10_grantOf_60 rfl (lv_at hl 0 rfl) ?_
    refine lv_iload_n hx hb dX10_grantOf_61 rfl (lv_at hl 1 rfl) ?_
    refine lv_iload_n hx hb dX10_grantOf_62 rfl (lv_at hl 2 rfl) ?_
    obtain ⟨y10, gy10, h⟩ := zb_some h
    refine z_callr (va_runV (As := [.int x1, .int x2]) (rest := []) ⟨hx, hb, hml, hown, hts⟩ (c_X10_ofGrant l D tt kw bw bj x1 x2 y10 gy10) (cwV 2 hts gX10_grantOf_X10_ofGrant rfl rfl rfl (by decide +kernel) ⟨Nat.le_of_ble_eq_true rfl, Nat.le_of_ble_eq_true rfl⟩) (z_preVr hK hP (ci := 10) (q0 := 0) rfl rfl) rfl rfl hl.1 rfl (lv_room (Nat.le_of_ble_eq_true rfl)) dX10_grantOf_63 ⟨Nat.zero_le _, Nat.zero_le _⟩) (fun ny10 => ?_)
    exact hfin _ _ _ h rfl dX10_grantOf_66
  replace h := z_neg k9 h
  by_cases k11 : x2 = 3
  · replace h := z_pos k11 h
    rw [k11]
    refine lv_tableIn (off := 46) (tgt := 67) hx hb dX10_grantOf_21 (by decide) (by decide) (by decide) (by decide) ?_
    refine lv_aload_n hx hb dX10_grantOf_67 rfl (lv_at hl 0 rfl) ?_
    refine lv_iload_n hx hb dX10_grantOf_68 rfl (lv_at hl 1 rfl) ?_
    obtain ⟨y12, gy12, h⟩ := zb_some h
    refine z_callr (va_runV (As := [.int x1]) (rest := []) ⟨hx, hb, hml, hown, hts⟩ (c_X10_vested l D tt kw bw bj x1 y12 gy12) (cwV 1 hts gX10_grantOf_X10_vested rfl rfl rfl (by decide +kernel) ⟨Nat.le_of_ble_eq_true rfl, Nat.le_of_ble_eq_true rfl⟩) (z_preVr hK hP (ci := 10) (q0 := 0) rfl rfl) rfl rfl hl.1 rfl (lv_room (Nat.le_of_ble_eq_true rfl)) dX10_grantOf_69 ⟨Nat.zero_le _, Nat.zero_le _⟩) (fun ny12 => ?_)
    exact hfin _ _ _ h rfl dX10_grantOf_72
  replace h := z_neg k11 h
  by_cases k13 : x2 = 4
  · replace h := z_pos k13 h
    rw [k13]
    refine lv_tableIn (off := 52) (tgt := 73) hx hb dX10_grantOf_21 (by decide) (by decide) (by decide) (by decide) ?_
    refine lv_aload_n hx hb dX10_grantOf_73 rfl (lv_at hl 0 rfl) ?_
    refine lv_iload_n hx hb dX10_grantOf_74 rfl (lv_at hl 1 rfl) ?_
    refine lv_iconst (v := 5) hx hb dX10_grantOf_75 (by decide) ?_
    obtain ⟨y14, gy14, h⟩ := zb_some h
    refine z_callr (va_runV (As := [.int x1, .int 5]) (rest := []) ⟨hx, hb, hml, hown, hts⟩ (c_X10_ofGrant l D tt kw bw bj x1 5 y14 gy14) (cwV 2 hts gX10_grantOf_X10_ofGrant rfl rfl rfl (by decide +kernel) ⟨Nat.le_of_ble_eq_true rfl, Nat.le_of_ble_eq_true rfl⟩) (z_preVr hK hP (ci := 10) (q0 := 0) rfl rfl) rfl rfl hl.1 rfl (lv_room (Nat.le_of_ble_eq_true rfl)) dX10_grantOf_76 ⟨Nat.zero_le _, Nat.zero_le _⟩) (fun ny14 => ?_)
    exact hfin _ _ _ h rfl dX10_grantOf_79
  replace h := z_neg k13 h
  by_cases k15 : x2 = 5
  · replace h := z_pos k15 h
    rw [k15]
    refine lv_tableIn (off := 59) (tgt := 80) hx hb dX10_grantOf_21 (by decide) (by decide) (by decide) (by decide) ?_
    refine lv_aload_n hx hb dX10_grantOf_80 rfl (lv_at hl 0 rfl) ?_
    refine lv_iload_n hx hb dX10_grantOf_81 rfl (lv_at hl 1 rfl) ?_
    obtain ⟨y16, gy16, h⟩ := zb_some h
    refine z_callr (va_runV (As := [.int x1]) (rest := []) ⟨hx, hb, hml, hown, hts⟩ (c_X10_canBeTaken l D tt kw bw bj x1 y16 gy16) (cwV 1 hts gX10_grantOf_X10_canBeTaken rfl rfl rfl (by decide +kernel) ⟨Nat.le_of_ble_eq_true rfl, Nat.le_of_ble_eq_true rfl⟩) (z_preVr hK hP (ci := 10) (q0 := 0) rfl rfl) rfl rfl hl.1 rfl (lv_room (Nat.le_of_ble_eq_true rfl)) dX10_grantOf_82 ⟨Nat.zero_le _, Nat.zero_le _⟩) (fun ny16 => ?_)
    exact hfin _ _ _ h rfl dX10_grantOf_85
  replace h := z_neg k15 h
  have ek5 : Int32.toInt x2 ≠ 0 := fun e => k5 (Int32.toInt_inj.mp (e.trans (by decide)))
  have ek7 : Int32.toInt x2 ≠ 1 := fun e => k7 (Int32.toInt_inj.mp (e.trans (by decide)))
  have ek9 : Int32.toInt x2 ≠ 2 := fun e => k9 (Int32.toInt_inj.mp (e.trans (by decide)))
  have ek11 : Int32.toInt x2 ≠ 3 := fun e => k11 (Int32.toInt_inj.mp (e.trans (by decide)))
  have ek13 : Int32.toInt x2 ≠ 4 := fun e => k13 (Int32.toInt_inj.mp (e.trans (by decide)))
  have ek15 : Int32.toInt x2 ≠ 5 := fun e => k15 (Int32.toInt_inj.mp (e.trans (by decide)))
  refine lv_tableOut (tgt := 86) hx hb dX10_grantOf_21 (by omega) (by decide) ?_
  refine lv_aload_n hx hb dX10_grantOf_86 rfl (lv_at hl 0 rfl) ?_
  refine lv_iload_n hx hb dX10_grantOf_87 rfl (lv_at hl 1 rfl) ?_
  refine lv_bipush (v := 6) hx hb dX10_grantOf_88 (by decide) ?_
  obtain ⟨y17, gy17, h⟩ := zb_some h
  refine z_callr (va_runV (As := [.int x1, .int 6]) (rest := []) ⟨hx, hb, hml, hown, hts⟩ (c_X10_ofGrant l D tt kw bw bj x1 6 y17 gy17) (cwV 2 hts gX10_grantOf_X10_ofGrant rfl rfl rfl (by decide +kernel) ⟨Nat.le_of_ble_eq_true rfl, Nat.le_of_ble_eq_true rfl⟩) (z_preVr hK hP (ci := 10) (q0 := 0) rfl rfl) rfl rfl hl.1 rfl (lv_room (Nat.le_of_ble_eq_true rfl)) dX10_grantOf_90 ⟨Nat.zero_le _, Nat.zero_le _⟩) (fun ny17 => ?_)
  exact hfin _ _ _ h rfl dX10_grantOf_93
