/-! ===== contracts: 27.model7 ===== -/
set_option maxHeartbeats 4000000 in
set_option maxRecDepth 100000 in
theorem c_X10_fault (l : Launch) (D : va_G) (tt : Nat → ClassId) (kw : Nat → Nat) (sz : Nat) (bw : zV) (bj : zJ) (x1 : Int32) (out : Int32 × zV) (h : f_X10_fault bw bj x1 = some out) : Met l yX10_fault wsX10_fault { frames := 7, cells := 0, slots := 0, locals := 158 } (zPm [.ref (kw 0), .int x1] D tt (zw_mo tt kw bw bj) sz) (zMi .int out.1 D (zw_mo tt kw out.2 bj) (va_A (zw_mo tt kw bw bj) sz)) 0 0 (va_A (zw_mo tt kw bw bj) sz) := by
  refine Met.ofW (cc := cX10_fault) (maxL := 3) (ret := (some .int)) (by decide) rfl ?_
  intro p e s m args below meth c s₁ B hml hv
  obtain ⟨ha, hsz, hP, hK, hD0⟩ := hv
  have hx := B.exec
  have hb := B.bytes
  have hr := B.returns
  have hts := atoms_spec (ws := wsX10_fault) B.pre
  have hown : s.vm.findClass RX10 = some m.cls := findClass_of_methodNamed B.named
  have hlocks := B.notSynchronized
  have hi10 : ∀ w ∈ u_ws RX10 TX10 15, w ∈ wsX10_fault := fun _ h => List.mem_cons_of_mem _ (List.mem_append_right _ h)
  have fl237 := hts (.fieldLink RX10 237 "CapStacksModel" "cause" "I") (by decide +kernel)
  have fl240 := hts (.fieldLink RX10 240 "CapStacksModel" "reason" "I") (by decide +kernel)
  subst hsz
  have hD := hD0.self (sz := s.heap.size)
  generalize hAe : va_A (zw_mo tt kw bw bj) s.heap.size = A at hD ⊢
  have hA : ∀ q : Nat, s.heap.size ≤ q → A q := fun q h => by rw [← hAe]; exact Or.inr h
  have hS : va_S A s.heap s.heap [] := va_S.rf
  have hfin : ∀ (v : Int32) (bw : zV) (pc : Nat) (ls : Array Slot) (H : Heap) (locs : List Loc), some (v, bw) = some out → narrow .int (.int v) = .int v → va_P D vwCl (zw_mo tt kw bw bj) H → va_D A (zw_mo tt kw bw bj) → va_S A s.heap H locs → decode cX10_fault pc = .ok (.ireturn, 1) → W p l e (headSpec wsX10_fault { frames := 7, cells := 0, slots := 0, locals := 158 }).room s m args below meth c H locs 0 0 (MQ below (zMi .int out.1 D (zw_mo tt kw out.2 bj) A) args s 0 0 A) (F0 m pc ls [.int v]) := by
    intro v bw pc ls H locs he hn hP hD hS hd
    cases he
    exact W.zret hx hb hr hn (fun t ht hW => ⟨⟨_, (), rfl, ⟨rfl, hn⟩, by rw [ht]; exact hP, hD⟩, hS.F ht⟩) hS.2.2 hd
  generalize MQ below (zMi .int out.1 D (zw_mo tt kw out.2 bj) A) args s 0 0 A = Q at hfin ⊢
  have b44 : ∀ (bw : zV) (x1 : Int32) (x2 : Int32) (H : Heap) (locs : List Loc) (ls : Array Slot), va_P D vwCl (zw_mo tt kw bw bj) H → va_D A (zw_mo tt kw bw bj) → va_S A s.heap H locs → lv_has ls 3 [(0, .ref (kw 0)), (1, .int x1), (2, .int x2)] → f_X10_fault_b44 bj bw x1 x2 = some out → W p l e (headSpec wsX10_fault { frames := 7, cells := 0, slots := 0, locals := 158 }).room s m args below meth c H locs 0 0 Q (F0 m 44 ls []) := by
    intro bw x1 x2 H locs ls hP hD hS hl h
    rw [f_X10_fault_b44] at h
    refine lv_iload_n hx hb dX10_fault_44 rfl (lv_at hl 1 rfl) ?_
    refine lv_if_ne (tgt := 52) hx hb dX10_fault_45 (by decide) (fun k1 => ?_) (fun k1 => ?_)
    rotate_left
    · replace h := z_pos k1 h
      refine lv_iload_n hx hb dX10_fault_48 rfl (lv_at hl 2 rfl) ?_
      refine lv_goto (tgt := 68) hx hb dX10_fault_49 (by decide) ?_
      exact hfin _ _ _ _ _ _ h rfl hP hD hS dX10_fault_68
    replace h := z_neg k1 h
    refine lv_iload_n hx hb dX10_fault_52 rfl (lv_at hl 1 rfl) ?_
    refine lv_iconst (v := 1) hx hb dX10_fault_53 (by decide) ?_
    refine lv_icmp_ne (tgt := 64) hx hb dX10_fault_54 (by decide) (fun k2 => ?_) (fun k2 => ?_)
    · replace h := z_neg k2 h
      refine lv_aload_n hx hb dX10_fault_64 rfl (lv_at hl 0 rfl) ?_
      refine va_get (D := D) (ci := 10) (v := .int (bw 0 5)) (C := RX10) (T := TX10) (N := 15) hx hb hts hi10 hown hK.1 hP 0 rfl rfl 13 (by decide) fl237 (fun _ h9 => h9) rfl dX10_fault_65 ?_
      exact hfin _ _ _ _ _ _ h rfl hP hD hS dX10_fault_68
    replace h := z_pos k2 h
    refine lv_aload_n hx hb dX10_fault_57 rfl (lv_at hl 0 rfl) ?_
    refine va_get (D := D) (ci := 10) (v := .int (bw 0 4)) (C := RX10) (T := TX10) (N := 15) hx hb hts hi10 hown hK.1 hP 0 rfl rfl 12 (by decide) fl240 (fun _ h9 => h9) rfl dX10_fault_58 ?_
    refine lv_goto (tgt := 68) hx hb dX10_fault_61 (by decide) ?_
    exact hfin _ _ _ _ _ _ h rfl hP hD hS dX10_fault_68
  have hl := lv_entry ([.ref (kw 0), .int x1]) (n := 3) (Nat.le_of_ble_eq_true rfl)
  refine W.eq (g2 := F0 m 0 ((lg_sl ([.ref (kw 0), .int x1]) ++ List.replicate (3 - (lg_sl ([.ref (kw 0), .int x1])).length) Slot.unset).toArray) []) (by rw [ha]; exact lg_entry_eq _ _ _) ?_
  generalize (lg_sl ([.ref (kw 0), .int x1]) ++ List.replicate (3 - (lg_sl ([.ref (kw 0), .int x1])).length) Slot.unset).toArray = ls at hl ⊢
  have hl : lv_has ls 3 [(0, .ref (kw 0)), (1, .int x1)] := hl
  rw [f_X10_fault] at h
  refine lv_iload_n hx hb dX10_fault_0 rfl (lv_at hl 1 rfl) ?_
  refine lv_iconst (v := 0) hx hb dX10_fault_1 (by decide) ?_
  refine lv_iconst (v := 2) hx hb dX10_fault_2 (by decide) ?_
  obtain ⟨y3, gy3, h⟩ := zb_some h
  refine z_callr (va_runS (As := [.int x1, .int 0, .int 2]) (rest := []) ⟨hx, hb, hml, hown, hts⟩ (c_X10_in l D tt x1 0 2 y3 gy3) (va_cwS 3 hts gX10_fault_X10_in rfl rfl rfl (by decide +kernel) ⟨Nat.le_of_ble_eq_true rfl, Nat.le_of_ble_eq_true rfl⟩) (z_preSr hK (hP.sub (ws' := ([] : va_W)) [] rfl)) rfl rfl hl.1 rfl (lv_room (Nat.le_of_ble_eq_true rfl)) dX10_fault_3 ⟨Nat.zero_le _, Nat.zero_le _⟩) (fun ny3 => ?_)
  refine lv_if_ne (tgt := 11) hx hb dX10_fault_6 (by decide) (fun k4 => ?_) (fun k4 => ?_)
  rotate_left
  · replace h := z_pos k4 h
    refine lv_iconst (v := (-1)) hx hb dX10_fault_9 (by decide) ?_
    exact hfin _ _ _ _ _ _ h rfl hP hD hS dX10_fault_10
  replace h := z_neg k4 h
  refine lv_aload_n hx hb dX10_fault_11 rfl (lv_at hl 0 rfl) ?_
  obtain ⟨y5, gy5, h⟩ := zb_some h
  have hFc := z_free0 hD hS hA
  refine z_callmv (wc := (zw_mo tt kw bw bj)) (w1 := (zw_mo tt kw y5 bj)) (va_runV (As := []) (rest := []) ⟨hx, hb, hml, hown, hts⟩ (c_X10_begins l D tt kw _ bw bj y5 gy5) (cwV 0 hts gX10_fault_X10_begins rfl rfl rfl (by decide +kernel) ⟨Nat.le_of_ble_eq_true rfl, Nat.le_of_ble_eq_true rfl⟩) (z_preVm hK hP hD (ci := 10) (q0 := 0) rfl rfl) rfl rfl hl.1 rfl (lv_room (Nat.le_of_ble_eq_true rfl)) dX10_fault_12 ⟨Nat.zero_le _, Nat.zero_le _⟩) hS hFc (fun H locs hP1 hD1 hk1 hS => ?_)
  have hP := hP1
  have hD := hD1.weaken (fun _ q _ h => hFc q.1 h)
  refine lv_aload_n hx hb dX10_fault_15 rfl (lv_at hl 0 rfl) ?_
  obtain ⟨y6, gy6, h⟩ := zb_some h
  have hFc := z_free0 hD hS hA
  refine z_callmi (wc := (zw_mo tt kw y5 bj)) (w1 := (zw_mo tt kw y6.2 bj)) (va_runV (As := []) (rest := []) ⟨hx, hb, hml, hown, hts⟩ (c_X10_does l D tt kw _ y5 bj y6 gy6) (cwV 0 hts gX10_fault_X10_does rfl rfl rfl (by decide +kernel) ⟨Nat.le_of_ble_eq_true rfl, Nat.le_of_ble_eq_true rfl⟩) (z_preVm hK hP hD (ci := 10) (q0 := 0) rfl rfl) rfl rfl hl.1 rfl (lv_room (Nat.le_of_ble_eq_true rfl)) dX10_fault_16 ⟨Nat.zero_le _, Nat.zero_le _⟩) hS hFc (fun H locs ny6 hP1 hD1 hk1 hS => ?_)
  have hP := hP1
  have hD := hD1.weaken (fun _ q _ h => hFc q.1 h)
  refine lv_istore_n (lv' := [(2, .int y6.1), (0, .ref (kw 0)), (1, .int x1)]) hx hb dX10_fault_19 rfl hl (by decide) rfl (fun ls hl => ?_)
  refine lv_aload_n hx hb dX10_fault_20 rfl (lv_at hl 1 rfl) ?_
  obtain ⟨y7, gy7, h⟩ := zb_some h
  have hFc := z_free0 hD hS hA
  refine z_callmv (wc := (zw_mo tt kw y6.2 bj)) (w1 := (zw_mo tt kw y7 bj)) (va_runV (As := []) (rest := []) ⟨hx, hb, hml, hown, hts⟩ (c_X10_returns l D tt kw _ y6.2 bj y7 gy7) (cwV 0 hts gX10_fault_X10_returns rfl rfl rfl (by decide +kernel) ⟨Nat.le_of_ble_eq_true rfl, Nat.le_of_ble_eq_true rfl⟩) (z_preVm hK hP hD (ci := 10) (q0 := 0) rfl rfl) rfl rfl hl.1 rfl (lv_room (Nat.le_of_ble_eq_true rfl)) dX10_fault_21 ⟨Nat.zero_le _, Nat.zero_le _⟩) hS hFc (fun H locs hP1 hD1 hk1 hS => ?_)
  have hP := hP1
  have hD := hD1.weaken (fun _ q _ h => hFc q.1 h)
  refine lv_iload_n hx hb dX10_fault_24 rfl (lv_at hl 0 rfl) ?_
  refine lv_if_lt (tgt := 41) hx hb dX10_fault_25 (by decide) (fun k8 => ?_) (fun k8 => ?_)
  · replace h := z_pos k8 h
    refine lv_bipush (v := (-4)) hx hb dX10_fault_41 (by decide) ?_
    exact hfin _ _ _ _ _ _ h rfl hP hD hS dX10_fault_43
  replace h := z_neg k8 h
  refine lv_iload_n hx hb dX10_fault_28 rfl (lv_at hl 2 rfl) ?_
  refine lv_iconst (v := 2) hx hb dX10_fault_29 (by decide) ?_
  refine lv_icmp_ne (tgt := 44) hx hb dX10_fault_30 (by decide) (fun k9 => ?_) (fun k9 => ?_)
  · replace h := z_neg k9 h
    exact b44 y7 x1 y6.1 _ _ _ hP hD hS (lv_sub hl [1, 2, 0] rfl) h
  replace h := z_pos k9 h
  refine lv_aload_n hx hb dX10_fault_33 rfl (lv_at hl 1 rfl) ?_
  refine va_get (D := D) (ci := 10) (v := .int (y7 0 4)) (C := RX10) (T := TX10) (N := 15) hx hb hts hi10 hown hK.1 hP 0 rfl rfl 12 (by decide) fl240 (fun _ h9 => h9) rfl dX10_fault_34 ?_
  refine lv_iconst (v := 1) hx hb dX10_fault_37 (by decide) ?_
  refine lv_icmp_ne (tgt := 44) hx hb dX10_fault_38 (by decide) (fun k10 => ?_) (fun k10 => ?_)
  · replace h := z_neg k10 h
    exact b44 y7 x1 y6.1 _ _ _ hP hD hS (lv_sub hl [1, 2, 0] rfl) h
  replace h := z_pos k10 h
  refine lv_bipush (v := (-4)) hx hb dX10_fault_41 (by decide) ?_
  exact hfin _ _ _ _ _ _ h rfl hP hD hS dX10_fault_43
set_option maxHeartbeats 4000000 in
set_option maxRecDepth 100000 in
theorem c_X10_play (l : Launch) (D : va_G) (tt : Nat → ClassId) (kw : Nat → Nat) (sz : Nat) (bw : zV) (bj : zJ)  (out : Int32 × zV) (h : f_X10_play bw bj = some out) : Met l yX10_play wsX10_play { frames := 7, cells := 0, slots := 0, locals := 158 } (zPm [.ref (kw 0)] D tt (zw_mo tt kw bw bj) sz) (zMi .int out.1 D (zw_mo tt kw out.2 bj) (va_A (zw_mo tt kw bw bj) sz)) 0 0 (va_A (zw_mo tt kw bw bj) sz) := by
  refine Met.ofW (cc := cX10_play) (maxL := 2) (ret := (some .int)) (by decide) rfl ?_
  intro p e s m args below meth c s₁ B hml hv
  obtain ⟨ha, hsz, hP, hK, hD0⟩ := hv
  have hx := B.exec
  have hb := B.bytes
  have hr := B.returns
  have hts := atoms_spec (ws := wsX10_play) B.pre
  have hown : s.vm.findClass RX10 = some m.cls := findClass_of_methodNamed B.named
  have hlocks := B.notSynchronized
  subst hsz
  have hD := hD0.self (sz := s.heap.size)
  generalize hAe : va_A (zw_mo tt kw bw bj) s.heap.size = A at hD ⊢
  have hA : ∀ q : Nat, s.heap.size ≤ q → A q := fun q h => by rw [← hAe]; exact Or.inr h
  have hS : va_S A s.heap s.heap [] := va_S.rf
  have hfin : ∀ (v : Int32) (bw : zV) (pc : Nat) (ls : Array Slot) (H : Heap) (locs : List Loc), some (v, bw) = some out → narrow .int (.int v) = .int v → va_P D vwCl (zw_mo tt kw bw bj) H → va_D A (zw_mo tt kw bw bj) → va_S A s.heap H locs → decode cX10_play pc = .ok (.ireturn, 1) → W p l e (headSpec wsX10_play { frames := 7, cells := 0, slots := 0, locals := 158 }).room s m args below meth c H locs 0 0 (MQ below (zMi .int out.1 D (zw_mo tt kw out.2 bj) A) args s 0 0 A) (F0 m pc ls [.int v]) := by
    intro v bw pc ls H locs he hn hP hD hS hd
    cases he
    exact W.zret hx hb hr hn (fun t ht hW => ⟨⟨_, (), rfl, ⟨rfl, hn⟩, by rw [ht]; exact hP, hD⟩, hS.F ht⟩) hS.2.2 hd
  generalize MQ below (zMi .int out.1 D (zw_mo tt kw out.2 bj) A) args s 0 0 A = Q at hfin ⊢
  have hl := lv_entry ([.ref (kw 0)]) (n := 2) (Nat.le_of_ble_eq_true rfl)
  refine W.eq (g2 := F0 m 0 ((lg_sl ([.ref (kw 0)]) ++ List.replicate (2 - (lg_sl ([.ref (kw 0)])).length) Slot.unset).toArray) []) (by rw [ha]; exact lg_entry_eq _ _ _) ?_
  generalize (lg_sl ([.ref (kw 0)]) ++ List.replicate (2 - (lg_sl ([.ref (kw 0)])).length) Slot.unset).toArray = ls at hl ⊢
  have hl : lv_has ls 2 [(0, .ref (kw 0))] := hl
  rw [f_X10_play] at h
  refine lv_aload_n hx hb dX10_play_0 rfl (lv_at hl 0 rfl) ?_
  obtain ⟨y1, gy1, h⟩ := zb_some h
  have hFc := z_free0 hD hS hA
  refine z_callmv (wc := (zw_mo tt kw bw bj)) (w1 := (zw_mo tt kw y1 bj)) (va_runV (As := []) (rest := []) ⟨hx, hb, hml, hown, hts⟩ (c_X10_begins l D tt kw _ bw bj y1 gy1) (cwV 0 hts gX10_play_X10_begins rfl rfl rfl (by decide +kernel) ⟨Nat.le_of_ble_eq_true rfl, Nat.le_of_ble_eq_true rfl⟩) (z_preVm hK hP hD (ci := 10) (q0 := 0) rfl rfl) rfl rfl hl.1 rfl (lv_room (Nat.le_of_ble_eq_true rfl)) dX10_play_1 ⟨Nat.zero_le _, Nat.zero_le _⟩) hS hFc (fun H locs hP1 hD1 hk1 hS => ?_)
  have hP := hP1
  have hD := hD1.weaken (fun _ q _ h => hFc q.1 h)
  refine lv_aload_n hx hb dX10_play_4 rfl (lv_at hl 0 rfl) ?_
  obtain ⟨y2, gy2, h⟩ := zb_some h
  have hFc := z_free0 hD hS hA
  refine z_callmi (wc := (zw_mo tt kw y1 bj)) (w1 := (zw_mo tt kw y2.2 bj)) (va_runV (As := []) (rest := []) ⟨hx, hb, hml, hown, hts⟩ (c_X10_does l D tt kw _ y1 bj y2 gy2) (cwV 0 hts gX10_play_X10_does rfl rfl rfl (by decide +kernel) ⟨Nat.le_of_ble_eq_true rfl, Nat.le_of_ble_eq_true rfl⟩) (z_preVm hK hP hD (ci := 10) (q0 := 0) rfl rfl) rfl rfl hl.1 rfl (lv_room (Nat.le_of_ble_eq_true rfl)) dX10_play_5 ⟨Nat.zero_le _, Nat.zero_le _⟩) hS hFc (fun H locs ny2 hP1 hD1 hk1 hS => ?_)
  have hP := hP1
  have hD := hD1.weaken (fun _ q _ h => hFc q.1 h)
  refine lv_istore_n (lv' := [(1, .int y2.1), (0, .ref (kw 0))]) hx hb dX10_play_8 rfl hl (by decide) rfl (fun ls hl => ?_)
  refine lv_iload_n hx hb dX10_play_9 rfl (lv_at hl 0 rfl) ?_
  refine lv_if_lt (tgt := 20) hx hb dX10_play_10 (by decide) (fun k3 => ?_) (fun k3 => ?_)
  rotate_left
  · replace h := z_neg k3 h
    refine lv_aload_n hx hb dX10_play_13 rfl (lv_at hl 1 rfl) ?_
    obtain ⟨y5, gy5, h⟩ := zb_some h
    have hFc := z_free0 hD hS hA
    refine z_callmv (wc := (zw_mo tt kw y2.2 bj)) (w1 := (zw_mo tt kw y5 bj)) (va_runV (As := []) (rest := []) ⟨hx, hb, hml, hown, hts⟩ (c_X10_returns l D tt kw _ y2.2 bj y5 gy5) (cwV 0 hts gX10_play_X10_returns rfl rfl rfl (by decide +kernel) ⟨Nat.le_of_ble_eq_true rfl, Nat.le_of_ble_eq_true rfl⟩) (z_preVm hK hP hD (ci := 10) (q0 := 0) rfl rfl) rfl rfl hl.1 rfl (lv_room (Nat.le_of_ble_eq_true rfl)) dX10_play_14 ⟨Nat.zero_le _, Nat.zero_le _⟩) hS hFc (fun H locs hP1 hD1 hk1 hS => ?_)
    have hP := hP1
    have hD := hD1.weaken (fun _ q _ h => hFc q.1 h)
    refine lv_bipush (v := (-2)) hx hb dX10_play_17 (by decide) ?_
    exact hfin _ _ _ _ _ _ h rfl hP hD hS dX10_play_19
  replace h := z_pos k3 h
  refine lv_aload_n hx hb dX10_play_20 rfl (lv_at hl 1 rfl) ?_
  refine lv_iconst (v := (-1)) hx hb dX10_play_21 (by decide) ?_
  refine lv_iload_n hx hb dX10_play_22 rfl (lv_at hl 0 rfl) ?_
  refine lv_isub hx hb dX10_play_23 ?_
  obtain ⟨y4, gy4, h⟩ := zb_some h
  have hFc := z_free0 hD hS hA
  refine z_callmi (wc := (zw_mo tt kw y2.2 bj)) (w1 := (zw_mo tt kw y4.2 bj)) (va_runV (As := [.int ((-1) - y2.1)]) (rest := []) ⟨hx, hb, hml, hown, hts⟩ (c_X10_acted l D tt kw _ y2.2 bj ((-1) - y2.1) y4 gy4) (cwV 1 hts gX10_play_X10_acted rfl rfl rfl (by decide +kernel) ⟨Nat.le_of_ble_eq_true rfl, Nat.le_of_ble_eq_true rfl⟩) (z_preVm hK hP hD (ci := 10) (q0 := 0) rfl rfl) rfl rfl hl.1 rfl (lv_room (Nat.le_of_ble_eq_true rfl)) dX10_play_24 ⟨Nat.zero_le _, Nat.zero_le _⟩) hS hFc (fun H locs ny4 hP1 hD1 hk1 hS => ?_)
  have hP := hP1
  have hD := hD1.weaken (fun _ q _ h => hFc q.1 h)
  exact hfin _ _ _ _ _ _ h rfl hP hD hS dX10_play_27
