/-! ===== contracts: 26.model6 ===== -/
set_option maxHeartbeats 4000000 in
set_option maxRecDepth 100000 in
theorem c_X10_type (l : Launch) (D : va_G) (tt : Nat → ClassId) (kw : Nat → Nat) (sz : Nat) (bw : zV) (bj : zJ) (x1 : Int32) (out : Int32 × zV) (h : f_X10_type bw bj x1 = some out) : Met l yX10_type wsX10_type { frames := 1, cells := 0, slots := 0, locals := 22 } (zPm [.ref (kw 0), .int x1] D tt (zw_mo tt kw bw bj) sz) (zMi .int out.1 D (zw_mo tt kw out.2 bj) (va_A (zw_mo tt kw bw bj) sz)) 0 0 (va_A (zw_mo tt kw bw bj) sz) := by
  refine Met.ofW (cc := cX10_type) (maxL := 2) (ret := (some .int)) (by decide) rfl ?_
  intro p e s m args below meth c s₁ B hml hv
  obtain ⟨ha, hsz, hP, hK, hD0⟩ := hv
  have hx := B.exec
  have hb := B.bytes
  have hr := B.returns
  have hts := atoms_spec (ws := wsX10_type) B.pre
  have hown : s.vm.findClass RX10 = some m.cls := findClass_of_methodNamed B.named
  have hlocks := B.notSynchronized
  have hi10 : ∀ w ∈ u_ws RX10 TX10 15, w ∈ wsX10_type := fun _ h => List.mem_cons_of_mem _ (List.mem_append_right _ h)
  have fl155 := hts (.fieldLink RX10 155 "CapStacksModel" "length" "I") (by decide +kernel)
  have fl19 := hts (.fieldLink RX10 19 "CapStacksModel" "text" "[I") (by decide +kernel)
  subst hsz
  have hD := hD0.self (sz := s.heap.size)
  generalize hAe : va_A (zw_mo tt kw bw bj) s.heap.size = A at hD ⊢
  have hA : ∀ q : Nat, s.heap.size ≤ q → A q := fun q h => by rw [← hAe]; exact Or.inr h
  have hS : va_S A s.heap s.heap [] := va_S.rf
  have hfin : ∀ (v : Int32) (bw : zV) (pc : Nat) (ls : Array Slot) (H : Heap) (locs : List Loc), some (v, bw) = some out → narrow .int (.int v) = .int v → va_P D vwCl (zw_mo tt kw bw bj) H → va_D A (zw_mo tt kw bw bj) → va_S A s.heap H locs → decode cX10_type pc = .ok (.ireturn, 1) → W p l e (headSpec wsX10_type { frames := 1, cells := 0, slots := 0, locals := 22 }).room s m args below meth c H locs 0 0 (MQ below (zMi .int out.1 D (zw_mo tt kw out.2 bj) A) args s 0 0 A) (F0 m pc ls [.int v]) := by
    intro v bw pc ls H locs he hn hP hD hS hd
    cases he
    exact W.zret hx hb hr hn (fun t ht hW => ⟨⟨_, (), rfl, ⟨rfl, hn⟩, by rw [ht]; exact hP, hD⟩, hS.F ht⟩) hS.2.2 hd
  generalize MQ below (zMi .int out.1 D (zw_mo tt kw out.2 bj) A) args s 0 0 A = Q at hfin ⊢
  have hl := lv_entry ([.ref (kw 0), .int x1]) (n := 2) (Nat.le_of_ble_eq_true rfl)
  refine W.eq (g2 := F0 m 0 ((lg_sl ([.ref (kw 0), .int x1]) ++ List.replicate (2 - (lg_sl ([.ref (kw 0), .int x1])).length) Slot.unset).toArray) []) (by rw [ha]; exact lg_entry_eq _ _ _) ?_
  generalize (lg_sl ([.ref (kw 0), .int x1]) ++ List.replicate (2 - (lg_sl ([.ref (kw 0), .int x1])).length) Slot.unset).toArray = ls at hl ⊢
  have hl : lv_has ls 2 [(0, .ref (kw 0)), (1, .int x1)] := hl
  rw [f_X10_type] at h
  refine lv_iload_n hx hb dX10_type_0 rfl (lv_at hl 1 rfl) ?_
  refine lv_bipush (v := 32) hx hb dX10_type_1 (by decide) ?_
  refine lv_bipush (v := 126) hx hb dX10_type_3 (by decide) ?_
  obtain ⟨y1, gy1, h⟩ := zb_some h
  refine z_callr (va_runS (As := [.int x1, .int 32, .int 126]) (rest := []) ⟨hx, hb, hml, hown, hts⟩ (c_X10_in l D tt x1 32 126 y1 gy1) (va_cwS 3 hts gX10_type_X10_in rfl rfl rfl (by decide +kernel) ⟨Nat.le_of_ble_eq_true rfl, Nat.le_of_ble_eq_true rfl⟩) (z_preSr hK (hP.sub (ws' := ([] : va_W)) [] rfl)) rfl rfl hl.1 rfl (lv_room (Nat.le_of_ble_eq_true rfl)) dX10_type_5 ⟨Nat.zero_le _, Nat.zero_le _⟩) (fun ny1 => ?_)
  refine lv_if_ne (tgt := 13) hx hb dX10_type_8 (by decide) (fun k2 => ?_) (fun k2 => ?_)
  rotate_left
  · replace h := z_pos k2 h
    refine lv_iconst (v := (-1)) hx hb dX10_type_11 (by decide) ?_
    exact hfin _ _ _ _ _ _ h rfl hP hD hS dX10_type_12
  replace h := z_neg k2 h
  refine lv_aload_n hx hb dX10_type_13 rfl (lv_at hl 0 rfl) ?_
  refine va_get (D := D) (ci := 10) (v := .int (bw 0 1)) (C := RX10) (T := TX10) (N := 15) hx hb hts hi10 hown hK.1 hP 0 rfl rfl 5 (by decide) fl155 (fun _ h9 => h9) rfl dX10_type_14 ?_
  refine lv_bipush (v := 80) hx hb dX10_type_17 (by decide) ?_
  refine lv_icmp_ne (tgt := 25) hx hb dX10_type_19 (by decide) (fun k3 => ?_) (fun k3 => ?_)
  rotate_left
  · replace h := z_pos k3 h
    refine lv_bipush (v := (-3)) hx hb dX10_type_22 (by decide) ?_
    exact hfin _ _ _ _ _ _ h rfl hP hD hS dX10_type_24
  replace h := z_neg k3 h
  refine lv_aload_n hx hb dX10_type_25 rfl (lv_at hl 0 rfl) ?_
  refine va_get (D := D) (ci := 10) (v := .ref (kw 4)) (C := RX10) (T := TX10) (N := 15) hx hb hts hi10 hown hK.1 hP 0 rfl rfl 4 (by decide) fl19 (fun _ h9 => h9) rfl dX10_type_26 ?_
  refine lv_aload_n hx hb dX10_type_29 rfl (lv_at hl 0 rfl) ?_
  refine va_get (D := D) (ci := 10) (v := .int (bw 0 1)) (C := RX10) (T := TX10) (N := 15) hx hb hts hi10 hown hK.1 hP 0 rfl rfl 5 (by decide) fl155 (fun _ h9 => h9) rfl dX10_type_30 ?_
  refine lv_iload_n hx hb dX10_type_33 rfl (lv_at hl 1 rfl) ?_
  obtain ⟨q4, h⟩ := zA_some h
  refine va_iast hx hb hK.1 hP hD hS 4 0 rfl rfl q4 dX10_type_34 (fun H locs hP hD hS => ?_)
  obtain ⟨a5, ea5, h⟩ := zl_some h
  have hP : va_P D vwCl (zw_mo tt kw (zu bw 4 a5) bj) H := by rw [ea5]; exact hP
  have hD : va_D A (zw_mo tt kw (zu bw 4 a5) bj) := by rw [ea5]; exact hD
  clear ea5
  refine lv_aload_n hx hb dX10_type_35 rfl (lv_at hl 0 rfl) ?_
  refine lv_dup hx hb dX10_type_36 rfl ?_
  refine va_get (D := D) (ci := 10) (v := .int (bw 0 1)) (C := RX10) (T := TX10) (N := 15) hx hb hts hi10 hown hK.1 hP 0 rfl rfl 5 (by decide) fl155 (fun _ h9 => h9) rfl dX10_type_37 ?_
  refine lv_iconst (v := 1) hx hb dX10_type_40 (by decide) ?_
  refine lv_iadd hx hb dX10_type_41 ?_
  refine va_put (D := D) (ci := 10) (v := .int ((bw 0 1) + 1)) (ty := .int) (C := RX10) (T := TX10) (N := 15) hx hb hts hi10 tyX10 tyX10_ok nmX10 hown hK.1 hP hD hS 0 rfl rfl 5 (by decide) fl155 (fun _ h9 => h9) rfl (by decide +kernel) rfl rfl (Nat.le_of_ble_eq_true rfl) dX10_type_42 (fun H locs hP hD hS => ?_)
  have hP : va_P D vwCl (zw_mo tt kw (zu (zu bw 0 (zu (bw 0) 1 ((bw 0 1) + 1))) 4 a5) bj) H := hP
  have hD : va_D A (zw_mo tt kw (zu (zu bw 0 (zu (bw 0) 1 ((bw 0 1) + 1))) 4 a5) bj) := hD
  refine lv_aload_n hx hb dX10_type_45 rfl (lv_at hl 0 rfl) ?_
  refine va_get (D := D) (ci := 10) (v := .int ((bw 0 1) + 1)) (C := RX10) (T := TX10) (N := 15) hx hb hts hi10 hown hK.1 hP 0 rfl rfl 5 (by decide) fl155 (fun _ h9 => h9) rfl dX10_type_46 ?_
  exact hfin _ _ _ _ _ _ h rfl hP hD hS dX10_type_49
set_option maxHeartbeats 4000000 in
set_option maxRecDepth 100000 in
theorem c_X10_clearText (l : Launch) (D : va_G) (tt : Nat → ClassId) (kw : Nat → Nat) (sz : Nat) (bw : zV) (bj : zJ)  (out : Int32 × zV) (h : f_X10_clearText bw bj = some out) : Met l yX10_clearText wsX10_clearText { frames := 0, cells := 0, slots := 0, locals := 0 } (zPm [.ref (kw 0)] D tt (zw_mo tt kw bw bj) sz) (zMi .int out.1 D (zw_mo tt kw out.2 bj) (va_A (zw_mo tt kw bw bj) sz)) 0 0 (va_A (zw_mo tt kw bw bj) sz) := by
  refine Met.ofW (cc := cX10_clearText) (maxL := 2) (ret := (some .int)) (by decide) rfl ?_
  intro p e s m args below meth c s₁ B hml hv
  obtain ⟨ha, hsz, hP, hK, hD0⟩ := hv
  have hx := B.exec
  have hb := B.bytes
  have hr := B.returns
  have hts := atoms_spec (ws := wsX10_clearText) B.pre
  have hown : s.vm.findClass RX10 = some m.cls := findClass_of_methodNamed B.named
  have hlocks := B.notSynchronized
  have hi10 : ∀ w ∈ u_ws RX10 TX10 15, w ∈ wsX10_clearText := fun _ h => List.mem_cons_of_mem _ (List.mem_append_right _ h)
  have fl155 := hts (.fieldLink RX10 155 "CapStacksModel" "length" "I") (by decide +kernel)
  subst hsz
  have hD := hD0.self (sz := s.heap.size)
  generalize hAe : va_A (zw_mo tt kw bw bj) s.heap.size = A at hD ⊢
  have hA : ∀ q : Nat, s.heap.size ≤ q → A q := fun q h => by rw [← hAe]; exact Or.inr h
  have hS : va_S A s.heap s.heap [] := va_S.rf
  have hfin : ∀ (v : Int32) (bw : zV) (pc : Nat) (ls : Array Slot) (H : Heap) (locs : List Loc), some (v, bw) = some out → narrow .int (.int v) = .int v → va_P D vwCl (zw_mo tt kw bw bj) H → va_D A (zw_mo tt kw bw bj) → va_S A s.heap H locs → decode cX10_clearText pc = .ok (.ireturn, 1) → W p l e (headSpec wsX10_clearText { frames := 0, cells := 0, slots := 0, locals := 0 }).room s m args below meth c H locs 0 0 (MQ below (zMi .int out.1 D (zw_mo tt kw out.2 bj) A) args s 0 0 A) (F0 m pc ls [.int v]) := by
    intro v bw pc ls H locs he hn hP hD hS hd
    cases he
    exact W.zret hx hb hr hn (fun t ht hW => ⟨⟨_, (), rfl, ⟨rfl, hn⟩, by rw [ht]; exact hP, hD⟩, hS.F ht⟩) hS.2.2 hd
  generalize MQ below (zMi .int out.1 D (zw_mo tt kw out.2 bj) A) args s 0 0 A = Q at hfin ⊢
  have hl := lv_entry ([.ref (kw 0)]) (n := 2) (Nat.le_of_ble_eq_true rfl)
  refine W.eq (g2 := F0 m 0 ((lg_sl ([.ref (kw 0)]) ++ List.replicate (2 - (lg_sl ([.ref (kw 0)])).length) Slot.unset).toArray) []) (by rw [ha]; exact lg_entry_eq _ _ _) ?_
  generalize (lg_sl ([.ref (kw 0)]) ++ List.replicate (2 - (lg_sl ([.ref (kw 0)])).length) Slot.unset).toArray = ls at hl ⊢
  have hl : lv_has ls 2 [(0, .ref (kw 0))] := hl
  rw [f_X10_clearText] at h
  refine lv_aload_n hx hb dX10_clearText_0 rfl (lv_at hl 0 rfl) ?_
  refine va_get (D := D) (ci := 10) (v := .int (bw 0 1)) (C := RX10) (T := TX10) (N := 15) hx hb hts hi10 hown hK.1 hP 0 rfl rfl 5 (by decide) fl155 (fun _ h9 => h9) rfl dX10_clearText_1 ?_
  refine lv_istore_n (lv' := [(1, .int (bw 0 1)), (0, .ref (kw 0))]) hx hb dX10_clearText_4 rfl hl (by decide) rfl (fun ls hl => ?_)
  refine lv_aload_n hx hb dX10_clearText_5 rfl (lv_at hl 1 rfl) ?_
  refine lv_iconst (v := 0) hx hb dX10_clearText_6 (by decide) ?_
  refine va_put (D := D) (ci := 10) (v := .int 0) (ty := .int) (C := RX10) (T := TX10) (N := 15) hx hb hts hi10 tyX10 tyX10_ok nmX10 hown hK.1 hP hD hS 0 rfl rfl 5 (by decide) fl155 (fun _ h9 => h9) rfl (by decide +kernel) rfl rfl (Nat.le_of_ble_eq_true rfl) dX10_clearText_7 (fun H locs hP hD hS => ?_)
  have hP : va_P D vwCl (zw_mo tt kw (zu bw 0 (zu (bw 0) 1 0)) bj) H := hP
  have hD : va_D A (zw_mo tt kw (zu bw 0 (zu (bw 0) 1 0)) bj) := hD
  refine lv_iload_n hx hb dX10_clearText_10 rfl (lv_at hl 0 rfl) ?_
  exact hfin _ _ _ _ _ _ h rfl hP hD hS dX10_clearText_11
set_option maxHeartbeats 4000000 in
set_option maxRecDepth 100000 in
theorem c_X10_here (l : Launch) (D : va_G) (tt : Nat → ClassId) (kw : Nat → Nat) (bw : zV) (bj : zJ)  (out : Int32) (h : f_X10_here bw bj = some out) : Met l yX10_here wsX10_here { frames := 0, cells := 0, slots := 0, locals := 0 } (zPr [.ref (kw 0)] D tt (zw_mo tt kw bw bj)) (zQr .int out) 0 0 (fun _ => False) := by
  refine Met.ofW (cc := cX10_here) (maxL := 1) (ret := (some .int)) (by decide) rfl ?_
  intro p e s m args below meth c s₁ B hml hv
  obtain ⟨ha, hP, hK⟩ := hv
  have hx := B.exec
  have hb := B.bytes
  have hr := B.returns
  have hts := atoms_spec (ws := wsX10_here) B.pre
  have hown : s.vm.findClass RX10 = some m.cls := findClass_of_methodNamed B.named
  have hlocks := B.notSynchronized
  have hi10 : ∀ w ∈ u_ws RX10 TX10 15, w ∈ wsX10_here := fun _ h => List.mem_cons_of_mem _ (List.mem_append_right _ h)
  have fl155 := hts (.fieldLink RX10 155 "CapStacksModel" "length" "I") (by decide +kernel)
  have fl19 := hts (.fieldLink RX10 19 "CapStacksModel" "text" "[I") (by decide +kernel)
  have fl193 := hts (.fieldLink RX10 193 "CapStacksModel" "at" "I") (by decide +kernel)
  have hfin : ∀ (v : Int32) (pc : Nat) (ls : Array Slot), some v = some out → narrow .int (.int v) = .int v → decode cX10_here pc = .ok (.ireturn, 1) → W p l e (headSpec wsX10_here { frames := 0, cells := 0, slots := 0, locals := 0 }).room s m args below meth c s.heap [] 0 0 (MQ below (zQr .int out) args s 0 0 (fun _ => False)) (F0 m pc ls [.int v]) := by
    intro v pc ls he hn hd
    cases he
    exact W.zret hx hb hr hn (fun t ht hW => ⟨rfl, hn, ht⟩) (fun _ h => by cases h) hd
  generalize MQ below (zQr .int out) args s 0 0 (fun _ => False) = Q at hfin ⊢
  have hl := lv_entry ([.ref (kw 0)]) (n := 1) (Nat.le_of_ble_eq_true rfl)
  refine W.eq (g2 := F0 m 0 ((lg_sl ([.ref (kw 0)]) ++ List.replicate (1 - (lg_sl ([.ref (kw 0)])).length) Slot.unset).toArray) []) (by rw [ha]; exact lg_entry_eq _ _ _) ?_
  generalize (lg_sl ([.ref (kw 0)]) ++ List.replicate (1 - (lg_sl ([.ref (kw 0)])).length) Slot.unset).toArray = ls at hl ⊢
  have hl : lv_has ls 1 [(0, .ref (kw 0))] := hl
  rw [f_X10_here] at h
  refine lv_aload_n hx hb dX10_here_0 rfl (lv_at hl 0 rfl) ?_
  refine va_get (D := D) (ci := 10) (v := .int (bw 0 2)) (C := RX10) (T := TX10) (N := 15) hx hb hts hi10 hown hK.1 hP 0 rfl rfl 10 (by decide) fl193 (fun _ h9 => h9) rfl dX10_here_1 ?_
  refine lv_aload_n hx hb dX10_here_4 rfl (lv_at hl 0 rfl) ?_
  refine va_get (D := D) (ci := 10) (v := .int (bw 0 1)) (C := RX10) (T := TX10) (N := 15) hx hb hts hi10 hown hK.1 hP 0 rfl rfl 5 (by decide) fl155 (fun _ h9 => h9) rfl dX10_here_5 ?_
  refine lv_icmp_ge (tgt := 23) hx hb dX10_here_8 (by decide) (fun k1 => ?_) (fun k1 => ?_)
  · replace h := z_pos k1 h
    refine lv_iconst (v := (-1)) hx hb dX10_here_23 (by decide) ?_
    exact hfin _ _ _ h rfl dX10_here_24
  replace h := z_neg k1 h
  refine lv_aload_n hx hb dX10_here_11 rfl (lv_at hl 0 rfl) ?_
  refine va_get (D := D) (ci := 10) (v := .ref (kw 4)) (C := RX10) (T := TX10) (N := 15) hx hb hts hi10 hown hK.1 hP 0 rfl rfl 4 (by decide) fl19 (fun _ h9 => h9) rfl dX10_here_12 ?_
  refine lv_aload_n hx hb dX10_here_15 rfl (lv_at hl 0 rfl) ?_
  refine va_get (D := D) (ci := 10) (v := .int (bw 0 2)) (C := RX10) (T := TX10) (N := 15) hx hb hts hi10 hown hK.1 hP 0 rfl rfl 10 (by decide) fl193 (fun _ h9 => h9) rfl dX10_here_16 ?_
  obtain ⟨q2, h⟩ := zA_some h
  refine va_iald hx hb hK.1 hP 4 0 rfl rfl q2 dX10_here_19 ?_
  refine lv_goto (tgt := 24) hx hb dX10_here_20 (by decide) ?_
  exact hfin _ _ _ h rfl dX10_here_24
set_option maxHeartbeats 4000000 in
set_option maxRecDepth 100000 in
theorem c_X10_must (l : Launch) (D : va_G) (tt : Nat → ClassId) (kw : Nat → Nat) (sz : Nat) (bw : zV) (bj : zJ) (x1 : Int32) (out : zV) (h : f_X10_must bw bj x1 = some out) : Met l yX10_must wsX10_must { frames := 1, cells := 0, slots := 0, locals := 20 } (zPm [.ref (kw 0), .int x1] D tt (zw_mo tt kw bw bj) sz) (zMv D (zw_mo tt kw out bj) (va_A (zw_mo tt kw bw bj) sz)) 0 0 (va_A (zw_mo tt kw bw bj) sz) := by
  refine Met.ofW (cc := cX10_must) (maxL := 2) (ret := none) (by decide) rfl ?_
  intro p e s m args below meth c s₁ B hml hv
  obtain ⟨ha, hsz, hP, hK, hD0⟩ := hv
  have hx := B.exec
  have hb := B.bytes
  have hr := B.returns
  have hts := atoms_spec (ws := wsX10_must) B.pre
  have hown : s.vm.findClass RX10 = some m.cls := findClass_of_methodNamed B.named
  have hlocks := B.notSynchronized
  have hi10 : ∀ w ∈ u_ws RX10 TX10 15, w ∈ wsX10_must := fun _ h => List.mem_cons_of_mem _ (List.mem_append_right _ h)
  have fl193 := hts (.fieldLink RX10 193 "CapStacksModel" "at" "I") (by decide +kernel)
  have fl196 := hts (.fieldLink RX10 196 "CapStacksModel" "isForm" "Z") (by decide +kernel)
  subst hsz
  have hD := hD0.self (sz := s.heap.size)
  generalize hAe : va_A (zw_mo tt kw bw bj) s.heap.size = A at hD ⊢
  have hA : ∀ q : Nat, s.heap.size ≤ q → A q := fun q h => by rw [← hAe]; exact Or.inr h
  have hS : va_S A s.heap s.heap [] := va_S.rf
  have hfin : ∀ (bw : zV) (pc : Nat) (ls : Array Slot) (H : Heap) (locs : List Loc), some bw = some out → va_P D vwCl (zw_mo tt kw bw bj) H → va_D A (zw_mo tt kw bw bj) → va_S A s.heap H locs → decode cX10_must pc = .ok (.return_, 1) → W p l e (headSpec wsX10_must { frames := 1, cells := 0, slots := 0, locals := 20 }).room s m args below meth c H locs 0 0 (MQ below (zMv D (zw_mo tt kw out bj) A) args s 0 0 A) (F0 m pc ls []) := by
    intro bw pc ls H locs he hP hD hS hd
    cases he
    exact W.vret hx hb hr (fun t ht hW => ⟨⟨(), rfl, trivial, by rw [ht]; exact hP, hD⟩, hS.F ht⟩) hS.2.2 hd
  generalize MQ below (zMv D (zw_mo tt kw out bj) A) args s 0 0 A = Q at hfin ⊢
  have hl := lv_entry ([.ref (kw 0), .int x1]) (n := 2) (Nat.le_of_ble_eq_true rfl)
  refine W.eq (g2 := F0 m 0 ((lg_sl ([.ref (kw 0), .int x1]) ++ List.replicate (2 - (lg_sl ([.ref (kw 0), .int x1])).length) Slot.unset).toArray) []) (by rw [ha]; exact lg_entry_eq _ _ _) ?_
  generalize (lg_sl ([.ref (kw 0), .int x1]) ++ List.replicate (2 - (lg_sl ([.ref (kw 0), .int x1])).length) Slot.unset).toArray = ls at hl ⊢
  have hl : lv_has ls 2 [(0, .ref (kw 0)), (1, .int x1)] := hl
  rw [f_X10_must] at h
  refine lv_aload_n hx hb dX10_must_0 rfl (lv_at hl 0 rfl) ?_
  refine lv_aload_n hx hb dX10_must_1 rfl (lv_at hl 0 rfl) ?_
  refine va_get (D := D) (ci := 10) (v := .int (bw 0 3)) (C := RX10) (T := TX10) (N := 15) hx hb hts hi10 hown hK.1 hP 0 rfl rfl 11 (by decide) fl196 (fun _ h9 => h9) rfl dX10_must_2 ?_
  refine lv_if_eq (tgt := 20) hx hb dX10_must_5 (by decide) (fun k1 => ?_) (fun k1 => ?_)
  · replace h := z_pos k1 h
    refine lv_iconst (v := 0) hx hb dX10_must_20 (by decide) ?_
    refine va_put (D := D) (ci := 10) (v := .int 0) (ty := .boolean) (C := RX10) (T := TX10) (N := 15) hx hb hts hi10 tyX10 tyX10_ok nmX10 hown hK.1 hP hD hS 0 rfl rfl 11 (by decide) fl196 (fun _ h9 => h9) rfl (by decide +kernel) rfl rfl (Nat.le_of_ble_eq_true rfl) dX10_must_21 (fun H locs hP hD hS => ?_)
    have hP : va_P D vwCl (zw_mo tt kw (zu bw 0 (zu (bw 0) 3 0)) bj) H := hP
    have hD : va_D A (zw_mo tt kw (zu bw 0 (zu (bw 0) 3 0)) bj) := hD
    refine lv_aload_n hx hb dX10_must_24 rfl (lv_at hl 0 rfl) ?_
    refine lv_dup hx hb dX10_must_25 rfl ?_
    refine va_get (D := D) (ci := 10) (v := .int (bw 0 2)) (C := RX10) (T := TX10) (N := 15) hx hb hts hi10 hown hK.1 hP 0 rfl rfl 10 (by decide) fl193 (fun _ h9 => h9) rfl dX10_must_26 ?_
    refine lv_iconst (v := 1) hx hb dX10_must_29 (by decide) ?_
    refine lv_iadd hx hb dX10_must_30 ?_
    refine va_put (D := D) (ci := 10) (v := .int ((bw 0 2) + 1)) (ty := .int) (C := RX10) (T := TX10) (N := 15) hx hb hts hi10 tyX10 tyX10_ok nmX10 hown hK.1 hP hD hS 0 rfl rfl 10 (by decide) fl193 (fun _ h9 => h9) rfl (by decide +kernel) rfl rfl (Nat.le_of_ble_eq_true rfl) dX10_must_31 (fun H locs hP hD hS => ?_)
    have hP : va_P D vwCl (zw_mo tt kw (zu bw 0 (zu (zu (bw 0) 2 ((bw 0 2) + 1)) 3 0)) bj) H := hP
    have hD : va_D A (zw_mo tt kw (zu bw 0 (zu (zu (bw 0) 2 ((bw 0 2) + 1)) 3 0)) bj) := hD
    exact hfin _ _ _ _ _ h hP hD hS dX10_must_34
  replace h := z_neg k1 h
  refine lv_aload_n hx hb dX10_must_8 rfl (lv_at hl 0 rfl) ?_
  obtain ⟨y2, gy2, h⟩ := zb_some h
  refine z_callr (va_runV (As := []) (rest := [.ref (kw 0)]) ⟨hx, hb, hml, hown, hts⟩ (c_X10_here l D tt kw bw bj y2 gy2) (cwV 0 hts gX10_must_X10_here rfl rfl rfl (by decide +kernel) ⟨Nat.le_of_ble_eq_true rfl, Nat.le_of_ble_eq_true rfl⟩) (z_preVr hK hP (ci := 10) (q0 := 0) rfl rfl) rfl rfl hl.1 rfl (lv_room (Nat.le_of_ble_eq_true rfl)) dX10_must_9 ⟨Nat.zero_le _, Nat.zero_le _⟩) (fun ny2 => ?_)
  refine lv_iload_n hx hb dX10_must_12 rfl (lv_at hl 1 rfl) ?_
  refine lv_icmp_ne (tgt := 20) hx hb dX10_must_13 (by decide) (fun k3 => ?_) (fun k3 => ?_)
  · replace h := z_neg k3 h
    refine lv_iconst (v := 0) hx hb dX10_must_20 (by decide) ?_
    refine va_put (D := D) (ci := 10) (v := .int 0) (ty := .boolean) (C := RX10) (T := TX10) (N := 15) hx hb hts hi10 tyX10 tyX10_ok nmX10 hown hK.1 hP hD hS 0 rfl rfl 11 (by decide) fl196 (fun _ h9 => h9) rfl (by decide +kernel) rfl rfl (Nat.le_of_ble_eq_true rfl) dX10_must_21 (fun H locs hP hD hS => ?_)
    have hP : va_P D vwCl (zw_mo tt kw (zu bw 0 (zu (bw 0) 3 0)) bj) H := hP
    have hD : va_D A (zw_mo tt kw (zu bw 0 (zu (bw 0) 3 0)) bj) := hD
    refine lv_aload_n hx hb dX10_must_24 rfl (lv_at hl 0 rfl) ?_
    refine lv_dup hx hb dX10_must_25 rfl ?_
    refine va_get (D := D) (ci := 10) (v := .int (bw 0 2)) (C := RX10) (T := TX10) (N := 15) hx hb hts hi10 hown hK.1 hP 0 rfl rfl 10 (by decide) fl193 (fun _ h9 => h9) rfl dX10_must_26 ?_
    refine lv_iconst (v := 1) hx hb dX10_must_29 (by decide) ?_
    refine lv_iadd hx hb dX10_must_30 ?_
    refine va_put (D := D) (ci := 10) (v := .int ((bw 0 2) + 1)) (ty := .int) (C := RX10) (T := TX10) (N := 15) hx hb hts hi10 tyX10 tyX10_ok nmX10 hown hK.1 hP hD hS 0 rfl rfl 10 (by decide) fl193 (fun _ h9 => h9) rfl (by decide +kernel) rfl rfl (Nat.le_of_ble_eq_true rfl) dX10_must_31 (fun H locs hP hD hS => ?_)
    have hP : va_P D vwCl (zw_mo tt kw (zu bw 0 (zu (zu (bw 0) 2 ((bw 0 2) + 1)) 3 0)) bj) H := hP
    have hD : va_D A (zw_mo tt kw (zu bw 0 (zu (zu (bw 0) 2 ((bw 0 2) + 1)) 3 0)) bj) := hD
    exact hfin _ _ _ _ _ h hP hD hS dX10_must_34
  replace h := z_pos k3 h
  refine lv_iconst (v := 1) hx hb dX10_must_16 (by decide) ?_
  refine lv_goto (tgt := 21) hx hb dX10_must_17 (by decide) ?_
  refine va_put (D := D) (ci := 10) (v := .int 1) (ty := .boolean) (C := RX10) (T := TX10) (N := 15) hx hb hts hi10 tyX10 tyX10_ok nmX10 hown hK.1 hP hD hS 0 rfl rfl 11 (by decide) fl196 (fun _ h9 => h9) rfl (by decide +kernel) rfl rfl (Nat.le_of_ble_eq_true rfl) dX10_must_21 (fun H locs hP hD hS => ?_)
  have hP : va_P D vwCl (zw_mo tt kw (zu bw 0 (zu (bw 0) 3 1)) bj) H := hP
  have hD : va_D A (zw_mo tt kw (zu bw 0 (zu (bw 0) 3 1)) bj) := hD
  refine lv_aload_n hx hb dX10_must_24 rfl (lv_at hl 0 rfl) ?_
  refine lv_dup hx hb dX10_must_25 rfl ?_
  refine va_get (D := D) (ci := 10) (v := .int (bw 0 2)) (C := RX10) (T := TX10) (N := 15) hx hb hts hi10 hown hK.1 hP 0 rfl rfl 10 (by decide) fl193 (fun _ h9 => h9) rfl dX10_must_26 ?_
  refine lv_iconst (v := 1) hx hb dX10_must_29 (by decide) ?_
  refine lv_iadd hx hb dX10_must_30 ?_
  refine va_put (D := D) (ci := 10) (v := .int ((bw 0 2) + 1)) (ty := .int) (C := RX10) (T := TX10) (N := 15) hx hb hts hi10 tyX10 tyX10_ok nmX10 hown hK.1 hP hD hS 0 rfl rfl 10 (by decide) fl193 (fun _ h9 => h9) rfl (by decide +kernel) rfl rfl (Nat.le_of_ble_eq_true rfl) dX10_must_31 (fun H locs hP hD hS => ?_)
  have hP : va_P D vwCl (zw_mo tt kw (zu bw 0 (zu (zu (bw 0) 2 ((bw 0 2) + 1)) 3 1)) bj) H := hP
  have hD : va_D A (zw_mo tt kw (zu bw 0 (zu (zu (bw 0) 2 ((bw 0 2) + 1)) 3 1)) bj) := hD
  exact hfin _ _ _ _ _ h hP hD hS dX10_must_34
set_option maxHeartbeats 4000000 in
set_option maxRecDepth 100000 in
theorem c_X10_readNumber (l : Launch) (D : va_G) (tt : Nat → ClassId) (kw : Nat → Nat) (sz : Nat) (bw : zV) (bj : zJ)  (out : Int32 × zV) (h : f_X10_readNumber bw bj = some out) : Met l yX10_readNumber wsX10_readNumber { frames := 2, cells := 0, slots := 0, locals := 41 } (zPm [.ref (kw 0)] D tt (zw_mo tt kw bw bj) sz) (zMi .int out.1 D (zw_mo tt kw out.2 bj) (va_A (zw_mo tt kw bw bj) sz)) 0 0 (va_A (zw_mo tt kw bw bj) sz) := by
  refine Met.ofW (cc := cX10_readNumber) (maxL := 3) (ret := (some .int)) (by decide) rfl ?_
  intro p e s m args below meth c s₁ B hml hv
  obtain ⟨ha, hsz, hP, hK, hD0⟩ := hv
  have hx := B.exec
  have hb := B.bytes
  have hr := B.returns
  have hts := atoms_spec (ws := wsX10_readNumber) B.pre
  have hown : s.vm.findClass RX10 = some m.cls := findClass_of_methodNamed B.named
  have hlocks := B.notSynchronized
  have hi10 : ∀ w ∈ u_ws RX10 TX10 15, w ∈ wsX10_readNumber := fun _ h => List.mem_cons_of_mem _ (List.mem_append_right _ h)
  have fl193 := hts (.fieldLink RX10 193 "CapStacksModel" "at" "I") (by decide +kernel)
  have fl196 := hts (.fieldLink RX10 196 "CapStacksModel" "isForm" "Z") (by decide +kernel)
  subst hsz
  have hD := hD0.self (sz := s.heap.size)
  generalize hAe : va_A (zw_mo tt kw bw bj) s.heap.size = A at hD ⊢
  have hA : ∀ q : Nat, s.heap.size ≤ q → A q := fun q h => by rw [← hAe]; exact Or.inr h
  have hS : va_S A s.heap s.heap [] := va_S.rf
  have hfin : ∀ (v : Int32) (bw : zV) (pc : Nat) (ls : Array Slot) (H : Heap) (locs : List Loc), some (v, bw) = some out → narrow .int (.int v) = .int v → va_P D vwCl (zw_mo tt kw bw bj) H → va_D A (zw_mo tt kw bw bj) → va_S A s.heap H locs → decode cX10_readNumber pc = .ok (.ireturn, 1) → W p l e (headSpec wsX10_readNumber { frames := 2, cells := 0, slots := 0, locals := 41 }).room s m args below meth c H locs 0 0 (MQ below (zMi .int out.1 D (zw_mo tt kw out.2 bj) A) args s 0 0 A) (F0 m pc ls [.int v]) := by
    intro v bw pc ls H locs he hn hP hD hS hd
    cases he
    exact W.zret hx hb hr hn (fun t ht hW => ⟨⟨_, (), rfl, ⟨rfl, hn⟩, by rw [ht]; exact hP, hD⟩, hS.F ht⟩) hS.2.2 hd
  generalize MQ below (zMi .int out.1 D (zw_mo tt kw out.2 bj) A) args s 0 0 A = Q at hfin ⊢
  have b58 : ∀ (bw : zV) (x1 : Int32) (x2 : Int32) (H : Heap) (locs : List Loc) (ls : Array Slot), va_P D vwCl (zw_mo tt kw bw bj) H → va_D A (zw_mo tt kw bw bj) → va_S A s.heap H locs → lv_has ls 3 [(0, .ref (kw 0)), (1, .int x1), (2, .int x2)] → f_X10_readNumber_b58 bj bw x1 x2 = some out → W p l e (headSpec wsX10_readNumber { frames := 2, cells := 0, slots := 0, locals := 41 }).room s m args below meth c H locs 0 0 Q (F0 m 58 ls []) := by
    intro bw x1 x2 H locs ls hP hD hS hl h
    rw [f_X10_readNumber_b58] at h
    refine lv_aload_n hx hb dX10_readNumber_58 rfl (lv_at hl 0 rfl) ?_
    refine lv_aload_n hx hb dX10_readNumber_59 rfl (lv_at hl 0 rfl) ?_
    refine va_get (D := D) (ci := 10) (v := .int (bw 0 3)) (C := RX10) (T := TX10) (N := 15) hx hb hts hi10 hown hK.1 hP 0 rfl rfl 11 (by decide) fl196 (fun _ h9 => h9) rfl dX10_readNumber_60 ?_
    refine lv_if_eq (tgt := 74) hx hb dX10_readNumber_63 (by decide) (fun k1 => ?_) (fun k1 => ?_)
    · replace h := z_pos k1 h
      refine lv_iconst (v := 0) hx hb dX10_readNumber_74 (by decide) ?_
      refine va_put (D := D) (ci := 10) (v := .int 0) (ty := .boolean) (C := RX10) (T := TX10) (N := 15) hx hb hts hi10 tyX10 tyX10_ok nmX10 hown hK.1 hP hD hS 0 rfl rfl 11 (by decide) fl196 (fun _ h9 => h9) rfl (by decide +kernel) rfl rfl (Nat.le_of_ble_eq_true rfl) dX10_readNumber_75 (fun H locs hP hD hS => ?_)
      have hP : va_P D vwCl (zw_mo tt kw (zu bw 0 (zu (bw 0) 3 0)) bj) H := hP
      have hD : va_D A (zw_mo tt kw (zu bw 0 (zu (bw 0) 3 0)) bj) := hD
      refine lv_iload_n hx hb dX10_readNumber_78 rfl (lv_at hl 1 rfl) ?_
      exact hfin _ _ _ _ _ _ h rfl hP hD hS dX10_readNumber_79
    replace h := z_neg k1 h
    refine lv_iload_n hx hb dX10_readNumber_66 rfl (lv_at hl 2 rfl) ?_
    refine lv_if_le (tgt := 74) hx hb dX10_readNumber_67 (by decide) (fun k2 => ?_) (fun k2 => ?_)
    · replace h := z_pos k2 h
      refine lv_iconst (v := 0) hx hb dX10_readNumber_74 (by decide) ?_
      refine va_put (D := D) (ci := 10) (v := .int 0) (ty := .boolean) (C := RX10) (T := TX10) (N := 15) hx hb hts hi10 tyX10 tyX10_ok nmX10 hown hK.1 hP hD hS 0 rfl rfl 11 (by decide) fl196 (fun _ h9 => h9) rfl (by decide +kernel) rfl rfl (Nat.le_of_ble_eq_true rfl) dX10_readNumber_75 (fun H locs hP hD hS => ?_)
      have hP : va_P D vwCl (zw_mo tt kw (zu bw 0 (zu (bw 0) 3 0)) bj) H := hP
      have hD : va_D A (zw_mo tt kw (zu bw 0 (zu (bw 0) 3 0)) bj) := hD
      refine lv_iload_n hx hb dX10_readNumber_78 rfl (lv_at hl 1 rfl) ?_
      exact hfin _ _ _ _ _ _ h rfl hP hD hS dX10_readNumber_79
    replace h := z_neg k2 h
    refine lv_iconst (v := 1) hx hb dX10_readNumber_70 (by decide) ?_
    refine lv_goto (tgt := 75) hx hb dX10_readNumber_71 (by decide) ?_
    refine va_put (D := D) (ci := 10) (v := .int 1) (ty := .boolean) (C := RX10) (T := TX10) (N := 15) hx hb hts hi10 tyX10 tyX10_ok nmX10 hown hK.1 hP hD hS 0 rfl rfl 11 (by decide) fl196 (fun _ h9 => h9) rfl (by decide +kernel) rfl rfl (Nat.le_of_ble_eq_true rfl) dX10_readNumber_75 (fun H locs hP hD hS => ?_)
    have hP : va_P D vwCl (zw_mo tt kw (zu bw 0 (zu (bw 0) 3 1)) bj) H := hP
    have hD : va_D A (zw_mo tt kw (zu bw 0 (zu (bw 0) 3 1)) bj) := hD
    refine lv_iload_n hx hb dX10_readNumber_78 rfl (lv_at hl 1 rfl) ?_
    exact hfin _ _ _ _ _ _ h rfl hP hD hS dX10_readNumber_79
  have b10 : ∀ n : Nat, ∀ (bw : zV) (x1 : Int32) (x2 : Int32) (H : Heap) (locs : List Loc) (ls : Array Slot), va_P D vwCl (zw_mo tt kw bw bj) H → va_D A (zw_mo tt kw bw bj) → va_S A s.heap H locs → lv_has ls 3 [(0, .ref (kw 0)), (1, .int x1), (2, .int x2)] → f_X10_readNumber_b10 bj n bw x1 x2 = some out → W p l e (headSpec wsX10_readNumber { frames := 2, cells := 0, slots := 0, locals := 41 }).room s m args below meth c H locs 0 0 Q (F0 m 10 ls []) := by
    intro n
    induction n with
    | zero =>
      intro bw x1 x2 H locs ls hP hD hS hl h
      cases h
    | succ n ih =>
      intro bw x1 x2 H locs ls hP hD hS hl h
      rw [f_X10_readNumber_b10] at h
      refine lv_iload_n hx hb dX10_readNumber_10 rfl (lv_at hl 2 rfl) ?_
      refine lv_iconst (v := 4) hx hb dX10_readNumber_11 (by decide) ?_
      refine lv_icmp_ge (tgt := 58) hx hb dX10_readNumber_12 (by decide) (fun k3 => ?_) (fun k3 => ?_)
      · replace h := z_pos k3 h
        exact b58 bw x1 x2 _ _ _ hP hD hS (lv_sub hl [0, 1, 2] rfl) h
      replace h := z_neg k3 h
      refine lv_aload_n hx hb dX10_readNumber_15 rfl (lv_at hl 0 rfl) ?_
      obtain ⟨y4, gy4, h⟩ := zb_some h
      refine z_callr (va_runV (As := []) (rest := []) ⟨hx, hb, hml, hown, hts⟩ (c_X10_here l D tt kw bw bj y4 gy4) (cwV 0 hts gX10_readNumber_X10_here rfl rfl rfl (by decide +kernel) ⟨Nat.le_of_ble_eq_true rfl, Nat.le_of_ble_eq_true rfl⟩) (z_preVr hK hP (ci := 10) (q0 := 0) rfl rfl) rfl rfl hl.1 rfl (lv_room (Nat.le_of_ble_eq_true rfl)) dX10_readNumber_16 ⟨Nat.zero_le _, Nat.zero_le _⟩) (fun ny4 => ?_)
      refine lv_bipush (v := 48) hx hb dX10_readNumber_19 (by decide) ?_
      refine lv_bipush (v := 57) hx hb dX10_readNumber_21 (by decide) ?_
      obtain ⟨y5, gy5, h⟩ := zb_some h
      refine z_callr (va_runS (As := [.int y4, .int 48, .int 57]) (rest := []) ⟨hx, hb, hml, hown, hts⟩ (c_X10_in l D tt y4 48 57 y5 gy5) (va_cwS 3 hts gX10_readNumber_X10_in rfl rfl rfl (by decide +kernel) ⟨Nat.le_of_ble_eq_true rfl, Nat.le_of_ble_eq_true rfl⟩) (z_preSr hK (hP.sub (ws' := ([] : va_W)) [] rfl)) rfl rfl hl.1 rfl (lv_room (Nat.le_of_ble_eq_true rfl)) dX10_readNumber_23 ⟨Nat.zero_le _, Nat.zero_le _⟩) (fun ny5 => ?_)
      refine lv_if_eq (tgt := 58) hx hb dX10_readNumber_26 (by decide) (fun k6 => ?_) (fun k6 => ?_)
      · replace h := z_pos k6 h
        exact b58 bw x1 x2 _ _ _ hP hD hS (lv_sub hl [0, 1, 2] rfl) h
      replace h := z_neg k6 h
      refine lv_bipush (v := 10) hx hb dX10_readNumber_29 (by decide) ?_
      refine lv_iload_n hx hb dX10_readNumber_31 rfl (lv_at hl 1 rfl) ?_
      refine lv_imul hx hb dX10_readNumber_32 ?_
      refine lv_aload_n hx hb dX10_readNumber_33 rfl (lv_at hl 0 rfl) ?_
      obtain ⟨y7, gy7, h⟩ := zb_some h
      refine z_callr (va_runV (As := []) (rest := [.int (10 * x1)]) ⟨hx, hb, hml, hown, hts⟩ (c_X10_here l D tt kw bw bj y7 gy7) (cwV 0 hts gX10_readNumber_X10_here rfl rfl rfl (by decide +kernel) ⟨Nat.le_of_ble_eq_true rfl, Nat.le_of_ble_eq_true rfl⟩) (z_preVr hK hP (ci := 10) (q0 := 0) rfl rfl) rfl rfl hl.1 rfl (lv_room (Nat.le_of_ble_eq_true rfl)) dX10_readNumber_34 ⟨Nat.zero_le _, Nat.zero_le _⟩) (fun ny7 => ?_)
      refine lv_iadd hx hb dX10_readNumber_37 ?_
      refine lv_bipush (v := 48) hx hb dX10_readNumber_38 (by decide) ?_
      refine lv_isub hx hb dX10_readNumber_40 ?_
      refine lv_istore_n (lv' := [(1, .int (((10 * x1) + y7) - 48)), (0, .ref (kw 0)), (2, .int x2)]) hx hb dX10_readNumber_41 rfl hl (by decide) rfl (fun ls hl => ?_)
      refine lv_iinc (v := (x2 + 1)) (lv' := [(2, .int (x2 + 1)), (1, .int (((10 * x1) + y7) - 48)), (0, .ref (kw 0))]) hx hb dX10_readNumber_42 hl (k := 2) rfl rfl (by decide) rfl (fun ls hl => ?_)
      refine lv_aload_n hx hb dX10_readNumber_45 rfl (lv_at hl 2 rfl) ?_
      refine lv_dup hx hb dX10_readNumber_46 rfl ?_
      refine va_get (D := D) (ci := 10) (v := .int (bw 0 2)) (C := RX10) (T := TX10) (N := 15) hx hb hts hi10 hown hK.1 hP 0 rfl rfl 10 (by decide) fl193 (fun _ h9 => h9) rfl dX10_readNumber_47 ?_
      refine lv_iconst (v := 1) hx hb dX10_readNumber_50 (by decide) ?_
      refine lv_iadd hx hb dX10_readNumber_51 ?_
      refine va_put (D := D) (ci := 10) (v := .int ((bw 0 2) + 1)) (ty := .int) (C := RX10) (T := TX10) (N := 15) hx hb hts hi10 tyX10 tyX10_ok nmX10 hown hK.1 hP hD hS 0 rfl rfl 10 (by decide) fl193 (fun _ h9 => h9) rfl (by decide +kernel) rfl rfl (Nat.le_of_ble_eq_true rfl) dX10_readNumber_52 (fun H locs hP hD hS => ?_)
      have hP : va_P D vwCl (zw_mo tt kw (zu bw 0 (zu (bw 0) 2 ((bw 0 2) + 1))) bj) H := hP
      have hD : va_D A (zw_mo tt kw (zu bw 0 (zu (bw 0) 2 ((bw 0 2) + 1))) bj) := hD
      refine lv_goto (tgt := 10) hx hb dX10_readNumber_55 (by decide) ?_
      exact ih (zu bw 0 (zu (bw 0) 2 ((bw 0 2) + 1))) (((10 * x1) + y7) - 48) (x2 + 1) _ _ _ hP hD hS (lv_sub hl [2, 1, 0] rfl) h
  have hl := lv_entry ([.ref (kw 0)]) (n := 3) (Nat.le_of_ble_eq_true rfl)
  refine W.eq (g2 := F0 m 0 ((lg_sl ([.ref (kw 0)]) ++ List.replicate (3 - (lg_sl ([.ref (kw 0)])).length) Slot.unset).toArray) []) (by rw [ha]; exact lg_entry_eq _ _ _) ?_
  generalize (lg_sl ([.ref (kw 0)]) ++ List.replicate (3 - (lg_sl ([.ref (kw 0)])).length) Slot.unset).toArray = ls at hl ⊢
  have hl : lv_has ls 3 [(0, .ref (kw 0))] := hl
  rw [f_X10_readNumber] at h
  refine lv_aload_n hx hb dX10_readNumber_0 rfl (lv_at hl 0 rfl) ?_
  refine lv_bipush (v := 32) hx hb dX10_readNumber_1 (by decide) ?_
  obtain ⟨y8, gy8, h⟩ := zb_some h
  have hFc := z_free0 hD hS hA
  refine z_callmv (wc := (zw_mo tt kw bw bj)) (w1 := (zw_mo tt kw y8 bj)) (va_runV (As := [.int 32]) (rest := []) ⟨hx, hb, hml, hown, hts⟩ (c_X10_must l D tt kw _ bw bj 32 y8 gy8) (cwV 1 hts gX10_readNumber_X10_must rfl rfl rfl (by decide +kernel) ⟨Nat.le_of_ble_eq_true rfl, Nat.le_of_ble_eq_true rfl⟩) (z_preVm hK hP hD (ci := 10) (q0 := 0) rfl rfl) rfl rfl hl.1 rfl (lv_room (Nat.le_of_ble_eq_true rfl)) dX10_readNumber_3 ⟨Nat.zero_le _, Nat.zero_le _⟩) hS hFc (fun H locs hP1 hD1 hk1 hS => ?_)
  have hP := hP1
  have hD := hD1.weaken (fun _ q _ h => hFc q.1 h)
  refine lv_iconst (v := 0) hx hb dX10_readNumber_6 (by decide) ?_
  refine lv_istore_n (lv' := [(1, .int 0), (0, .ref (kw 0))]) hx hb dX10_readNumber_7 rfl hl (by decide) rfl (fun ls hl => ?_)
  refine lv_iconst (v := 0) hx hb dX10_readNumber_8 (by decide) ?_
  refine lv_istore_n (lv' := [(2, .int 0), (1, .int 0), (0, .ref (kw 0))]) hx hb dX10_readNumber_9 rfl hl (by decide) rfl (fun ls hl => ?_)
  exact b10 1000 y8 0 0 _ _ _ hP hD hS (lv_sub hl [2, 1, 0] rfl) h
set_option maxHeartbeats 4000000 in
set_option maxRecDepth 100000 in
theorem c_X10_wordOf (l : Launch) (D : va_G) (tt : Nat → ClassId)  (x0 : Int32) (out : Int64) (h : f_X10_wordOf x0 = some out) : Met l yX10_wordOf wsX10_wordOf { frames := 0, cells := 0, slots := 0, locals := 0 } (zPr [.int x0] D tt ([] : va_W)) (zQl out) 0 0 (fun _ => False) := by
  refine Met.ofW (cc := cX10_wordOf) (maxL := 1) (ret := (some .long)) (by decide) rfl ?_
  intro p e s m args below meth c s₁ B hml hv
  obtain ⟨ha, hP, hK⟩ := hv
  have hx := B.exec
  have hb := B.bytes
  have hr := B.returns
  have hts := atoms_spec (ws := wsX10_wordOf) B.pre
  have hown : s.vm.findClass RX10 = some m.cls := findClass_of_methodNamed B.named
  have hlocks := B.notSynchronized
  have lc207 := hts (.constantLong RX10 207 (452908512613 : Int64)) (by decide +kernel)
  have lc209 := hts (.constantLong RX10 209 (495807392116 : Int64)) (by decide +kernel)
  have lc211 := hts (.constantLong RX10 211 (1650549611 : Int64)) (by decide +kernel)
  have lc213 := hts (.constantLong RX10 213 (444300619380 : Int64)) (by decide +kernel)
  have lc215 := hts (.constantLong RX10 215 (1952541541 : Int64)) (by decide +kernel)
  have lc217 := hts (.constantLong RX10 217 (465557354085 : Int64)) (by decide +kernel)
  have lc219 := hts (.constantLong RX10 219 (1885434739 : Int64)) (by decide +kernel)
  have hfin : ∀ (v : Int64) (pc : Nat) (ls : Array Slot), some v = some out → decode cX10_wordOf pc = .ok (.lreturn, 1) → W p l e (headSpec wsX10_wordOf { frames := 0, cells := 0, slots := 0, locals := 0 }).room s m args below meth c s.heap [] 0 0 (MQ below (zQl out) args s 0 0 (fun _ => False)) (F0 m pc ls [.long v]) := by
    intro v pc ls he hd
    cases he
    exact W.lret hx hb hr (fun t ht hW => ⟨rfl, ht⟩) (fun _ h => by cases h) hd
  generalize MQ below (zQl out) args s 0 0 (fun _ => False) = Q at hfin ⊢
  have hl := lv_entry ([.int x0]) (n := 1) (Nat.le_of_ble_eq_true rfl)
  refine W.eq (g2 := F0 m 0 ((lg_sl ([.int x0]) ++ List.replicate (1 - (lg_sl ([.int x0])).length) Slot.unset).toArray) []) (by rw [ha]; exact lg_entry_eq _ _ _) ?_
  generalize (lg_sl ([.int x0]) ++ List.replicate (1 - (lg_sl ([.int x0])).length) Slot.unset).toArray = ls at hl ⊢
  have hl : lv_has ls 1 [(0, .int x0)] := hl
  rw [f_X10_wordOf] at h
  refine lv_iload_n hx hb dX10_wordOf_0 rfl (lv_at hl 0 rfl) ?_
  by_cases k1 : x0 = 0
  · replace h := z_pos k1 h
    rw [k1]
    refine lv_tableIn (off := 39) (tgt := 40) hx hb dX10_wordOf_1 (by decide) (by decide) (by decide) (by decide) ?_
    refine lv_ldc2 hx hb hown lc207 dX10_wordOf_40 ?_
    exact hfin _ _ _ h dX10_wordOf_43
  replace h := z_neg k1 h
  by_cases k2 : x0 = 1
  · replace h := z_pos k2 h
    rw [k2]
    refine lv_tableIn (off := 43) (tgt := 44) hx hb dX10_wordOf_1 (by decide) (by decide) (by decide) (by decide) ?_
    refine lv_ldc2 hx hb hown lc209 dX10_wordOf_44 ?_
    exact hfin _ _ _ h dX10_wordOf_47
  replace h := z_neg k2 h
  by_cases k3 : x0 = 2
  · replace h := z_pos k3 h
    rw [k3]
    refine lv_tableIn (off := 47) (tgt := 48) hx hb dX10_wordOf_1 (by decide) (by decide) (by decide) (by decide) ?_
    refine lv_ldc2 hx hb hown lc211 dX10_wordOf_48 ?_
    exact hfin _ _ _ h dX10_wordOf_51
  replace h := z_neg k3 h
  by_cases k4 : x0 = 3
  · replace h := z_pos k4 h
    rw [k4]
    refine lv_tableIn (off := 51) (tgt := 52) hx hb dX10_wordOf_1 (by decide) (by decide) (by decide) (by decide) ?_
    refine lv_ldc2 hx hb hown lc213 dX10_wordOf_52 ?_
    exact hfin _ _ _ h dX10_wordOf_55
  replace h := z_neg k4 h
  by_cases k5 : x0 = 4
  · replace h := z_pos k5 h
    rw [k5]
    refine lv_tableIn (off := 55) (tgt := 56) hx hb dX10_wordOf_1 (by decide) (by decide) (by decide) (by decide) ?_
    refine lv_ldc2 hx hb hown lc215 dX10_wordOf_56 ?_
    exact hfin _ _ _ h dX10_wordOf_59
  replace h := z_neg k5 h
  by_cases k6 : x0 = 5
  · replace h := z_pos k6 h
    rw [k6]
    refine lv_tableIn (off := 59) (tgt := 60) hx hb dX10_wordOf_1 (by decide) (by decide) (by decide) (by decide) ?_
    refine lv_ldc2 hx hb hown lc217 dX10_wordOf_60 ?_
    exact hfin _ _ _ h dX10_wordOf_63
  replace h := z_neg k6 h
  have ek1 : Int32.toInt x0 ≠ 0 := fun e => k1 (Int32.toInt_inj.mp (e.trans (by decide)))
  have ek2 : Int32.toInt x0 ≠ 1 := fun e => k2 (Int32.toInt_inj.mp (e.trans (by decide)))
  have ek3 : Int32.toInt x0 ≠ 2 := fun e => k3 (Int32.toInt_inj.mp (e.trans (by decide)))
  have ek4 : Int32.toInt x0 ≠ 3 := fun e => k4 (Int32.toInt_inj.mp (e.trans (by decide)))
  have ek5 : Int32.toInt x0 ≠ 4 := fun e => k5 (Int32.toInt_inj.mp (e.trans (by decide)))
  have ek6 : Int32.toInt x0 ≠ 5 := fun e => k6 (Int32.toInt_inj.mp (e.trans (by decide)))
  refine lv_tableOut (tgt := 64) hx hb dX10_wordOf_1 (by omega) (by decide) ?_
  refine lv_ldc2 hx hb hown lc219 dX10_wordOf_64 ?_
  exact hfin _ _ _ h dX10_wordOf_67
set_option maxHeartbeats 4000000 in
set_option maxRecDepth 100000 in
theorem c_X10_manyOf (l : Launch) (D : va_G) (tt : Nat → ClassId)  (x0 : Int32) (out : Int32) (h : f_X10_manyOf x0 = some out) : Met l yX10_manyOf wsX10_manyOf { frames := 0, cells := 0, slots := 0, locals := 0 } (zPr [.int x0] D tt ([] : va_W)) (zQr .int out) 0 0 (fun _ => False) := by
  refine Met.ofW (cc := cX10_manyOf) (maxL := 1) (ret := (some .int)) (by decide) rfl ?_
  intro p e s m args below meth c s₁ B hml hv
  obtain ⟨ha, hP, hK⟩ := hv
  have hx := B.exec
  have hb := B.bytes
  have hr := B.returns
  have hts := atoms_spec (ws := wsX10_manyOf) B.pre
  have hown : s.vm.findClass RX10 = some m.cls := findClass_of_methodNamed B.named
  have hlocks := B.notSynchronized
  have hfin : ∀ (v : Int32) (pc : Nat) (ls : Array Slot), some v = some out → narrow .int (.int v) = .int v → decode cX10_manyOf pc = .ok (.ireturn, 1) → W p l e (headSpec wsX10_manyOf { frames := 0, cells := 0, slots := 0, locals := 0 }).room s m args below meth c s.heap [] 0 0 (MQ below (zQr .int out) args s 0 0 (fun _ => False)) (F0 m pc ls [.int v]) := by
    intro v pc ls he hn hd
    cases he
    exact W.zret hx hb hr hn (fun t ht hW => ⟨rfl, hn, ht⟩) (fun _ h => by cases h) hd
  generalize MQ below (zQr .int out) args s 0 0 (fun _ => False) = Q at hfin ⊢
  have hl := lv_entry ([.int x0]) (n := 1) (Nat.le_of_ble_eq_true rfl)
  refine W.eq (g2 := F0 m 0 ((lg_sl ([.int x0]) ++ List.replicate (1 - (lg_sl ([.int x0])).length) Slot.unset).toArray) []) (by rw [ha]; exact lg_entry_eq _ _ _) ?_
  generalize (lg_sl ([.int x0]) ++ List.replicate (1 - (lg_sl ([.int x0])).length) Slot.unset).toArray = ls at hl ⊢
  have hl : lv_has ls 1 [(0, .int x0)] := hl
  rw [f_X10_manyOf] at h
  refine lv_iload_n hx hb dX10_manyOf_0 rfl (lv_at hl 0 rfl) ?_
  refine lv_iconst (v := 2) hx hb dX10_manyOf_1 (by decide) ?_
  refine lv_icmp_ge (tgt := 9) hx hb dX10_manyOf_2 (by decide) (fun k1 => ?_) (fun k1 => ?_)
  rotate_left
  · replace h := z_neg k1 h
    refine lv_iconst (v := 3) hx hb dX10_manyOf_5 (by decide) ?_
    refine lv_goto (tgt := 33) hx hb dX10_manyOf_6 (by decide) ?_
    exact hfin _ _ _ h rfl dX10_manyOf_33
  replace h := z_pos k1 h
  refine lv_iload_n hx hb dX10_manyOf_9 rfl (lv_at hl 0 rfl) ?_
  refine lv_iconst (v := 2) hx hb dX10_manyOf_10 (by decide) ?_
  refine lv_icmp_eq (tgt := 19) hx hb dX10_manyOf_11 (by decide) (fun k2 => ?_) (fun k2 => ?_)
  · replace h := z_pos k2 h
    refine lv_iconst (v := 2) hx hb dX10_manyOf_19 (by decide) ?_
    refine lv_goto (tgt := 33) hx hb dX10_manyOf_20 (by decide) ?_
    exact hfin _ _ _ h rfl dX10_manyOf_33
  replace h := z_neg k2 h
  refine lv_iload_n hx hb dX10_manyOf_14 rfl (lv_at hl 0 rfl) ?_
  refine lv_iconst (v := 4) hx hb dX10_manyOf_15 (by decide) ?_
  refine lv_icmp_ne (tgt := 23) hx hb dX10_manyOf_16 (by decide) (fun k3 => ?_) (fun k3 => ?_)
  rotate_left
  · replace h := z_pos k3 h
    refine lv_iconst (v := 2) hx hb dX10_manyOf_19 (by decide) ?_
    refine lv_goto (tgt := 33) hx hb dX10_manyOf_20 (by decide) ?_
    exact hfin _ _ _ h rfl dX10_manyOf_33
  replace h := z_neg k3 h
  refine lv_iload_n hx hb dX10_manyOf_23 rfl (lv_at hl 0 rfl) ?_
  refine lv_iconst (v := 3) hx hb dX10_manyOf_24 (by decide) ?_
  refine lv_icmp_ne (tgt := 32) hx hb dX10_manyOf_25 (by decide) (fun k4 => ?_) (fun k4 => ?_)
  · replace h := z_neg k4 h
    refine lv_iconst (v := 1) hx hb dX10_manyOf_32 (by decide) ?_
    exact hfin _ _ _ h rfl dX10_manyOf_33
  replace h := z_pos k4 h
  refine lv_iconst (v := 5) hx hb dX10_manyOf_28 (by decide) ?_
  refine lv_goto (tgt := 33) hx hb dX10_manyOf_29 (by decide) ?_
  exact hfin _ _ _ h rfl dX10_manyOf_33
set_option maxHeartbeats 4000000 in
set_option maxRecDepth 100000 in
theorem c_X10_readWord (l : Launch) (D : va_G) (tt : Nat → ClassId) (kw : Nat → Nat) (sz : Nat) (bw : zV) (bj : zJ)  (out : Int32 × zV) (h : f_X10_readWord bw bj = some out) : Met l yX10_readWord wsX10_readWord { frames := 1, cells := 0, slots := 0, locals := 22 } (zPm [.ref (kw 0)] D tt (zw_mo tt kw bw bj) sz) (zMi .int out.1 D (zw_mo tt kw out.2 bj) (va_A (zw_mo tt kw bw bj) sz)) 0 0 (va_A (zw_mo tt kw bw bj) sz) := by
  refine Met.ofW (cc := cX10_readWord) (maxL := 5) (ret := (some .int)) (by decide) rfl ?_
  intro p e s m args below meth c s₁ B hml hv
  obtain ⟨ha, hsz, hP, hK, hD0⟩ := hv
  have hx := B.exec
  have hb := B.bytes
  have hr := B.returns
  have hts := atoms_spec (ws := wsX10_readWord) B.pre
  have hown : s.vm.findClass RX10 = some m.cls := findClass_of_methodNamed B.named
  have hlocks := B.notSynchronized
  have hi10 : ∀ w ∈ u_ws RX10 TX10 15, w ∈ wsX10_readWord := fun _ h => List.mem_cons_of_mem _ (List.mem_append_right _ h)
  have fl193 := hts (.fieldLink RX10 193 "CapStacksModel" "at" "I") (by decide +kernel)
  subst hsz
  have hD := hD0.self (sz := s.heap.size)
  generalize hAe : va_A (zw_mo tt kw bw bj) s.heap.size = A at hD ⊢
  have hA : ∀ q : Nat, s.heap.size ≤ q → A q := fun q h => by rw [← hAe]; exact Or.inr h
  have hS : va_S A s.heap s.heap [] := va_S.rf
  have hfin : ∀ (v : Int32) (bw : zV) (pc : Nat) (ls : Array Slot) (H : Heap) (locs : List Loc), some (v, bw) = some out → narrow .int (.int v) = .int v → va_P D vwCl (zw_mo tt kw bw bj) H → va_D A (zw_mo tt kw bw bj) → va_S A s.heap H locs → decode cX10_readWord pc = .ok (.ireturn, 1) → W p l e (headSpec wsX10_readWord { frames := 1, cells := 0, slots := 0, locals := 22 }).room s m args below meth c H locs 0 0 (MQ below (zMi .int out.1 D (zw_mo tt kw out.2 bj) A) args s 0 0 A) (F0 m pc ls [.int v]) := by
    intro v bw pc ls H locs he hn hP hD hS hd
    cases he
    exact W.zret hx hb hr hn (fun t ht hW => ⟨⟨_, (), rfl, ⟨rfl, hn⟩, by rw [ht]; exact hP, hD⟩, hS.F ht⟩) hS.2.2 hd
  generalize MQ below (zMi .int out.1 D (zw_mo tt kw out.2 bj) A) args s 0 0 A = Q at hfin ⊢
  have b53 : ∀ n : Nat, ∀ (bw : zV) (x1 : Int64) (x4 : Int32) (H : Heap) (locs : List Loc) (ls : Array Slot), va_P D vwCl (zw_mo tt kw bw bj) H → va_D A (zw_mo tt kw bw bj) → va_S A s.heap H locs → lv_has ls 5 [(0, .ref (kw 0)), (1, .long x1), (4, .int x4)] → f_X10_readWord_b53 bj n bw x1 x4 = some out → W p l e (headSpec wsX10_readWord { frames := 1, cells := 0, slots := 0, locals := 22 }).room s m args below meth c H locs 0 0 Q (F0 m 53 ls []) := by
    intro n
    induction n with
    | zero =>
      intro bw x1 x4 H locs ls hP hD hS hl h
      cases h
    | succ n ih =>
      intro bw x1 x4 H locs ls hP hD hS hl h
      rw [f_X10_readWord_b53] at h
      refine lv_iload hx hb dX10_readWord_53 (lv_at hl 2 rfl) ?_
      refine lv_bipush (v := 7) hx hb dX10_readWord_55 (by decide) ?_
      refine lv_icmp_ge (tgt := 79) hx hb dX10_readWord_57 (by decide) (fun k1 => ?_) (fun k1 => ?_)
      · replace h := z_pos k1 h
        refine lv_iconst (v := (-1)) hx hb dX10_readWord_79 (by decide) ?_
        exact hfin _ _ _ _ _ _ h rfl hP hD hS dX10_readWord_80
      replace h := z_neg k1 h
      refine lv_iload hx hb dX10_readWord_60 (lv_at hl 2 rfl) ?_
      obtain ⟨y2, gy2, h⟩ := zb_some h
      refine z_callrl (va_runS (As := [.int x4]) (rest := []) ⟨hx, hb, hml, hown, hts⟩ (c_X10_wordOf l D tt x4 y2 gy2) (va_cwS 1 hts gX10_readWord_X10_wordOf rfl rfl rfl (by decide +kernel) ⟨Nat.le_of_ble_eq_true rfl, Nat.le_of_ble_eq_true rfl⟩) (z_preSr hK (hP.sub (ws' := ([] : va_W)) [] rfl)) rfl rfl hl.1 rfl (lv_room (Nat.le_of_ble_eq_true rfl)) dX10_readWord_62 ⟨Nat.zero_le _, Nat.zero_le _⟩) ?_
      refine lv_lload_n hx hb dX10_readWord_65 rfl (lv_at hl 1 rfl) ?_
      refine W.lcmp hx hb dX10_readWord_66 ?_
      refine lv_if_ne (tgt := 73) hx hb dX10_readWord_67 (by decide) (fun k3 => ?_) (fun k3 => ?_)
      rotate_left
      · replace h := z_pos k3 h
        refine lv_iload hx hb dX10_readWord_70 (lv_at hl 2 rfl) ?_
        exact hfin _ _ _ _ _ _ h rfl hP hD hS dX10_readWord_72
      replace h := z_neg k3 h
      refine lv_iinc (v := (x4 + 1)) (lv' := [(4, .int (x4 + 1)), (0, .ref (kw 0)), (1, .long x1)]) hx hb dX10_readWord_73 hl (k := 2) rfl rfl (by decide) rfl (fun ls hl => ?_)
      refine lv_goto (tgt := 53) hx hb dX10_readWord_76 (by decide) ?_
      exact ih bw x1 (x4 + 1) _ _ _ hP hD hS (lv_sub hl [1, 2, 0] rfl) h
  have b4 : ∀ n : Nat, ∀ (bw : zV) (x1 : Int64) (x3 : Int32) (H : Heap) (locs : List Loc) (ls : Array Slot), va_P D vwCl (zw_mo tt kw bw bj) H → va_D A (zw_mo tt kw bw bj) → va_S A s.heap H locs → lv_has ls 5 [(0, .ref (kw 0)), (1, .long x1), (3, .int x3)] → f_X10_readWord_b4 bj n bw x1 x3 = some out → W p l e (headSpec wsX10_readWord { frames := 1, cells := 0, slots := 0, locals := 22 }).room s m args below meth c H locs 0 0 Q (F0 m 4 ls []) := by
    intro n
    induction n with
    | zero =>
      intro bw x1 x3 H locs ls hP hD hS hl h
      cases h
    | succ n ih =>
      intro bw x1 x3 H locs ls hP hD hS hl h
      rw [f_X10_readWord_b4] at h
      refine lv_iload_n hx hb dX10_readWord_4 rfl (lv_at hl 2 rfl) ?_
      refine lv_iconst (v := 5) hx hb dX10_readWord_5 (by decide) ?_
      refine lv_icmp_ge (tgt := 50) hx hb dX10_readWord_6 (by decide) (fun k4 => ?_) (fun k4 => ?_)
      · replace h := z_pos k4 h
        refine lv_iconst (v := 0) hx hb dX10_readWord_50 (by decide) ?_
        refine lv_istore (lv' := [(4, .int 0), (0, .ref (kw 0)), (1, .long x1), (3, .int x3)]) hx hb dX10_readWord_51 hl (by decide) rfl (fun ls hl => ?_)
        exact b53 1000 bw x1 0 _ _ _ hP hD hS (lv_sub hl [1, 2, 0] rfl) h
      replace h := z_neg k4 h
      refine lv_aload_n hx hb dX10_readWord_9 rfl (lv_at hl 0 rfl) ?_
      obtain ⟨y5, gy5, h⟩ := zb_some h
      refine z_callr (va_runV (As := []) (rest := []) ⟨hx, hb, hml, hown, hts⟩ (c_X10_here l D tt kw bw bj y5 gy5) (cwV 0 hts gX10_readWord_X10_here rfl rfl rfl (by decide +kernel) ⟨Nat.le_of_ble_eq_true rfl, Nat.le_of_ble_eq_true rfl⟩) (z_preVr hK hP (ci := 10) (q0 := 0) rfl rfl) rfl rfl hl.1 rfl (lv_room (Nat.le_of_ble_eq_true rfl)) dX10_readWord_10 ⟨Nat.zero_le _, Nat.zero_le _⟩) (fun ny5 => ?_)
      refine lv_bipush (v := 97) hx hb dX10_readWord_13 (by decide) ?_
      refine lv_bipush (v := 122) hx hb dX10_readWord_15 (by decide) ?_
      obtain ⟨y6, gy6, h⟩ := zb_some h
      refine z_callr (va_runS (As := [.int y5, .int 97, .int 122]) (rest := []) ⟨hx, hb, hml, hown, hts⟩ (c_X10_in l D tt y5 97 122 y6 gy6) (va_cwS 3 hts gX10_readWord_X10_in rfl rfl rfl (by decide +kernel) ⟨Nat.le_of_ble_eq_true rfl, Nat.le_of_ble_eq_true rfl⟩) (z_preSr hK (hP.sub (ws' := ([] : va_W)) [] rfl)) rfl rfl hl.1 rfl (lv_room (Nat.le_of_ble_eq_true rfl)) dX10_readWord_17 ⟨Nat.zero_le _, Nat.zero_le _⟩) (fun ny6 => ?_)
      refine lv_if_eq (tgt := 50) hx hb dX10_readWord_20 (by decide) (fun k7 => ?_) (fun k7 => ?_)
      · replace h := z_pos k7 h
        refine lv_iconst (v := 0) hx hb dX10_readWord_50 (by decide) ?_
        refine lv_istore (lv' := [(4, .int 0), (0, .ref (kw 0)), (1, .long x1), (3, .int x3)]) hx hb dX10_readWord_51 hl (by decide) rfl (fun ls hl => ?_)
        exact b53 1000 bw x1 0 _ _ _ hP hD hS (lv_sub hl [1, 2, 0] rfl) h
      replace h := z_neg k7 h
      refine lv_lload_n hx hb dX10_readWord_23 rfl (lv_at hl 1 rfl) ?_
      refine lv_bipush (v := 8) hx hb dX10_readWord_24 (by decide) ?_
      refine lv_lshl hx hb dX10_readWord_26 rfl ?_
      refine lv_aload_n hx hb dX10_readWord_27 rfl (lv_at hl 0 rfl) ?_
      obtain ⟨y8, gy8, h⟩ := zb_some h
      refine z_callr (va_runV (As := []) (rest := [.long (x1 <<< (Int32.toInt64 8 &&& 63))]) ⟨hx, hb, hml, hown, hts⟩ (c_X10_here l D tt kw bw bj y8 gy8) (cwV 0 hts gX10_readWord_X10_here rfl rfl rfl (by decide +kernel) ⟨Nat.le_of_ble_eq_true rfl, Nat.le_of_ble_eq_true rfl⟩) (z_preVr hK hP (ci := 10) (q0 := 0) rfl rfl) rfl rfl hl.1 rfl (lv_room (Nat.le_of_ble_eq_true rfl)) dX10_readWord_28 ⟨Nat.zero_le _, Nat.zero_le _⟩) (fun ny8 => ?_)
      refine lv_i2l hx hb dX10_readWord_31 rfl ?_
      refine lv_lor hx hb dX10_readWord_32 ?_
      refine lv_lstore_n (lv' := [(1, .long ((x1 <<< (Int32.toInt64 8 &&& 63)) ||| (Int32.toInt64 y8))), (0, .ref (kw 0)), (3, .int x3)]) hx hb dX10_readWord_33 rfl hl (by decide) rfl (fun ls hl => ?_)
      refine lv_iinc (v := (x3 + 1)) (lv' := [(3, .int (x3 + 1)), (1, .long ((x1 <<< (Int32.toInt64 8 &&& 63)) ||| (Int32.toInt64 y8))), (0, .ref (kw 0))]) hx hb dX10_readWord_34 hl (k := 2) rfl rfl (by decide) rfl (fun ls hl => ?_)
      refine lv_aload_n hx hb dX10_readWord_37 rfl (lv_at hl 2 rfl) ?_
      refine lv_dup hx hb dX10_readWord_38 rfl ?_
      refine va_get (D := D) (ci := 10) (v := .int (bw 0 2)) (C := RX10) (T := TX10) (N := 15) hx hb hts hi10 hown hK.1 hP 0 rfl rfl 10 (by decide) fl193 (fun _ h9 => h9) rfl dX10_readWord_39 ?_
      refine lv_iconst (v := 1) hx hb dX10_readWord_42 (by decide) ?_
      refine lv_iadd hx hb dX10_readWord_43 ?_
      refine va_put (D := D) (ci := 10) (v := .int ((bw 0 2) + 1)) (ty := .int) (C := RX10) (T := TX10) (N := 15) hx hb hts hi10 tyX10 tyX10_ok nmX10 hown hK.1 hP hD hS 0 rfl rfl 10 (by decide) fl193 (fun _ h9 => h9) rfl (by decide +kernel) rfl rfl (Nat.le_of_ble_eq_true rfl) dX10_readWord_44 (fun H locs hP hD hS => ?_)
      have hP : va_P D vwCl (zw_mo tt kw (zu bw 0 (zu (bw 0) 2 ((bw 0 2) + 1))) bj) H := hP
      have hD : va_D A (zw_mo tt kw (zu bw 0 (zu (bw 0) 2 ((bw 0 2) + 1))) bj) := hD
      refine lv_goto (tgt := 4) hx hb dX10_readWord_47 (by decide) ?_
      exact ih (zu bw 0 (zu (bw 0) 2 ((bw 0 2) + 1))) ((x1 <<< (Int32.toInt64 8 &&& 63)) ||| (Int32.toInt64 y8)) (x3 + 1) _ _ _ hP hD hS (lv_sub hl [2, 1, 0] rfl) h
  have hl := lv_entry ([.ref (kw 0)]) (n := 5) (Nat.le_of_ble_eq_true rfl)
  refine W.eq (g2 := F0 m 0 ((lg_sl ([.ref (kw 0)]) ++ List.replicate (5 - (lg_sl ([.ref (kw 0)])).length) Slot.unset).toArray) []) (by rw [ha]; exact lg_entry_eq _ _ _) ?_
  generalize (lg_sl ([.ref (kw 0)]) ++ List.replicate (5 - (lg_sl ([.ref (kw 0)])).length) Slot.unset).toArray = ls at hl ⊢
  have hl : lv_has ls 5 [(0, .ref (kw 0))] := hl
  rw [f_X10_readWord] at h
  refine lv_lconst (v := 0) hx hb dX10_readWord_0 (by decide) ?_
  refine lv_lstore_n (lv' := [(1, .long (0 : Int64)), (0, .ref (kw 0))]) hx hb dX10_readWord_1 rfl hl (by decide) rfl (fun ls hl => ?_)
  refine lv_iconst (v := 0) hx hb dX10_readWord_2 (by decide) ?_
  refine lv_istore_n (lv' := [(3, .int 0), (1, .long (0 : Int64)), (0, .ref (kw 0))]) hx hb dX10_readWord_3 rfl hl (by decide) rfl (fun ls hl => ?_)
  exact b4 1000 bw (0 : Int64) 0 _ _ _ hP hD hS (lv_sub hl [2, 1, 0] rfl) h
set_option maxHeartbeats 4000000 in
set_option maxRecDepth 100000 in
theorem c_X10_command (l : Launch) (D : va_G) (tt : Nat → ClassId) (kw : Nat → Nat) (sz : Nat) (bw : zV) (bj : zJ)  (out : Int32 × zV) (h : f_X10_command bw bj = some out) : Met l yX10_command wsX10_command { frames := 5, cells := 0, slots := 0, locals := 114 } (zPm [.ref (kw 0)] D tt (zw_mo tt kw bw bj) sz) (zMi .int out.1 D (zw_mo tt kw out.2 bj) (va_A (zw_mo tt kw bw bj) sz)) 0 0 (va_A (zw_mo tt kw bw bj) sz) := by
  refine Met.ofW (cc := cX10_command) (maxL := 3) (ret := (some .int)) (by decide) rfl ?_
  intro p e s m args below meth c s₁ B hml hv
  obtain ⟨ha, hsz, hP, hK, hD0⟩ := hv
  have hx := B.exec
  have hb := B.bytes
  have hr := B.returns
  have hts := atoms_spec (ws := wsX10_command) B.pre
  have hown : s.vm.findClass RX10 = some m.cls := findClass_of_methodNamed B.named
  have hlocks := B.notSynchronized
  have hi10 : ∀ w ∈ u_ws RX10 TX10 15, w ∈ wsX10_command := fun _ h => List.mem_cons_of_mem _ (List.mem_append_right _ h)
  have fl196 := hts (.fieldLink RX10 196 "CapStacksModel" "isForm" "Z") (by decide +kernel)
  have fl35 := hts (.fieldLink RX10 35 "CapStacksModel" "numbers" "[I") (by decide +kernel)
  subst hsz
  have hD := hD0.self (sz := s.heap.size)
  generalize hAe : va_A (zw_mo tt kw bw bj) s.heap.size = A at hD ⊢
  have hA : ∀ q : Nat, s.heap.size ≤ q → A q := fun q h => by rw [← hAe]; exact Or.inr h
  have hS : va_S A s.heap s.heap [] := va_S.rf
  have hfin : ∀ (v : Int32) (bw : zV) (pc : Nat) (ls : Array Slot) (H : Heap) (locs : List Loc), some (v, bw) = some out → narrow .int (.int v) = .int v → va_P D vwCl (zw_mo tt kw bw bj) H → va_D A (zw_mo tt kw bw bj) → va_S A s.heap H locs → decode cX10_command pc = .ok (.ireturn, 1) → W p l e (headSpec wsX10_command { frames := 5, cells := 0, slots := 0, locals := 114 }).room s m args below meth c H locs 0 0 (MQ below (zMi .int out.1 D (zw_mo tt kw out.2 bj) A) args s 0 0 A) (F0 m pc ls [.int v]) := by
    intro v bw pc ls H locs he hn hP hD hS hd
    cases he
    exact W.zret hx hb hr hn (fun t ht hW => ⟨⟨_, (), rfl, ⟨rfl, hn⟩, by rw [ht]; exact hP, hD⟩, hS.F ht⟩) hS.2.2 hd
  generalize MQ below (zMi .int out.1 D (zw_mo tt kw out.2 bj) A) args s 0 0 A = Q at hfin ⊢
  have b20 : ∀ n : Nat, ∀ (bw : zV) (x1 : Int32) (x2 : Int32) (H : Heap) (locs : List Loc) (ls : Array Slot), va_P D vwCl (zw_mo tt kw bw bj) H → va_D A (zw_mo tt kw bw bj) → va_S A s.heap H locs → lv_has ls 3 [(0, .ref (kw 0)), (1, .int x1), (2, .int x2)] → f_X10_command_b20 bj n bw x1 x2 = some out → W p l e (headSpec wsX10_command { frames := 5, cells := 0, slots := 0, locals := 114 }).room s m args below meth c H locs 0 0 Q (F0 m 20 ls []) := by
    intro n
    induction n with
    | zero =>
      intro bw x1 x2 H locs ls hP hD hS hl h
      cases h
    | succ n ih =>
      intro bw x1 x2 H locs ls hP hD hS hl h
      rw [f_X10_command_b20] at h
      refine lv_iload_n hx hb dX10_command_20 rfl (lv_at hl 2 rfl) ?_
      refine lv_iload_n hx hb dX10_command_21 rfl (lv_at hl 1 rfl) ?_
      obtain ⟨y1, gy1, h⟩ := zb_some h
      refine z_callr (va_runS (As := [.int x1]) (rest := [.int x2]) ⟨hx, hb, hml, hown, hts⟩ (c_X10_manyOf l D tt x1 y1 gy1) (va_cwS 1 hts gX10_command_X10_manyOf rfl rfl rfl (by decide +kernel) ⟨Nat.le_of_ble_eq_true rfl, Nat.le_of_ble_eq_true rfl⟩) (z_preSr hK (hP.sub (ws' := ([] : va_W)) [] rfl)) rfl rfl hl.1 rfl (lv_room (Nat.le_of_ble_eq_true rfl)) dX10_command_22 ⟨Nat.zero_le _, Nat.zero_le _⟩) (fun ny1 => ?_)
      refine lv_icmp_ge (tgt := 44) hx hb dX10_command_25 (by decide) (fun k2 => ?_) (fun k2 => ?_)
      rotate_left
      · replace h := z_neg k2 h
        refine lv_aload_n hx hb dX10_command_28 rfl (lv_at hl 0 rfl) ?_
        refine va_get (D := D) (ci := 10) (v := .ref (kw 5)) (C := RX10) (T := TX10) (N := 15) hx hb hts hi10 hown hK.1 hP 0 rfl rfl 14 (by decide) fl35 (fun _ h9 => h9) rfl dX10_command_29 ?_
        refine lv_iload_n hx hb dX10_command_32 rfl (lv_at hl 2 rfl) ?_
        refine lv_aload_n hx hb dX10_command_33 rfl (lv_at hl 0 rfl) ?_
        obtain ⟨y18, gy18, h⟩ := zb_some h
        have hFc := z_free0 hD hS hA
        refine z_callmi (wc := (zw_mo tt kw bw bj)) (w1 := (zw_mo tt kw y18.2 bj)) (va_runV (As := []) (rest := [.int x2, .ref (kw 5)]) ⟨hx, hb, hml, hown, hts⟩ (c_X10_readNumber l D tt kw _ bw bj y18 gy18) (cwV 0 hts gX10_command_X10_readNumber rfl rfl rfl (by decide +kernel) ⟨Nat.le_of_ble_eq_true rfl, Nat.le_of_ble_eq_true rfl⟩) (z_preVm hK hP hD (ci := 10) (q0 := 0) rfl rfl) rfl rfl hl.1 rfl (lv_room (Nat.le_of_ble_eq_true rfl)) dX10_command_34 ⟨Nat.zero_le _, Nat.zero_le _⟩) hS hFc (fun H locs ny18 hP1 hD1 hk1 hS => ?_)
        have hP := hP1
        have hD := hD1.weaken (fun _ q _ h => hFc q.1 h)
        obtain ⟨q19, h⟩ := zA_some h
        refine va_iast hx hb hK.1 hP hD hS 5 0 rfl rfl q19 dX10_command_37 (fun H locs hP hD hS => ?_)
        obtain ⟨a20, ea20, h⟩ := zl_some h
        have hP : va_P D vwCl (zw_mo tt kw (zu y18.2 5 a20) bj) H := by rw [ea20]; exact hP
        have hD : va_D A (zw_mo tt kw (zu y18.2 5 a20) bj) := by rw [ea20]; exact hD
        clear ea20
        refine lv_iinc (v := (x2 + 1)) (lv' := [(2, .int (x2 + 1)), (0, .ref (kw 0)), (1, .int x1)]) hx hb dX10_command_38 hl (k := 2) rfl rfl (by decide) rfl (fun ls hl => ?_)
        refine lv_goto (tgt := 20) hx hb dX10_command_41 (by decide) ?_
        exact ih (zu y18.2 5 a20) x1 (x2 + 1) _ _ _ hP hD hS (lv_sub hl [1, 2, 0] rfl) h
      replace h := z_pos k2 h
      refine lv_aload_n hx hb dX10_command_44 rfl (lv_at hl 0 rfl) ?_
      refine lv_bipush (v := 59) hx hb dX10_command_45 (by decide) ?_
      obtain ⟨y3, gy3, h⟩ := zb_some h
      have hFc := z_free0 hD hS hA
      refine z_callmv (wc := (zw_mo tt kw bw bj)) (w1 := (zw_mo tt kw y3 bj)) (va_runV (As := [.int 59]) (rest := []) ⟨hx, hb, hml, hown, hts⟩ (c_X10_must l D tt kw _ bw bj 59 y3 gy3) (cwV 1 hts gX10_command_X10_must rfl rfl rfl (by decide +kernel) ⟨Nat.le_of_ble_eq_true rfl, Nat.le_of_ble_eq_true rfl⟩) (z_preVm hK hP hD (ci := 10) (q0 := 0) rfl rfl) rfl rfl hl.1 rfl (lv_room (Nat.le_of_ble_eq_true rfl)) dX10_command_47 ⟨Nat.zero_le _, Nat.zero_le _⟩) hS hFc (fun H locs hP1 hD1 hk1 hS => ?_)
      have hP := hP1
      have hD := hD1.weaken (fun _ q _ h => hFc q.1 h)
      refine lv_aload_n hx hb dX10_command_50 rfl (lv_at hl 0 rfl) ?_
      refine va_get (D := D) (ci := 10) (v := .int (y3 0 3)) (C := RX10) (T := TX10) (N := 15) hx hb hts hi10 hown hK.1 hP 0 rfl rfl 11 (by decide) fl196 (fun _ h9 => h9) rfl dX10_command_51 ?_
      refine lv_if_ne (tgt := 59) hx hb dX10_command_54 (by decide) (fun k4 => ?_) (fun k4 => ?_)
      rotate_left
      · replace h := z_pos k4 h
        refine lv_iconst (v := 0) hx hb dX10_command_57 (by decide) ?_
        exact hfin _ _ _ _ _ _ h rfl hP hD hS dX10_command_58
      replace h := z_neg k4 h
      refine lv_iload_n hx hb dX10_command_59 rfl (lv_at hl 1 rfl) ?_
      by_cases k5 : x1 = 0
      · replace h := z_pos k5 h
        rw [k5]
        refine lv_tableIn (off := 40) (tgt := 100) hx hb dX10_command_60 (by decide) (by decide) (by decide) (by decide) ?_
        refine lv_aload_n hx hb dX10_command_100 rfl (lv_at hl 0 rfl) ?_
        refine lv_aload_n hx hb dX10_command_101 rfl (lv_at hl 0 rfl) ?_
        refine va_get (D := D) (ci := 10) (v := .ref (kw 5)) (C := RX10) (T := TX10) (N := 15) hx hb hts hi10 hown hK.1 hP 0 rfl rfl 14 (by decide) fl35 (fun _ h9 => h9) rfl dX10_command_102 ?_
        refine lv_iconst (v := 0) hx hb dX10_command_105 (by decide) ?_
        refine va_iald hx hb hK.1 hP 5 0 rfl rfl (vp_in_lit 0 5 rfl) dX10_command_106 ?_
        refine lv_aload_n hx hb dX10_command_107 rfl (lv_at hl 0 rfl) ?_
        refine va_get (D := D) (ci := 10) (v := .ref (kw 5)) (C := RX10) (T := TX10) (N := 15) hx hb hts hi10 hown hK.1 hP 0 rfl rfl 14 (by decide) fl35 (fun _ h9 => h9) rfl dX10_command_108 ?_
        refine lv_iconst (v := 1) hx hb dX10_command_111 (by decide) ?_
        refine va_iald hx hb hK.1 hP 5 0 rfl rfl (vp_in_lit 1 5 rfl) dX10_command_112 ?_
        refine lv_aload_n hx hb dX10_command_113 rfl (lv_at hl 0 rfl) ?_
        refine va_get (D := D) (ci := 10) (v := .ref (kw 5)) (C := RX10) (T := TX10) (N := 15) hx hb hts hi10 hown hK.1 hP 0 rfl rfl 14 (by decide) fl35 (fun _ h9 => h9) rfl dX10_command_114 ?_
        refine lv_iconst (v := 2) hx hb dX10_command_117 (by decide) ?_
        refine va_iald hx hb hK.1 hP 5 0 rfl rfl (vp_in_lit 2 5 rfl) dX10_command_118 ?_
        obtain ⟨y6, gy6, h⟩ := zb_some h
        have hFc := z_free0 hD hS hA
        refine z_callmi (wc := (zw_mo tt kw y3 bj)) (w1 := (zw_mo tt kw y6.2 bj)) (va_runV (As := [.int ((y3 5) (0 : Int32).toNatClampNeg), .int ((y3 5) (1 : Int32).toNatClampNeg), .int ((y3 5) (2 : Int32).toNatClampNeg)]) (rest := []) ⟨hx, hb, hml, hown, hts⟩ (c_X10_issues l D tt kw _ y3 bj ((y3 5) (0 : Int32).toNatClampNeg) ((y3 5) (1 : Int32).toNatClampNeg) ((y3 5) (2 : Int32).toNatClampNeg) y6 gy6) (cwV 3 hts gX10_command_X10_issues rfl rfl rfl (by decide +kernel) ⟨Nat.le_of_ble_eq_true rfl, Nat.le_of_ble_eq_true rfl⟩) (z_preVm hK hP hD (ci := 10) (q0 := 0) rfl rfl) rfl rfl hl.1 rfl (lv_room (Nat.le_of_ble_eq_true rfl)) dX10_command_119 ⟨Nat.zero_le _, Nat.zero_le _⟩) hS hFc (fun H locs ny6 hP1 hD1 hk1 hS => ?_)
        have hP := hP1
        have hD := hD1.weaken (fun _ q _ h => hFc q.1 h)
        exact hfin _ _ _ _ _ _ h rfl hP hD hS dX10_command_122
      replace h := z_neg k5 h
      by_cases k7 : x1 = 1
      · replace h := z_pos k7 h
        rw [k7]
        refine lv_tableIn (off := 63) (tgt := 123) hx hb dX10_command_60 (by decide) (by decide) (by decide) (by decide) ?_
        refine lv_aload_n hx hb dX10_command_123 rfl (lv_at hl 0 rfl) ?_
        refine lv_aload_n hx hb dX10_command_124 rfl (lv_at hl 0 rfl) ?_
        refine va_get (D := D) (ci := 10) (v := .ref (kw 5)) (C := RX10) (T := TX10) (N := 15) hx hb hts hi10 hown hK.1 hP 0 rfl rfl 14 (by decide) fl35 (fun _ h9 => h9) rfl dX10_command_125 ?_
        refine lv_iconst (v := 0) hx hb dX10_command_128 (by decide) ?_
        refine va_iald hx hb hK.1 hP 5 0 rfl rfl (vp_in_lit 0 5 rfl) dX10_command_129 ?_
        refine lv_aload_n hx hb dX10_command_130 rfl (lv_at hl 0 rfl) ?_
        refine va_get (D := D) (ci := 10) (v := .ref (kw 5)) (C := RX10) (T := TX10) (N := 15) hx hb hts hi10 hown hK.1 hP 0 rfl rfl 14 (by decide) fl35 (fun _ h9 => h9) rfl dX10_command_131 ?_
        refine lv_iconst (v := 1) hx hb dX10_command_134 (by decide) ?_
        refine va_iald hx hb hK.1 hP 5 0 rfl rfl (vp_in_lit 1 5 rfl) dX10_command_135 ?_
        refine lv_aload_n hx hb dX10_command_136 rfl (lv_at hl 0 rfl) ?_
        refine va_get (D := D) (ci := 10) (v := .ref (kw 5)) (C := RX10) (T := TX10) (N := 15) hx hb hts hi10 hown hK.1 hP 0 rfl rfl 14 (by decide) fl35 (fun _ h9 => h9) rfl dX10_command_137 ?_
        refine lv_iconst (v := 2) hx hb dX10_command_140 (by decide) ?_
        refine va_iald hx hb hK.1 hP 5 0 rfl rfl (vp_in_lit 2 5 rfl) dX10_command_141 ?_
        obtain ⟨y8, gy8, h⟩ := zb_some h
        have hFc := z_free0 hD hS hA
        refine z_callmi (wc := (zw_mo tt kw y3 bj)) (w1 := (zw_mo tt kw y8.2 bj)) (va_runV (As := [.int ((y3 5) (0 : Int32).toNatClampNeg), .int ((y3 5) (1 : Int32).toNatClampNeg), .int ((y3 5) (2 : Int32).toNatClampNeg)]) (rest := []) ⟨hx, hb, hml, hown, hts⟩ (c_X10_splits l D tt kw _ y3 bj ((y3 5) (0 : Int32).toNatClampNeg) ((y3 5) (1 : Int32).toNatClampNeg) ((y3 5) (2 : Int32).toNatClampNeg) y8 gy8) (cwV 3 hts gX10_command_X10_splits rfl rfl rfl (by decide +kernel) ⟨Nat.le_of_ble_eq_true rfl, Nat.le_of_ble_eq_true rfl⟩) (z_preVm hK hP hD (ci := 10) (q0 := 0) rfl rfl) rfl rfl hl.1 rfl (lv_room (Nat.le_of_ble_eq_true rfl)) dX10_command_142 ⟨Nat.zero_le _, Nat.zero_le _⟩) hS hFc (fun H locs ny8 hP1 hD1 hk1 hS => ?_)
        have hP := hP1
        have hD := hD1.weaken (fun _ q _ h => hFc q.1 h)
        exact hfin _ _ _ _ _ _ h rfl hP hD hS dX10_command_145
      replace h := z_neg k7 h
      by_cases k9 : x1 = 2
      · replace h := z_pos k9 h
        rw [k9]
        refine lv_tableIn (off := 86) (tgt := 146) hx hb dX10_command_60 (by decide) (by decide) (by decide) (by decide) ?_
        refine lv_aload_n hx hb dX10_command_146 rfl (lv_at hl 0 rfl) ?_
        refine lv_aload_n hx hb dX10_command_147 rfl (lv_at hl 0 rfl) ?_
        refine va_get (D := D) (ci := 10) (v := .ref (kw 5)) (C := RX10) (T := TX10) (N := 15) hx hb hts hi10 hown hK.1 hP 0 rfl rfl 14 (by decide) fl35 (fun _ h9 => h9) rfl dX10_command_148 ?_
        refine lv_iconst (v := 0) hx hb dX10_command_151 (by decide) ?_
        refine va_iald hx hb hK.1 hP 5 0 rfl rfl (vp_in_lit 0 5 rfl) dX10_command_152 ?_
        refine lv_aload_n hx hb dX10_command_153 rfl (lv_at hl 0 rfl) ?_
        refine va_get (D := D) (ci := 10) (v := .ref (kw 5)) (C := RX10) (T := TX10) (N := 15) hx hb hts hi10 hown hK.1 hP 0 rfl rfl 14 (by decide) fl35 (fun _ h9 => h9) rfl dX10_command_154 ?_
        refine lv_iconst (v := 1) hx hb dX10_command_157 (by decide) ?_
        refine va_iald hx hb hK.1 hP 5 0 rfl rfl (vp_in_lit 1 5 rfl) dX10_command_158 ?_
        obtain ⟨y10, gy10, h⟩ := zb_some h
        have hFc := z_free0 hD hS hA
        refine z_callmi (wc := (zw_mo tt kw y3 bj)) (w1 := (zw_mo tt kw y10.2 bj)) (va_runV (As := [.int ((y3 5) (0 : Int32).toNatClampNeg), .int ((y3 5) (1 : Int32).toNatClampNeg)]) (rest := []) ⟨hx, hb, hml, hown, hts⟩ (c_X10_buys l D tt kw _ y3 bj ((y3 5) (0 : Int32).toNatClampNeg) ((y3 5) (1 : Int32).toNatClampNeg) y10 gy10) (cwV 2 hts gX10_command_X10_buys rfl rfl rfl (by decide +kernel) ⟨Nat.le_of_ble_eq_true rfl, Nat.le_of_ble_eq_true rfl⟩) (z_preVm hK hP hD (ci := 10) (q0 := 0) rfl rfl) rfl rfl hl.1 rfl (lv_room (Nat.le_of_ble_eq_true rfl)) dX10_command_159 ⟨Nat.zero_le _, Nat.zero_le _⟩) hS hFc (fun H locs ny10 hP1 hD1 hk1 hS => ?_)
        have hP := hP1
        have hD := hD1.weaken (fun _ q _ h => hFc q.1 h)
        exact hfin _ _ _ _ _ _ h rfl hP hD hS dX10_command_162
      replace h := z_neg k9 h
      by_cases k11 : x1 = 3
      · replace h := z_pos k11 h
        rw [k11]
        refine lv_tableIn (off := 103) (tgt := 163) hx hb dX10_command_60 (by decide) (by decide) (by decide) (by decide) ?_
        refine lv_aload_n hx hb dX10_command_163 rfl (lv_at hl 0 rfl) ?_
        refine lv_aload_n hx hb dX10_command_164 rfl (lv_at hl 0 rfl) ?_
        refine va_get (D := D) (ci := 10) (v := .ref (kw 5)) (C := RX10) (T := TX10) (N := 15) hx hb hts hi10 hown hK.1 hP 0 rfl rfl 14 (by decide) fl35 (fun _ h9 => h9) rfl dX10_command_165 ?_
        refine lv_iconst (v := 0) hx hb dX10_command_168 (by decide) ?_
        refine va_iald hx hb hK.1 hP 5 0 rfl rfl (vp_in_lit 0 5 rfl) dX10_command_169 ?_
        refine lv_aload_n hx hb dX10_command_170 rfl (lv_at hl 0 rfl) ?_
        refine va_get (D := D) (ci := 10) (v := .ref (kw 5)) (C := RX10) (T := TX10) (N := 15) hx hb hts hi10 hown hK.1 hP 0 rfl rfl 14 (by decide) fl35 (fun _ h9 => h9) rfl dX10_command_171 ?_
        refine lv_iconst (v := 1) hx hb dX10_command_174 (by decide) ?_
        refine va_iald hx hb hK.1 hP 5 0 rfl rfl (vp_in_lit 1 5 rfl) dX10_command_175 ?_
        refine lv_aload_n hx hb dX10_command_176 rfl (lv_at hl 0 rfl) ?_
        refine va_get (D := D) (ci := 10) (v := .ref (kw 5)) (C := RX10) (T := TX10) (N := 15) hx hb hts hi10 hown hK.1 hP 0 rfl rfl 14 (by decide) fl35 (fun _ h9 => h9) rfl dX10_command_177 ?_
        refine lv_iconst (v := 2) hx hb dX10_command_180 (by decide) ?_
        refine va_iald hx hb hK.1 hP 5 0 rfl rfl (vp_in_lit 2 5 rfl) dX10_command_181 ?_
        refine lv_aload_n hx hb dX10_command_182 rfl (lv_at hl 0 rfl) ?_
        refine va_get (D := D) (ci := 10) (v := .ref (kw 5)) (C := RX10) (T := TX10) (N := 15) hx hb hts hi10 hown hK.1 hP 0 rfl rfl 14 (by decide) fl35 (fun _ h9 => h9) rfl dX10_command_183 ?_
        refine lv_iconst (v := 3) hx hb dX10_command_186 (by decide) ?_
        refine va_iald hx hb hK.1 hP 5 0 rfl rfl (vp_in_lit 3 5 rfl) dX10_command_187 ?_
        refine lv_aload_n hx hb dX10_command_188 rfl (lv_at hl 0 rfl) ?_
        refine va_get (D := D) (ci := 10) (v := .ref (kw 5)) (C := RX10) (T := TX10) (N := 15) hx hb hts hi10 hown hK.1 hP 0 rfl rfl 14 (by decide) fl35 (fun _ h9 => h9) rfl dX10_command_189 ?_
        refine lv_iconst (v := 4) hx hb dX10_command_192 (by decide) ?_
        refine va_iald hx hb hK.1 hP 5 0 rfl rfl (vp_in_lit 4 5 rfl) dX10_command_193 ?_
        obtain ⟨y12, gy12, h⟩ := zb_some h
        have hFc := z_free0 hD hS hA
        refine z_callmi (wc := (zw_mo tt kw y3 bj)) (w1 := (zw_mo tt kw y12.2 bj)) (va_runV (As := [.int ((y3 5) (0 : Int32).toNatClampNeg), .int ((y3 5) (1 : Int32).toNatClampNeg), .int ((y3 5) (2 : Int32).toNatClampNeg), .int ((y3 5) (3 : Int32).toNatClampNeg), .int ((y3 5) (4 : Int32).toNatClampNeg)]) (rest := []) ⟨hx, hb, hml, hown, hts⟩ (c_X10_grants l D tt kw _ y3 bj ((y3 5) (0 : Int32).toNatClampNeg) ((y3 5) (1 : Int32).toNatClampNeg) ((y3 5) (2 : Int32).toNatClampNeg) ((y3 5) (3 : Int32).toNatClampNeg) ((y3 5) (4 : Int32).toNatClampNeg) y12 gy12) (cwV 5 hts gX10_command_X10_grants rfl rfl rfl (by decide +kernel) ⟨Nat.le_of_ble_eq_true rfl, Nat.le_of_ble_eq_true rfl⟩) (z_preVm hK hP hD (ci := 10) (q0 := 0) rfl rfl) rfl rfl hl.1 rfl (lv_room (Nat.le_of_ble_eq_true rfl)) dX10_command_194 ⟨Nat.zero_le _, Nat.zero_le _⟩) hS hFc (fun H locs ny12 hP1 hD1 hk1 hS => ?_)
        have hP := hP1
        have hD := hD1.weaken (fun _ q _ h => hFc q.1 h)
        exact hfin _ _ _ _ _ _ h rfl hP hD hS dX10_command_197
      replace h := z_neg k11 h
      by_cases k13 : x1 = 4
      · replace h := z_pos k13 h
        rw [k13]
        refine lv_tableIn (off := 138) (tgt := 198) hx hb dX10_command_60 (by decide) (by decide) (by decide) (by decide) ?_
        refine lv_aload_n hx hb dX10_command_198 rfl (lv_at hl 0 rfl) ?_
        refine lv_aload_n hx hb dX10_command_199 rfl (lv_at hl 0 rfl) ?_
        refine va_get (D := D) (ci := 10) (v := .ref (kw 5)) (C := RX10) (T := TX10) (N := 15) hx hb hts hi10 hown hK.1 hP 0 rfl rfl 14 (by decide) fl35 (fun _ h9 => h9) rfl dX10_command_200 ?_
        refine lv_iconst (v := 0) hx hb dX10_command_203 (by decide) ?_
        refine va_iald hx hb hK.1 hP 5 0 rfl rfl (vp_in_lit 0 5 rfl) dX10_command_204 ?_
        refine lv_aload_n hx hb dX10_command_205 rfl (lv_at hl 0 rfl) ?_
        refine va_get (D := D) (ci := 10) (v := .ref (kw 5)) (C := RX10) (T := TX10) (N := 15) hx hb hts hi10 hown hK.1 hP 0 rfl rfl 14 (by decide) fl35 (fun _ h9 => h9) rfl dX10_command_206 ?_
        refine lv_iconst (v := 1) hx hb dX10_command_209 (by decide) ?_
        refine va_iald hx hb hK.1 hP 5 0 rfl rfl (vp_in_lit 1 5 rfl) dX10_command_210 ?_
        obtain ⟨y14, gy14, h⟩ := zb_some h
        have hFc := z_free0 hD hS hA
        refine z_callmi (wc := (zw_mo tt kw y3 bj)) (w1 := (zw_mo tt kw y14.2 bj)) (va_runV (As := [.int ((y3 5) (0 : Int32).toNatClampNeg), .int ((y3 5) (1 : Int32).toNatClampNeg)]) (rest := []) ⟨hx, hb, hml, hown, hts⟩ (c_X10_takes l D tt kw _ y3 bj ((y3 5) (0 : Int32).toNatClampNeg) ((y3 5) (1 : Int32).toNatClampNeg) y14 gy14) (cwV 2 hts gX10_command_X10_takes rfl rfl rfl (by decide +kernel) ⟨Nat.le_of_ble_eq_true rfl, Nat.le_of_ble_eq_true rfl⟩) (z_preVm hK hP hD (ci := 10) (q0 := 0) rfl rfl) rfl rfl hl.1 rfl (lv_room (Nat.le_of_ble_eq_true rfl)) dX10_command_211 ⟨Nat.zero_le _, Nat.zero_le _⟩) hS hFc (fun H locs ny14 hP1 hD1 hk1 hS => ?_)
        have hP := hP1
        have hD := hD1.weaken (fun _ q _ h => hFc q.1 h)
        exact hfin _ _ _ _ _ _ h rfl hP hD hS dX10_command_214
      replace h := z_neg k13 h
      by_cases k15 : x1 = 5
      · replace h := z_pos k15 h
        rw [k15]
        refine lv_tableIn (off := 155) (tgt := 215) hx hb dX10_command_60 (by decide) (by decide) (by decide) (by decide) ?_
        refine lv_aload_n hx hb dX10_command_215 rfl (lv_at hl 0 rfl) ?_
        refine lv_aload_n hx hb dX10_command_216 rfl (lv_at hl 0 rfl) ?_
        refine va_get (D := D) (ci := 10) (v := .ref (kw 5)) (C := RX10) (T := TX10) (N := 15) hx hb hts hi10 hown hK.1 hP 0 rfl rfl 14 (by decide) fl35 (fun _ h9 => h9) rfl dX10_command_217 ?_
        refine lv_iconst (v := 0) hx hb dX10_command_220 (by decide) ?_
        refine va_iald hx hb hK.1 hP 5 0 rfl rfl (vp_in_lit 0 5 rfl) dX10_command_221 ?_
        obtain ⟨y16, gy16, h⟩ := zb_some h
        have hFc := z_free0 hD hS hA
        refine z_callmi (wc := (zw_mo tt kw y3 bj)) (w1 := (zw_mo tt kw y16.2 bj)) (va_runV (As := [.int ((y3 5) (0 : Int32).toNatClampNeg)]) (rest := []) ⟨hx, hb, hml, hown, hts⟩ (c_X10_leaves l D tt kw _ y3 bj ((y3 5) (0 : Int32).toNatClampNeg) y16 gy16) (cwV 1 hts gX10_command_X10_leaves rfl rfl rfl (by decide +kernel) ⟨Nat.le_of_ble_eq_true rfl, Nat.le_of_ble_eq_true rfl⟩) (z_preVm hK hP hD (ci := 10) (q0 := 0) rfl rfl) rfl rfl hl.1 rfl (lv_room (Nat.le_of_ble_eq_true rfl)) dX10_command_222 ⟨Nat.zero_le _, Nat.zero_le _⟩) hS hFc (fun H locs ny16 hP1 hD1 hk1 hS => ?_)
        have hP := hP1
        have hD := hD1.weaken (fun _ q _ h => hFc q.1 h)
        exact hfin _ _ _ _ _ _ h rfl hP hD hS dX10_command_225
      replace h := z_neg k15 h
      have ek5 : Int32.toInt x1 ≠ 0 := fun e => k5 (Int32.toInt_inj.mp (e.trans (by decide)))
      have ek7 : Int32.toInt x1 ≠ 1 := fun e => k7 (Int32.toInt_inj.mp (e.trans (by decide)))
      have ek9 : Int32.toInt x1 ≠ 2 := fun e => k9 (Int32.toInt_inj.mp (e.trans (by decide)))
      have ek11 : Int32.toInt x1 ≠ 3 := fun e => k11 (Int32.toInt_inj.mp (e.trans (by decide)))
      have ek13 : Int32.toInt x1 ≠ 4 := fun e => k13 (Int32.toInt_inj.mp (e.trans (by decide)))
      have ek15 : Int32.toInt x1 ≠ 5 := fun e => k15 (Int32.toInt_inj.mp (e.trans (by decide)))
      refine lv_tableOut (tgt := 226) hx hb dX10_command_60 (by omega) (by decide) ?_
      refine lv_aload_n hx hb dX10_command_226 rfl (lv_at hl 0 rfl) ?_
      refine lv_aload_n hx hb dX10_command_227 rfl (lv_at hl 0 rfl) ?_
      refine va_get (D := D) (ci := 10) (v := .ref (kw 5)) (C := RX10) (T := TX10) (N := 15) hx hb hts hi10 hown hK.1 hP 0 rfl rfl 14 (by decide) fl35 (fun _ h9 => h9) rfl dX10_command_228 ?_
      refine lv_iconst (v := 0) hx hb dX10_command_231 (by decide) ?_
      refine va_iald hx hb hK.1 hP 5 0 rfl rfl (vp_in_lit 0 5 rfl) dX10_command_232 ?_
      obtain ⟨y17, gy17, h⟩ := zb_some h
      have hFc := z_free0 hD hS hA
      refine z_callmi (wc := (zw_mo tt kw y3 bj)) (w1 := (zw_mo tt kw y17.2 bj)) (va_runV (As := [.int ((y3 5) (0 : Int32).toNatClampNeg)]) (rest := []) ⟨hx, hb, hml, hown, hts⟩ (c_X10_passes l D tt kw _ y3 bj ((y3 5) (0 : Int32).toNatClampNeg) y17 gy17) (cwV 1 hts gX10_command_X10_passes rfl rfl rfl (by decide +kernel) ⟨Nat.le_of_ble_eq_true rfl, Nat.le_of_ble_eq_true rfl⟩) (z_preVm hK hP hD (ci := 10) (q0 := 0) rfl rfl) rfl rfl hl.1 rfl (lv_room (Nat.le_of_ble_eq_true rfl)) dX10_command_233 ⟨Nat.zero_le _, Nat.zero_le _⟩) hS hFc (fun H locs ny17 hP1 hD1 hk1 hS => ?_)
      have hP := hP1
      have hD := hD1.weaken (fun _ q _ h => hFc q.1 h)
      exact hfin _ _ _ _ _ _ h rfl hP hD hS dX10_command_236
  have hl := lv_entry ([.ref (kw 0)]) (n := 3) (Nat.le_of_ble_eq_true rfl)
  refine W.eq (g2 := F0 m 0 ((lg_sl ([.ref (kw 0)]) ++ List.replicate (3 - (lg_sl ([.ref (kw 0)])).length) Slot.unset).toArray) []) (by rw [ha]; exact lg_entry_eq _ _ _) ?_
  generalize (lg_sl ([.ref (kw 0)]) ++ List.replicate (3 - (lg_sl ([.ref (kw 0)])).length) Slot.unset).toArray = ls at hl ⊢
  have hl : lv_has ls 3 [(0, .ref (kw 0))] := hl
  rw [f_X10_command] at h
  refine lv_aload_n hx hb dX10_command_0 rfl (lv_at hl 0 rfl) ?_
  obtain ⟨y21, gy21, h⟩ := zb_some h
  have hFc := z_free0 hD hS hA
  refine z_callmi (wc := (zw_mo tt kw bw bj)) (w1 := (zw_mo tt kw y21.2 bj)) (va_runV (As := []) (rest := []) ⟨hx, hb, hml, hown, hts⟩ (c_X10_readWord l D tt kw _ bw bj y21 gy21) (cwV 0 hts gX10_command_X10_readWord rfl rfl rfl (by decide +kernel) ⟨Nat.le_of_ble_eq_true rfl, Nat.le_of_ble_eq_true rfl⟩) (z_preVm hK hP hD (ci := 10) (q0 := 0) rfl rfl) rfl rfl hl.1 rfl (lv_room (Nat.le_of_ble_eq_true rfl)) dX10_command_1 ⟨Nat.zero_le _, Nat.zero_le _⟩) hS hFc (fun H locs ny21 hP1 hD1 hk1 hS => ?_)
  have hP := hP1
  have hD := hD1.weaken (fun _ q _ h => hFc q.1 h)
  refine lv_istore_n (lv' := [(1, .int y21.1), (0, .ref (kw 0))]) hx hb dX10_command_4 rfl hl (by decide) rfl (fun ls hl => ?_)
  refine lv_aload_n hx hb dX10_command_5 rfl (lv_at hl 1 rfl) ?_
  refine lv_iload_n hx hb dX10_command_6 rfl (lv_at hl 0 rfl) ?_
  refine lv_if_lt (tgt := 14) hx hb dX10_command_7 (by decide) (fun k22 => ?_) (fun k22 => ?_)
  · replace h := z_pos k22 h
    refine lv_iconst (v := 0) hx hb dX10_command_14 (by decide) ?_
    refine va_put (D := D) (ci := 10) (v := .int 0) (ty := .boolean) (C := RX10) (T := TX10) (N := 15) hx hb hts hi10 tyX10 tyX10_ok nmX10 hown hK.1 hP hD hS 0 rfl rfl 11 (by decide) fl196 (fun _ h9 => h9) rfl (by decide +kernel) rfl rfl (Nat.le_of_ble_eq_true rfl) dX10_command_15 (fun H locs hP hD hS => ?_)
    have hP : va_P D vwCl (zw_mo tt kw (zu y21.2 0 (zu (y21.2 0) 3 0)) bj) H := hP
    have hD : va_D A (zw_mo tt kw (zu y21.2 0 (zu (y21.2 0) 3 0)) bj) := hD
    refine lv_iconst (v := 0) hx hb dX10_command_18 (by decide) ?_
    refine lv_istore_n (lv' := [(2, .int 0), (1, .int y21.1), (0, .ref (kw 0))]) hx hb dX10_command_19 rfl hl (by decide) rfl (fun ls hl => ?_)
    exact b20 1000 (zu y21.2 0 (zu (y21.2 0) 3 0)) y21.1 0 _ _ _ hP hD hS (lv_sub hl [2, 1, 0] rfl) h
  replace h := z_neg k22 h
  refine lv_iconst (v := 1) hx hb dX10_command_10 (by decide) ?_
  refine lv_goto (tgt := 15) hx hb dX10_command_11 (by decide) ?_
  refine va_put (D := D) (ci := 10) (v := .int 1) (ty := .boolean) (C := RX10) (T := TX10) (N := 15) hx hb hts hi10 tyX10 tyX10_ok nmX10 hown hK.1 hP hD hS 0 rfl rfl 11 (by decide) fl196 (fun _ h9 => h9) rfl (by decide +kernel) rfl rfl (Nat.le_of_ble_eq_true rfl) dX10_command_15 (fun H locs hP hD hS => ?_)
  have hP : va_P D vwCl (zw_mo tt kw (zu y21.2 0 (zu (y21.2 0) 3 1)) bj) H := hP
  have hD : va_D A (zw_mo tt kw (zu y21.2 0 (zu (y21.2 0) 3 1)) bj) := hD
  refine lv_iconst (v := 0) hx hb dX10_command_18 (by decide) ?_
  refine lv_istore_n (lv' := [(2, .int 0), (1, .int y21.1), (0, .ref (kw 0))]) hx hb dX10_command_19 rfl hl (by decide) rfl (fun ls hl => ?_)
  exact b20 1000 (zu y21.2 0 (zu (y21.2 0) 3 1)) y21.1 0 _ _ _ hP hD hS (lv_sub hl [2, 1, 0] rfl) h
set_option maxHeartbeats 4000000 in
set_option maxRecDepth 100000 in
theorem c_X10_does (l : Launch) (D : va_G) (tt : Nat → ClassId) (kw : Nat → Nat) (sz : Nat) (bw : zV) (bj : zJ)  (out : Int32 × zV) (h : f_X10_does bw bj = some out) : Met l yX10_does wsX10_does { frames := 6, cells := 0, slots := 0, locals := 136 } (zPm [.ref (kw 0)] D tt (zw_mo tt kw bw bj) sz) (zMi .int out.1 D (zw_mo tt kw out.2 bj) (va_A (zw_mo tt kw bw bj) sz)) 0 0 (va_A (zw_mo tt kw bw bj) sz) := by
  refine Met.ofW (cc := cX10_does) (maxL := 3) (ret := (some .int)) (by decide) rfl ?_
  intro p e s m args below meth c s₁ B hml hv
  obtain ⟨ha, hsz, hP, hK, hD0⟩ := hv
  have hx := B.exec
  have hb := B.bytes
  have hr := B.returns
  have hts := atoms_spec (ws := wsX10_does) B.pre
  have hown : s.vm.findClass RX10 = some m.cls := findClass_of_methodNamed B.named
  have hlocks := B.notSynchronized
  have hi10 : ∀ w ∈ u_ws RX10 TX10 15, w ∈ wsX10_does := fun _ h => List.mem_cons_of_mem _ (List.mem_append_right _ h)
  have fl155 := hts (.fieldLink RX10 155 "CapStacksModel" "length" "I") (by decide +kernel)
  have fl193 := hts (.fieldLink RX10 193 "CapStacksModel" "at" "I") (by decide +kernel)
  have fl196 := hts (.fieldLink RX10 196 "CapStacksModel" "isForm" "Z") (by decide +kernel)
  have fl237 := hts (.fieldLink RX10 237 "CapStacksModel" "cause" "I") (by decide +kernel)
  have fl240 := hts (.fieldLink RX10 240 "CapStacksModel" "reason" "I") (by decide +kernel)
  subst hsz
  have hD := hD0.self (sz := s.heap.size)
  generalize hAe : va_A (zw_mo tt kw bw bj) s.heap.size = A at hD ⊢
  have hA : ∀ q : Nat, s.heap.size ≤ q → A q := fun q h => by rw [← hAe]; exact Or.inr h
  have hS : va_S A s.heap s.heap [] := va_S.rf
  have hfin : ∀ (v : Int32) (bw : zV) (pc : Nat) (ls : Array Slot) (H : Heap) (locs : List Loc), some (v, bw) = some out → narrow .int (.int v) = .int v → va_P D vwCl (zw_mo tt kw bw bj) H → va_D A (zw_mo tt kw bw bj) → va_S A s.heap H locs → decode cX10_does pc = .ok (.ireturn, 1) → W p l e (headSpec wsX10_does { frames := 6, cells := 0, slots := 0, locals := 136 }).room s m args below meth c H locs 0 0 (MQ below (zMi .int out.1 D (zw_mo tt kw out.2 bj) A) args s 0 0 A) (F0 m pc ls [.int v]) := by
    intro v bw pc ls H locs he hn hP hD hS hd
    cases he
    exact W.zret hx hb hr hn (fun t ht hW => ⟨⟨_, (), rfl, ⟨rfl, hn⟩, by rw [ht]; exact hP, hD⟩, hS.F ht⟩) hS.2.2 hd
  generalize MQ below (zMi .int out.1 D (zw_mo tt kw out.2 bj) A) args s 0 0 A = Q at hfin ⊢
  have b7 : ∀ n : Nat, ∀ (bw : zV) (x1 : Int32) (H : Heap) (locs : List Loc) (ls : Array Slot), va_P D vwCl (zw_mo tt kw bw bj) H → va_D A (zw_mo tt kw bw bj) → va_S A s.heap H locs → lv_has ls 3 [(0, .ref (kw 0)), (1, .int x1)] → f_X10_does_b7 bj n bw x1 = some out → W p l e (headSpec wsX10_does { frames := 6, cells := 0, slots := 0, locals := 136 }).room s m args below meth c H locs 0 0 Q (F0 m 7 ls []) := by
    intro n
    induction n with
    | zero =>
      intro bw x1 H locs ls hP hD hS hl h
      cases h
    | succ n ih =>
      intro bw x1 H locs ls hP hD hS hl h
      rw [f_X10_does_b7] at h
      refine lv_aload_n hx hb dX10_does_7 rfl (lv_at hl 0 rfl) ?_
      refine va_get (D := D) (ci := 10) (v := .int (bw 0 2)) (C := RX10) (T := TX10) (N := 15) hx hb hts hi10 hown hK.1 hP 0 rfl rfl 10 (by decide) fl193 (fun _ h9 => h9) rfl dX10_does_8 ?_
      refine lv_aload_n hx hb dX10_does_11 rfl (lv_at hl 0 rfl) ?_
      refine va_get (D := D) (ci := 10) (v := .int (bw 0 1)) (C := RX10) (T := TX10) (N := 15) hx hb hts hi10 hown hK.1 hP 0 rfl rfl 5 (by decide) fl155 (fun _ h9 => h9) rfl dX10_does_12 ?_
      refine lv_icmp_ge (tgt := 73) hx hb dX10_does_15 (by decide) (fun k1 => ?_) (fun k1 => ?_)
      · replace h := z_pos k1 h
        refine lv_iconst (v := (-1)) hx hb dX10_does_73 (by decide) ?_
        refine lv_iload_n hx hb dX10_does_74 rfl (lv_at hl 1 rfl) ?_
        refine lv_isub hx hb dX10_does_75 ?_
        exact hfin _ _ _ _ _ _ h rfl hP hD hS dX10_does_76
      replace h := z_neg k1 h
      refine lv_aload_n hx hb dX10_does_18 rfl (lv_at hl 0 rfl) ?_
      refine va_get (D := D) (ci := 10) (v := .int (bw 0 2)) (C := RX10) (T := TX10) (N := 15) hx hb hts hi10 hown hK.1 hP 0 rfl rfl 10 (by decide) fl193 (fun _ h9 => h9) rfl dX10_does_19 ?_
      refine lv_istore_n (lv' := [(2, .int (bw 0 2)), (0, .ref (kw 0)), (1, .int x1)]) hx hb dX10_does_22 rfl hl (by decide) rfl (fun ls hl => ?_)
      refine lv_aload_n hx hb dX10_does_23 rfl (lv_at hl 1 rfl) ?_
      refine lv_aload_n hx hb dX10_does_24 rfl (lv_at hl 1 rfl) ?_
      obtain ⟨y2, gy2, h⟩ := zb_some h
      have hFc := z_free0 hD hS hA
      refine z_callmi (wc := (zw_mo tt kw bw bj)) (w1 := (zw_mo tt kw y2.2 bj)) (va_runV (As := []) (rest := [.ref (kw 0)]) ⟨hx, hb, hml, hown, hts⟩ (c_X10_command l D tt kw _ bw bj y2 gy2) (cwV 0 hts gX10_does_X10_command rfl rfl rfl (by decide +kernel) ⟨Nat.le_of_ble_eq_true rfl, Nat.le_of_ble_eq_true rfl⟩) (z_preVm hK hP hD (ci := 10) (q0 := 0) rfl rfl) rfl rfl hl.1 rfl (lv_room (Nat.le_of_ble_eq_true rfl)) dX10_does_25 ⟨Nat.zero_le _, Nat.zero_le _⟩) hS hFc (fun H locs ny2 hP1 hD1 hk1 hS => ?_)
      have hP := hP1
      have hD := hD1.weaken (fun _ q _ h => hFc q.1 h)
      refine va_put (D := D) (ci := 10) (v := .int y2.1) (ty := .int) (C := RX10) (T := TX10) (N := 15) hx hb hts hi10 tyX10 tyX10_ok nmX10 hown hK.1 hP hD hS 0 rfl rfl 13 (by decide) fl237 (fun _ h9 => h9) rfl (by decide +kernel) rfl rfl (Nat.le_of_ble_eq_true rfl) dX10_does_28 (fun H locs hP hD hS => ?_)
      have hP : va_P D vwCl (zw_mo tt kw (zu y2.2 0 (zu (y2.2 0) 5 y2.1)) bj) H := hP
      have hD : va_D A (zw_mo tt kw (zu y2.2 0 (zu (y2.2 0) 5 y2.1)) bj) := hD
      refine lv_aload_n hx hb dX10_does_31 rfl (lv_at hl 1 rfl) ?_
      refine lv_aload_n hx hb dX10_does_32 rfl (lv_at hl 1 rfl) ?_
      refine va_get (D := D) (ci := 10) (v := .int (y2.2 0 3)) (C := RX10) (T := TX10) (N := 15) hx hb hts hi10 hown hK.1 hP 0 rfl rfl 11 (by decide) fl196 (fun _ h9 => h9) rfl dX10_does_33 ?_
      refine lv_if_ne (tgt := 43) hx hb dX10_does_36 (by decide) (fun k3 => ?_) (fun k3 => ?_)
      rotate_left
      · replace h := z_pos k3 h
        refine lv_iconst (v := 1) hx hb dX10_does_39 (by decide) ?_
        refine lv_goto (tgt := 55) hx hb dX10_does_40 (by decide) ?_
        refine va_put (D := D) (ci := 10) (v := .int 1) (ty := .int) (C := RX10) (T := TX10) (N := 15) hx hb hts hi10 tyX10 tyX10_ok nmX10 hown hK.1 hP hD hS 0 rfl rfl 12 (by decide) fl240 (fun _ h9 => h9) rfl (by decide +kernel) rfl rfl (Nat.le_of_ble_eq_true rfl) dX10_does_55 (fun H locs hP hD hS => ?_)
        have hP : va_P D vwCl (zw_mo tt kw (zu y2.2 0 (zu (zu (y2.2 0) 4 1) 5 y2.1)) bj) H := hP
        have hD : va_D A (zw_mo tt kw (zu y2.2 0 (zu (zu (y2.2 0) 4 1) 5 y2.1)) bj) := hD
        refine lv_aload_n hx hb dX10_does_58 rfl (lv_at hl 1 rfl) ?_
        refine va_get (D := D) (ci := 10) (v := .int 1) (C := RX10) (T := TX10) (N := 15) hx hb hts hi10 hown hK.1 hP 0 rfl rfl 12 (by decide) fl240 (fun _ h9 => h9) rfl dX10_does_59 ?_
        refine lv_if_le (tgt := 67) hx hb dX10_does_62 (by decide) (fun k7 => ?_) (fun k7 => ?_)
        rotate_left
        · replace h := z_neg k7 h
          refine lv_iload_n hx hb dX10_does_65 rfl (lv_at hl 0 rfl) ?_
          exact hfin _ _ _ _ _ _ h rfl hP hD hS dX10_does_66
        replace h := z_pos k7 h
        refine lv_iinc (v := (x1 + 1)) (lv' := [(1, .int (x1 + 1)), (2, .int (bw 0 2)), (0, .ref (kw 0))]) hx hb dX10_does_67 hl (k := 2) rfl rfl (by decide) rfl (fun ls hl => ?_)
        refine lv_goto (tgt := 7) hx hb dX10_does_70 (by decide) ?_
        exact ih (zu y2.2 0 (zu (zu (y2.2 0) 4 1) 5 y2.1)) (x1 + 1) _ _ _ hP hD hS (lv_sub hl [2, 0] rfl) h
      replace h := z_neg k3 h
      refine lv_aload_n hx hb dX10_does_43 rfl (lv_at hl 1 rfl) ?_
      refine va_get (D := D) (ci := 10) (v := .int y2.1) (C := RX10) (T := TX10) (N := 15) hx hb hts hi10 hown hK.1 hP 0 rfl rfl 13 (by decide) fl237 (fun _ h9 => h9) rfl dX10_does_44 ?_
      refine lv_if_ge (tgt := 54) hx hb dX10_does_47 (by decide) (fun k4 => ?_) (fun k4 => ?_)
      · replace h := z_pos k4 h
        refine lv_iconst (v := 0) hx hb dX10_does_54 (by decide) ?_
        refine va_put (D := D) (ci := 10) (v := .int 0) (ty := .int) (C := RX10) (T := TX10) (N := 15) hx hb hts hi10 tyX10 tyX10_ok nmX10 hown hK.1 hP hD hS 0 rfl rfl 12 (by decide) fl240 (fun _ h9 => h9) rfl (by decide +kernel) rfl rfl (Nat.le_of_ble_eq_true rfl) dX10_does_55 (fun H locs hP hD hS => ?_)
        have hP : va_P D vwCl (zw_mo tt kw (zu y2.2 0 (zu (zu (y2.2 0) 4 0) 5 y2.1)) bj) H := hP
        have hD : va_D A (zw_mo tt kw (zu y2.2 0 (zu (zu (y2.2 0) 4 0) 5 y2.1)) bj) := hD
        refine lv_aload_n hx hb dX10_does_58 rfl (lv_at hl 1 rfl) ?_
        refine va_get (D := D) (ci := 10) (v := .int 0) (C := RX10) (T := TX10) (N := 15) hx hb hts hi10 hown hK.1 hP 0 rfl rfl 12 (by decide) fl240 (fun _ h9 => h9) rfl dX10_does_59 ?_
        refine lv_if_le (tgt := 67) hx hb dX10_does_62 (by decide) (fun k5 => ?_) (fun k5 => ?_)
        rotate_left
        · replace h := z_neg k5 h
          refine lv_iload_n hx hb dX10_does_65 rfl (lv_at hl 0 rfl) ?_
          exact hfin _ _ _ _ _ _ h rfl hP hD hS dX10_does_66
        replace h := z_pos k5 h
        refine lv_iinc (v := (x1 + 1)) (lv' := [(1, .int (x1 + 1)), (2, .int (bw 0 2)), (0, .ref (kw 0))]) hx hb dX10_does_67 hl (k := 2) rfl rfl (by decide) rfl (fun ls hl => ?_)
        refine lv_goto (tgt := 7) hx hb dX10_does_70 (by decide) ?_
        exact ih (zu y2.2 0 (zu (zu (y2.2 0) 4 0) 5 y2.1)) (x1 + 1) _ _ _ hP hD hS (lv_sub hl [2, 0] rfl) h
      replace h := z_neg k4 h
      refine lv_iconst (v := 2) hx hb dX10_does_50 (by decide) ?_
      refine lv_goto (tgt := 55) hx hb dX10_does_51 (by decide) ?_
      refine va_put (D := D) (ci := 10) (v := .int 2) (ty := .int) (C := RX10) (T := TX10) (N := 15) hx hb hts hi10 tyX10 tyX10_ok nmX10 hown hK.1 hP hD hS 0 rfl rfl 12 (by decide) fl240 (fun _ h9 => h9) rfl (by decide +kernel) rfl rfl (Nat.le_of_ble_eq_true rfl) dX10_does_55 (fun H locs hP hD hS => ?_)
      have hP : va_P D vwCl (zw_mo tt kw (zu y2.2 0 (zu (zu (y2.2 0) 4 2) 5 y2.1)) bj) H := hP
      have hD : va_D A (zw_mo tt kw (zu y2.2 0 (zu (zu (y2.2 0) 4 2) 5 y2.1)) bj) := hD
      refine lv_aload_n hx hb dX10_does_58 rfl (lv_at hl 1 rfl) ?_
      refine va_get (D := D) (ci := 10) (v := .int 2) (C := RX10) (T := TX10) (N := 15) hx hb hts hi10 hown hK.1 hP 0 rfl rfl 12 (by decide) fl240 (fun _ h9 => h9) rfl dX10_does_59 ?_
      refine lv_if_le (tgt := 67) hx hb dX10_does_62 (by decide) (fun k6 => ?_) (fun k6 => ?_)
      rotate_left
      · replace h := z_neg k6 h
        refine lv_iload_n hx hb dX10_does_65 rfl (lv_at hl 0 rfl) ?_
        exact hfin _ _ _ _ _ _ h rfl hP hD hS dX10_does_66
      replace h := z_pos k6 h
      refine lv_iinc (v := (x1 + 1)) (lv' := [(1, .int (x1 + 1)), (2, .int (bw 0 2)), (0, .ref (kw 0))]) hx hb dX10_does_67 hl (k := 2) rfl rfl (by decide) rfl (fun ls hl => ?_)
      refine lv_goto (tgt := 7) hx hb dX10_does_70 (by decide) ?_
      exact ih (zu y2.2 0 (zu (zu (y2.2 0) 4 2) 5 y2.1)) (x1 + 1) _ _ _ hP hD hS (lv_sub hl [2, 0] rfl) h
  have hl := lv_entry ([.ref (kw 0)]) (n := 3) (Nat.le_of_ble_eq_true rfl)
  refine W.eq (g2 := F0 m 0 ((lg_sl ([.ref (kw 0)]) ++ List.replicate (3 - (lg_sl ([.ref (kw 0)])).length) Slot.unset).toArray) []) (by rw [ha]; exact lg_entry_eq _ _ _) ?_
  generalize (lg_sl ([.ref (kw 0)]) ++ List.replicate (3 - (lg_sl ([.ref (kw 0)])).length) Slot.unset).toArray = ls at hl ⊢
  have hl : lv_has ls 3 [(0, .ref (kw 0))] := hl
  rw [f_X10_does] at h
  refine lv_aload_n hx hb dX10_does_0 rfl (lv_at hl 0 rfl) ?_
  refine lv_iconst (v := 0) hx hb dX10_does_1 (by decide) ?_
  refine va_put (D := D) (ci := 10) (v := .int 0) (ty := .int) (C := RX10) (T := TX10) (N := 15) hx hb hts hi10 tyX10 tyX10_ok nmX10 hown hK.1 hP hD hS 0 rfl rfl 10 (by decide) fl193 (fun _ h9 => h9) rfl (by decide +kernel) rfl rfl (Nat.le_of_ble_eq_true rfl) dX10_does_2 (fun H locs hP hD hS => ?_)
  have hP : va_P D vwCl (zw_mo tt kw (zu bw 0 (zu (bw 0) 2 0)) bj) H := hP
  have hD : va_D A (zw_mo tt kw (zu bw 0 (zu (bw 0) 2 0)) bj) := hD
  refine lv_iconst (v := 0) hx hb dX10_does_5 (by decide) ?_
  refine lv_istore_n (lv' := [(1, .int 0), (0, .ref (kw 0))]) hx hb dX10_does_6 rfl hl (by decide) rfl (fun ls hl => ?_)
  exact b7 1000 (zu bw 0 (zu (bw 0) 2 0)) 0 _ _ _ hP hD hS (lv_sub hl [1, 0] rfl) h
