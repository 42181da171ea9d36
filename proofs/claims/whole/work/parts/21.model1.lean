/-! ===== contracts: 21.model1 ===== -/
set_option maxHeartbeats 4000000 in
set_option maxRecDepth 100000 in
theorem c_X10_lessens (l : Launch) (D : va_G) (tt : Nat → ClassId) (kw : Nat → Nat) (sz : Nat) (bw : zV) (bj : zJ) (x1 : Int32) (x2 : Int32) (out : zV) (h : f_X10_lessens bw bj x1 x2 = some out) : Met l yX10_lessens wsX10_lessens { frames := 0, cells := 0, slots := 0, locals := 0 } (zPm [.ref (kw 0), .int x1, .int x2] D tt (zw_mo tt kw bw bj) sz) (zMv D (zw_mo tt kw out bj) (va_A (zw_mo tt kw bw bj) sz)) 0 0 (va_A (zw_mo tt kw bw bj) sz) := by
  refine Met.ofW (cc := cX10_lessens) (maxL := 5) (ret := none) (by decide) rfl ?_
  intro p e s m args below meth c s₁ B hml hv
  obtain ⟨ha, hsz, hP, hK, hD0⟩ := hv
  have hx := B.exec
  have hb := B.bytes
  have hr := B.returns
  have hts := atoms_spec (ws := wsX10_lessens) B.pre
  have hown : s.vm.findClass RX10 = some m.cls := findClass_of_methodNamed B.named
  have hlocks := B.notSynchronized
  have hi10 : ∀ w ∈ u_ws RX10 TX10 15, w ∈ wsX10_lessens := fun _ h => List.mem_cons_of_mem _ (List.mem_append_right _ h)
  have fl7 := hts (.fieldLink RX10 7 "CapStacksModel" "s" "[I") (by decide +kernel)
  subst hsz
  have hD := hD0.self (sz := s.heap.size)
  generalize hAe : va_A (zw_mo tt kw bw bj) s.heap.size = A at hD ⊢
  have hA : ∀ q : Nat, s.heap.size ≤ q → A q := fun q h => by rw [← hAe]; exact Or.inr h
  have hS : va_S A s.heap s.heap [] := va_S.rf
  have hfin : ∀ (bw : zV) (pc : Nat) (ls : Array Slot) (H : Heap) (locs : List Loc), some bw = some out → va_P D vwCl (zw_mo tt kw bw bj) H → va_D A (zw_mo tt kw bw bj) → va_S A s.heap H locs → decode cX10_lessens pc = .ok (.return_, 1) → W p l e (headSpec wsX10_lessens { frames := 0, cells := 0, slots := 0, locals := 0 }).room s m args below meth c H locs 0 0 (MQ below (zMv D (zw_mo tt kw out bj) A) args s 0 0 A) (F0 m pc ls []) := by
    intro bw pc ls H locs he hP hD hS hd
    cases he
    exact W.vret hx hb hr (fun t ht hW => ⟨⟨(), rfl, trivial, by rw [ht]; exact hP, hD⟩, hS.F ht⟩) hS.2.2 hd
  generalize MQ below (zMv D (zw_mo tt kw out bj) A) args s 0 0 A = Q at hfin ⊢
  have b33 : ∀ n : Nat, ∀ (bw : zV) (x3 : Int32) (x4 : Int32) (H : Heap) (locs : List Loc) (ls : Array Slot), va_P D vwCl (zw_mo tt kw bw bj) H → va_D A (zw_mo tt kw bw bj) → va_S A s.heap H locs → lv_has ls 5 [(0, .ref (kw 0)), (3, .int x3), (4, .int x4)] → f_X10_lessens_b33 bj n bw x3 x4 = some out → W p l e (headSpec wsX10_lessens { frames := 0, cells := 0, slots := 0, locals := 0 }).room s m args below meth c H locs 0 0 Q (F0 m 33 ls []) := by
    intro n
    induction n with
    | zero =>
      intro bw x3 x4 H locs ls hP hD hS hl h
      cases h
    | succ n ih =>
      intro bw x3 x4 H locs ls hP hD hS hl h
      rw [f_X10_lessens_b33] at h
      refine lv_iload hx hb dX10_lessens_33 (lv_at hl 2 rfl) ?_
      refine lv_iconst (v := 4) hx hb dX10_lessens_35 (by decide) ?_
      refine lv_icmp_ge (tgt := 55) hx hb dX10_lessens_36 (by decide) (fun k1 => ?_) (fun k1 => ?_)
      · replace h := z_pos k1 h
        exact hfin _ _ _ _ _ h hP hD hS dX10_lessens_55
      replace h := z_neg k1 h
      refine lv_aload_n hx hb dX10_lessens_39 rfl (lv_at hl 0 rfl) ?_
      refine va_get (D := D) (ci := 10) (v := .ref (kw 1)) (C := RX10) (T := TX10) (N := 15) hx hb hts hi10 hown hK.1 hP 0 rfl rfl 0 (by decide) fl7 (fun _ h9 => h9) rfl dX10_lessens_40 ?_
      refine lv_iload_n hx hb dX10_lessens_43 rfl (lv_at hl 1 rfl) ?_
      refine lv_iload hx hb dX10_lessens_44 (lv_at hl 2 rfl) ?_
      refine lv_iadd hx hb dX10_lessens_46 ?_
      refine lv_iconst (v := 0) hx hb dX10_lessens_47 (by decide) ?_
      obtain ⟨q2, h⟩ := zA_some h
      refine va_iast hx hb hK.1 hP hD hS 1 0 rfl rfl q2 dX10_lessens_48 (fun H locs hP hD hS => ?_)
      obtain ⟨a3, ea3, h⟩ := zl_some h
      have hP : va_P D vwCl (zw_mo tt kw (zu bw 1 a3) bj) H := by rw [ea3]; exact hP
      have hD : va_D A (zw_mo tt kw (zu bw 1 a3) bj) := by rw [ea3]; exact hD
      clear ea3
      refine lv_iinc (v := (x4 + 1)) (lv' := [(4, .int (x4 + 1)), (0, .ref (kw 0)), (3, .int x3)]) hx hb dX10_lessens_49 hl (k := 2) rfl rfl (by decide) rfl (fun ls hl => ?_)
      refine lv_goto (tgt := 33) hx hb dX10_lessens_52 (by decide) ?_
      exact ih (zu bw 1 a3) x3 (x4 + 1) _ _ _ hP hD hS (lv_sub hl [1, 2, 0] rfl) h
  have hl := lv_entry ([.ref (kw 0), .int x1, .int x2]) (n := 5) (Nat.le_of_ble_eq_true rfl)
  refine W.eq (g2 := F0 m 0 ((lg_sl ([.ref (kw 0), .int x1, .int x2]) ++ List.replicate (5 - (lg_sl ([.ref (kw 0), .int x1, .int x2])).length) Slot.unset).toArray) []) (by rw [ha]; exact lg_entry_eq _ _ _) ?_
  generalize (lg_sl ([.ref (kw 0), .int x1, .int x2]) ++ List.replicate (5 - (lg_sl ([.ref (kw 0), .int x1, .int x2])).length) Slot.unset).toArray = ls at hl ⊢
  have hl : lv_has ls 5 [(0, .ref (kw 0)), (1, .int x1), (2, .int x2)] := hl
  rw [f_X10_lessens] at h
  refine lv_bipush (v := 61) hx hb dX10_lessens_0 (by decide) ?_
  refine lv_iconst (v := 4) hx hb dX10_lessens_2 (by decide) ?_
  refine lv_iload_n hx hb dX10_lessens_3 rfl (lv_at hl 1 rfl) ?_
  refine lv_imul hx hb dX10_lessens_4 ?_
  refine lv_iadd hx hb dX10_lessens_5 ?_
  refine lv_istore_n (lv' := [(3, .int (61 + (4 * x1))), (0, .ref (kw 0)), (1, .int x1), (2, .int x2)]) hx hb dX10_lessens_6 rfl hl (by decide) rfl (fun ls hl => ?_)
  refine lv_aload_n hx hb dX10_lessens_7 rfl (lv_at hl 1 rfl) ?_
  refine va_get (D := D) (ci := 10) (v := .ref (kw 1)) (C := RX10) (T := TX10) (N := 15) hx hb hts hi10 hown hK.1 hP 0 rfl rfl 0 (by decide) fl7 (fun _ h9 => h9) rfl dX10_lessens_8 ?_
  refine lv_iload_n hx hb dX10_lessens_11 rfl (lv_at hl 0 rfl) ?_
  refine lv_iconst (v := 2) hx hb dX10_lessens_12 (by decide) ?_
  refine lv_iadd hx hb dX10_lessens_13 ?_
  refine lv_dup2_11 hx hb dX10_lessens_14 rfl rfl ?_
  obtain ⟨q4, h⟩ := zA_some h
  refine va_iald hx hb hK.1 hP 1 0 rfl rfl q4 dX10_lessens_15 ?_
  refine lv_iload_n hx hb dX10_lessens_16 rfl (lv_at hl 3 rfl) ?_
  refine lv_isub hx hb dX10_lessens_17 ?_
  refine va_iast hx hb hK.1 hP hD hS 1 0 rfl rfl q4 dX10_lessens_18 (fun H locs hP hD hS => ?_)
  obtain ⟨a5, ea5, h⟩ := zl_some h
  have hP : va_P D vwCl (zw_mo tt kw (zu bw 1 a5) bj) H := by rw [ea5]; exact hP
  have hD : va_D A (zw_mo tt kw (zu bw 1 a5) bj) := by rw [ea5]; exact hD
  clear ea5
  refine lv_aload_n hx hb dX10_lessens_19 rfl (lv_at hl 1 rfl) ?_
  refine va_get (D := D) (ci := 10) (v := .ref (kw 1)) (C := RX10) (T := TX10) (N := 15) hx hb hts hi10 hown hK.1 hP 0 rfl rfl 0 (by decide) fl7 (fun _ h9 => h9) rfl dX10_lessens_20 ?_
  refine lv_iload_n hx hb dX10_lessens_23 rfl (lv_at hl 0 rfl) ?_
  refine lv_iconst (v := 2) hx hb dX10_lessens_24 (by decide) ?_
  refine lv_iadd hx hb dX10_lessens_25 ?_
  refine va_iald hx hb hK.1 hP 1 0 rfl rfl q4 dX10_lessens_26 ?_
  refine lv_if_ne (tgt := 55) hx hb dX10_lessens_27 (by decide) (fun k6 => ?_) (fun k6 => ?_)
  · replace h := z_neg k6 h
    exact hfin _ _ _ _ _ h hP hD hS dX10_lessens_55
  replace h := z_pos k6 h
  refine lv_iconst (v := 0) hx hb dX10_lessens_30 (by decide) ?_
  refine lv_istore (lv' := [(4, .int 0), (3, .int (61 + (4 * x1))), (0, .ref (kw 0)), (1, .int x1), (2, .int x2)]) hx hb dX10_lessens_31 hl (by decide) rfl (fun ls hl => ?_)
  exact b33 1000 (zu bw 1 a5) (61 + (4 * x1)) 0 _ _ _ hP hD hS (lv_sub hl [2, 1, 0] rfl) h
set_option maxHeartbeats 4000000 in
set_option maxRecDepth 100000 in
theorem c_X10_vested (l : Launch) (D : va_G) (tt : Nat → ClassId) (kw : Nat → Nat) (bw : zV) (bj : zJ) (x1 : Int32) (out : Int32) (h : f_X10_vested bw bj x1 = some out) : Met l yX10_vested wsX10_vested { frames := 1, cells := 0, slots := 0, locals := 22 } (zPr [.ref (kw 0), .int x1] D tt (zw_mo tt kw bw bj)) (zQr .int out) 0 0 (fun _ => False) := by
  refine Met.ofW (cc := cX10_vested) (maxL := 6) (ret := (some .int)) (by decide) rfl ?_
  intro p e s m args below meth c s₁ B hml hv
  obtain ⟨ha, hP, hK⟩ := hv
  have hx := B.exec
  have hb := B.bytes
  have hr := B.returns
  have hts := atoms_spec (ws := wsX10_vested) B.pre
  have hown : s.vm.findClass RX10 = some m.cls := findClass_of_methodNamed B.named
  have hlocks := B.notSynchronized
  have hi10 : ∀ w ∈ u_ws RX10 TX10 15, w ∈ wsX10_vested := fun _ h => List.mem_cons_of_mem _ (List.mem_append_right _ h)
  have fl7 := hts (.fieldLink RX10 7 "CapStacksModel" "s" "[I") (by decide +kernel)
  have hfin : ∀ (v : Int32) (pc : Nat) (ls : Array Slot), some v = some out → narrow .int (.int v) = .int v → decode cX10_vested pc = .ok (.ireturn, 1) → W p l e (headSpec wsX10_vested { frames := 1, cells := 0, slots := 0, locals := 22 }).room s m args below meth c s.heap [] 0 0 (MQ below (zQr .int out) args s 0 0 (fun _ => False)) (F0 m pc ls [.int v]) := by
    intro v pc ls he hn hd
    cases he
    exact W.zret hx hb hr hn (fun t ht hW => ⟨rfl, hn, ht⟩) (fun _ h => by cases h) hd
  generalize MQ below (zQr .int out) args s 0 0 (fun _ => False) = Q at hfin ⊢
  have hl := lv_entry ([.ref (kw 0), .int x1]) (n := 6) (Nat.le_of_ble_eq_true rfl)
  refine W.eq (g2 := F0 m 0 ((lg_sl ([.ref (kw 0), .int x1]) ++ List.replicate (6 - (lg_sl ([.ref (kw 0), .int x1])).length) Slot.unset).toArray) []) (by rw [ha]; exact lg_entry_eq _ _ _) ?_
  generalize (lg_sl ([.ref (kw 0), .int x1]) ++ List.replicate (6 - (lg_sl ([.ref (kw 0), .int x1])).length) Slot.unset).toArray = ls at hl ⊢
  have hl : lv_has ls 6 [(0, .ref (kw 0)), (1, .int x1)] := hl
  rw [f_X10_vested] at h
  refine lv_aload_n hx hb dX10_vested_0 rfl (lv_at hl 0 rfl) ?_
  refine lv_iload_n hx hb dX10_vested_1 rfl (lv_at hl 1 rfl) ?_
  refine lv_iconst (v := 0) hx hb dX10_vested_2 (by decide) ?_
  obtain ⟨y1, gy1, h⟩ := zb_some h
  refine z_callr (va_runV (As := [.int x1, .int 0]) (rest := []) ⟨hx, hb, hml, hown, hts⟩ (c_X10_ofGrant l D tt kw bw bj x1 0 y1 gy1) (cwV 2 hts gX10_vested_X10_ofGrant rfl rfl rfl (by decide +kernel) ⟨Nat.le_of_ble_eq_true rfl, Nat.le_of_ble_eq_true rfl⟩) (z_preVr hK hP (ci := 10) (q0 := 0) rfl rfl) rfl rfl hl.1 rfl (lv_room (Nat.le_of_ble_eq_true rfl)) dX10_vested_3 ⟨Nat.zero_le _, Nat.zero_le _⟩) (fun ny1 => ?_)
  refine lv_istore_n (lv' := [(2, .int y1), (0, .ref (kw 0)), (1, .int x1)]) hx hb dX10_vested_6 rfl hl (by decide) rfl (fun ls hl => ?_)
  refine lv_aload_n hx hb dX10_vested_7 rfl (lv_at hl 1 rfl) ?_
  refine lv_iload_n hx hb dX10_vested_8 rfl (lv_at hl 0 rfl) ?_
  obtain ⟨y2, gy2, h⟩ := zb_some h
  refine z_callr (va_runV (As := [.int y1]) (rest := []) ⟨hx, hb, hml, hown, hts⟩ (c_X10_hasLeft l D tt kw bw bj y1 y2 gy2) (cwV 1 hts gX10_vested_X10_hasLeft rfl rfl rfl (by decide +kernel) ⟨Nat.le_of_ble_eq_true rfl, Nat.le_of_ble_eq_true rfl⟩) (z_preVr hK hP (ci := 10) (q0 := 0) rfl rfl) rfl rfl hl.1 rfl (lv_room (Nat.le_of_ble_eq_true rfl)) dX10_vested_9 ⟨Nat.zero_le _, Nat.zero_le _⟩) (fun ny2 => ?_)
  refine lv_if_eq (tgt := 29) hx hb dX10_vested_12 (by decide) (fun k3 => ?_) (fun k3 => ?_)
  · replace h := z_pos k3 h
    refine lv_aload_n hx hb dX10_vested_29 rfl (lv_at hl 1 rfl) ?_
    refine va_get (D := D) (ci := 10) (v := .ref (kw 1)) (C := RX10) (T := TX10) (N := 15) hx hb hts hi10 hown hK.1 hP 0 rfl rfl 0 (by decide) fl7 (fun _ h9 => h9) rfl dX10_vested_30 ?_
    refine lv_iconst (v := 3) hx hb dX10_vested_33 (by decide) ?_
    refine va_iald hx hb hK.1 hP 1 0 rfl rfl (vp_in_lit 3 213 rfl) dX10_vested_34 ?_
    refine lv_istore_n (lv' := [(3, .int ((bw 1) (3 : Int32).toNatClampNeg)), (2, .int y1), (0, .ref (kw 0)), (1, .int x1)]) hx hb dX10_vested_35 rfl hl (by decide) rfl (fun ls hl => ?_)
    refine lv_iload_n hx hb dX10_vested_36 rfl (lv_at hl 0 rfl) ?_
    refine lv_aload_n hx hb dX10_vested_37 rfl (lv_at hl 2 rfl) ?_
    refine lv_iload_n hx hb dX10_vested_38 rfl (lv_at hl 3 rfl) ?_
    refine lv_bipush (v := 6) hx hb dX10_vested_39 (by decide) ?_
    obtain ⟨y4, gy4, h⟩ := zb_some h
    refine z_callr (va_runV (As := [.int x1, .int 6]) (rest := [.int ((bw 1) (3 : Int32).toNatClampNeg)]) ⟨hx, hb, hml, hown, hts⟩ (c_X10_ofGrant l D tt kw bw bj x1 6 y4 gy4) (cwV 2 hts gX10_vested_X10_ofGrant rfl rfl rfl (by decide +kernel) ⟨Nat.le_of_ble_eq_true rfl, Nat.le_of_ble_eq_true rfl⟩) (z_preVr hK hP (ci := 10) (q0 := 0) rfl rfl) rfl rfl hl.1 rfl (lv_room (Nat.le_of_ble_eq_true rfl)) dX10_vested_41 ⟨Nat.zero_le _, Nat.zero_le _⟩) (fun ny4 => ?_)
    refine lv_isub hx hb dX10_vested_44 ?_
    refine lv_istore (lv' := [(4, .int (((bw 1) (3 : Int32).toNatClampNeg) - y4)), (3, .int ((bw 1) (3 : Int32).toNatClampNeg)), (2, .int y1), (0, .ref (kw 0)), (1, .int x1)]) hx hb dX10_vested_45 hl (by decide) rfl (fun ls hl => ?_)
    refine lv_aload_n hx hb dX10_vested_47 rfl (lv_at hl 3 rfl) ?_
    refine lv_iload_n hx hb dX10_vested_48 rfl (lv_at hl 4 rfl) ?_
    refine lv_iconst (v := 1) hx hb dX10_vested_49 (by decide) ?_
    obtain ⟨y5, gy5, h⟩ := zb_some h
    refine z_callr (va_runV (As := [.int x1, .int 1]) (rest := []) ⟨hx, hb, hml, hown, hts⟩ (c_X10_ofGrant l D tt kw bw bj x1 1 y5 gy5) (cwV 2 hts gX10_vested_X10_ofGrant rfl rfl rfl (by decide +kernel) ⟨Nat.le_of_ble_eq_true rfl, Nat.le_of_ble_eq_true rfl⟩) (z_preVr hK hP (ci := 10) (q0 := 0) rfl rfl) rfl rfl hl.1 rfl (lv_room (Nat.le_of_ble_eq_true rfl)) dX10_vested_50 ⟨Nat.zero_le _, Nat.zero_le _⟩) (fun ny5 => ?_)
    refine lv_istore (lv' := [(5, .int y5), (4, .int (((bw 1) (3 : Int32).toNatClampNeg) - y4)), (3, .int ((bw 1) (3 : Int32).toNatClampNeg)), (2, .int y1), (0, .ref (kw 0)), (1, .int x1)]) hx hb dX10_vested_53 hl (by decide) rfl (fun ls hl => ?_)
    refine lv_iload hx hb dX10_vested_55 (lv_at hl 1 rfl) ?_
    refine lv_aload_n hx hb dX10_vested_57 rfl (lv_at hl 4 rfl) ?_
    refine lv_iload_n hx hb dX10_vested_58 rfl (lv_at hl 5 rfl) ?_
    refine lv_iconst (v := 3) hx hb dX10_vested_59 (by decide) ?_
    obtain ⟨y6, gy6, h⟩ := zb_some h
    refine z_callr (va_runV (As := [.int x1, .int 3]) (rest := [.int (((bw 1) (3 : Int32).toNatClampNeg) - y4)]) ⟨hx, hb, hml, hown, hts⟩ (c_X10_ofGrant l D tt kw bw bj x1 3 y6 gy6) (cwV 2 hts gX10_vested_X10_ofGrant rfl rfl rfl (by decide +kernel) ⟨Nat.le_of_ble_eq_true rfl, Nat.le_of_ble_eq_true rfl⟩) (z_preVr hK hP (ci := 10) (q0 := 0) rfl rfl) rfl rfl hl.1 rfl (lv_room (Nat.le_of_ble_eq_true rfl)) dX10_vested_60 ⟨Nat.zero_le _, Nat.zero_le _⟩) (fun ny6 => ?_)
    refine lv_icmp_ge (tgt := 70) hx hb dX10_vested_63 (by decide) (fun k7 => ?_) (fun k7 => ?_)
    rotate_left
    · replace h := z_neg k7 h
      refine lv_iconst (v := 0) hx hb dX10_vested_66 (by decide) ?_
      refine lv_goto (tgt := 98) hx hb dX10_vested_67 (by decide) ?_
      exact hfin _ _ _ h rfl dX10_vested_98
    replace h := z_pos k7 h
    refine lv_iload hx hb dX10_vested_70 (lv_at hl 1 rfl) ?_
    refine lv_aload_n hx hb dX10_vested_72 rfl (lv_at hl 4 rfl) ?_
    refine lv_iload_n hx hb dX10_vested_73 rfl (lv_at hl 5 rfl) ?_
    refine lv_iconst (v := 4) hx hb dX10_vested_74 (by decide) ?_
    obtain ⟨y8, gy8, h⟩ := zb_some h
    refine z_callr (va_runV (As := [.int x1, .int 4]) (rest := [.int (((bw 1) (3 : Int32).toNatClampNeg) - y4)]) ⟨hx, hb, hml, hown, hts⟩ (c_X10_ofGrant l D tt kw bw bj x1 4 y8 gy8) (cwV 2 hts gX10_vested_X10_ofGrant rfl rfl rfl (by decide +kernel) ⟨Nat.le_of_ble_eq_true rfl, Nat.le_of_ble_eq_true rfl⟩) (z_preVr hK hP (ci := 10) (q0 := 0) rfl rfl) rfl rfl hl.1 rfl (lv_room (Nat.le_of_ble_eq_true rfl)) dX10_vested_75 ⟨Nat.zero_le _, Nat.zero_le _⟩) (fun ny8 => ?_)
    refine lv_icmp_lt (tgt := 86) hx hb dX10_vested_78 (by decide) (fun k9 => ?_) (fun k9 => ?_)
    rotate_left
    · replace h := z_neg k9 h
      refine lv_iload hx hb dX10_vested_81 (lv_at hl 0 rfl) ?_
      refine lv_goto (tgt := 98) hx hb dX10_vested_83 (by decide) ?_
      exact hfin _ _ _ h rfl dX10_vested_98
    replace h := z_pos k9 h
    refine lv_iload hx hb dX10_vested_86 (lv_at hl 0 rfl) ?_
    refine lv_iload hx hb dX10_vested_88 (lv_at hl 1 rfl) ?_
    refine lv_imul hx hb dX10_vested_90 ?_
    refine lv_aload_n hx hb dX10_vested_91 rfl (lv_at hl 4 rfl) ?_
    refine lv_iload_n hx hb dX10_vested_92 rfl (lv_at hl 5 rfl) ?_
    refine lv_iconst (v := 4) hx hb dX10_vested_93 (by decide) ?_
    obtain ⟨y10, gy10, h⟩ := zb_some h
    refine z_callr (va_runV (As := [.int x1, .int 4]) (rest := [.int (y5 * (((bw 1) (3 : Int32).toNatClampNeg) - y4))]) ⟨hx, hb, hml, hown, hts⟩ (c_X10_ofGrant l D tt kw bw bj x1 4 y10 gy10) (cwV 2 hts gX10_vested_X10_ofGrant rfl rfl rfl (by decide +kernel) ⟨Nat.le_of_ble_eq_true rfl, Nat.le_of_ble_eq_true rfl⟩) (z_preVr hK hP (ci := 10) (q0 := 0) rfl rfl) rfl rfl hl.1 rfl (lv_room (Nat.le_of_ble_eq_true rfl)) dX10_vested_94 ⟨Nat.zero_le _, Nat.zero_le _⟩) (fun ny10 => ?_)
    obtain ⟨q11, h⟩ := zDi_some h
    refine lv_idiv hx hb dX10_vested_97 q11 ?_
    exact hfin _ _ _ h rfl dX10_vested_98
  replace h := z_neg k3 h
  refine lv_aload_n hx hb dX10_vested_15 rfl (lv_at hl 1 rfl) ?_
  refine va_get (D := D) (ci := 10) (v := .ref (kw 1)) (C := RX10) (T := TX10) (N := 15) hx hb hts hi10 hown hK.1 hP 0 rfl rfl 0 (by decide) fl7 (fun _ h9 => h9) rfl dX10_vested_16 ?_
  refine lv_bipush (v := 53) hx hb dX10_vested_19 (by decide) ?_
  refine lv_iload_n hx hb dX10_vested_21 rfl (lv_at hl 0 rfl) ?_
  refine lv_iadd hx hb dX10_vested_22 ?_
  obtain ⟨q12, h⟩ := zA_some h
  refine va_iald hx hb hK.1 hP 1 0 rfl rfl q12 dX10_vested_23 ?_
  refine lv_iconst (v := 1) hx hb dX10_vested_24 (by decide) ?_
  refine lv_isub hx hb dX10_vested_25 ?_
  refine lv_goto (tgt := 35) hx hb dX10_vested_26 (by decide) ?_
  refine lv_istore_n (lv' := [(3, .int (((bw 1) (53 + y1).toNatClampNeg) - 1)), (2, .int y1), (0, .ref (kw 0)), (1, .int x1)]) hx hb dX10_vested_35 rfl hl (by decide) rfl (fun ls hl => ?_)
  refine lv_iload_n hx hb dX10_vested_36 rfl (lv_at hl 0 rfl) ?_
  refine lv_aload_n hx hb dX10_vested_37 rfl (lv_at hl 2 rfl) ?_
  refine lv_iload_n hx hb dX10_vested_38 rfl (lv_at hl 3 rfl) ?_
  refine lv_bipush (v := 6) hx hb dX10_vested_39 (by decide) ?_
  obtain ⟨y13, gy13, h⟩ := zb_some h
  refine z_callr (va_runV (As := [.int x1, .int 6]) (rest := [.int (((bw 1) (53 + y1).toNatClampNeg) - 1)]) ⟨hx, hb, hml, hown, hts⟩ (c_X10_ofGrant l D tt kw bw bj x1 6 y13 gy13) (cwV 2 hts gX10_vested_X10_ofGrant rfl rfl rfl (by decide +kernel) ⟨Nat.le_of_ble_eq_true rfl, Nat.le_of_ble_eq_true rfl⟩) (z_preVr hK hP (ci := 10) (q0 := 0) rfl rfl) rfl rfl hl.1 rfl (lv_room (Nat.le_of_ble_eq_true rfl)) dX10_vested_41 ⟨Nat.zero_le _, Nat.zero_le _⟩) (fun ny13 => ?_)
  refine lv_isub hx hb dX10_vested_44 ?_
  refine lv_istore (lv' := [(4, .int ((((bw 1) (53 + y1).toNatClampNeg) - 1) - y13)), (3, .int (((bw 1) (53 + y1).toNatClampNeg) - 1)), (2, .int y1), (0, .ref (kw 0)), (1, .int x1)]) hx hb dX10_vested_45 hl (by decide) rfl (fun ls hl => ?_)
  refine lv_aload_n hx hb dX10_vested_47 rfl (lv_at hl 3 rfl) ?_
  refine lv_iload_n hx hb dX10_vested_48 rfl (lv_at hl 4 rfl) ?_
  refine lv_iconst (v := 1) hx hb dX10_vested_49 (by decide) ?_
  obtain ⟨y14, gy14, h⟩ := zb_some h
  refine z_callr (va_runV (As := [.int x1, .int 1]) (rest := []) ⟨hx, hb, hml, hown, hts⟩ (c_X10_ofGrant l D tt kw bw bj x1 1 y14 gy14) (cwV 2 hts gX10_vested_X10_ofGrant rfl rfl rfl (by decide +kernel) ⟨Nat.le_of_ble_eq_true rfl, Nat.le_of_ble_eq_true rfl⟩) (z_preVr hK hP (ci := 10) (q0 := 0) rfl rfl) rfl rfl hl.1 rfl (lv_room (Nat.le_of_ble_eq_true rfl)) dX10_vested_50 ⟨Nat.zero_le _, Nat.zero_le _⟩) (fun ny14 => ?_)
  refine lv_istore (lv' := [(5, .int y14), (4, .int ((((bw 1) (53 + y1).toNatClampNeg) - 1) - y13)), (3, .int (((bw 1) (53 + y1).toNatClampNeg) - 1)), (2, .int y1), (0, .ref (kw 0)), (1, .int x1)]) hx hb dX10_vested_53 hl (by decide) rfl (fun ls hl => ?_)
  refine lv_iload hx hb dX10_vested_55 (lv_at hl 1 rfl) ?_
  refine lv_aload_n hx hb dX10_vested_57 rfl (lv_at hl 4 rfl) ?_
  refine lv_iload_n hx hb dX10_vested_58 rfl (lv_at hl 5 rfl) ?_
  refine lv_iconst (v := 3) hx hb dX10_vested_59 (by decide) ?_
  obtain ⟨y15, gy15, h⟩ := zb_some h
  refine z_callr (va_runV (As := [.int x1, .int 3]) (rest := [.int ((((bw 1) (53 + y1).toNatClampNeg) - 1) - y13)]) ⟨hx, hb, hml, hown, hts⟩ (c_X10_ofGrant l D tt kw bw bj x1 3 y15 gy15) (cwV 2 hts gX10_vested_X10_ofGrant rfl rfl rfl (by decide +kernel) ⟨Nat.le_of_ble_eq_true rfl, Nat.le_of_ble_eq_true rfl⟩) (z_preVr hK hP (ci := 10) (q0 := 0) rfl rfl) rfl rfl hl.1 rfl (lv_room (Nat.le_of_ble_eq_true rfl)) dX10_vested_60 ⟨Nat.zero_le _, Nat.zero_le _⟩) (fun ny15 => ?_)
  refine lv_icmp_ge (tgt := 70) hx hb dX10_vested_63 (by decide) (fun k16 => ?_) (fun k16 => ?_)
  rotate_left
  · replace h := z_neg k16 h
    refine lv_iconst (v := 0) hx hb dX10_vested_66 (by decide) ?_
    refine lv_goto (tgt := 98) hx hb dX10_vested_67 (by decide) ?_
    exact hfin _ _ _ h rfl dX10_vested_98
  replace h := z_pos k16 h
  refine lv_iload hx hb dX10_vested_70 (lv_at hl 1 rfl) ?_
  refine lv_aload_n hx hb dX10_vested_72 rfl (lv_at hl 4 rfl) ?_
  refine lv_iload_n hx hb dX10_vested_73 rfl (lv_at hl 5 rfl) ?_
  refine lv_iconst (v := 4) hx hb dX10_vested_74 (by decide) ?_
  obtain ⟨y17, gy17, h⟩ := zb_some h
  refine z_callr (va_runV (As := [.int x1, .int 4]) (rest := [.int ((((bw 1) (53 + y1).toNatClampNeg) - 1) - y13)]) ⟨hx, hb, hml, hown, hts⟩ (c_X10_ofGrant l D tt kw bw bj x1 4 y17 gy17) (cwV 2 hts gX10_vested_X10_ofGrant rfl rfl rfl (by decide +kernel) ⟨Nat.le_of_ble_eq_true rfl, Nat.le_of_ble_eq_true rfl⟩) (z_preVr hK hP (ci := 10) (q0 := 0) rfl rfl) rfl rfl hl.1 rfl (lv_room (Nat.le_of_ble_eq_true rfl)) dX10_vested_75 ⟨Nat.zero_le _, Nat.zero_le _⟩) (fun ny17 => ?_)
  refine lv_icmp_lt (tgt := 86) hx hb dX10_vested_78 (by decide) (fun k18 => ?_) (fun k18 => ?_)
  rotate_left
  · replace h := z_neg k18 h
    refine lv_iload hx hb dX10_vested_81 (lv_at hl 0 rfl) ?_
    refine lv_goto (tgt := 98) hx hb dX10_vested_83 (by decide) ?_
    exact hfin _ _ _ h rfl dX10_vested_98
  replace h := z_pos k18 h
  refine lv_iload hx hb dX10_vested_86 (lv_at hl 0 rfl) ?_
  refine lv_iload hx hb dX10_vested_88 (lv_at hl 1 rfl) ?_
  refine lv_imul hx hb dX10_vested_90 ?_
  refine lv_aload_n hx hb dX10_vested_91 rfl (lv_at hl 4 rfl) ?_
  refine lv_iload_n hx hb dX10_vested_92 rfl (lv_at hl 5 rfl) ?_
  refine lv_iconst (v := 4) hx hb dX10_vested_93 (by decide) ?_
  obtain ⟨y19, gy19, h⟩ := zb_some h
  refine z_callr (va_runV (As := [.int x1, .int 4]) (rest := [.int (y14 * ((((bw 1) (53 + y1).toNatClampNeg) - 1) - y13))]) ⟨hx, hb, hml, hown, hts⟩ (c_X10_ofGrant l D tt kw bw bj x1 4 y19 gy19) (cwV 2 hts gX10_vested_X10_ofGrant rfl rfl rfl (by decide +kernel) ⟨Nat.le_of_ble_eq_true rfl, Nat.le_of_ble_eq_true rfl⟩) (z_preVr hK hP (ci := 10) (q0 := 0) rfl rfl) rfl rfl hl.1 rfl (lv_room (Nat.le_of_ble_eq_true rfl)) dX10_vested_94 ⟨Nat.zero_le _, Nat.zero_le _⟩) (fun ny19 => ?_)
  obtain ⟨q20, h⟩ := zDi_some h
  refine lv_idiv hx hb dX10_vested_97 q20 ?_
  exact hfin _ _ _ h rfl dX10_vested_98
set_option maxHeartbeats 4000000 in
set_option maxRecDepth 100000 in
theorem c_X10_canBeTaken (l : Launch) (D : va_G) (tt : Nat → ClassId) (kw : Nat → Nat) (bw : zV) (bj : zJ) (x1 : Int32) (out : Int32) (h : f_X10_canBeTaken bw bj x1 = some out) : Met l yX10_canBeTaken wsX10_canBeTaken { frames := 2, cells := 0, slots := 0, locals := 47 } (zPr [.ref (kw 0), .int x1] D tt (zw_mo tt kw bw bj)) (zQr .int out) 0 0 (fun _ => False) := by
  refine Met.ofW (cc := cX10_canBeTaken) (maxL := 4) (ret := (some .int)) (by decide) rfl ?_
  intro p e s m args below meth c s₁ B hml hv
  obtain ⟨ha, hP, hK⟩ := hv
  have hx := B.exec
  have hb := B.bytes
  have hr := B.returns
  have hts := atoms_spec (ws := wsX10_canBeTaken) B.pre
  have hown : s.vm.findClass RX10 = some m.cls := findClass_of_methodNamed B.named
  have hlocks := B.notSynchronized
  have hi10 : ∀ w ∈ u_ws RX10 TX10 15, w ∈ wsX10_canBeTaken := fun _ h => List.mem_cons_of_mem _ (List.mem_append_right _ h)
  have fl7 := hts (.fieldLink RX10 7 "CapStacksModel" "s" "[I") (by decide +kernel)
  have hfin : ∀ (v : Int32) (pc : Nat) (ls : Array Slot), some v = some out → narrow .int (.int v) = .int v → decode cX10_canBeTaken pc = .ok (.ireturn, 1) → W p l e (headSpec wsX10_canBeTaken { frames := 2, cells := 0, slots := 0, locals := 47 }).room s m args below meth c s.heap [] 0 0 (MQ below (zQr .int out) args s 0 0 (fun _ => False)) (F0 m pc ls [.int v]) := by
    intro v pc ls he hn hd
    cases he
    exact W.zret hx hb hr hn (fun t ht hW => ⟨rfl, hn, ht⟩) (fun _ h => by cases h) hd
  generalize MQ below (zQr .int out) args s 0 0 (fun _ => False) = Q at hfin ⊢
  have b41 : ∀ (x1 : Int32) (ls : Array Slot), lv_has ls 4 [(0, .ref (kw 0)), (1, .int x1)] → f_X10_canBeTaken_b41 bw bj x1 = some out → W p l e (headSpec wsX10_canBeTaken { frames := 2, cells := 0, slots := 0, locals := 47 }).room s m args below meth c s.heap [] 0 0 Q (F0 m 41 ls []) := by
    intro x1 ls hl h
    rw [f_X10_canBeTaken_b41] at h
    refine lv_iconst (v := 0) hx hb dX10_canBeTaken_41 (by decide) ?_
    refine lv_istore_n (lv' := [(3, .int 0), (0, .ref (kw 0)), (1, .int x1)]) hx hb dX10_canBeTaken_42 rfl hl (by decide) rfl (fun ls hl => ?_)
    refine lv_iload_n hx hb dX10_canBeTaken_43 rfl (lv_at hl 0 rfl) ?_
    refine lv_if_eq (tgt := 51) hx hb dX10_canBeTaken_44 (by decide) (fun k1 => ?_) (fun k1 => ?_)
    rotate_left
    · replace h := z_neg k1 h
      refine lv_iconst (v := 0) hx hb dX10_canBeTaken_47 (by decide) ?_
      refine lv_goto (tgt := 63) hx hb dX10_canBeTaken_48 (by decide) ?_
      exact hfin _ _ _ h rfl dX10_canBeTaken_63
    replace h := z_pos k1 h
    refine lv_aload_n hx hb dX10_canBeTaken_51 rfl (lv_at hl 1 rfl) ?_
    refine lv_iload_n hx hb dX10_canBeTaken_52 rfl (lv_at hl 2 rfl) ?_
    obtain ⟨y2, gy2, h⟩ := zb_some h
    refine z_callr (va_runV (As := [.int x1]) (rest := []) ⟨hx, hb, hml, hown, hts⟩ (c_X10_vested l D tt kw bw bj x1 y2 gy2) (cwV 1 hts gX10_canBeTaken_X10_vested rfl rfl rfl (by decide +kernel) ⟨Nat.le_of_ble_eq_true rfl, Nat.le_of_ble_eq_true rfl⟩) (z_preVr hK hP (ci := 10) (q0 := 0) rfl rfl) rfl rfl hl.1 rfl (lv_room (Nat.le_of_ble_eq_true rfl)) dX10_canBeTaken_53 ⟨Nat.zero_le _, Nat.zero_le _⟩) (fun ny2 => ?_)
    refine lv_aload_n hx hb dX10_canBeTaken_56 rfl (lv_at hl 1 rfl) ?_
    refine lv_iload_n hx hb dX10_canBeTaken_57 rfl (lv_at hl 2 rfl) ?_
    refine lv_iconst (v := 5) hx hb dX10_canBeTaken_58 (by decide) ?_
    obtain ⟨y3, gy3, h⟩ := zb_some h
    refine z_callr (va_runV (As := [.int x1, .int 5]) (rest := [.int y2]) ⟨hx, hb, hml, hown, hts⟩ (c_X10_ofGrant l D tt kw bw bj x1 5 y3 gy3) (cwV 2 hts gX10_canBeTaken_X10_ofGrant rfl rfl rfl (by decide +kernel) ⟨Nat.le_of_ble_eq_true rfl, Nat.le_of_ble_eq_true rfl⟩) (z_preVr hK hP (ci := 10) (q0 := 0) rfl rfl) rfl rfl hl.1 rfl (lv_room (Nat.le_of_ble_eq_true rfl)) dX10_canBeTaken_59 ⟨Nat.zero_le _, Nat.zero_le _⟩) (fun ny3 => ?_)
    refine lv_isub hx hb dX10_canBeTaken_62 ?_
    exact hfin _ _ _ h rfl dX10_canBeTaken_63
  have hl := lv_entry ([.ref (kw 0), .int x1]) (n := 4) (Nat.le_of_ble_eq_true rfl)
  refine W.eq (g2 := F0 m 0 ((lg_sl ([.ref (kw 0), .int x1]) ++ List.replicate (4 - (lg_sl ([.ref (kw 0), .int x1])).length) Slot.unset).toArray) []) (by rw [ha]; exact lg_entry_eq _ _ _) ?_
  generalize (lg_sl ([.ref (kw 0), .int x1]) ++ List.replicate (4 - (lg_sl ([.ref (kw 0), .int x1])).length) Slot.unset).toArray = ls at hl ⊢
  have hl : lv_has ls 4 [(0, .ref (kw 0)), (1, .int x1)] := hl
  rw [f_X10_canBeTaken] at h
  refine lv_aload_n hx hb dX10_canBeTaken_0 rfl (lv_at hl 0 rfl) ?_
  refine lv_iload_n hx hb dX10_canBeTaken_1 rfl (lv_at hl 1 rfl) ?_
  refine lv_iconst (v := 0) hx hb dX10_canBeTaken_2 (by decide) ?_
  obtain ⟨y4, gy4, h⟩ := zb_some h
  refine z_callr (va_runV (As := [.int x1, .int 0]) (rest := []) ⟨hx, hb, hml, hown, hts⟩ (c_X10_ofGrant l D tt kw bw bj x1 0 y4 gy4) (cwV 2 hts gX10_canBeTaken_X10_ofGrant rfl rfl rfl (by decide +kernel) ⟨Nat.le_of_ble_eq_true rfl, Nat.le_of_ble_eq_true rfl⟩) (z_preVr hK hP (ci := 10) (q0 := 0) rfl rfl) rfl rfl hl.1 rfl (lv_room (Nat.le_of_ble_eq_true rfl)) dX10_canBeTaken_3 ⟨Nat.zero_le _, Nat.zero_le _⟩) (fun ny4 => ?_)
  refine lv_istore_n (lv' := [(2, .int y4), (0, .ref (kw 0)), (1, .int x1)]) hx hb dX10_canBeTaken_6 rfl hl (by decide) rfl (fun ls hl => ?_)
  refine lv_aload_n hx hb dX10_canBeTaken_7 rfl (lv_at hl 1 rfl) ?_
  refine lv_iload_n hx hb dX10_canBeTaken_8 rfl (lv_at hl 0 rfl) ?_
  obtain ⟨y5, gy5, h⟩ := zb_some h
  refine z_callr (va_runV (As := [.int y4]) (rest := []) ⟨hx, hb, hml, hown, hts⟩ (c_X10_hasLeft l D tt kw bw bj y4 y5 gy5) (cwV 1 hts gX10_canBeTaken_X10_hasLeft rfl rfl rfl (by decide +kernel) ⟨Nat.le_of_ble_eq_true rfl, Nat.le_of_ble_eq_true rfl⟩) (z_preVr hK hP (ci := 10) (q0 := 0) rfl rfl) rfl rfl hl.1 rfl (lv_room (Nat.le_of_ble_eq_true rfl)) dX10_canBeTaken_9 ⟨Nat.zero_le _, Nat.zero_le _⟩) (fun ny5 => ?_)
  refine lv_if_eq (tgt := 41) hx hb dX10_canBeTaken_12 (by decide) (fun k6 => ?_) (fun k6 => ?_)
  · replace h := z_pos k6 h
    exact b41 x1 _ (lv_sub hl [1, 2] rfl) h
  replace h := z_neg k6 h
  refine lv_aload_n hx hb dX10_canBeTaken_15 rfl (lv_at hl 1 rfl) ?_
  refine va_get (D := D) (ci := 10) (v := .ref (kw 1)) (C := RX10) (T := TX10) (N := 15) hx hb hts hi10 hown hK.1 hP 0 rfl rfl 0 (by decide) fl7 (fun _ h9 => h9) rfl dX10_canBeTaken_16 ?_
  refine lv_iconst (v := 3) hx hb dX10_canBeTaken_19 (by decide) ?_
  refine va_iald hx hb hK.1 hP 1 0 rfl rfl (vp_in_lit 3 213 rfl) dX10_canBeTaken_20 ?_
  refine lv_aload_n hx hb dX10_canBeTaken_21 rfl (lv_at hl 1 rfl) ?_
  refine va_get (D := D) (ci := 10) (v := .ref (kw 1)) (C := RX10) (T := TX10) (N := 15) hx hb hts hi10 hown hK.1 hP 0 rfl rfl 0 (by decide) fl7 (fun _ h9 => h9) rfl dX10_canBeTaken_22 ?_
  refine lv_bipush (v := 53) hx hb dX10_canBeTaken_25 (by decide) ?_
  refine lv_iload_n hx hb dX10_canBeTaken_27 rfl (lv_at hl 0 rfl) ?_
  refine lv_iadd hx hb dX10_canBeTaken_28 ?_
  obtain ⟨q7, h⟩ := zA_some h
  refine va_iald hx hb hK.1 hP 1 0 rfl rfl q7 dX10_canBeTaken_29 ?_
  refine lv_iconst (v := 1) hx hb dX10_canBeTaken_30 (by decide) ?_
  refine lv_isub hx hb dX10_canBeTaken_31 ?_
  refine lv_isub hx hb dX10_canBeTaken_32 ?_
  refine lv_iconst (v := 3) hx hb dX10_canBeTaken_33 (by decide) ?_
  refine lv_icmp_le (tgt := 41) hx hb dX10_canBeTaken_34 (by decide) (fun k8 => ?_) (fun k8 => ?_)
  · replace h := z_pos k8 h
    exact b41 x1 _ (lv_sub hl [1, 2] rfl) h
  replace h := z_neg k8 h
  refine lv_iconst (v := 1) hx hb dX10_canBeTaken_37 (by decide) ?_
  refine lv_goto (tgt := 42) hx hb dX10_canBeTaken_38 (by decide) ?_
  refine lv_istore_n (lv' := [(3, .int 1), (2, .int y4), (0, .ref (kw 0)), (1, .int x1)]) hx hb dX10_canBeTaken_42 rfl hl (by decide) rfl (fun ls hl => ?_)
  refine lv_iload_n hx hb dX10_canBeTaken_43 rfl (lv_at hl 0 rfl) ?_
  refine lv_if_eq (tgt := 51) hx hb dX10_canBeTaken_44 (by decide) (fun k9 => ?_) (fun k9 => ?_)
  rotate_left
  · replace h := z_neg k9 h
    refine lv_iconst (v := 0) hx hb dX10_canBeTaken_47 (by decide) ?_
    refine lv_goto (tgt := 63) hx hb dX10_canBeTaken_48 (by decide) ?_
    exact hfin _ _ _ h rfl dX10_canBeTaken_63
  replace h := z_pos k9 h
  refine lv_aload_n hx hb dX10_canBeTaken_51 rfl (lv_at hl 2 rfl) ?_
  refine lv_iload_n hx hb dX10_canBeTaken_52 rfl (lv_at hl 3 rfl) ?_
  obtain ⟨y10, gy10, h⟩ := zb_some h
  refine z_callr (va_runV (As := [.int x1]) (rest := []) ⟨hx, hb, hml, hown, hts⟩ (c_X10_vested l D tt kw bw bj x1 y10 gy10) (cwV 1 hts gX10_canBeTaken_X10_vested rfl rfl rfl (by decide +kernel) ⟨Nat.le_of_ble_eq_true rfl, Nat.le_of_ble_eq_true rfl⟩) (z_preVr hK hP (ci := 10) (q0 := 0) rfl rfl) rfl rfl hl.1 rfl (lv_room (Nat.le_of_ble_eq_true rfl)) dX10_canBeTaken_53 ⟨Nat.zero_le _, Nat.zero_le _⟩) (fun ny10 => ?_)
  refine lv_aload_n hx hb dX10_canBeTaken_56 rfl (lv_at hl 2 rfl) ?_
  refine lv_iload_n hx hb dX10_canBeTaken_57 rfl (lv_at hl 3 rfl) ?_
  refine lv_iconst (v := 5) hx hb dX10_canBeTaken_58 (by decide) ?_
  obtain ⟨y11, gy11, h⟩ := zb_some h
  refine z_callr (va_runV (As := [.int x1, .int 5]) (rest := [.int y10]) ⟨hx, hb, hml, hown, hts⟩ (c_X10_ofGrant l D tt kw bw bj x1 5 y11 gy11) (cwV 2 hts gX10_canBeTaken_X10_ofGrant rfl rfl rfl (by decide +kernel) ⟨Nat.le_of_ble_eq_true rfl, Nat.le_of_ble_eq_true rfl⟩) (z_preVr hK hP (ci := 10) (q0 := 0) rfl rfl) rfl rfl hl.1 rfl (lv_room (Nat.le_of_ble_eq_true rfl)) dX10_canBeTaken_59 ⟨Nat.zero_le _, Nat.zero_le _⟩) (fun ny11 => ?_)
  refine lv_isub hx hb dX10_canBeTaken_62 ?_
  exact hfin _ _ _ h rfl dX10_canBeTaken_63
set_option maxHeartbeats 4000000 in
set_option maxRecDepth 100000 in
theorem c_X10_allToTake (l : Launch) (D : va_G) (tt : Nat → ClassId) (kw : Nat → Nat) (bw : zV) (bj : zJ) (x1 : Int32) (out : Int32) (h : f_X10_allToTake bw bj x1 = some out) : Met l yX10_allToTake wsX10_allToTake { frames := 3, cells := 0, slots := 0, locals := 70 } (zPr [.ref (kw 0), .int x1] D tt (zw_mo tt kw bw bj)) (zQr .int out) 0 0 (fun _ => False) := by
  refine Met.ofW (cc := cX10_allToTake) (maxL := 4) (ret := (some .int)) (by decide) rfl ?_
  intro p e s m args below meth c s₁ B hml hv
  obtain ⟨ha, hP, hK⟩ := hv
  have hx := B.exec
  have hb := B.bytes
  have hr := B.returns
  have hts := atoms_spec (ws := wsX10_allToTake) B.pre
  have hown : s.vm.findClass RX10 = some m.cls := findClass_of_methodNamed B.named
  have hlocks := B.notSynchronized
  have hi10 : ∀ w ∈ u_ws RX10 TX10 15, w ∈ wsX10_allToTake := fun _ h => List.mem_cons_of_mem _ (List.mem_append_right _ h)
  have fl7 := hts (.fieldLink RX10 7 "CapStacksModel" "s" "[I") (by decide +kernel)
  have hfin : ∀ (v : Int32) (pc : Nat) (ls : Array Slot), some v = some out → narrow .int (.int v) = .int v → decode cX10_allToTake pc = .ok (.ireturn, 1) → W p l e (headSpec wsX10_allToTake { frames := 3, cells := 0, slots := 0, locals := 70 }).room s m args below meth c s.heap [] 0 0 (MQ below (zQr .int out) args s 0 0 (fun _ => False)) (F0 m pc ls [.int v]) := by
    intro v pc ls he hn hd
    cases he
    exact W.zret hx hb hr hn (fun t ht hW => ⟨rfl, hn, ht⟩) (fun _ h => by cases h) hd
  generalize MQ below (zQr .int out) args s 0 0 (fun _ => False) = Q at hfin ⊢
  have b4 : ∀ n : Nat, ∀ (x1 : Int32) (x2 : Int32) (x3 : Int32) (ls : Array Slot), lv_has ls 4 [(0, .ref (kw 0)), (1, .int x1), (2, .int x2), (3, .int x3)] → f_X10_allToTake_b4 bw bj n x1 x2 x3 = some out → W p l e (headSpec wsX10_allToTake { frames := 3, cells := 0, slots := 0, locals := 70 }).room s m args below meth c s.heap [] 0 0 Q (F0 m 4 ls []) := by
    intro n
    induction n with
    | zero =>
      intro x1 x2 x3 ls hl h
      cases h
    | succ n ih =>
      intro x1 x2 x3 ls hl h
      rw [f_X10_allToTake_b4] at h
      refine lv_iload_n hx hb dX10_allToTake_4 rfl (lv_at hl 3 rfl) ?_
      refine lv_aload_n hx hb dX10_allToTake_5 rfl (lv_at hl 0 rfl) ?_
      refine va_get (D := D) (ci := 10) (v := .ref (kw 1)) (C := RX10) (T := TX10) (N := 15) hx hb hts hi10 hown hK.1 hP 0 rfl rfl 0 (by decide) fl7 (fun _ h9 => h9) rfl dX10_allToTake_6 ?_
      refine lv_iconst (v := 2) hx hb dX10_allToTake_9 (by decide) ?_
      refine va_iald hx hb hK.1 hP 1 0 rfl rfl (vp_in_lit 2 213 rfl) dX10_allToTake_10 ?_
      refine lv_icmp_ge (tgt := 42) hx hb dX10_allToTake_11 (by decide) (fun k1 => ?_) (fun k1 => ?_)
      · replace h := z_pos k1 h
        refine lv_iload_n hx hb dX10_allToTake_42 rfl (lv_at hl 2 rfl) ?_
        exact hfin _ _ _ h rfl dX10_allToTake_43
      replace h := z_neg k1 h
      refine lv_iload_n hx hb dX10_allToTake_14 rfl (lv_at hl 2 rfl) ?_
      refine lv_aload_n hx hb dX10_allToTake_15 rfl (lv_at hl 0 rfl) ?_
      refine lv_iload_n hx hb dX10_allToTake_16 rfl (lv_at hl 3 rfl) ?_
      refine lv_iconst (v := 0) hx hb dX10_allToTake_17 (by decide) ?_
      obtain ⟨y2, gy2, h⟩ := zb_some h
      refine z_callr (va_runV (As := [.int x3, .int 0]) (rest := [.int x2]) ⟨hx, hb, hml, hown, hts⟩ (c_X10_ofGrant l D tt kw bw bj x3 0 y2 gy2) (cwV 2 hts gX10_allToTake_X10_ofGrant rfl rfl rfl (by decide +kernel) ⟨Nat.le_of_ble_eq_true rfl, Nat.le_of_ble_eq_true rfl⟩) (z_preVr hK hP (ci := 10) (q0 := 0) rfl rfl) rfl rfl hl.1 rfl (lv_room (Nat.le_of_ble_eq_true rfl)) dX10_allToTake_18 ⟨Nat.zero_le _, Nat.zero_le _⟩) (fun ny2 => ?_)
      refine lv_iload_n hx hb dX10_allToTake_21 rfl (lv_at hl 1 rfl) ?_
      refine lv_icmp_ne (tgt := 33) hx hb dX10_allToTake_22 (by decide) (fun k3 => ?_) (fun k3 => ?_)
      · replace h := z_neg k3 h
        refine lv_iconst (v := 0) hx hb dX10_allToTake_33 (by decide) ?_
        refine lv_iadd hx hb dX10_allToTake_34 ?_
        refine lv_istore_n (lv' := [(2, .int (x2 + 0)), (0, .ref (kw 0)), (1, .int x1), (3, .int x3)]) hx hb dX10_allToTake_35 rfl hl (by decide) rfl (fun ls hl => ?_)
        refine lv_iinc (v := (x3 + 1)) (lv' := [(3, .int (x3 + 1)), (2, .int (x2 + 0)), (0, .ref (kw 0)), (1, .int x1)]) hx hb dX10_allToTake_36 hl (k := 3) rfl rfl (by decide) rfl (fun ls hl => ?_)
        refine lv_goto (tgt := 4) hx hb dX10_allToTake_39 (by decide) ?_
        exact ih x1 (x2 + 0) (x3 + 1) _ (lv_sub hl [2, 3, 1, 0] rfl) h
      replace h := z_pos k3 h
      refine lv_aload_n hx hb dX10_allToTake_25 rfl (lv_at hl 0 rfl) ?_
      refine lv_iload_n hx hb dX10_allToTake_26 rfl (lv_at hl 3 rfl) ?_
      obtain ⟨y4, gy4, h⟩ := zb_some h
      refine z_callr (va_runV (As := [.int x3]) (rest := [.int x2]) ⟨hx, hb, hml, hown, hts⟩ (c_X10_canBeTaken l D tt kw bw bj x3 y4 gy4) (cwV 1 hts gX10_allToTake_X10_canBeTaken rfl rfl rfl (by decide +kernel) ⟨Nat.le_of_ble_eq_true rfl, Nat.le_of_ble_eq_true rfl⟩) (z_preVr hK hP (ci := 10) (q0 := 0) rfl rfl) rfl rfl hl.1 rfl (lv_room (Nat.le_of_ble_eq_true rfl)) dX10_allToTake_27 ⟨Nat.zero_le _, Nat.zero_le _⟩) (fun ny4 => ?_)
      refine lv_goto (tgt := 34) hx hb dX10_allToTake_30 (by decide) ?_
      refine lv_iadd hx hb dX10_allToTake_34 ?_
      refine lv_istore_n (lv' := [(2, .int (x2 + y4)), (0, .ref (kw 0)), (1, .int x1), (3, .int x3)]) hx hb dX10_allToTake_35 rfl hl (by decide) rfl (fun ls hl => ?_)
      refine lv_iinc (v := (x3 + 1)) (lv' := [(3, .int (x3 + 1)), (2, .int (x2 + y4)), (0, .ref (kw 0)), (1, .int x1)]) hx hb dX10_allToTake_36 hl (k := 3) rfl rfl (by decide) rfl (fun ls hl => ?_)
      refine lv_goto (tgt := 4) hx hb dX10_allToTake_39 (by decide) ?_
      exact ih x1 (x2 + y4) (x3 + 1) _ (lv_sub hl [2, 3, 1, 0] rfl) h
  have hl := lv_entry ([.ref (kw 0), .int x1]) (n := 4) (Nat.le_of_ble_eq_true rfl)
  refine W.eq (g2 := F0 m 0 ((lg_sl ([.ref (kw 0), .int x1]) ++ List.replicate (4 - (lg_sl ([.ref (kw 0), .int x1])).length) Slot.unset).toArray) []) (by rw [ha]; exact lg_entry_eq _ _ _) ?_
  generalize (lg_sl ([.ref (kw 0), .int x1]) ++ List.replicate (4 - (lg_sl ([.ref (kw 0), .int x1])).length) Slot.unset).toArray = ls at hl ⊢
  have hl : lv_has ls 4 [(0, .ref (kw 0)), (1, .int x1)] := hl
  rw [f_X10_allToTake] at h
  refine lv_iconst (v := 0) hx hb dX10_allToTake_0 (by decide) ?_
  refine lv_istore_n (lv' := [(2, .int 0), (0, .ref (kw 0)), (1, .int x1)]) hx hb dX10_allToTake_1 rfl hl (by decide) rfl (fun ls hl => ?_)
  refine lv_iconst (v := 0) hx hb dX10_allToTake_2 (by decide) ?_
  refine lv_istore_n (lv' := [(3, .int 0), (2, .int 0), (0, .ref (kw 0)), (1, .int x1)]) hx hb dX10_allToTake_3 rfl hl (by decide) rfl (fun ls hl => ?_)
  exact b4 1000 x1 0 0 _ (lv_sub hl [2, 3, 1, 0] rfl) h
set_option maxHeartbeats 4000000 in
set_option maxRecDepth 100000 in
theorem c_X10_founds (l : Launch) (D : va_G) (tt : Nat → ClassId) (kw : Nat → Nat) (sz : Nat) (bw : zV) (bj : zJ) (x1 : Int32) (x2 : Int32) (x3 : Int32) (x4 : Int32) (x5 : Int32) (out : Int32 × zV) (h : f_X10_founds bw bj x1 x2 x3 x4 x5 = some out) : Met l yX10_founds wsX10_founds { frames := 1, cells := 0, slots := 0, locals := 22 } (zPm [.ref (kw 0), .int x1, .int x2, .int x3, .int x4, .int x5] D tt (zw_mo tt kw bw bj) sz) (zMi .int out.1 D (zw_mo tt kw out.2 bj) (va_A (zw_mo tt kw bw bj) sz)) 0 0 (va_A (zw_mo tt kw bw bj) sz) := by
  refine Met.ofW (cc := cX10_founds) (maxL := 7) (ret := (some .int)) (by decide) rfl ?_
  intro p e s m args below meth c s₁ B hml hv
  obtain ⟨ha, hsz, hP, hK, hD0⟩ := hv
  have hx := B.exec
  have hb := B.bytes
  have hr := B.returns
  have hts := atoms_spec (ws := wsX10_founds) B.pre
  have hown : s.vm.findClass RX10 = some m.cls := findClass_of_methodNamed B.named
  have hlocks := B.notSynchronized
  have hi10 : ∀ w ∈ u_ws RX10 TX10 15, w ∈ wsX10_founds := fun _ h => List.mem_cons_of_mem _ (List.mem_append_right _ h)
  have fl7 := hts (.fieldLink RX10 7 "CapStacksModel" "s" "[I") (by decide +kernel)
  subst hsz
  have hD := hD0.self (sz := s.heap.size)
  generalize hAe : va_A (zw_mo tt kw bw bj) s.heap.size = A at hD ⊢
  have hA : ∀ q : Nat, s.heap.size ≤ q → A q := fun q h => by rw [← hAe]; exact Or.inr h
  have hS : va_S A s.heap s.heap [] := va_S.rf
  have hfin : ∀ (v : Int32) (bw : zV) (pc : Nat) (ls : Array Slot) (H : Heap) (locs : List Loc), some (v, bw) = some out → narrow .int (.int v) = .int v → va_P D vwCl (zw_mo tt kw bw bj) H → va_D A (zw_mo tt kw bw bj) → va_S A s.heap H locs → decode cX10_founds pc = .ok (.ireturn, 1) → W p l e (headSpec wsX10_founds { frames := 1, cells := 0, slots := 0, locals := 22 }).room s m args below meth c H locs 0 0 (MQ below (zMi .int out.1 D (zw_mo tt kw out.2 bj) A) args s 0 0 A) (F0 m pc ls [.int v]) := by
    intro v bw pc ls H locs he hn hP hD hS hd
    cases he
    exact W.zret hx hb hr hn (fun t ht hW => ⟨⟨_, (), rfl, ⟨rfl, hn⟩, by rw [ht]; exact hP, hD⟩, hS.F ht⟩) hS.2.2 hd
  generalize MQ below (zMi .int out.1 D (zw_mo tt kw out.2 bj) A) args s 0 0 A = Q at hfin ⊢
  have hl := lv_entry ([.ref (kw 0), .int x1, .int x2, .int x3, .int x4, .int x5]) (n := 7) (Nat.le_of_ble_eq_true rfl)
  refine W.eq (g2 := F0 m 0 ((lg_sl ([.ref (kw 0), .int x1, .int x2, .int x3, .int x4, .int x5]) ++ List.replicate (7 - (lg_sl ([.ref (kw 0), .int x1, .int x2, .int x3, .int x4, .int x5])).length) Slot.unset).toArray) []) (by rw [ha]; exact lg_entry_eq _ _ _) ?_
  generalize (lg_sl ([.ref (kw 0), .int x1, .int x2, .int x3, .int x4, .int x5]) ++ List.replicate (7 - (lg_sl ([.ref (kw 0), .int x1, .int x2, .int x3, .int x4, .int x5])).length) Slot.unset).toArray = ls at hl ⊢
  have hl : lv_has ls 7 [(0, .ref (kw 0)), (1, .int x1), (2, .int x2), (3, .int x3), (4, .int x4), (5, .int x5)] := hl
  rw [f_X10_founds] at h
  refine lv_iload_n hx hb dX10_founds_0 rfl (lv_at hl 1 rfl) ?_
  refine lv_iconst (v := 1) hx hb dX10_founds_1 (by decide) ?_
  refine lv_bipush (v := 99) hx hb dX10_founds_2 (by decide) ?_
  obtain ⟨y1, gy1, h⟩ := zb_some h
  refine z_callr (va_runS (As := [.int x1, .int 1, .int 99]) (rest := []) ⟨hx, hb, hml, hown, hts⟩ (c_X10_in l D tt x1 1 99 y1 gy1) (va_cwS 3 hts gX10_founds_X10_in rfl rfl rfl (by decide +kernel) ⟨Nat.le_of_ble_eq_true rfl, Nat.le_of_ble_eq_true rfl⟩) (z_preSr hK (hP.sub (ws' := ([] : va_W)) [] rfl)) rfl rfl hl.1 rfl (lv_room (Nat.le_of_ble_eq_true rfl)) dX10_founds_4 ⟨Nat.zero_le _, Nat.zero_le _⟩) (fun ny1 => ?_)
  refine lv_if_eq (tgt := 49) hx hb dX10_founds_7 (by decide) (fun k2 => ?_) (fun k2 => ?_)
  · replace h := z_pos k2 h
    refine lv_iconst (v := (-1)) hx hb dX10_founds_49 (by decide) ?_
    exact hfin _ _ _ _ _ _ h rfl hP hD hS dX10_founds_50
  replace h := z_neg k2 h
  refine lv_iload_n hx hb dX10_founds_10 rfl (lv_at hl 2 rfl) ?_
  refine lv_iconst (v := 1) hx hb dX10_founds_11 (by decide) ?_
  refine lv_iconst (v := 3) hx hb dX10_founds_12 (by decide) ?_
  obtain ⟨y3, gy3, h⟩ := zb_some h
  refine z_callr (va_runS (As := [.int x2, .int 1, .int 3]) (rest := []) ⟨hx, hb, hml, hown, hts⟩ (c_X10_in l D tt x2 1 3 y3 gy3) (va_cwS 3 hts gX10_founds_X10_in rfl rfl rfl (by decide +kernel) ⟨Nat.le_of_ble_eq_true rfl, Nat.le_of_ble_eq_true rfl⟩) (z_preSr hK (hP.sub (ws' := ([] : va_W)) [] rfl)) rfl rfl hl.1 rfl (lv_room (Nat.le_of_ble_eq_true rfl)) dX10_founds_13 ⟨Nat.zero_le _, Nat.zero_le _⟩) (fun ny3 => ?_)
  refine lv_if_eq (tgt := 49) hx hb dX10_founds_16 (by decide) (fun k4 => ?_) (fun k4 => ?_)
  · replace h := z_pos k4 h
    refine lv_iconst (v := (-1)) hx hb dX10_founds_49 (by decide) ?_
    exact hfin _ _ _ _ _ _ h rfl hP hD hS dX10_founds_50
  replace h := z_neg k4 h
  refine lv_iload_n hx hb dX10_founds_19 rfl (lv_at hl 3 rfl) ?_
  refine lv_iconst (v := 0) hx hb dX10_founds_20 (by decide) ?_
  refine lv_bipush (v := 9) hx hb dX10_founds_21 (by decide) ?_
  obtain ⟨y5, gy5, h⟩ := zb_some h
  refine z_callr (va_runS (As := [.int x3, .int 0, .int 9]) (rest := []) ⟨hx, hb, hml, hown, hts⟩ (c_X10_in l D tt x3 0 9 y5 gy5) (va_cwS 3 hts gX10_founds_X10_in rfl rfl rfl (by decide +kernel) ⟨Nat.le_of_ble_eq_true rfl, Nat.le_of_ble_eq_true rfl⟩) (z_preSr hK (hP.sub (ws' := ([] : va_W)) [] rfl)) rfl rfl hl.1 rfl (lv_room (Nat.le_of_ble_eq_true rfl)) dX10_founds_23 ⟨Nat.zero_le _, Nat.zero_le _⟩) (fun ny5 => ?_)
  refine lv_if_eq (tgt := 49) hx hb dX10_founds_26 (by decide) (fun k6 => ?_) (fun k6 => ?_)
  · replace h := z_pos k6 h
    refine lv_iconst (v := (-1)) hx hb dX10_founds_49 (by decide) ?_
    exact hfin _ _ _ _ _ _ h rfl hP hD hS dX10_founds_50
  replace h := z_neg k6 h
  refine lv_iload hx hb dX10_founds_29 (lv_at hl 4 rfl) ?_
  refine lv_iconst (v := 0) hx hb dX10_founds_31 (by decide) ?_
  refine lv_iconst (v := 2) hx hb dX10_founds_32 (by decide) ?_
  obtain ⟨y7, gy7, h⟩ := zb_some h
  refine z_callr (va_runS (As := [.int x4, .int 0, .int 2]) (rest := []) ⟨hx, hb, hml, hown, hts⟩ (c_X10_in l D tt x4 0 2 y7 gy7) (va_cwS 3 hts gX10_founds_X10_in rfl rfl rfl (by decide +kernel) ⟨Nat.le_of_ble_eq_true rfl, Nat.le_of_ble_eq_true rfl⟩) (z_preSr hK (hP.sub (ws' := ([] : va_W)) [] rfl)) rfl rfl hl.1 rfl (lv_room (Nat.le_of_ble_eq_true rfl)) dX10_founds_33 ⟨Nat.zero_le _, Nat.zero_le _⟩) (fun ny7 => ?_)
  refine lv_if_eq (tgt := 49) hx hb dX10_founds_36 (by decide) (fun k8 => ?_) (fun k8 => ?_)
  · replace h := z_pos k8 h
    refine lv_iconst (v := (-1)) hx hb dX10_founds_49 (by decide) ?_
    exact hfin _ _ _ _ _ _ h rfl hP hD hS dX10_founds_50
  replace h := z_neg k8 h
  refine lv_iload hx hb dX10_founds_39 (lv_at hl 5 rfl) ?_
  refine lv_iconst (v := 1) hx hb dX10_founds_41 (by decide) ?_
  refine lv_iconst (v := 4) hx hb dX10_founds_42 (by decide) ?_
  obtain ⟨y9, gy9, h⟩ := zb_some h
  refine z_callr (va_runS (As := [.int x5, .int 1, .int 4]) (rest := []) ⟨hx, hb, hml, hown, hts⟩ (c_X10_in l D tt x5 1 4 y9 gy9) (va_cwS 3 hts gX10_founds_X10_in rfl rfl rfl (by decide +kernel) ⟨Nat.le_of_ble_eq_true rfl, Nat.le_of_ble_eq_true rfl⟩) (z_preSr hK (hP.sub (ws' := ([] : va_W)) [] rfl)) rfl rfl hl.1 rfl (lv_room (Nat.le_of_ble_eq_true rfl)) dX10_founds_43 ⟨Nat.zero_le _, Nat.zero_le _⟩) (fun ny9 => ?_)
  refine lv_if_ne (tgt := 51) hx hb dX10_founds_46 (by decide) (fun k10 => ?_) (fun k10 => ?_)
  rotate_left
  · replace h := z_pos k10 h
    refine lv_iconst (v := (-1)) hx hb dX10_founds_49 (by decide) ?_
    exact hfin _ _ _ _ _ _ h rfl hP hD hS dX10_founds_50
  replace h := z_neg k10 h
  refine lv_aload_n hx hb dX10_founds_51 rfl (lv_at hl 0 rfl) ?_
  refine va_get (D := D) (ci := 10) (v := .ref (kw 1)) (C := RX10) (T := TX10) (N := 15) hx hb hts hi10 hown hK.1 hP 0 rfl rfl 0 (by decide) fl7 (fun _ h9 => h9) rfl dX10_founds_52 ?_
  refine lv_iconst (v := 0) hx hb dX10_founds_55 (by decide) ?_
  refine va_iald hx hb hK.1 hP 1 0 rfl rfl (vp_in_lit 0 213 rfl) dX10_founds_56 ?_
  refine lv_iconst (v := 5) hx hb dX10_founds_57 (by decide) ?_
  refine lv_icmp_ne (tgt := 64) hx hb dX10_founds_58 (by decide) (fun k11 => ?_) (fun k11 => ?_)
  rotate_left
  · replace h := z_pos k11 h
    refine lv_bipush (v := (-3)) hx hb dX10_founds_61 (by decide) ?_
    exact hfin _ _ _ _ _ _ h rfl hP hD hS dX10_founds_63
  replace h := z_neg k11 h
  refine lv_bipush (v := 28) hx hb dX10_founds_64 (by decide) ?_
  refine lv_iconst (v := 5) hx hb dX10_founds_66 (by decide) ?_
  refine lv_aload_n hx hb dX10_founds_67 rfl (lv_at hl 0 rfl) ?_
  refine va_get (D := D) (ci := 10) (v := .ref (kw 1)) (C := RX10) (T := TX10) (N := 15) hx hb hts hi10 hown hK.1 hP 0 rfl rfl 0 (by decide) fl7 (fun _ h9 => h9) rfl dX10_founds_68 ?_
  refine lv_iconst (v := 0) hx hb dX10_founds_71 (by decide) ?_
  refine va_iald hx hb hK.1 hP 1 0 rfl rfl (vp_in_lit 0 213 rfl) dX10_founds_72 ?_
  refine lv_imul hx hb dX10_founds_73 ?_
  refine lv_iadd hx hb dX10_founds_74 ?_
  refine lv_istore (lv' := [(6, .int (28 + (5 * ((bw 1) (0 : Int32).toNatClampNeg)))), (0, .ref (kw 0)), (1, .int x1), (2, .int x2), (3, .int x3), (4, .int x4), (5, .int x5)]) hx hb dX10_founds_75 hl (by decide) rfl (fun ls hl => ?_)
  refine lv_aload_n hx hb dX10_founds_77 rfl (lv_at hl 1 rfl) ?_
  refine va_get (D := D) (ci := 10) (v := .ref (kw 1)) (C := RX10) (T := TX10) (N := 15) hx hb hts hi10 hown hK.1 hP 0 rfl rfl 0 (by decide) fl7 (fun _ h9 => h9) rfl dX10_founds_78 ?_
  refine lv_iload hx hb dX10_founds_81 (lv_at hl 0 rfl) ?_
  refine lv_iconst (v := 0) hx hb dX10_founds_83 (by decide) ?_
  refine lv_iadd hx hb dX10_founds_84 ?_
  refine lv_iload_n hx hb dX10_founds_85 rfl (lv_at hl 2 rfl) ?_
  obtain ⟨q12, h⟩ := zA_some h
  refine va_iast hx hb hK.1 hP hD hS 1 0 rfl rfl q12 dX10_founds_86 (fun H locs hP hD hS => ?_)
  obtain ⟨a13, ea13, h⟩ := zl_some h
  have hP : va_P D vwCl (zw_mo tt kw (zu bw 1 a13) bj) H := by rw [ea13]; exact hP
  have hD : va_D A (zw_mo tt kw (zu bw 1 a13) bj) := by rw [ea13]; exact hD
  clear ea13
  refine lv_aload_n hx hb dX10_founds_87 rfl (lv_at hl 1 rfl) ?_
  refine va_get (D := D) (ci := 10) (v := .ref (kw 1)) (C := RX10) (T := TX10) (N := 15) hx hb hts hi10 hown hK.1 hP 0 rfl rfl 0 (by decide) fl7 (fun _ h9 => h9) rfl dX10_founds_88 ?_
  refine lv_iload hx hb dX10_founds_91 (lv_at hl 0 rfl) ?_
  refine lv_iconst (v := 1) hx hb dX10_founds_93 (by decide) ?_
  refine lv_iadd hx hb dX10_founds_94 ?_
  refine lv_iload_n hx hb dX10_founds_95 rfl (lv_at hl 3 rfl) ?_
  obtain ⟨q14, h⟩ := zA_some h
  refine va_iast hx hb hK.1 hP hD hS 1 0 rfl rfl q14 dX10_founds_96 (fun H locs hP hD hS => ?_)
  obtain ⟨a15, ea15, h⟩ := zl_some h
  have hP : va_P D vwCl (zw_mo tt kw (zu bw 1 a15) bj) H := by rw [ea15]; exact hP
  have hD : va_D A (zw_mo tt kw (zu bw 1 a15) bj) := by rw [ea15]; exact hD
  clear ea15
  refine lv_aload_n hx hb dX10_founds_97 rfl (lv_at hl 1 rfl) ?_
  refine va_get (D := D) (ci := 10) (v := .ref (kw 1)) (C := RX10) (T := TX10) (N := 15) hx hb hts hi10 hown hK.1 hP 0 rfl rfl 0 (by decide) fl7 (fun _ h9 => h9) rfl dX10_founds_98 ?_
  refine lv_iload hx hb dX10_founds_101 (lv_at hl 0 rfl) ?_
  refine lv_iconst (v := 2) hx hb dX10_founds_103 (by decide) ?_
  refine lv_iadd hx hb dX10_founds_104 ?_
  refine lv_iload_n hx hb dX10_founds_105 rfl (lv_at hl 4 rfl) ?_
  obtain ⟨q16, h⟩ := zA_some h
  refine va_iast hx hb hK.1 hP hD hS 1 0 rfl rfl q16 dX10_founds_106 (fun H locs hP hD hS => ?_)
  obtain ⟨a17, ea17, h⟩ := zl_some h
  have hP : va_P D vwCl (zw_mo tt kw (zu bw 1 a17) bj) H := by rw [ea17]; exact hP
  have hD : va_D A (zw_mo tt kw (zu bw 1 a17) bj) := by rw [ea17]; exact hD
  clear ea17
  refine lv_aload_n hx hb dX10_founds_107 rfl (lv_at hl 1 rfl) ?_
  refine va_get (D := D) (ci := 10) (v := .ref (kw 1)) (C := RX10) (T := TX10) (N := 15) hx hb hts hi10 hown hK.1 hP 0 rfl rfl 0 (by decide) fl7 (fun _ h9 => h9) rfl dX10_founds_108 ?_
  refine lv_iload hx hb dX10_founds_111 (lv_at hl 0 rfl) ?_
  refine lv_iconst (v := 3) hx hb dX10_founds_113 (by decide) ?_
  refine lv_iadd hx hb dX10_founds_114 ?_
  refine lv_iload hx hb dX10_founds_115 (lv_at hl 5 rfl) ?_
  obtain ⟨q18, h⟩ := zA_some h
  refine va_iast hx hb hK.1 hP hD hS 1 0 rfl rfl q18 dX10_founds_117 (fun H locs hP hD hS => ?_)
  obtain ⟨a19, ea19, h⟩ := zl_some h
  have hP : va_P D vwCl (zw_mo tt kw (zu bw 1 a19) bj) H := by rw [ea19]; exact hP
  have hD : va_D A (zw_mo tt kw (zu bw 1 a19) bj) := by rw [ea19]; exact hD
  clear ea19
  refine lv_aload_n hx hb dX10_founds_118 rfl (lv_at hl 1 rfl) ?_
  refine va_get (D := D) (ci := 10) (v := .ref (kw 1)) (C := RX10) (T := TX10) (N := 15) hx hb hts hi10 hown hK.1 hP 0 rfl rfl 0 (by decide) fl7 (fun _ h9 => h9) rfl dX10_founds_119 ?_
  refine lv_iload hx hb dX10_founds_122 (lv_at hl 0 rfl) ?_
  refine lv_iconst (v := 4) hx hb dX10_founds_124 (by decide) ?_
  refine lv_iadd hx hb dX10_founds_125 ?_
  refine lv_iload hx hb dX10_founds_126 (lv_at hl 6 rfl) ?_
  obtain ⟨q20, h⟩ := zA_some h
  refine va_iast hx hb hK.1 hP hD hS 1 0 rfl rfl q20 dX10_founds_128 (fun H locs hP hD hS => ?_)
  obtain ⟨a21, ea21, h⟩ := zl_some h
  have hP : va_P D vwCl (zw_mo tt kw (zu bw 1 a21) bj) H := by rw [ea21]; exact hP
  have hD : va_D A (zw_mo tt kw (zu bw 1 a21) bj) := by rw [ea21]; exact hD
  clear ea21
  refine lv_aload_n hx hb dX10_founds_129 rfl (lv_at hl 1 rfl) ?_
  refine va_get (D := D) (ci := 10) (v := .ref (kw 1)) (C := RX10) (T := TX10) (N := 15) hx hb hts hi10 hown hK.1 hP 0 rfl rfl 0 (by decide) fl7 (fun _ h9 => h9) rfl dX10_founds_130 ?_
  refine lv_iconst (v := 0) hx hb dX10_founds_133 (by decide) ?_
  refine lv_dup2_11 hx hb dX10_founds_134 rfl rfl ?_
  refine va_iald hx hb hK.1 hP 1 0 rfl rfl (vp_in_lit 0 213 rfl) dX10_founds_135 ?_
  refine lv_iconst (v := 1) hx hb dX10_founds_136 (by decide) ?_
  refine lv_iadd hx hb dX10_founds_137 ?_
  refine va_iast hx hb hK.1 hP hD hS 1 0 rfl rfl (vp_in_lit 0 213 rfl) dX10_founds_138 (fun H locs hP hD hS => ?_)
  obtain ⟨a22, ea22, h⟩ := zl_some h
  have hP : va_P D vwCl (zw_mo tt kw (zu bw 1 a22) bj) H := by rw [ea22]; exact hP
  have hD : va_D A (zw_mo tt kw (zu bw 1 a22) bj) := by rw [ea22]; exact hD
  clear ea22
  refine lv_aload_n hx hb dX10_founds_139 rfl (lv_at hl 1 rfl) ?_
  refine va_get (D := D) (ci := 10) (v := .ref (kw 1)) (C := RX10) (T := TX10) (N := 15) hx hb hts hi10 hown hK.1 hP 0 rfl rfl 0 (by decide) fl7 (fun _ h9 => h9) rfl dX10_founds_140 ?_
  refine lv_iconst (v := 0) hx hb dX10_founds_143 (by decide) ?_
  refine va_iald hx hb hK.1 hP 1 0 rfl rfl (vp_in_lit 0 213 rfl) dX10_founds_144 ?_
  refine lv_iconst (v := 1) hx hb dX10_founds_145 (by decide) ?_
  refine lv_isub hx hb dX10_founds_146 ?_
  exact hfin _ _ _ _ _ _ h rfl hP hD hS dX10_founds_147
set_option maxHeartbeats 4000000 in
set_option maxRecDepth 100000 in
theorem c_X10_comes (l : Launch) (D : va_G) (tt : Nat → ClassId) (kw : Nat → Nat) (sz : Nat) (bw : zV) (bj : zJ)  (out : Int32 × zV) (h : f_X10_comes bw bj = some out) : Met l yX10_comes wsX10_comes { frames := 0, cells := 0, slots := 0, locals := 0 } (zPm [.ref (kw 0)] D tt (zw_mo tt kw bw bj) sz) (zMi .int out.1 D (zw_mo tt kw out.2 bj) (va_A (zw_mo tt kw bw bj) sz)) 0 0 (va_A (zw_mo tt kw bw bj) sz) := by
  refine Met.ofW (cc := cX10_comes) (maxL := 1) (ret := (some .int)) (by decide) rfl ?_
  intro p e s m args below meth c s₁ B hml hv
  obtain ⟨ha, hsz, hP, hK, hD0⟩ := hv
  have hx := B.exec
  have hb := B.bytes
  have hr := B.returns
  have hts := atoms_spec (ws := wsX10_comes) B.pre
  have hown : s.vm.findClass RX10 = some m.cls := findClass_of_methodNamed B.named
  have hlocks := B.notSynchronized
  have hi10 : ∀ w ∈ u_ws RX10 TX10 15, w ∈ wsX10_comes := fun _ h => List.mem_cons_of_mem _ (List.mem_append_right _ h)
  have fl7 := hts (.fieldLink RX10 7 "CapStacksModel" "s" "[I") (by decide +kernel)
  subst hsz
  have hD := hD0.self (sz := s.heap.size)
  generalize hAe : va_A (zw_mo tt kw bw bj) s.heap.size = A at hD ⊢
  have hA : ∀ q : Nat, s.heap.size ≤ q → A q := fun q h => by rw [← hAe]; exact Or.inr h
  have hS : va_S A s.heap s.heap [] := va_S.rf
  have hfin : ∀ (v : Int32) (bw : zV) (pc : Nat) (ls : Array Slot) (H : Heap) (locs : List Loc), some (v, bw) = some out → narrow .int (.int v) = .int v → va_P D vwCl (zw_mo tt kw bw bj) H → va_D A (zw_mo tt kw bw bj) → va_S A s.heap H locs → decode cX10_comes pc = .ok (.ireturn, 1) → W p l e (headSpec wsX10_comes { frames := 0, cells := 0, slots := 0, locals := 0 }).room s m args below meth c H locs 0 0 (MQ below (zMi .int out.1 D (zw_mo tt kw out.2 bj) A) args s 0 0 A) (F0 m pc ls [.int v]) := by
    intro v bw pc ls H locs he hn hP hD hS hd
    cases he
    exact W.zret hx hb hr hn (fun t ht hW => ⟨⟨_, (), rfl, ⟨rfl, hn⟩, by rw [ht]; exact hP, hD⟩, hS.F ht⟩) hS.2.2 hd
  generalize MQ below (zMi .int out.1 D (zw_mo tt kw out.2 bj) A) args s 0 0 A = Q at hfin ⊢
  have hl := lv_entry ([.ref (kw 0)]) (n := 1) (Nat.le_of_ble_eq_true rfl)
  refine W.eq (g2 := F0 m 0 ((lg_sl ([.ref (kw 0)]) ++ List.replicate (1 - (lg_sl ([.ref (kw 0)])).length) Slot.unset).toArray) []) (by rw [ha]; exact lg_entry_eq _ _ _) ?_
  generalize (lg_sl ([.ref (kw 0)]) ++ List.replicate (1 - (lg_sl ([.ref (kw 0)])).length) Slot.unset).toArray = ls at hl ⊢
  have hl : lv_has ls 1 [(0, .ref (kw 0))] := hl
  rw [f_X10_comes] at h
  refine lv_aload_n hx hb dX10_comes_0 rfl (lv_at hl 0 rfl) ?_
  refine va_get (D := D) (ci := 10) (v := .ref (kw 1)) (C := RX10) (T := TX10) (N := 15) hx hb hts hi10 hown hK.1 hP 0 rfl rfl 0 (by decide) fl7 (fun _ h9 => h9) rfl dX10_comes_1 ?_
  refine lv_iconst (v := 1) hx hb dX10_comes_4 (by decide) ?_
  refine va_iald hx hb hK.1 hP 1 0 rfl rfl (vp_in_lit 1 213 rfl) dX10_comes_5 ?_
  refine lv_bipush (v := 8) hx hb dX10_comes_6 (by decide) ?_
  refine lv_icmp_ne (tgt := 14) hx hb dX10_comes_8 (by decide) (fun k1 => ?_) (fun k1 => ?_)
  rotate_left
  · replace h := z_pos k1 h
    refine lv_bipush (v := (-3)) hx hb dX10_comes_11 (by decide) ?_
    exact hfin _ _ _ _ _ _ h rfl hP hD hS dX10_comes_13
  replace h := z_neg k1 h
  refine lv_aload_n hx hb dX10_comes_14 rfl (lv_at hl 0 rfl) ?_
  refine va_get (D := D) (ci := 10) (v := .ref (kw 1)) (C := RX10) (T := TX10) (N := 15) hx hb hts hi10 hown hK.1 hP 0 rfl rfl 0 (by decide) fl7 (fun _ h9 => h9) rfl dX10_comes_15 ?_
  refine lv_iconst (v := 1) hx hb dX10_comes_18 (by decide) ?_
  refine lv_dup2_11 hx hb dX10_comes_19 rfl rfl ?_
  refine va_iald hx hb hK.1 hP 1 0 rfl rfl (vp_in_lit 1 213 rfl) dX10_comes_20 ?_
  refine lv_iconst (v := 1) hx hb dX10_comes_21 (by decide) ?_
  refine lv_iadd hx hb dX10_comes_22 ?_
  refine va_iast hx hb hK.1 hP hD hS 1 0 rfl rfl (vp_in_lit 1 213 rfl) dX10_comes_23 (fun H locs hP hD hS => ?_)
  obtain ⟨a2, ea2, h⟩ := zl_some h
  have hP : va_P D vwCl (zw_mo tt kw (zu bw 1 a2) bj) H := by rw [ea2]; exact hP
  have hD : va_D A (zw_mo tt kw (zu bw 1 a2) bj) := by rw [ea2]; exact hD
  clear ea2
  refine lv_aload_n hx hb dX10_comes_24 rfl (lv_at hl 0 rfl) ?_
  refine va_get (D := D) (ci := 10) (v := .ref (kw 1)) (C := RX10) (T := TX10) (N := 15) hx hb hts hi10 hown hK.1 hP 0 rfl rfl 0 (by decide) fl7 (fun _ h9 => h9) rfl dX10_comes_25 ?_
  refine lv_iconst (v := 1) hx hb dX10_comes_28 (by decide) ?_
  refine va_iald hx hb hK.1 hP 1 0 rfl rfl (vp_in_lit 1 213 rfl) dX10_comes_29 ?_
  refine lv_iconst (v := 1) hx hb dX10_comes_30 (by decide) ?_
  refine lv_isub hx hb dX10_comes_31 ?_
  exact hfin _ _ _ _ _ _ h rfl hP hD hS dX10_comes_32
set_option maxHeartbeats 4000000 in
set_option maxRecDepth 100000 in
theorem c_X10_issues (l : Launch) (D : va_G) (tt : Nat → ClassId) (kw : Nat → Nat) (sz : Nat) (bw : zV) (bj : zJ) (x1 : Int32) (x2 : Int32) (x3 : Int32) (out : Int32 × zV) (h : f_X10_issues bw bj x1 x2 x3 = some out) : Met l yX10_issues wsX10_issues { frames := 2, cells := 0, slots := 0, locals := 47 } (zPm [.ref (kw 0), .int x1, .int x2, .int x3] D tt (zw_mo tt kw bw bj) sz) (zMi .int out.1 D (zw_mo tt kw out.2 bj) (va_A (zw_mo tt kw bw bj) sz)) 0 0 (va_A (zw_mo tt kw bw bj) sz) := by
  refine Met.ofW (cc := cX10_issues) (maxL := 4) (ret := (some .int)) (by decide) rfl ?_
  intro p e s m args below meth c s₁ B hml hv
  obtain ⟨ha, hsz, hP, hK, hD0⟩ := hv
  have hx := B.exec
  have hb := B.bytes
  have hr := B.returns
  have hts := atoms_spec (ws := wsX10_issues) B.pre
  have hown : s.vm.findClass RX10 = some m.cls := findClass_of_methodNamed B.named
  have hlocks := B.notSynchronized
  have hi10 : ∀ w ∈ u_ws RX10 TX10 15, w ∈ wsX10_issues := fun _ h => List.mem_cons_of_mem _ (List.mem_append_right _ h)
  have fl7 := hts (.fieldLink RX10 7 "CapStacksModel" "s" "[I") (by decide +kernel)
  subst hsz
  have hD := hD0.self (sz := s.heap.size)
  generalize hAe : va_A (zw_mo tt kw bw bj) s.heap.size = A at hD ⊢
  have hA : ∀ q : Nat, s.heap.size ≤ q → A q := fun q h => by rw [← hAe]; exact Or.inr h
  have hS : va_S A s.heap s.heap [] := va_S.rf
  have hfin : ∀ (v : Int32) (bw : zV) (pc : Nat) (ls : Array Slot) (H : Heap) (locs : List Loc), some (v, bw) = some out → narrow .int (.int v) = .int v → va_P D vwCl (zw_mo tt kw bw bj) H → va_D A (zw_mo tt kw bw bj) → va_S A s.heap H locs → decode cX10_issues pc = .ok (.ireturn, 1) → W p l e (headSpec wsX10_issues { frames := 2, cells := 0, slots := 0, locals := 47 }).room s m args below meth c H locs 0 0 (MQ below (zMi .int out.1 D (zw_mo tt kw out.2 bj) A) args s 0 0 A) (F0 m pc ls [.int v]) := by
    intro v bw pc ls H locs he hn hP hD hS hd
    cases he
    exact W.zret hx hb hr hn (fun t ht hW => ⟨⟨_, (), rfl, ⟨rfl, hn⟩, by rw [ht]; exact hP, hD⟩, hS.F ht⟩) hS.2.2 hd
  generalize MQ below (zMi .int out.1 D (zw_mo tt kw out.2 bj) A) args s 0 0 A = Q at hfin ⊢
  have hl := lv_entry ([.ref (kw 0), .int x1, .int x2, .int x3]) (n := 4) (Nat.le_of_ble_eq_true rfl)
  refine W.eq (g2 := F0 m 0 ((lg_sl ([.ref (kw 0), .int x1, .int x2, .int x3]) ++ List.replicate (4 - (lg_sl ([.ref (kw 0), .int x1, .int x2, .int x3])).length) Slot.unset).toArray) []) (by rw [ha]; exact lg_entry_eq _ _ _) ?_
  generalize (lg_sl ([.ref (kw 0), .int x1, .int x2, .int x3]) ++ List.replicate (4 - (lg_sl ([.ref (kw 0), .int x1, .int x2, .int x3])).length) Slot.unset).toArray = ls at hl ⊢
  have hl : lv_has ls 4 [(0, .ref (kw 0)), (1, .int x1), (2, .int x2), (3, .int x3)] := hl
  rw [f_X10_issues] at h
  refine lv_aload_n hx hb dX10_issues_0 rfl (lv_at hl 0 rfl) ?_
  refine lv_iload_n hx hb dX10_issues_1 rfl (lv_at hl 1 rfl) ?_
  obtain ⟨y1, gy1, h⟩ := zb_some h
  refine z_callr (va_runV (As := [.int x1]) (rest := []) ⟨hx, hb, hml, hown, hts⟩ (c_X10_isHolder l D tt kw bw bj x1 y1 gy1) (cwV 1 hts gX10_issues_X10_isHolder rfl rfl rfl (by decide +kernel) ⟨Nat.le_of_ble_eq_true rfl, Nat.le_of_ble_eq_true rfl⟩) (z_preVr hK hP (ci := 10) (q0 := 0) rfl rfl) rfl rfl hl.1 rfl (lv_room (Nat.le_of_ble_eq_true rfl)) dX10_issues_2 ⟨Nat.zero_le _, Nat.zero_le _⟩) (fun ny1 => ?_)
  refine lv_if_eq (tgt := 27) hx hb dX10_issues_5 (by decide) (fun k2 => ?_) (fun k2 => ?_)
  · replace h := z_pos k2 h
    refine lv_iconst (v := (-1)) hx hb dX10_issues_27 (by decide) ?_
    exact hfin _ _ _ _ _ _ h rfl hP hD hS dX10_issues_28
  replace h := z_neg k2 h
  refine lv_aload_n hx hb dX10_issues_8 rfl (lv_at hl 0 rfl) ?_
  refine lv_iload_n hx hb dX10_issues_9 rfl (lv_at hl 2 rfl) ?_
  obtain ⟨y3, gy3, h⟩ := zb_some h
  refine z_callr (va_runV (As := [.int x2]) (rest := []) ⟨hx, hb, hml, hown, hts⟩ (c_X10_isClass l D tt kw bw bj x2 y3 gy3) (cwV 1 hts gX10_issues_X10_isClass rfl rfl rfl (by decide +kernel) ⟨Nat.le_of_ble_eq_true rfl, Nat.le_of_ble_eq_true rfl⟩) (z_preVr hK hP (ci := 10) (q0 := 0) rfl rfl) rfl rfl hl.1 rfl (lv_room (Nat.le_of_ble_eq_true rfl)) dX10_issues_10 ⟨Nat.zero_le _, Nat.zero_le _⟩) (fun ny3 => ?_)
  refine lv_if_eq (tgt := 27) hx hb dX10_issues_13 (by decide) (fun k4 => ?_) (fun k4 => ?_)
  · replace h := z_pos k4 h
    refine lv_iconst (v := (-1)) hx hb dX10_issues_27 (by decide) ?_
    exact hfin _ _ _ _ _ _ h rfl hP hD hS dX10_issues_28
  replace h := z_neg k4 h
  refine lv_iload_n hx hb dX10_issues_16 rfl (lv_at hl 3 rfl) ?_
  refine lv_iconst (v := 1) hx hb dX10_issues_17 (by decide) ?_
  refine lv_sipush (v := 9999) hx hb dX10_issues_18 (by decide) ?_
  obtain ⟨y5, gy5, h⟩ := zb_some h
  refine z_callr (va_runS (As := [.int x3, .int 1, .int 9999]) (rest := []) ⟨hx, hb, hml, hown, hts⟩ (c_X10_in l D tt x3 1 9999 y5 gy5) (va_cwS 3 hts gX10_issues_X10_in rfl rfl rfl (by decide +kernel) ⟨Nat.le_of_ble_eq_true rfl, Nat.le_of_ble_eq_true rfl⟩) (z_preSr hK (hP.sub (ws' := ([] : va_W)) [] rfl)) rfl rfl hl.1 rfl (lv_room (Nat.le_of_ble_eq_true rfl)) dX10_issues_21 ⟨Nat.zero_le _, Nat.zero_le _⟩) (fun ny5 => ?_)
  refine lv_if_ne (tgt := 29) hx hb dX10_issues_24 (by decide) (fun k6 => ?_) (fun k6 => ?_)
  rotate_left
  · replace h := z_pos k6 h
    refine lv_iconst (v := (-1)) hx hb dX10_issues_27 (by decide) ?_
    exact hfin _ _ _ _ _ _ h rfl hP hD hS dX10_issues_28
  replace h := z_neg k6 h
  refine lv_aload_n hx hb dX10_issues_29 rfl (lv_at hl 0 rfl) ?_
  obtain ⟨y7, gy7, h⟩ := zb_some h
  refine z_callr (va_runV (As := []) (rest := []) ⟨hx, hb, hml, hown, hts⟩ (c_X10_isRound l D tt kw bw bj y7 gy7) (cwV 0 hts gX10_issues_X10_isRound rfl rfl rfl (by decide +kernel) ⟨Nat.le_of_ble_eq_true rfl, Nat.le_of_ble_eq_true rfl⟩) (z_preVr hK hP (ci := 10) (q0 := 0) rfl rfl) rfl rfl hl.1 rfl (lv_room (Nat.le_of_ble_eq_true rfl)) dX10_issues_30 ⟨Nat.zero_le _, Nat.zero_le _⟩) (fun ny7 => ?_)
  refine lv_if_eq (tgt := 39) hx hb dX10_issues_33 (by decide) (fun k8 => ?_) (fun k8 => ?_)
  rotate_left
  · replace h := z_neg k8 h
    refine lv_bipush (v := (-2)) hx hb dX10_issues_36 (by decide) ?_
    exact hfin _ _ _ _ _ _ h rfl hP hD hS dX10_issues_38
  replace h := z_pos k8 h
  refine lv_aload_n hx hb dX10_issues_39 rfl (lv_at hl 0 rfl) ?_
  obtain ⟨y9, gy9, h⟩ := zb_some h
  refine z_callr (va_runV (As := []) (rest := []) ⟨hx, hb, hml, hown, hts⟩ (c_X10_certificates l D tt kw bw bj y9 gy9) (cwV 0 hts gX10_issues_X10_certificates rfl rfl rfl (by decide +kernel) ⟨Nat.le_of_ble_eq_true rfl, Nat.le_of_ble_eq_true rfl⟩) (z_preVr hK hP (ci := 10) (q0 := 0) rfl rfl) rfl rfl hl.1 rfl (lv_room (Nat.le_of_ble_eq_true rfl)) dX10_issues_40 ⟨Nat.zero_le _, Nat.zero_le _⟩) (fun ny9 => ?_)
  refine lv_bipush (v := 24) hx hb dX10_issues_43 (by decide) ?_
  refine lv_icmp_ne (tgt := 51) hx hb dX10_issues_45 (by decide) (fun k10 => ?_) (fun k10 => ?_)
  rotate_left
  · replace h := z_pos k10 h
    refine lv_bipush (v := (-3)) hx hb dX10_issues_48 (by decide) ?_
    exact hfin _ _ _ _ _ _ h rfl hP hD hS dX10_issues_50
  replace h := z_neg k10 h
  refine lv_aload_n hx hb dX10_issues_51 rfl (lv_at hl 0 rfl) ?_
  refine va_get (D := D) (ci := 10) (v := .ref (kw 1)) (C := RX10) (T := TX10) (N := 15) hx hb hts hi10 hown hK.1 hP 0 rfl rfl 0 (by decide) fl7 (fun _ h9 => h9) rfl dX10_issues_52 ?_
  refine lv_iconst (v := 4) hx hb dX10_issues_55 (by decide) ?_
  refine lv_dup2_11 hx hb dX10_issues_56 rfl rfl ?_
  refine va_iald hx hb hK.1 hP 1 0 rfl rfl (vp_in_lit 4 213 rfl) dX10_issues_57 ?_
  refine lv_iload_n hx hb dX10_issues_58 rfl (lv_at hl 3 rfl) ?_
  refine lv_iadd hx hb dX10_issues_59 ?_
  refine va_iast hx hb hK.1 hP hD hS 1 0 rfl rfl (vp_in_lit 4 213 rfl) dX10_issues_60 (fun H locs hP hD hS => ?_)
  obtain ⟨a11, ea11, h⟩ := zl_some h
  have hP : va_P D vwCl (zw_mo tt kw (zu bw 1 a11) bj) H := by rw [ea11]; exact hP
  have hD : va_D A (zw_mo tt kw (zu bw 1 a11) bj) := by rw [ea11]; exact hD
  clear ea11
  refine lv_aload_n hx hb dX10_issues_61 rfl (lv_at hl 0 rfl) ?_
  refine lv_iload_n hx hb dX10_issues_62 rfl (lv_at hl 1 rfl) ?_
  refine lv_iload_n hx hb dX10_issues_63 rfl (lv_at hl 2 rfl) ?_
  refine lv_iload_n hx hb dX10_issues_64 rfl (lv_at hl 3 rfl) ?_
  obtain ⟨y12, gy12, h⟩ := zb_some h
  have hFc := z_free0 hD hS hA
  refine z_callmi (wc := (zw_mo tt kw (zu bw 1 a11) bj)) (w1 := (zw_mo tt kw y12.2 bj)) (va_runV (As := [.int x1, .int x2, .int x3]) (rest := []) ⟨hx, hb, hml, hown, hts⟩ (c_X10_makes l D tt kw _ (zu bw 1 a11) bj x1 x2 x3 y12 gy12) (cwV 3 hts gX10_issues_X10_makes rfl rfl rfl (by decide +kernel) ⟨Nat.le_of_ble_eq_true rfl, Nat.le_of_ble_eq_true rfl⟩) (z_preVm hK hP hD (ci := 10) (q0 := 0) rfl rfl) rfl rfl hl.1 rfl (lv_room (Nat.le_of_ble_eq_true rfl)) dX10_issues_65 ⟨Nat.zero_le _, Nat.zero_le _⟩) hS hFc (fun H locs ny12 hP1 hD1 hk1 hS => ?_)
  have hP := hP1
  have hD := hD1.weaken (fun _ q _ h => hFc q.1 h)
  exact hfin _ _ _ _ _ _ h rfl hP hD hS dX10_issues_68
set_option maxHeartbeats 4000000 in
set_option maxRecDepth 100000 in
theorem c_X10_splits (l : Launch) (D : va_G) (tt : Nat → ClassId) (kw : Nat → Nat) (sz : Nat) (bw : zV) (bj : zJ) (x1 : Int32) (x2 : Int32) (x3 : Int32) (out : Int32 × zV) (h : f_X10_splits bw bj x1 x2 x3 = some out) : Met l yX10_splits wsX10_splits { frames := 2, cells := 0, slots := 0, locals := 47 } (zPm [.ref (kw 0), .int x1, .int x2, .int x3] D tt (zw_mo tt kw bw bj) sz) (zMi .int out.1 D (zw_mo tt kw out.2 bj) (va_A (zw_mo tt kw bw bj) sz)) 0 0 (va_A (zw_mo tt kw bw bj) sz) := by
  refine Met.ofW (cc := cX10_splits) (maxL := 5) (ret := (some .int)) (by decide) rfl ?_
  intro p e s m args below meth c s₁ B hml hv
  obtain ⟨ha, hsz, hP, hK, hD0⟩ := hv
  have hx := B.exec
  have hb := B.bytes
  have hr := B.returns
  have hts := atoms_spec (ws := wsX10_splits) B.pre
  have hown : s.vm.findClass RX10 = some m.cls := findClass_of_methodNamed B.named
  have hlocks := B.notSynchronized
  subst hsz
  have hD := hD0.self (sz := s.heap.size)
  generalize hAe : va_A (zw_mo tt kw bw bj) s.heap.size = A at hD ⊢
  have hA : ∀ q : Nat, s.heap.size ≤ q → A q := fun q h => by rw [← hAe]; exact Or.inr h
  have hS : va_S A s.heap s.heap [] := va_S.rf
  have hfin : ∀ (v : Int32) (bw : zV) (pc : Nat) (ls : Array Slot) (H : Heap) (locs : List Loc), some (v, bw) = some out → narrow .int (.int v) = .int v → va_P D vwCl (zw_mo tt kw bw bj) H → va_D A (zw_mo tt kw bw bj) → va_S A s.heap H locs → decode cX10_splits pc = .ok (.ireturn, 1) → W p l e (headSpec wsX10_splits { frames := 2, cells := 0, slots := 0, locals := 47 }).room s m args below meth c H locs 0 0 (MQ below (zMi .int out.1 D (zw_mo tt kw out.2 bj) A) args s 0 0 A) (F0 m pc ls [.int v]) := by
    intro v bw pc ls H locs he hn hP hD hS hd
    cases he
    exact W.zret hx hb hr hn (fun t ht hW => ⟨⟨_, (), rfl, ⟨rfl, hn⟩, by rw [ht]; exact hP, hD⟩, hS.F ht⟩) hS.2.2 hd
  generalize MQ below (zMi .int out.1 D (zw_mo tt kw out.2 bj) A) args s 0 0 A = Q at hfin ⊢
  have b76 : ∀ (bw : zV) (x1 : Int32) (x2 : Int32) (x3 : Int32) (H : Heap) (locs : List Loc) (ls : Array Slot), va_P D vwCl (zw_mo tt kw bw bj) H → va_D A (zw_mo tt kw bw bj) → va_S A s.heap H locs → lv_has ls 5 [(0, .ref (kw 0)), (1, .int x1), (2, .int x2), (3, .int x3)] → f_X10_splits_b76 bj bw x1 x2 x3 = some out → W p l e (headSpec wsX10_splits { frames := 2, cells := 0, slots := 0, locals := 47 }).room s m args below meth c H locs 0 0 Q (F0 m 76 ls []) := by
    intro bw x1 x2 x3 H locs ls hP hD hS hl h
    rw [f_X10_splits_b76] at h
    refine lv_aload_n hx hb dX10_splits_76 rfl (lv_at hl 0 rfl) ?_
    refine lv_iload_n hx hb dX10_splits_77 rfl (lv_at hl 1 rfl) ?_
    refine lv_iconst (v := 1) hx hb dX10_splits_78 (by decide) ?_
    obtain ⟨y1, gy1, h⟩ := zb_some h
    refine z_callr (va_runV (As := [.int x1, .int 1]) (rest := []) ⟨hx, hb, hml, hown, hts⟩ (c_X10_ofCertificate l D tt kw bw bj x1 1 y1 gy1) (cwV 2 hts gX10_splits_X10_ofCertificate rfl rfl rfl (by decide +kernel) ⟨Nat.le_of_ble_eq_true rfl, Nat.le_of_ble_eq_true rfl⟩) (z_preVr hK hP (ci := 10) (q0 := 0) rfl rfl) rfl rfl hl.1 rfl (lv_room (Nat.le_of_ble_eq_true rfl)) dX10_splits_79 ⟨Nat.zero_le _, Nat.zero_le _⟩) (fun ny1 => ?_)
    refine lv_istore (lv' := [(4, .int y1), (0, .ref (kw 0)), (1, .int x1), (2, .int x2), (3, .int x3)]) hx hb dX10_splits_82 hl (by decide) rfl (fun ls hl => ?_)
    refine lv_aload_n hx hb dX10_splits_84 rfl (lv_at hl 1 rfl) ?_
    refine lv_iload_n hx hb dX10_splits_85 rfl (lv_at hl 2 rfl) ?_
    refine lv_iload_n hx hb dX10_splits_86 rfl (lv_at hl 4 rfl) ?_
    obtain ⟨y2, gy2, h⟩ := zb_some h
    have hFc := z_free0 hD hS hA
    refine z_callmv (wc := (zw_mo tt kw bw bj)) (w1 := (zw_mo tt kw y2 bj)) (va_runV (As := [.int x1, .int x3]) (rest := []) ⟨hx, hb, hml, hown, hts⟩ (c_X10_lessens l D tt kw _ bw bj x1 x3 y2 gy2) (cwV 2 hts gX10_splits_X10_lessens rfl rfl rfl (by decide +kernel) ⟨Nat.le_of_ble_eq_true rfl, Nat.le_of_ble_eq_true rfl⟩) (z_preVm hK hP hD (ci := 10) (q0 := 0) rfl rfl) rfl rfl hl.1 rfl (lv_room (Nat.le_of_ble_eq_true rfl)) dX10_splits_87 ⟨Nat.zero_le _, Nat.zero_le _⟩) hS hFc (fun H locs hP1 hD1 hk1 hS => ?_)
    have hP := hP1
    have hD := hD1.weaken (fun _ q _ h => hFc q.1 h)
    refine lv_aload_n hx hb dX10_splits_90 rfl (lv_at hl 1 rfl) ?_
    refine lv_iload_n hx hb dX10_splits_91 rfl (lv_at hl 3 rfl) ?_
    refine lv_iload hx hb dX10_splits_92 (lv_at hl 0 rfl) ?_
    refine lv_iload_n hx hb dX10_splits_94 rfl (lv_at hl 4 rfl) ?_
    obtain ⟨y3, gy3, h⟩ := zb_some h
    have hFc := z_free0 hD hS hA
    refine z_callmi (wc := (zw_mo tt kw y2 bj)) (w1 := (zw_mo tt kw y3.2 bj)) (va_runV (As := [.int x2, .int y1, .int x3]) (rest := []) ⟨hx, hb, hml, hown, hts⟩ (c_X10_makes l D tt kw _ y2 bj x2 y1 x3 y3 gy3) (cwV 3 hts gX10_splits_X10_makes rfl rfl rfl (by decide +kernel) ⟨Nat.le_of_ble_eq_true rfl, Nat.le_of_ble_eq_true rfl⟩) (z_preVm hK hP hD (ci := 10) (q0 := 0) rfl rfl) rfl rfl hl.1 rfl (lv_room (Nat.le_of_ble_eq_true rfl)) dX10_splits_95 ⟨Nat.zero_le _, Nat.zero_le _⟩) hS hFc (fun H locs ny3 hP1 hD1 hk1 hS => ?_)
    have hP := hP1
    have hD := hD1.weaken (fun _ q _ h => hFc q.1 h)
    exact hfin _ _ _ _ _ _ h rfl hP hD hS dX10_splits_98
  have hl := lv_entry ([.ref (kw 0), .int x1, .int x2, .int x3]) (n := 5) (Nat.le_of_ble_eq_true rfl)
  refine W.eq (g2 := F0 m 0 ((lg_sl ([.ref (kw 0), .int x1, .int x2, .int x3]) ++ List.replicate (5 - (lg_sl ([.ref (kw 0), .int x1, .int x2, .int x3])).length) Slot.unset).toArray) []) (by rw [ha]; exact lg_entry_eq _ _ _) ?_
  generalize (lg_sl ([.ref (kw 0), .int x1, .int x2, .int x3]) ++ List.replicate (5 - (lg_sl ([.ref (kw 0), .int x1, .int x2, .int x3])).length) Slot.unset).toArray = ls at hl ⊢
  have hl : lv_has ls 5 [(0, .ref (kw 0)), (1, .int x1), (2, .int x2), (3, .int x3)] := hl
  rw [f_X10_splits] at h
  refine lv_aload_n hx hb dX10_splits_0 rfl (lv_at hl 0 rfl) ?_
  refine lv_iload_n hx hb dX10_splits_1 rfl (lv_at hl 1 rfl) ?_
  obtain ⟨y4, gy4, h⟩ := zb_some h
  refine z_callr (va_runV (As := [.int x1]) (rest := []) ⟨hx, hb, hml, hown, hts⟩ (c_X10_isCertificate l D tt kw bw bj x1 y4 gy4) (cwV 1 hts gX10_splits_X10_isCertificate rfl rfl rfl (by decide +kernel) ⟨Nat.le_of_ble_eq_true rfl, Nat.le_of_ble_eq_true rfl⟩) (z_preVr hK hP (ci := 10) (q0 := 0) rfl rfl) rfl rfl hl.1 rfl (lv_room (Nat.le_of_ble_eq_true rfl)) dX10_splits_2 ⟨Nat.zero_le _, Nat.zero_le _⟩) (fun ny4 => ?_)
  refine lv_if_eq (tgt := 42) hx hb dX10_splits_5 (by decide) (fun k5 => ?_) (fun k5 => ?_)
  · replace h := z_pos k5 h
    refine lv_iconst (v := (-1)) hx hb dX10_splits_42 (by decide) ?_
    exact hfin _ _ _ _ _ _ h rfl hP hD hS dX10_splits_43
  replace h := z_neg k5 h
  refine lv_aload_n hx hb dX10_splits_8 rfl (lv_at hl 0 rfl) ?_
  refine lv_iload_n hx hb dX10_splits_9 rfl (lv_at hl 2 rfl) ?_
  obtain ⟨y6, gy6, h⟩ := zb_some h
  refine z_callr (va_runV (As := [.int x2]) (rest := []) ⟨hx, hb, hml, hown, hts⟩ (c_X10_isHolder l D tt kw bw bj x2 y6 gy6) (cwV 1 hts gX10_splits_X10_isHolder rfl rfl rfl (by decide +kernel) ⟨Nat.le_of_ble_eq_true rfl, Nat.le_of_ble_eq_true rfl⟩) (z_preVr hK hP (ci := 10) (q0 := 0) rfl rfl) rfl rfl hl.1 rfl (lv_room (Nat.le_of_ble_eq_true rfl)) dX10_splits_10 ⟨Nat.zero_le _, Nat.zero_le _⟩) (fun ny6 => ?_)
  refine lv_if_eq (tgt := 42) hx hb dX10_splits_13 (by decide) (fun k7 => ?_) (fun k7 => ?_)
  · replace h := z_pos k7 h
    refine lv_iconst (v := (-1)) hx hb dX10_splits_42 (by decide) ?_
    exact hfin _ _ _ _ _ _ h rfl hP hD hS dX10_splits_43
  replace h := z_neg k7 h
  refine lv_aload_n hx hb dX10_splits_16 rfl (lv_at hl 0 rfl) ?_
  refine lv_iload_n hx hb dX10_splits_17 rfl (lv_at hl 1 rfl) ?_
  refine lv_iconst (v := 0) hx hb dX10_splits_18 (by decide) ?_
  obtain ⟨y8, gy8, h⟩ := zb_some h
  refine z_callr (va_runV (As := [.int x1, .int 0]) (rest := []) ⟨hx, hb, hml, hown, hts⟩ (c_X10_ofCertificate l D tt kw bw bj x1 0 y8 gy8) (cwV 2 hts gX10_splits_X10_ofCertificate rfl rfl rfl (by decide +kernel) ⟨Nat.le_of_ble_eq_true rfl, Nat.le_of_ble_eq_true rfl⟩) (z_preVr hK hP (ci := 10) (q0 := 0) rfl rfl) rfl rfl hl.1 rfl (lv_room (Nat.le_of_ble_eq_true rfl)) dX10_splits_19 ⟨Nat.zero_le _, Nat.zero_le _⟩) (fun ny8 => ?_)
  refine lv_iload_n hx hb dX10_splits_22 rfl (lv_at hl 2 rfl) ?_
  refine lv_iconst (v := 1) hx hb dX10_splits_23 (by decide) ?_
  refine lv_iadd hx hb dX10_splits_24 ?_
  refine lv_icmp_eq (tgt := 42) hx hb dX10_splits_25 (by decide) (fun k9 => ?_) (fun k9 => ?_)
  · replace h := z_pos k9 h
    refine lv_iconst (v := (-1)) hx hb dX10_splits_42 (by decide) ?_
    exact hfin _ _ _ _ _ _ h rfl hP hD hS dX10_splits_43
  replace h := z_neg k9 h
  refine lv_iload_n hx hb dX10_splits_28 rfl (lv_at hl 3 rfl) ?_
  refine lv_iconst (v := 1) hx hb dX10_splits_29 (by decide) ?_
  refine lv_aload_n hx hb dX10_splits_30 rfl (lv_at hl 0 rfl) ?_
  refine lv_iload_n hx hb dX10_splits_31 rfl (lv_at hl 1 rfl) ?_
  refine lv_iconst (v := 2) hx hb dX10_splits_32 (by decide) ?_
  obtain ⟨y10, gy10, h⟩ := zb_some h
  refine z_callr (va_runV (As := [.int x1, .int 2]) (rest := [.int 1, .int x3]) ⟨hx, hb, hml, hown, hts⟩ (c_X10_ofCertificate l D tt kw bw bj x1 2 y10 gy10) (cwV 2 hts gX10_splits_X10_ofCertificate rfl rfl rfl (by decide +kernel) ⟨Nat.le_of_ble_eq_true rfl, Nat.le_of_ble_eq_true rfl⟩) (z_preVr hK hP (ci := 10) (q0 := 0) rfl rfl) rfl rfl hl.1 rfl (lv_room (Nat.le_of_ble_eq_true rfl)) dX10_splits_33 ⟨Nat.zero_le _, Nat.zero_le _⟩) (fun ny10 => ?_)
  obtain ⟨y11, gy11, h⟩ := zb_some h
  refine z_callr (va_runS (As := [.int x3, .int 1, .int y10]) (rest := []) ⟨hx, hb, hml, hown, hts⟩ (c_X10_in l D tt x3 1 y10 y11 gy11) (va_cwS 3 hts gX10_splits_X10_in rfl rfl rfl (by decide +kernel) ⟨Nat.le_of_ble_eq_true rfl, Nat.le_of_ble_eq_true rfl⟩) (z_preSr hK (hP.sub (ws' := ([] : va_W)) [] rfl)) rfl rfl hl.1 rfl (lv_room (Nat.le_of_ble_eq_true rfl)) dX10_splits_36 ⟨Nat.zero_le _, Nat.zero_le _⟩) (fun ny11 => ?_)
  refine lv_if_ne (tgt := 44) hx hb dX10_splits_39 (by decide) (fun k12 => ?_) (fun k12 => ?_)
  rotate_left
  · replace h := z_pos k12 h
    refine lv_iconst (v := (-1)) hx hb dX10_splits_42 (by decide) ?_
    exact hfin _ _ _ _ _ _ h rfl hP hD hS dX10_splits_43
  replace h := z_neg k12 h
  refine lv_aload_n hx hb dX10_splits_44 rfl (lv_at hl 0 rfl) ?_
  obtain ⟨y13, gy13, h⟩ := zb_some h
  refine z_callr (va_runV (As := []) (rest := []) ⟨hx, hb, hml, hown, hts⟩ (c_X10_isRound l D tt kw bw bj y13 gy13) (cwV 0 hts gX10_splits_X10_isRound rfl rfl rfl (by decide +kernel) ⟨Nat.le_of_ble_eq_true rfl, Nat.le_of_ble_eq_true rfl⟩) (z_preVr hK hP (ci := 10) (q0 := 0) rfl rfl) rfl rfl hl.1 rfl (lv_room (Nat.le_of_ble_eq_true rfl)) dX10_splits_45 ⟨Nat.zero_le _, Nat.zero_le _⟩) (fun ny13 => ?_)
  refine lv_if_eq (tgt := 54) hx hb dX10_splits_48 (by decide) (fun k14 => ?_) (fun k14 => ?_)
  rotate_left
  · replace h := z_neg k14 h
    refine lv_bipush (v := (-2)) hx hb dX10_splits_51 (by decide) ?_
    exact hfin _ _ _ _ _ _ h rfl hP hD hS dX10_splits_53
  replace h := z_pos k14 h
  refine lv_aload_n hx hb dX10_splits_54 rfl (lv_at hl 0 rfl) ?_
  obtain ⟨y15, gy15, h⟩ := zb_some h
  refine z_callr (va_runV (As := []) (rest := []) ⟨hx, hb, hml, hown, hts⟩ (c_X10_certificates l D tt kw bw bj y15 gy15) (cwV 0 hts gX10_splits_X10_certificates rfl rfl rfl (by decide +kernel) ⟨Nat.le_of_ble_eq_true rfl, Nat.le_of_ble_eq_true rfl⟩) (z_preVr hK hP (ci := 10) (q0 := 0) rfl rfl) rfl rfl hl.1 rfl (lv_room (Nat.le_of_ble_eq_true rfl)) dX10_splits_55 ⟨Nat.zero_le _, Nat.zero_le _⟩) (fun ny15 => ?_)
  refine lv_bipush (v := 24) hx hb dX10_splits_58 (by decide) ?_
  refine lv_icmp_ne (tgt := 76) hx hb dX10_splits_60 (by decide) (fun k16 => ?_) (fun k16 => ?_)
  · replace h := z_neg k16 h
    exact b76 bw x1 x2 x3 _ _ _ hP hD hS (lv_sub hl [0, 1, 2, 3] rfl) h
  replace h := z_pos k16 h
  refine lv_iload_n hx hb dX10_splits_63 rfl (lv_at hl 3 rfl) ?_
  refine lv_aload_n hx hb dX10_splits_64 rfl (lv_at hl 0 rfl) ?_
  refine lv_iload_n hx hb dX10_splits_65 rfl (lv_at hl 1 rfl) ?_
  refine lv_iconst (v := 2) hx hb dX10_splits_66 (by decide) ?_
  obtain ⟨y17, gy17, h⟩ := zb_some h
  refine z_callr (va_runV (As := [.int x1, .int 2]) (rest := [.int x3]) ⟨hx, hb, hml, hown, hts⟩ (c_X10_ofCertificate l D tt kw bw bj x1 2 y17 gy17) (cwV 2 hts gX10_splits_X10_ofCertificate rfl rfl rfl (by decide +kernel) ⟨Nat.le_of_ble_eq_true rfl, Nat.le_of_ble_eq_true rfl⟩) (z_preVr hK hP (ci := 10) (q0 := 0) rfl rfl) rfl rfl hl.1 rfl (lv_room (Nat.le_of_ble_eq_true rfl)) dX10_splits_67 ⟨Nat.zero_le _, Nat.zero_le _⟩) (fun ny17 => ?_)
  refine lv_icmp_ge (tgt := 76) hx hb dX10_splits_70 (by decide) (fun k18 => ?_) (fun k18 => ?_)
  · replace h := z_pos k18 h
    exact b76 bw x1 x2 x3 _ _ _ hP hD hS (lv_sub hl [0, 1, 2, 3] rfl) h
  replace h := z_neg k18 h
  refine lv_bipush (v := (-3)) hx hb dX10_splits_73 (by decide) ?_
  exact hfin _ _ _ _ _ _ h rfl hP hD hS dX10_splits_75
set_option maxHeartbeats 4000000 in
set_option maxRecDepth 100000 in
theorem c_X10_buys (l : Launch) (D : va_G) (tt : Nat → ClassId) (kw : Nat → Nat) (sz : Nat) (bw : zV) (bj : zJ) (x1 : Int32) (x2 : Int32) (out : Int32 × zV) (h : f_X10_buys bw bj x1 x2 = some out) : Met l yX10_buys wsX10_buys { frames := 2, cells := 0, slots := 0, locals := 43 } (zPm [.ref (kw 0), .int x1, .int x2] D tt (zw_mo tt kw bw bj) sz) (zMi .int out.1 D (zw_mo tt kw out.2 bj) (va_A (zw_mo tt kw bw bj) sz)) 0 0 (va_A (zw_mo tt kw bw bj) sz) := by
  refine Met.ofW (cc := cX10_buys) (maxL := 4) (ret := (some .int)) (by decide) rfl ?_
  intro p e s m args below meth c s₁ B hml hv
  obtain ⟨ha, hsz, hP, hK, hD0⟩ := hv
  have hx := B.exec
  have hb := B.bytes
  have hr := B.returns
  have hts := atoms_spec (ws := wsX10_buys) B.pre
  have hown : s.vm.findClass RX10 = some m.cls := findClass_of_methodNamed B.named
  have hlocks := B.notSynchronized
  have hi10 : ∀ w ∈ u_ws RX10 TX10 15, w ∈ wsX10_buys := fun _ h => List.mem_cons_of_mem _ (List.mem_append_right _ h)
  have fl7 := hts (.fieldLink RX10 7 "CapStacksModel" "s" "[I") (by decide +kernel)
  subst hsz
  have hD := hD0.self (sz := s.heap.size)
  generalize hAe : va_A (zw_mo tt kw bw bj) s.heap.size = A at hD ⊢
  have hA : ∀ q : Nat, s.heap.size ≤ q → A q := fun q h => by rw [← hAe]; exact Or.inr h
  have hS : va_S A s.heap s.heap [] := va_S.rf
  have hfin : ∀ (v : Int32) (bw : zV) (pc : Nat) (ls : Array Slot) (H : Heap) (locs : List Loc), some (v, bw) = some out → narrow .int (.int v) = .int v → va_P D vwCl (zw_mo tt kw bw bj) H → va_D A (zw_mo tt kw bw bj) → va_S A s.heap H locs → decode cX10_buys pc = .ok (.ireturn, 1) → W p l e (headSpec wsX10_buys { frames := 2, cells := 0, slots := 0, locals := 43 }).room s m args below meth c H locs 0 0 (MQ below (zMi .int out.1 D (zw_mo tt kw out.2 bj) A) args s 0 0 A) (F0 m pc ls [.int v]) := by
    intro v bw pc ls H locs he hn hP hD hS hd
    cases he
    exact W.zret hx hb hr hn (fun t ht hW => ⟨⟨_, (), rfl, ⟨rfl, hn⟩, by rw [ht]; exact hP, hD⟩, hS.F ht⟩) hS.2.2 hd
  generalize MQ below (zMi .int out.1 D (zw_mo tt kw out.2 bj) A) args s 0 0 A = Q at hfin ⊢
  have hl := lv_entry ([.ref (kw 0), .int x1, .int x2]) (n := 4) (Nat.le_of_ble_eq_true rfl)
  refine W.eq (g2 := F0 m 0 ((lg_sl ([.ref (kw 0), .int x1, .int x2]) ++ List.replicate (4 - (lg_sl ([.ref (kw 0), .int x1, .int x2])).length) Slot.unset).toArray) []) (by rw [ha]; exact lg_entry_eq _ _ _) ?_
  generalize (lg_sl ([.ref (kw 0), .int x1, .int x2]) ++ List.replicate (4 - (lg_sl ([.ref (kw 0), .int x1, .int x2])).length) Slot.unset).toArray = ls at hl ⊢
  have hl : lv_has ls 4 [(0, .ref (kw 0)), (1, .int x1), (2, .int x2)] := hl
  rw [f_X10_buys] at h
  refine lv_aload_n hx hb dX10_buys_0 rfl (lv_at hl 0 rfl) ?_
  refine lv_iload_n hx hb dX10_buys_1 rfl (lv_at hl 1 rfl) ?_
  obtain ⟨y1, gy1, h⟩ := zb_some h
  refine z_callr (va_runV (As := [.int x1]) (rest := []) ⟨hx, hb, hml, hown, hts⟩ (c_X10_isCertificate l D tt kw bw bj x1 y1 gy1) (cwV 1 hts gX10_buys_X10_isCertificate rfl rfl rfl (by decide +kernel) ⟨Nat.le_of_ble_eq_true rfl, Nat.le_of_ble_eq_true rfl⟩) (z_preVr hK hP (ci := 10) (q0 := 0) rfl rfl) rfl rfl hl.1 rfl (lv_room (Nat.le_of_ble_eq_true rfl)) dX10_buys_2 ⟨Nat.zero_le _, Nat.zero_le _⟩) (fun ny1 => ?_)
  refine lv_if_eq (tgt := 22) hx hb dX10_buys_5 (by decide) (fun k2 => ?_) (fun k2 => ?_)
  · replace h := z_pos k2 h
    refine lv_iconst (v := (-1)) hx hb dX10_buys_22 (by decide) ?_
    exact hfin _ _ _ _ _ _ h rfl hP hD hS dX10_buys_23
  replace h := z_neg k2 h
  refine lv_iload_n hx hb dX10_buys_8 rfl (lv_at hl 2 rfl) ?_
  refine lv_iconst (v := 1) hx hb dX10_buys_9 (by decide) ?_
  refine lv_aload_n hx hb dX10_buys_10 rfl (lv_at hl 0 rfl) ?_
  refine lv_iload_n hx hb dX10_buys_11 rfl (lv_at hl 1 rfl) ?_
  refine lv_iconst (v := 2) hx hb dX10_buys_12 (by decide) ?_
  obtain ⟨y3, gy3, h⟩ := zb_some h
  refine z_callr (va_runV (As := [.int x1, .int 2]) (rest := [.int 1, .int x2]) ⟨hx, hb, hml, hown, hts⟩ (c_X10_ofCertificate l D tt kw bw bj x1 2 y3 gy3) (cwV 2 hts gX10_buys_X10_ofCertificate rfl rfl rfl (by decide +kernel) ⟨Nat.le_of_ble_eq_true rfl, Nat.le_of_ble_eq_true rfl⟩) (z_preVr hK hP (ci := 10) (q0 := 0) rfl rfl) rfl rfl hl.1 rfl (lv_room (Nat.le_of_ble_eq_true rfl)) dX10_buys_13 ⟨Nat.zero_le _, Nat.zero_le _⟩) (fun ny3 => ?_)
  obtain ⟨y4, gy4, h⟩ := zb_some h
  refine z_callr (va_runS (As := [.int x2, .int 1, .int y3]) (rest := []) ⟨hx, hb, hml, hown, hts⟩ (c_X10_in l D tt x2 1 y3 y4 gy4) (va_cwS 3 hts gX10_buys_X10_in rfl rfl rfl (by decide +kernel) ⟨Nat.le_of_ble_eq_true rfl, Nat.le_of_ble_eq_true rfl⟩) (z_preSr hK (hP.sub (ws' := ([] : va_W)) [] rfl)) rfl rfl hl.1 rfl (lv_room (Nat.le_of_ble_eq_true rfl)) dX10_buys_16 ⟨Nat.zero_le _, Nat.zero_le _⟩) (fun ny4 => ?_)
  refine lv_if_ne (tgt := 24) hx hb dX10_buys_19 (by decide) (fun k5 => ?_) (fun k5 => ?_)
  rotate_left
  · replace h := z_pos k5 h
    refine lv_iconst (v := (-1)) hx hb dX10_buys_22 (by decide) ?_
    exact hfin _ _ _ _ _ _ h rfl hP hD hS dX10_buys_23
  replace h := z_neg k5 h
  refine lv_aload_n hx hb dX10_buys_24 rfl (lv_at hl 0 rfl) ?_
  obtain ⟨y6, gy6, h⟩ := zb_some h
  refine z_callr (va_runV (As := []) (rest := []) ⟨hx, hb, hml, hown, hts⟩ (c_X10_isRound l D tt kw bw bj y6 gy6) (cwV 0 hts gX10_buys_X10_isRound rfl rfl rfl (by decide +kernel) ⟨Nat.le_of_ble_eq_true rfl, Nat.le_of_ble_eq_true rfl⟩) (z_preVr hK hP (ci := 10) (q0 := 0) rfl rfl) rfl rfl hl.1 rfl (lv_room (Nat.le_of_ble_eq_true rfl)) dX10_buys_25 ⟨Nat.zero_le _, Nat.zero_le _⟩) (fun ny6 => ?_)
  refine lv_if_eq (tgt := 34) hx hb dX10_buys_28 (by decide) (fun k7 => ?_) (fun k7 => ?_)
  rotate_left
  · replace h := z_neg k7 h
    refine lv_bipush (v := (-2)) hx hb dX10_buys_31 (by decide) ?_
    exact hfin _ _ _ _ _ _ h rfl hP hD hS dX10_buys_33
  replace h := z_pos k7 h
  refine lv_aload_n hx hb dX10_buys_34 rfl (lv_at hl 0 rfl) ?_
  refine lv_iload_n hx hb dX10_buys_35 rfl (lv_at hl 1 rfl) ?_
  refine lv_iconst (v := 2) hx hb dX10_buys_36 (by decide) ?_
  obtain ⟨y8, gy8, h⟩ := zb_some h
  refine z_callr (va_runV (As := [.int x1, .int 2]) (rest := []) ⟨hx, hb, hml, hown, hts⟩ (c_X10_ofCertificate l D tt kw bw bj x1 2 y8 gy8) (cwV 2 hts gX10_buys_X10_ofCertificate rfl rfl rfl (by decide +kernel) ⟨Nat.le_of_ble_eq_true rfl, Nat.le_of_ble_eq_true rfl⟩) (z_preVr hK hP (ci := 10) (q0 := 0) rfl rfl) rfl rfl hl.1 rfl (lv_room (Nat.le_of_ble_eq_true rfl)) dX10_buys_37 ⟨Nat.zero_le _, Nat.zero_le _⟩) (fun ny8 => ?_)
  refine lv_iload_n hx hb dX10_buys_40 rfl (lv_at hl 2 rfl) ?_
  refine lv_isub hx hb dX10_buys_41 ?_
  refine lv_istore_n (lv' := [(3, .int (y8 - x2)), (0, .ref (kw 0)), (1, .int x1), (2, .int x2)]) hx hb dX10_buys_42 rfl hl (by decide) rfl (fun ls hl => ?_)
  refine lv_aload_n hx hb dX10_buys_43 rfl (lv_at hl 1 rfl) ?_
  refine lv_iload_n hx hb dX10_buys_44 rfl (lv_at hl 2 rfl) ?_
  refine lv_iload_n hx hb dX10_buys_45 rfl (lv_at hl 3 rfl) ?_
  obtain ⟨y9, gy9, h⟩ := zb_some h
  have hFc := z_free0 hD hS hA
  refine z_callmv (wc := (zw_mo tt kw bw bj)) (w1 := (zw_mo tt kw y9 bj)) (va_runV (As := [.int x1, .int x2]) (rest := []) ⟨hx, hb, hml, hown, hts⟩ (c_X10_lessens l D tt kw _ bw bj x1 x2 y9 gy9) (cwV 2 hts gX10_buys_X10_lessens rfl rfl rfl (by decide +kernel) ⟨Nat.le_of_ble_eq_true rfl, Nat.le_of_ble_eq_true rfl⟩) (z_preVm hK hP hD (ci := 10) (q0 := 0) rfl rfl) rfl rfl hl.1 rfl (lv_room (Nat.le_of_ble_eq_true rfl)) dX10_buys_46 ⟨Nat.zero_le _, Nat.zero_le _⟩) hS hFc (fun H locs hP1 hD1 hk1 hS => ?_)
  have hP := hP1
  have hD := hD1.weaken (fun _ q _ h => hFc q.1 h)
  refine lv_aload_n hx hb dX10_buys_49 rfl (lv_at hl 1 rfl) ?_
  refine va_get (D := D) (ci := 10) (v := .ref (kw 1)) (C := RX10) (T := TX10) (N := 15) hx hb hts hi10 hown hK.1 hP 0 rfl rfl 0 (by decide) fl7 (fun _ h9 => h9) rfl dX10_buys_50 ?_
  refine lv_iconst (v := 5) hx hb dX10_buys_53 (by decide) ?_
  refine lv_dup2_11 hx hb dX10_buys_54 rfl rfl ?_
  refine va_iald hx hb hK.1 hP 1 0 rfl rfl (vp_in_lit 5 213 rfl) dX10_buys_55 ?_
  refine lv_iload_n hx hb dX10_buys_56 rfl (lv_at hl 3 rfl) ?_
  refine lv_iadd hx hb dX10_buys_57 ?_
  refine va_iast hx hb hK.1 hP hD hS 1 0 rfl rfl (vp_in_lit 5 213 rfl) dX10_buys_58 (fun H locs hP hD hS => ?_)
  obtain ⟨a10, ea10, h⟩ := zl_some h
  have hP : va_P D vwCl (zw_mo tt kw (zu y9 1 a10) bj) H := by rw [ea10]; exact hP
  have hD : va_D A (zw_mo tt kw (zu y9 1 a10) bj) := by rw [ea10]; exact hD
  clear ea10
  refine lv_iload_n hx hb dX10_buys_59 rfl (lv_at hl 0 rfl) ?_
  exact hfin _ _ _ _ _ _ h rfl hP hD hS dX10_buys_60
