/-! ===== contracts: 24.model4 ===== -/
set_option maxHeartbeats 4000000 in
set_option maxRecDepth 100000 in
theorem c_X10_certificatesOf (l : Launch) (D : va_G) (tt : Nat → ClassId) (kw : Nat → Nat) (bw : zV) (bj : zJ) (x1 : Int32) (out : Int32) (h : f_X10_certificatesOf bw bj x1 = some out) : Met l yX10_certificatesOf wsX10_certificatesOf { frames := 1, cells := 0, slots := 0, locals := 22 } (zPr [.ref (kw 0), .int x1] D tt (zw_mo tt kw bw bj)) (zQr .int out) 0 0 (fun _ => False) := by
  refine Met.ofW (cc := cX10_certificatesOf) (maxL := 4) (ret := (some .int)) (by decide) rfl ?_
  intro p e s m args below meth c s₁ B hml hv
  obtain ⟨ha, hP, hK⟩ := hv
  have hx := B.exec
  have hb := B.bytes
  have hr := B.returns
  have hts := atoms_spec (ws := wsX10_certificatesOf) B.pre
  have hown : s.vm.findClass RX10 = some m.cls := findClass_of_methodNamed B.named
  have hlocks := B.notSynchronized
  have hfin : ∀ (v : Int32) (pc : Nat) (ls : Array Slot), some v = some out → narrow .int (.int v) = .int v → decode cX10_certificatesOf pc = .ok (.ireturn, 1) → W p l e (headSpec wsX10_certificatesOf { frames := 1, cells := 0, slots := 0, locals := 22 }).room s m args below meth c s.heap [] 0 0 (MQ below (zQr .int out) args s 0 0 (fun _ => False)) (F0 m pc ls [.int v]) := by
    intro v pc ls he hn hd
    cases he
    exact W.zret hx hb hr hn (fun t ht hW => ⟨rfl, hn, ht⟩) (fun _ h => by cases h) hd
  generalize MQ below (zQr .int out) args s 0 0 (fun _ => False) = Q at hfin ⊢
  have b4 : ∀ n : Nat, ∀ (x1 : Int32) (x2 : Int32) (x3 : Int32) (ls : Array Slot), lv_has ls 4 [(0, .ref (kw 0)), (1, .int x1), (2, .int x2), (3, .int x3)] → f_X10_certificatesOf_b4 bw bj n x1 x2 x3 = some out → W p l e (headSpec wsX10_certificatesOf { frames := 1, cells := 0, slots := 0, locals := 22 }).room s m args below meth c s.heap [] 0 0 Q (F0 m 4 ls []) := by
    intro n
    induction n with
    | zero =>
      intro x1 x2 x3 ls hl h
      cases h
    | succ n ih =>
      intro x1 x2 x3 ls hl h
      rw [f_X10_certificatesOf_b4] at h
      refine lv_iload_n hx hb dX10_certificatesOf_4 rfl (lv_at hl 3 rfl) ?_
      refine lv_bipush (v := 24) hx hb dX10_certificatesOf_5 (by decide) ?_
      refine lv_icmp_ge (tgt := 36) hx hb dX10_certificatesOf_7 (by decide) (fun k1 => ?_) (fun k1 => ?_)
      · replace h := z_pos k1 h
        refine lv_iload_n hx hb dX10_certificatesOf_36 rfl (lv_at hl 2 rfl) ?_
        exact hfin _ _ _ h rfl dX10_certificatesOf_37
      replace h := z_neg k1 h
      refine lv_iload_n hx hb dX10_certificatesOf_10 rfl (lv_at hl 2 rfl) ?_
      refine lv_aload_n hx hb dX10_certificatesOf_11 rfl (lv_at hl 0 rfl) ?_
      refine lv_iload_n hx hb dX10_certificatesOf_12 rfl (lv_at hl 3 rfl) ?_
      refine lv_iconst (v := 0) hx hb dX10_certificatesOf_13 (by decide) ?_
      obtain ⟨y2, gy2, h⟩ := zb_some h
      refine z_callr (va_runV (As := [.int x3, .int 0]) (rest := [.int x2]) ⟨hx, hb, hml, hown, hts⟩ (c_X10_ofCertificate l D tt kw bw bj x3 0 y2 gy2) (cwV 2 hts gX10_certificatesOf_X10_ofCertificate rfl rfl rfl (by decide +kernel) ⟨Nat.le_of_ble_eq_true rfl, Nat.le_of_ble_eq_true rfl⟩) (z_preVr hK hP (ci := 10) (q0 := 0) rfl rfl) rfl rfl hl.1 rfl (lv_room (Nat.le_of_ble_eq_true rfl)) dX10_certificatesOf_14 ⟨Nat.zero_le _, Nat.zero_le _⟩) (fun ny2 => ?_)
      refine lv_iload_n hx hb dX10_certificatesOf_17 rfl (lv_at hl 1 rfl) ?_
      refine lv_iconst (v := 1) hx hb dX10_certificatesOf_18 (by decide) ?_
      refine lv_iadd hx hb dX10_certificatesOf_19 ?_
      refine lv_icmp_ne (tgt := 27) hx hb dX10_certificatesOf_20 (by decide) (fun k3 => ?_) (fun k3 => ?_)
      · replace h := z_neg k3 h
        refine lv_iconst (v := 0) hx hb dX10_certificatesOf_27 (by decide) ?_
        refine lv_iadd hx hb dX10_certificatesOf_28 ?_
        refine lv_istore_n (lv' := [(2, .int (x2 + 0)), (0, .ref (kw 0)), (1, .int x1), (3, .int x3)]) hx hb dX10_certificatesOf_29 rfl hl (by decide) rfl (fun ls hl => ?_)
        refine lv_iinc (v := (x3 + 1)) (lv' := [(3, .int (x3 + 1)), (2, .int (x2 + 0)), (0, .ref (kw 0)), (1, .int x1)]) hx hb dX10_certificatesOf_30 hl (k := 3) rfl rfl (by decide) rfl (fun ls hl => ?_)
        refine lv_goto (tgt := 4) hx hb dX10_certificatesOf_33 (by decide) ?_
        exact ih x1 (x2 + 0) (x3 + 1) _ (lv_sub hl [2, 3, 1, 0] rfl) h
      replace h := z_pos k3 h
      refine lv_iconst (v := 1) hx hb dX10_certificatesOf_23 (by decide) ?_
      refine lv_goto (tgt := 28) hx hb dX10_certificatesOf_24 (by decide) ?_
      refine lv_iadd hx hb dX10_certificatesOf_28 ?_
      refine lv_istore_n (lv' := [(2, .int (x2 + 1)), (0, .ref (kw 0)), (1, .int x1), (3, .int x3)]) hx hb dX10_certificatesOf_29 rfl hl (by decide) rfl (fun ls hl => ?_)
      refine lv_iinc (v := (x3 + 1)) (lv' := [(3, .int (x3 + 1)), (2, .int (x2 + 1)), (0, .ref (kw 0)), (1, .int x1)]) hx hb dX10_certificatesOf_30 hl (k := 3) rfl rfl (by decide) rfl (fun ls hl => ?_)
      refine lv_goto (tgt := 4) hx hb dX10_certificatesOf_33 (by decide) ?_
      exact ih x1 (x2 + 1) (x3 + 1) _ (lv_sub hl [2, 3, 1, 0] rfl) h
  have hl := lv_entry ([.ref (kw 0), .int x1]) (n := 4) (Nat.le_of_ble_eq_true rfl)
  refine W.eq (g2 := F0 m 0 ((lg_sl ([.ref (kw 0), .int x1]) ++ List.replicate (4 - (lg_sl ([.ref (kw 0), .int x1])).length) Slot.unset).toArray) []) (by rw [ha]; exact lg_entry_eq _ _ _) ?_
  generalize (lg_sl ([.ref (kw 0), .int x1]) ++ List.replicate (4 - (lg_sl ([.ref (kw 0), .int x1])).length) Slot.unset).toArray = ls at hl ⊢
  have hl : lv_has ls 4 [(0, .ref (kw 0)), (1, .int x1)] := hl
  rw [f_X10_certificatesOf] at h
  refine lv_iconst (v := 0) hx hb dX10_certificatesOf_0 (by decide) ?_
  refine lv_istore_n (lv' := [(2, .int 0), (0, .ref (kw 0)), (1, .int x1)]) hx hb dX10_certificatesOf_1 rfl hl (by decide) rfl (fun ls hl => ?_)
  refine lv_iconst (v := 0) hx hb dX10_certificatesOf_2 (by decide) ?_
  refine lv_istore_n (lv' := [(3, .int 0), (2, .int 0), (0, .ref (kw 0)), (1, .int x1)]) hx hb dX10_certificatesOf_3 rfl hl (by decide) rfl (fun ls hl => ?_)
  exact b4 1000 x1 0 0 _ (lv_sub hl [2, 3, 1, 0] rfl) h
set_option maxHeartbeats 4000000 in
set_option maxRecDepth 100000 in
theorem c_X10_holderOf (l : Launch) (D : va_G) (tt : Nat → ClassId) (kw : Nat → Nat) (bw : zV) (bj : zJ) (x1 : Int32) (x2 : Int32) (out : Int32) (h : f_X10_holderOf bw bj x1 x2 = some out) : Met l yX10_holderOf wsX10_holderOf { frames := 4, cells := 0, slots := 0, locals := 93 } (zPr [.ref (kw 0), .int x1, .int x2] D tt (zw_mo tt kw bw bj)) (zQr .int out) 0 0 (fun _ => False) := by
  refine Met.ofW (cc := cX10_holderOf) (maxL := 3) (ret := (some .int)) (by decide) rfl ?_
  intro p e s m args below meth c s₁ B hml hv
  obtain ⟨ha, hP, hK⟩ := hv
  have hx := B.exec
  have hb := B.bytes
  have hr := B.returns
  have hts := atoms_spec (ws := wsX10_holderOf) B.pre
  have hown : s.vm.findClass RX10 = some m.cls := findClass_of_methodNamed B.named
  have hlocks := B.notSynchronized
  have hi10 : ∀ w ∈ u_ws RX10 TX10 15, w ∈ wsX10_holderOf := fun _ h => List.mem_cons_of_mem _ (List.mem_append_right _ h)
  have fl7 := hts (.fieldLink RX10 7 "CapStacksModel" "s" "[I") (by decide +kernel)
  have lc153 := hts (.constantLong RX10 153 (1000 : Int64)) (by decide +kernel)
  have hfin : ∀ (v : Int32) (pc : Nat) (ls : Array Slot), some v = some out → narrow .int (.int v) = .int v → decode cX10_holderOf pc = .ok (.ireturn, 1) → W p l e (headSpec wsX10_holderOf { frames := 4, cells := 0, slots := 0, locals := 93 }).room s m args below meth c s.heap [] 0 0 (MQ below (zQr .int out) args s 0 0 (fun _ => False)) (F0 m pc ls [.int v]) := by
    intro v pc ls he hn hd
    cases he
    exact W.zret hx hb hr hn (fun t ht hW => ⟨rfl, hn, ht⟩) (fun _ h => by cases h) hd
  generalize MQ below (zQr .int out) args s 0 0 (fun _ => False) = Q at hfin ⊢
  have hl := lv_entry ([.ref (kw 0), .int x1, .int x2]) (n := 3) (Nat.le_of_ble_eq_true rfl)
  refine W.eq (g2 := F0 m 0 ((lg_sl ([.ref (kw 0), .int x1, .int x2]) ++ List.replicate (3 - (lg_sl ([.ref (kw 0), .int x1, .int x2])).length) Slot.unset).toArray) []) (by rw [ha]; exact lg_entry_eq _ _ _) ?_
  generalize (lg_sl ([.ref (kw 0), .int x1, .int x2]) ++ List.replicate (3 - (lg_sl ([.ref (kw 0), .int x1, .int x2])).length) Slot.unset).toArray = ls at hl ⊢
  have hl : lv_has ls 3 [(0, .ref (kw 0)), (1, .int x1), (2, .int x2)] := hl
  rw [f_X10_holderOf] at h
  refine lv_aload_n hx hb dX10_holderOf_0 rfl (lv_at hl 0 rfl) ?_
  refine lv_iload_n hx hb dX10_holderOf_1 rfl (lv_at hl 1 rfl) ?_
  obtain ⟨y1, gy1, h⟩ := zb_some h
  refine z_callr (va_runV (As := [.int x1]) (rest := []) ⟨hx, hb, hml, hown, hts⟩ (c_X10_isHolder l D tt kw bw bj x1 y1 gy1) (cwV 1 hts gX10_holderOf_X10_isHolder rfl rfl rfl (by decide +kernel) ⟨Nat.le_of_ble_eq_true rfl, Nat.le_of_ble_eq_true rfl⟩) (z_preVr hK hP (ci := 10) (q0 := 0) rfl rfl) rfl rfl hl.1 rfl (lv_room (Nat.le_of_ble_eq_true rfl)) dX10_holderOf_2 ⟨Nat.zero_le _, Nat.zero_le _⟩) (fun ny1 => ?_)
  refine lv_if_eq (tgt := 18) hx hb dX10_holderOf_5 (by decide) (fun k2 => ?_) (fun k2 => ?_)
  · replace h := z_pos k2 h
    refine lv_iconst (v := (-1)) hx hb dX10_holderOf_18 (by decide) ?_
    exact hfin _ _ _ h rfl dX10_holderOf_19
  replace h := z_neg k2 h
  refine lv_iload_n hx hb dX10_holderOf_8 rfl (lv_at hl 2 rfl) ?_
  refine lv_iconst (v := 0) hx hb dX10_holderOf_9 (by decide) ?_
  refine lv_bipush (v := 9) hx hb dX10_holderOf_10 (by decide) ?_
  obtain ⟨y3, gy3, h⟩ := zb_some h
  refine z_callr (va_runS (As := [.int x2, .int 0, .int 9]) (rest := []) ⟨hx, hb, hml, hown, hts⟩ (c_X10_in l D tt x2 0 9 y3 gy3) (va_cwS 3 hts gX10_holderOf_X10_in rfl rfl rfl (by decide +kernel) ⟨Nat.le_of_ble_eq_true rfl, Nat.le_of_ble_eq_true rfl⟩) (z_preSr hK (hP.sub (ws' := ([] : va_W)) [] rfl)) rfl rfl hl.1 rfl (lv_room (Nat.le_of_ble_eq_true rfl)) dX10_holderOf_12 ⟨Nat.zero_le _, Nat.zero_le _⟩) (fun ny3 => ?_)
  refine lv_if_ne (tgt := 20) hx hb dX10_holderOf_15 (by decide) (fun k4 => ?_) (fun k4 => ?_)
  rotate_left
  · replace h := z_pos k4 h
    refine lv_iconst (v := (-1)) hx hb dX10_holderOf_18 (by decide) ?_
    exact hfin _ _ _ h rfl dX10_holderOf_19
  replace h := z_neg k4 h
  refine lv_iload_n hx hb dX10_holderOf_20 rfl (lv_at hl 2 rfl) ?_
  by_cases k5 : x2 = 5
  · replace h := z_pos k5 h
    rw [k5]
    refine lv_tableIn (off := 35) (tgt := 56) hx hb dX10_holderOf_21 (by decide) (by decide) (by decide) (by decide) ?_
    refine lv_aload_n hx hb dX10_holderOf_56 rfl (lv_at hl 0 rfl) ?_
    refine lv_iload_n hx hb dX10_holderOf_57 rfl (lv_at hl 1 rfl) ?_
    obtain ⟨y6, gy6, h⟩ := zb_some h
    refine z_callr (va_runV (As := [.int x1]) (rest := []) ⟨hx, hb, hml, hown, hts⟩ (c_X10_commonOf l D tt kw bw bj x1 y6 gy6) (cwV 1 hts gX10_holderOf_X10_commonOf rfl rfl rfl (by decide +kernel) ⟨Nat.le_of_ble_eq_true rfl, Nat.le_of_ble_eq_true rfl⟩) (z_preVr hK hP (ci := 10) (q0 := 0) rfl rfl) rfl rfl hl.1 rfl (lv_room (Nat.le_of_ble_eq_true rfl)) dX10_holderOf_58 ⟨Nat.zero_le _, Nat.zero_le _⟩) (fun ny6 => ?_)
    exact hfin _ _ _ h rfl dX10_holderOf_61
  replace h := z_neg k5 h
  by_cases k7 : x2 = 6
  · replace h := z_pos k7 h
    rw [k7]
    refine lv_tableIn (off := 41) (tgt := 62) hx hb dX10_holderOf_21 (by decide) (by decide) (by decide) (by decide) ?_
    refine lv_aload_n hx hb dX10_holderOf_62 rfl (lv_at hl 0 rfl) ?_
    refine lv_iload_n hx hb dX10_holderOf_63 rfl (lv_at hl 1 rfl) ?_
    obtain ⟨y8, gy8, h⟩ := zb_some h
    refine z_callr (va_runV (As := [.int x1]) (rest := []) ⟨hx, hb, hml, hown, hts⟩ (c_X10_hasLeft l D tt kw bw bj x1 y8 gy8) (cwV 1 hts gX10_holderOf_X10_hasLeft rfl rfl rfl (by decide +kernel) ⟨Nat.le_of_ble_eq_true rfl, Nat.le_of_ble_eq_true rfl⟩) (z_preVr hK hP (ci := 10) (q0 := 0) rfl rfl) rfl rfl hl.1 rfl (lv_room (Nat.le_of_ble_eq_true rfl)) dX10_holderOf_64 ⟨Nat.zero_le _, Nat.zero_le _⟩) (fun ny8 => ?_)
    refine lv_if_eq (tgt := 84) hx hb dX10_holderOf_67 (by decide) (fun k9 => ?_) (fun k9 => ?_)
    · replace h := z_pos k9 h
      refine lv_bipush (v := (-4)) hx hb dX10_holderOf_84 (by decide) ?_
      exact hfin _ _ _ h rfl dX10_holderOf_86
    replace h := z_neg k9 h
    refine lv_aload_n hx hb dX10_holderOf_70 rfl (lv_at hl 0 rfl) ?_
    refine va_get (D := D) (ci := 10) (v := .ref (kw 1)) (C := RX10) (T := TX10) (N := 15) hx hb hts hi10 hown hK.1 hP 0 rfl rfl 0 (by decide) fl7 (fun _ h9 => h9) rfl dX10_holderOf_71 ?_
    refine lv_bipush (v := 53) hx hb dX10_holderOf_74 (by decide) ?_
    refine lv_iload_n hx hb dX10_holderOf_76 rfl (lv_at hl 1 rfl) ?_
    refine lv_iadd hx hb dX10_holderOf_77 ?_
    obtain ⟨q10, h⟩ := zA_some h
    refine va_iald hx hb hK.1 hP 1 0 rfl rfl q10 dX10_holderOf_78 ?_
    refine lv_iconst (v := 1) hx hb dX10_holderOf_79 (by decide) ?_
    refine lv_isub hx hb dX10_holderOf_80 ?_
    refine lv_goto (tgt := 86) hx hb dX10_holderOf_81 (by decide) ?_
    exact hfin _ _ _ h rfl dX10_holderOf_86
  replace h := z_neg k7 h
  by_cases k11 : x2 = 7
  · replace h := z_pos k11 h
    rw [k11]
    refine lv_tableIn (off := 66) (tgt := 87) hx hb dX10_holderOf_21 (by decide) (by decide) (by decide) (by decide) ?_
    refine lv_aload_n hx hb dX10_holderOf_87 rfl (lv_at hl 0 rfl) ?_
    refine lv_iload_n hx hb dX10_holderOf_88 rfl (lv_at hl 1 rfl) ?_
    obtain ⟨y12, gy12, h⟩ := zb_some h
    refine z_callr (va_runV (As := [.int x1]) (rest := []) ⟨hx, hb, hml, hown, hts⟩ (c_X10_certificatesOf l D tt kw bw bj x1 y12 gy12) (cwV 1 hts gX10_holderOf_X10_certificatesOf rfl rfl rfl (by decide +kernel) ⟨Nat.le_of_ble_eq_true rfl, Nat.le_of_ble_eq_true rfl⟩) (z_preVr hK hP (ci := 10) (q0 := 0) rfl rfl) rfl rfl hl.1 rfl (lv_room (Nat.le_of_ble_eq_true rfl)) dX10_holderOf_89 ⟨Nat.zero_le _, Nat.zero_le _⟩) (fun ny12 => ?_)
    exact hfin _ _ _ h rfl dX10_holderOf_92
  replace h := z_neg k11 h
  by_cases k13 : x2 = 8
  · replace h := z_pos k13 h
    rw [k13]
    refine lv_tableIn (off := 72) (tgt := 93) hx hb dX10_holderOf_21 (by decide) (by decide) (by decide) (by decide) ?_
    refine lv_aload_n hx hb dX10_holderOf_93 rfl (lv_at hl 0 rfl) ?_
    refine lv_iload_n hx hb dX10_holderOf_94 rfl (lv_at hl 1 rfl) ?_
    obtain ⟨y14, gy14, h⟩ := zb_some h
    refine z_callr (va_runV (As := [.int x1]) (rest := []) ⟨hx, hb, hml, hown, hts⟩ (c_X10_allToTake l D tt kw bw bj x1 y14 gy14) (cwV 1 hts gX10_holderOf_X10_allToTake rfl rfl rfl (by decide +kernel) ⟨Nat.le_of_ble_eq_true rfl, Nat.le_of_ble_eq_true rfl⟩) (z_preVr hK hP (ci := 10) (q0 := 0) rfl rfl) rfl rfl hl.1 rfl (lv_room (Nat.le_of_ble_eq_true rfl)) dX10_holderOf_95 ⟨Nat.zero_le _, Nat.zero_le _⟩) (fun ny14 => ?_)
    exact hfin _ _ _ h rfl dX10_holderOf_98
  replace h := z_neg k13 h
  by_cases k15 : x2 = 9
  · replace h := z_pos k15 h
    rw [k15]
    refine lv_tableIn (off := 78) (tgt := 99) hx hb dX10_holderOf_21 (by decide) (by decide) (by decide) (by decide) ?_
    refine lv_aload_n hx hb dX10_holderOf_99 rfl (lv_at hl 0 rfl) ?_
    refine lv_iconst (v := (-1)) hx hb dX10_holderOf_100 (by decide) ?_
    obtain ⟨y16, gy16, h⟩ := zb_some h
    refine z_callr (va_runV (As := [.int (-1)]) (rest := []) ⟨hx, hb, hml, hown, hts⟩ (c_X10_commonOf l D tt kw bw bj (-1) y16 gy16) (cwV 1 hts gX10_holderOf_X10_commonOf rfl rfl rfl (by decide +kernel) ⟨Nat.le_of_ble_eq_true rfl, Nat.le_of_ble_eq_true rfl⟩) (z_preVr hK hP (ci := 10) (q0 := 0) rfl rfl) rfl rfl hl.1 rfl (lv_room (Nat.le_of_ble_eq_true rfl)) dX10_holderOf_101 ⟨Nat.zero_le _, Nat.zero_le _⟩) (fun ny16 => ?_)
    refine lv_if_ne (tgt := 112) hx hb dX10_holderOf_104 (by decide) (fun k17 => ?_) (fun k17 => ?_)
    rotate_left
    · replace h := z_pos k17 h
      refine lv_bipush (v := (-4)) hx hb dX10_holderOf_107 (by decide) ?_
      refine lv_goto (tgt := 130) hx hb dX10_holderOf_109 (by decide) ?_
      exact hfin _ _ _ h rfl dX10_holderOf_130
    replace h := z_neg k17 h
    refine lv_ldc2 hx hb hown lc153 dX10_holderOf_112 ?_
    refine lv_aload_n hx hb dX10_holderOf_115 rfl (lv_at hl 0 rfl) ?_
    refine lv_iload_n hx hb dX10_holderOf_116 rfl (lv_at hl 1 rfl) ?_
    obtain ⟨y18, gy18, h⟩ := zb_some h
    refine z_callr (va_runV (As := [.int x1]) (rest := [.long (1000 : Int64)]) ⟨hx, hb, hml, hown, hts⟩ (c_X10_commonOf l D tt kw bw bj x1 y18 gy18) (cwV 1 hts gX10_holderOf_X10_commonOf rfl rfl rfl (by decide +kernel) ⟨Nat.le_of_ble_eq_true rfl, Nat.le_of_ble_eq_true rfl⟩) (z_preVr hK hP (ci := 10) (q0 := 0) rfl rfl) rfl rfl hl.1 rfl (lv_room (Nat.le_of_ble_eq_true rfl)) dX10_holderOf_117 ⟨Nat.zero_le _, Nat.zero_le _⟩) (fun ny18 => ?_)
    refine lv_i2l hx hb dX10_holderOf_120 rfl ?_
    refine lv_lmul hx hb dX10_holderOf_121 ?_
    refine lv_aload_n hx hb dX10_holderOf_122 rfl (lv_at hl 0 rfl) ?_
    refine lv_iconst (v := (-1)) hx hb dX10_holderOf_123 (by decide) ?_
    obtain ⟨y19, gy19, h⟩ := zb_some h
    refine z_callr (va_runV (As := [.int (-1)]) (rest := [.long ((1000 : Int64) * (Int32.toInt64 y18))]) ⟨hx, hb, hml, hown, hts⟩ (c_X10_commonOf l D tt kw bw bj (-1) y19 gy19) (cwV 1 hts gX10_holderOf_X10_commonOf rfl rfl rfl (by decide +kernel) ⟨Nat.le_of_ble_eq_true rfl, Nat.le_of_ble_eq_true rfl⟩) (z_preVr hK hP (ci := 10) (q0 := 0) rfl rfl) rfl rfl hl.1 rfl (lv_room (Nat.le_of_ble_eq_true rfl)) dX10_holderOf_124 ⟨Nat.zero_le _, Nat.zero_le _⟩) (fun ny19 => ?_)
    refine lv_i2l hx hb dX10_holderOf_127 rfl ?_
    obtain ⟨q20, h⟩ := zDl_some h
    refine lv_ldiv hx hb dX10_holderOf_128 q20 ?_
    refine lv_l2i hx hb dX10_holderOf_129 rfl ?_
    exact hfin _ _ _ h rfl dX10_holderOf_130
  replace h := z_neg k15 h
  have ek5 : Int32.toInt x2 ≠ 5 := fun e => k5 (Int32.toInt_inj.mp (e.trans (by decide)))
  have ek7 : Int32.toInt x2 ≠ 6 := fun e => k7 (Int32.toInt_inj.mp (e.trans (by decide)))
  have ek11 : Int32.toInt x2 ≠ 7 := fun e => k11 (Int32.toInt_inj.mp (e.trans (by decide)))
  have ek13 : Int32.toInt x2 ≠ 8 := fun e => k13 (Int32.toInt_inj.mp (e.trans (by decide)))
  have ek15 : Int32.toInt x2 ≠ 9 := fun e => k15 (Int32.toInt_inj.mp (e.trans (by decide)))
  refine lv_tableOut (tgt := 131) hx hb dX10_holderOf_21 (by omega) (by decide) ?_
  refine lv_aload_n hx hb dX10_holderOf_131 rfl (lv_at hl 0 rfl) ?_
  refine lv_iload_n hx hb dX10_holderOf_132 rfl (lv_at hl 1 rfl) ?_
  refine lv_iload_n hx hb dX10_holderOf_133 rfl (lv_at hl 2 rfl) ?_
  obtain ⟨y21, gy21, h⟩ := zb_some h
  refine z_callr (va_runV (As := [.int x1, .int x2]) (rest := []) ⟨hx, hb, hml, hown, hts⟩ (c_X10_sharesOf l D tt kw bw bj x1 x2 y21 gy21) (cwV 2 hts gX10_holderOf_X10_sharesOf rfl rfl rfl (by decide +kernel) ⟨Nat.le_of_ble_eq_true rfl, Nat.le_of_ble_eq_true rfl⟩) (z_preVr hK hP (ci := 10) (q0 := 0) rfl rfl) rfl rfl hl.1 rfl (lv_room (Nat.le_of_ble_eq_true rfl)) dX10_holderOf_134 ⟨Nat.zero_le _, Nat.zero_le _⟩) (fun ny21 => ?_)
  exact hfin _ _ _ h rfl dX10_holderOf_137
set_option maxHeartbeats 4000000 in
set_option maxRecDepth 100000 in
theorem c_X10_count (l : Launch) (D : va_G) (tt : Nat → ClassId) (kw : Nat → Nat) (bw : zV) (bj : zJ) (x1 : Int32) (out : Int32) (h : f_X10_count bw bj x1 = some out) : Met l yX10_count wsX10_count { frames := 3, cells := 0, slots := 0, locals := 70 } (zPr [.ref (kw 0), .int x1] D tt (zw_mo tt kw bw bj)) (zQr .int out) 0 0 (fun _ => False) := by
  refine Met.ofW (cc := cX10_count) (maxL := 2) (ret := (some .int)) (by decide) rfl ?_
  intro p e s m args below meth c s₁ B hml hv
  obtain ⟨ha, hP, hK⟩ := hv
  have hx := B.exec
  have hb := B.bytes
  have hr := B.returns
  have hts := atoms_spec (ws := wsX10_count) B.pre
  have hown : s.vm.findClass RX10 = some m.cls := findClass_of_methodNamed B.named
  have hlocks := B.notSynchronized
  have hi10 : ∀ w ∈ u_ws RX10 TX10 15, w ∈ wsX10_count := fun _ h => List.mem_cons_of_mem _ (List.mem_append_right _ h)
  have fl155 := hts (.fieldLink RX10 155 "CapStacksModel" "length" "I") (by decide +kernel)
  have fl38 := hts (.fieldLink RX10 38 "CapStacksModel" "states" "I") (by decide +kernel)
  have fl7 := hts (.fieldLink RX10 7 "CapStacksModel" "s" "[I") (by decide +kernel)
  have hfin : ∀ (v : Int32) (pc : Nat) (ls : Array Slot), some v = some out → narrow .int (.int v) = .int v → decode cX10_count pc = .ok (.ireturn, 1) → W p l e (headSpec wsX10_count { frames := 3, cells := 0, slots := 0, locals := 70 }).room s m args below meth c s.heap [] 0 0 (MQ below (zQr .int out) args s 0 0 (fun _ => False)) (F0 m pc ls [.int v]) := by
    intro v pc ls he hn hd
    cases he
    exact W.zret hx hb hr hn (fun t ht hW => ⟨rfl, hn, ht⟩) (fun _ h => by cases h) hd
  generalize MQ below (zQr .int out) args s 0 0 (fun _ => False) = Q at hfin ⊢
  have hl := lv_entry ([.ref (kw 0), .int x1]) (n := 2) (Nat.le_of_ble_eq_true rfl)
  refine W.eq (g2 := F0 m 0 ((lg_sl ([.ref (kw 0), .int x1]) ++ List.replicate (2 - (lg_sl ([.ref (kw 0), .int x1])).length) Slot.unset).toArray) []) (by rw [ha]; exact lg_entry_eq _ _ _) ?_
  generalize (lg_sl ([.ref (kw 0), .int x1]) ++ List.replicate (2 - (lg_sl ([.ref (kw 0), .int x1])).length) Slot.unset).toArray = ls at hl ⊢
  have hl : lv_has ls 2 [(0, .ref (kw 0)), (1, .int x1)] := hl
  rw [f_X10_count] at h
  refine lv_iload_n hx hb dX10_count_0 rfl (lv_at hl 1 rfl) ?_
  by_cases k1 : x1 = 0
  · replace h := z_pos k1 h
    rw [k1]
    refine lv_tableIn (off := 67) (tgt := 68) hx hb dX10_count_1 (by decide) (by decide) (by decide) (by decide) ?_
    refine lv_aload_n hx hb dX10_count_68 rfl (lv_at hl 0 rfl) ?_
    refine va_get (D := D) (ci := 10) (v := .ref (kw 1)) (C := RX10) (T := TX10) (N := 15) hx hb hts hi10 hown hK.1 hP 0 rfl rfl 0 (by decide) fl7 (fun _ h9 => h9) rfl dX10_count_69 ?_
    refine lv_iload_n hx hb dX10_count_72 rfl (lv_at hl 1 rfl) ?_
    obtain ⟨q2, h⟩ := zA_some h
    refine va_iald hx hb hK.1 hP 1 0 rfl rfl q2 dX10_count_73 ?_
    exact hfin _ _ _ h rfl dX10_count_74
  replace h := z_neg k1 h
  by_cases k3 : x1 = 1
  · replace h := z_pos k3 h
    rw [k3]
    refine lv_tableIn (off := 67) (tgt := 68) hx hb dX10_count_1 (by decide) (by decide) (by decide) (by decide) ?_
    refine lv_aload_n hx hb dX10_count_68 rfl (lv_at hl 0 rfl) ?_
    refine va_get (D := D) (ci := 10) (v := .ref (kw 1)) (C := RX10) (T := TX10) (N := 15) hx hb hts hi10 hown hK.1 hP 0 rfl rfl 0 (by decide) fl7 (fun _ h9 => h9) rfl dX10_count_69 ?_
    refine lv_iload_n hx hb dX10_count_72 rfl (lv_at hl 1 rfl) ?_
    obtain ⟨q4, h⟩ := zA_some h
    refine va_iald hx hb hK.1 hP 1 0 rfl rfl q4 dX10_count_73 ?_
    exact hfin _ _ _ h rfl dX10_count_74
  replace h := z_neg k3 h
  by_cases k5 : x1 = 2
  · replace h := z_pos k5 h
    rw [k5]
    refine lv_tableIn (off := 74) (tgt := 75) hx hb dX10_count_1 (by decide) (by decide) (by decide) (by decide) ?_
    refine lv_aload_n hx hb dX10_count_75 rfl (lv_at hl 0 rfl) ?_
    obtain ⟨y6, gy6, h⟩ := zb_some h
    refine z_callr (va_runV (As := []) (rest := []) ⟨hx, hb, hml, hown, hts⟩ (c_X10_certificates l D tt kw bw bj y6 gy6) (cwV 0 hts gX10_count_X10_certificates rfl rfl rfl (by decide +kernel) ⟨Nat.le_of_ble_eq_true rfl, Nat.le_of_ble_eq_true rfl⟩) (z_preVr hK hP (ci := 10) (q0 := 0) rfl rfl) rfl rfl hl.1 rfl (lv_room (Nat.le_of_ble_eq_true rfl)) dX10_count_76 ⟨Nat.zero_le _, Nat.zero_le _⟩) (fun ny6 => ?_)
    exact hfin _ _ _ h rfl dX10_count_79
  replace h := z_neg k5 h
  by_cases k7 : x1 = 3
  · replace h := z_pos k7 h
    rw [k7]
    refine lv_tableIn (off := 79) (tgt := 80) hx hb dX10_count_1 (by decide) (by decide) (by decide) (by decide) ?_
    refine lv_aload_n hx hb dX10_count_80 rfl (lv_at hl 0 rfl) ?_
    refine va_get (D := D) (ci := 10) (v := .ref (kw 1)) (C := RX10) (T := TX10) (N := 15) hx hb hts hi10 hown hK.1 hP 0 rfl rfl 0 (by decide) fl7 (fun _ h9 => h9) rfl dX10_count_81 ?_
    refine lv_iconst (v := 2) hx hb dX10_count_84 (by decide) ?_
    refine va_iald hx hb hK.1 hP 1 0 rfl rfl (vp_in_lit 2 213 rfl) dX10_count_85 ?_
    exact hfin _ _ _ h rfl dX10_count_86
  replace h := z_neg k7 h
  by_cases k8 : x1 = 4
  · replace h := z_pos k8 h
    rw [k8]
    refine lv_tableIn (off := 86) (tgt := 87) hx hb dX10_count_1 (by decide) (by decide) (by decide) (by decide) ?_
    refine lv_aload_n hx hb dX10_count_87 rfl (lv_at hl 0 rfl) ?_
    refine va_get (D := D) (ci := 10) (v := .ref (kw 1)) (C := RX10) (T := TX10) (N := 15) hx hb hts hi10 hown hK.1 hP 0 rfl rfl 0 (by decide) fl7 (fun _ h9 => h9) rfl dX10_count_88 ?_
    refine lv_iconst (v := 3) hx hb dX10_count_91 (by decide) ?_
    refine va_iald hx hb hK.1 hP 1 0 rfl rfl (vp_in_lit 3 213 rfl) dX10_count_92 ?_
    exact hfin _ _ _ h rfl dX10_count_93
  replace h := z_neg k8 h
  by_cases k9 : x1 = 5
  · replace h := z_pos k9 h
    rw [k9]
    refine lv_tableIn (off := 93) (tgt := 94) hx hb dX10_count_1 (by decide) (by decide) (by decide) (by decide) ?_
    refine lv_aload_n hx hb dX10_count_94 rfl (lv_at hl 0 rfl) ?_
    refine lv_iconst (v := (-1)) hx hb dX10_count_95 (by decide) ?_
    obtain ⟨y10, gy10, h⟩ := zb_some h
    refine z_callr (va_runV (As := [.int (-1)]) (rest := []) ⟨hx, hb, hml, hown, hts⟩ (c_X10_commonOf l D tt kw bw bj (-1) y10 gy10) (cwV 1 hts gX10_count_X10_commonOf rfl rfl rfl (by decide +kernel) ⟨Nat.le_of_ble_eq_true rfl, Nat.le_of_ble_eq_true rfl⟩) (z_preVr hK hP (ci := 10) (q0 := 0) rfl rfl) rfl rfl hl.1 rfl (lv_room (Nat.le_of_ble_eq_true rfl)) dX10_count_96 ⟨Nat.zero_le _, Nat.zero_le _⟩) (fun ny10 => ?_)
    exact hfin _ _ _ h rfl dX10_count_99
  replace h := z_neg k9 h
  by_cases k11 : x1 = 6
  · replace h := z_pos k11 h
    rw [k11]
    refine lv_tableIn (off := 99) (tgt := 100) hx hb dX10_count_1 (by decide) (by decide) (by decide) (by decide) ?_
    refine lv_aload_n hx hb dX10_count_100 rfl (lv_at hl 0 rfl) ?_
    refine va_get (D := D) (ci := 10) (v := .ref (kw 1)) (C := RX10) (T := TX10) (N := 15) hx hb hts hi10 hown hK.1 hP 0 rfl rfl 0 (by decide) fl7 (fun _ h9 => h9) rfl dX10_count_101 ?_
    refine lv_bipush (v := 8) hx hb dX10_count_104 (by decide) ?_
    refine va_iald hx hb hK.1 hP 1 0 rfl rfl (vp_in_lit 8 213 rfl) dX10_count_106 ?_
    exact hfin _ _ _ h rfl dX10_count_107
  replace h := z_neg k11 h
  by_cases k12 : x1 = 7
  · replace h := z_pos k12 h
    rw [k12]
    refine lv_tableIn (off := 107) (tgt := 108) hx hb dX10_count_1 (by decide) (by decide) (by decide) (by decide) ?_
    refine lv_aload_n hx hb dX10_count_108 rfl (lv_at hl 0 rfl) ?_
    refine va_get (D := D) (ci := 10) (v := .ref (kw 1)) (C := RX10) (T := TX10) (N := 15) hx hb hts hi10 hown hK.1 hP 0 rfl rfl 0 (by decide) fl7 (fun _ h9 => h9) rfl dX10_count_109 ?_
    refine lv_iconst (v := 4) hx hb dX10_count_112 (by decide) ?_
    refine lv_iload_n hx hb dX10_count_113 rfl (lv_at hl 1 rfl) ?_
    refine lv_iadd hx hb dX10_count_114 ?_
    refine lv_bipush (v := 7) hx hb dX10_count_115 (by decide) ?_
    refine lv_isub hx hb dX10_count_117 ?_
    obtain ⟨q13, h⟩ := zA_some h
    refine va_iald hx hb hK.1 hP 1 0 rfl rfl q13 dX10_count_118 ?_
    exact hfin _ _ _ h rfl dX10_count_119
  replace h := z_neg k12 h
  by_cases k14 : x1 = 8
  · replace h := z_pos k14 h
    rw [k14]
    refine lv_tableIn (off := 107) (tgt := 108) hx hb dX10_count_1 (by decide) (by decide) (by decide) (by decide) ?_
    refine lv_aload_n hx hb dX10_count_108 rfl (lv_at hl 0 rfl) ?_
    refine va_get (D := D) (ci := 10) (v := .ref (kw 1)) (C := RX10) (T := TX10) (N := 15) hx hb hts hi10 hown hK.1 hP 0 rfl rfl 0 (by decide) fl7 (fun _ h9 => h9) rfl dX10_count_109 ?_
    refine lv_iconst (v := 4) hx hb dX10_count_112 (by decide) ?_
    refine lv_iload_n hx hb dX10_count_113 rfl (lv_at hl 1 rfl) ?_
    refine lv_iadd hx hb dX10_count_114 ?_
    refine lv_bipush (v := 7) hx hb dX10_count_115 (by decide) ?_
    refine lv_isub hx hb dX10_count_117 ?_
    obtain ⟨q15, h⟩ := zA_some h
    refine va_iald hx hb hK.1 hP 1 0 rfl rfl q15 dX10_count_118 ?_
    exact hfin _ _ _ h rfl dX10_count_119
  replace h := z_neg k14 h
  by_cases k16 : x1 = 9
  · replace h := z_pos k16 h
    rw [k16]
    refine lv_tableIn (off := 107) (tgt := 108) hx hb dX10_count_1 (by decide) (by decide) (by decide) (by decide) ?_
    refine lv_aload_n hx hb dX10_count_108 rfl (lv_at hl 0 rfl) ?_
    refine va_get (D := D) (ci := 10) (v := .ref (kw 1)) (C := RX10) (T := TX10) (N := 15) hx hb hts hi10 hown hK.1 hP 0 rfl rfl 0 (by decide) fl7 (fun _ h9 => h9) rfl dX10_count_109 ?_
    refine lv_iconst (v := 4) hx hb dX10_count_112 (by decide) ?_
    refine lv_iload_n hx hb dX10_count_113 rfl (lv_at hl 1 rfl) ?_
    refine lv_iadd hx hb dX10_count_114 ?_
    refine lv_bipush (v := 7) hx hb dX10_count_115 (by decide) ?_
    refine lv_isub hx hb dX10_count_117 ?_
    obtain ⟨q17, h⟩ := zA_some h
    refine va_iald hx hb hK.1 hP 1 0 rfl rfl q17 dX10_count_118 ?_
    exact hfin _ _ _ h rfl dX10_count_119
  replace h := z_neg k16 h
  by_cases k18 : x1 = 10
  · replace h := z_pos k18 h
    rw [k18]
    refine lv_tableIn (off := 107) (tgt := 108) hx hb dX10_count_1 (by decide) (by decide) (by decide) (by decide) ?_
    refine lv_aload_n hx hb dX10_count_108 rfl (lv_at hl 0 rfl) ?_
    refine va_get (D := D) (ci := 10) (v := .ref (kw 1)) (C := RX10) (T := TX10) (N := 15) hx hb hts hi10 hown hK.1 hP 0 rfl rfl 0 (by decide) fl7 (fun _ h9 => h9) rfl dX10_count_109 ?_
    refine lv_iconst (v := 4) hx hb dX10_count_112 (by decide) ?_
    refine lv_iload_n hx hb dX10_count_113 rfl (lv_at hl 1 rfl) ?_
    refine lv_iadd hx hb dX10_count_114 ?_
    refine lv_bipush (v := 7) hx hb dX10_count_115 (by decide) ?_
    refine lv_isub hx hb dX10_count_117 ?_
    obtain ⟨q19, h⟩ := zA_some h
    refine va_iald hx hb hK.1 hP 1 0 rfl rfl q19 dX10_count_118 ?_
    exact hfin _ _ _ h rfl dX10_count_119
  replace h := z_neg k18 h
  by_cases k20 : x1 = 11
  · replace h := z_pos k20 h
    rw [k20]
    refine lv_tableIn (off := 119) (tgt := 120) hx hb dX10_count_1 (by decide) (by decide) (by decide) (by decide) ?_
    refine lv_aload_n hx hb dX10_count_120 rfl (lv_at hl 0 rfl) ?_
    refine va_get (D := D) (ci := 10) (v := .int (bw 0 0)) (C := RX10) (T := TX10) (N := 15) hx hb hts hi10 hown hK.1 hP 0 rfl rfl 3 (by decide) fl38 (fun _ h9 => h9) rfl dX10_count_121 ?_
    exact hfin _ _ _ h rfl dX10_count_124
  replace h := z_neg k20 h
  by_cases k21 : x1 = 12
  · replace h := z_pos k21 h
    rw [k21]
    refine lv_tableIn (off := 124) (tgt := 125) hx hb dX10_count_1 (by decide) (by decide) (by decide) (by decide) ?_
    refine lv_aload_n hx hb dX10_count_125 rfl (lv_at hl 0 rfl) ?_
    refine va_get (D := D) (ci := 10) (v := .int (bw 0 1)) (C := RX10) (T := TX10) (N := 15) hx hb hts hi10 hown hK.1 hP 0 rfl rfl 5 (by decide) fl155 (fun _ h9 => h9) rfl dX10_count_126 ?_
    exact hfin _ _ _ h rfl dX10_count_129
  replace h := z_neg k21 h
  have ek1 : Int32.toInt x1 ≠ 0 := fun e => k1 (Int32.toInt_inj.mp (e.trans (by decide)))
  have ek3 : Int32.toInt x1 ≠ 1 := fun e => k3 (Int32.toInt_inj.mp (e.trans (by decide)))
  have ek5 : Int32.toInt x1 ≠ 2 := fun e => k5 (Int32.toInt_inj.mp (e.trans (by decide)))
  have ek7 : Int32.toInt x1 ≠ 3 := fun e => k7 (Int32.toInt_inj.mp (e.trans (by decide)))
  have ek8 : Int32.toInt x1 ≠ 4 := fun e => k8 (Int32.toInt_inj.mp (e.trans (by decide)))
  have ek9 : Int32.toInt x1 ≠ 5 := fun e => k9 (Int32.toInt_inj.mp (e.trans (by decide)))
  have ek11 : Int32.toInt x1 ≠ 6 := fun e => k11 (Int32.toInt_inj.mp (e.trans (by decide)))
  have ek12 : Int32.toInt x1 ≠ 7 := fun e => k12 (Int32.toInt_inj.mp (e.trans (by decide)))
  have ek14 : Int32.toInt x1 ≠ 8 := fun e => k14 (Int32.toInt_inj.mp (e.trans (by decide)))
  have ek16 : Int32.toInt x1 ≠ 9 := fun e => k16 (Int32.toInt_inj.mp (e.trans (by decide)))
  have ek18 : Int32.toInt x1 ≠ 10 := fun e => k18 (Int32.toInt_inj.mp (e.trans (by decide)))
  have ek20 : Int32.toInt x1 ≠ 11 := fun e => k20 (Int32.toInt_inj.mp (e.trans (by decide)))
  have ek21 : Int32.toInt x1 ≠ 12 := fun e => k21 (Int32.toInt_inj.mp (e.trans (by decide)))
  refine lv_tableOut (tgt := 130) hx hb dX10_count_1 (by omega) (by decide) ?_
  refine lv_iconst (v := (-1)) hx hb dX10_count_130 (by decide) ?_
  exact hfin _ _ _ h rfl dX10_count_131
set_option maxHeartbeats 4000000 in
set_option maxRecDepth 100000 in
theorem c_X10_layClasses (l : Launch) (D : va_G) (tt : Nat → ClassId) (kw : Nat → Nat) (sz : Nat) (bw : zV) (bj : zJ)  (out : zJ) (h : f_X10_layClasses bw bj = some out) : Met l yX10_layClasses wsX10_layClasses { frames := 3, cells := 0, slots := 0, locals := 68 } (zPm [.ref (kw 0)] D tt (zw_mo tt kw bw bj) sz) (zMv D (zw_mo tt kw bw out) (va_A (zw_mo tt kw bw bj) sz)) 0 0 (va_A (zw_mo tt kw bw bj) sz) := by
  refine Met.ofW (cc := cX10_layClasses) (maxL := 2) (ret := none) (by decide) rfl ?_
  intro p e s m args below meth c s₁ B hml hv
  obtain ⟨ha, hsz, hP, hK, hD0⟩ := hv
  have hx := B.exec
  have hb := B.bytes
  have hr := B.returns
  have hts := atoms_spec (ws := wsX10_layClasses) B.pre
  have hown : s.vm.findClass RX10 = some m.cls := findClass_of_methodNamed B.named
  have hlocks := B.notSynchronized
  have hi10 : ∀ w ∈ u_ws RX10 TX10 15, w ∈ wsX10_layClasses := fun _ h => List.mem_cons_of_mem _ (List.mem_append_right _ h)
  have fl29 := hts (.fieldLink RX10 29 "CapStacksModel" "claims" "[J") (by decide +kernel)
  have fl32 := hts (.fieldLink RX10 32 "CapStacksModel" "commons" "[J") (by decide +kernel)
  have fl7 := hts (.fieldLink RX10 7 "CapStacksModel" "s" "[I") (by decide +kernel)
  subst hsz
  have hD := hD0.self (sz := s.heap.size)
  generalize hAe : va_A (zw_mo tt kw bw bj) s.heap.size = A at hD ⊢
  have hA : ∀ q : Nat, s.heap.size ≤ q → A q := fun q h => by rw [← hAe]; exact Or.inr h
  have hS : va_S A s.heap s.heap [] := va_S.rf
  have hfin : ∀ (bj : zJ) (pc : Nat) (ls : Array Slot) (H : Heap) (locs : List Loc), some bj = some out → va_P D vwCl (zw_mo tt kw bw bj) H → va_D A (zw_mo tt kw bw bj) → va_S A s.heap H locs → decode cX10_layClasses pc = .ok (.return_, 1) → W p l e (headSpec wsX10_layClasses { frames := 3, cells := 0, slots := 0, locals := 68 }).room s m args below meth c H locs 0 0 (MQ below (zMv D (zw_mo tt kw bw out) A) args s 0 0 A) (F0 m pc ls []) := by
    intro bj pc ls H locs he hP hD hS hd
    cases he
    exact W.vret hx hb hr (fun t ht hW => ⟨⟨(), rfl, trivial, by rw [ht]; exact hP, hD⟩, hS.F ht⟩) hS.2.2 hd
  generalize MQ below (zMv D (zw_mo tt kw bw out) A) args s 0 0 A = Q at hfin ⊢
  have b2 : ∀ n : Nat, ∀ (bj : zJ) (x1 : Int32) (H : Heap) (locs : List Loc) (ls : Array Slot), va_P D vwCl (zw_mo tt kw bw bj) H → va_D A (zw_mo tt kw bw bj) → va_S A s.heap H locs → lv_has ls 2 [(0, .ref (kw 0)), (1, .int x1)] → f_X10_layClasses_b2 bw n bj x1 = some out → W p l e (headSpec wsX10_layClasses { frames := 3, cells := 0, slots := 0, locals := 68 }).room s m args below meth c H locs 0 0 Q (F0 m 2 ls []) := by
    intro n
    induction n with
    | zero =>
      intro bj x1 H locs ls hP hD hS hl h
      cases h
    | succ n ih =>
      intro bj x1 H locs ls hP hD hS hl h
      rw [f_X10_layClasses_b2] at h
      refine lv_iload_n hx hb dX10_layClasses_2 rfl (lv_at hl 1 rfl) ?_
      refine lv_aload_n hx hb dX10_layClasses_3 rfl (lv_at hl 0 rfl) ?_
      refine va_get (D := D) (ci := 10) (v := .ref (kw 1)) (C := RX10) (T := TX10) (N := 15) hx hb hts hi10 hown hK.1 hP 0 rfl rfl 0 (by decide) fl7 (fun _ h9 => h9) rfl dX10_layClasses_4 ?_
      refine lv_iconst (v := 0) hx hb dX10_layClasses_7 (by decide) ?_
      refine va_iald hx hb hK.1 hP 1 0 rfl rfl (vp_in_lit 0 213 rfl) dX10_layClasses_8 ?_
      refine lv_icmp_ge (tgt := 51) hx hb dX10_layClasses_9 (by decide) (fun k1 => ?_) (fun k1 => ?_)
      · replace h := z_pos k1 h
        exact hfin _ _ _ _ _ h hP hD hS dX10_layClasses_51
      replace h := z_neg k1 h
      refine lv_aload_n hx hb dX10_layClasses_12 rfl (lv_at hl 0 rfl) ?_
      refine va_get (D := D) (ci := 10) (v := .ref (kw 8)) (C := RX10) (T := TX10) (N := 15) hx hb hts hi10 hown hK.1 hP 0 rfl rfl 8 (by decide) fl29 (fun _ h9 => h9) rfl dX10_layClasses_13 ?_
      refine lv_iload_n hx hb dX10_layClasses_16 rfl (lv_at hl 1 rfl) ?_
      refine lv_aload_n hx hb dX10_layClasses_17 rfl (lv_at hl 0 rfl) ?_
      refine lv_iload_n hx hb dX10_layClasses_18 rfl (lv_at hl 1 rfl) ?_
      obtain ⟨y2, gy2, h⟩ := zb_some h
      refine z_callr (va_runV (As := [.int x1]) (rest := [.int x1, .ref (kw 8)]) ⟨hx, hb, hml, hown, hts⟩ (c_X10_preference l D tt kw bw bj x1 y2 gy2) (cwV 1 hts gX10_layClasses_X10_preference rfl rfl rfl (by decide +kernel) ⟨Nat.le_of_ble_eq_true rfl, Nat.le_of_ble_eq_true rfl⟩) (z_preVr hK hP (ci := 10) (q0 := 0) rfl rfl) rfl rfl hl.1 rfl (lv_room (Nat.le_of_ble_eq_true rfl)) dX10_layClasses_19 ⟨Nat.zero_le _, Nat.zero_le _⟩) (fun ny2 => ?_)
      refine lv_i2l hx hb dX10_layClasses_22 rfl ?_
      obtain ⟨q3, h⟩ := zA_some h
      refine va_last hx hb hK.1 hP hD hS 8 1 rfl rfl q3 dX10_layClasses_23 (fun H locs hP hD hS => ?_)
      obtain ⟨a4, ea4, h⟩ := zl_some h
      have hP : va_P D vwCl (zw_mo tt kw bw (zu bj 2 a4)) H := by rw [ea4]; exact hP
      have hD : va_D A (zw_mo tt kw bw (zu bj 2 a4)) := by rw [ea4]; exact hD
      clear ea4
      refine lv_aload_n hx hb dX10_layClasses_24 rfl (lv_at hl 0 rfl) ?_
      refine va_get (D := D) (ci := 10) (v := .ref (kw 9)) (C := RX10) (T := TX10) (N := 15) hx hb hts hi10 hown hK.1 hP 0 rfl rfl 9 (by decide) fl32 (fun _ h9 => h9) rfl dX10_layClasses_25 ?_
      refine lv_iload_n hx hb dX10_layClasses_28 rfl (lv_at hl 1 rfl) ?_
      refine lv_aload_n hx hb dX10_layClasses_29 rfl (lv_at hl 0 rfl) ?_
      refine lv_iconst (v := (-1)) hx hb dX10_layClasses_30 (by decide) ?_
      refine lv_iload_n hx hb dX10_layClasses_31 rfl (lv_at hl 1 rfl) ?_
      obtain ⟨y5, gy5, h⟩ := zb_some h
      refine z_callr (va_runV (As := [.int (-1), .int x1]) (rest := [.int x1, .ref (kw 9)]) ⟨hx, hb, hml, hown, hts⟩ (c_X10_sharesOf l D tt kw bw (zu bj 2 a4) (-1) x1 y5 gy5) (cwV 2 hts gX10_layClasses_X10_sharesOf rfl rfl rfl (by decide +kernel) ⟨Nat.le_of_ble_eq_true rfl, Nat.le_of_ble_eq_true rfl⟩) (z_preVr hK hP (ci := 10) (q0 := 0) rfl rfl) rfl rfl hl.1 rfl (lv_room (Nat.le_of_ble_eq_true rfl)) dX10_layClasses_32 ⟨Nat.zero_le _, Nat.zero_le _⟩) (fun ny5 => ?_)
      refine lv_i2l hx hb dX10_layClasses_35 rfl ?_
      refine lv_aload_n hx hb dX10_layClasses_36 rfl (lv_at hl 0 rfl) ?_
      refine lv_iload_n hx hb dX10_layClasses_37 rfl (lv_at hl 1 rfl) ?_
      refine lv_iconst (v := 4) hx hb dX10_layClasses_38 (by decide) ?_
      obtain ⟨y6, gy6, h⟩ := zb_some h
      refine z_callr (va_runV (As := [.int x1, .int 4]) (rest := [.long (Int32.toInt64 y5), .int x1, .ref (kw 9)]) ⟨hx, hb, hml, hown, hts⟩ (c_X10_ofClass l D tt kw bw (zu bj 2 a4) x1 4 y6 gy6) (cwV 2 hts gX10_layClasses_X10_ofClass rfl rfl rfl (by decide +kernel) ⟨Nat.le_of_ble_eq_true rfl, Nat.le_of_ble_eq_true rfl⟩) (z_preVr hK hP (ci := 10) (q0 := 0) rfl rfl) rfl rfl hl.1 rfl (lv_room (Nat.le_of_ble_eq_true rfl)) dX10_layClasses_39 ⟨Nat.zero_le _, Nat.zero_le _⟩) (fun ny6 => ?_)
      refine lv_i2l hx hb dX10_layClasses_42 rfl ?_
      refine lv_lmul hx hb dX10_layClasses_43 ?_
      refine va_last hx hb hK.1 hP hD hS 9 1 rfl rfl q3 dX10_layClasses_44 (fun H locs hP hD hS => ?_)
      obtain ⟨a7, ea7, h⟩ := zl_some h
      have hP : va_P D vwCl (zw_mo tt kw bw (zu (zu bj 2 a4) 3 a7)) H := by rw [ea7]; exact hP
      have hD : va_D A (zw_mo tt kw bw (zu (zu bj 2 a4) 3 a7)) := by rw [ea7]; exact hD
      clear ea7
      refine lv_iinc (v := (x1 + 1)) (lv' := [(1, .int (x1 + 1)), (0, .ref (kw 0))]) hx hb dX10_layClasses_45 hl (k := 1) rfl rfl (by decide) rfl (fun ls hl => ?_)
      refine lv_goto (tgt := 2) hx hb dX10_layClasses_48 (by decide) ?_
      exact ih (zu (zu bj 2 a4) 3 a7) (x1 + 1) _ _ _ hP hD hS (lv_sub hl [1, 0] rfl) h
  have hl := lv_entry ([.ref (kw 0)]) (n := 2) (Nat.le_of_ble_eq_true rfl)
  refine W.eq (g2 := F0 m 0 ((lg_sl ([.ref (kw 0)]) ++ List.replicate (2 - (lg_sl ([.ref (kw 0)])).length) Slot.unset).toArray) []) (by rw [ha]; exact lg_entry_eq _ _ _) ?_
  generalize (lg_sl ([.ref (kw 0)]) ++ List.replicate (2 - (lg_sl ([.ref (kw 0)])).length) Slot.unset).toArray = ls at hl ⊢
  have hl : lv_has ls 2 [(0, .ref (kw 0))] := hl
  rw [f_X10_layClasses] at h
  refine lv_iconst (v := 0) hx hb dX10_layClasses_0 (by decide) ?_
  refine lv_istore_n (lv' := [(1, .int 0), (0, .ref (kw 0))]) hx hb dX10_layClasses_1 rfl hl (by decide) rfl (fun ls hl => ?_)
  exact b2 1000 bj 0 _ _ _ hP hD hS (lv_sub hl [1, 0] rfl) h
set_option maxHeartbeats 4000000 in
set_option maxRecDepth 100000 in
theorem c_X10_has (l : Launch) (D : va_G) (tt : Nat → ClassId)  (x0 : Int32) (x1 : Int32) (out : Int32) (h : f_X10_has x0 x1 = some out) : Met l yX10_has wsX10_has { frames := 0, cells := 0, slots := 0, locals := 0 } (zPr [.int x0, .int x1] D tt ([] : va_W)) (zQr .boolean out) 0 0 (fun _ => False) := by
  refine Met.ofW (cc := cX10_has) (maxL := 2) (ret := (some .boolean)) (by decide) rfl ?_
  intro p e s m args below meth c s₁ B hml hv
  obtain ⟨ha, hP, hK⟩ := hv
  have hx := B.exec
  have hb := B.bytes
  have hr := B.returns
  have hts := atoms_spec (ws := wsX10_has) B.pre
  have hown : s.vm.findClass RX10 = some m.cls := findClass_of_methodNamed B.named
  have hlocks := B.notSynchronized
  have hfin : ∀ (v : Int32) (pc : Nat) (ls : Array Slot), some v = some out → narrow .boolean (.int v) = .int v → decode cX10_has pc = .ok (.ireturn, 1) → W p l e (headSpec wsX10_has { frames := 0, cells := 0, slots := 0, locals := 0 }).room s m args below meth c s.heap [] 0 0 (MQ below (zQr .boolean out) args s 0 0 (fun _ => False)) (F0 m pc ls [.int v]) := by
    intro v pc ls he hn hd
    cases he
    exact W.zret hx hb hr hn (fun t ht hW => ⟨rfl, hn, ht⟩) (fun _ h => by cases h) hd
  generalize MQ below (zQr .boolean out) args s 0 0 (fun _ => False) = Q at hfin ⊢
  have hl := lv_entry ([.int x0, .int x1]) (n := 2) (Nat.le_of_ble_eq_true rfl)
  refine W.eq (g2 := F0 m 0 ((lg_sl ([.int x0, .int x1]) ++ List.replicate (2 - (lg_sl ([.int x0, .int x1])).length) Slot.unset).toArray) []) (by rw [ha]; exact lg_entry_eq _ _ _) ?_
  generalize (lg_sl ([.int x0, .int x1]) ++ List.replicate (2 - (lg_sl ([.int x0, .int x1])).length) Slot.unset).toArray = ls at hl ⊢
  have hl : lv_has ls 2 [(0, .int x0), (1, .int x1)] := hl
  rw [f_X10_has] at h
  refine lv_iload_n hx hb dX10_has_0 rfl (lv_at hl 0 rfl) ?_
  refine lv_iload_n hx hb dX10_has_1 rfl (lv_at hl 1 rfl) ?_
  refine lv_ishr hx hb dX10_has_2 ?_
  refine lv_iconst (v := 1) hx hb dX10_has_3 (by decide) ?_
  refine lv_iand hx hb dX10_has_4 ?_
  refine lv_iconst (v := 1) hx hb dX10_has_5 (by decide) ?_
  refine lv_icmp_ne (tgt := 13) hx hb dX10_has_6 (by decide) (fun k1 => ?_) (fun k1 => ?_)
  · replace h := z_neg k1 h
    refine lv_iconst (v := 0) hx hb dX10_has_13 (by decide) ?_
    exact hfin _ _ _ h rfl dX10_has_14
  replace h := z_pos k1 h
  refine lv_iconst (v := 1) hx hb dX10_has_9 (by decide) ?_
  refine lv_goto (tgt := 14) hx hb dX10_has_10 (by decide) ?_
  exact hfin _ _ _ h rfl dX10_has_14
set_option maxHeartbeats 4000000 in
set_option maxRecDepth 100000 in
theorem c_X10_claimsAt (l : Launch) (D : va_G) (tt : Nat → ClassId) (kw : Nat → Nat) (bw : zV) (bj : zJ) (x1 : Int32) (x2 : Int32) (x3 : Int32) (out : Int32) (h : f_X10_claimsAt bw bj x1 x2 x3 = some out) : Met l yX10_claimsAt wsX10_claimsAt { frames := 1, cells := 0, slots := 0, locals := 22 } (zPr [.ref (kw 0), .int x1, .int x2, .int x3] D tt (zw_mo tt kw bw bj)) (zQr .boolean out) 0 0 (fun _ => False) := by
  refine Met.ofW (cc := cX10_claimsAt) (maxL := 4) (ret := (some .boolean)) (by decide) rfl ?_
  intro p e s m args below meth c s₁ B hml hv
  obtain ⟨ha, hP, hK⟩ := hv
  have hx := B.exec
  have hb := B.bytes
  have hr := B.returns
  have hts := atoms_spec (ws := wsX10_claimsAt) B.pre
  have hown : s.vm.findClass RX10 = some m.cls := findClass_of_methodNamed B.named
  have hlocks := B.notSynchronized
  have hfin : ∀ (v : Int32) (pc : Nat) (ls : Array Slot), some v = some out → narrow .boolean (.int v) = .int v → decode cX10_claimsAt pc = .ok (.ireturn, 1) → W p l e (headSpec wsX10_claimsAt { frames := 1, cells := 0, slots := 0, locals := 22 }).room s m args below meth c s.heap [] 0 0 (MQ below (zQr .boolean out) args s 0 0 (fun _ => False)) (F0 m pc ls [.int v]) := by
    intro v pc ls he hn hd
    cases he
    exact W.zret hx hb hr hn (fun t ht hW => ⟨rfl, hn, ht⟩) (fun _ h => by cases h) hd
  generalize MQ below (zQr .boolean out) args s 0 0 (fun _ => False) = Q at hfin ⊢
  have hl := lv_entry ([.ref (kw 0), .int x1, .int x2, .int x3]) (n := 4) (Nat.le_of_ble_eq_true rfl)
  refine W.eq (g2 := F0 m 0 ((lg_sl ([.ref (kw 0), .int x1, .int x2, .int x3]) ++ List.replicate (4 - (lg_sl ([.ref (kw 0), .int x1, .int x2, .int x3])).length) Slot.unset).toArray) []) (by rw [ha]; exact lg_entry_eq _ _ _) ?_
  generalize (lg_sl ([.ref (kw 0), .int x1, .int x2, .int x3]) ++ List.replicate (4 - (lg_sl ([.ref (kw 0), .int x1, .int x2, .int x3])).length) Slot.unset).toArray = ls at hl ⊢
  have hl : lv_has ls 4 [(0, .ref (kw 0)), (1, .int x1), (2, .int x2), (3, .int x3)] := hl
  rw [f_X10_claimsAt] at h
  refine lv_iload_n hx hb dX10_claimsAt_0 rfl (lv_at hl 1 rfl) ?_
  refine lv_if_le (tgt := 26) hx hb dX10_claimsAt_1 (by decide) (fun k1 => ?_) (fun k1 => ?_)
  · replace h := z_pos k1 h
    refine lv_iconst (v := 0) hx hb dX10_claimsAt_26 (by decide) ?_
    exact hfin _ _ _ h rfl dX10_claimsAt_27
  replace h := z_neg k1 h
  refine lv_iload_n hx hb dX10_claimsAt_4 rfl (lv_at hl 3 rfl) ?_
  refine lv_iload_n hx hb dX10_claimsAt_5 rfl (lv_at hl 1 rfl) ?_
  obtain ⟨y2, gy2, h⟩ := zb_some h
  refine z_callr (va_runS (As := [.int x3, .int x1]) (rest := []) ⟨hx, hb, hml, hown, hts⟩ (c_X10_has l D tt x3 x1 y2 gy2) (va_cwS 2 hts gX10_claimsAt_X10_has rfl rfl rfl (by decide +kernel) ⟨Nat.le_of_ble_eq_true rfl, Nat.le_of_ble_eq_true rfl⟩) (z_preSr hK (hP.sub (ws' := ([] : va_W)) [] rfl)) rfl rfl hl.1 rfl (lv_room (Nat.le_of_ble_eq_true rfl)) dX10_claimsAt_6 ⟨Nat.zero_le _, Nat.zero_le _⟩) (fun ny2 => ?_)
  refine lv_if_ne (tgt := 26) hx hb dX10_claimsAt_9 (by decide) (fun k3 => ?_) (fun k3 => ?_)
  · replace h := z_neg k3 h
    refine lv_iconst (v := 0) hx hb dX10_claimsAt_26 (by decide) ?_
    exact hfin _ _ _ h rfl dX10_claimsAt_27
  replace h := z_pos k3 h
  refine lv_aload_n hx hb dX10_claimsAt_12 rfl (lv_at hl 0 rfl) ?_
  refine lv_iload_n hx hb dX10_claimsAt_13 rfl (lv_at hl 1 rfl) ?_
  refine lv_iconst (v := 2) hx hb dX10_claimsAt_14 (by decide) ?_
  obtain ⟨y4, gy4, h⟩ := zb_some h
  refine z_callr (va_runV (As := [.int x1, .int 2]) (rest := []) ⟨hx, hb, hml, hown, hts⟩ (c_X10_ofClass l D tt kw bw bj x1 2 y4 gy4) (cwV 2 hts gX10_claimsAt_X10_ofClass rfl rfl rfl (by decide +kernel) ⟨Nat.le_of_ble_eq_true rfl, Nat.le_of_ble_eq_true rfl⟩) (z_preVr hK hP (ci := 10) (q0 := 0) rfl rfl) rfl rfl hl.1 rfl (lv_room (Nat.le_of_ble_eq_true rfl)) dX10_claimsAt_15 ⟨Nat.zero_le _, Nat.zero_le _⟩) (fun ny4 => ?_)
  refine lv_iload_n hx hb dX10_claimsAt_18 rfl (lv_at hl 2 rfl) ?_
  refine lv_icmp_ne (tgt := 26) hx hb dX10_claimsAt_19 (by decide) (fun k5 => ?_) (fun k5 => ?_)
  · replace h := z_neg k5 h
    refine lv_iconst (v := 0) hx hb dX10_claimsAt_26 (by decide) ?_
    exact hfin _ _ _ h rfl dX10_claimsAt_27
  replace h := z_pos k5 h
  refine lv_iconst (v := 1) hx hb dX10_claimsAt_22 (by decide) ?_
  refine lv_goto (tgt := 27) hx hb dX10_claimsAt_23 (by decide) ?_
  exact hfin _ _ _ h rfl dX10_claimsAt_27
set_option maxHeartbeats 4000000 in
set_option maxRecDepth 100000 in
theorem c_X10_paysClaims (l : Launch) (D : va_G) (tt : Nat → ClassId) (kw : Nat → Nat) (sz : Nat) (bw : zV) (bj : zJ) (x1 : Int64) (x3 : Int32) (out : Int64 × zJ) (h : f_X10_paysClaims bw bj x1 x3 = some out) : Met l yX10_paysClaims wsX10_paysClaims { frames := 2, cells := 0, slots := 0, locals := 45 } (zPm [.ref (kw 0), .long x1, .int x3] D tt (zw_mo tt kw bw bj) sz) (zMl out.1 D (zw_mo tt kw bw out.2) (va_A (zw_mo tt kw bw bj) sz)) 0 0 (va_A (zw_mo tt kw bw bj) sz) := by
  refine Met.ofW (cc := cX10_paysClaims) (maxL := 10) (ret := (some .long)) (by decide) rfl ?_
  intro p e s m args below meth c s₁ B hml hv
  obtain ⟨ha, hsz, hP, hK, hD0⟩ := hv
  have hx := B.exec
  have hb := B.bytes
  have hr := B.returns
  have hts := atoms_spec (ws := wsX10_paysClaims) B.pre
  have hown : s.vm.findClass RX10 = some m.cls := findClass_of_methodNamed B.named
  have hlocks := B.notSynchronized
  have hi10 : ∀ w ∈ u_ws RX10 TX10 15, w ∈ wsX10_paysClaims := fun _ h => List.mem_cons_of_mem _ (List.mem_append_right _ h)
  have fl22 := hts (.fieldLink RX10 22 "CapStacksModel" "gets" "[J") (by decide +kernel)
  have fl29 := hts (.fieldLink RX10 29 "CapStacksModel" "claims" "[J") (by decide +kernel)
  have fl7 := hts (.fieldLink RX10 7 "CapStacksModel" "s" "[I") (by decide +kernel)
  have lc165 := hts (.constantLong RX10 165 (-1 : Int64)) (by decide +kernel)
  subst hsz
  have hD := hD0.self (sz := s.heap.size)
  generalize hAe : va_A (zw_mo tt kw bw bj) s.heap.size = A at hD ⊢
  have hA : ∀ q : Nat, s.heap.size ≤ q → A q := fun q h => by rw [← hAe]; exact Or.inr h
  have hS : va_S A s.heap s.heap [] := va_S.rf
  have hfin : ∀ (v : Int64) (bj : zJ) (pc : Nat) (ls : Array Slot) (H : Heap) (locs : List Loc), some (v, bj) = some out → va_P D vwCl (zw_mo tt kw bw bj) H → va_D A (zw_mo tt kw bw bj) → va_S A s.heap H locs → decode cX10_paysClaims pc = .ok (.lreturn, 1) → W p l e (headSpec wsX10_paysClaims { frames := 2, cells := 0, slots := 0, locals := 45 }).room s m args below meth c H locs 0 0 (MQ below (zMl out.1 D (zw_mo tt kw bw out.2) A) args s 0 0 A) (F0 m pc ls [.long v]) := by
    intro v bj pc ls H locs he hP hD hS hd
    cases he
    exact W.lret hx hb hr (fun t ht hW => ⟨⟨_, (), rfl, rfl, by rw [ht]; exact hP, hD⟩, hS.F ht⟩) hS.2.2 hd
  generalize MQ below (zMl out.1 D (zw_mo tt kw bw out.2) A) args s 0 0 A = Q at hfin ⊢
  have go : ∀ n : Nat, (∀ (bj : zJ) (x3 : Int32) (x4 : Int64) (x6 : Int32) (x7 : Int64) (x9 : Int32) (H : Heap) (locs : List Loc) (ls : Array Slot), va_P D vwCl (zw_mo tt kw bw bj) H → va_D A (zw_mo tt kw bw bj) → va_S A s.heap H locs → lv_has ls 10 [(0, .ref (kw 0)), (3, .int x3), (4, .long x4), (6, .int x6)] → f_X10_paysClaims_go bw n 0 bj x3 x4 x6 x7 x9 = some out → W p l e (headSpec wsX10_paysClaims { frames := 2, cells := 0, slots := 0, locals := 45 }).room s m args below meth c H locs 0 0 Q (F0 m 7 ls [])) ∧ (∀ (bj : zJ) (x3 : Int32) (x4 : Int64) (x6 : Int32) (x7 : Int64) (x9 : Int32) (H : Heap) (locs : List Loc) (ls : Array Slot), va_P D vwCl (zw_mo tt kw bw bj) H → va_D A (zw_mo tt kw bw bj) → va_S A s.heap H locs → lv_has ls 10 [(0, .ref (kw 0)), (3, .int x3), (4, .long x4), (6, .int x6), (7, .long x7), (9, .int x9)] → f_X10_paysClaims_go bw n 1 bj x3 x4 x6 x7 x9 = some out → W p l e (headSpec wsX10_paysClaims { frames := 2, cells := 0, slots := 0, locals := 45 }).room s m args below meth c H locs 0 0 Q (F0 m 18 ls [])) ∧ (∀ (bj : zJ) (x3 : Int32) (x4 : Int64) (x6 : Int32) (x7 : Int64) (x9 : Int32) (H : Heap) (locs : List Loc) (ls : Array Slot), va_P D vwCl (zw_mo tt kw bw bj) H → va_D A (zw_mo tt kw bw bj) → va_S A s.heap H locs → lv_has ls 10 [(0, .ref (kw 0)), (3, .int x3), (4, .long x4), (6, .int x6), (7, .long x7), (9, .int x9)] → f_X10_paysClaims_go bw n 2 bj x3 x4 x6 x7 x9 = some out → W p l e (headSpec wsX10_paysClaims { frames := 2, cells := 0, slots := 0, locals := 45 }).room s m args below meth c H locs 0 0 Q (F0 m 66 ls [])) ∧ (∀ (bj : zJ) (x3 : Int32) (x4 : Int64) (x6 : Int32) (x7 : Int64) (x9 : Int32) (H : Heap) (locs : List Loc) (ls : Array Slot), va_P D vwCl (zw_mo tt kw bw bj) H → va_D A (zw_mo tt kw bw bj) → va_S A s.heap H locs → lv_has ls 10 [(0, .ref (kw 0)), (3, .int x3), (4, .long x4), (6, .int x6), (7, .long x7)] → f_X10_paysClaims_go bw n 3 bj x3 x4 x6 x7 x9 = some out → W p l e (headSpec wsX10_paysClaims { frames := 2, cells := 0, slots := 0, locals := 45 }).room s m args below meth c H locs 0 0 Q (F0 m 140 ls [])) := by
    intro n
    induction n with
    | zero =>
      refine ⟨?_, ?_, ?_, ?_⟩
      · intro bj x3 x4 x6 x7 x9 H locs ls hP hD hS hl h
        cases h
      · intro bj x3 x4 x6 x7 x9 H locs ls hP hD hS hl h
        cases h
      · intro bj x3 x4 x6 x7 x9 H locs ls hP hD hS hl h
        cases h
      · intro bj x3 x4 x6 x7 x9 H locs ls hP hD hS hl h
        cases h
    | succ n ih =>
      refine ⟨?_, ?_, ?_, ?_⟩
      · intro bj x3 x4 x6 x7 x9 H locs ls hP hD hS hl h
        rw [f_X10_paysClaims_go] at h
        refine lv_iload hx hb dX10_paysClaims_7 (lv_at hl 3 rfl) ?_
        refine lv_if_lt (tgt := 165) hx hb dX10_paysClaims_9 (by decide) (fun k16 => ?_) (fun k16 => ?_)
        · replace h := z_pos k16 h
          refine lv_lload hx hb dX10_paysClaims_165 (lv_at hl 2 rfl) ?_
          exact hfin _ _ _ _ _ _ h hP hD hS dX10_paysClaims_167
        replace h := z_neg k16 h
        refine lv_lconst (v := 0) hx hb dX10_paysClaims_12 (by decide) ?_
        refine lv_lstore (lv' := [(7, .long (0 : Int64)), (0, .ref (kw 0)), (3, .int x3), (4, .long x4), (6, .int x6)]) hx hb dX10_paysClaims_13 hl (by decide) rfl (fun ls hl => ?_)
        refine lv_iconst (v := 1) hx hb dX10_paysClaims_15 (by decide) ?_
        refine lv_istore (lv' := [(9, .int 1), (7, .long (0 : Int64)), (0, .ref (kw 0)), (3, .int x3), (4, .long x4), (6, .int x6)]) hx hb dX10_paysClaims_16 hl (by decide) rfl (fun ls hl => ?_)
        exact (ih).2.1 bj x3 x4 x6 (0 : Int64) 1 _ _ _ hP hD hS (lv_sub hl [2, 3, 4, 5, 1, 0] rfl) h
      · intro bj x3 x4 x6 x7 x9 H locs ls hP hD hS hl h
        rw [f_X10_paysClaims_go] at h
        refine lv_iload hx hb dX10_paysClaims_18 (lv_at hl 5 rfl) ?_
        refine lv_aload_n hx hb dX10_paysClaims_20 rfl (lv_at hl 0 rfl) ?_
        refine va_get (D := D) (ci := 10) (v := .ref (kw 1)) (C := RX10) (T := TX10) (N := 15) hx hb hts hi10 hown hK.1 hP 0 rfl rfl 0 (by decide) fl7 (fun _ h9 => h9) rfl dX10_paysClaims_21 ?_
        refine lv_iconst (v := 0) hx hb dX10_paysClaims_24 (by decide) ?_
        refine va_iald hx hb hK.1 hP 1 0 rfl rfl (vp_in_lit 0 213 rfl) dX10_paysClaims_25 ?_
        refine lv_icmp_ge (tgt := 63) hx hb dX10_paysClaims_26 (by decide) (fun k12 => ?_) (fun k12 => ?_)
        · replace h := z_pos k12 h
          refine lv_iconst (v := 1) hx hb dX10_paysClaims_63 (by decide) ?_
          refine lv_istore (lv' := [(9, .int 1), (0, .ref (kw 0)), (3, .int x3), (4, .long x4), (6, .int x6), (7, .long x7)]) hx hb dX10_paysClaims_64 hl (by decide) rfl (fun ls hl => ?_)
          exact (ih).2.2.1 bj x3 x4 x6 x7 1 _ _ _ hP hD hS (lv_sub hl [1, 2, 3, 4, 5, 0] rfl) h
        replace h := z_neg k12 h
        refine lv_lload hx hb dX10_paysClaims_29 (lv_at hl 4 rfl) ?_
        refine lv_aload_n hx hb dX10_paysClaims_31 rfl (lv_at hl 0 rfl) ?_
        refine lv_iload hx hb dX10_paysClaims_32 (lv_at hl 5 rfl) ?_
        refine lv_iload hx hb dX10_paysClaims_34 (lv_at hl 3 rfl) ?_
        refine lv_iload_n hx hb dX10_paysClaims_36 rfl (lv_at hl 1 rfl) ?_
        obtain ⟨y13, gy13, h⟩ := zb_some h
        refine z_callr (va_runV (As := [.int x9, .int x6, .int x3]) (rest := [.long x7]) ⟨hx, hb, hml, hown, hts⟩ (c_X10_claimsAt l D tt kw bw bj x9 x6 x3 y13 gy13) (cwV 3 hts gX10_paysClaims_X10_claimsAt rfl rfl rfl (by decide +kernel) ⟨Nat.le_of_ble_eq_true rfl, Nat.le_of_ble_eq_true rfl⟩) (z_preVr hK hP (ci := 10) (q0 := 0) rfl rfl) rfl rfl hl.1 rfl (lv_room (Nat.le_of_ble_eq_true rfl)) dX10_paysClaims_37 ⟨Nat.zero_le _, Nat.zero_le _⟩) (fun ny13 => ?_)
        refine lv_if_eq (tgt := 53) hx hb dX10_paysClaims_40 (by decide) (fun k14 => ?_) (fun k14 => ?_)
        · replace h := z_pos k14 h
          refine lv_lconst (v := 0) hx hb dX10_paysClaims_53 (by decide) ?_
          refine lv_ladd hx hb dX10_paysClaims_54 ?_
          refine lv_lstore (lv' := [(7, .long (x7 + (0 : Int64))), (0, .ref (kw 0)), (3, .int x3), (4, .long x4), (6, .int x6), (9, .int x9)]) hx hb dX10_paysClaims_55 hl (by decide) rfl (fun ls hl => ?_)
          refine lv_iinc (v := (x9 + 1)) (lv' := [(9, .int (x9 + 1)), (7, .long (x7 + (0 : Int64))), (0, .ref (kw 0)), (3, .int x3), (4, .long x4), (6, .int x6)]) hx hb dX10_paysClaims_57 hl (k := 5) rfl rfl (by decide) rfl (fun ls hl => ?_)
          refine lv_goto (tgt := 18) hx hb dX10_paysClaims_60 (by decide) ?_
          exact (ih).2.1 bj x3 x4 x6 (x7 + (0 : Int64)) (x9 + 1) _ _ _ hP hD hS (lv_sub hl [2, 3, 4, 5, 1, 0] rfl) h
        replace h := z_neg k14 h
        refine lv_aload_n hx hb dX10_paysClaims_43 rfl (lv_at hl 0 rfl) ?_
        refine va_get (D := D) (ci := 10) (v := .ref (kw 8)) (C := RX10) (T := TX10) (N := 15) hx hb hts hi10 hown hK.1 hP 0 rfl rfl 8 (by decide) fl29 (fun _ h9 => h9) rfl dX10_paysClaims_44 ?_
        refine lv_iload hx hb dX10_paysClaims_47 (lv_at hl 5 rfl) ?_
        obtain ⟨q15, h⟩ := zA_some h
        refine va_lald hx hb hK.1 hP 8 1 rfl rfl q15 dX10_paysClaims_49 ?_
        refine lv_goto (tgt := 54) hx hb dX10_paysClaims_50 (by decide) ?_
        refine lv_ladd hx hb dX10_paysClaims_54 ?_
        refine lv_lstore (lv' := [(7, .long (x7 + ((bj 2) x9.toNatClampNeg))), (0, .ref (kw 0)), (3, .int x3), (4, .long x4), (6, .int x6), (9, .int x9)]) hx hb dX10_paysClaims_55 hl (by decide) rfl (fun ls hl => ?_)
        refine lv_iinc (v := (x9 + 1)) (lv' := [(9, .int (x9 + 1)), (7, .long (x7 + ((bj 2) x9.toNatClampNeg))), (0, .ref (kw 0)), (3, .int x3), (4, .long x4), (6, .int x6)]) hx hb dX10_paysClaims_57 hl (k := 5) rfl rfl (by decide) rfl (fun ls hl => ?_)
        refine lv_goto (tgt := 18) hx hb dX10_paysClaims_60 (by decide) ?_
        exact (ih).2.1 bj x3 x4 x6 (x7 + ((bj 2) x9.toNatClampNeg)) (x9 + 1) _ _ _ hP hD hS (lv_sub hl [2, 3, 4, 5, 1, 0] rfl) h
      · intro bj x3 x4 x6 x7 x9 H locs ls hP hD hS hl h
        rw [f_X10_paysClaims_go] at h
        refine lv_iload hx hb dX10_paysClaims_66 (lv_at hl 5 rfl) ?_
        refine lv_aload_n hx hb dX10_paysClaims_68 rfl (lv_at hl 0 rfl) ?_
        refine va_get (D := D) (ci := 10) (v := .ref (kw 1)) (C := RX10) (T := TX10) (N := 15) hx hb hts hi10 hown hK.1 hP 0 rfl rfl 0 (by decide) fl7 (fun _ h9 => h9) rfl dX10_paysClaims_69 ?_
        refine lv_iconst (v := 0) hx hb dX10_paysClaims_72 (by decide) ?_
        refine va_iald hx hb hK.1 hP 1 0 rfl rfl (vp_in_lit 0 213 rfl) dX10_paysClaims_73 ?_
        refine lv_icmp_ge (tgt := 140) hx hb dX10_paysClaims_74 (by decide) (fun k2 => ?_) (fun k2 => ?_)
        · replace h := z_pos k2 h
          exact (ih).2.2.2 bj x3 x4 x6 x7 0 _ _ _ hP hD hS (lv_sub hl [0, 1, 2, 3, 4] rfl) h
        replace h := z_neg k2 h
        refine lv_lload hx hb dX10_paysClaims_77 (lv_at hl 4 rfl) ?_
        refine lv_lconst (v := 0) hx hb dX10_paysClaims_79 (by decide) ?_
        refine W.lcmp hx hb dX10_paysClaims_80 ?_
        refine lv_if_le (tgt := 140) hx hb dX10_paysClaims_81 (by decide) (fun k3 => ?_) (fun k3 => ?_)
        · replace h := z_pos k3 h
          exact (ih).2.2.2 bj x3 x4 x6 x7 0 _ _ _ hP hD hS (lv_sub hl [0, 1, 2, 3, 4] rfl) h
        replace h := z_neg k3 h
        refine lv_aload_n hx hb dX10_paysClaims_84 rfl (lv_at hl 0 rfl) ?_
        refine lv_iload hx hb dX10_paysClaims_85 (lv_at hl 5 rfl) ?_
        refine lv_iload hx hb dX10_paysClaims_87 (lv_at hl 3 rfl) ?_
        refine lv_iload_n hx hb dX10_paysClaims_89 rfl (lv_at hl 1 rfl) ?_
        obtain ⟨y4, gy4, h⟩ := zb_some h
        refine z_callr (va_runV (As := [.int x9, .int x6, .int x3]) (rest := []) ⟨hx, hb, hml, hown, hts⟩ (c_X10_claimsAt l D tt kw bw bj x9 x6 x3 y4 gy4) (cwV 3 hts gX10_paysClaims_X10_claimsAt rfl rfl rfl (by decide +kernel) ⟨Nat.le_of_ble_eq_true rfl, Nat.le_of_ble_eq_true rfl⟩) (z_preVr hK hP (ci := 10) (q0 := 0) rfl rfl) rfl rfl hl.1 rfl (lv_room (Nat.le_of_ble_eq_true rfl)) dX10_paysClaims_90 ⟨Nat.zero_le _, Nat.zero_le _⟩) (fun ny4 => ?_)
        refine lv_if_eq (tgt := 134) hx hb dX10_paysClaims_93 (by decide) (fun k5 => ?_) (fun k5 => ?_)
        · replace h := z_pos k5 h
          refine lv_iinc (v := (x9 + 1)) (lv' := [(9, .int (x9 + 1)), (0, .ref (kw 0)), (3, .int x3), (4, .long x4), (6, .int x6), (7, .long x7)]) hx hb dX10_paysClaims_134 hl (k := 5) rfl rfl (by decide) rfl (fun ls hl => ?_)
          refine lv_goto (tgt := 66) hx hb dX10_paysClaims_137 (by decide) ?_
          exact (ih).2.2.1 bj x3 x4 x6 x7 (x9 + 1) _ _ _ hP hD hS (lv_sub hl [1, 2, 3, 4, 5, 0] rfl) h
        replace h := z_neg k5 h
        refine lv_aload_n hx hb dX10_paysClaims_96 rfl (lv_at hl 0 rfl) ?_
        refine va_get (D := D) (ci := 10) (v := .ref (kw 6)) (C := RX10) (T := TX10) (N := 15) hx hb hts hi10 hown hK.1 hP 0 rfl rfl 6 (by decide) fl22 (fun _ h9 => h9) rfl dX10_paysClaims_97 ?_
        refine lv_iload hx hb dX10_paysClaims_100 (lv_at hl 5 rfl) ?_
        refine lv_lload hx hb dX10_paysClaims_102 (lv_at hl 2 rfl) ?_
        refine lv_lload hx hb dX10_paysClaims_104 (lv_at hl 4 rfl) ?_
        refine W.lcmp hx hb dX10_paysClaims_106 ?_
        refine lv_if_lt (tgt := 120) hx hb dX10_paysClaims_107 (by decide) (fun k6 => ?_) (fun k6 => ?_)
        rotate_left
        · replace h := z_neg k6 h
          refine lv_aload_n hx hb dX10_paysClaims_110 rfl (lv_at hl 0 rfl) ?_
          refine va_get (D := D) (ci := 10) (v := .ref (kw 8)) (C := RX10) (T := TX10) (N := 15) hx hb hts hi10 hown hK.1 hP 0 rfl rfl 8 (by decide) fl29 (fun _ h9 => h9) rfl dX10_paysClaims_111 ?_
          refine lv_iload hx hb dX10_paysClaims_114 (lv_at hl 5 rfl) ?_
          obtain ⟨q10, h⟩ := zA_some h
          refine va_lald hx hb hK.1 hP 8 1 rfl rfl q10 dX10_paysClaims_116 ?_
          refine lv_goto (tgt := 133) hx hb dX10_paysClaims_117 (by decide) ?_
          refine va_last hx hb hK.1 hP hD hS 6 1 rfl rfl q10 dX10_paysClaims_133 (fun H locs hP hD hS => ?_)
          obtain ⟨a11, ea11, h⟩ := zl_some h
          have hP : va_P D vwCl (zw_mo tt kw bw (zu bj 0 a11)) H := by rw [ea11]; exact hP
          have hD : va_D A (zw_mo tt kw bw (zu bj 0 a11)) := by rw [ea11]; exact hD
          clear ea11
          refine lv_iinc (v := (x9 + 1)) (lv' := [(9, .int (x9 + 1)), (0, .ref (kw 0)), (3, .int x3), (4, .long x4), (6, .int x6), (7, .long x7)]) hx hb dX10_paysClaims_134 hl (k := 5) rfl rfl (by decide) rfl (fun ls hl => ?_)
          refine lv_goto (tgt := 66) hx hb dX10_paysClaims_137 (by decide) ?_
          exact (ih).2.2.1 (zu bj 0 a11) x3 x4 x6 x7 (x9 + 1) _ _ _ hP hD hS (lv_sub hl [1, 2, 3, 4, 5, 0] rfl) h
        replace h := z_pos k6 h
        refine lv_lload hx hb dX10_paysClaims_120 (lv_at hl 2 rfl) ?_
        refine lv_aload_n hx hb dX10_paysClaims_122 rfl (lv_at hl 0 rfl) ?_
        refine va_get (D := D) (ci := 10) (v := .ref (kw 8)) (C := RX10) (T := TX10) (N := 15) hx hb hts hi10 hown hK.1 hP 0 rfl rfl 8 (by decide) fl29 (fun _ h9 => h9) rfl dX10_paysClaims_123 ?_
        refine lv_iload hx hb dX10_paysClaims_126 (lv_at hl 5 rfl) ?_
        obtain ⟨q7, h⟩ := zA_some h
        refine va_lald hx hb hK.1 hP 8 1 rfl rfl q7 dX10_paysClaims_128 ?_
        refine lv_lmul hx hb dX10_paysClaims_129 ?_
        refine lv_lload hx hb dX10_paysClaims_130 (lv_at hl 4 rfl) ?_
        obtain ⟨q8, h⟩ := zDl_some h
        refine lv_ldiv hx hb dX10_paysClaims_132 q8 ?_
        refine va_last hx hb hK.1 hP hD hS 6 1 rfl rfl q7 dX10_paysClaims_133 (fun H locs hP hD hS => ?_)
        obtain ⟨a9, ea9, h⟩ := zl_some h
        have hP : va_P D vwCl (zw_mo tt kw bw (zu bj 0 a9)) H := by rw [ea9]; exact hP
        have hD : va_D A (zw_mo tt kw bw (zu bj 0 a9)) := by rw [ea9]; exact hD
        clear ea9
        refine lv_iinc (v := (x9 + 1)) (lv' := [(9, .int (x9 + 1)), (0, .ref (kw 0)), (3, .int x3), (4, .long x4), (6, .int x6), (7, .long x7)]) hx hb dX10_paysClaims_134 hl (k := 5) rfl rfl (by decide) rfl (fun ls hl => ?_)
        refine lv_goto (tgt := 66) hx hb dX10_paysClaims_137 (by decide) ?_
        exact (ih).2.2.1 (zu bj 0 a9) x3 x4 x6 x7 (x9 + 1) _ _ _ hP hD hS (lv_sub hl [1, 2, 3, 4, 5, 0] rfl) h
      · intro bj x3 x4 x6 x7 x9 H locs ls hP hD hS hl h
        rw [f_X10_paysClaims_go] at h
        refine lv_lload hx hb dX10_paysClaims_140 (lv_at hl 2 rfl) ?_
        refine lv_lload hx hb dX10_paysClaims_142 (lv_at hl 4 rfl) ?_
        refine W.lcmp hx hb dX10_paysClaims_144 ?_
        refine lv_if_ge (tgt := 152) hx hb dX10_paysClaims_145 (by decide) (fun k1 => ?_) (fun k1 => ?_)
        rotate_left
        · replace h := z_neg k1 h
          refine lv_ldc2 hx hb hown lc165 dX10_paysClaims_148 ?_
          exact hfin _ _ _ _ _ _ h hP hD hS dX10_paysClaims_151
        replace h := z_pos k1 h
        refine lv_lload hx hb dX10_paysClaims_152 (lv_at hl 2 rfl) ?_
        refine lv_lload hx hb dX10_paysClaims_154 (lv_at hl 4 rfl) ?_
        refine lv_lsub hx hb dX10_paysClaims_156 ?_
        refine lv_lstore (lv' := [(4, .long (x4 - x7)), (0, .ref (kw 0)), (3, .int x3), (6, .int x6), (7, .long x7)]) hx hb dX10_paysClaims_157 hl (by decide) rfl (fun ls hl => ?_)
        refine lv_iinc (v := (x6 + (-1))) (lv' := [(6, .int (x6 + (-1))), (4, .long (x4 - x7)), (0, .ref (kw 0)), (3, .int x3), (7, .long x7)]) hx hb dX10_paysClaims_159 hl (k := 3) rfl rfl (by decide) rfl (fun ls hl => ?_)
        refine lv_goto (tgt := 7) hx hb dX10_paysClaims_162 (by decide) ?_
        exact (ih).1 bj x3 (x4 - x7) (x6 + (-1)) 0 0 _ _ _ hP hD hS (lv_sub hl [2, 3, 1, 0] rfl) h
  have hl := lv_entry ([.ref (kw 0), .long x1, .int x3]) (n := 10) (Nat.le_of_ble_eq_true rfl)
  refine W.eq (g2 := F0 m 0 ((lg_sl ([.ref (kw 0), .long x1, .int x3]) ++ List.replicate (10 - (lg_sl ([.ref (kw 0), .long x1, .int x3])).length) Slot.unset).toArray) []) (by rw [ha]; exact lg_entry_eq _ _ _) ?_
  generalize (lg_sl ([.ref (kw 0), .long x1, .int x3]) ++ List.replicate (10 - (lg_sl ([.ref (kw 0), .long x1, .int x3])).length) Slot.unset).toArray = ls at hl ⊢
  have hl : lv_has ls 10 [(0, .ref (kw 0)), (1, .long x1), (3, .int x3)] := hl
  rw [f_X10_paysClaims] at h
  refine lv_lload_n hx hb dX10_paysClaims_0 rfl (lv_at hl 1 rfl) ?_
  refine lv_lstore (lv' := [(4, .long x1), (0, .ref (kw 0)), (1, .long x1), (3, .int x3)]) hx hb dX10_paysClaims_1 hl (by decide) rfl (fun ls hl => ?_)
  refine lv_bipush (v := 9) hx hb dX10_paysClaims_3 (by decide) ?_
  refine lv_istore (lv' := [(6, .int 9), (4, .long x1), (0, .ref (kw 0)), (1, .long x1), (3, .int x3)]) hx hb dX10_paysClaims_5 hl (by decide) rfl (fun ls hl => ?_)
  exact (go 1000).1 bj x3 x1 9 0 0 _ _ _ hP hD hS (lv_sub hl [2, 4, 1, 0] rfl) h
set_option maxHeartbeats 4000000 in
set_option maxRecDepth 100000 in
theorem c_X10_shares (l : Launch) (D : va_G) (tt : Nat → ClassId) (kw : Nat → Nat) (sz : Nat) (bw : zV) (bj : zJ) (x1 : Int64) (x3 : Int32) (x4 : Int32) (out : Int32 × zJ) (h : f_X10_shares bw bj x1 x3 x4 = some out) : Met l yX10_shares wsX10_shares { frames := 1, cells := 0, slots := 0, locals := 22 } (zPm [.ref (kw 0), .long x1, .int x3, .int x4] D tt (zw_mo tt kw bw bj) sz) (zMi .int out.1 D (zw_mo tt kw bw out.2) (va_A (zw_mo tt kw bw bj) sz)) 0 0 (va_A (zw_mo tt kw bw bj) sz) := by
  refine Met.ofW (cc := cX10_shares) (maxL := 10) (ret := (some .int)) (by decide) rfl ?_
  intro p e s m args below meth c s₁ B hml hv
  obtain ⟨ha, hsz, hP, hK, hD0⟩ := hv
  have hx := B.exec
  have hb := B.bytes
  have hr := B.returns
  have hts := atoms_spec (ws := wsX10_shares) B.pre
  have hown : s.vm.findClass RX10 = some m.cls := findClass_of_methodNamed B.named
  have hlocks := B.notSynchronized
  have hi10 : ∀ w ∈ u_ws RX10 TX10 15, w ∈ wsX10_shares := fun _ h => List.mem_cons_of_mem _ (List.mem_append_right _ h)
  have fl26 := hts (.fieldLink RX10 26 "CapStacksModel" "shared" "[J") (by decide +kernel)
  have fl29 := hts (.fieldLink RX10 29 "CapStacksModel" "claims" "[J") (by decide +kernel)
  have fl32 := hts (.fieldLink RX10 32 "CapStacksModel" "commons" "[J") (by decide +kernel)
  have fl7 := hts (.fieldLink RX10 7 "CapStacksModel" "s" "[I") (by decide +kernel)
  subst hsz
  have hD := hD0.self (sz := s.heap.size)
  generalize hAe : va_A (zw_mo tt kw bw bj) s.heap.size = A at hD ⊢
  have hA : ∀ q : Nat, s.heap.size ≤ q → A q := fun q h => by rw [← hAe]; exact Or.inr h
  have hS : va_S A s.heap s.heap [] := va_S.rf
  have hfin : ∀ (v : Int32) (bj : zJ) (pc : Nat) (ls : Array Slot) (H : Heap) (locs : List Loc), some (v, bj) = some out → narrow .int (.int v) = .int v → va_P D vwCl (zw_mo tt kw bw bj) H → va_D A (zw_mo tt kw bw bj) → va_S A s.heap H locs → decode cX10_shares pc = .ok (.ireturn, 1) → W p l e (headSpec wsX10_shares { frames := 1, cells := 0, slots := 0, locals := 22 }).room s m args below meth c H locs 0 0 (MQ below (zMi .int out.1 D (zw_mo tt kw bw out.2) A) args s 0 0 A) (F0 m pc ls [.int v]) := by
    intro v bj pc ls H locs he hn hP hD hS hd
    cases he
    exact W.zret hx hb hr hn (fun t ht hW => ⟨⟨_, (), rfl, ⟨rfl, hn⟩, by rw [ht]; exact hP, hD⟩, hS.F ht⟩) hS.2.2 hd
  generalize MQ below (zMi .int out.1 D (zw_mo tt kw bw out.2) A) args s 0 0 A = Q at hfin ⊢
  have go : ∀ n : Nat, (∀ (bj : zJ) (x1 : Int64) (x3 : Int32) (x4 : Int32) (x5 : Int64) (x7 : Int32) (x8 : Int32) (H : Heap) (locs : List Loc) (ls : Array Slot), va_P D vwCl (zw_mo tt kw bw bj) H → va_D A (zw_mo tt kw bw bj) → va_S A s.heap H locs → lv_has ls 10 [(0, .ref (kw 0)), (1, .long x1), (3, .int x3), (4, .int x4), (5, .long x5), (7, .int x7)] → f_X10_shares_go bw n 0 bj x1 x3 x4 x5 x7 x8 = some out → W p l e (headSpec wsX10_shares { frames := 1, cells := 0, slots := 0, locals := 22 }).room s m args below meth c H locs 0 0 Q (F0 m 6 ls [])) ∧ (∀ (bj : zJ) (x1 : Int64) (x3 : Int32) (x4 : Int32) (x5 : Int64) (x7 : Int32) (x8 : Int32) (H : Heap) (locs : List Loc) (ls : Array Slot), va_P D vwCl (zw_mo tt kw bw bj) H → va_D A (zw_mo tt kw bw bj) → va_S A s.heap H locs → lv_has ls 10 [(0, .ref (kw 0)), (1, .long x1), (3, .int x3), (4, .int x4), (5, .long x5), (7, .int x7), (8, .int x8)] → f_X10_shares_go bw n 1 bj x1 x3 x4 x5 x7 x8 = some out → W p l e (headSpec wsX10_shares { frames := 1, cells := 0, slots := 0, locals := 22 }).room s m args below meth c H locs 0 0 Q (F0 m 61 ls [])) ∧ (∀ (bj : zJ) (x1 : Int64) (x3 : Int32) (x4 : Int32) (x5 : Int64) (x7 : Int32) (x8 : Int32) (H : Heap) (locs : List Loc) (ls : Array Slot), va_P D vwCl (zw_mo tt kw bw bj) H → va_D A (zw_mo tt kw bw bj) → va_S A s.heap H locs → lv_has ls 10 [(0, .ref (kw 0)), (1, .long x1), (3, .int x3), (4, .int x4), (5, .long x5), (7, .int x7), (8, .int x8)] → f_X10_shares_go bw n 2 bj x1 x3 x4 x5 x7 x8 = some out → W p l e (headSpec wsX10_shares { frames := 1, cells := 0, slots := 0, locals := 22 }).room s m args below meth c H locs 0 0 Q (F0 m 153 ls [])) := by
    intro n
    induction n with
    | zero =>
      refine ⟨?_, ?_, ?_⟩
      · intro bj x1 x3 x4 x5 x7 x8 H locs ls hP hD hS hl h
        cases h
      · intro bj x1 x3 x4 x5 x7 x8 H locs ls hP hD hS hl h
        cases h
      · intro bj x1 x3 x4 x5 x7 x8 H locs ls hP hD hS hl h
        cases h
    | succ n ih =>
      refine ⟨?_, ?_, ?_⟩
      · intro bj x1 x3 x4 x5 x7 x8 H locs ls hP hD hS hl h
        rw [f_X10_shares_go] at h
        refine lv_iload hx hb dX10_shares_6 (lv_at hl 5 rfl) ?_
        refine lv_aload_n hx hb dX10_shares_8 rfl (lv_at hl 0 rfl) ?_
        refine va_get (D := D) (ci := 10) (v := .ref (kw 1)) (C := RX10) (T := TX10) (N := 15) hx hb hts hi10 hown hK.1 hP 0 rfl rfl 0 (by decide) fl7 (fun _ h9 => h9) rfl dX10_shares_9 ?_
        refine lv_iconst (v := 0) hx hb dX10_shares_12 (by decide) ?_
        refine va_iald hx hb hK.1 hP 1 0 rfl rfl (vp_in_lit 0 213 rfl) dX10_shares_13 ?_
        refine lv_icmp_ge (tgt := 48) hx hb dX10_shares_14 (by decide) (fun k34 => ?_) (fun k34 => ?_)
        · replace h := z_pos k34 h
          refine lv_iconst (v := (-1)) hx hb dX10_shares_48 (by decide) ?_
          refine lv_istore (lv' := [(7, .int (-1)), (0, .ref (kw 0)), (1, .long x1), (3, .int x3), (4, .int x4), (5, .long x5)]) hx hb dX10_shares_49 hl (by decide) rfl (fun ls hl => ?_)
          refine lv_aload_n hx hb dX10_shares_51 rfl (lv_at hl 1 rfl) ?_
          refine va_get (D := D) (ci := 10) (v := .ref (kw 1)) (C := RX10) (T := TX10) (N := 15) hx hb hts hi10 hown hK.1 hP 0 rfl rfl 0 (by decide) fl7 (fun _ h9 => h9) rfl dX10_shares_52 ?_
          refine lv_iconst (v := 0) hx hb dX10_shares_55 (by decide) ?_
          refine va_iald hx hb hK.1 hP 1 0 rfl rfl (vp_in_lit 0 213 rfl) dX10_shares_56 ?_
          refine lv_iconst (v := 1) hx hb dX10_shares_57 (by decide) ?_
          refine lv_isub hx hb dX10_shares_58 ?_
          refine lv_istore (lv' := [(8, .int (((bw 1) (0 : Int32).toNatClampNeg) - 1)), (7, .int (-1)), (0, .ref (kw 0)), (1, .long x1), (3, .int x3), (4, .int x4), (5, .long x5)]) hx hb dX10_shares_59 hl (by decide) rfl (fun ls hl => ?_)
          exact (ih).2.1 bj x1 x3 x4 x5 (-1) (((bw 1) (0 : Int32).toNatClampNeg) - 1) _ _ _ hP hD hS (lv_sub hl [2, 3, 4, 5, 6, 1, 0] rfl) h
        replace h := z_neg k34 h
        refine lv_lload hx hb dX10_shares_17 (lv_at hl 4 rfl) ?_
        refine lv_iload_n hx hb dX10_shares_19 rfl (lv_at hl 2 rfl) ?_
        refine lv_iload hx hb dX10_shares_20 (lv_at hl 5 rfl) ?_
        obtain ⟨y35, gy35, h⟩ := zb_some h
        refine z_callr (va_runS (As := [.int x3, .int x7]) (rest := [.long x5]) ⟨hx, hb, hml, hown, hts⟩ (c_X10_has l D tt x3 x7 y35 gy35) (va_cwS 2 hts gX10_shares_X10_has rfl rfl rfl (by decide +kernel) ⟨Nat.le_of_ble_eq_true rfl, Nat.le_of_ble_eq_true rfl⟩) (z_preSr hK (hP.sub (ws' := ([] : va_W)) [] rfl)) rfl rfl hl.1 rfl (lv_room (Nat.le_of_ble_eq_true rfl)) dX10_shares_22 ⟨Nat.zero_le _, Nat.zero_le _⟩) (fun ny35 => ?_)
        refine lv_if_eq (tgt := 38) hx hb dX10_shares_25 (by decide) (fun k36 => ?_) (fun k36 => ?_)
        · replace h := z_pos k36 h
          refine lv_lconst (v := 0) hx hb dX10_shares_38 (by decide) ?_
          refine lv_ladd hx hb dX10_shares_39 ?_
          refine lv_lstore (lv' := [(5, .long (x5 + (0 : Int64))), (0, .ref (kw 0)), (1, .long x1), (3, .int x3), (4, .int x4), (7, .int x7)]) hx hb dX10_shares_40 hl (by decide) rfl (fun ls hl => ?_)
          refine lv_iinc (v := (x7 + 1)) (lv' := [(7, .int (x7 + 1)), (5, .long (x5 + (0 : Int64))), (0, .ref (kw 0)), (1, .long x1), (3, .int x3), (4, .int x4)]) hx hb dX10_shares_42 hl (k := 5) rfl rfl (by decide) rfl (fun ls hl => ?_)
          refine lv_goto (tgt := 6) hx hb dX10_shares_45 (by decide) ?_
          exact (ih).1 bj x1 x3 x4 (x5 + (0 : Int64)) (x7 + 1) 0 _ _ _ hP hD hS (lv_sub hl [2, 3, 4, 5, 1, 0] rfl) h
        replace h := z_neg k36 h
        refine lv_aload_n hx hb dX10_shares_28 rfl (lv_at hl 0 rfl) ?_
        refine va_get (D := D) (ci := 10) (v := .ref (kw 9)) (C := RX10) (T := TX10) (N := 15) hx hb hts hi10 hown hK.1 hP 0 rfl rfl 9 (by decide) fl32 (fun _ h9 => h9) rfl dX10_shares_29 ?_
        refine lv_iload hx hb dX10_shares_32 (lv_at hl 5 rfl) ?_
        obtain ⟨q37, h⟩ := zA_some h
        refine va_lald hx hb hK.1 hP 9 1 rfl rfl q37 dX10_shares_34 ?_
        refine lv_goto (tgt := 39) hx hb dX10_shares_35 (by decide) ?_
        refine lv_ladd hx hb dX10_shares_39 ?_
        refine lv_lstore (lv' := [(5, .long (x5 + ((bj 3) x7.toNatClampNeg))), (0, .ref (kw 0)), (1, .long x1), (3, .int x3), (4, .int x4), (7, .int x7)]) hx hb dX10_shares_40 hl (by decide) rfl (fun ls hl => ?_)
        refine lv_iinc (v := (x7 + 1)) (lv' := [(7, .int (x7 + 1)), (5, .long (x5 + ((bj 3) x7.toNatClampNeg))), (0, .ref (kw 0)), (1, .long x1), (3, .int x3), (4, .int x4)]) hx hb dX10_shares_42 hl (k := 5) rfl rfl (by decide) rfl (fun ls hl => ?_)
        refine lv_goto (tgt := 6) hx hb dX10_shares_45 (by decide) ?_
        exact (ih).1 bj x1 x3 x4 (x5 + ((bj 3) x7.toNatClampNeg)) (x7 + 1) 0 _ _ _ hP hD hS (lv_sub hl [2, 3, 4, 5, 1, 0] rfl) h
      · intro bj x1 x3 x4 x5 x7 x8 H locs ls hP hD hS hl h
        rw [f_X10_shares_go] at h
        refine lv_iload hx hb dX10_shares_61 (lv_at hl 6 rfl) ?_
        refine lv_if_lt (tgt := 176) hx hb dX10_shares_63 (by decide) (fun k2 => ?_) (fun k2 => ?_)
        · replace h := z_pos k2 h
          refine lv_iload hx hb dX10_shares_176 (lv_at hl 5 rfl) ?_
          exact hfin _ _ _ _ _ _ h rfl hP hD hS dX10_shares_178
        replace h := z_neg k2 h
        refine lv_aload_n hx hb dX10_shares_66 rfl (lv_at hl 0 rfl) ?_
        refine va_get (D := D) (ci := 10) (v := .ref (kw 7)) (C := RX10) (T := TX10) (N := 15) hx hb hts hi10 hown hK.1 hP 0 rfl rfl 7 (by decide) fl26 (fun _ h9 => h9) rfl dX10_shares_67 ?_
        refine lv_iload hx hb dX10_shares_70 (lv_at hl 6 rfl) ?_
        refine lv_iload_n hx hb dX10_shares_72 rfl (lv_at hl 2 rfl) ?_
        refine lv_iload hx hb dX10_shares_73 (lv_at hl 6 rfl) ?_
        obtain ⟨y3, gy3, h⟩ := zb_some h
        refine z_callr (va_runS (As := [.int x3, .int x8]) (rest := [.int x8, .ref (kw 7)]) ⟨hx, hb, hml, hown, hts⟩ (c_X10_has l D tt x3 x8 y3 gy3) (va_cwS 2 hts gX10_shares_X10_has rfl rfl rfl (by decide +kernel) ⟨Nat.le_of_ble_eq_true rfl, Nat.le_of_ble_eq_true rfl⟩) (z_preSr hK (hP.sub (ws' := ([] : va_W)) [] rfl)) rfl rfl hl.1 rfl (lv_room (Nat.le_of_ble_eq_true rfl)) dX10_shares_75 ⟨Nat.zero_le _, Nat.zero_le _⟩) (fun ny3 => ?_)
        refine lv_if_eq (tgt := 103) hx hb dX10_shares_78 (by decide) (fun k4 => ?_) (fun k4 => ?_)
        · replace h := z_pos k4 h
          refine lv_lconst (v := 0) hx hb dX10_shares_103 (by decide) ?_
          obtain ⟨q5, h⟩ := zA_some h
          refine va_last hx hb hK.1 hP hD hS 7 1 rfl rfl q5 dX10_shares_104 (fun H locs hP hD hS => ?_)
          obtain ⟨a6, ea6, h⟩ := zl_some h
          have hP : va_P D vwCl (zw_mo tt kw bw (zu bj 1 a6)) H := by rw [ea6]; exact hP
          have hD : va_D A (zw_mo tt kw bw (zu bj 1 a6)) := by rw [ea6]; exact hD
          clear ea6
          refine lv_iload hx hb dX10_shares_105 (lv_at hl 6 rfl) ?_
          refine lv_if_le (tgt := 153) hx hb dX10_shares_107 (by decide) (fun k7 => ?_) (fun k7 => ?_)
          · replace h := z_pos k7 h
            exact (ih).2.2 (zu bj 1 a6) x1 x3 x4 x5 x7 x8 _ _ _ hP hD hS (lv_sub hl [0, 1, 2, 3, 4, 5, 6] rfl) h
          replace h := z_neg k7 h
          refine lv_aload_n hx hb dX10_shares_110 rfl (lv_at hl 0 rfl) ?_
          refine lv_iload hx hb dX10_shares_111 (lv_at hl 6 rfl) ?_
          refine lv_iconst (v := 3) hx hb dX10_shares_113 (by decide) ?_
          obtain ⟨y8, gy8, h⟩ := zb_some h
          refine z_callr (va_runV (As := [.int x8, .int 3]) (rest := []) ⟨hx, hb, hml, hown, hts⟩ (c_X10_ofClass l D tt kw bw (zu bj 1 a6) x8 3 y8 gy8) (cwV 2 hts gX10_shares_X10_ofClass rfl rfl rfl (by decide +kernel) ⟨Nat.le_of_ble_eq_true rfl, Nat.le_of_ble_eq_true rfl⟩) (z_preVr hK hP (ci := 10) (q0 := 0) rfl rfl) rfl rfl hl.1 rfl (lv_room (Nat.le_of_ble_eq_true rfl)) dX10_shares_114 ⟨Nat.zero_le _, Nat.zero_le _⟩) (fun ny8 => ?_)
          refine lv_iconst (v := 2) hx hb dX10_shares_117 (by decide) ?_
          refine lv_icmp_ne (tgt := 153) hx hb dX10_shares_118 (by decide) (fun k9 => ?_) (fun k9 => ?_)
          · replace h := z_neg k9 h
            exact (ih).2.2 (zu bj 1 a6) x1 x3 x4 x5 x7 x8 _ _ _ hP hD hS (lv_sub hl [0, 1, 2, 3, 4, 5, 6] rfl) h
          replace h := z_pos k9 h
          refine lv_iload hx hb dX10_shares_121 (lv_at hl 3 rfl) ?_
          refine lv_iload hx hb dX10_shares_123 (lv_at hl 6 rfl) ?_
          obtain ⟨y10, gy10, h⟩ := zb_some h
          refine z_callr (va_runS (As := [.int x4, .int x8]) (rest := []) ⟨hx, hb, hml, hown, hts⟩ (c_X10_has l D tt x4 x8 y10 gy10) (va_cwS 2 hts gX10_shares_X10_has rfl rfl rfl (by decide +kernel) ⟨Nat.le_of_ble_eq_true rfl, Nat.le_of_ble_eq_true rfl⟩) (z_preSr hK (hP.sub (ws' := ([] : va_W)) [] rfl)) rfl rfl hl.1 rfl (lv_room (Nat.le_of_ble_eq_true rfl)) dX10_shares_125 ⟨Nat.zero_le _, Nat.zero_le _⟩) (fun ny10 => ?_)
          refine lv_if_ne (tgt := 153) hx hb dX10_shares_128 (by decide) (fun k11 => ?_) (fun k11 => ?_)
          · replace h := z_neg k11 h
            exact (ih).2.2 (zu bj 1 a6) x1 x3 x4 x5 x7 x8 _ _ _ hP hD hS (lv_sub hl [0, 1, 2, 3, 4, 5, 6] rfl) h
          replace h := z_pos k11 h
          refine lv_aload_n hx hb dX10_shares_131 rfl (lv_at hl 0 rfl) ?_
          refine va_get (D := D) (ci := 10) (v := .ref (kw 7)) (C := RX10) (T := TX10) (N := 15) hx hb hts hi10 hown hK.1 hP 0 rfl rfl 7 (by decide) fl26 (fun _ h9 => h9) rfl dX10_shares_132 ?_
          refine lv_iload hx hb dX10_shares_135 (lv_at hl 6 rfl) ?_
          refine va_lald hx hb hK.1 hP 7 1 rfl rfl q5 dX10_shares_137 ?_
          refine lv_aload_n hx hb dX10_shares_138 rfl (lv_at hl 0 rfl) ?_
          refine va_get (D := D) (ci := 10) (v := .ref (kw 8)) (C := RX10) (T := TX10) (N := 15) hx hb hts hi10 hown hK.1 hP 0 rfl rfl 8 (by decide) fl29 (fun _ h9 => h9) rfl dX10_shares_139 ?_
          refine lv_iload hx hb dX10_shares_142 (lv_at hl 6 rfl) ?_
          refine va_lald hx hb hK.1 hP 8 1 rfl rfl q5 dX10_shares_144 ?_
          refine W.lcmp hx hb dX10_shares_145 ?_
          refine lv_if_le (tgt := 153) hx hb dX10_shares_146 (by decide) (fun k12 => ?_) (fun k12 => ?_)
          · replace h := z_pos k12 h
            exact (ih).2.2 (zu bj 1 a6) x1 x3 x4 x5 x7 x8 _ _ _ hP hD hS (lv_sub hl [0, 1, 2, 3, 4, 5, 6] rfl) h
          replace h := z_neg k12 h
          refine lv_iconst (v := 1) hx hb dX10_shares_149 (by decide) ?_
          refine lv_goto (tgt := 154) hx hb dX10_shares_150 (by decide) ?_
          refine lv_istore (lv' := [(9, .int 1), (0, .ref (kw 0)), (1, .long x1), (3, .int x3), (4, .int x4), (5, .long x5), (7, .int x7), (8, .int x8)]) hx hb dX10_shares_154 hl (by decide) rfl (fun ls hl => ?_)
          refine lv_iload hx hb dX10_shares_156 (lv_at hl 0 rfl) ?_
          refine lv_if_eq (tgt := 166) hx hb dX10_shares_158 (by decide) (fun k13 => ?_) (fun k13 => ?_)
          · replace h := z_pos k13 h
            refine lv_iload hx hb dX10_shares_166 (lv_at hl 6 rfl) ?_
            refine lv_istore (lv' := [(7, .int x7), (9, .int 1), (0, .ref (kw 0)), (1, .long x1), (3, .int x3), (4, .int x4), (5, .long x5), (8, .int x8)]) hx hb dX10_shares_168 hl (by decide) rfl (fun ls hl => ?_)
            refine lv_iinc (v := (x8 + (-1))) (lv' := [(8, .int (x8 + (-1))), (7, .int x7), (9, .int 1), (0, .ref (kw 0)), (1, .long x1), (3, .int x3), (4, .int x4), (5, .long x5)]) hx hb dX10_shares_170 hl (k := 7) rfl rfl (by decide) rfl (fun ls hl => ?_)
            refine lv_goto (tgt := 61) hx hb dX10_shares_173 (by decide) ?_
            exact (ih).2.1 (zu bj 1 a6) x1 x3 x4 x5 x7 (x8 + (-1)) _ _ _ hP hD hS (lv_sub hl [3, 4, 5, 6, 7, 1, 0] rfl) h
          replace h := z_neg k13 h
          refine lv_iload hx hb dX10_shares_161 (lv_at hl 7 rfl) ?_
          refine lv_goto (tgt := 168) hx hb dX10_shares_163 (by decide) ?_
          refine lv_istore (lv' := [(7, .int x8), (9, .int 1), (0, .ref (kw 0)), (1, .long x1), (3, .int x3), (4, .int x4), (5, .long x5), (8, .int x8)]) hx hb dX10_shares_168 hl (by decide) rfl (fun ls hl => ?_)
          refine lv_iinc (v := (x8 + (-1))) (lv' := [(8, .int (x8 + (-1))), (7, .int x8), (9, .int 1), (0, .ref (kw 0)), (1, .long x1), (3, .int x3), (4, .int x4), (5, .long x5)]) hx hb dX10_shares_170 hl (k := 7) rfl rfl (by decide) rfl (fun ls hl => ?_)
          refine lv_goto (tgt := 61) hx hb dX10_shares_173 (by decide) ?_
          exact (ih).2.1 (zu bj 1 a6) x1 x3 x4 x5 x8 (x8 + (-1)) _ _ _ hP hD hS (lv_sub hl [3, 4, 5, 6, 7, 1, 0] rfl) h
        replace h := z_neg k4 h
        refine lv_lload hx hb dX10_shares_81 (lv_at hl 4 rfl) ?_
        refine lv_lconst (v := 0) hx hb dX10_shares_83 (by decide) ?_
        refine W.lcmp hx hb dX10_shares_84 ?_
        refine lv_if_le (tgt := 103) hx hb dX10_shares_85 (by decide) (fun k14 => ?_) (fun k14 => ?_)
        · replace h := z_pos k14 h
          refine lv_lconst (v := 0) hx hb dX10_shares_103 (by decide) ?_
          obtain ⟨q15, h⟩ := zA_some h
          refine va_last hx hb hK.1 hP hD hS 7 1 rfl rfl q15 dX10_shares_104 (fun H locs hP hD hS => ?_)
          obtain ⟨a16, ea16, h⟩ := zl_some h
          have hP : va_P D vwCl (zw_mo tt kw bw (zu bj 1 a16)) H := by rw [ea16]; exact hP
          have hD : va_D A (zw_mo tt kw bw (zu bj 1 a16)) := by rw [ea16]; exact hD
          clear ea16
          refine lv_iload hx hb dX10_shares_105 (lv_at hl 6 rfl) ?_
          refine lv_if_le (tgt := 153) hx hb dX10_shares_107 (by decide) (fun k17 => ?_) (fun k17 => ?_)
          · replace h := z_pos k17 h
            exact (ih).2.2 (zu bj 1 a16) x1 x3 x4 x5 x7 x8 _ _ _ hP hD hS (lv_sub hl [0, 1, 2, 3, 4, 5, 6] rfl) h
          replace h := z_neg k17 h
          refine lv_aload_n hx hb dX10_shares_110 rfl (lv_at hl 0 rfl) ?_
          refine lv_iload hx hb dX10_shares_111 (lv_at hl 6 rfl) ?_
          refine lv_iconst (v := 3) hx hb dX10_shares_113 (by decide) ?_
          obtain ⟨y18, gy18, h⟩ := zb_some h
          refine z_callr (va_runV (As := [.int x8, .int 3]) (rest := []) ⟨hx, hb, hml, hown, hts⟩ (c_X10_ofClass l D tt kw bw (zu bj 1 a16) x8 3 y18 gy18) (cwV 2 hts gX10_shares_X10_ofClass rfl rfl rfl (by decide +kernel) ⟨Nat.le_of_ble_eq_true rfl, Nat.le_of_ble_eq_true rfl⟩) (z_preVr hK hP (ci := 10) (q0 := 0) rfl rfl) rfl rfl hl.1 rfl (lv_room (Nat.le_of_ble_eq_true rfl)) dX10_shares_114 ⟨Nat.zero_le _, Nat.zero_le _⟩) (fun ny18 => ?_)
          refine lv_iconst (v := 2) hx hb dX10_shares_117 (by decide) ?_
          refine lv_icmp_ne (tgt := 153) hx hb dX10_shares_118 (by decide) (fun k19 => ?_) (fun k19 => ?_)
          · replace h := z_neg k19 h
            exact (ih).2.2 (zu bj 1 a16) x1 x3 x4 x5 x7 x8 _ _ _ hP hD hS (lv_sub hl [0, 1, 2, 3, 4, 5, 6] rfl) h
          replace h := z_pos k19 h
          refine lv_iload hx hb dX10_shares_121 (lv_at hl 3 rfl) ?_
          refine lv_iload hx hb dX10_shares_123 (lv_at hl 6 rfl) ?_
          obtain ⟨y20, gy20, h⟩ := zb_some h
          refine z_callr (va_runS (As := [.int x4, .int x8]) (rest := []) ⟨hx, hb, hml, hown, hts⟩ (c_X10_has l D tt x4 x8 y20 gy20) (va_cwS 2 hts gX10_shares_X10_has rfl rfl rfl (by decide +kernel) ⟨Nat.le_of_ble_eq_true rfl, Nat.le_of_ble_eq_true rfl⟩) (z_preSr hK (hP.sub (ws' := ([] : va_W)) [] rfl)) rfl rfl hl.1 rfl (lv_room (Nat.le_of_ble_eq_true rfl)) dX10_shares_125 ⟨Nat.zero_le _, Nat.zero_le _⟩) (fun ny20 => ?_)
          refine lv_if_ne (tgt := 153) hx hb dX10_shares_128 (by decide) (fun k21 => ?_) (fun k21 => ?_)
          · replace h := z_neg k21 h
            exact (ih).2.2 (zu bj 1 a16) x1 x3 x4 x5 x7 x8 _ _ _ hP hD hS (lv_sub hl [0, 1, 2, 3, 4, 5, 6] rfl) h
          replace h := z_pos k21 h
          refine lv_aload_n hx hb dX10_shares_131 rfl (lv_at hl 0 rfl) ?_
          refine va_get (D := D) (ci := 10) (v := .ref (kw 7)) (C := RX10) (T := TX10) (N := 15) hx hb hts hi10 hown hK.1 hP 0 rfl rfl 7 (by decide) fl26 (fun _ h9 => h9) rfl dX10_shares_132 ?_
          refine lv_iload hx hb dX10_shares_135 (lv_at hl 6 rfl) ?_
          refine va_lald hx hb hK.1 hP 7 1 rfl rfl q15 dX10_shares_137 ?_
          refine lv_aload_n hx hb dX10_shares_138 rfl (lv_at hl 0 rfl) ?_
          refine va_get (D := D) (ci := 10) (v := .ref (kw 8)) (C := RX10) (T := TX10) (N := 15) hx hb hts hi10 hown hK.1 hP 0 rfl rfl 8 (by decide) fl29 (fun _ h9 => h9) rfl dX10_shares_139 ?_
          refine lv_iload hx hb dX10_shares_142 (lv_at hl 6 rfl) ?_
          refine va_lald hx hb hK.1 hP 8 1 rfl rfl q15 dX10_shares_144 ?_
          refine W.lcmp hx hb dX10_shares_145 ?_
          refine lv_if_le (tgt := 153) hx hb dX10_shares_146 (by decide) (fun k22 => ?_) (fun k22 => ?_)
          · replace h := z_pos k22 h
            exact (ih).2.2 (zu bj 1 a16) x1 x3 x4 x5 x7 x8 _ _ _ hP hD hS (lv_sub hl [0, 1, 2, 3, 4, 5, 6] rfl) h
          replace h := z_neg k22 h
          refine lv_iconst (v := 1) hx hb dX10_shares_149 (by decide) ?_
          refine lv_goto (tgt := 154) hx hb dX10_shares_150 (by decide) ?_
          refine lv_istore (lv' := [(9, .int 1), (0, .ref (kw 0)), (1, .long x1), (3, .int x3), (4, .int x4), (5, .long x5), (7, .int x7), (8, .int x8)]) hx hb dX10_shares_154 hl (by decide) rfl (fun ls hl => ?_)
          refine lv_iload hx hb dX10_shares_156 (lv_at hl 0 rfl) ?_
          refine lv_if_eq (tgt := 166) hx hb dX10_shares_158 (by decide) (fun k23 => ?_) (fun k23 => ?_)
          · replace h := z_pos k23 h
            refine lv_iload hx hb dX10_shares_166 (lv_at hl 6 rfl) ?_
            refine lv_istore (lv' := [(7, .int x7), (9, .int 1), (0, .ref (kw 0)), (1, .long x1), (3, .int x3), (4, .int x4), (5, .long x5), (8, .int x8)]) hx hb dX10_shares_168 hl (by decide) rfl (fun ls hl => ?_)
            refine lv_iinc (v := (x8 + (-1))) (lv' := [(8, .int (x8 + (-1))), (7, .int x7), (9, .int 1), (0, .ref (kw 0)), (1, .long x1), (3, .int x3), (4, .int x4), (5, .long x5)]) hx hb dX10_shares_170 hl (k := 7) rfl rfl (by decide) rfl (fun ls hl => ?_)
            refine lv_goto (tgt := 61) hx hb dX10_shares_173 (by decide) ?_
            exact (ih).2.1 (zu bj 1 a16) x1 x3 x4 x5 x7 (x8 + (-1)) _ _ _ hP hD hS (lv_sub hl [3, 4, 5, 6, 7, 1, 0] rfl) h
          replace h := z_neg k23 h
          refine lv_iload hx hb dX10_shares_161 (lv_at hl 7 rfl) ?_
          refine lv_goto (tgt := 168) hx hb dX10_shares_163 (by decide) ?_
          refine lv_istore (lv' := [(7, .int x8), (9, .int 1), (0, .ref (kw 0)), (1, .long x1), (3, .int x3), (4, .int x4), (5, .long x5), (8, .int x8)]) hx hb dX10_shares_168 hl (by decide) rfl (fun ls hl => ?_)
          refine lv_iinc (v := (x8 + (-1))) (lv' := [(8, .int (x8 + (-1))), (7, .int x8), (9, .int 1), (0, .ref (kw 0)), (1, .long x1), (3, .int x3), (4, .int x4), (5, .long x5)]) hx hb dX10_shares_170 hl (k := 7) rfl rfl (by decide) rfl (fun ls hl => ?_)
          refine lv_goto (tgt := 61) hx hb dX10_shares_173 (by decide) ?_
          exact (ih).2.1 (zu bj 1 a16) x1 x3 x4 x5 x8 (x8 + (-1)) _ _ _ hP hD hS (lv_sub hl [3, 4, 5, 6, 7, 1, 0] rfl) h
        replace h := z_neg k14 h
        refine lv_lload_n hx hb dX10_shares_88 rfl (lv_at hl 1 rfl) ?_
        refine lv_aload_n hx hb dX10_shares_89 rfl (lv_at hl 0 rfl) ?_
        refine va_get (D := D) (ci := 10) (v := .ref (kw 9)) (C := RX10) (T := TX10) (N := 15) hx hb hts hi10 hown hK.1 hP 0 rfl rfl 9 (by decide) fl32 (fun _ h9 => h9) rfl dX10_shares_90 ?_
        refine lv_iload hx hb dX10_shares_93 (lv_at hl 6 rfl) ?_
        obtain ⟨q24, h⟩ := zA_some h
        refine va_lald hx hb hK.1 hP 9 1 rfl rfl q24 dX10_shares_95 ?_
        refine lv_lmul hx hb dX10_shares_96 ?_
        refine lv_lload hx hb dX10_shares_97 (lv_at hl 4 rfl) ?_
        obtain ⟨q25, h⟩ := zDl_some h
        refine lv_ldiv hx hb dX10_shares_99 q25 ?_
        refine lv_goto (tgt := 104) hx hb dX10_shares_100 (by decide) ?_
        refine va_last hx hb hK.1 hP hD hS 7 1 rfl rfl q24 dX10_shares_104 (fun H locs hP hD hS => ?_)
        obtain ⟨a26, ea26, h⟩ := zl_some h
        have hP : va_P D vwCl (zw_mo tt kw bw (zu bj 1 a26)) H := by rw [ea26]; exact hP
        have hD : va_D A (zw_mo tt kw bw (zu bj 1 a26)) := by rw [ea26]; exact hD
        clear ea26
        refine lv_iload hx hb dX10_shares_105 (lv_at hl 6 rfl) ?_
        refine lv_if_le (tgt := 153) hx hb dX10_shares_107 (by decide) (fun k27 => ?_) (fun k27 => ?_)
        · replace h := z_pos k27 h
          exact (ih).2.2 (zu bj 1 a26) x1 x3 x4 x5 x7 x8 _ _ _ hP hD hS (lv_sub hl [0, 1, 2, 3, 4, 5, 6] rfl) h
        replace h := z_neg k27 h
        refine lv_aload_n hx hb dX10_shares_110 rfl (lv_at hl 0 rfl) ?_
        refine lv_iload hx hb dX10_shares_111 (lv_at hl 6 rfl) ?_
        refine lv_iconst (v := 3) hx hb dX10_shares_113 (by decide) ?_
        obtain ⟨y28, gy28, h⟩ := zb_some h
        refine z_callr (va_runV (As := [.int x8, .int 3]) (rest := []) ⟨hx, hb, hml, hown, hts⟩ (c_X10_ofClass l D tt kw bw (zu bj 1 a26) x8 3 y28 gy28) (cwV 2 hts gX10_shares_X10_ofClass rfl rfl rfl (by decide +kernel) ⟨Nat.le_of_ble_eq_true rfl, Nat.le_of_ble_eq_true rfl⟩) (z_preVr hK hP (ci := 10) (q0 := 0) rfl rfl) rfl rfl hl.1 rfl (lv_room (Nat.le_of_ble_eq_true rfl)) dX10_shares_114 ⟨Nat.zero_le _, Nat.zero_le _⟩) (fun ny28 => ?_)
        refine lv_iconst (v := 2) hx hb dX10_shares_117 (by decide) ?_
        refine lv_icmp_ne (tgt := 153) hx hb dX10_shares_118 (by decide) (fun k29 => ?_) (fun k29 => ?_)
        · replace h := z_neg k29 h
          exact (ih).2.2 (zu bj 1 a26) x1 x3 x4 x5 x7 x8 _ _ _ hP hD hS (lv_sub hl [0, 1, 2, 3, 4, 5, 6] rfl) h
        replace h := z_pos k29 h
        refine lv_iload hx hb dX10_shares_121 (lv_at hl 3 rfl) ?_
        refine lv_iload hx hb dX10_shares_123 (lv_at hl 6 rfl) ?_
        obtain ⟨y30, gy30, h⟩ := zb_some h
        refine z_callr (va_runS (As := [.int x4, .int x8]) (rest := []) ⟨hx, hb, hml, hown, hts⟩ (c_X10_has l D tt x4 x8 y30 gy30) (va_cwS 2 hts gX10_shares_X10_has rfl rfl rfl (by decide +kernel) ⟨Nat.le_of_ble_eq_true rfl, Nat.le_of_ble_eq_true rfl⟩) (z_preSr hK (hP.sub (ws' := ([] : va_W)) [] rfl)) rfl rfl hl.1 rfl (lv_room (Nat.le_of_ble_eq_true rfl)) dX10_shares_125 ⟨Nat.zero_le _, Nat.zero_le _⟩) (fun ny30 => ?_)
        refine lv_if_ne (tgt := 153) hx hb dX10_shares_128 (by decide) (fun k31 => ?_) (fun k31 => ?_)
        · replace h := z_neg k31 h
          exact (ih).2.2 (zu bj 1 a26) x1 x3 x4 x5 x7 x8 _ _ _ hP hD hS (lv_sub hl [0, 1, 2, 3, 4, 5, 6] rfl) h
        replace h := z_pos k31 h
        refine lv_aload_n hx hb dX10_shares_131 rfl (lv_at hl 0 rfl) ?_
        refine va_get (D := D) (ci := 10) (v := .ref (kw 7)) (C := RX10) (T := TX10) (N := 15) hx hb hts hi10 hown hK.1 hP 0 rfl rfl 7 (by decide) fl26 (fun _ h9 => h9) rfl dX10_shares_132 ?_
        refine lv_iload hx hb dX10_shares_135 (lv_at hl 6 rfl) ?_
        refine va_lald hx hb hK.1 hP 7 1 rfl rfl q24 dX10_shares_137 ?_
        refine lv_aload_n hx hb dX10_shares_138 rfl (lv_at hl 0 rfl) ?_
        refine va_get (D := D) (ci := 10) (v := .ref (kw 8)) (C := RX10) (T := TX10) (N := 15) hx hb hts hi10 hown hK.1 hP 0 rfl rfl 8 (by decide) fl29 (fun _ h9 => h9) rfl dX10_shares_139 ?_
        refine lv_iload hx hb dX10_shares_142 (lv_at hl 6 rfl) ?_
        refine va_lald hx hb hK.1 hP 8 1 rfl rfl q24 dX10_shares_144 ?_
        refine W.lcmp hx hb dX10_shares_145 ?_
        refine lv_if_le (tgt := 153) hx hb dX10_shares_146 (by decide) (fun k32 => ?_) (fun k32 => ?_)
        · replace h := z_pos k32 h
          exact (ih).2.2 (zu bj 1 a26) x1 x3 x4 x5 x7 x8 _ _ _ hP hD hS (lv_sub hl [0, 1, 2, 3, 4, 5, 6] rfl) h
        replace h := z_neg k32 h
        refine lv_iconst (v := 1) hx hb dX10_shares_149 (by decide) ?_
        refine lv_goto (tgt := 154) hx hb dX10_shares_150 (by decide) ?_
        refine lv_istore (lv' := [(9, .int 1), (0, .ref (kw 0)), (1, .long x1), (3, .int x3), (4, .int x4), (5, .long x5), (7, .int x7), (8, .int x8)]) hx hb dX10_shares_154 hl (by decide) rfl (fun ls hl => ?_)
        refine lv_iload hx hb dX10_shares_156 (lv_at hl 0 rfl) ?_
        refine lv_if_eq (tgt := 166) hx hb dX10_shares_158 (by decide) (fun k33 => ?_) (fun k33 => ?_)
        · replace h := z_pos k33 h
          refine lv_iload hx hb dX10_shares_166 (lv_at hl 6 rfl) ?_
          refine lv_istore (lv' := [(7, .int x7), (9, .int 1), (0, .ref (kw 0)), (1, .long x1), (3, .int x3), (4, .int x4), (5, .long x5), (8, .int x8)]) hx hb dX10_shares_168 hl (by decide) rfl (fun ls hl => ?_)
          refine lv_iinc (v := (x8 + (-1))) (lv' := [(8, .int (x8 + (-1))), (7, .int x7), (9, .int 1), (0, .ref (kw 0)), (1, .long x1), (3, .int x3), (4, .int x4), (5, .long x5)]) hx hb dX10_shares_170 hl (k := 7) rfl rfl (by decide) rfl (fun ls hl => ?_)
          refine lv_goto (tgt := 61) hx hb dX10_shares_173 (by decide) ?_
          exact (ih).2.1 (zu bj 1 a26) x1 x3 x4 x5 x7 (x8 + (-1)) _ _ _ hP hD hS (lv_sub hl [3, 4, 5, 6, 7, 1, 0] rfl) h
        replace h := z_neg k33 h
        refine lv_iload hx hb dX10_shares_161 (lv_at hl 7 rfl) ?_
        refine lv_goto (tgt := 168) hx hb dX10_shares_163 (by decide) ?_
        refine lv_istore (lv' := [(7, .int x8), (9, .int 1), (0, .ref (kw 0)), (1, .long x1), (3, .int x3), (4, .int x4), (5, .long x5), (8, .int x8)]) hx hb dX10_shares_168 hl (by decide) rfl (fun ls hl => ?_)
        refine lv_iinc (v := (x8 + (-1))) (lv' := [(8, .int (x8 + (-1))), (7, .int x8), (9, .int 1), (0, .ref (kw 0)), (1, .long x1), (3, .int x3), (4, .int x4), (5, .long x5)]) hx hb dX10_shares_170 hl (k := 7) rfl rfl (by decide) rfl (fun ls hl => ?_)
        refine lv_goto (tgt := 61) hx hb dX10_shares_173 (by decide) ?_
        exact (ih).2.1 (zu bj 1 a26) x1 x3 x4 x5 x8 (x8 + (-1)) _ _ _ hP hD hS (lv_sub hl [3, 4, 5, 6, 7, 1, 0] rfl) h
      · intro bj x1 x3 x4 x5 x7 x8 H locs ls hP hD hS hl h
        rw [f_X10_shares_go] at h
        refine lv_iconst (v := 0) hx hb dX10_shares_153 (by decide) ?_
        refine lv_istore (lv' := [(9, .int 0), (0, .ref (kw 0)), (1, .long x1), (3, .int x3), (4, .int x4), (5, .long x5), (7, .int x7), (8, .int x8)]) hx hb dX10_shares_154 hl (by decide) rfl (fun ls hl => ?_)
        refine lv_iload hx hb dX10_shares_156 (lv_at hl 0 rfl) ?_
        refine lv_if_eq (tgt := 166) hx hb dX10_shares_158 (by decide) (fun k1 => ?_) (fun k1 => ?_)
        · replace h := z_pos k1 h
          refine lv_iload hx hb dX10_shares_166 (lv_at hl 6 rfl) ?_
          refine lv_istore (lv' := [(7, .int x7), (9, .int 0), (0, .ref (kw 0)), (1, .long x1), (3, .int x3), (4, .int x4), (5, .long x5), (8, .int x8)]) hx hb dX10_shares_168 hl (by decide) rfl (fun ls hl => ?_)
          refine lv_iinc (v := (x8 + (-1))) (lv' := [(8, .int (x8 + (-1))), (7, .int x7), (9, .int 0), (0, .ref (kw 0)), (1, .long x1), (3, .int x3), (4, .int x4), (5, .long x5)]) hx hb dX10_shares_170 hl (k := 7) rfl rfl (by decide) rfl (fun ls hl => ?_)
          refine lv_goto (tgt := 61) hx hb dX10_shares_173 (by decide) ?_
          exact (ih).2.1 bj x1 x3 x4 x5 x7 (x8 + (-1)) _ _ _ hP hD hS (lv_sub hl [3, 4, 5, 6, 7, 1, 0] rfl) h
        replace h := z_neg k1 h
        refine lv_iload hx hb dX10_shares_161 (lv_at hl 7 rfl) ?_
        refine lv_goto (tgt := 168) hx hb dX10_shares_163 (by decide) ?_
        refine lv_istore (lv' := [(7, .int x8), (9, .int 0), (0, .ref (kw 0)), (1, .long x1), (3, .int x3), (4, .int x4), (5, .long x5), (8, .int x8)]) hx hb dX10_shares_168 hl (by decide) rfl (fun ls hl => ?_)
        refine lv_iinc (v := (x8 + (-1))) (lv' := [(8, .int (x8 + (-1))), (7, .int x8), (9, .int 0), (0, .ref (kw 0)), (1, .long x1), (3, .int x3), (4, .int x4), (5, .long x5)]) hx hb dX10_shares_170 hl (k := 7) rfl rfl (by decide) rfl (fun ls hl => ?_)
        refine lv_goto (tgt := 61) hx hb dX10_shares_173 (by decide) ?_
        exact (ih).2.1 bj x1 x3 x4 x5 x8 (x8 + (-1)) _ _ _ hP hD hS (lv_sub hl [3, 4, 5, 6, 7, 1, 0] rfl) h
  have hl := lv_entry ([.ref (kw 0), .long x1, .int x3, .int x4]) (n := 10) (Nat.le_of_ble_eq_true rfl)
  refine W.eq (g2 := F0 m 0 ((lg_sl ([.ref (kw 0), .long x1, .int x3, .int x4]) ++ List.replicate (10 - (lg_sl ([.ref (kw 0), .long x1, .int x3, .int x4])).length) Slot.unset).toArray) []) (by rw [ha]; exact lg_entry_eq _ _ _) ?_
  generalize (lg_sl ([.ref (kw 0), .long x1, .int x3, .int x4]) ++ List.replicate (10 - (lg_sl ([.ref (kw 0), .long x1, .int x3, .int x4])).length) Slot.unset).toArray = ls at hl ⊢
  have hl : lv_has ls 10 [(0, .ref (kw 0)), (1, .long x1), (3, .int x3), (4, .int x4)] := hl
  rw [f_X10_shares] at h
  refine lv_lconst (v := 0) hx hb dX10_shares_0 (by decide) ?_
  refine lv_lstore (lv' := [(5, .long (0 : Int64)), (0, .ref (kw 0)), (1, .long x1), (3, .int x3), (4, .int x4)]) hx hb dX10_shares_1 hl (by decide) rfl (fun ls hl => ?_)
  refine lv_iconst (v := 0) hx hb dX10_shares_3 (by decide) ?_
  refine lv_istore (lv' := [(7, .int 0), (5, .long (0 : Int64)), (0, .ref (kw 0)), (1, .long x1), (3, .int x3), (4, .int x4)]) hx hb dX10_shares_4 hl (by decide) rfl (fun ls hl => ?_)
  exact (go 1000).1 bj x1 x3 x4 (0 : Int64) 0 0 _ _ _ hP hD hS (lv_sub hl [2, 3, 4, 5, 1, 0] rfl) h
