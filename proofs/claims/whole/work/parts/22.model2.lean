/-! ===== contracts: 22.model2 ===== -/
set_option maxHeartbeats 4000000 in
set_option maxRecDepth 100000 in
theorem c_X10_grants (l : Launch) (D : va_G) (tt : Nat → ClassId) (kw : Nat → Nat) (sz : Nat) (bw : zV) (bj : zJ) (x1 : Int32) (x2 : Int32) (x3 : Int32) (x4 : Int32) (x5 : Int32) (out : Int32 × zV) (h : f_X10_grants bw bj x1 x2 x3 x4 x5 = some out) : Met l yX10_grants wsX10_grants { frames := 2, cells := 0, slots := 0, locals := 43 } (zPm [.ref (kw 0), .int x1, .int x2, .int x3, .int x4, .int x5] D tt (zw_mo tt kw bw bj) sz) (zMi .int out.1 D (zw_mo tt kw out.2 bj) (va_A (zw_mo tt kw bw bj) sz)) 0 0 (va_A (zw_mo tt kw bw bj) sz) := by
  refine Met.ofW (cc := cX10_grants) (maxL := 7) (ret := (some .int)) (by decide) rfl ?_
  intro p e s m args below meth c s₁ B hml hv
  obtain ⟨ha, hsz, hP, hK, hD0⟩ := hv
  have hx := B.exec
  have hb := B.bytes
  have hr := B.returns
  have hts := atoms_spec (ws := wsX10_grants) B.pre
  have hown : s.vm.findClass RX10 = some m.cls := findClass_of_methodNamed B.named
  have hlocks := B.notSynchronized
  have hi10 : ∀ w ∈ u_ws RX10 TX10 15, w ∈ wsX10_grants := fun _ h => List.mem_cons_of_mem _ (List.mem_append_right _ h)
  have fl7 := hts (.fieldLink RX10 7 "CapStacksModel" "s" "[I") (by decide +kernel)
  subst hsz
  have hD := hD0.self (sz := s.heap.size)
  generalize hAe : va_A (zw_mo tt kw bw bj) s.heap.size = A at hD ⊢
  have hA : ∀ q : Nat, s.heap.size ≤ q → A q := fun q h => by rw [← hAe]; exact Or.inr h
  have hS : va_S A s.heap s.heap [] := va_S.rf
  have hfin : ∀ (v : Int32) (bw : zV) (pc : Nat) (ls : Array Slot) (H : Heap) (locs : List Loc), some (v, bw) = some out → narrow .int (.int v) = .int v → va_P D vwCl (zw_mo tt kw bw bj) H → va_D A (zw_mo tt kw bw bj) → va_S A s.heap H locs → decode cX10_grants pc = .ok (.ireturn, 1) → W p l e (headSpec wsX10_grants { frames := 2, cells := 0, slots := 0, locals := 43 }).room s m args below meth c H locs 0 0 (MQ below (zMi .int out.1 D (zw_mo tt kw out.2 bj) A) args s 0 0 A) (F0 m pc ls [.int v]) := by
    intro v bw pc ls H locs he hn hP hD hS hd
    cases he
    exact W.zret hx hb hr hn (fun t ht hW => ⟨⟨_, (), rfl, ⟨rfl, hn⟩, by rw [ht]; exact hP, hD⟩, hS.F ht⟩) hS.2.2 hd
  generalize MQ below (zMi .int out.1 D (zw_mo tt kw out.2 bj) A) args s 0 0 A = Q at hfin ⊢
  have hl := lv_entry ([.ref (kw 0), .int x1, .int x2, .int x3, .int x4, .int x5]) (n := 7) (Nat.le_of_ble_eq_true rfl)
  refine W.eq (g2 := F0 m 0 ((lg_sl ([.ref (kw 0), .int x1, .int x2, .int x3, .int x4, .int x5]) ++ List.replicate (7 - (lg_sl ([.ref (kw 0), .int x1, .int x2, .int x3, .int x4, .int x5])).length) Slot.unset).toArray) []) (by rw [ha]; exact lg_entry_eq _ _ _) ?_
  generalize (lg_sl ([.ref (kw 0), .int x1, .int x2, .int x3, .int x4, .int x5]) ++ List.replicate (7 - (lg_sl ([.ref (kw 0), .int x1, .int x2, .int x3, .int x4, .int x5])).length) Slot.unset).toArray = ls at hl ⊢
  have hl : lv_has ls 7 [(0, .ref (kw 0)), (1, .int x1), (2, .int x2), (3, .int x3), (4, .int x4), (5, .int x5)] := hl
  rw [f_X10_grants] at h
  refine lv_aload_n hx hb dX10_grants_0 rfl (lv_at hl 0 rfl) ?_
  refine lv_iload_n hx hb dX10_grants_1 rfl (lv_at hl 1 rfl) ?_
  obtain ⟨y1, gy1, h⟩ := zb_some h
  refine z_callr (va_runV (As := [.int x1]) (rest := []) ⟨hx, hb, hml, hown, hts⟩ (c_X10_isHolder l D tt kw bw bj x1 y1 gy1) (cwV 1 hts gX10_grants_X10_isHolder rfl rfl rfl (by decide +kernel) ⟨Nat.le_of_ble_eq_true rfl, Nat.le_of_ble_eq_true rfl⟩) (z_preVr hK hP (ci := 10) (q0 := 0) rfl rfl) rfl rfl hl.1 rfl (lv_room (Nat.le_of_ble_eq_true rfl)) dX10_grants_2 ⟨Nat.zero_le _, Nat.zero_le _⟩) (fun ny1 => ?_)
  refine lv_if_eq (tgt := 51) hx hb dX10_grants_5 (by decide) (fun k2 => ?_) (fun k2 => ?_)
  · replace h := z_pos k2 h
    refine lv_iconst (v := (-1)) hx hb dX10_grants_51 (by decide) ?_
    exact hfin _ _ _ _ _ _ h rfl hP hD hS dX10_grants_52
  replace h := z_neg k2 h
  refine lv_iload_n hx hb dX10_grants_8 rfl (lv_at hl 2 rfl) ?_
  refine lv_iconst (v := 1) hx hb dX10_grants_9 (by decide) ?_
  refine lv_sipush (v := 9999) hx hb dX10_grants_10 (by decide) ?_
  obtain ⟨y3, gy3, h⟩ := zb_some h
  refine z_callr (va_runS (As := [.int x2, .int 1, .int 9999]) (rest := []) ⟨hx, hb, hml, hown, hts⟩ (c_X10_in l D tt x2 1 9999 y3 gy3) (va_cwS 3 hts gX10_grants_X10_in rfl rfl rfl (by decide +kernel) ⟨Nat.le_of_ble_eq_true rfl, Nat.le_of_ble_eq_true rfl⟩) (z_preSr hK (hP.sub (ws' := ([] : va_W)) [] rfl)) rfl rfl hl.1 rfl (lv_room (Nat.le_of_ble_eq_true rfl)) dX10_grants_13 ⟨Nat.zero_le _, Nat.zero_le _⟩) (fun ny3 => ?_)
  refine lv_if_eq (tgt := 51) hx hb dX10_grants_16 (by decide) (fun k4 => ?_) (fun k4 => ?_)
  · replace h := z_pos k4 h
    refine lv_iconst (v := (-1)) hx hb dX10_grants_51 (by decide) ?_
    exact hfin _ _ _ _ _ _ h rfl hP hD hS dX10_grants_52
  replace h := z_neg k4 h
  refine lv_iload_n hx hb dX10_grants_19 rfl (lv_at hl 3 rfl) ?_
  refine lv_iconst (v := 0) hx hb dX10_grants_20 (by decide) ?_
  refine lv_bipush (v := 99) hx hb dX10_grants_21 (by decide) ?_
  obtain ⟨y5, gy5, h⟩ := zb_some h
  refine z_callr (va_runS (As := [.int x3, .int 0, .int 99]) (rest := []) ⟨hx, hb, hml, hown, hts⟩ (c_X10_in l D tt x3 0 99 y5 gy5) (va_cwS 3 hts gX10_grants_X10_in rfl rfl rfl (by decide +kernel) ⟨Nat.le_of_ble_eq_true rfl, Nat.le_of_ble_eq_true rfl⟩) (z_preSr hK (hP.sub (ws' := ([] : va_W)) [] rfl)) rfl rfl hl.1 rfl (lv_room (Nat.le_of_ble_eq_true rfl)) dX10_grants_23 ⟨Nat.zero_le _, Nat.zero_le _⟩) (fun ny5 => ?_)
  refine lv_if_eq (tgt := 51) hx hb dX10_grants_26 (by decide) (fun k6 => ?_) (fun k6 => ?_)
  · replace h := z_pos k6 h
    refine lv_iconst (v := (-1)) hx hb dX10_grants_51 (by decide) ?_
    exact hfin _ _ _ _ _ _ h rfl hP hD hS dX10_grants_52
  replace h := z_neg k6 h
  refine lv_iload hx hb dX10_grants_29 (lv_at hl 5 rfl) ?_
  refine lv_iconst (v := 1) hx hb dX10_grants_31 (by decide) ?_
  refine lv_bipush (v := 60) hx hb dX10_grants_32 (by decide) ?_
  obtain ⟨y7, gy7, h⟩ := zb_some h
  refine z_callr (va_runS (As := [.int x5, .int 1, .int 60]) (rest := []) ⟨hx, hb, hml, hown, hts⟩ (c_X10_in l D tt x5 1 60 y7 gy7) (va_cwS 3 hts gX10_grants_X10_in rfl rfl rfl (by decide +kernel) ⟨Nat.le_of_ble_eq_true rfl, Nat.le_of_ble_eq_true rfl⟩) (z_preSr hK (hP.sub (ws' := ([] : va_W)) [] rfl)) rfl rfl hl.1 rfl (lv_room (Nat.le_of_ble_eq_true rfl)) dX10_grants_34 ⟨Nat.zero_le _, Nat.zero_le _⟩) (fun ny7 => ?_)
  refine lv_if_eq (tgt := 51) hx hb dX10_grants_37 (by decide) (fun k8 => ?_) (fun k8 => ?_)
  · replace h := z_pos k8 h
    refine lv_iconst (v := (-1)) hx hb dX10_grants_51 (by decide) ?_
    exact hfin _ _ _ _ _ _ h rfl hP hD hS dX10_grants_52
  replace h := z_neg k8 h
  refine lv_iload hx hb dX10_grants_40 (lv_at hl 4 rfl) ?_
  refine lv_iconst (v := 0) hx hb dX10_grants_42 (by decide) ?_
  refine lv_iload hx hb dX10_grants_43 (lv_at hl 5 rfl) ?_
  obtain ⟨y9, gy9, h⟩ := zb_some h
  refine z_callr (va_runS (As := [.int x4, .int 0, .int x5]) (rest := []) ⟨hx, hb, hml, hown, hts⟩ (c_X10_in l D tt x4 0 x5 y9 gy9) (va_cwS 3 hts gX10_grants_X10_in rfl rfl rfl (by decide +kernel) ⟨Nat.le_of_ble_eq_true rfl, Nat.le_of_ble_eq_true rfl⟩) (z_preSr hK (hP.sub (ws' := ([] : va_W)) [] rfl)) rfl rfl hl.1 rfl (lv_room (Nat.le_of_ble_eq_true rfl)) dX10_grants_45 ⟨Nat.zero_le _, Nat.zero_le _⟩) (fun ny9 => ?_)
  refine lv_if_ne (tgt := 53) hx hb dX10_grants_48 (by decide) (fun k10 => ?_) (fun k10 => ?_)
  rotate_left
  · replace h := z_pos k10 h
    refine lv_iconst (v := (-1)) hx hb dX10_grants_51 (by decide) ?_
    exact hfin _ _ _ _ _ _ h rfl hP hD hS dX10_grants_52
  replace h := z_neg k10 h
  refine lv_aload_n hx hb dX10_grants_53 rfl (lv_at hl 0 rfl) ?_
  refine lv_iload_n hx hb dX10_grants_54 rfl (lv_at hl 1 rfl) ?_
  obtain ⟨y11, gy11, h⟩ := zb_some h
  refine z_callr (va_runV (As := [.int x1]) (rest := []) ⟨hx, hb, hml, hown, hts⟩ (c_X10_hasLeft l D tt kw bw bj x1 y11 gy11) (cwV 1 hts gX10_grants_X10_hasLeft rfl rfl rfl (by decide +kernel) ⟨Nat.le_of_ble_eq_true rfl, Nat.le_of_ble_eq_true rfl⟩) (z_preVr hK hP (ci := 10) (q0 := 0) rfl rfl) rfl rfl hl.1 rfl (lv_room (Nat.le_of_ble_eq_true rfl)) dX10_grants_55 ⟨Nat.zero_le _, Nat.zero_le _⟩) (fun ny11 => ?_)
  refine lv_if_eq (tgt := 64) hx hb dX10_grants_58 (by decide) (fun k12 => ?_) (fun k12 => ?_)
  rotate_left
  · replace h := z_neg k12 h
    refine lv_bipush (v := (-2)) hx hb dX10_grants_61 (by decide) ?_
    exact hfin _ _ _ _ _ _ h rfl hP hD hS dX10_grants_63
  replace h := z_pos k12 h
  refine lv_aload_n hx hb dX10_grants_64 rfl (lv_at hl 0 rfl) ?_
  refine va_get (D := D) (ci := 10) (v := .ref (kw 1)) (C := RX10) (T := TX10) (N := 15) hx hb hts hi10 hown hK.1 hP 0 rfl rfl 0 (by decide) fl7 (fun _ h9 => h9) rfl dX10_grants_65 ?_
  refine lv_iconst (v := 2) hx hb dX10_grants_68 (by decide) ?_
  refine va_iald hx hb hK.1 hP 1 0 rfl rfl (vp_in_lit 2 213 rfl) dX10_grants_69 ?_
  refine lv_bipush (v := 8) hx hb dX10_grants_70 (by decide) ?_
  refine lv_icmp_ne (tgt := 78) hx hb dX10_grants_72 (by decide) (fun k13 => ?_) (fun k13 => ?_)
  rotate_left
  · replace h := z_pos k13 h
    refine lv_bipush (v := (-3)) hx hb dX10_grants_75 (by decide) ?_
    exact hfin _ _ _ _ _ _ h rfl hP hD hS dX10_grants_77
  replace h := z_neg k13 h
  refine lv_sipush (v := 157) hx hb dX10_grants_78 (by decide) ?_
  refine lv_bipush (v := 7) hx hb dX10_grants_81 (by decide) ?_
  refine lv_aload_n hx hb dX10_grants_83 rfl (lv_at hl 0 rfl) ?_
  refine va_get (D := D) (ci := 10) (v := .ref (kw 1)) (C := RX10) (T := TX10) (N := 15) hx hb hts hi10 hown hK.1 hP 0 rfl rfl 0 (by decide) fl7 (fun _ h9 => h9) rfl dX10_grants_84 ?_
  refine lv_iconst (v := 2) hx hb dX10_grants_87 (by decide) ?_
  refine va_iald hx hb hK.1 hP 1 0 rfl rfl (vp_in_lit 2 213 rfl) dX10_grants_88 ?_
  refine lv_imul hx hb dX10_grants_89 ?_
  refine lv_iadd hx hb dX10_grants_90 ?_
  refine lv_istore (lv' := [(6, .int (157 + (7 * ((bw 1) (2 : Int32).toNatClampNeg)))), (0, .ref (kw 0)), (1, .int x1), (2, .int x2), (3, .int x3), (4, .int x4), (5, .int x5)]) hx hb dX10_grants_91 hl (by decide) rfl (fun ls hl => ?_)
  refine lv_aload_n hx hb dX10_grants_93 rfl (lv_at hl 1 rfl) ?_
  refine va_get (D := D) (ci := 10) (v := .ref (kw 1)) (C := RX10) (T := TX10) (N := 15) hx hb hts hi10 hown hK.1 hP 0 rfl rfl 0 (by decide) fl7 (fun _ h9 => h9) rfl dX10_grants_94 ?_
  refine lv_iload hx hb dX10_grants_97 (lv_at hl 0 rfl) ?_
  refine lv_iconst (v := 0) hx hb dX10_grants_99 (by decide) ?_
  refine lv_iadd hx hb dX10_grants_100 ?_
  refine lv_iload_n hx hb dX10_grants_101 rfl (lv_at hl 2 rfl) ?_
  obtain ⟨q14, h⟩ := zA_some h
  refine va_iast hx hb hK.1 hP hD hS 1 0 rfl rfl q14 dX10_grants_102 (fun H locs hP hD hS => ?_)
  obtain ⟨a15, ea15, h⟩ := zl_some h
  have hP : va_P D vwCl (zw_mo tt kw (zu bw 1 a15) bj) H := by rw [ea15]; exact hP
  have hD : va_D A (zw_mo tt kw (zu bw 1 a15) bj) := by rw [ea15]; exact hD
  clear ea15
  refine lv_aload_n hx hb dX10_grants_103 rfl (lv_at hl 1 rfl) ?_
  refine va_get (D := D) (ci := 10) (v := .ref (kw 1)) (C := RX10) (T := TX10) (N := 15) hx hb hts hi10 hown hK.1 hP 0 rfl rfl 0 (by decide) fl7 (fun _ h9 => h9) rfl dX10_grants_104 ?_
  refine lv_iload hx hb dX10_grants_107 (lv_at hl 0 rfl) ?_
  refine lv_iconst (v := 1) hx hb dX10_grants_109 (by decide) ?_
  refine lv_iadd hx hb dX10_grants_110 ?_
  refine lv_iload_n hx hb dX10_grants_111 rfl (lv_at hl 3 rfl) ?_
  obtain ⟨q16, h⟩ := zA_some h
  refine va_iast hx hb hK.1 hP hD hS 1 0 rfl rfl q16 dX10_grants_112 (fun H locs hP hD hS => ?_)
  obtain ⟨a17, ea17, h⟩ := zl_some h
  have hP : va_P D vwCl (zw_mo tt kw (zu bw 1 a17) bj) H := by rw [ea17]; exact hP
  have hD : va_D A (zw_mo tt kw (zu bw 1 a17) bj) := by rw [ea17]; exact hD
  clear ea17
  refine lv_aload_n hx hb dX10_grants_113 rfl (lv_at hl 1 rfl) ?_
  refine va_get (D := D) (ci := 10) (v := .ref (kw 1)) (C := RX10) (T := TX10) (N := 15) hx hb hts hi10 hown hK.1 hP 0 rfl rfl 0 (by decide) fl7 (fun _ h9 => h9) rfl dX10_grants_114 ?_
  refine lv_iload hx hb dX10_grants_117 (lv_at hl 0 rfl) ?_
  refine lv_iconst (v := 2) hx hb dX10_grants_119 (by decide) ?_
  refine lv_iadd hx hb dX10_grants_120 ?_
  refine lv_iload_n hx hb dX10_grants_121 rfl (lv_at hl 4 rfl) ?_
  obtain ⟨q18, h⟩ := zA_some h
  refine va_iast hx hb hK.1 hP hD hS 1 0 rfl rfl q18 dX10_grants_122 (fun H locs hP hD hS => ?_)
  obtain ⟨a19, ea19, h⟩ := zl_some h
  have hP : va_P D vwCl (zw_mo tt kw (zu bw 1 a19) bj) H := by rw [ea19]; exact hP
  have hD : va_D A (zw_mo tt kw (zu bw 1 a19) bj) := by rw [ea19]; exact hD
  clear ea19
  refine lv_aload_n hx hb dX10_grants_123 rfl (lv_at hl 1 rfl) ?_
  refine va_get (D := D) (ci := 10) (v := .ref (kw 1)) (C := RX10) (T := TX10) (N := 15) hx hb hts hi10 hown hK.1 hP 0 rfl rfl 0 (by decide) fl7 (fun _ h9 => h9) rfl dX10_grants_124 ?_
  refine lv_iload hx hb dX10_grants_127 (lv_at hl 0 rfl) ?_
  refine lv_iconst (v := 3) hx hb dX10_grants_129 (by decide) ?_
  refine lv_iadd hx hb dX10_grants_130 ?_
  refine lv_iload hx hb dX10_grants_131 (lv_at hl 5 rfl) ?_
  obtain ⟨q20, h⟩ := zA_some h
  refine va_iast hx hb hK.1 hP hD hS 1 0 rfl rfl q20 dX10_grants_133 (fun H locs hP hD hS => ?_)
  obtain ⟨a21, ea21, h⟩ := zl_some h
  have hP : va_P D vwCl (zw_mo tt kw (zu bw 1 a21) bj) H := by rw [ea21]; exact hP
  have hD : va_D A (zw_mo tt kw (zu bw 1 a21) bj) := by rw [ea21]; exact hD
  clear ea21
  refine lv_aload_n hx hb dX10_grants_134 rfl (lv_at hl 1 rfl) ?_
  refine va_get (D := D) (ci := 10) (v := .ref (kw 1)) (C := RX10) (T := TX10) (N := 15) hx hb hts hi10 hown hK.1 hP 0 rfl rfl 0 (by decide) fl7 (fun _ h9 => h9) rfl dX10_grants_135 ?_
  refine lv_iload hx hb dX10_grants_138 (lv_at hl 0 rfl) ?_
  refine lv_iconst (v := 4) hx hb dX10_grants_140 (by decide) ?_
  refine lv_iadd hx hb dX10_grants_141 ?_
  refine lv_iload hx hb dX10_grants_142 (lv_at hl 6 rfl) ?_
  obtain ⟨q22, h⟩ := zA_some h
  refine va_iast hx hb hK.1 hP hD hS 1 0 rfl rfl q22 dX10_grants_144 (fun H locs hP hD hS => ?_)
  obtain ⟨a23, ea23, h⟩ := zl_some h
  have hP : va_P D vwCl (zw_mo tt kw (zu bw 1 a23) bj) H := by rw [ea23]; exact hP
  have hD : va_D A (zw_mo tt kw (zu bw 1 a23) bj) := by rw [ea23]; exact hD
  clear ea23
  refine lv_aload_n hx hb dX10_grants_145 rfl (lv_at hl 1 rfl) ?_
  refine va_get (D := D) (ci := 10) (v := .ref (kw 1)) (C := RX10) (T := TX10) (N := 15) hx hb hts hi10 hown hK.1 hP 0 rfl rfl 0 (by decide) fl7 (fun _ h9 => h9) rfl dX10_grants_146 ?_
  refine lv_iload hx hb dX10_grants_149 (lv_at hl 0 rfl) ?_
  refine lv_bipush (v := 6) hx hb dX10_grants_151 (by decide) ?_
  refine lv_iadd hx hb dX10_grants_153 ?_
  refine lv_aload_n hx hb dX10_grants_154 rfl (lv_at hl 1 rfl) ?_
  refine va_get (D := D) (ci := 10) (v := .ref (kw 1)) (C := RX10) (T := TX10) (N := 15) hx hb hts hi10 hown hK.1 hP 0 rfl rfl 0 (by decide) fl7 (fun _ h9 => h9) rfl dX10_grants_155 ?_
  refine lv_iconst (v := 3) hx hb dX10_grants_158 (by decide) ?_
  refine va_iald hx hb hK.1 hP 1 0 rfl rfl (vp_in_lit 3 213 rfl) dX10_grants_159 ?_
  obtain ⟨q24, h⟩ := zA_some h
  refine va_iast hx hb hK.1 hP hD hS 1 0 rfl rfl q24 dX10_grants_160 (fun H locs hP hD hS => ?_)
  obtain ⟨a25, ea25, h⟩ := zl_some h
  have hP : va_P D vwCl (zw_mo tt kw (zu bw 1 a25) bj) H := by rw [ea25]; exact hP
  have hD : va_D A (zw_mo tt kw (zu bw 1 a25) bj) := by rw [ea25]; exact hD
  clear ea25
  refine lv_aload_n hx hb dX10_grants_161 rfl (lv_at hl 1 rfl) ?_
  refine va_get (D := D) (ci := 10) (v := .ref (kw 1)) (C := RX10) (T := TX10) (N := 15) hx hb hts hi10 hown hK.1 hP 0 rfl rfl 0 (by decide) fl7 (fun _ h9 => h9) rfl dX10_grants_162 ?_
  refine lv_iconst (v := 2) hx hb dX10_grants_165 (by decide) ?_
  refine lv_dup2_11 hx hb dX10_grants_166 rfl rfl ?_
  refine va_iald hx hb hK.1 hP 1 0 rfl rfl (vp_in_lit 2 213 rfl) dX10_grants_167 ?_
  refine lv_iconst (v := 1) hx hb dX10_grants_168 (by decide) ?_
  refine lv_iadd hx hb dX10_grants_169 ?_
  refine va_iast hx hb hK.1 hP hD hS 1 0 rfl rfl (vp_in_lit 2 213 rfl) dX10_grants_170 (fun H locs hP hD hS => ?_)
  obtain ⟨a26, ea26, h⟩ := zl_some h
  have hP : va_P D vwCl (zw_mo tt kw (zu bw 1 a26) bj) H := by rw [ea26]; exact hP
  have hD : va_D A (zw_mo tt kw (zu bw 1 a26) bj) := by rw [ea26]; exact hD
  clear ea26
  refine lv_aload_n hx hb dX10_grants_171 rfl (lv_at hl 1 rfl) ?_
  refine va_get (D := D) (ci := 10) (v := .ref (kw 1)) (C := RX10) (T := TX10) (N := 15) hx hb hts hi10 hown hK.1 hP 0 rfl rfl 0 (by decide) fl7 (fun _ h9 => h9) rfl dX10_grants_172 ?_
  refine lv_iconst (v := 2) hx hb dX10_grants_175 (by decide) ?_
  refine va_iald hx hb hK.1 hP 1 0 rfl rfl (vp_in_lit 2 213 rfl) dX10_grants_176 ?_
  refine lv_iconst (v := 1) hx hb dX10_grants_177 (by decide) ?_
  refine lv_isub hx hb dX10_grants_178 ?_
  exact hfin _ _ _ _ _ _ h rfl hP hD hS dX10_grants_179
set_option maxHeartbeats 4000000 in
set_option maxRecDepth 100000 in
theorem c_X10_takes (l : Launch) (D : va_G) (tt : Nat → ClassId) (kw : Nat → Nat) (sz : Nat) (bw : zV) (bj : zJ) (x1 : Int32) (x2 : Int32) (out : Int32 × zV) (h : f_X10_takes bw bj x1 x2 = some out) : Met l yX10_takes wsX10_takes { frames := 3, cells := 0, slots := 0, locals := 70 } (zPm [.ref (kw 0), .int x1, .int x2] D tt (zw_mo tt kw bw bj) sz) (zMi .int out.1 D (zw_mo tt kw out.2 bj) (va_A (zw_mo tt kw bw bj) sz)) 0 0 (va_A (zw_mo tt kw bw bj) sz) := by
  refine Met.ofW (cc := cX10_takes) (maxL := 4) (ret := (some .int)) (by decide) rfl ?_
  intro p e s m args below meth c s₁ B hml hv
  obtain ⟨ha, hsz, hP, hK, hD0⟩ := hv
  have hx := B.exec
  have hb := B.bytes
  have hr := B.returns
  have hts := atoms_spec (ws := wsX10_takes) B.pre
  have hown : s.vm.findClass RX10 = some m.cls := findClass_of_methodNamed B.named
  have hlocks := B.notSynchronized
  have hi10 : ∀ w ∈ u_ws RX10 TX10 15, w ∈ wsX10_takes := fun _ h => List.mem_cons_of_mem _ (List.mem_append_right _ h)
  have fl7 := hts (.fieldLink RX10 7 "CapStacksModel" "s" "[I") (by decide +kernel)
  subst hsz
  have hD := hD0.self (sz := s.heap.size)
  generalize hAe : va_A (zw_mo tt kw bw bj) s.heap.size = A at hD ⊢
  have hA : ∀ q : Nat, s.heap.size ≤ q → A q := fun q h => by rw [← hAe]; exact Or.inr h
  have hS : va_S A s.heap s.heap [] := va_S.rf
  have hfin : ∀ (v : Int32) (bw : zV) (pc : Nat) (ls : Array Slot) (H : Heap) (locs : List Loc), some (v, bw) = some out → narrow .int (.int v) = .int v → va_P D vwCl (zw_mo tt kw bw bj) H → va_D A (zw_mo tt kw bw bj) → va_S A s.heap H locs → decode cX10_takes pc = .ok (.ireturn, 1) → W p l e (headSpec wsX10_takes { frames := 3, cells := 0, slots := 0, locals := 70 }).room s m args below meth c H locs 0 0 (MQ below (zMi .int out.1 D (zw_mo tt kw out.2 bj) A) args s 0 0 A) (F0 m pc ls [.int v]) := by
    intro v bw pc ls H locs he hn hP hD hS hd
    cases he
    exact W.zret hx hb hr hn (fun t ht hW => ⟨⟨_, (), rfl, ⟨rfl, hn⟩, by rw [ht]; exact hP, hD⟩, hS.F ht⟩) hS.2.2 hd
  generalize MQ below (zMi .int out.1 D (zw_mo tt kw out.2 bj) A) args s 0 0 A = Q at hfin ⊢
  have hl := lv_entry ([.ref (kw 0), .int x1, .int x2]) (n := 4) (Nat.le_of_ble_eq_true rfl)
  refine W.eq (g2 := F0 m 0 ((lg_sl ([.ref (kw 0), .int x1, .int x2]) ++ List.replicate (4 - (lg_sl ([.ref (kw 0), .int x1, .int x2])).length) Slot.unset).toArray) []) (by rw [ha]; exact lg_entry_eq _ _ _) ?_
  generalize (lg_sl ([.ref (kw 0), .int x1, .int x2]) ++ List.replicate (4 - (lg_sl ([.ref (kw 0), .int x1, .int x2])).length) Slot.unset).toArray = ls at hl ⊢
  have hl : lv_has ls 4 [(0, .ref (kw 0)), (1, .int x1), (2, .int x2)] := hl
  rw [f_X10_takes] at h
  refine lv_aload_n hx hb dX10_takes_0 rfl (lv_at hl 0 rfl) ?_
  refine lv_iload_n hx hb dX10_takes_1 rfl (lv_at hl 1 rfl) ?_
  obtain ⟨y1, gy1, h⟩ := zb_some h
  refine z_callr (va_runV (As := [.int x1]) (rest := []) ⟨hx, hb, hml, hown, hts⟩ (c_X10_isGrant l D tt kw bw bj x1 y1 gy1) (cwV 1 hts gX10_takes_X10_isGrant rfl rfl rfl (by decide +kernel) ⟨Nat.le_of_ble_eq_true rfl, Nat.le_of_ble_eq_true rfl⟩) (z_preVr hK hP (ci := 10) (q0 := 0) rfl rfl) rfl rfl hl.1 rfl (lv_room (Nat.le_of_ble_eq_true rfl)) dX10_takes_2 ⟨Nat.zero_le _, Nat.zero_le _⟩) (fun ny1 => ?_)
  refine lv_if_eq (tgt := 19) hx hb dX10_takes_5 (by decide) (fun k2 => ?_) (fun k2 => ?_)
  · replace h := z_pos k2 h
    refine lv_iconst (v := (-1)) hx hb dX10_takes_19 (by decide) ?_
    exact hfin _ _ _ _ _ _ h rfl hP hD hS dX10_takes_20
  replace h := z_neg k2 h
  refine lv_iload_n hx hb dX10_takes_8 rfl (lv_at hl 2 rfl) ?_
  refine lv_iconst (v := 1) hx hb dX10_takes_9 (by decide) ?_
  refine lv_sipush (v := 9999) hx hb dX10_takes_10 (by decide) ?_
  obtain ⟨y3, gy3, h⟩ := zb_some h
  refine z_callr (va_runS (As := [.int x2, .int 1, .int 9999]) (rest := []) ⟨hx, hb, hml, hown, hts⟩ (c_X10_in l D tt x2 1 9999 y3 gy3) (va_cwS 3 hts gX10_takes_X10_in rfl rfl rfl (by decide +kernel) ⟨Nat.le_of_ble_eq_true rfl, Nat.le_of_ble_eq_true rfl⟩) (z_preSr hK (hP.sub (ws' := ([] : va_W)) [] rfl)) rfl rfl hl.1 rfl (lv_room (Nat.le_of_ble_eq_true rfl)) dX10_takes_13 ⟨Nat.zero_le _, Nat.zero_le _⟩) (fun ny3 => ?_)
  refine lv_if_ne (tgt := 21) hx hb dX10_takes_16 (by decide) (fun k4 => ?_) (fun k4 => ?_)
  rotate_left
  · replace h := z_pos k4 h
    refine lv_iconst (v := (-1)) hx hb dX10_takes_19 (by decide) ?_
    exact hfin _ _ _ _ _ _ h rfl hP hD hS dX10_takes_20
  replace h := z_neg k4 h
  refine lv_aload_n hx hb dX10_takes_21 rfl (lv_at hl 0 rfl) ?_
  obtain ⟨y5, gy5, h⟩ := zb_some h
  refine z_callr (va_runV (As := []) (rest := []) ⟨hx, hb, hml, hown, hts⟩ (c_X10_isRound l D tt kw bw bj y5 gy5) (cwV 0 hts gX10_takes_X10_isRound rfl rfl rfl (by decide +kernel) ⟨Nat.le_of_ble_eq_true rfl, Nat.le_of_ble_eq_true rfl⟩) (z_preVr hK hP (ci := 10) (q0 := 0) rfl rfl) rfl rfl hl.1 rfl (lv_room (Nat.le_of_ble_eq_true rfl)) dX10_takes_22 ⟨Nat.zero_le _, Nat.zero_le _⟩) (fun ny5 => ?_)
  refine lv_if_ne (tgt := 37) hx hb dX10_takes_25 (by decide) (fun k6 => ?_) (fun k6 => ?_)
  · replace h := z_neg k6 h
    refine lv_bipush (v := (-2)) hx hb dX10_takes_37 (by decide) ?_
    exact hfin _ _ _ _ _ _ h rfl hP hD hS dX10_takes_39
  replace h := z_pos k6 h
  refine lv_aload_n hx hb dX10_takes_28 rfl (lv_at hl 0 rfl) ?_
  refine lv_iload_n hx hb dX10_takes_29 rfl (lv_at hl 1 rfl) ?_
  obtain ⟨y7, gy7, h⟩ := zb_some h
  refine z_callr (va_runV (As := [.int x1]) (rest := []) ⟨hx, hb, hml, hown, hts⟩ (c_X10_canBeTaken l D tt kw bw bj x1 y7 gy7) (cwV 1 hts gX10_takes_X10_canBeTaken rfl rfl rfl (by decide +kernel) ⟨Nat.le_of_ble_eq_true rfl, Nat.le_of_ble_eq_true rfl⟩) (z_preVr hK hP (ci := 10) (q0 := 0) rfl rfl) rfl rfl hl.1 rfl (lv_room (Nat.le_of_ble_eq_true rfl)) dX10_takes_30 ⟨Nat.zero_le _, Nat.zero_le _⟩) (fun ny7 => ?_)
  refine lv_iload_n hx hb dX10_takes_33 rfl (lv_at hl 2 rfl) ?_
  refine lv_icmp_ge (tgt := 40) hx hb dX10_takes_34 (by decide) (fun k8 => ?_) (fun k8 => ?_)
  rotate_left
  · replace h := z_neg k8 h
    refine lv_bipush (v := (-2)) hx hb dX10_takes_37 (by decide) ?_
    exact hfin _ _ _ _ _ _ h rfl hP hD hS dX10_takes_39
  replace h := z_pos k8 h
  refine lv_aload_n hx hb dX10_takes_40 rfl (lv_at hl 0 rfl) ?_
  obtain ⟨y9, gy9, h⟩ := zb_some h
  refine z_callr (va_runV (As := []) (rest := []) ⟨hx, hb, hml, hown, hts⟩ (c_X10_certificates l D tt kw bw bj y9 gy9) (cwV 0 hts gX10_takes_X10_certificates rfl rfl rfl (by decide +kernel) ⟨Nat.le_of_ble_eq_true rfl, Nat.le_of_ble_eq_true rfl⟩) (z_preVr hK hP (ci := 10) (q0 := 0) rfl rfl) rfl rfl hl.1 rfl (lv_room (Nat.le_of_ble_eq_true rfl)) dX10_takes_41 ⟨Nat.zero_le _, Nat.zero_le _⟩) (fun ny9 => ?_)
  refine lv_bipush (v := 24) hx hb dX10_takes_44 (by decide) ?_
  refine lv_icmp_ne (tgt := 52) hx hb dX10_takes_46 (by decide) (fun k10 => ?_) (fun k10 => ?_)
  rotate_left
  · replace h := z_pos k10 h
    refine lv_bipush (v := (-3)) hx hb dX10_takes_49 (by decide) ?_
    exact hfin _ _ _ _ _ _ h rfl hP hD hS dX10_takes_51
  replace h := z_neg k10 h
  refine lv_iload_n hx hb dX10_takes_52 rfl (lv_at hl 2 rfl) ?_
  refine lv_aload_n hx hb dX10_takes_53 rfl (lv_at hl 0 rfl) ?_
  refine lv_iload_n hx hb dX10_takes_54 rfl (lv_at hl 1 rfl) ?_
  refine lv_iconst (v := 2) hx hb dX10_takes_55 (by decide) ?_
  obtain ⟨y11, gy11, h⟩ := zb_some h
  refine z_callr (va_runV (As := [.int x1, .int 2]) (rest := [.int x2]) ⟨hx, hb, hml, hown, hts⟩ (c_X10_ofGrant l D tt kw bw bj x1 2 y11 gy11) (cwV 2 hts gX10_takes_X10_ofGrant rfl rfl rfl (by decide +kernel) ⟨Nat.le_of_ble_eq_true rfl, Nat.le_of_ble_eq_true rfl⟩) (z_preVr hK hP (ci := 10) (q0 := 0) rfl rfl) rfl rfl hl.1 rfl (lv_room (Nat.le_of_ble_eq_true rfl)) dX10_takes_56 ⟨Nat.zero_le _, Nat.zero_le _⟩) (fun ny11 => ?_)
  refine lv_imul hx hb dX10_takes_59 ?_
  refine lv_istore_n (lv' := [(3, .int (x2 * y11)), (0, .ref (kw 0)), (1, .int x1), (2, .int x2)]) hx hb dX10_takes_60 rfl hl (by decide) rfl (fun ls hl => ?_)
  refine lv_aload_n hx hb dX10_takes_61 rfl (lv_at hl 1 rfl) ?_
  refine va_get (D := D) (ci := 10) (v := .ref (kw 1)) (C := RX10) (T := TX10) (N := 15) hx hb hts hi10 hown hK.1 hP 0 rfl rfl 0 (by decide) fl7 (fun _ h9 => h9) rfl dX10_takes_62 ?_
  refine lv_sipush (v := 157) hx hb dX10_takes_65 (by decide) ?_
  refine lv_bipush (v := 7) hx hb dX10_takes_68 (by decide) ?_
  refine lv_iload_n hx hb dX10_takes_70 rfl (lv_at hl 2 rfl) ?_
  refine lv_imul hx hb dX10_takes_71 ?_
  refine lv_iadd hx hb dX10_takes_72 ?_
  refine lv_iconst (v := 5) hx hb dX10_takes_73 (by decide) ?_
  refine lv_iadd hx hb dX10_takes_74 ?_
  refine lv_dup2_11 hx hb dX10_takes_75 rfl rfl ?_
  obtain ⟨q12, h⟩ := zA_some h
  refine va_iald hx hb hK.1 hP 1 0 rfl rfl q12 dX10_takes_76 ?_
  refine lv_iload_n hx hb dX10_takes_77 rfl (lv_at hl 3 rfl) ?_
  refine lv_iadd hx hb dX10_takes_78 ?_
  refine va_iast hx hb hK.1 hP hD hS 1 0 rfl rfl q12 dX10_takes_79 (fun H locs hP hD hS => ?_)
  obtain ⟨a13, ea13, h⟩ := zl_some h
  have hP : va_P D vwCl (zw_mo tt kw (zu bw 1 a13) bj) H := by rw [ea13]; exact hP
  have hD : va_D A (zw_mo tt kw (zu bw 1 a13) bj) := by rw [ea13]; exact hD
  clear ea13
  refine lv_aload_n hx hb dX10_takes_80 rfl (lv_at hl 1 rfl) ?_
  refine va_get (D := D) (ci := 10) (v := .ref (kw 1)) (C := RX10) (T := TX10) (N := 15) hx hb hts hi10 hown hK.1 hP 0 rfl rfl 0 (by decide) fl7 (fun _ h9 => h9) rfl dX10_takes_81 ?_
  refine lv_iconst (v := 4) hx hb dX10_takes_84 (by decide) ?_
  refine lv_dup2_11 hx hb dX10_takes_85 rfl rfl ?_
  refine va_iald hx hb hK.1 hP 1 0 rfl rfl (vp_in_lit 4 213 rfl) dX10_takes_86 ?_
  refine lv_iload_n hx hb dX10_takes_87 rfl (lv_at hl 3 rfl) ?_
  refine lv_iadd hx hb dX10_takes_88 ?_
  refine va_iast hx hb hK.1 hP hD hS 1 0 rfl rfl (vp_in_lit 4 213 rfl) dX10_takes_89 (fun H locs hP hD hS => ?_)
  obtain ⟨a14, ea14, h⟩ := zl_some h
  have hP : va_P D vwCl (zw_mo tt kw (zu bw 1 a14) bj) H := by rw [ea14]; exact hP
  have hD : va_D A (zw_mo tt kw (zu bw 1 a14) bj) := by rw [ea14]; exact hD
  clear ea14
  refine lv_aload_n hx hb dX10_takes_90 rfl (lv_at hl 1 rfl) ?_
  refine va_get (D := D) (ci := 10) (v := .ref (kw 1)) (C := RX10) (T := TX10) (N := 15) hx hb hts hi10 hown hK.1 hP 0 rfl rfl 0 (by decide) fl7 (fun _ h9 => h9) rfl dX10_takes_91 ?_
  refine lv_bipush (v := 6) hx hb dX10_takes_94 (by decide) ?_
  refine lv_dup2_11 hx hb dX10_takes_96 rfl rfl ?_
  refine va_iald hx hb hK.1 hP 1 0 rfl rfl (vp_in_lit 6 213 rfl) dX10_takes_97 ?_
  refine lv_iload_n hx hb dX10_takes_98 rfl (lv_at hl 0 rfl) ?_
  refine lv_iadd hx hb dX10_takes_99 ?_
  refine va_iast hx hb hK.1 hP hD hS 1 0 rfl rfl (vp_in_lit 6 213 rfl) dX10_takes_100 (fun H locs hP hD hS => ?_)
  obtain ⟨a15, ea15, h⟩ := zl_some h
  have hP : va_P D vwCl (zw_mo tt kw (zu bw 1 a15) bj) H := by rw [ea15]; exact hP
  have hD : va_D A (zw_mo tt kw (zu bw 1 a15) bj) := by rw [ea15]; exact hD
  clear ea15
  refine lv_aload_n hx hb dX10_takes_101 rfl (lv_at hl 1 rfl) ?_
  refine lv_aload_n hx hb dX10_takes_102 rfl (lv_at hl 1 rfl) ?_
  refine lv_iload_n hx hb dX10_takes_103 rfl (lv_at hl 2 rfl) ?_
  refine lv_iconst (v := 0) hx hb dX10_takes_104 (by decide) ?_
  obtain ⟨y16, gy16, h⟩ := zb_some h
  refine z_callr (va_runV (As := [.int x1, .int 0]) (rest := [.ref (kw 0)]) ⟨hx, hb, hml, hown, hts⟩ (c_X10_ofGrant l D tt kw (zu bw 1 a15) bj x1 0 y16 gy16) (cwV 2 hts gX10_takes_X10_ofGrant rfl rfl rfl (by decide +kernel) ⟨Nat.le_of_ble_eq_true rfl, Nat.le_of_ble_eq_true rfl⟩) (z_preVr hK hP (ci := 10) (q0 := 0) rfl rfl) rfl rfl hl.1 rfl (lv_room (Nat.le_of_ble_eq_true rfl)) dX10_takes_105 ⟨Nat.zero_le _, Nat.zero_le _⟩) (fun ny16 => ?_)
  refine lv_iconst (v := 0) hx hb dX10_takes_108 (by decide) ?_
  refine lv_iload_n hx hb dX10_takes_109 rfl (lv_at hl 3 rfl) ?_
  obtain ⟨y17, gy17, h⟩ := zb_some h
  have hFc := z_free0 hD hS hA
  refine z_callmi (wc := (zw_mo tt kw (zu bw 1 a15) bj)) (w1 := (zw_mo tt kw y17.2 bj)) (va_runV (As := [.int y16, .int 0, .int x2]) (rest := []) ⟨hx, hb, hml, hown, hts⟩ (c_X10_makes l D tt kw _ (zu bw 1 a15) bj y16 0 x2 y17 gy17) (cwV 3 hts gX10_takes_X10_makes rfl rfl rfl (by decide +kernel) ⟨Nat.le_of_ble_eq_true rfl, Nat.le_of_ble_eq_true rfl⟩) (z_preVm hK hP hD (ci := 10) (q0 := 0) rfl rfl) rfl rfl hl.1 rfl (lv_room (Nat.le_of_ble_eq_true rfl)) dX10_takes_110 ⟨Nat.zero_le _, Nat.zero_le _⟩) hS hFc (fun H locs ny17 hP1 hD1 hk1 hS => ?_)
  have hP := hP1
  have hD := hD1.weaken (fun _ q _ h => hFc q.1 h)
  refine lv_if_ge (tgt := 120) hx hb dX10_takes_113 (by decide) (fun k18 => ?_) (fun k18 => ?_)
  · replace h := z_pos k18 h
    refine lv_iload_n hx hb dX10_takes_120 rfl (lv_at hl 0 rfl) ?_
    exact hfin _ _ _ _ _ _ h rfl hP hD hS dX10_takes_121
  replace h := z_neg k18 h
  refine lv_iconst (v := (-1)) hx hb dX10_takes_116 (by decide) ?_
  refine lv_goto (tgt := 121) hx hb dX10_takes_117 (by decide) ?_
  exact hfin _ _ _ _ _ _ h rfl hP hD hS dX10_takes_121
set_option maxHeartbeats 4000000 in
set_option maxRecDepth 100000 in
theorem c_X10_leaves (l : Launch) (D : va_G) (tt : Nat → ClassId) (kw : Nat → Nat) (sz : Nat) (bw : zV) (bj : zJ) (x1 : Int32) (out : Int32 × zV) (h : f_X10_leaves bw bj x1 = some out) : Met l yX10_leaves wsX10_leaves { frames := 4, cells := 0, slots := 0, locals := 93 } (zPm [.ref (kw 0), .int x1] D tt (zw_mo tt kw bw bj) sz) (zMi .int out.1 D (zw_mo tt kw out.2 bj) (va_A (zw_mo tt kw bw bj) sz)) 0 0 (va_A (zw_mo tt kw bw bj) sz) := by
  refine Met.ofW (cc := cX10_leaves) (maxL := 2) (ret := (some .int)) (by decide) rfl ?_
  intro p e s m args below meth c s₁ B hml hv
  obtain ⟨ha, hsz, hP, hK, hD0⟩ := hv
  have hx := B.exec
  have hb := B.bytes
  have hr := B.returns
  have hts := atoms_spec (ws := wsX10_leaves) B.pre
  have hown : s.vm.findClass RX10 = some m.cls := findClass_of_methodNamed B.named
  have hlocks := B.notSynchronized
  have hi10 : ∀ w ∈ u_ws RX10 TX10 15, w ∈ wsX10_leaves := fun _ h => List.mem_cons_of_mem _ (List.mem_append_right _ h)
  have fl7 := hts (.fieldLink RX10 7 "CapStacksModel" "s" "[I") (by decide +kernel)
  subst hsz
  have hD := hD0.self (sz := s.heap.size)
  generalize hAe : va_A (zw_mo tt kw bw bj) s.heap.size = A at hD ⊢
  have hA : ∀ q : Nat, s.heap.size ≤ q → A q := fun q h => by rw [← hAe]; exact Or.inr h
  have hS : va_S A s.heap s.heap [] := va_S.rf
  have hfin : ∀ (v : Int32) (bw : zV) (pc : Nat) (ls : Array Slot) (H : Heap) (locs : List Loc), some (v, bw) = some out → narrow .int (.int v) = .int v → va_P D vwCl (zw_mo tt kw bw bj) H → va_D A (zw_mo tt kw bw bj) → va_S A s.heap H locs → decode cX10_leaves pc = .ok (.ireturn, 1) → W p l e (headSpec wsX10_leaves { frames := 4, cells := 0, slots := 0, locals := 93 }).room s m args below meth c H locs 0 0 (MQ below (zMi .int out.1 D (zw_mo tt kw out.2 bj) A) args s 0 0 A) (F0 m pc ls [.int v]) := by
    intro v bw pc ls H locs he hn hP hD hS hd
    cases he
    exact W.zret hx hb hr hn (fun t ht hW => ⟨⟨_, (), rfl, ⟨rfl, hn⟩, by rw [ht]; exact hP, hD⟩, hS.F ht⟩) hS.2.2 hd
  generalize MQ below (zMi .int out.1 D (zw_mo tt kw out.2 bj) A) args s 0 0 A = Q at hfin ⊢
  have hl := lv_entry ([.ref (kw 0), .int x1]) (n := 2) (Nat.le_of_ble_eq_true rfl)
  refine W.eq (g2 := F0 m 0 ((lg_sl ([.ref (kw 0), .int x1]) ++ List.replicate (2 - (lg_sl ([.ref (kw 0), .int x1])).length) Slot.unset).toArray) []) (by rw [ha]; exact lg_entry_eq _ _ _) ?_
  generalize (lg_sl ([.ref (kw 0), .int x1]) ++ List.replicate (2 - (lg_sl ([.ref (kw 0), .int x1])).length) Slot.unset).toArray = ls at hl ⊢
  have hl : lv_has ls 2 [(0, .ref (kw 0)), (1, .int x1)] := hl
  rw [f_X10_leaves] at h
  refine lv_aload_n hx hb dX10_leaves_0 rfl (lv_at hl 0 rfl) ?_
  refine lv_iload_n hx hb dX10_leaves_1 rfl (lv_at hl 1 rfl) ?_
  obtain ⟨y1, gy1, h⟩ := zb_some h
  refine z_callr (va_runV (As := [.int x1]) (rest := []) ⟨hx, hb, hml, hown, hts⟩ (c_X10_isHolder l D tt kw bw bj x1 y1 gy1) (cwV 1 hts gX10_leaves_X10_isHolder rfl rfl rfl (by decide +kernel) ⟨Nat.le_of_ble_eq_true rfl, Nat.le_of_ble_eq_true rfl⟩) (z_preVr hK hP (ci := 10) (q0 := 0) rfl rfl) rfl rfl hl.1 rfl (lv_room (Nat.le_of_ble_eq_true rfl)) dX10_leaves_2 ⟨Nat.zero_le _, Nat.zero_le _⟩) (fun ny1 => ?_)
  refine lv_if_ne (tgt := 10) hx hb dX10_leaves_5 (by decide) (fun k2 => ?_) (fun k2 => ?_)
  rotate_left
  · replace h := z_pos k2 h
    refine lv_iconst (v := (-1)) hx hb dX10_leaves_8 (by decide) ?_
    exact hfin _ _ _ _ _ _ h rfl hP hD hS dX10_leaves_9
  replace h := z_neg k2 h
  refine lv_aload_n hx hb dX10_leaves_10 rfl (lv_at hl 0 rfl) ?_
  refine lv_iload_n hx hb dX10_leaves_11 rfl (lv_at hl 1 rfl) ?_
  obtain ⟨y3, gy3, h⟩ := zb_some h
  refine z_callr (va_runV (As := [.int x1]) (rest := []) ⟨hx, hb, hml, hown, hts⟩ (c_X10_hasLeft l D tt kw bw bj x1 y3 gy3) (cwV 1 hts gX10_leaves_X10_hasLeft rfl rfl rfl (by decide +kernel) ⟨Nat.le_of_ble_eq_true rfl, Nat.le_of_ble_eq_true rfl⟩) (z_preVr hK hP (ci := 10) (q0 := 0) rfl rfl) rfl rfl hl.1 rfl (lv_room (Nat.le_of_ble_eq_true rfl)) dX10_leaves_12 ⟨Nat.zero_le _, Nat.zero_le _⟩) (fun ny3 => ?_)
  refine lv_if_eq (tgt := 21) hx hb dX10_leaves_15 (by decide) (fun k4 => ?_) (fun k4 => ?_)
  rotate_left
  · replace h := z_neg k4 h
    refine lv_bipush (v := (-2)) hx hb dX10_leaves_18 (by decide) ?_
    exact hfin _ _ _ _ _ _ h rfl hP hD hS dX10_leaves_20
  replace h := z_pos k4 h
  refine lv_aload_n hx hb dX10_leaves_21 rfl (lv_at hl 0 rfl) ?_
  refine va_get (D := D) (ci := 10) (v := .ref (kw 1)) (C := RX10) (T := TX10) (N := 15) hx hb hts hi10 hown hK.1 hP 0 rfl rfl 0 (by decide) fl7 (fun _ h9 => h9) rfl dX10_leaves_22 ?_
  refine lv_bipush (v := 53) hx hb dX10_leaves_25 (by decide) ?_
  refine lv_iload_n hx hb dX10_leaves_27 rfl (lv_at hl 1 rfl) ?_
  refine lv_iadd hx hb dX10_leaves_28 ?_
  refine lv_aload_n hx hb dX10_leaves_29 rfl (lv_at hl 0 rfl) ?_
  refine va_get (D := D) (ci := 10) (v := .ref (kw 1)) (C := RX10) (T := TX10) (N := 15) hx hb hts hi10 hown hK.1 hP 0 rfl rfl 0 (by decide) fl7 (fun _ h9 => h9) rfl dX10_leaves_30 ?_
  refine lv_iconst (v := 3) hx hb dX10_leaves_33 (by decide) ?_
  refine va_iald hx hb hK.1 hP 1 0 rfl rfl (vp_in_lit 3 213 rfl) dX10_leaves_34 ?_
  refine lv_iconst (v := 1) hx hb dX10_leaves_35 (by decide) ?_
  refine lv_iadd hx hb dX10_leaves_36 ?_
  obtain ⟨q5, h⟩ := zA_some h
  refine va_iast hx hb hK.1 hP hD hS 1 0 rfl rfl q5 dX10_leaves_37 (fun H locs hP hD hS => ?_)
  obtain ⟨a6, ea6, h⟩ := zl_some h
  have hP : va_P D vwCl (zw_mo tt kw (zu bw 1 a6) bj) H := by rw [ea6]; exact hP
  have hD : va_D A (zw_mo tt kw (zu bw 1 a6) bj) := by rw [ea6]; exact hD
  clear ea6
  refine lv_aload_n hx hb dX10_leaves_38 rfl (lv_at hl 0 rfl) ?_
  refine lv_iload_n hx hb dX10_leaves_39 rfl (lv_at hl 1 rfl) ?_
  obtain ⟨y7, gy7, h⟩ := zb_some h
  refine z_callr (va_runV (As := [.int x1]) (rest := []) ⟨hx, hb, hml, hown, hts⟩ (c_X10_allToTake l D tt kw (zu bw 1 a6) bj x1 y7 gy7) (cwV 1 hts gX10_leaves_X10_allToTake rfl rfl rfl (by decide +kernel) ⟨Nat.le_of_ble_eq_true rfl, Nat.le_of_ble_eq_true rfl⟩) (z_preVr hK hP (ci := 10) (q0 := 0) rfl rfl) rfl rfl hl.1 rfl (lv_room (Nat.le_of_ble_eq_true rfl)) dX10_leaves_40 ⟨Nat.zero_le _, Nat.zero_le _⟩) (fun ny7 => ?_)
  exact hfin _ _ _ _ _ _ h rfl hP hD hS dX10_leaves_43
set_option maxHeartbeats 4000000 in
set_option maxRecDepth 100000 in
theorem c_X10_passes (l : Launch) (D : va_G) (tt : Nat → ClassId) (kw : Nat → Nat) (sz : Nat) (bw : zV) (bj : zJ) (x1 : Int32) (out : Int32 × zV) (h : f_X10_passes bw bj x1 = some out) : Met l yX10_passes wsX10_passes { frames := 1, cells := 0, slots := 0, locals := 22 } (zPm [.ref (kw 0), .int x1] D tt (zw_mo tt kw bw bj) sz) (zMi .int out.1 D (zw_mo tt kw out.2 bj) (va_A (zw_mo tt kw bw bj) sz)) 0 0 (va_A (zw_mo tt kw bw bj) sz) := by
  refine Met.ofW (cc := cX10_passes) (maxL := 2) (ret := (some .int)) (by decide) rfl ?_
  intro p e s m args below meth c s₁ B hml hv
  obtain ⟨ha, hsz, hP, hK, hD0⟩ := hv
  have hx := B.exec
  have hb := B.bytes
  have hr := B.returns
  have hts := atoms_spec (ws := wsX10_passes) B.pre
  have hown : s.vm.findClass RX10 = some m.cls := findClass_of_methodNamed B.named
  have hlocks := B.notSynchronized
  have hi10 : ∀ w ∈ u_ws RX10 TX10 15, w ∈ wsX10_passes := fun _ h => List.mem_cons_of_mem _ (List.mem_append_right _ h)
  have fl7 := hts (.fieldLink RX10 7 "CapStacksModel" "s" "[I") (by decide +kernel)
  subst hsz
  have hD := hD0.self (sz := s.heap.size)
  generalize hAe : va_A (zw_mo tt kw bw bj) s.heap.size = A at hD ⊢
  have hA : ∀ q : Nat, s.heap.size ≤ q → A q := fun q h => by rw [← hAe]; exact Or.inr h
  have hS : va_S A s.heap s.heap [] := va_S.rf
  have hfin : ∀ (v : Int32) (bw : zV) (pc : Nat) (ls : Array Slot) (H : Heap) (locs : List Loc), some (v, bw) = some out → narrow .int (.int v) = .int v → va_P D vwCl (zw_mo tt kw bw bj) H → va_D A (zw_mo tt kw bw bj) → va_S A s.heap H locs → decode cX10_passes pc = .ok (.ireturn, 1) → W p l e (headSpec wsX10_passes { frames := 1, cells := 0, slots := 0, locals := 22 }).room s m args below meth c H locs 0 0 (MQ below (zMi .int out.1 D (zw_mo tt kw out.2 bj) A) args s 0 0 A) (F0 m pc ls [.int v]) := by
    intro v bw pc ls H locs he hn hP hD hS hd
    cases he
    exact W.zret hx hb hr hn (fun t ht hW => ⟨⟨_, (), rfl, ⟨rfl, hn⟩, by rw [ht]; exact hP, hD⟩, hS.F ht⟩) hS.2.2 hd
  generalize MQ below (zMi .int out.1 D (zw_mo tt kw out.2 bj) A) args s 0 0 A = Q at hfin ⊢
  have hl := lv_entry ([.ref (kw 0), .int x1]) (n := 2) (Nat.le_of_ble_eq_true rfl)
  refine W.eq (g2 := F0 m 0 ((lg_sl ([.ref (kw 0), .int x1]) ++ List.replicate (2 - (lg_sl ([.ref (kw 0), .int x1])).length) Slot.unset).toArray) []) (by rw [ha]; exact lg_entry_eq _ _ _) ?_
  generalize (lg_sl ([.ref (kw 0), .int x1]) ++ List.replicate (2 - (lg_sl ([.ref (kw 0), .int x1])).length) Slot.unset).toArray = ls at hl ⊢
  have hl : lv_has ls 2 [(0, .ref (kw 0)), (1, .int x1)] := hl
  rw [f_X10_passes] at h
  refine lv_iload_n hx hb dX10_passes_0 rfl (lv_at hl 1 rfl) ?_
  refine lv_iconst (v := 1) hx hb dX10_passes_1 (by decide) ?_
  refine lv_bipush (v := 99) hx hb dX10_passes_2 (by decide) ?_
  obtain ⟨y1, gy1, h⟩ := zb_some h
  refine z_callr (va_runS (As := [.int x1, .int 1, .int 99]) (rest := []) ⟨hx, hb, hml, hown, hts⟩ (c_X10_in l D tt x1 1 99 y1 gy1) (va_cwS 3 hts gX10_passes_X10_in rfl rfl rfl (by decide +kernel) ⟨Nat.le_of_ble_eq_true rfl, Nat.le_of_ble_eq_true rfl⟩) (z_preSr hK (hP.sub (ws' := ([] : va_W)) [] rfl)) rfl rfl hl.1 rfl (lv_room (Nat.le_of_ble_eq_true rfl)) dX10_passes_4 ⟨Nat.zero_le _, Nat.zero_le _⟩) (fun ny1 => ?_)
  refine lv_if_ne (tgt := 12) hx hb dX10_passes_7 (by decide) (fun k2 => ?_) (fun k2 => ?_)
  rotate_left
  · replace h := z_pos k2 h
    refine lv_iconst (v := (-1)) hx hb dX10_passes_10 (by decide) ?_
    exact hfin _ _ _ _ _ _ h rfl hP hD hS dX10_passes_11
  replace h := z_neg k2 h
  refine lv_aload_n hx hb dX10_passes_12 rfl (lv_at hl 0 rfl) ?_
  refine va_get (D := D) (ci := 10) (v := .ref (kw 1)) (C := RX10) (T := TX10) (N := 15) hx hb hts hi10 hown hK.1 hP 0 rfl rfl 0 (by decide) fl7 (fun _ h9 => h9) rfl dX10_passes_13 ?_
  refine lv_iconst (v := 3) hx hb dX10_passes_16 (by decide) ?_
  refine va_iald hx hb hK.1 hP 1 0 rfl rfl (vp_in_lit 3 213 rfl) dX10_passes_17 ?_
  refine lv_iload_n hx hb dX10_passes_18 rfl (lv_at hl 1 rfl) ?_
  refine lv_iadd hx hb dX10_passes_19 ?_
  refine lv_sipush (v := 999) hx hb dX10_passes_20 (by decide) ?_
  refine lv_icmp_le (tgt := 29) hx hb dX10_passes_23 (by decide) (fun k3 => ?_) (fun k3 => ?_)
  rotate_left
  · replace h := z_neg k3 h
    refine lv_bipush (v := (-3)) hx hb dX10_passes_26 (by decide) ?_
    exact hfin _ _ _ _ _ _ h rfl hP hD hS dX10_passes_28
  replace h := z_pos k3 h
  refine lv_aload_n hx hb dX10_passes_29 rfl (lv_at hl 0 rfl) ?_
  refine va_get (D := D) (ci := 10) (v := .ref (kw 1)) (C := RX10) (T := TX10) (N := 15) hx hb hts hi10 hown hK.1 hP 0 rfl rfl 0 (by decide) fl7 (fun _ h9 => h9) rfl dX10_passes_30 ?_
  refine lv_iconst (v := 3) hx hb dX10_passes_33 (by decide) ?_
  refine lv_dup2_11 hx hb dX10_passes_34 rfl rfl ?_
  refine va_iald hx hb hK.1 hP 1 0 rfl rfl (vp_in_lit 3 213 rfl) dX10_passes_35 ?_
  refine lv_iload_n hx hb dX10_passes_36 rfl (lv_at hl 1 rfl) ?_
  refine lv_iadd hx hb dX10_passes_37 ?_
  refine va_iast hx hb hK.1 hP hD hS 1 0 rfl rfl (vp_in_lit 3 213 rfl) dX10_passes_38 (fun H locs hP hD hS => ?_)
  obtain ⟨a4, ea4, h⟩ := zl_some h
  have hP : va_P D vwCl (zw_mo tt kw (zu bw 1 a4) bj) H := by rw [ea4]; exact hP
  have hD : va_D A (zw_mo tt kw (zu bw 1 a4) bj) := by rw [ea4]; exact hD
  clear ea4
  refine lv_aload_n hx hb dX10_passes_39 rfl (lv_at hl 0 rfl) ?_
  refine va_get (D := D) (ci := 10) (v := .ref (kw 1)) (C := RX10) (T := TX10) (N := 15) hx hb hts hi10 hown hK.1 hP 0 rfl rfl 0 (by decide) fl7 (fun _ h9 => h9) rfl dX10_passes_40 ?_
  refine lv_iconst (v := 3) hx hb dX10_passes_43 (by decide) ?_
  refine va_iald hx hb hK.1 hP 1 0 rfl rfl (vp_in_lit 3 213 rfl) dX10_passes_44 ?_
  exact hfin _ _ _ _ _ _ h rfl hP hD hS dX10_passes_45
set_option maxHeartbeats 4000000 in
set_option maxRecDepth 100000 in
theorem c_X10_offers (l : Launch) (D : va_G) (tt : Nat → ClassId) (kw : Nat → Nat) (sz : Nat) (bw : zV) (bj : zJ) (x1 : Int32) (x2 : Int32) (x3 : Int32) (out : Int32 × zV) (h : f_X10_offers bw bj x1 x2 x3 = some out) : Met l yX10_offers wsX10_offers { frames := 3, cells := 0, slots := 0, locals := 70 } (zPm [.ref (kw 0), .int x1, .int x2, .int x3] D tt (zw_mo tt kw bw bj) sz) (zMi .int out.1 D (zw_mo tt kw out.2 bj) (va_A (zw_mo tt kw bw bj) sz)) 0 0 (va_A (zw_mo tt kw bw bj) sz) := by
  refine Met.ofW (cc := cX10_offers) (maxL := 9) (ret := (some .int)) (by decide) rfl ?_
  intro p e s m args below meth c s₁ B hml hv
  obtain ⟨ha, hsz, hP, hK, hD0⟩ := hv
  have hx := B.exec
  have hb := B.bytes
  have hr := B.returns
  have hts := atoms_spec (ws := wsX10_offers) B.pre
  have hown : s.vm.findClass RX10 = some m.cls := findClass_of_methodNamed B.named
  have hlocks := B.notSynchronized
  have hi10 : ∀ w ∈ u_ws RX10 TX10 15, w ∈ wsX10_offers := fun _ h => List.mem_cons_of_mem _ (List.mem_append_right _ h)
  have fl7 := hts (.fieldLink RX10 7 "CapStacksModel" "s" "[I") (by decide +kernel)
  subst hsz
  have hD := hD0.self (sz := s.heap.size)
  generalize hAe : va_A (zw_mo tt kw bw bj) s.heap.size = A at hD ⊢
  have hA : ∀ q : Nat, s.heap.size ≤ q → A q := fun q h => by rw [← hAe]; exact Or.inr h
  have hS : va_S A s.heap s.heap [] := va_S.rf
  have hfin : ∀ (v : Int32) (bw : zV) (pc : Nat) (ls : Array Slot) (H : Heap) (locs : List Loc), some (v, bw) = some out → narrow .int (.int v) = .int v → va_P D vwCl (zw_mo tt kw bw bj) H → va_D A (zw_mo tt kw bw bj) → va_S A s.heap H locs → decode cX10_offers pc = .ok (.ireturn, 1) → W p l e (headSpec wsX10_offers { frames := 3, cells := 0, slots := 0, locals := 70 }).room s m args below meth c H locs 0 0 (MQ below (zMi .int out.1 D (zw_mo tt kw out.2 bj) A) args s 0 0 A) (F0 m pc ls [.int v]) := by
    intro v bw pc ls H locs he hn hP hD hS hd
    cases he
    exact W.zret hx hb hr hn (fun t ht hW => ⟨⟨_, (), rfl, ⟨rfl, hn⟩, by rw [ht]; exact hP, hD⟩, hS.F ht⟩) hS.2.2 hd
  generalize MQ below (zMi .int out.1 D (zw_mo tt kw out.2 bj) A) args s 0 0 A = Q at hfin ⊢
  have b86 : ∀ n : Nat, ∀ (bw : zV) (x1 : Int32) (x2 : Int32) (x4 : Int64) (x6 : Int32) (H : Heap) (locs : List Loc) (ls : Array Slot), va_P D vwCl (zw_mo tt kw bw bj) H → va_D A (zw_mo tt kw bw bj) → va_S A s.heap H locs → lv_has ls 9 [(0, .ref (kw 0)), (1, .int x1), (2, .int x2), (4, .long x4), (6, .int x6)] → f_X10_offers_b86 bj n bw x1 x2 x4 x6 = some out → W p l e (headSpec wsX10_offers { frames := 3, cells := 0, slots := 0, locals := 70 }).room s m args below meth c H locs 0 0 Q (F0 m 86 ls []) := by
    intro n
    induction n with
    | zero =>
      intro bw x1 x2 x4 x6 H locs ls hP hD hS hl h
      cases h
    | succ n ih =>
      intro bw x1 x2 x4 x6 H locs ls hP hD hS hl h
      rw [f_X10_offers_b86] at h
      refine lv_iload hx hb dX10_offers_86 (lv_at hl 4 rfl) ?_
      refine lv_bipush (v := 8) hx hb dX10_offers_88 (by decide) ?_
      refine lv_icmp_ge (tgt := 149) hx hb dX10_offers_90 (by decide) (fun k1 => ?_) (fun k1 => ?_)
      · replace h := z_pos k1 h
        refine lv_iload_n hx hb dX10_offers_149 rfl (lv_at hl 2 rfl) ?_
        refine lv_aload_n hx hb dX10_offers_150 rfl (lv_at hl 0 rfl) ?_
        refine lv_iload_n hx hb dX10_offers_151 rfl (lv_at hl 1 rfl) ?_
        refine lv_iconst (v := 0) hx hb dX10_offers_152 (by decide) ?_
        obtain ⟨y2, gy2, h⟩ := zb_some h
        refine z_callr (va_runV (As := [.int x1, .int 0]) (rest := [.int x2]) ⟨hx, hb, hml, hown, hts⟩ (c_X10_ofClass l D tt kw bw bj x1 0 y2 gy2) (cwV 2 hts gX10_offers_X10_ofClass rfl rfl rfl (by decide +kernel) ⟨Nat.le_of_ble_eq_true rfl, Nat.le_of_ble_eq_true rfl⟩) (z_preVr hK hP (ci := 10) (q0 := 0) rfl rfl) rfl rfl hl.1 rfl (lv_room (Nat.le_of_ble_eq_true rfl)) dX10_offers_153 ⟨Nat.zero_le _, Nat.zero_le _⟩) (fun ny2 => ?_)
        refine lv_imul hx hb dX10_offers_156 ?_
        exact hfin _ _ _ _ _ _ h rfl hP hD hS dX10_offers_157
      replace h := z_neg k1 h
      refine lv_lload hx hb dX10_offers_93 (lv_at hl 3 rfl) ?_
      refine lv_lconst (v := 0) hx hb dX10_offers_95 (by decide) ?_
      refine W.lcmp hx hb dX10_offers_96 ?_
      refine lv_if_ne (tgt := 104) hx hb dX10_offers_97 (by decide) (fun k3 => ?_) (fun k3 => ?_)
      rotate_left
      · replace h := z_pos k3 h
        refine lv_lconst (v := 0) hx hb dX10_offers_100 (by decide) ?_
        refine lv_goto (tgt := 117) hx hb dX10_offers_101 (by decide) ?_
        refine lv_lstore (lv' := [(7, .long (0 : Int64)), (0, .ref (kw 0)), (1, .int x1), (2, .int x2), (4, .long x4), (6, .int x6)]) hx hb dX10_offers_117 hl (by decide) rfl (fun ls hl => ?_)
        refine lv_aload_n hx hb dX10_offers_119 rfl (lv_at hl 1 rfl) ?_
        refine va_get (D := D) (ci := 10) (v := .ref (kw 1)) (C := RX10) (T := TX10) (N := 15) hx hb hts hi10 hown hK.1 hP 0 rfl rfl 0 (by decide) fl7 (fun _ h9 => h9) rfl dX10_offers_120 ?_
        refine lv_bipush (v := 12) hx hb dX10_offers_123 (by decide) ?_
        refine lv_iload hx hb dX10_offers_125 (lv_at hl 5 rfl) ?_
        refine lv_iadd hx hb dX10_offers_127 ?_
        refine lv_lload hx hb dX10_offers_128 (lv_at hl 0 rfl) ?_
        refine lv_l2i hx hb dX10_offers_130 rfl ?_
        obtain ⟨q10, h⟩ := zA_some h
        refine va_iast hx hb hK.1 hP hD hS 1 0 rfl rfl q10 dX10_offers_131 (fun H locs hP hD hS => ?_)
        obtain ⟨a11, ea11, h⟩ := zl_some h
        have hP : va_P D vwCl (zw_mo tt kw (zu bw 1 a11) bj) H := by rw [ea11]; exact hP
        have hD : va_D A (zw_mo tt kw (zu bw 1 a11) bj) := by rw [ea11]; exact hD
        clear ea11
        refine lv_aload_n hx hb dX10_offers_132 rfl (lv_at hl 1 rfl) ?_
        refine va_get (D := D) (ci := 10) (v := .ref (kw 1)) (C := RX10) (T := TX10) (N := 15) hx hb hts hi10 hown hK.1 hP 0 rfl rfl 0 (by decide) fl7 (fun _ h9 => h9) rfl dX10_offers_133 ?_
        refine lv_bipush (v := 20) hx hb dX10_offers_136 (by decide) ?_
        refine lv_iload hx hb dX10_offers_138 (lv_at hl 5 rfl) ?_
        refine lv_iadd hx hb dX10_offers_140 ?_
        refine lv_iconst (v := 0) hx hb dX10_offers_141 (by decide) ?_
        obtain ⟨q12, h⟩ := zA_some h
        refine va_iast hx hb hK.1 hP hD hS 1 0 rfl rfl q12 dX10_offers_142 (fun H locs hP hD hS => ?_)
        obtain ⟨a13, ea13, h⟩ := zl_some h
        have hP : va_P D vwCl (zw_mo tt kw (zu bw 1 a13) bj) H := by rw [ea13]; exact hP
        have hD : va_D A (zw_mo tt kw (zu bw 1 a13) bj) := by rw [ea13]; exact hD
        clear ea13
        refine lv_iinc (v := (x6 + 1)) (lv' := [(6, .int (x6 + 1)), (7, .long (0 : Int64)), (0, .ref (kw 0)), (1, .int x1), (2, .int x2), (4, .long x4)]) hx hb dX10_offers_143 hl (k := 5) rfl rfl (by decide) rfl (fun ls hl => ?_)
        refine lv_goto (tgt := 86) hx hb dX10_offers_146 (by decide) ?_
        exact ih (zu bw 1 a13) x1 x2 x4 (x6 + 1) _ _ _ hP hD hS (lv_sub hl [2, 3, 4, 5, 0] rfl) h
      replace h := z_neg k3 h
      refine lv_iload_n hx hb dX10_offers_104 rfl (lv_at hl 2 rfl) ?_
      refine lv_i2l hx hb dX10_offers_105 rfl ?_
      refine lv_aload_n hx hb dX10_offers_106 rfl (lv_at hl 0 rfl) ?_
      refine lv_iload hx hb dX10_offers_107 (lv_at hl 4 rfl) ?_
      obtain ⟨y4, gy4, h⟩ := zb_some h
      refine z_callr (va_runV (As := [.int x6]) (rest := [.long (Int32.toInt64 x2)]) ⟨hx, hb, hml, hown, hts⟩ (c_X10_commonOf l D tt kw bw bj x6 y4 gy4) (cwV 1 hts gX10_offers_X10_commonOf rfl rfl rfl (by decide +kernel) ⟨Nat.le_of_ble_eq_true rfl, Nat.le_of_ble_eq_true rfl⟩) (z_preVr hK hP (ci := 10) (q0 := 0) rfl rfl) rfl rfl hl.1 rfl (lv_room (Nat.le_of_ble_eq_true rfl)) dX10_offers_109 ⟨Nat.zero_le _, Nat.zero_le _⟩) (fun ny4 => ?_)
      refine lv_i2l hx hb dX10_offers_112 rfl ?_
      refine lv_lmul hx hb dX10_offers_113 ?_
      refine lv_lload hx hb dX10_offers_114 (lv_at hl 3 rfl) ?_
      obtain ⟨q5, h⟩ := zDl_some h
      refine lv_ldiv hx hb dX10_offers_116 q5 ?_
      refine lv_lstore (lv' := [(7, .long (((Int32.toInt64 x2) * (Int32.toInt64 y4)) / x4)), (0, .ref (kw 0)), (1, .int x1), (2, .int x2), (4, .long x4), (6, .int x6)]) hx hb dX10_offers_117 hl (by decide) rfl (fun ls hl => ?_)
      refine lv_aload_n hx hb dX10_offers_119 rfl (lv_at hl 1 rfl) ?_
      refine va_get (D := D) (ci := 10) (v := .ref (kw 1)) (C := RX10) (T := TX10) (N := 15) hx hb hts hi10 hown hK.1 hP 0 rfl rfl 0 (by decide) fl7 (fun _ h9 => h9) rfl dX10_offers_120 ?_
      refine lv_bipush (v := 12) hx hb dX10_offers_123 (by decide) ?_
      refine lv_iload hx hb dX10_offers_125 (lv_at hl 5 rfl) ?_
      refine lv_iadd hx hb dX10_offers_127 ?_
      refine lv_lload hx hb dX10_offers_128 (lv_at hl 0 rfl) ?_
      refine lv_l2i hx hb dX10_offers_130 rfl ?_
      obtain ⟨q6, h⟩ := zA_some h
      refine va_iast hx hb hK.1 hP hD hS 1 0 rfl rfl q6 dX10_offers_131 (fun H locs hP hD hS => ?_)
      obtain ⟨a7, ea7, h⟩ := zl_some h
      have hP : va_P D vwCl (zw_mo tt kw (zu bw 1 a7) bj) H := by rw [ea7]; exact hP
      have hD : va_D A (zw_mo tt kw (zu bw 1 a7) bj) := by rw [ea7]; exact hD
      clear ea7
      refine lv_aload_n hx hb dX10_offers_132 rfl (lv_at hl 1 rfl) ?_
      refine va_get (D := D) (ci := 10) (v := .ref (kw 1)) (C := RX10) (T := TX10) (N := 15) hx hb hts hi10 hown hK.1 hP 0 rfl rfl 0 (by decide) fl7 (fun _ h9 => h9) rfl dX10_offers_133 ?_
      refine lv_bipush (v := 20) hx hb dX10_offers_136 (by decide) ?_
      refine lv_iload hx hb dX10_offers_138 (lv_at hl 5 rfl) ?_
      refine lv_iadd hx hb dX10_offers_140 ?_
      refine lv_iconst (v := 0) hx hb dX10_offers_141 (by decide) ?_
      obtain ⟨q8, h⟩ := zA_some h
      refine va_iast hx hb hK.1 hP hD hS 1 0 rfl rfl q8 dX10_offers_142 (fun H locs hP hD hS => ?_)
      obtain ⟨a9, ea9, h⟩ := zl_some h
      have hP : va_P D vwCl (zw_mo tt kw (zu bw 1 a9) bj) H := by rw [ea9]; exact hP
      have hD : va_D A (zw_mo tt kw (zu bw 1 a9) bj) := by rw [ea9]; exact hD
      clear ea9
      refine lv_iinc (v := (x6 + 1)) (lv' := [(6, .int (x6 + 1)), (7, .long (((Int32.toInt64 x2) * (Int32.toInt64 y4)) / x4)), (0, .ref (kw 0)), (1, .int x1), (2, .int x2), (4, .long x4)]) hx hb dX10_offers_143 hl (k := 5) rfl rfl (by decide) rfl (fun ls hl => ?_)
      refine lv_goto (tgt := 86) hx hb dX10_offers_146 (by decide) ?_
      exact ih (zu bw 1 a9) x1 x2 x4 (x6 + 1) _ _ _ hP hD hS (lv_sub hl [2, 3, 4, 5, 0] rfl) h
  have hl := lv_entry ([.ref (kw 0), .int x1, .int x2, .int x3]) (n := 9) (Nat.le_of_ble_eq_true rfl)
  refine W.eq (g2 := F0 m 0 ((lg_sl ([.ref (kw 0), .int x1, .int x2, .int x3]) ++ List.replicate (9 - (lg_sl ([.ref (kw 0), .int x1, .int x2, .int x3])).length) Slot.unset).toArray) []) (by rw [ha]; exact lg_entry_eq _ _ _) ?_
  generalize (lg_sl ([.ref (kw 0), .int x1, .int x2, .int x3]) ++ List.replicate (9 - (lg_sl ([.ref (kw 0), .int x1, .int x2, .int x3])).length) Slot.unset).toArray = ls at hl ⊢
  have hl : lv_has ls 9 [(0, .ref (kw 0)), (1, .int x1), (2, .int x2), (3, .int x3)] := hl
  rw [f_X10_offers] at h
  refine lv_iload_n hx hb dX10_offers_0 rfl (lv_at hl 1 rfl) ?_
  refine lv_if_eq (tgt := 31) hx hb dX10_offers_1 (by decide) (fun k14 => ?_) (fun k14 => ?_)
  · replace h := z_pos k14 h
    refine lv_iconst (v := (-1)) hx hb dX10_offers_31 (by decide) ?_
    exact hfin _ _ _ _ _ _ h rfl hP hD hS dX10_offers_32
  replace h := z_neg k14 h
  refine lv_aload_n hx hb dX10_offers_4 rfl (lv_at hl 0 rfl) ?_
  refine lv_iload_n hx hb dX10_offers_5 rfl (lv_at hl 1 rfl) ?_
  obtain ⟨y15, gy15, h⟩ := zb_some h
  refine z_callr (va_runV (As := [.int x1]) (rest := []) ⟨hx, hb, hml, hown, hts⟩ (c_X10_isClass l D tt kw bw bj x1 y15 gy15) (cwV 1 hts gX10_offers_X10_isClass rfl rfl rfl (by decide +kernel) ⟨Nat.le_of_ble_eq_true rfl, Nat.le_of_ble_eq_true rfl⟩) (z_preVr hK hP (ci := 10) (q0 := 0) rfl rfl) rfl rfl hl.1 rfl (lv_room (Nat.le_of_ble_eq_true rfl)) dX10_offers_6 ⟨Nat.zero_le _, Nat.zero_le _⟩) (fun ny15 => ?_)
  refine lv_if_eq (tgt := 31) hx hb dX10_offers_9 (by decide) (fun k16 => ?_) (fun k16 => ?_)
  · replace h := z_pos k16 h
    refine lv_iconst (v := (-1)) hx hb dX10_offers_31 (by decide) ?_
    exact hfin _ _ _ _ _ _ h rfl hP hD hS dX10_offers_32
  replace h := z_neg k16 h
  refine lv_iload_n hx hb dX10_offers_12 rfl (lv_at hl 2 rfl) ?_
  refine lv_iconst (v := 1) hx hb dX10_offers_13 (by decide) ?_
  refine lv_sipush (v := 9999) hx hb dX10_offers_14 (by decide) ?_
  obtain ⟨y17, gy17, h⟩ := zb_some h
  refine z_callr (va_runS (As := [.int x2, .int 1, .int 9999]) (rest := []) ⟨hx, hb, hml, hown, hts⟩ (c_X10_in l D tt x2 1 9999 y17 gy17) (va_cwS 3 hts gX10_offers_X10_in rfl rfl rfl (by decide +kernel) ⟨Nat.le_of_ble_eq_true rfl, Nat.le_of_ble_eq_true rfl⟩) (z_preSr hK (hP.sub (ws' := ([] : va_W)) [] rfl)) rfl rfl hl.1 rfl (lv_room (Nat.le_of_ble_eq_true rfl)) dX10_offers_17 ⟨Nat.zero_le _, Nat.zero_le _⟩) (fun ny17 => ?_)
  refine lv_if_eq (tgt := 31) hx hb dX10_offers_20 (by decide) (fun k18 => ?_) (fun k18 => ?_)
  · replace h := z_pos k18 h
    refine lv_iconst (v := (-1)) hx hb dX10_offers_31 (by decide) ?_
    exact hfin _ _ _ _ _ _ h rfl hP hD hS dX10_offers_32
  replace h := z_neg k18 h
  refine lv_aload_n hx hb dX10_offers_23 rfl (lv_at hl 0 rfl) ?_
  refine lv_iload_n hx hb dX10_offers_24 rfl (lv_at hl 3 rfl) ?_
  obtain ⟨y19, gy19, h⟩ := zb_some h
  refine z_callr (va_runV (As := [.int x3]) (rest := []) ⟨hx, hb, hml, hown, hts⟩ (c_X10_isHolder l D tt kw bw bj x3 y19 gy19) (cwV 1 hts gX10_offers_X10_isHolder rfl rfl rfl (by decide +kernel) ⟨Nat.le_of_ble_eq_true rfl, Nat.le_of_ble_eq_true rfl⟩) (z_preVr hK hP (ci := 10) (q0 := 0) rfl rfl) rfl rfl hl.1 rfl (lv_room (Nat.le_of_ble_eq_true rfl)) dX10_offers_25 ⟨Nat.zero_le _, Nat.zero_le _⟩) (fun ny19 => ?_)
  refine lv_if_ne (tgt := 33) hx hb dX10_offers_28 (by decide) (fun k20 => ?_) (fun k20 => ?_)
  rotate_left
  · replace h := z_pos k20 h
    refine lv_iconst (v := (-1)) hx hb dX10_offers_31 (by decide) ?_
    exact hfin _ _ _ _ _ _ h rfl hP hD hS dX10_offers_32
  replace h := z_neg k20 h
  refine lv_aload_n hx hb dX10_offers_33 rfl (lv_at hl 0 rfl) ?_
  obtain ⟨y21, gy21, h⟩ := zb_some h
  refine z_callr (va_runV (As := []) (rest := []) ⟨hx, hb, hml, hown, hts⟩ (c_X10_isRound l D tt kw bw bj y21 gy21) (cwV 0 hts gX10_offers_X10_isRound rfl rfl rfl (by decide +kernel) ⟨Nat.le_of_ble_eq_true rfl, Nat.le_of_ble_eq_true rfl⟩) (z_preVr hK hP (ci := 10) (q0 := 0) rfl rfl) rfl rfl hl.1 rfl (lv_room (Nat.le_of_ble_eq_true rfl)) dX10_offers_34 ⟨Nat.zero_le _, Nat.zero_le _⟩) (fun ny21 => ?_)
  refine lv_if_eq (tgt := 43) hx hb dX10_offers_37 (by decide) (fun k22 => ?_) (fun k22 => ?_)
  rotate_left
  · replace h := z_neg k22 h
    refine lv_bipush (v := (-2)) hx hb dX10_offers_40 (by decide) ?_
    exact hfin _ _ _ _ _ _ h rfl hP hD hS dX10_offers_42
  replace h := z_pos k22 h
  refine lv_aload_n hx hb dX10_offers_43 rfl (lv_at hl 0 rfl) ?_
  refine lv_iconst (v := (-1)) hx hb dX10_offers_44 (by decide) ?_
  obtain ⟨y23, gy23, h⟩ := zb_some h
  refine z_callr (va_runV (As := [.int (-1)]) (rest := []) ⟨hx, hb, hml, hown, hts⟩ (c_X10_commonOf l D tt kw bw bj (-1) y23 gy23) (cwV 1 hts gX10_offers_X10_commonOf rfl rfl rfl (by decide +kernel) ⟨Nat.le_of_ble_eq_true rfl, Nat.le_of_ble_eq_true rfl⟩) (z_preVr hK hP (ci := 10) (q0 := 0) rfl rfl) rfl rfl hl.1 rfl (lv_room (Nat.le_of_ble_eq_true rfl)) dX10_offers_45 ⟨Nat.zero_le _, Nat.zero_le _⟩) (fun ny23 => ?_)
  refine lv_i2l hx hb dX10_offers_48 rfl ?_
  refine lv_lstore (lv' := [(4, .long (Int32.toInt64 y23)), (0, .ref (kw 0)), (1, .int x1), (2, .int x2), (3, .int x3)]) hx hb dX10_offers_49 hl (by decide) rfl (fun ls hl => ?_)
  refine lv_aload_n hx hb dX10_offers_51 rfl (lv_at hl 1 rfl) ?_
  refine va_get (D := D) (ci := 10) (v := .ref (kw 1)) (C := RX10) (T := TX10) (N := 15) hx hb hts hi10 hown hK.1 hP 0 rfl rfl 0 (by decide) fl7 (fun _ h9 => h9) rfl dX10_offers_52 ?_
  refine lv_bipush (v := 8) hx hb dX10_offers_55 (by decide) ?_
  refine lv_iconst (v := 1) hx hb dX10_offers_57 (by decide) ?_
  refine va_iast hx hb hK.1 hP hD hS 1 0 rfl rfl (vp_in_lit 8 213 rfl) dX10_offers_58 (fun H locs hP hD hS => ?_)
  obtain ⟨a24, ea24, h⟩ := zl_some h
  have hP : va_P D vwCl (zw_mo tt kw (zu bw 1 a24) bj) H := by rw [ea24]; exact hP
  have hD : va_D A (zw_mo tt kw (zu bw 1 a24) bj) := by rw [ea24]; exact hD
  clear ea24
  refine lv_aload_n hx hb dX10_offers_59 rfl (lv_at hl 1 rfl) ?_
  refine va_get (D := D) (ci := 10) (v := .ref (kw 1)) (C := RX10) (T := TX10) (N := 15) hx hb hts hi10 hown hK.1 hP 0 rfl rfl 0 (by decide) fl7 (fun _ h9 => h9) rfl dX10_offers_60 ?_
  refine lv_bipush (v := 9) hx hb dX10_offers_63 (by decide) ?_
  refine lv_iload_n hx hb dX10_offers_65 rfl (lv_at hl 2 rfl) ?_
  refine va_iast hx hb hK.1 hP hD hS 1 0 rfl rfl (vp_in_lit 9 213 rfl) dX10_offers_66 (fun H locs hP hD hS => ?_)
  obtain ⟨a25, ea25, h⟩ := zl_some h
  have hP : va_P D vwCl (zw_mo tt kw (zu bw 1 a25) bj) H := by rw [ea25]; exact hP
  have hD : va_D A (zw_mo tt kw (zu bw 1 a25) bj) := by rw [ea25]; exact hD
  clear ea25
  refine lv_aload_n hx hb dX10_offers_67 rfl (lv_at hl 1 rfl) ?_
  refine va_get (D := D) (ci := 10) (v := .ref (kw 1)) (C := RX10) (T := TX10) (N := 15) hx hb hts hi10 hown hK.1 hP 0 rfl rfl 0 (by decide) fl7 (fun _ h9 => h9) rfl dX10_offers_68 ?_
  refine lv_bipush (v := 10) hx hb dX10_offers_71 (by decide) ?_
  refine lv_iload_n hx hb dX10_offers_73 rfl (lv_at hl 3 rfl) ?_
  refine va_iast hx hb hK.1 hP hD hS 1 0 rfl rfl (vp_in_lit 10 213 rfl) dX10_offers_74 (fun H locs hP hD hS => ?_)
  obtain ⟨a26, ea26, h⟩ := zl_some h
  have hP : va_P D vwCl (zw_mo tt kw (zu bw 1 a26) bj) H := by rw [ea26]; exact hP
  have hD : va_D A (zw_mo tt kw (zu bw 1 a26) bj) := by rw [ea26]; exact hD
  clear ea26
  refine lv_aload_n hx hb dX10_offers_75 rfl (lv_at hl 1 rfl) ?_
  refine va_get (D := D) (ci := 10) (v := .ref (kw 1)) (C := RX10) (T := TX10) (N := 15) hx hb hts hi10 hown hK.1 hP 0 rfl rfl 0 (by decide) fl7 (fun _ h9 => h9) rfl dX10_offers_76 ?_
  refine lv_bipush (v := 11) hx hb dX10_offers_79 (by decide) ?_
  refine lv_iload_n hx hb dX10_offers_81 rfl (lv_at hl 4 rfl) ?_
  refine va_iast hx hb hK.1 hP hD hS 1 0 rfl rfl (vp_in_lit 11 213 rfl) dX10_offers_82 (fun H locs hP hD hS => ?_)
  obtain ⟨a27, ea27, h⟩ := zl_some h
  have hP : va_P D vwCl (zw_mo tt kw (zu bw 1 a27) bj) H := by rw [ea27]; exact hP
  have hD : va_D A (zw_mo tt kw (zu bw 1 a27) bj) := by rw [ea27]; exact hD
  clear ea27
  refine lv_iconst (v := 0) hx hb dX10_offers_83 (by decide) ?_
  refine lv_istore (lv' := [(6, .int 0), (4, .long (Int32.toInt64 y23)), (0, .ref (kw 0)), (1, .int x1), (2, .int x2), (3, .int x3)]) hx hb dX10_offers_84 hl (by decide) rfl (fun ls hl => ?_)
  exact b86 1000 (zu bw 1 a27) x1 x2 (Int32.toInt64 y23) 0 _ _ _ hP hD hS (lv_sub hl [2, 3, 4, 1, 0] rfl) h
set_option maxHeartbeats 4000000 in
set_option maxRecDepth 100000 in
theorem c_X10_takesUp (l : Launch) (D : va_G) (tt : Nat → ClassId) (kw : Nat → Nat) (sz : Nat) (bw : zV) (bj : zJ) (x1 : Int32) (x2 : Int32) (out : Int32 × zV) (h : f_X10_takesUp bw bj x1 x2 = some out) : Met l yX10_takesUp wsX10_takesUp { frames := 2, cells := 0, slots := 0, locals := 43 } (zPm [.ref (kw 0), .int x1, .int x2] D tt (zw_mo tt kw bw bj) sz) (zMi .int out.1 D (zw_mo tt kw out.2 bj) (va_A (zw_mo tt kw bw bj) sz)) 0 0 (va_A (zw_mo tt kw bw bj) sz) := by
  refine Met.ofW (cc := cX10_takesUp) (maxL := 4) (ret := (some .int)) (by decide) rfl ?_
  intro p e s m args below meth c s₁ B hml hv
  obtain ⟨ha, hsz, hP, hK, hD0⟩ := hv
  have hx := B.exec
  have hb := B.bytes
  have hr := B.returns
  have hts := atoms_spec (ws := wsX10_takesUp) B.pre
  have hown : s.vm.findClass RX10 = some m.cls := findClass_of_methodNamed B.named
  have hlocks := B.notSynchronized
  have hi10 : ∀ w ∈ u_ws RX10 TX10 15, w ∈ wsX10_takesUp := fun _ h => List.mem_cons_of_mem _ (List.mem_append_right _ h)
  have fl7 := hts (.fieldLink RX10 7 "CapStacksModel" "s" "[I") (by decide +kernel)
  subst hsz
  have hD := hD0.self (sz := s.heap.size)
  generalize hAe : va_A (zw_mo tt kw bw bj) s.heap.size = A at hD ⊢
  have hA : ∀ q : Nat, s.heap.size ≤ q → A q := fun q h => by rw [← hAe]; exact Or.inr h
  have hS : va_S A s.heap s.heap [] := va_S.rf
  have hfin : ∀ (v : Int32) (bw : zV) (pc : Nat) (ls : Array Slot) (H : Heap) (locs : List Loc), some (v, bw) = some out → narrow .int (.int v) = .int v → va_P D vwCl (zw_mo tt kw bw bj) H → va_D A (zw_mo tt kw bw bj) → va_S A s.heap H locs → decode cX10_takesUp pc = .ok (.ireturn, 1) → W p l e (headSpec wsX10_takesUp { frames := 2, cells := 0, slots := 0, locals := 43 }).room s m args below meth c H locs 0 0 (MQ below (zMi .int out.1 D (zw_mo tt kw out.2 bj) A) args s 0 0 A) (F0 m pc ls [.int v]) := by
    intro v bw pc ls H locs he hn hP hD hS hd
    cases he
    exact W.zret hx hb hr hn (fun t ht hW => ⟨⟨_, (), rfl, ⟨rfl, hn⟩, by rw [ht]; exact hP, hD⟩, hS.F ht⟩) hS.2.2 hd
  generalize MQ below (zMi .int out.1 D (zw_mo tt kw out.2 bj) A) args s 0 0 A = Q at hfin ⊢
  have hl := lv_entry ([.ref (kw 0), .int x1, .int x2]) (n := 4) (Nat.le_of_ble_eq_true rfl)
  refine W.eq (g2 := F0 m 0 ((lg_sl ([.ref (kw 0), .int x1, .int x2]) ++ List.replicate (4 - (lg_sl ([.ref (kw 0), .int x1, .int x2])).length) Slot.unset).toArray) []) (by rw [ha]; exact lg_entry_eq _ _ _) ?_
  generalize (lg_sl ([.ref (kw 0), .int x1, .int x2]) ++ List.replicate (4 - (lg_sl ([.ref (kw 0), .int x1, .int x2])).length) Slot.unset).toArray = ls at hl ⊢
  have hl : lv_has ls 4 [(0, .ref (kw 0)), (1, .int x1), (2, .int x2)] := hl
  rw [f_X10_takesUp] at h
  refine lv_aload_n hx hb dX10_takesUp_0 rfl (lv_at hl 0 rfl) ?_
  refine lv_iload_n hx hb dX10_takesUp_1 rfl (lv_at hl 1 rfl) ?_
  obtain ⟨y1, gy1, h⟩ := zb_some h
  refine z_callr (va_runV (As := [.int x1]) (rest := []) ⟨hx, hb, hml, hown, hts⟩ (c_X10_isHolder l D tt kw bw bj x1 y1 gy1) (cwV 1 hts gX10_takesUp_X10_isHolder rfl rfl rfl (by decide +kernel) ⟨Nat.le_of_ble_eq_true rfl, Nat.le_of_ble_eq_true rfl⟩) (z_preVr hK hP (ci := 10) (q0 := 0) rfl rfl) rfl rfl hl.1 rfl (lv_room (Nat.le_of_ble_eq_true rfl)) dX10_takesUp_2 ⟨Nat.zero_le _, Nat.zero_le _⟩) (fun ny1 => ?_)
  refine lv_if_eq (tgt := 19) hx hb dX10_takesUp_5 (by decide) (fun k2 => ?_) (fun k2 => ?_)
  · replace h := z_pos k2 h
    refine lv_iconst (v := (-1)) hx hb dX10_takesUp_19 (by decide) ?_
    exact hfin _ _ _ _ _ _ h rfl hP hD hS dX10_takesUp_20
  replace h := z_neg k2 h
  refine lv_iload_n hx hb dX10_takesUp_8 rfl (lv_at hl 2 rfl) ?_
  refine lv_iconst (v := 1) hx hb dX10_takesUp_9 (by decide) ?_
  refine lv_sipush (v := 9999) hx hb dX10_takesUp_10 (by decide) ?_
  obtain ⟨y3, gy3, h⟩ := zb_some h
  refine z_callr (va_runS (As := [.int x2, .int 1, .int 9999]) (rest := []) ⟨hx, hb, hml, hown, hts⟩ (c_X10_in l D tt x2 1 9999 y3 gy3) (va_cwS 3 hts gX10_takesUp_X10_in rfl rfl rfl (by decide +kernel) ⟨Nat.le_of_ble_eq_true rfl, Nat.le_of_ble_eq_true rfl⟩) (z_preSr hK (hP.sub (ws' := ([] : va_W)) [] rfl)) rfl rfl hl.1 rfl (lv_room (Nat.le_of_ble_eq_true rfl)) dX10_takesUp_13 ⟨Nat.zero_le _, Nat.zero_le _⟩) (fun ny3 => ?_)
  refine lv_if_ne (tgt := 21) hx hb dX10_takesUp_16 (by decide) (fun k4 => ?_) (fun k4 => ?_)
  rotate_left
  · replace h := z_pos k4 h
    refine lv_iconst (v := (-1)) hx hb dX10_takesUp_19 (by decide) ?_
    exact hfin _ _ _ _ _ _ h rfl hP hD hS dX10_takesUp_20
  replace h := z_neg k4 h
  refine lv_aload_n hx hb dX10_takesUp_21 rfl (lv_at hl 0 rfl) ?_
  refine va_get (D := D) (ci := 10) (v := .ref (kw 1)) (C := RX10) (T := TX10) (N := 15) hx hb hts hi10 hown hK.1 hP 0 rfl rfl 0 (by decide) fl7 (fun _ h9 => h9) rfl dX10_takesUp_22 ?_
  refine lv_bipush (v := 12) hx hb dX10_takesUp_25 (by decide) ?_
  refine lv_iload_n hx hb dX10_takesUp_27 rfl (lv_at hl 1 rfl) ?_
  refine lv_iadd hx hb dX10_takesUp_28 ?_
  obtain ⟨q5, h⟩ := zA_some h
  refine va_iald hx hb hK.1 hP 1 0 rfl rfl q5 dX10_takesUp_29 ?_
  refine lv_aload_n hx hb dX10_takesUp_30 rfl (lv_at hl 0 rfl) ?_
  refine va_get (D := D) (ci := 10) (v := .ref (kw 1)) (C := RX10) (T := TX10) (N := 15) hx hb hts hi10 hown hK.1 hP 0 rfl rfl 0 (by decide) fl7 (fun _ h9 => h9) rfl dX10_takesUp_31 ?_
  refine lv_bipush (v := 20) hx hb dX10_takesUp_34 (by decide) ?_
  refine lv_iload_n hx hb dX10_takesUp_36 rfl (lv_at hl 1 rfl) ?_
  refine lv_iadd hx hb dX10_takesUp_37 ?_
  obtain ⟨q6, h⟩ := zA_some h
  refine va_iald hx hb hK.1 hP 1 0 rfl rfl q6 dX10_takesUp_38 ?_
  refine lv_isub hx hb dX10_takesUp_39 ?_
  refine lv_istore_n (lv' := [(3, .int (((bw 1) (12 + x1).toNatClampNeg) - ((bw 1) (20 + x1).toNatClampNeg))), (0, .ref (kw 0)), (1, .int x1), (2, .int x2)]) hx hb dX10_takesUp_40 rfl hl (by decide) rfl (fun ls hl => ?_)
  refine lv_aload_n hx hb dX10_takesUp_41 rfl (lv_at hl 1 rfl) ?_
  obtain ⟨y7, gy7, h⟩ := zb_some h
  refine z_callr (va_runV (As := []) (rest := []) ⟨hx, hb, hml, hown, hts⟩ (c_X10_isRound l D tt kw bw bj y7 gy7) (cwV 0 hts gX10_takesUp_X10_isRound rfl rfl rfl (by decide +kernel) ⟨Nat.le_of_ble_eq_true rfl, Nat.le_of_ble_eq_true rfl⟩) (z_preVr hK hP (ci := 10) (q0 := 0) rfl rfl) rfl rfl hl.1 rfl (lv_room (Nat.le_of_ble_eq_true rfl)) dX10_takesUp_42 ⟨Nat.zero_le _, Nat.zero_le _⟩) (fun ny7 => ?_)
  refine lv_if_eq (tgt := 53) hx hb dX10_takesUp_45 (by decide) (fun k8 => ?_) (fun k8 => ?_)
  · replace h := z_pos k8 h
    refine lv_bipush (v := (-2)) hx hb dX10_takesUp_53 (by decide) ?_
    exact hfin _ _ _ _ _ _ h rfl hP hD hS dX10_takesUp_55
  replace h := z_neg k8 h
  refine lv_iload_n hx hb dX10_takesUp_48 rfl (lv_at hl 0 rfl) ?_
  refine lv_iload_n hx hb dX10_takesUp_49 rfl (lv_at hl 3 rfl) ?_
  refine lv_icmp_ge (tgt := 56) hx hb dX10_takesUp_50 (by decide) (fun k9 => ?_) (fun k9 => ?_)
  rotate_left
  · replace h := z_neg k9 h
    refine lv_bipush (v := (-2)) hx hb dX10_takesUp_53 (by decide) ?_
    exact hfin _ _ _ _ _ _ h rfl hP hD hS dX10_takesUp_55
  replace h := z_pos k9 h
  refine lv_aload_n hx hb dX10_takesUp_56 rfl (lv_at hl 1 rfl) ?_
  refine va_get (D := D) (ci := 10) (v := .ref (kw 1)) (C := RX10) (T := TX10) (N := 15) hx hb hts hi10 hown hK.1 hP 0 rfl rfl 0 (by decide) fl7 (fun _ h9 => h9) rfl dX10_takesUp_57 ?_
  refine lv_bipush (v := 20) hx hb dX10_takesUp_60 (by decide) ?_
  refine lv_iload_n hx hb dX10_takesUp_62 rfl (lv_at hl 2 rfl) ?_
  refine lv_iadd hx hb dX10_takesUp_63 ?_
  refine lv_dup2_11 hx hb dX10_takesUp_64 rfl rfl ?_
  refine va_iald hx hb hK.1 hP 1 0 rfl rfl q6 dX10_takesUp_65 ?_
  refine lv_iload_n hx hb dX10_takesUp_66 rfl (lv_at hl 3 rfl) ?_
  refine lv_iadd hx hb dX10_takesUp_67 ?_
  refine va_iast hx hb hK.1 hP hD hS 1 0 rfl rfl q6 dX10_takesUp_68 (fun H locs hP hD hS => ?_)
  obtain ⟨a10, ea10, h⟩ := zl_some h
  have hP : va_P D vwCl (zw_mo tt kw (zu bw 1 a10) bj) H := by rw [ea10]; exact hP
  have hD : va_D A (zw_mo tt kw (zu bw 1 a10) bj) := by rw [ea10]; exact hD
  clear ea10
  refine lv_iload_n hx hb dX10_takesUp_69 rfl (lv_at hl 0 rfl) ?_
  refine lv_iload_n hx hb dX10_takesUp_70 rfl (lv_at hl 3 rfl) ?_
  refine lv_isub hx hb dX10_takesUp_71 ?_
  exact hfin _ _ _ _ _ _ h rfl hP hD hS dX10_takesUp_72
set_option maxHeartbeats 4000000 in
set_option maxRecDepth 100000 in
theorem c_X10_closes (l : Launch) (D : va_G) (tt : Nat → ClassId) (kw : Nat → Nat) (sz : Nat) (bw : zV) (bj : zJ)  (out : Int32 × zV) (h : f_X10_closes bw bj = some out) : Met l yX10_closes wsX10_closes { frames := 2, cells := 0, slots := 0, locals := 47 } (zPm [.ref (kw 0)] D tt (zw_mo tt kw bw bj) sz) (zMi .int out.1 D (zw_mo tt kw out.2 bj) (va_A (zw_mo tt kw bw bj) sz)) 0 0 (va_A (zw_mo tt kw bw bj) sz) := by
  refine Met.ofW (cc := cX10_closes) (maxL := 6) (ret := (some .int)) (by decide) rfl ?_
  intro p e s m args below meth c s₁ B hml hv
  obtain ⟨ha, hsz, hP, hK, hD0⟩ := hv
  have hx := B.exec
  have hb := B.bytes
  have hr := B.returns
  have hts := atoms_spec (ws := wsX10_closes) B.pre
  have hown : s.vm.findClass RX10 = some m.cls := findClass_of_methodNamed B.named
  have hlocks := B.notSynchronized
  have hi10 : ∀ w ∈ u_ws RX10 TX10 15, w ∈ wsX10_closes := fun _ h => List.mem_cons_of_mem _ (List.mem_append_right _ h)
  have fl7 := hts (.fieldLink RX10 7 "CapStacksModel" "s" "[I") (by decide +kernel)
  subst hsz
  have hD := hD0.self (sz := s.heap.size)
  generalize hAe : va_A (zw_mo tt kw bw bj) s.heap.size = A at hD ⊢
  have hA : ∀ q : Nat, s.heap.size ≤ q → A q := fun q h => by rw [← hAe]; exact Or.inr h
  have hS : va_S A s.heap s.heap [] := va_S.rf
  have hfin : ∀ (v : Int32) (bw : zV) (pc : Nat) (ls : Array Slot) (H : Heap) (locs : List Loc), some (v, bw) = some out → narrow .int (.int v) = .int v → va_P D vwCl (zw_mo tt kw bw bj) H → va_D A (zw_mo tt kw bw bj) → va_S A s.heap H locs → decode cX10_closes pc = .ok (.ireturn, 1) → W p l e (headSpec wsX10_closes { frames := 2, cells := 0, slots := 0, locals := 47 }).room s m args below meth c H locs 0 0 (MQ below (zMi .int out.1 D (zw_mo tt kw out.2 bj) A) args s 0 0 A) (F0 m pc ls [.int v]) := by
    intro v bw pc ls H locs he hn hP hD hS hd
    cases he
    exact W.zret hx hb hr hn (fun t ht hW => ⟨⟨_, (), rfl, ⟨rfl, hn⟩, by rw [ht]; exact hP, hD⟩, hS.F ht⟩) hS.2.2 hd
  generalize MQ below (zMi .int out.1 D (zw_mo tt kw out.2 bj) A) args s 0 0 A = Q at hfin ⊢
  have b223 : ∀ n : Nat, ∀ (bw : zV) (x1 : Int32) (x5 : Int32) (H : Heap) (locs : List Loc) (ls : Array Slot), va_P D vwCl (zw_mo tt kw bw bj) H → va_D A (zw_mo tt kw bw bj) → va_S A s.heap H locs → lv_has ls 6 [(0, .ref (kw 0)), (1, .int x1), (5, .int x5)] → f_X10_closes_b223 bj n bw x1 x5 = some out → W p l e (headSpec wsX10_closes { frames := 2, cells := 0, slots := 0, locals := 47 }).room s m args below meth c H locs 0 0 Q (F0 m 223 ls []) := by
    intro n
    induction n with
    | zero =>
      intro bw x1 x5 H locs ls hP hD hS hl h
      cases h
    | succ n ih =>
      intro bw x1 x5 H locs ls hP hD hS hl h
      rw [f_X10_closes_b223] at h
      refine lv_iload hx hb dX10_closes_223 (lv_at hl 2 rfl) ?_
      refine lv_bipush (v := 20) hx hb dX10_closes_225 (by decide) ?_
      refine lv_icmp_ge (tgt := 247) hx hb dX10_closes_227 (by decide) (fun k1 => ?_) (fun k1 => ?_)
      · replace h := z_pos k1 h
        refine lv_iload_n hx hb dX10_closes_247 rfl (lv_at hl 1 rfl) ?_
        exact hfin _ _ _ _ _ _ h rfl hP hD hS dX10_closes_248
      replace h := z_neg k1 h
      refine lv_aload_n hx hb dX10_closes_230 rfl (lv_at hl 0 rfl) ?_
      refine va_get (D := D) (ci := 10) (v := .ref (kw 1)) (C := RX10) (T := TX10) (N := 15) hx hb hts hi10 hown hK.1 hP 0 rfl rfl 0 (by decide) fl7 (fun _ h9 => h9) rfl dX10_closes_231 ?_
      refine lv_bipush (v := 8) hx hb dX10_closes_234 (by decide) ?_
      refine lv_iload hx hb dX10_closes_236 (lv_at hl 2 rfl) ?_
      refine lv_iadd hx hb dX10_closes_238 ?_
      refine lv_iconst (v := 0) hx hb dX10_closes_239 (by decide) ?_
      obtain ⟨q2, h⟩ := zA_some h
      refine va_iast hx hb hK.1 hP hD hS 1 0 rfl rfl q2 dX10_closes_240 (fun H locs hP hD hS => ?_)
      obtain ⟨a3, ea3, h⟩ := zl_some h
      have hP : va_P D vwCl (zw_mo tt kw (zu bw 1 a3) bj) H := by rw [ea3]; exact hP
      have hD : va_D A (zw_mo tt kw (zu bw 1 a3) bj) := by rw [ea3]; exact hD
      clear ea3
      refine lv_iinc (v := (x5 + 1)) (lv' := [(5, .int (x5 + 1)), (0, .ref (kw 0)), (1, .int x1)]) hx hb dX10_closes_241 hl (k := 2) rfl rfl (by decide) rfl (fun ls hl => ?_)
      refine lv_goto (tgt := 223) hx hb dX10_closes_244 (by decide) ?_
      exact ih (zu bw 1 a3) x1 (x5 + 1) _ _ _ hP hD hS (lv_sub hl [1, 2, 0] rfl) h
  have b106 : ∀ n : Nat, ∀ (bw : zV) (x1 : Int32) (x2 : Int32) (x3 : Int32) (x4 : Int32) (x5 : Int32) (H : Heap) (locs : List Loc) (ls : Array Slot), va_P D vwCl (zw_mo tt kw bw bj) H → va_D A (zw_mo tt kw bw bj) → va_S A s.heap H locs → lv_has ls 6 [(0, .ref (kw 0)), (1, .int x1), (2, .int x2), (3, .int x3), (4, .int x4), (5, .int x5)] → f_X10_closes_b106 bj n bw x1 x2 x3 x4 x5 = some out → W p l e (headSpec wsX10_closes { frames := 2, cells := 0, slots := 0, locals := 47 }).room s m args below meth c H locs 0 0 Q (F0 m 106 ls []) := by
    intro n
    induction n with
    | zero =>
      intro bw x1 x2 x3 x4 x5 H locs ls hP hD hS hl h
      cases h
    | succ n ih =>
      intro bw x1 x2 x3 x4 x5 H locs ls hP hD hS hl h
      rw [f_X10_closes_b106] at h
      refine lv_iload hx hb dX10_closes_106 (lv_at hl 5 rfl) ?_
      refine lv_bipush (v := 8) hx hb dX10_closes_108 (by decide) ?_
      refine lv_icmp_ge (tgt := 156) hx hb dX10_closes_110 (by decide) (fun k4 => ?_) (fun k4 => ?_)
      rotate_left
      · replace h := z_neg k4 h
        refine lv_aload_n hx hb dX10_closes_113 rfl (lv_at hl 0 rfl) ?_
        refine va_get (D := D) (ci := 10) (v := .ref (kw 1)) (C := RX10) (T := TX10) (N := 15) hx hb hts hi10 hown hK.1 hP 0 rfl rfl 0 (by decide) fl7 (fun _ h9 => h9) rfl dX10_closes_114 ?_
        refine lv_bipush (v := 20) hx hb dX10_closes_117 (by decide) ?_
        refine lv_iload hx hb dX10_closes_119 (lv_at hl 5 rfl) ?_
        refine lv_iadd hx hb dX10_closes_121 ?_
        obtain ⟨q13, h⟩ := zA_some h
        refine va_iald hx hb hK.1 hP 1 0 rfl rfl q13 dX10_closes_122 ?_
        refine lv_if_le (tgt := 146) hx hb dX10_closes_123 (by decide) (fun k14 => ?_) (fun k14 => ?_)
        · replace h := z_pos k14 h
          refine lv_iload hx hb dX10_closes_146 (lv_at hl 4 rfl) ?_
          refine lv_istore (lv' := [(4, .int x4), (0, .ref (kw 0)), (1, .int x1), (2, .int x2), (3, .int x3), (5, .int x5)]) hx hb dX10_closes_148 hl (by decide) rfl (fun ls hl => ?_)
          refine lv_iinc (v := (x5 + 1)) (lv' := [(5, .int (x5 + 1)), (4, .int x4), (0, .ref (kw 0)), (1, .int x1), (2, .int x2), (3, .int x3)]) hx hb dX10_closes_150 hl (k := 5) rfl rfl (by decide) rfl (fun ls hl => ?_)
          refine lv_goto (tgt := 106) hx hb dX10_closes_153 (by decide) ?_
          exact ih bw x1 x2 x3 x4 (x5 + 1) _ _ _ hP hD hS (lv_sub hl [2, 3, 4, 5, 1, 0] rfl) h
        replace h := z_neg k14 h
        refine lv_aload_n hx hb dX10_closes_126 rfl (lv_at hl 0 rfl) ?_
        refine lv_iload hx hb dX10_closes_127 (lv_at hl 5 rfl) ?_
        refine lv_iload_n hx hb dX10_closes_129 rfl (lv_at hl 3 rfl) ?_
        refine lv_aload_n hx hb dX10_closes_130 rfl (lv_at hl 0 rfl) ?_
        refine va_get (D := D) (ci := 10) (v := .ref (kw 1)) (C := RX10) (T := TX10) (N := 15) hx hb hts hi10 hown hK.1 hP 0 rfl rfl 0 (by decide) fl7 (fun _ h9 => h9) rfl dX10_closes_131 ?_
        refine lv_bipush (v := 20) hx hb dX10_closes_134 (by decide) ?_
        refine lv_iload hx hb dX10_closes_136 (lv_at hl 5 rfl) ?_
        refine lv_iadd hx hb dX10_closes_138 ?_
        refine va_iald hx hb hK.1 hP 1 0 rfl rfl q13 dX10_closes_139 ?_
        obtain ⟨y15, gy15, h⟩ := zb_some h
        have hFc := z_free0 hD hS hA
        refine z_callmi (wc := (zw_mo tt kw bw bj)) (w1 := (zw_mo tt kw y15.2 bj)) (va_runV (As := [.int x5, .int x3, .int ((bw 1) (20 + x5).toNatClampNeg)]) (rest := []) ⟨hx, hb, hml, hown, hts⟩ (c_X10_makes l D tt kw _ bw bj x5 x3 ((bw 1) (20 + x5).toNatClampNeg) y15 gy15) (cwV 3 hts gX10_closes_X10_makes rfl rfl rfl (by decide +kernel) ⟨Nat.le_of_ble_eq_true rfl, Nat.le_of_ble_eq_true rfl⟩) (z_preVm hK hP hD (ci := 10) (q0 := 0) rfl rfl) rfl rfl hl.1 rfl (lv_room (Nat.le_of_ble_eq_true rfl)) dX10_closes_140 ⟨Nat.zero_le _, Nat.zero_le _⟩) hS hFc (fun H locs ny15 hP1 hD1 hk1 hS => ?_)
        have hP := hP1
        have hD := hD1.weaken (fun _ q _ h => hFc q.1 h)
        refine lv_goto (tgt := 148) hx hb dX10_closes_143 (by decide) ?_
        refine lv_istore (lv' := [(4, .int y15.1), (0, .ref (kw 0)), (1, .int x1), (2, .int x2), (3, .int x3), (5, .int x5)]) hx hb dX10_closes_148 hl (by decide) rfl (fun ls hl => ?_)
        refine lv_iinc (v := (x5 + 1)) (lv' := [(5, .int (x5 + 1)), (4, .int y15.1), (0, .ref (kw 0)), (1, .int x1), (2, .int x2), (3, .int x3)]) hx hb dX10_closes_150 hl (k := 5) rfl rfl (by decide) rfl (fun ls hl => ?_)
        refine lv_goto (tgt := 106) hx hb dX10_closes_153 (by decide) ?_
        exact ih y15.2 x1 x2 x3 y15.1 (x5 + 1) _ _ _ hP hD hS (lv_sub hl [2, 3, 4, 5, 1, 0] rfl) h
      replace h := z_pos k4 h
      refine lv_iload_n hx hb dX10_closes_156 rfl (lv_at hl 2 rfl) ?_
      refine lv_if_le (tgt := 176) hx hb dX10_closes_157 (by decide) (fun k5 => ?_) (fun k5 => ?_)
      · replace h := z_pos k5 h
        refine lv_iload hx hb dX10_closes_176 (lv_at hl 4 rfl) ?_
        refine lv_istore (lv' := [(4, .int x4), (0, .ref (kw 0)), (1, .int x1), (2, .int x2), (3, .int x3), (5, .int x5)]) hx hb dX10_closes_178 hl (by decide) rfl (fun ls hl => ?_)
        refine lv_aload_n hx hb dX10_closes_180 rfl (lv_at hl 1 rfl) ?_
        refine va_get (D := D) (ci := 10) (v := .ref (kw 1)) (C := RX10) (T := TX10) (N := 15) hx hb hts hi10 hown hK.1 hP 0 rfl rfl 0 (by decide) fl7 (fun _ h9 => h9) rfl dX10_closes_181 ?_
        refine lv_iconst (v := 4) hx hb dX10_closes_184 (by decide) ?_
        refine lv_dup2_11 hx hb dX10_closes_185 rfl rfl ?_
        refine va_iald hx hb hK.1 hP 1 0 rfl rfl (vp_in_lit 4 213 rfl) dX10_closes_186 ?_
        refine lv_aload_n hx hb dX10_closes_187 rfl (lv_at hl 1 rfl) ?_
        refine va_get (D := D) (ci := 10) (v := .ref (kw 1)) (C := RX10) (T := TX10) (N := 15) hx hb hts hi10 hown hK.1 hP 0 rfl rfl 0 (by decide) fl7 (fun _ h9 => h9) rfl dX10_closes_188 ?_
        refine lv_bipush (v := 10) hx hb dX10_closes_191 (by decide) ?_
        refine va_iald hx hb hK.1 hP 1 0 rfl rfl (vp_in_lit 10 213 rfl) dX10_closes_193 ?_
        refine lv_iadd hx hb dX10_closes_194 ?_
        refine va_iast hx hb hK.1 hP hD hS 1 0 rfl rfl (vp_in_lit 4 213 rfl) dX10_closes_195 (fun H locs hP hD hS => ?_)
        obtain ⟨a6, ea6, h⟩ := zl_some h
        have hP : va_P D vwCl (zw_mo tt kw (zu bw 1 a6) bj) H := by rw [ea6]; exact hP
        have hD : va_D A (zw_mo tt kw (zu bw 1 a6) bj) := by rw [ea6]; exact hD
        clear ea6
        refine lv_aload_n hx hb dX10_closes_196 rfl (lv_at hl 1 rfl) ?_
        refine va_get (D := D) (ci := 10) (v := .ref (kw 1)) (C := RX10) (T := TX10) (N := 15) hx hb hts hi10 hown hK.1 hP 0 rfl rfl 0 (by decide) fl7 (fun _ h9 => h9) rfl dX10_closes_197 ?_
        refine lv_bipush (v := 7) hx hb dX10_closes_200 (by decide) ?_
        refine lv_dup2_11 hx hb dX10_closes_202 rfl rfl ?_
        refine va_iald hx hb hK.1 hP 1 0 rfl rfl (vp_in_lit 7 213 rfl) dX10_closes_203 ?_
        refine lv_aload_n hx hb dX10_closes_204 rfl (lv_at hl 1 rfl) ?_
        refine va_get (D := D) (ci := 10) (v := .ref (kw 1)) (C := RX10) (T := TX10) (N := 15) hx hb hts hi10 hown hK.1 hP 0 rfl rfl 0 (by decide) fl7 (fun _ h9 => h9) rfl dX10_closes_205 ?_
        refine lv_bipush (v := 10) hx hb dX10_closes_208 (by decide) ?_
        refine va_iald hx hb hK.1 hP 1 0 rfl rfl (vp_in_lit 10 213 rfl) dX10_closes_210 ?_
        refine lv_aload_n hx hb dX10_closes_211 rfl (lv_at hl 1 rfl) ?_
        refine lv_iload_n hx hb dX10_closes_212 rfl (lv_at hl 4 rfl) ?_
        refine lv_iconst (v := 0) hx hb dX10_closes_213 (by decide) ?_
        obtain ⟨y7, gy7, h⟩ := zb_some h
        refine z_callr (va_runV (As := [.int x3, .int 0]) (rest := [.int (a6 (10 : Int32).toNatClampNeg), .int (a6 (7 : Int32).toNatClampNeg), .int 7, .ref (kw 1)]) ⟨hx, hb, hml, hown, hts⟩ (c_X10_ofClass l D tt kw (zu bw 1 a6) bj x3 0 y7 gy7) (cwV 2 hts gX10_closes_X10_ofClass rfl rfl rfl (by decide +kernel) ⟨Nat.le_of_ble_eq_true rfl, Nat.le_of_ble_eq_true rfl⟩) (z_preVr hK hP (ci := 10) (q0 := 0) rfl rfl) rfl rfl hl.1 rfl (lv_room (Nat.le_of_ble_eq_true rfl)) dX10_closes_214 ⟨Nat.zero_le _, Nat.zero_le _⟩) (fun ny7 => ?_)
        refine lv_imul hx hb dX10_closes_217 ?_
        refine lv_iadd hx hb dX10_closes_218 ?_
        refine va_iast hx hb hK.1 hP hD hS 1 0 rfl rfl (vp_in_lit 7 213 rfl) dX10_closes_219 (fun H locs hP hD hS => ?_)
        obtain ⟨a8, ea8, h⟩ := zl_some h
        have hP : va_P D vwCl (zw_mo tt kw (zu bw 1 a8) bj) H := by rw [ea8]; exact hP
        have hD : va_D A (zw_mo tt kw (zu bw 1 a8) bj) := by rw [ea8]; exact hD
        clear ea8
        refine lv_iconst (v := 0) hx hb dX10_closes_220 (by decide) ?_
        refine lv_istore (lv' := [(5, .int 0), (4, .int x4), (0, .ref (kw 0)), (1, .int x1), (2, .int x2), (3, .int x3)]) hx hb dX10_closes_221 hl (by decide) rfl (fun ls hl => ?_)
        exact b223 1000 (zu bw 1 a8) x1 0 _ _ _ hP hD hS (lv_sub hl [2, 3, 0] rfl) h
      replace h := z_neg k5 h
      refine lv_aload_n hx hb dX10_closes_160 rfl (lv_at hl 0 rfl) ?_
      refine lv_aload_n hx hb dX10_closes_161 rfl (lv_at hl 0 rfl) ?_
      refine va_get (D := D) (ci := 10) (v := .ref (kw 1)) (C := RX10) (T := TX10) (N := 15) hx hb hts hi10 hown hK.1 hP 0 rfl rfl 0 (by decide) fl7 (fun _ h9 => h9) rfl dX10_closes_162 ?_
      refine lv_bipush (v := 11) hx hb dX10_closes_165 (by decide) ?_
      refine va_iald hx hb hK.1 hP 1 0 rfl rfl (vp_in_lit 11 213 rfl) dX10_closes_167 ?_
      refine lv_iload_n hx hb dX10_closes_168 rfl (lv_at hl 3 rfl) ?_
      refine lv_iload_n hx hb dX10_closes_169 rfl (lv_at hl 2 rfl) ?_
      obtain ⟨y9, gy9, h⟩ := zb_some h
      have hFc := z_free0 hD hS hA
      refine z_callmi (wc := (zw_mo tt kw bw bj)) (w1 := (zw_mo tt kw y9.2 bj)) (va_runV (As := [.int ((bw 1) (11 : Int32).toNatClampNeg), .int x3, .int x2]) (rest := []) ⟨hx, hb, hml, hown, hts⟩ (c_X10_makes l D tt kw _ bw bj ((bw 1) (11 : Int32).toNatClampNeg) x3 x2 y9 gy9) (cwV 3 hts gX10_closes_X10_makes rfl rfl rfl (by decide +kernel) ⟨Nat.le_of_ble_eq_true rfl, Nat.le_of_ble_eq_true rfl⟩) (z_preVm hK hP hD (ci := 10) (q0 := 0) rfl rfl) rfl rfl hl.1 rfl (lv_room (Nat.le_of_ble_eq_true rfl)) dX10_closes_170 ⟨Nat.zero_le _, Nat.zero_le _⟩) hS hFc (fun H locs ny9 hP1 hD1 hk1 hS => ?_)
      have hP := hP1
      have hD := hD1.weaken (fun _ q _ h => hFc q.1 h)
      refine lv_goto (tgt := 178) hx hb dX10_closes_173 (by decide) ?_
      refine lv_istore (lv' := [(4, .int y9.1), (0, .ref (kw 0)), (1, .int x1), (2, .int x2), (3, .int x3), (5, .int x5)]) hx hb dX10_closes_178 hl (by decide) rfl (fun ls hl => ?_)
      refine lv_aload_n hx hb dX10_closes_180 rfl (lv_at hl 1 rfl) ?_
      refine va_get (D := D) (ci := 10) (v := .ref (kw 1)) (C := RX10) (T := TX10) (N := 15) hx hb hts hi10 hown hK.1 hP 0 rfl rfl 0 (by decide) fl7 (fun _ h9 => h9) rfl dX10_closes_181 ?_
      refine lv_iconst (v := 4) hx hb dX10_closes_184 (by decide) ?_
      refine lv_dup2_11 hx hb dX10_closes_185 rfl rfl ?_
      refine va_iald hx hb hK.1 hP 1 0 rfl rfl (vp_in_lit 4 213 rfl) dX10_closes_186 ?_
      refine lv_aload_n hx hb dX10_closes_187 rfl (lv_at hl 1 rfl) ?_
      refine va_get (D := D) (ci := 10) (v := .ref (kw 1)) (C := RX10) (T := TX10) (N := 15) hx hb hts hi10 hown hK.1 hP 0 rfl rfl 0 (by decide) fl7 (fun _ h9 => h9) rfl dX10_closes_188 ?_
      refine lv_bipush (v := 10) hx hb dX10_closes_191 (by decide) ?_
      refine va_iald hx hb hK.1 hP 1 0 rfl rfl (vp_in_lit 10 213 rfl) dX10_closes_193 ?_
      refine lv_iadd hx hb dX10_closes_194 ?_
      refine va_iast hx hb hK.1 hP hD hS 1 0 rfl rfl (vp_in_lit 4 213 rfl) dX10_closes_195 (fun H locs hP hD hS => ?_)
      obtain ⟨a10, ea10, h⟩ := zl_some h
      have hP : va_P D vwCl (zw_mo tt kw (zu y9.2 1 a10) bj) H := by rw [ea10]; exact hP
      have hD : va_D A (zw_mo tt kw (zu y9.2 1 a10) bj) := by rw [ea10]; exact hD
      clear ea10
      refine lv_aload_n hx hb dX10_closes_196 rfl (lv_at hl 1 rfl) ?_
      refine va_get (D := D) (ci := 10) (v := .ref (kw 1)) (C := RX10) (T := TX10) (N := 15) hx hb hts hi10 hown hK.1 hP 0 rfl rfl 0 (by decide) fl7 (fun _ h9 => h9) rfl dX10_closes_197 ?_
      refine lv_bipush (v := 7) hx hb dX10_closes_200 (by decide) ?_
      refine lv_dup2_11 hx hb dX10_closes_202 rfl rfl ?_
      refine va_iald hx hb hK.1 hP 1 0 rfl rfl (vp_in_lit 7 213 rfl) dX10_closes_203 ?_
      refine lv_aload_n hx hb dX10_closes_204 rfl (lv_at hl 1 rfl) ?_
      refine va_get (D := D) (ci := 10) (v := .ref (kw 1)) (C := RX10) (T := TX10) (N := 15) hx hb hts hi10 hown hK.1 hP 0 rfl rfl 0 (by decide) fl7 (fun _ h9 => h9) rfl dX10_closes_205 ?_
      refine lv_bipush (v := 10) hx hb dX10_closes_208 (by decide) ?_
      refine va_iald hx hb hK.1 hP 1 0 rfl rfl (vp_in_lit 10 213 rfl) dX10_closes_210 ?_
      refine lv_aload_n hx hb dX10_closes_211 rfl (lv_at hl 1 rfl) ?_
      refine lv_iload_n hx hb dX10_closes_212 rfl (lv_at hl 4 rfl) ?_
      refine lv_iconst (v := 0) hx hb dX10_closes_213 (by decide) ?_
      obtain ⟨y11, gy11, h⟩ := zb_some h
      refine z_callr (va_runV (As := [.int x3, .int 0]) (rest := [.int (a10 (10 : Int32).toNatClampNeg), .int (a10 (7 : Int32).toNatClampNeg), .int 7, .ref (kw 1)]) ⟨hx, hb, hml, hown, hts⟩ (c_X10_ofClass l D tt kw (zu y9.2 1 a10) bj x3 0 y11 gy11) (cwV 2 hts gX10_closes_X10_ofClass rfl rfl rfl (by decide +kernel) ⟨Nat.le_of_ble_eq_true rfl, Nat.le_of_ble_eq_true rfl⟩) (z_preVr hK hP (ci := 10) (q0 := 0) rfl rfl) rfl rfl hl.1 rfl (lv_room (Nat.le_of_ble_eq_true rfl)) dX10_closes_214 ⟨Nat.zero_le _, Nat.zero_le _⟩) (fun ny11 => ?_)
      refine lv_imul hx hb dX10_closes_217 ?_
      refine lv_iadd hx hb dX10_closes_218 ?_
      refine va_iast hx hb hK.1 hP hD hS 1 0 rfl rfl (vp_in_lit 7 213 rfl) dX10_closes_219 (fun H locs hP hD hS => ?_)
      obtain ⟨a12, ea12, h⟩ := zl_some h
      have hP : va_P D vwCl (zw_mo tt kw (zu y9.2 1 a12) bj) H := by rw [ea12]; exact hP
      have hD : va_D A (zw_mo tt kw (zu y9.2 1 a12) bj) := by rw [ea12]; exact hD
      clear ea12
      refine lv_iconst (v := 0) hx hb dX10_closes_220 (by decide) ?_
      refine lv_istore (lv' := [(5, .int 0), (4, .int y9.1), (0, .ref (kw 0)), (1, .int x1), (2, .int x2), (3, .int x3)]) hx hb dX10_closes_221 hl (by decide) rfl (fun ls hl => ?_)
      exact b223 1000 (zu y9.2 1 a12) x1 0 _ _ _ hP hD hS (lv_sub hl [2, 3, 0] rfl) h
  have b22 : ∀ n : Nat, ∀ (bw : zV) (x1 : Int32) (x2 : Int32) (x3 : Int32) (H : Heap) (locs : List Loc) (ls : Array Slot), va_P D vwCl (zw_mo tt kw bw bj) H → va_D A (zw_mo tt kw bw bj) → va_S A s.heap H locs → lv_has ls 6 [(0, .ref (kw 0)), (1, .int x1), (2, .int x2), (3, .int x3)] → f_X10_closes_b22 bj n bw x1 x2 x3 = some out → W p l e (headSpec wsX10_closes { frames := 2, cells := 0, slots := 0, locals := 47 }).room s m args below meth c H locs 0 0 Q (F0 m 22 ls []) := by
    intro n
    induction n with
    | zero =>
      intro bw x1 x2 x3 H locs ls hP hD hS hl h
      cases h
    | succ n ih =>
      intro bw x1 x2 x3 H locs ls hP hD hS hl h
      rw [f_X10_closes_b22] at h
      refine lv_iload_n hx hb dX10_closes_22 rfl (lv_at hl 3 rfl) ?_
      refine lv_bipush (v := 8) hx hb dX10_closes_23 (by decide) ?_
      refine lv_icmp_ge (tgt := 66) hx hb dX10_closes_25 (by decide) (fun k16 => ?_) (fun k16 => ?_)
      rotate_left
      · replace h := z_neg k16 h
        refine lv_iload_n hx hb dX10_closes_28 rfl (lv_at hl 1 rfl) ?_
        refine lv_aload_n hx hb dX10_closes_29 rfl (lv_at hl 0 rfl) ?_
        refine va_get (D := D) (ci := 10) (v := .ref (kw 1)) (C := RX10) (T := TX10) (N := 15) hx hb hts hi10 hown hK.1 hP 0 rfl rfl 0 (by decide) fl7 (fun _ h9 => h9) rfl dX10_closes_30 ?_
        refine lv_bipush (v := 20) hx hb dX10_closes_33 (by decide) ?_
        refine lv_iload_n hx hb dX10_closes_35 rfl (lv_at hl 3 rfl) ?_
        refine lv_iadd hx hb dX10_closes_36 ?_
        obtain ⟨q22, h⟩ := zA_some h
        refine va_iald hx hb hK.1 hP 1 0 rfl rfl q22 dX10_closes_37 ?_
        refine lv_if_le (tgt := 45) hx hb dX10_closes_38 (by decide) (fun k23 => ?_) (fun k23 => ?_)
        · replace h := z_pos k23 h
          refine lv_iconst (v := 0) hx hb dX10_closes_45 (by decide) ?_
          refine lv_iadd hx hb dX10_closes_46 ?_
          refine lv_istore_n (lv' := [(1, .int (x1 + 0)), (0, .ref (kw 0)), (2, .int x2), (3, .int x3)]) hx hb dX10_closes_47 rfl hl (by decide) rfl (fun ls hl => ?_)
          refine lv_iload_n hx hb dX10_closes_48 rfl (lv_at hl 2 rfl) ?_
          refine lv_aload_n hx hb dX10_closes_49 rfl (lv_at hl 1 rfl) ?_
          refine va_get (D := D) (ci := 10) (v := .ref (kw 1)) (C := RX10) (T := TX10) (N := 15) hx hb hts hi10 hown hK.1 hP 0 rfl rfl 0 (by decide) fl7 (fun _ h9 => h9) rfl dX10_closes_50 ?_
          refine lv_bipush (v := 20) hx hb dX10_closes_53 (by decide) ?_
          refine lv_iload_n hx hb dX10_closes_55 rfl (lv_at hl 3 rfl) ?_
          refine lv_iadd hx hb dX10_closes_56 ?_
          refine va_iald hx hb hK.1 hP 1 0 rfl rfl q22 dX10_closes_57 ?_
          refine lv_isub hx hb dX10_closes_58 ?_
          refine lv_istore_n (lv' := [(2, .int (x2 - ((bw 1) (20 + x3).toNatClampNeg))), (1, .int (x1 + 0)), (0, .ref (kw 0)), (3, .int x3)]) hx hb dX10_closes_59 rfl hl (by decide) rfl (fun ls hl => ?_)
          refine lv_iinc (v := (x3 + 1)) (lv' := [(3, .int (x3 + 1)), (2, .int (x2 - ((bw 1) (20 + x3).toNatClampNeg))), (1, .int (x1 + 0)), (0, .ref (kw 0))]) hx hb dX10_closes_60 hl (k := 3) rfl rfl (by decide) rfl (fun ls hl => ?_)
          refine lv_goto (tgt := 22) hx hb dX10_closes_63 (by decide) ?_
          exact ih bw (x1 + 0) (x2 - ((bw 1) (20 + x3).toNatClampNeg)) (x3 + 1) _ _ _ hP hD hS (lv_sub hl [3, 2, 1, 0] rfl) h
        replace h := z_neg k23 h
        refine lv_iconst (v := 1) hx hb dX10_closes_41 (by decide) ?_
        refine lv_goto (tgt := 46) hx hb dX10_closes_42 (by decide) ?_
        refine lv_iadd hx hb dX10_closes_46 ?_
        refine lv_istore_n (lv' := [(1, .int (x1 + 1)), (0, .ref (kw 0)), (2, .int x2), (3, .int x3)]) hx hb dX10_closes_47 rfl hl (by decide) rfl (fun ls hl => ?_)
        refine lv_iload_n hx hb dX10_closes_48 rfl (lv_at hl 2 rfl) ?_
        refine lv_aload_n hx hb dX10_closes_49 rfl (lv_at hl 1 rfl) ?_
        refine va_get (D := D) (ci := 10) (v := .ref (kw 1)) (C := RX10) (T := TX10) (N := 15) hx hb hts hi10 hown hK.1 hP 0 rfl rfl 0 (by decide) fl7 (fun _ h9 => h9) rfl dX10_closes_50 ?_
        refine lv_bipush (v := 20) hx hb dX10_closes_53 (by decide) ?_
        refine lv_iload_n hx hb dX10_closes_55 rfl (lv_at hl 3 rfl) ?_
        refine lv_iadd hx hb dX10_closes_56 ?_
        refine va_iald hx hb hK.1 hP 1 0 rfl rfl q22 dX10_closes_57 ?_
        refine lv_isub hx hb dX10_closes_58 ?_
        refine lv_istore_n (lv' := [(2, .int (x2 - ((bw 1) (20 + x3).toNatClampNeg))), (1, .int (x1 + 1)), (0, .ref (kw 0)), (3, .int x3)]) hx hb dX10_closes_59 rfl hl (by decide) rfl (fun ls hl => ?_)
        refine lv_iinc (v := (x3 + 1)) (lv' := [(3, .int (x3 + 1)), (2, .int (x2 - ((bw 1) (20 + x3).toNatClampNeg))), (1, .int (x1 + 1)), (0, .ref (kw 0))]) hx hb dX10_closes_60 hl (k := 3) rfl rfl (by decide) rfl (fun ls hl => ?_)
        refine lv_goto (tgt := 22) hx hb dX10_closes_63 (by decide) ?_
        exact ih bw (x1 + 1) (x2 - ((bw 1) (20 + x3).toNatClampNeg)) (x3 + 1) _ _ _ hP hD hS (lv_sub hl [3, 2, 1, 0] rfl) h
      replace h := z_pos k16 h
      refine lv_iload_n hx hb dX10_closes_66 rfl (lv_at hl 1 rfl) ?_
      refine lv_iload_n hx hb dX10_closes_67 rfl (lv_at hl 2 rfl) ?_
      refine lv_if_le (tgt := 75) hx hb dX10_closes_68 (by decide) (fun k17 => ?_) (fun k17 => ?_)
      · replace h := z_pos k17 h
        refine lv_iconst (v := 0) hx hb dX10_closes_75 (by decide) ?_
        refine lv_iadd hx hb dX10_closes_76 ?_
        refine lv_istore_n (lv' := [(1, .int (x1 + 0)), (0, .ref (kw 0)), (2, .int x2), (3, .int x3)]) hx hb dX10_closes_77 rfl hl (by decide) rfl (fun ls hl => ?_)
        refine lv_aload_n hx hb dX10_closes_78 rfl (lv_at hl 1 rfl) ?_
        obtain ⟨y18, gy18, h⟩ := zb_some h
        refine z_callr (va_runV (As := []) (rest := []) ⟨hx, hb, hml, hown, hts⟩ (c_X10_certificates l D tt kw bw bj y18 gy18) (cwV 0 hts gX10_closes_X10_certificates rfl rfl rfl (by decide +kernel) ⟨Nat.le_of_ble_eq_true rfl, Nat.le_of_ble_eq_true rfl⟩) (z_preVr hK hP (ci := 10) (q0 := 0) rfl rfl) rfl rfl hl.1 rfl (lv_room (Nat.le_of_ble_eq_true rfl)) dX10_closes_79 ⟨Nat.zero_le _, Nat.zero_le _⟩) (fun ny18 => ?_)
        refine lv_iload_n hx hb dX10_closes_82 rfl (lv_at hl 0 rfl) ?_
        refine lv_iadd hx hb dX10_closes_83 ?_
        refine lv_bipush (v := 24) hx hb dX10_closes_84 (by decide) ?_
        refine lv_icmp_le (tgt := 92) hx hb dX10_closes_86 (by decide) (fun k19 => ?_) (fun k19 => ?_)
        rotate_left
        · replace h := z_neg k19 h
          refine lv_bipush (v := (-3)) hx hb dX10_closes_89 (by decide) ?_
          exact hfin _ _ _ _ _ _ h rfl hP hD hS dX10_closes_91
        replace h := z_pos k19 h
        refine lv_aload_n hx hb dX10_closes_92 rfl (lv_at hl 1 rfl) ?_
        refine va_get (D := D) (ci := 10) (v := .ref (kw 1)) (C := RX10) (T := TX10) (N := 15) hx hb hts hi10 hown hK.1 hP 0 rfl rfl 0 (by decide) fl7 (fun _ h9 => h9) rfl dX10_closes_93 ?_
        refine lv_bipush (v := 9) hx hb dX10_closes_96 (by decide) ?_
        refine va_iald hx hb hK.1 hP 1 0 rfl rfl (vp_in_lit 9 213 rfl) dX10_closes_98 ?_
        refine lv_istore_n (lv' := [(3, .int ((bw 1) (9 : Int32).toNatClampNeg)), (1, .int (x1 + 0)), (0, .ref (kw 0)), (2, .int x2)]) hx hb dX10_closes_99 rfl hl (by decide) rfl (fun ls hl => ?_)
        refine lv_iconst (v := (-1)) hx hb dX10_closes_100 (by decide) ?_
        refine lv_istore (lv' := [(4, .int (-1)), (3, .int ((bw 1) (9 : Int32).toNatClampNeg)), (1, .int (x1 + 0)), (0, .ref (kw 0)), (2, .int x2)]) hx hb dX10_closes_101 hl (by decide) rfl (fun ls hl => ?_)
        refine lv_iconst (v := 0) hx hb dX10_closes_103 (by decide) ?_
        refine lv_istore (lv' := [(5, .int 0), (4, .int (-1)), (3, .int ((bw 1) (9 : Int32).toNatClampNeg)), (1, .int (x1 + 0)), (0, .ref (kw 0)), (2, .int x2)]) hx hb dX10_closes_104 hl (by decide) rfl (fun ls hl => ?_)
        exact b106 1000 bw (x1 + 0) x2 ((bw 1) (9 : Int32).toNatClampNeg) (-1) 0 _ _ _ hP hD hS (lv_sub hl [4, 3, 5, 2, 1, 0] rfl) h
      replace h := z_neg k17 h
      refine lv_iconst (v := 1) hx hb dX10_closes_71 (by decide) ?_
      refine lv_goto (tgt := 76) hx hb dX10_closes_72 (by decide) ?_
      refine lv_iadd hx hb dX10_closes_76 ?_
      refine lv_istore_n (lv' := [(1, .int (x1 + 1)), (0, .ref (kw 0)), (2, .int x2), (3, .int x3)]) hx hb dX10_closes_77 rfl hl (by decide) rfl (fun ls hl => ?_)
      refine lv_aload_n hx hb dX10_closes_78 rfl (lv_at hl 1 rfl) ?_
      obtain ⟨y20, gy20, h⟩ := zb_some h
      refine z_callr (va_runV (As := []) (rest := []) ⟨hx, hb, hml, hown, hts⟩ (c_X10_certificates l D tt kw bw bj y20 gy20) (cwV 0 hts gX10_closes_X10_certificates rfl rfl rfl (by decide +kernel) ⟨Nat.le_of_ble_eq_true rfl, Nat.le_of_ble_eq_true rfl⟩) (z_preVr hK hP (ci := 10) (q0 := 0) rfl rfl) rfl rfl hl.1 rfl (lv_room (Nat.le_of_ble_eq_true rfl)) dX10_closes_79 ⟨Nat.zero_le _, Nat.zero_le _⟩) (fun ny20 => ?_)
      refine lv_iload_n hx hb dX10_closes_82 rfl (lv_at hl 0 rfl) ?_
      refine lv_iadd hx hb dX10_closes_83 ?_
      refine lv_bipush (v := 24) hx hb dX10_closes_84 (by decide) ?_
      refine lv_icmp_le (tgt := 92) hx hb dX10_closes_86 (by decide) (fun k21 => ?_) (fun k21 => ?_)
      rotate_left
      · replace h := z_neg k21 h
        refine lv_bipush (v := (-3)) hx hb dX10_closes_89 (by decide) ?_
        exact hfin _ _ _ _ _ _ h rfl hP hD hS dX10_closes_91
      replace h := z_pos k21 h
      refine lv_aload_n hx hb dX10_closes_92 rfl (lv_at hl 1 rfl) ?_
      refine va_get (D := D) (ci := 10) (v := .ref (kw 1)) (C := RX10) (T := TX10) (N := 15) hx hb hts hi10 hown hK.1 hP 0 rfl rfl 0 (by decide) fl7 (fun _ h9 => h9) rfl dX10_closes_93 ?_
      refine lv_bipush (v := 9) hx hb dX10_closes_96 (by decide) ?_
      refine va_iald hx hb hK.1 hP 1 0 rfl rfl (vp_in_lit 9 213 rfl) dX10_closes_98 ?_
      refine lv_istore_n (lv' := [(3, .int ((bw 1) (9 : Int32).toNatClampNeg)), (1, .int (x1 + 1)), (0, .ref (kw 0)), (2, .int x2)]) hx hb dX10_closes_99 rfl hl (by decide) rfl (fun ls hl => ?_)
      refine lv_iconst (v := (-1)) hx hb dX10_closes_100 (by decide) ?_
      refine lv_istore (lv' := [(4, .int (-1)), (3, .int ((bw 1) (9 : Int32).toNatClampNeg)), (1, .int (x1 + 1)), (0, .ref (kw 0)), (2, .int x2)]) hx hb dX10_closes_101 hl (by decide) rfl (fun ls hl => ?_)
      refine lv_iconst (v := 0) hx hb dX10_closes_103 (by decide) ?_
      refine lv_istore (lv' := [(5, .int 0), (4, .int (-1)), (3, .int ((bw 1) (9 : Int32).toNatClampNeg)), (1, .int (x1 + 1)), (0, .ref (kw 0)), (2, .int x2)]) hx hb dX10_closes_104 hl (by decide) rfl (fun ls hl => ?_)
      exact b106 1000 bw (x1 + 1) x2 ((bw 1) (9 : Int32).toNatClampNeg) (-1) 0 _ _ _ hP hD hS (lv_sub hl [4, 3, 5, 2, 1, 0] rfl) h
  have hl := lv_entry ([.ref (kw 0)]) (n := 6) (Nat.le_of_ble_eq_true rfl)
  refine W.eq (g2 := F0 m 0 ((lg_sl ([.ref (kw 0)]) ++ List.replicate (6 - (lg_sl ([.ref (kw 0)])).length) Slot.unset).toArray) []) (by rw [ha]; exact lg_entry_eq _ _ _) ?_
  generalize (lg_sl ([.ref (kw 0)]) ++ List.replicate (6 - (lg_sl ([.ref (kw 0)])).length) Slot.unset).toArray = ls at hl ⊢
  have hl : lv_has ls 6 [(0, .ref (kw 0))] := hl
  rw [f_X10_closes] at h
  refine lv_aload_n hx hb dX10_closes_0 rfl (lv_at hl 0 rfl) ?_
  obtain ⟨y24, gy24, h⟩ := zb_some h
  refine z_callr (va_runV (As := []) (rest := []) ⟨hx, hb, hml, hown, hts⟩ (c_X10_isRound l D tt kw bw bj y24 gy24) (cwV 0 hts gX10_closes_X10_isRound rfl rfl rfl (by decide +kernel) ⟨Nat.le_of_ble_eq_true rfl, Nat.le_of_ble_eq_true rfl⟩) (z_preVr hK hP (ci := 10) (q0 := 0) rfl rfl) rfl rfl hl.1 rfl (lv_room (Nat.le_of_ble_eq_true rfl)) dX10_closes_1 ⟨Nat.zero_le _, Nat.zero_le _⟩) (fun ny24 => ?_)
  refine lv_if_ne (tgt := 10) hx hb dX10_closes_4 (by decide) (fun k25 => ?_) (fun k25 => ?_)
  rotate_left
  · replace h := z_pos k25 h
    refine lv_bipush (v := (-2)) hx hb dX10_closes_7 (by decide) ?_
    exact hfin _ _ _ _ _ _ h rfl hP hD hS dX10_closes_9
  replace h := z_neg k25 h
  refine lv_iconst (v := 0) hx hb dX10_closes_10 (by decide) ?_
  refine lv_istore_n (lv' := [(1, .int 0), (0, .ref (kw 0))]) hx hb dX10_closes_11 rfl hl (by decide) rfl (fun ls hl => ?_)
  refine lv_aload_n hx hb dX10_closes_12 rfl (lv_at hl 1 rfl) ?_
  refine va_get (D := D) (ci := 10) (v := .ref (kw 1)) (C := RX10) (T := TX10) (N := 15) hx hb hts hi10 hown hK.1 hP 0 rfl rfl 0 (by decide) fl7 (fun _ h9 => h9) rfl dX10_closes_13 ?_
  refine lv_bipush (v := 10) hx hb dX10_closes_16 (by decide) ?_
  refine va_iald hx hb hK.1 hP 1 0 rfl rfl (vp_in_lit 10 213 rfl) dX10_closes_18 ?_
  refine lv_istore_n (lv' := [(2, .int ((bw 1) (10 : Int32).toNatClampNeg)), (1, .int 0), (0, .ref (kw 0))]) hx hb dX10_closes_19 rfl hl (by decide) rfl (fun ls hl => ?_)
  refine lv_iconst (v := 0) hx hb dX10_closes_20 (by decide) ?_
  refine lv_istore_n (lv' := [(3, .int 0), (2, .int ((bw 1) (10 : Int32).toNatClampNeg)), (1, .int 0), (0, .ref (kw 0))]) hx hb dX10_closes_21 rfl hl (by decide) rfl (fun ls hl => ?_)
  exact b22 1000 bw 0 ((bw 1) (10 : Int32).toNatClampNeg) 0 _ _ _ hP hD hS (lv_sub hl [3, 2, 1, 0] rfl) h
