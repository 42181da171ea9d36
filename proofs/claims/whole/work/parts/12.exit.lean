/-! ===== contracts: 12.exit ===== -/
set_option maxHeartbeats 4000000 in
set_option maxRecDepth 100000 in
theorem c_X3_readClasses (l : Launch) (D : va_G) (tt : Nat → ClassId) (ke : Nat → Nat) (kv : Nat → Nat) (sz : Nat) (be : zV) (bv : zV)  (out : zV) (h : f_X3_readClasses be bv = some out) : Met l yX3_readClasses wsX3_readClasses { frames := 1, cells := 0, slots := 0, locals := 23 } (zPm [.ref (ke 0), .ref (kv 0)] D tt (zw_ex tt ke be ++ zw_co tt kv bv) sz) (zMv D (zw_ex tt ke out ++ zw_co tt kv bv) (va_A (zw_ex tt ke be ++ zw_co tt kv bv) sz)) 0 0 (va_A (zw_ex tt ke be ++ zw_co tt kv bv) sz) := by
  refine Met.ofW (cc := cX3_readClasses) (maxL := 3) (ret := none) (by decide) rfl ?_
  intro p e s m args below meth c s₁ B hml hv
  obtain ⟨ha, hsz, hP, hK, hD0⟩ := hv
  have hx := B.exec
  have hb := B.bytes
  have hr := B.returns
  have hts := atoms_spec (ws := wsX3_readClasses) B.pre
  have hown : s.vm.findClass RX3 = some m.cls := findClass_of_methodNamed B.named
  have hlocks := B.notSynchronized
  have hi1 : ∀ w ∈ u_ws RX1 TX1 6, w ∈ wsX3_readClasses := fun _ h => List.mem_cons_of_mem _ (List.mem_append_left _ (List.mem_append_left _ (List.mem_append_right _ h)))
  have hi2 : ∀ w ∈ u_ws RX2 TX2 11, w ∈ wsX3_readClasses := fun _ h => List.mem_cons_of_mem _ (List.mem_append_left _ (List.mem_append_left _ (List.mem_append_left _ (List.mem_append_right _ h))))
  have hi3 : ∀ w ∈ u_ws RX3 TX3 8, w ∈ wsX3_readClasses := fun _ h => List.mem_cons_of_mem _ (List.mem_append_left _ (List.mem_append_right _ h))
  have fl15 := hts (.fieldLink RX3 15 "CapStacks$Exit" "shares" "[I") (by decide +kernel)
  have fl18 := hts (.fieldLink RX3 18 "CapStacks$Exit" "preference" "[I") (by decide +kernel)
  have fl21 := hts (.fieldLink RX3 21 "CapStacks$Exit" "common" "[I") (by decide +kernel)
  have fl24 := hts (.fieldLink RX3 24 "CapStacks$Exit" "rank" "[I") (by decide +kernel)
  have fl27 := hts (.fieldLink RX3 27 "CapStacks$Exit" "kind" "[I") (by decide +kernel)
  have fl38 := hts (.fieldLink RX3 38 "CapStacks$Exit" "size" "I") (by decide +kernel)
  have fl49 := hts (.fieldLink RX3 49 "CapStacks$Company" "certificates" "LCapStacks$Certificates;") (by decide +kernel)
  have fl68 := hts (.fieldLink RX3 68 "CapStacks$Company" "classes" "LCapStacks$Classes;") (by decide +kernel)
  have fl72 := hts (.fieldLink RX3 72 "CapStacks$Classes" "size" "I") (by decide +kernel)
  have fl82 := hts (.fieldLink RX3 82 "CapStacks$Classes" "rank" "[I") (by decide +kernel)
  have fl83 := hts (.fieldLink RX3 83 "CapStacks$Classes" "kind" "[I") (by decide +kernel)
  subst hsz
  have hD := hD0.self (sz := s.heap.size)
  generalize hAe : va_A (zw_ex tt ke be ++ zw_co tt kv bv) s.heap.size = A at hD ⊢
  have hA : ∀ q : Nat, s.heap.size ≤ q → A q := fun q h => by rw [← hAe]; exact Or.inr h
  have hS : va_S A s.heap s.heap [] := va_S.rf
  have hfin : ∀ (be : zV) (pc : Nat) (ls : Array Slot) (H : Heap) (locs : List Loc), some be = some out → va_P D vwCl (zw_ex tt ke be ++ zw_co tt kv bv) H → va_D A (zw_ex tt ke be ++ zw_co tt kv bv) → va_S A s.heap H locs → decode cX3_readClasses pc = .ok (.return_, 1) → W p l e (headSpec wsX3_readClasses { frames := 1, cells := 0, slots := 0, locals := 23 }).room s m args below meth c H locs 0 0 (MQ below (zMv D (zw_ex tt ke out ++ zw_co tt kv bv) A) args s 0 0 A) (F0 m pc ls []) := by
    intro be pc ls H locs he hP hD hS hd
    cases he
    exact W.vret hx hb hr (fun t ht hW => ⟨⟨(), rfl, trivial, by rw [ht]; exact hP, hD⟩, hS.F ht⟩) hS.2.2 hd
  generalize MQ below (zMv D (zw_ex tt ke out ++ zw_co tt kv bv) A) args s 0 0 A = Q at hfin ⊢
  have b13 : ∀ n : Nat, ∀ (be : zV) (x2 : Int32) (H : Heap) (locs : List Loc) (ls : Array Slot), va_P D vwCl (zw_ex tt ke be ++ zw_co tt kv bv) H → va_D A (zw_ex tt ke be ++ zw_co tt kv bv) → va_S A s.heap H locs → lv_has ls 3 [(0, .ref (ke 0)), (1, .ref (kv 0)), (2, .int x2)] → f_X3_readClasses_b13 bv n be x2 = some out → W p l e (headSpec wsX3_readClasses { frames := 1, cells := 0, slots := 0, locals := 23 }).room s m args below meth c H locs 0 0 Q (F0 m 13 ls []) := by
    intro n
    induction n with
    | zero =>
      intro be x2 H locs ls hP hD hS hl h
      cases h
    | succ n ih =>
      intro be x2 H locs ls hP hD hS hl h
      rw [f_X3_readClasses_b13] at h
      refine lv_iload_n hx hb dX3_readClasses_13 rfl (lv_at hl 2 rfl) ?_
      refine lv_aload_n hx hb dX3_readClasses_14 rfl (lv_at hl 0 rfl) ?_
      refine va_get (D := D) (ci := 3) (v := .int (be 0 1)) (C := RX3) (T := TX3) (N := 8) hx hb hts hi3 hown hK.1 hP 0 rfl rfl 2 (by decide) fl38 (fun _ h9 => h9) rfl dX3_readClasses_15 ?_
      refine lv_icmp_ge (tgt := 111) hx hb dX3_readClasses_18 (by decide) (fun k1 => ?_) (fun k1 => ?_)
      · replace h := z_pos k1 h
        exact hfin _ _ _ _ _ h hP hD hS dX3_readClasses_111
      replace h := z_neg k1 h
      refine lv_aload_n hx hb dX3_readClasses_21 rfl (lv_at hl 0 rfl) ?_
      refine va_get (D := D) (ci := 3) (v := .ref (ke 2)) (C := RX3) (T := TX3) (N := 8) hx hb hts hi3 hown hK.1 hP 0 rfl rfl 3 (by decide) fl15 (fun _ h9 => h9) rfl dX3_readClasses_22 ?_
      refine lv_iload_n hx hb dX3_readClasses_25 rfl (lv_at hl 2 rfl) ?_
      refine lv_aload_n hx hb dX3_readClasses_26 rfl (lv_at hl 1 rfl) ?_
      refine va_get (D := D) (ci := 2) (v := .ref (kv 2)) (C := RX2) (T := TX2) (N := 11) hx hb hts hi2 hown hK.1 hP 7 rfl rfl 1 (by decide) fl49 (fun _ h9 => h9) rfl dX3_readClasses_27 ?_
      refine lv_iload_n hx hb dX3_readClasses_30 rfl (lv_at hl 2 rfl) ?_
      obtain ⟨y2, gy2, h⟩ := zb_some h
      have hpm : List.Perm (zw_ex tt ke be ++ (zw_c0 tt kv bv ++ (zw_cl tt kv bv ++ (zw_ce tt kv bv ++ (zw_gr tt kv bv ++ (zw_ro tt kv bv ++ (zw_la tt kv bv))))))) ((zw_ce tt kv bv) ++ (zw_ex tt ke be ++ zw_c0 tt kv bv ++ zw_cl tt kv bv ++ zw_gr tt kv bv ++ zw_ro tt kv bv ++ zw_la tt kv bv)) := z_pm (fun _ x => by simp only [List.count_append, List.count_nil] <;> omega)
      refine z_callr (va_runV (As := [.int x2]) (rest := [.int x2, .ref (ke 2)]) ⟨hx, hb, hml, hown, hts⟩ (c_X0_sharesIn l D tt kv bv x2 y2 gy2) (cwV 1 hts gX3_readClasses_X0_sharesIn rfl rfl rfl (by decide +kernel) ⟨Nat.le_of_ble_eq_true rfl, Nat.le_of_ble_eq_true rfl⟩) (z_preVr hK (z_takeP hpm hP) (ci := 0) (q0 := 0) rfl rfl) rfl rfl hl.1 rfl (lv_room (Nat.le_of_ble_eq_true rfl)) dX3_readClasses_31 ⟨Nat.zero_le _, Nat.zero_le _⟩) (fun ny2 => ?_)
      obtain ⟨q3, h⟩ := zA_some h
      refine va_iast hx hb hK.1 hP hD hS 2 0 rfl rfl q3 dX3_readClasses_34 (fun H locs hP hD hS => ?_)
      have hP : va_P D vwCl (zw_ex tt ke (zu be 2 (upd (be 2) x2.toNatClampNeg y2)) ++ zw_co tt kv bv) H := hP
      have hD : va_D A (zw_ex tt ke (zu be 2 (upd (be 2) x2.toNatClampNeg y2)) ++ zw_co tt kv bv) := hD
      refine lv_aload_n hx hb dX3_readClasses_35 rfl (lv_at hl 0 rfl) ?_
      refine va_get (D := D) (ci := 3) (v := .ref (ke 3)) (C := RX3) (T := TX3) (N := 8) hx hb hts hi3 hown hK.1 hP 0 rfl rfl 4 (by decide) fl18 (fun _ h9 => h9) rfl dX3_readClasses_36 ?_
      refine lv_iload_n hx hb dX3_readClasses_39 rfl (lv_at hl 2 rfl) ?_
      refine lv_aload_n hx hb dX3_readClasses_40 rfl (lv_at hl 1 rfl) ?_
      refine va_get (D := D) (ci := 2) (v := .ref (kv 1)) (C := RX2) (T := TX2) (N := 11) hx hb hts hi2 hown hK.1 hP 7 rfl rfl 0 (by decide) fl68 (fun _ h9 => h9) rfl dX3_readClasses_41 ?_
      refine lv_iload_n hx hb dX3_readClasses_44 rfl (lv_at hl 2 rfl) ?_
      refine lv_aload_n hx hb dX3_readClasses_45 rfl (lv_at hl 0 rfl) ?_
      refine va_get (D := D) (ci := 3) (v := .ref (ke 2)) (C := RX3) (T := TX3) (N := 8) hx hb hts hi3 hown hK.1 hP 0 rfl rfl 3 (by decide) fl15 (fun _ h9 => h9) rfl dX3_readClasses_46 ?_
      refine lv_iload_n hx hb dX3_readClasses_49 rfl (lv_at hl 2 rfl) ?_
      refine va_iald hx hb hK.1 hP 2 0 rfl rfl q3 dX3_readClasses_50 ?_
      obtain ⟨y4, gy4, h⟩ := zb_some h
      have hpm : List.Perm (zw_ex tt ke (zu be 2 (upd (be 2) x2.toNatClampNeg y2)) ++ (zw_c0 tt kv bv ++ (zw_cl tt kv bv ++ (zw_ce tt kv bv ++ (zw_gr tt kv bv ++ (zw_ro tt kv bv ++ (zw_la tt kv bv))))))) ((zw_cl tt kv bv) ++ (zw_ex tt ke (zu be 2 (upd (be 2) x2.toNatClampNeg y2)) ++ zw_c0 tt kv bv ++ zw_ce tt kv bv ++ zw_gr tt kv bv ++ zw_ro tt kv bv ++ zw_la tt kv bv)) := z_pm (fun _ x => by simp only [List.count_append, List.count_nil] <;> omega)
      refine z_callr (va_runV (As := [.int x2, .int ((upd (be 2) x2.toNatClampNeg y2) x2.toNatClampNeg)]) (rest := [.int x2, .ref (ke 3)]) ⟨hx, hb, hml, hown, hts⟩ (c_X1_preference l D tt kv bv x2 ((upd (be 2) x2.toNatClampNeg y2) x2.toNatClampNeg) y4 gy4) (cwV 2 hts gX3_readClasses_X1_preference rfl rfl rfl (by decide +kernel) ⟨Nat.le_of_ble_eq_true rfl, Nat.le_of_ble_eq_true rfl⟩) (z_preVr hK (z_takeP hpm hP) (ci := 1) (q0 := 0) rfl rfl) rfl rfl hl.1 rfl (lv_room (Nat.le_of_ble_eq_true rfl)) dX3_readClasses_51 ⟨Nat.zero_le _, Nat.zero_le _⟩) (fun ny4 => ?_)
      refine va_iast hx hb hK.1 hP hD hS 3 0 rfl rfl q3 dX3_readClasses_54 (fun H locs hP hD hS => ?_)
      have hP : va_P D vwCl (zw_ex tt ke (zu (zu be 2 (upd (be 2) x2.toNatClampNeg y2)) 3 (upd (be 3) x2.toNatClampNeg y4)) ++ zw_co tt kv bv) H := hP
      have hD : va_D A (zw_ex tt ke (zu (zu be 2 (upd (be 2) x2.toNatClampNeg y2)) 3 (upd (be 3) x2.toNatClampNeg y4)) ++ zw_co tt kv bv) := hD
      refine lv_aload_n hx hb dX3_readClasses_55 rfl (lv_at hl 0 rfl) ?_
      refine va_get (D := D) (ci := 3) (v := .ref (ke 4)) (C := RX3) (T := TX3) (N := 8) hx hb hts hi3 hown hK.1 hP 0 rfl rfl 5 (by decide) fl21 (fun _ h9 => h9) rfl dX3_readClasses_56 ?_
      refine lv_iload_n hx hb dX3_readClasses_59 rfl (lv_at hl 2 rfl) ?_
      refine lv_aload_n hx hb dX3_readClasses_60 rfl (lv_at hl 1 rfl) ?_
      refine va_get (D := D) (ci := 2) (v := .ref (kv 1)) (C := RX2) (T := TX2) (N := 11) hx hb hts hi2 hown hK.1 hP 7 rfl rfl 0 (by decide) fl68 (fun _ h9 => h9) rfl dX3_readClasses_61 ?_
      refine lv_iload_n hx hb dX3_readClasses_64 rfl (lv_at hl 2 rfl) ?_
      refine lv_aload_n hx hb dX3_readClasses_65 rfl (lv_at hl 0 rfl) ?_
      refine va_get (D := D) (ci := 3) (v := .ref (ke 2)) (C := RX3) (T := TX3) (N := 8) hx hb hts hi3 hown hK.1 hP 0 rfl rfl 3 (by decide) fl15 (fun _ h9 => h9) rfl dX3_readClasses_66 ?_
      refine lv_iload_n hx hb dX3_readClasses_69 rfl (lv_at hl 2 rfl) ?_
      refine va_iald hx hb hK.1 hP 2 0 rfl rfl q3 dX3_readClasses_70 ?_
      obtain ⟨y5, gy5, h⟩ := zb_some h
      have hpm : List.Perm (zw_ex tt ke (zu (zu be 2 (upd (be 2) x2.toNatClampNeg y2)) 3 (upd (be 3) x2.toNatClampNeg y4)) ++ (zw_c0 tt kv bv ++ (zw_cl tt kv bv ++ (zw_ce tt kv bv ++ (zw_gr tt kv bv ++ (zw_ro tt kv bv ++ (zw_la tt kv bv))))))) ((zw_cl tt kv bv) ++ (zw_ex tt ke (zu (zu be 2 (upd (be 2) x2.toNatClampNeg y2)) 3 (upd (be 3) x2.toNatClampNeg y4)) ++ zw_c0 tt kv bv ++ zw_ce tt kv bv ++ zw_gr tt kv bv ++ zw_ro tt kv bv ++ zw_la tt kv bv)) := z_pm (fun _ x => by simp only [List.count_append, List.count_nil] <;> omega)
      refine z_callr (va_runV (As := [.int x2, .int ((upd (be 2) x2.toNatClampNeg y2) x2.toNatClampNeg)]) (rest := [.int x2, .ref (ke 4)]) ⟨hx, hb, hml, hown, hts⟩ (c_X1_common l D tt kv bv x2 ((upd (be 2) x2.toNatClampNeg y2) x2.toNatClampNeg) y5 gy5) (cwV 2 hts gX3_readClasses_X1_common rfl rfl rfl (by decide +kernel) ⟨Nat.le_of_ble_eq_true rfl, Nat.le_of_ble_eq_true rfl⟩) (z_preVr hK (z_takeP hpm hP) (ci := 1) (q0 := 0) rfl rfl) rfl rfl hl.1 rfl (lv_room (Nat.le_of_ble_eq_true rfl)) dX3_readClasses_71 ⟨Nat.zero_le _, Nat.zero_le _⟩) (fun ny5 => ?_)
      refine va_iast hx hb hK.1 hP hD hS 4 0 rfl rfl q3 dX3_readClasses_74 (fun H locs hP hD hS => ?_)
      have hP : va_P D vwCl (zw_ex tt ke (zu (zu (zu be 2 (upd (be 2) x2.toNatClampNeg y2)) 3 (upd (be 3) x2.toNatClampNeg y4)) 4 (upd (be 4) x2.toNatClampNeg y5)) ++ zw_co tt kv bv) H := hP
      have hD : va_D A (zw_ex tt ke (zu (zu (zu be 2 (upd (be 2) x2.toNatClampNeg y2)) 3 (upd (be 3) x2.toNatClampNeg y4)) 4 (upd (be 4) x2.toNatClampNeg y5)) ++ zw_co tt kv bv) := hD
      refine lv_aload_n hx hb dX3_readClasses_75 rfl (lv_at hl 0 rfl) ?_
      refine va_get (D := D) (ci := 3) (v := .ref (ke 5)) (C := RX3) (T := TX3) (N := 8) hx hb hts hi3 hown hK.1 hP 0 rfl rfl 6 (by decide) fl24 (fun _ h9 => h9) rfl dX3_readClasses_76 ?_
      refine lv_iload_n hx hb dX3_readClasses_79 rfl (lv_at hl 2 rfl) ?_
      refine lv_aload_n hx hb dX3_readClasses_80 rfl (lv_at hl 1 rfl) ?_
      refine va_get (D := D) (ci := 2) (v := .ref (kv 1)) (C := RX2) (T := TX2) (N := 11) hx hb hts hi2 hown hK.1 hP 7 rfl rfl 0 (by decide) fl68 (fun _ h9 => h9) rfl dX3_readClasses_81 ?_
      refine va_get (D := D) (ci := 1) (v := .ref (kv 7)) (C := RX1) (T := TX1) (N := 6) hx hb hts hi1 hown hK.1 hP 8 rfl rfl 3 (by decide) fl82 (fun _ h9 => h9) rfl dX3_readClasses_84 ?_
      refine lv_iload_n hx hb dX3_readClasses_87 rfl (lv_at hl 2 rfl) ?_
      refine va_iald hx hb hK.1 hP 11 0 rfl rfl q3 dX3_readClasses_88 ?_
      refine va_iast hx hb hK.1 hP hD hS 5 0 rfl rfl q3 dX3_readClasses_89 (fun H locs hP hD hS => ?_)
      have hP : va_P D vwCl (zw_ex tt ke (zu (zu (zu (zu be 2 (upd (be 2) x2.toNatClampNeg y2)) 3 (upd (be 3) x2.toNatClampNeg y4)) 4 (upd (be 4) x2.toNatClampNeg y5)) 5 (upd (be 5) x2.toNatClampNeg ((bv 3) x2.toNatClampNeg))) ++ zw_co tt kv bv) H := hP
      have hD : va_D A (zw_ex tt ke (zu (zu (zu (zu be 2 (upd (be 2) x2.toNatClampNeg y2)) 3 (upd (be 3) x2.toNatClampNeg y4)) 4 (upd (be 4) x2.toNatClampNeg y5)) 5 (upd (be 5) x2.toNatClampNeg ((bv 3) x2.toNatClampNeg))) ++ zw_co tt kv bv) := hD
      refine lv_aload_n hx hb dX3_readClasses_90 rfl (lv_at hl 0 rfl) ?_
      refine va_get (D := D) (ci := 3) (v := .ref (ke 6)) (C := RX3) (T := TX3) (N := 8) hx hb hts hi3 hown hK.1 hP 0 rfl rfl 7 (by decide) fl27 (fun _ h9 => h9) rfl dX3_readClasses_91 ?_
      refine lv_iload_n hx hb dX3_readClasses_94 rfl (lv_at hl 2 rfl) ?_
      refine lv_aload_n hx hb dX3_readClasses_95 rfl (lv_at hl 1 rfl) ?_
      refine va_get (D := D) (ci := 2) (v := .ref (kv 1)) (C := RX2) (T := TX2) (N := 11) hx hb hts hi2 hown hK.1 hP 7 rfl rfl 0 (by decide) fl68 (fun _ h9 => h9) rfl dX3_readClasses_96 ?_
      refine va_get (D := D) (ci := 1) (v := .ref (kv 8)) (C := RX1) (T := TX1) (N := 6) hx hb hts hi1 hown hK.1 hP 8 rfl rfl 4 (by decide) fl83 (fun _ h9 => h9) rfl dX3_readClasses_99 ?_
      refine lv_iload_n hx hb dX3_readClasses_102 rfl (lv_at hl 2 rfl) ?_
      refine va_iald hx hb hK.1 hP 12 0 rfl rfl q3 dX3_readClasses_103 ?_
      refine va_iast hx hb hK.1 hP hD hS 6 0 rfl rfl q3 dX3_readClasses_104 (fun H locs hP hD hS => ?_)
      have hP : va_P D vwCl (zw_ex tt ke (zu (zu (zu (zu (zu be 2 (upd (be 2) x2.toNatClampNeg y2)) 3 (upd (be 3) x2.toNatClampNeg y4)) 4 (upd (be 4) x2.toNatClampNeg y5)) 5 (upd (be 5) x2.toNatClampNeg ((bv 3) x2.toNatClampNeg))) 6 (upd (be 6) x2.toNatClampNeg ((bv 4) x2.toNatClampNeg))) ++ zw_co tt kv bv) H := hP
      have hD : va_D A (zw_ex tt ke (zu (zu (zu (zu (zu be 2 (upd (be 2) x2.toNatClampNeg y2)) 3 (upd (be 3) x2.toNatClampNeg y4)) 4 (upd (be 4) x2.toNatClampNeg y5)) 5 (upd (be 5) x2.toNatClampNeg ((bv 3) x2.toNatClampNeg))) 6 (upd (be 6) x2.toNatClampNeg ((bv 4) x2.toNatClampNeg))) ++ zw_co tt kv bv) := hD
      refine lv_iinc (v := (x2 + 1)) (lv' := [(2, .int (x2 + 1)), (0, .ref (ke 0)), (1, .ref (kv 0))]) hx hb dX3_readClasses_105 hl (k := 2) rfl rfl (by decide) rfl (fun ls hl => ?_)
      refine lv_goto (tgt := 13) hx hb dX3_readClasses_108 (by decide) ?_
      exact ih (zu (zu (zu (zu (zu be 2 (upd (be 2) x2.toNatClampNeg y2)) 3 (upd (be 3) x2.toNatClampNeg y4)) 4 (upd (be 4) x2.toNatClampNeg y5)) 5 (upd (be 5) x2.toNatClampNeg ((bv 3) x2.toNatClampNeg))) 6 (upd (be 6) x2.toNatClampNeg ((bv 4) x2.toNatClampNeg))) (x2 + 1) _ _ _ hP hD hS (lv_sub hl [1, 2, 0] rfl) h
  have hl := lv_entry ([.ref (ke 0), .ref (kv 0)]) (n := 3) (Nat.le_of_ble_eq_true rfl)
  refine W.eq (g2 := F0 m 0 ((lg_sl ([.ref (ke 0), .ref (kv 0)]) ++ List.replicate (3 - (lg_sl ([.ref (ke 0), .ref (kv 0)])).length) Slot.unset).toArray) []) (by rw [ha]; exact lg_entry_eq _ _ _) ?_
  generalize (lg_sl ([.ref (ke 0), .ref (kv 0)]) ++ List.replicate (3 - (lg_sl ([.ref (ke 0), .ref (kv 0)])).length) Slot.unset).toArray = ls at hl ⊢
  have hl : lv_has ls 3 [(0, .ref (ke 0)), (1, .ref (kv 0))] := hl
  rw [f_X3_readClasses] at h
  refine lv_aload_n hx hb dX3_readClasses_0 rfl (lv_at hl 0 rfl) ?_
  refine lv_aload_n hx hb dX3_readClasses_1 rfl (lv_at hl 1 rfl) ?_
  refine va_get (D := D) (ci := 2) (v := .ref (kv 1)) (C := RX2) (T := TX2) (N := 11) hx hb hts hi2 hown hK.1 hP 7 rfl rfl 0 (by decide) fl68 (fun _ h9 => h9) rfl dX3_readClasses_2 ?_
  refine va_get (D := D) (ci := 1) (v := .int (bv 0 0)) (C := RX1) (T := TX1) (N := 6) hx hb hts hi1 hown hK.1 hP 8 rfl rfl 0 (by decide) fl72 (fun _ h9 => h9) rfl dX3_readClasses_5 ?_
  refine va_put (D := D) (ci := 3) (v := .int (bv 0 0)) (ty := .int) (C := RX3) (T := TX3) (N := 8) hx hb hts hi3 tyX3 tyX3_ok nmX3 hown hK.1 hP hD hS 0 rfl rfl 2 (by decide) fl38 (fun _ h9 => h9) rfl (by decide +kernel) rfl rfl (Nat.le_of_ble_eq_true rfl) dX3_readClasses_8 (fun H locs hP hD hS => ?_)
  have hP : va_P D vwCl (zw_ex tt ke (zu be 0 (zu (be 0) 1 (bv 0 0))) ++ zw_co tt kv bv) H := hP
  have hD : va_D A (zw_ex tt ke (zu be 0 (zu (be 0) 1 (bv 0 0))) ++ zw_co tt kv bv) := hD
  refine lv_iconst (v := 0) hx hb dX3_readClasses_11 (by decide) ?_
  refine lv_istore_n (lv' := [(2, .int 0), (0, .ref (ke 0)), (1, .ref (kv 0))]) hx hb dX3_readClasses_12 rfl hl (by decide) rfl (fun ls hl => ?_)
  exact b13 1000 (zu be 0 (zu (be 0) 1 (bv 0 0))) 0 _ _ _ hP hD hS (lv_sub hl [1, 2, 0] rfl) h
set_option maxHeartbeats 4000000 in
set_option maxRecDepth 100000 in
theorem c_X3_claims (l : Launch) (D : va_G) (tt : Nat → ClassId) (ke : Nat → Nat) (be : zV) (x1 : Int32) (x2 : Int32) (x3 : Int32) (out : Int32) (h : f_X3_claims be x1 x2 x3 = some out) : Met l yX3_claims wsX3_claims { frames := 1, cells := 0, slots := 0, locals := 21 } (zPr [.ref (ke 0), .int x1, .int x2, .int x3] D tt (zw_ex tt ke be)) (zQr .boolean out) 0 0 (fun _ => False) := by
  refine Met.ofW (cc := cX3_claims) (maxL := 4) (ret := (some .boolean)) (by decide) rfl ?_
  intro p e s m args below meth c s₁ B hml hv
  obtain ⟨ha, hP, hK⟩ := hv
  have hx := B.exec
  have hb := B.bytes
  have hr := B.returns
  have hts := atoms_spec (ws := wsX3_claims) B.pre
  have hown : s.vm.findClass RX3 = some m.cls := findClass_of_methodNamed B.named
  have hlocks := B.notSynchronized
  have hi3 : ∀ w ∈ u_ws RX3 TX3 8, w ∈ wsX3_claims := fun _ h => List.mem_cons_of_mem _ (List.mem_append_right _ h)
  have fl15 := hts (.fieldLink RX3 15 "CapStacks$Exit" "shares" "[I") (by decide +kernel)
  have fl24 := hts (.fieldLink RX3 24 "CapStacks$Exit" "rank" "[I") (by decide +kernel)
  have iniX9 := hts (.initialized RX9) (by decide +kernel)
  have st_X9_contains := hts (.static yX9_contains) (by decide +kernel)
  have nw84 : va_Nw (.methodLinkNest RX3 84 yX9_contains "CapStacks") s := hK.2.1 (RX3, 84, yX9_contains, "CapStacks") (List.mem_of_getElem? (i := 16) rfl)
  have hfin : ∀ (v : Int32) (pc : Nat) (ls : Array Slot), some v = some out → narrow .boolean (.int v) = .int v → decode cX3_claims pc = .ok (.ireturn, 1) → W p l e (headSpec wsX3_claims { frames := 1, cells := 0, slots := 0, locals := 21 }).room s m args below meth c s.heap [] 0 0 (MQ below (zQr .boolean out) args s 0 0 (fun _ => False)) (F0 m pc ls [.int v]) := by
    intro v pc ls he hn hd
    cases he
    exact W.zret hx hb hr hn (fun t ht hW => ⟨rfl, hn, ht⟩) (fun _ h => by cases h) hd
  generalize MQ below (zQr .boolean out) args s 0 0 (fun _ => False) = Q at hfin ⊢
  have hl := lv_entry ([.ref (ke 0), .int x1, .int x2, .int x3]) (n := 4) (Nat.le_of_ble_eq_true rfl)
  refine W.eq (g2 := F0 m 0 ((lg_sl ([.ref (ke 0), .int x1, .int x2, .int x3]) ++ List.replicate (4 - (lg_sl ([.ref (ke 0), .int x1, .int x2, .int x3])).length) Slot.unset).toArray) []) (by rw [ha]; exact lg_entry_eq _ _ _) ?_
  generalize (lg_sl ([.ref (ke 0), .int x1, .int x2, .int x3]) ++ List.replicate (4 - (lg_sl ([.ref (ke 0), .int x1, .int x2, .int x3])).length) Slot.unset).toArray = ls at hl ⊢
  have hl : lv_has ls 4 [(0, .ref (ke 0)), (1, .int x1), (2, .int x2), (3, .int x3)] := hl
  rw [f_X3_claims] at h
  refine lv_iload_n hx hb dX3_claims_0 rfl (lv_at hl 1 rfl) ?_
  refine lv_if_eq (tgt := 35) hx hb dX3_claims_1 (by decide) (fun k1 => ?_) (fun k1 => ?_)
  · replace h := z_pos k1 h
    refine lv_iconst (v := 0) hx hb dX3_claims_35 (by decide) ?_
    exact hfin _ _ _ h rfl dX3_claims_36
  replace h := z_neg k1 h
  refine lv_aload_n hx hb dX3_claims_4 rfl (lv_at hl 0 rfl) ?_
  refine va_get (D := D) (ci := 3) (v := .ref (ke 5)) (C := RX3) (T := TX3) (N := 8) hx hb hts hi3 hown hK.1 hP 0 rfl rfl 6 (by decide) fl24 (fun _ h9 => h9) rfl dX3_claims_5 ?_
  refine lv_iload_n hx hb dX3_claims_8 rfl (lv_at hl 1 rfl) ?_
  obtain ⟨q2, h⟩ := zA_some h
  refine va_iald hx hb hK.1 hP 5 0 rfl rfl q2 dX3_claims_9 ?_
  refine lv_iload_n hx hb dX3_claims_10 rfl (lv_at hl 2 rfl) ?_
  refine lv_icmp_ne (tgt := 35) hx hb dX3_claims_11 (by decide) (fun k3 => ?_) (fun k3 => ?_)
  · replace h := z_neg k3 h
    refine lv_iconst (v := 0) hx hb dX3_claims_35 (by decide) ?_
    exact hfin _ _ _ h rfl dX3_claims_36
  replace h := z_pos k3 h
  refine lv_aload_n hx hb dX3_claims_14 rfl (lv_at hl 0 rfl) ?_
  refine va_get (D := D) (ci := 3) (v := .ref (ke 2)) (C := RX3) (T := TX3) (N := 8) hx hb hts hi3 hown hK.1 hP 0 rfl rfl 3 (by decide) fl15 (fun _ h9 => h9) rfl dX3_claims_15 ?_
  refine lv_iload_n hx hb dX3_claims_18 rfl (lv_at hl 1 rfl) ?_
  refine va_iald hx hb hK.1 hP 2 0 rfl rfl q2 dX3_claims_19 ?_
  refine lv_if_le (tgt := 35) hx hb dX3_claims_20 (by decide) (fun k4 => ?_) (fun k4 => ?_)
  · replace h := z_pos k4 h
    refine lv_iconst (v := 0) hx hb dX3_claims_35 (by decide) ?_
    exact hfin _ _ _ h rfl dX3_claims_36
  replace h := z_neg k4 h
  refine lv_iload_n hx hb dX3_claims_23 rfl (lv_at hl 3 rfl) ?_
  refine lv_iload_n hx hb dX3_claims_24 rfl (lv_at hl 1 rfl) ?_
  obtain ⟨y5, gy5, h⟩ := zb_some h
  refine z_callr (va_runSN (As := [.int x3, .int x1]) (rest := []) ⟨hx, hb, hml, hown, hts⟩ (c_X9_contains l D tt x3 x1 y5 gy5) ⟨va_cnB (host := "CapStacks") 2 hts gX3_claims_X9_contains_n84 rfl rfl rfl nw84 iniX9 (by decide +kernel) ⟨Nat.le_of_ble_eq_true rfl, Nat.le_of_ble_eq_true rfl⟩, st_X9_contains, trivial⟩ (z_preSr hK (hP.sub (ws' := ([] : va_W)) [] rfl)) rfl rfl hl.1 rfl (lv_room (Nat.le_of_ble_eq_true rfl)) dX3_claims_25 ⟨Nat.zero_le _, Nat.zero_le _⟩) (fun ny5 => ?_)
  refine lv_if_ne (tgt := 35) hx hb dX3_claims_28 (by decide) (fun k6 => ?_) (fun k6 => ?_)
  · replace h := z_neg k6 h
    refine lv_iconst (v := 0) hx hb dX3_claims_35 (by decide) ?_
    exact hfin _ _ _ h rfl dX3_claims_36
  replace h := z_pos k6 h
  refine lv_iconst (v := 1) hx hb dX3_claims_31 (by decide) ?_
  refine lv_goto (tgt := 36) hx hb dX3_claims_32 (by decide) ?_
  exact hfin _ _ _ h rfl dX3_claims_36
set_option maxHeartbeats 4000000 in
set_option maxRecDepth 100000 in
theorem c_X3_claimsOf (l : Launch) (D : va_G) (tt : Nat → ClassId) (ke : Nat → Nat) (be : zV) (x1 : Int32) (x2 : Int32) (out : Int32) (h : f_X3_claimsOf be x1 x2 = some out) : Met l yX3_claimsOf wsX3_claimsOf { frames := 2, cells := 0, slots := 0, locals := 44 } (zPr [.ref (ke 0), .int x1, .int x2] D tt (zw_ex tt ke be)) (zQr .int out) 0 0 (fun _ => False) := by
  refine Met.ofW (cc := cX3_claimsOf) (maxL := 5) (ret := (some .int)) (by decide) rfl ?_
  intro p e s m args below meth c s₁ B hml hv
  obtain ⟨ha, hP, hK⟩ := hv
  have hx := B.exec
  have hb := B.bytes
  have hr := B.returns
  have hts := atoms_spec (ws := wsX3_claimsOf) B.pre
  have hown : s.vm.findClass RX3 = some m.cls := findClass_of_methodNamed B.named
  have hlocks := B.notSynchronized
  have hi3 : ∀ w ∈ u_ws RX3 TX3 8, w ∈ wsX3_claimsOf := fun _ h => List.mem_cons_of_mem _ (List.mem_append_right _ h)
  have fl18 := hts (.fieldLink RX3 18 "CapStacks$Exit" "preference" "[I") (by decide +kernel)
  have fl38 := hts (.fieldLink RX3 38 "CapStacks$Exit" "size" "I") (by decide +kernel)
  have hfin : ∀ (v : Int32) (pc : Nat) (ls : Array Slot), some v = some out → narrow .int (.int v) = .int v → decode cX3_claimsOf pc = .ok (.ireturn, 1) → W p l e (headSpec wsX3_claimsOf { frames := 2, cells := 0, slots := 0, locals := 44 }).room s m args below meth c s.heap [] 0 0 (MQ below (zQr .int out) args s 0 0 (fun _ => False)) (F0 m pc ls [.int v]) := by
    intro v pc ls he hn hd
    cases he
    exact W.zret hx hb hr hn (fun t ht hW => ⟨rfl, hn, ht⟩) (fun _ h => by cases h) hd
  generalize MQ below (zQr .int out) args s 0 0 (fun _ => False) = Q at hfin ⊢
  have b5 : ∀ n : Nat, ∀ (x1 : Int32) (x2 : Int32) (x3 : Int32) (x4 : Int32) (ls : Array Slot), lv_has ls 5 [(0, .ref (ke 0)), (1, .int x1), (2, .int x2), (3, .int x3), (4, .int x4)] → f_X3_claimsOf_b5 be n x1 x2 x3 x4 = some out → W p l e (headSpec wsX3_claimsOf { frames := 2, cells := 0, slots := 0, locals := 44 }).room s m args below meth c s.heap [] 0 0 Q (F0 m 5 ls []) := by
    intro n
    induction n with
    | zero =>
      intro x1 x2 x3 x4 ls hl h
      cases h
    | succ n ih =>
      intro x1 x2 x3 x4 ls hl h
      rw [f_X3_claimsOf_b5] at h
      refine lv_iload hx hb dX3_claimsOf_5 (lv_at hl 4 rfl) ?_
      refine lv_aload_n hx hb dX3_claimsOf_7 rfl (lv_at hl 0 rfl) ?_
      refine va_get (D := D) (ci := 3) (v := .int (be 0 1)) (C := RX3) (T := TX3) (N := 8) hx hb hts hi3 hown hK.1 hP 0 rfl rfl 2 (by decide) fl38 (fun _ h9 => h9) rfl dX3_claimsOf_8 ?_
      refine lv_icmp_ge (tgt := 41) hx hb dX3_claimsOf_11 (by decide) (fun k1 => ?_) (fun k1 => ?_)
      · replace h := z_pos k1 h
        refine lv_iload_n hx hb dX3_claimsOf_41 rfl (lv_at hl 3 rfl) ?_
        exact hfin _ _ _ h rfl dX3_claimsOf_42
      replace h := z_neg k1 h
      refine lv_aload_n hx hb dX3_claimsOf_14 rfl (lv_at hl 0 rfl) ?_
      refine lv_iload hx hb dX3_claimsOf_15 (lv_at hl 4 rfl) ?_
      refine lv_iload_n hx hb dX3_claimsOf_17 rfl (lv_at hl 1 rfl) ?_
      refine lv_iload_n hx hb dX3_claimsOf_18 rfl (lv_at hl 2 rfl) ?_
      obtain ⟨y2, gy2, h⟩ := zb_some h
      refine z_callr (va_runV (As := [.int x4, .int x1, .int x2]) (rest := []) ⟨hx, hb, hml, hown, hts⟩ (c_X3_claims l D tt ke be x4 x1 x2 y2 gy2) (cwV 3 hts gX3_claimsOf_X3_claims rfl rfl rfl (by decide +kernel) ⟨Nat.le_of_ble_eq_true rfl, Nat.le_of_ble_eq_true rfl⟩) (z_preVr hK hP (ci := 3) (q0 := 0) rfl rfl) rfl rfl hl.1 rfl (lv_room (Nat.le_of_ble_eq_true rfl)) dX3_claimsOf_19 ⟨Nat.zero_le _, Nat.zero_le _⟩) (fun ny2 => ?_)
      refine lv_if_eq (tgt := 35) hx hb dX3_claimsOf_22 (by decide) (fun k3 => ?_) (fun k3 => ?_)
      · replace h := z_pos k3 h
        refine lv_iinc (v := (x4 + 1)) (lv' := [(4, .int (x4 + 1)), (0, .ref (ke 0)), (1, .int x1), (2, .int x2), (3, .int x3)]) hx hb dX3_claimsOf_35 hl (k := 4) rfl rfl (by decide) rfl (fun ls hl => ?_)
        refine lv_goto (tgt := 5) hx hb dX3_claimsOf_38 (by decide) ?_
        exact ih x1 x2 x3 (x4 + 1) _ (lv_sub hl [1, 2, 3, 4, 0] rfl) h
      replace h := z_neg k3 h
      refine lv_iload_n hx hb dX3_claimsOf_25 rfl (lv_at hl 3 rfl) ?_
      refine lv_aload_n hx hb dX3_claimsOf_26 rfl (lv_at hl 0 rfl) ?_
      refine va_get (D := D) (ci := 3) (v := .ref (ke 3)) (C := RX3) (T := TX3) (N := 8) hx hb hts hi3 hown hK.1 hP 0 rfl rfl 4 (by decide) fl18 (fun _ h9 => h9) rfl dX3_claimsOf_27 ?_
      refine lv_iload hx hb dX3_claimsOf_30 (lv_at hl 4 rfl) ?_
      obtain ⟨q4, h⟩ := zA_some h
      refine va_iald hx hb hK.1 hP 3 0 rfl rfl q4 dX3_claimsOf_32 ?_
      refine lv_iadd hx hb dX3_claimsOf_33 ?_
      refine lv_istore_n (lv' := [(3, .int (x3 + ((be 3) x4.toNatClampNeg))), (0, .ref (ke 0)), (1, .int x1), (2, .int x2), (4, .int x4)]) hx hb dX3_claimsOf_34 rfl hl (by decide) rfl (fun ls hl => ?_)
      refine lv_iinc (v := (x4 + 1)) (lv' := [(4, .int (x4 + 1)), (3, .int (x3 + ((be 3) x4.toNatClampNeg))), (0, .ref (ke 0)), (1, .int x1), (2, .int x2)]) hx hb dX3_claimsOf_35 hl (k := 4) rfl rfl (by decide) rfl (fun ls hl => ?_)
      refine lv_goto (tgt := 5) hx hb dX3_claimsOf_38 (by decide) ?_
      exact ih x1 x2 (x3 + ((be 3) x4.toNatClampNeg)) (x4 + 1) _ (lv_sub hl [2, 3, 4, 1, 0] rfl) h
  have hl := lv_entry ([.ref (ke 0), .int x1, .int x2]) (n := 5) (Nat.le_of_ble_eq_true rfl)
  refine W.eq (g2 := F0 m 0 ((lg_sl ([.ref (ke 0), .int x1, .int x2]) ++ List.replicate (5 - (lg_sl ([.ref (ke 0), .int x1, .int x2])).length) Slot.unset).toArray) []) (by rw [ha]; exact lg_entry_eq _ _ _) ?_
  generalize (lg_sl ([.ref (ke 0), .int x1, .int x2]) ++ List.replicate (5 - (lg_sl ([.ref (ke 0), .int x1, .int x2])).length) Slot.unset).toArray = ls at hl ⊢
  have hl : lv_has ls 5 [(0, .ref (ke 0)), (1, .int x1), (2, .int x2)] := hl
  rw [f_X3_claimsOf] at h
  refine lv_iconst (v := 0) hx hb dX3_claimsOf_0 (by decide) ?_
  refine lv_istore_n (lv' := [(3, .int 0), (0, .ref (ke 0)), (1, .int x1), (2, .int x2)]) hx hb dX3_claimsOf_1 rfl hl (by decide) rfl (fun ls hl => ?_)
  refine lv_iconst (v := 1) hx hb dX3_claimsOf_2 (by decide) ?_
  refine lv_istore (lv' := [(4, .int 1), (3, .int 0), (0, .ref (ke 0)), (1, .int x1), (2, .int x2)]) hx hb dX3_claimsOf_3 hl (by decide) rfl (fun ls hl => ?_)
  exact b5 1000 x1 x2 0 1 _ (lv_sub hl [2, 3, 4, 1, 0] rfl) h
set_option maxHeartbeats 4000000 in
set_option maxRecDepth 100000 in
theorem c_X3_payClaims (l : Launch) (D : va_G) (tt : Nat → ClassId) (ke : Nat → Nat) (sz : Nat) (be : zV) (x1 : Int32) (x2 : Int32) (x3 : Int32) (x4 : Int32) (out : zV) (h : f_X3_payClaims be x1 x2 x3 x4 = some out) : Met l yX3_payClaims wsX3_payClaims { frames := 2, cells := 0, slots := 0, locals := 44 } (zPm [.ref (ke 0), .int x1, .int x2, .int x3, .int x4] D tt (zw_ex tt ke be) sz) (zMv D (zw_ex tt ke out) (va_A (zw_ex tt ke be) sz)) 0 0 (va_A (zw_ex tt ke be) sz) := by
  refine Met.ofW (cc := cX3_payClaims) (maxL := 6) (ret := none) (by decide) rfl ?_
  intro p e s m args below meth c s₁ B hml hv
  obtain ⟨ha, hsz, hP, hK, hD0⟩ := hv
  have hx := B.exec
  have hb := B.bytes
  have hr := B.returns
  have hts := atoms_spec (ws := wsX3_payClaims) B.pre
  have hown : s.vm.findClass RX3 = some m.cls := findClass_of_methodNamed B.named
  have hlocks := B.notSynchronized
  have hi3 : ∀ w ∈ u_ws RX3 TX3 8, w ∈ wsX3_payClaims := fun _ h => List.mem_cons_of_mem _ (List.mem_append_right _ h)
  have fl18 := hts (.fieldLink RX3 18 "CapStacks$Exit" "preference" "[I") (by decide +kernel)
  have fl38 := hts (.fieldLink RX3 38 "CapStacks$Exit" "size" "I") (by decide +kernel)
  have fl9 := hts (.fieldLink RX3 9 "CapStacks$Exit" "gain" "[I") (by decide +kernel)
  have iniX9 := hts (.initialized RX9) (by decide +kernel)
  have st_X9_portion := hts (.static yX9_portion) (by decide +kernel)
  have nw61 : va_Nw (.methodLinkNest RX3 61 yX9_portion "CapStacks") s := hK.2.1 (RX3, 61, yX9_portion, "CapStacks") (List.mem_of_getElem? (i := 17) rfl)
  subst hsz
  have hD := hD0.self (sz := s.heap.size)
  generalize hAe : va_A (zw_ex tt ke be) s.heap.size = A at hD ⊢
  have hA : ∀ q : Nat, s.heap.size ≤ q → A q := fun q h => by rw [← hAe]; exact Or.inr h
  have hS : va_S A s.heap s.heap [] := va_S.rf
  have hfin : ∀ (be : zV) (pc : Nat) (ls : Array Slot) (H : Heap) (locs : List Loc), some be = some out → va_P D vwCl (zw_ex tt ke be) H → va_D A (zw_ex tt ke be) → va_S A s.heap H locs → decode cX3_payClaims pc = .ok (.return_, 1) → W p l e (headSpec wsX3_payClaims { frames := 2, cells := 0, slots := 0, locals := 44 }).room s m args below meth c H locs 0 0 (MQ below (zMv D (zw_ex tt ke out) A) args s 0 0 A) (F0 m pc ls []) := by
    intro be pc ls H locs he hP hD hS hd
    cases he
    exact W.vret hx hb hr (fun t ht hW => ⟨⟨(), rfl, trivial, by rw [ht]; exact hP, hD⟩, hS.F ht⟩) hS.2.2 hd
  generalize MQ below (zMv D (zw_ex tt ke out) A) args s 0 0 A = Q at hfin ⊢
  have b3 : ∀ n : Nat, ∀ (be : zV) (x1 : Int32) (x2 : Int32) (x3 : Int32) (x4 : Int32) (x5 : Int32) (H : Heap) (locs : List Loc) (ls : Array Slot), va_P D vwCl (zw_ex tt ke be) H → va_D A (zw_ex tt ke be) → va_S A s.heap H locs → lv_has ls 6 [(0, .ref (ke 0)), (1, .int x1), (2, .int x2), (3, .int x3), (4, .int x4), (5, .int x5)] → f_X3_payClaims_b3 n be x1 x2 x3 x4 x5 = some out → W p l e (headSpec wsX3_payClaims { frames := 2, cells := 0, slots := 0, locals := 44 }).room s m args below meth c H locs 0 0 Q (F0 m 3 ls []) := by
    intro n
    induction n with
    | zero =>
      intro be x1 x2 x3 x4 x5 H locs ls hP hD hS hl h
      cases h
    | succ n ih =>
      intro be x1 x2 x3 x4 x5 H locs ls hP hD hS hl h
      rw [f_X3_payClaims_b3] at h
      refine lv_iload hx hb dX3_payClaims_3 (lv_at hl 5 rfl) ?_
      refine lv_aload_n hx hb dX3_payClaims_5 rfl (lv_at hl 0 rfl) ?_
      refine va_get (D := D) (ci := 3) (v := .int (be 0 1)) (C := RX3) (T := TX3) (N := 8) hx hb hts hi3 hown hK.1 hP 0 rfl rfl 2 (by decide) fl38 (fun _ h9 => h9) rfl dX3_payClaims_6 ?_
      refine lv_icmp_ge (tgt := 49) hx hb dX3_payClaims_9 (by decide) (fun k1 => ?_) (fun k1 => ?_)
      · replace h := z_pos k1 h
        exact hfin _ _ _ _ _ h hP hD hS dX3_payClaims_49
      replace h := z_neg k1 h
      refine lv_aload_n hx hb dX3_payClaims_12 rfl (lv_at hl 0 rfl) ?_
      refine lv_iload hx hb dX3_payClaims_13 (lv_at hl 5 rfl) ?_
      refine lv_iload_n hx hb dX3_payClaims_15 rfl (lv_at hl 1 rfl) ?_
      refine lv_iload_n hx hb dX3_payClaims_16 rfl (lv_at hl 2 rfl) ?_
      obtain ⟨y2, gy2, h⟩ := zb_some h
      refine z_callr (va_runV (As := [.int x5, .int x1, .int x2]) (rest := []) ⟨hx, hb, hml, hown, hts⟩ (c_X3_claims l D tt ke be x5 x1 x2 y2 gy2) (cwV 3 hts gX3_payClaims_X3_claims rfl rfl rfl (by decide +kernel) ⟨Nat.le_of_ble_eq_true rfl, Nat.le_of_ble_eq_true rfl⟩) (z_preVr hK hP (ci := 3) (q0 := 0) rfl rfl) rfl rfl hl.1 rfl (lv_room (Nat.le_of_ble_eq_true rfl)) dX3_payClaims_17 ⟨Nat.zero_le _, Nat.zero_le _⟩) (fun ny2 => ?_)
      refine lv_if_eq (tgt := 43) hx hb dX3_payClaims_20 (by decide) (fun k3 => ?_) (fun k3 => ?_)
      · replace h := z_pos k3 h
        refine lv_iinc (v := (x5 + 1)) (lv' := [(5, .int (x5 + 1)), (0, .ref (ke 0)), (1, .int x1), (2, .int x2), (3, .int x3), (4, .int x4)]) hx hb dX3_payClaims_43 hl (k := 5) rfl rfl (by decide) rfl (fun ls hl => ?_)
        refine lv_goto (tgt := 3) hx hb dX3_payClaims_46 (by decide) ?_
        exact ih be x1 x2 x3 x4 (x5 + 1) _ _ _ hP hD hS (lv_sub hl [1, 2, 3, 4, 5, 0] rfl) h
      replace h := z_neg k3 h
      refine lv_aload_n hx hb dX3_payClaims_23 rfl (lv_at hl 0 rfl) ?_
      refine va_get (D := D) (ci := 3) (v := .ref (ke 1)) (C := RX3) (T := TX3) (N := 8) hx hb hts hi3 hown hK.1 hP 0 rfl rfl 1 (by decide) fl9 (fun _ h9 => h9) rfl dX3_payClaims_24 ?_
      refine lv_iload hx hb dX3_payClaims_27 (lv_at hl 5 rfl) ?_
      refine lv_iload_n hx hb dX3_payClaims_29 rfl (lv_at hl 3 rfl) ?_
      refine lv_aload_n hx hb dX3_payClaims_30 rfl (lv_at hl 0 rfl) ?_
      refine va_get (D := D) (ci := 3) (v := .ref (ke 3)) (C := RX3) (T := TX3) (N := 8) hx hb hts hi3 hown hK.1 hP 0 rfl rfl 4 (by decide) fl18 (fun _ h9 => h9) rfl dX3_payClaims_31 ?_
      refine lv_iload hx hb dX3_payClaims_34 (lv_at hl 5 rfl) ?_
      obtain ⟨q4, h⟩ := zA_some h
      refine va_iald hx hb hK.1 hP 3 0 rfl rfl q4 dX3_payClaims_36 ?_
      refine lv_iload hx hb dX3_payClaims_37 (lv_at hl 4 rfl) ?_
      obtain ⟨y5, gy5, h⟩ := zb_some h
      refine z_callr (va_runSN (As := [.int x3, .int ((be 3) x5.toNatClampNeg), .int x4]) (rest := [.int x5, .ref (ke 1)]) ⟨hx, hb, hml, hown, hts⟩ (c_X9_portion l D tt x3 ((be 3) x5.toNatClampNeg) x4 y5 gy5) ⟨va_cnB (host := "CapStacks") 3 hts gX3_payClaims_X9_portion_n61 rfl rfl rfl nw61 iniX9 (by decide +kernel) ⟨Nat.le_of_ble_eq_true rfl, Nat.le_of_ble_eq_true rfl⟩, st_X9_portion, trivial⟩ (z_preSr hK (hP.sub (ws' := ([] : va_W)) [] rfl)) rfl rfl hl.1 rfl (lv_room (Nat.le_of_ble_eq_true rfl)) dX3_payClaims_39 ⟨Nat.zero_le _, Nat.zero_le _⟩) (fun ny5 => ?_)
      refine va_iast hx hb hK.1 hP hD hS 1 0 rfl rfl q4 dX3_payClaims_42 (fun H locs hP hD hS => ?_)
      have hP : va_P D vwCl (zw_ex tt ke (zu be 1 (upd (be 1) x5.toNatClampNeg y5))) H := hP
      have hD : va_D A (zw_ex tt ke (zu be 1 (upd (be 1) x5.toNatClampNeg y5))) := hD
      refine lv_iinc (v := (x5 + 1)) (lv' := [(5, .int (x5 + 1)), (0, .ref (ke 0)), (1, .int x1), (2, .int x2), (3, .int x3), (4, .int x4)]) hx hb dX3_payClaims_43 hl (k := 5) rfl rfl (by decide) rfl (fun ls hl => ?_)
      refine lv_goto (tgt := 3) hx hb dX3_payClaims_46 (by decide) ?_
      exact ih (zu be 1 (upd (be 1) x5.toNatClampNeg y5)) x1 x2 x3 x4 (x5 + 1) _ _ _ hP hD hS (lv_sub hl [1, 2, 3, 4, 5, 0] rfl) h
  have hl := lv_entry ([.ref (ke 0), .int x1, .int x2, .int x3, .int x4]) (n := 6) (Nat.le_of_ble_eq_true rfl)
  refine W.eq (g2 := F0 m 0 ((lg_sl ([.ref (ke 0), .int x1, .int x2, .int x3, .int x4]) ++ List.replicate (6 - (lg_sl ([.ref (ke 0), .int x1, .int x2, .int x3, .int x4])).length) Slot.unset).toArray) []) (by rw [ha]; exact lg_entry_eq _ _ _) ?_
  generalize (lg_sl ([.ref (ke 0), .int x1, .int x2, .int x3, .int x4]) ++ List.replicate (6 - (lg_sl ([.ref (ke 0), .int x1, .int x2, .int x3, .int x4])).length) Slot.unset).toArray = ls at hl ⊢
  have hl : lv_has ls 6 [(0, .ref (ke 0)), (1, .int x1), (2, .int x2), (3, .int x3), (4, .int x4)] := hl
  rw [f_X3_payClaims] at h
  refine lv_iconst (v := 1) hx hb dX3_payClaims_0 (by decide) ?_
  refine lv_istore (lv' := [(5, .int 1), (0, .ref (ke 0)), (1, .int x1), (2, .int x2), (3, .int x3), (4, .int x4)]) hx hb dX3_payClaims_1 hl (by decide) rfl (fun ls hl => ?_)
  exact b3 1000 be x1 x2 x3 x4 1 _ _ _ hP hD hS (lv_sub hl [1, 2, 3, 4, 5, 0] rfl) h
set_option maxHeartbeats 4000000 in
set_option maxRecDepth 100000 in
theorem c_X3_sharers (l : Launch) (D : va_G) (tt : Nat → ClassId) (ke : Nat → Nat) (be : zV) (x1 : Int32) (out : Int32) (h : f_X3_sharers be x1 = some out) : Met l yX3_sharers wsX3_sharers { frames := 1, cells := 0, slots := 0, locals := 21 } (zPr [.ref (ke 0), .int x1] D tt (zw_ex tt ke be)) (zQr .int out) 0 0 (fun _ => False) := by
  refine Met.ofW (cc := cX3_sharers) (maxL := 4) (ret := (some .int)) (by decide) rfl ?_
  intro p e s m args below meth c s₁ B hml hv
  obtain ⟨ha, hP, hK⟩ := hv
  have hx := B.exec
  have hb := B.bytes
  have hr := B.returns
  have hts := atoms_spec (ws := wsX3_sharers) B.pre
  have hown : s.vm.findClass RX3 = some m.cls := findClass_of_methodNamed B.named
  have hlocks := B.notSynchronized
  have hi3 : ∀ w ∈ u_ws RX3 TX3 8, w ∈ wsX3_sharers := fun _ h => List.mem_cons_of_mem _ (List.mem_append_right _ h)
  have fl27 := hts (.fieldLink RX3 27 "CapStacks$Exit" "kind" "[I") (by decide +kernel)
  have fl38 := hts (.fieldLink RX3 38 "CapStacks$Exit" "size" "I") (by decide +kernel)
  have iniX9 := hts (.initialized RX9) (by decide +kernel)
  have st_X9_contains := hts (.static yX9_contains) (by decide +kernel)
  have nw84 : va_Nw (.methodLinkNest RX3 84 yX9_contains "CapStacks") s := hK.2.1 (RX3, 84, yX9_contains, "CapStacks") (List.mem_of_getElem? (i := 16) rfl)
  have hfin : ∀ (v : Int32) (pc : Nat) (ls : Array Slot), some v = some out → narrow .int (.int v) = .int v → decode cX3_sharers pc = .ok (.ireturn, 1) → W p l e (headSpec wsX3_sharers { frames := 1, cells := 0, slots := 0, locals := 21 }).room s m args below meth c s.heap [] 0 0 (MQ below (zQr .int out) args s 0 0 (fun _ => False)) (F0 m pc ls [.int v]) := by
    intro v pc ls he hn hd
    cases he
    exact W.zret hx hb hr hn (fun t ht hW => ⟨rfl, hn, ht⟩) (fun _ h => by cases h) hd
  generalize MQ below (zQr .int out) args s 0 0 (fun _ => False) = Q at hfin ⊢
  have go : ∀ n : Nat, (∀ (x1 : Int32) (x2 : Int32) (x3 : Int32) (ls : Array Slot), lv_has ls 4 [(0, .ref (ke 0)), (1, .int x1), (2, .int x2), (3, .int x3)] → f_X3_sharers_go be n 0 x1 x2 x3 = some out → W p l e (headSpec wsX3_sharers { frames := 1, cells := 0, slots := 0, locals := 21 }).room s m args below meth c s.heap [] 0 0 Q (F0 m 4 ls [])) ∧ (∀ (x1 : Int32) (x2 : Int32) (x3 : Int32) (ls : Array Slot), lv_has ls 4 [(0, .ref (ke 0)), (1, .int x1), (2, .int x2), (3, .int x3)] → f_X3_sharers_go be n 1 x1 x2 x3 = some out → W p l e (headSpec wsX3_sharers { frames := 1, cells := 0, slots := 0, locals := 21 }).room s m args below meth c s.heap [] 0 0 Q (F0 m 33 ls [])) := by
    intro n
    induction n with
    | zero =>
      refine ⟨?_, ?_⟩
      · intro x1 x2 x3 ls hl h
        cases h
      · intro x1 x2 x3 ls hl h
        cases h
    | succ n ih =>
      refine ⟨?_, ?_⟩
      · intro x1 x2 x3 ls hl h
        simp only [f_X3_sharers_go] at h
        refine lv_iload_n hx hb dX3_sharers_4 rfl (lv_at hl 3 rfl) ?_
        refine lv_aload_n hx hb dX3_sharers_5 rfl (lv_at hl 0 rfl) ?_
        refine va_get (D := D) (ci := 3) (v := .int (be 0 1)) (C := RX3) (T := TX3) (N := 8) hx hb hts hi3 hown hK.1 hP 0 rfl rfl 2 (by decide) fl38 (fun _ h9 => h9) rfl dX3_sharers_6 ?_
        refine lv_icmp_ge (tgt := 45) hx hb dX3_sharers_9 (by decide) (fun k1 => ?_) (fun k1 => ?_)
        · replace h := z_pos k1 h
          refine lv_iload_n hx hb dX3_sharers_45 rfl (lv_at hl 2 rfl) ?_
          exact hfin _ _ _ h rfl dX3_sharers_46
        replace h := z_neg k1 h
        refine lv_iload_n hx hb dX3_sharers_12 rfl (lv_at hl 3 rfl) ?_
        refine lv_if_eq (tgt := 33) hx hb dX3_sharers_13 (by decide) (fun k2 => ?_) (fun k2 => ?_)
        · replace h := z_pos k2 h
          exact (ih).2 x1 x2 x3 _ (lv_sub hl [0, 1, 2, 3] rfl) h
        replace h := z_neg k2 h
        refine lv_iload_n hx hb dX3_sharers_16 rfl (lv_at hl 1 rfl) ?_
        refine lv_iload_n hx hb dX3_sharers_17 rfl (lv_at hl 3 rfl) ?_
        obtain ⟨y3, gy3, h⟩ := zb_some h
        refine z_callr (va_runSN (As := [.int x1, .int x3]) (rest := []) ⟨hx, hb, hml, hown, hts⟩ (c_X9_contains l D tt x1 x3 y3 gy3) ⟨va_cnB (host := "CapStacks") 2 hts gX3_sharers_X9_contains_n84 rfl rfl rfl nw84 iniX9 (by decide +kernel) ⟨Nat.le_of_ble_eq_true rfl, Nat.le_of_ble_eq_true rfl⟩, st_X9_contains, trivial⟩ (z_preSr hK (hP.sub (ws' := ([] : va_W)) [] rfl)) rfl rfl hl.1 rfl (lv_room (Nat.le_of_ble_eq_true rfl)) dX3_sharers_18 ⟨Nat.zero_le _, Nat.zero_le _⟩) (fun ny3 => ?_)
        refine lv_if_ne (tgt := 33) hx hb dX3_sharers_21 (by decide) (fun k4 => ?_) (fun k4 => ?_)
        · replace h := z_neg k4 h
          exact (ih).2 x1 x2 x3 _ (lv_sub hl [0, 1, 2, 3] rfl) h
        replace h := z_pos k4 h
        refine lv_aload_n hx hb dX3_sharers_24 rfl (lv_at hl 0 rfl) ?_
        refine va_get (D := D) (ci := 3) (v := .ref (ke 6)) (C := RX3) (T := TX3) (N := 8) hx hb hts hi3 hown hK.1 hP 0 rfl rfl 7 (by decide) fl27 (fun _ h9 => h9) rfl dX3_sharers_25 ?_
        refine lv_iload_n hx hb dX3_sharers_28 rfl (lv_at hl 3 rfl) ?_
        obtain ⟨q5, h⟩ := zA_some h
        refine va_iald hx hb hK.1 hP 6 0 rfl rfl q5 dX3_sharers_29 ?_
        refine lv_if_eq (tgt := 39) hx hb dX3_sharers_30 (by decide) (fun k6 => ?_) (fun k6 => ?_)
        rotate_left
        · replace h := z_neg k6 h
          exact (ih).2 x1 x2 x3 _ (lv_sub hl [0, 1, 2, 3] rfl) h
        replace h := z_pos k6 h
        refine lv_iinc (v := (x3 + 1)) (lv' := [(3, .int (x3 + 1)), (0, .ref (ke 0)), (1, .int x1), (2, .int x2)]) hx hb dX3_sharers_39 hl (k := 3) rfl rfl (by decide) rfl (fun ls hl => ?_)
        refine lv_goto (tgt := 4) hx hb dX3_sharers_42 (by decide) ?_
        exact (ih).1 x1 x2 (x3 + 1) _ (lv_sub hl [1, 2, 3, 0] rfl) h
      · intro x1 x2 x3 ls hl h
        simp only [f_X3_sharers_go] at h
        refine lv_iload_n hx hb dX3_sharers_33 rfl (lv_at hl 2 rfl) ?_
        refine lv_iconst (v := 1) hx hb dX3_sharers_34 (by decide) ?_
        refine lv_iload_n hx hb dX3_sharers_35 rfl (lv_at hl 3 rfl) ?_
        refine lv_ishl hx hb dX3_sharers_36 ?_
        refine lv_ior hx hb dX3_sharers_37 ?_
        refine lv_istore_n (lv' := [(2, .int (x2 ||| (1 <<< (x3 &&& 31)))), (0, .ref (ke 0)), (1, .int x1), (3, .int x3)]) hx hb dX3_sharers_38 rfl hl (by decide) rfl (fun ls hl => ?_)
        refine lv_iinc (v := (x3 + 1)) (lv' := [(3, .int (x3 + 1)), (2, .int (x2 ||| (1 <<< (x3 &&& 31)))), (0, .ref (ke 0)), (1, .int x1)]) hx hb dX3_sharers_39 hl (k := 3) rfl rfl (by decide) rfl (fun ls hl => ?_)
        refine lv_goto (tgt := 4) hx hb dX3_sharers_42 (by decide) ?_
        exact (ih).1 x1 (x2 ||| (1 <<< (x3 &&& 31))) (x3 + 1) _ (lv_sub hl [2, 3, 1, 0] rfl) h
  have hl := lv_entry ([.ref (ke 0), .int x1]) (n := 4) (Nat.le_of_ble_eq_true rfl)
  refine W.eq (g2 := F0 m 0 ((lg_sl ([.ref (ke 0), .int x1]) ++ List.replicate (4 - (lg_sl ([.ref (ke 0), .int x1])).length) Slot.unset).toArray) []) (by rw [ha]; exact lg_entry_eq _ _ _) ?_
  generalize (lg_sl ([.ref (ke 0), .int x1]) ++ List.replicate (4 - (lg_sl ([.ref (ke 0), .int x1])).length) Slot.unset).toArray = ls at hl ⊢
  have hl : lv_has ls 4 [(0, .ref (ke 0)), (1, .int x1)] := hl
  rw [f_X3_sharers] at h
  refine lv_iconst (v := 0) hx hb dX3_sharers_0 (by decide) ?_
  refine lv_istore_n (lv' := [(2, .int 0), (0, .ref (ke 0)), (1, .int x1)]) hx hb dX3_sharers_1 rfl hl (by decide) rfl (fun ls hl => ?_)
  refine lv_iconst (v := 0) hx hb dX3_sharers_2 (by decide) ?_
  refine lv_istore_n (lv' := [(3, .int 0), (2, .int 0), (0, .ref (ke 0)), (1, .int x1)]) hx hb dX3_sharers_3 rfl hl (by decide) rfl (fun ls hl => ?_)
  exact (go 1000).1 x1 0 0 _ (lv_sub hl [2, 3, 1, 0] rfl) h
set_option maxHeartbeats 4000000 in
set_option maxRecDepth 100000 in
theorem c_X3_commonOf (l : Launch) (D : va_G) (tt : Nat → ClassId) (ke : Nat → Nat) (be : zV) (x1 : Int32) (out : Int32) (h : f_X3_commonOf be x1 = some out) : Met l yX3_commonOf wsX3_commonOf { frames := 1, cells := 0, slots := 0, locals := 21 } (zPr [.ref (ke 0), .int x1] D tt (zw_ex tt ke be)) (zQr .int out) 0 0 (fun _ => False) := by
  refine Met.ofW (cc := cX3_commonOf) (maxL := 4) (ret := (some .int)) (by decide) rfl ?_
  intro p e s m args below meth c s₁ B hml hv
  obtain ⟨ha, hP, hK⟩ := hv
  have hx := B.exec
  have hb := B.bytes
  have hr := B.returns
  have hts := atoms_spec (ws := wsX3_commonOf) B.pre
  have hown : s.vm.findClass RX3 = some m.cls := findClass_of_methodNamed B.named
  have hlocks := B.notSynchronized
  have hi3 : ∀ w ∈ u_ws RX3 TX3 8, w ∈ wsX3_commonOf := fun _ h => List.mem_cons_of_mem _ (List.mem_append_right _ h)
  have fl21 := hts (.fieldLink RX3 21 "CapStacks$Exit" "common" "[I") (by decide +kernel)
  have fl38 := hts (.fieldLink RX3 38 "CapStacks$Exit" "size" "I") (by decide +kernel)
  have iniX9 := hts (.initialized RX9) (by decide +kernel)
  have st_X9_contains := hts (.static yX9_contains) (by decide +kernel)
  have nw84 : va_Nw (.methodLinkNest RX3 84 yX9_contains "CapStacks") s := hK.2.1 (RX3, 84, yX9_contains, "CapStacks") (List.mem_of_getElem? (i := 16) rfl)
  have hfin : ∀ (v : Int32) (pc : Nat) (ls : Array Slot), some v = some out → narrow .int (.int v) = .int v → decode cX3_commonOf pc = .ok (.ireturn, 1) → W p l e (headSpec wsX3_commonOf { frames := 1, cells := 0, slots := 0, locals := 21 }).room s m args below meth c s.heap [] 0 0 (MQ below (zQr .int out) args s 0 0 (fun _ => False)) (F0 m pc ls [.int v]) := by
    intro v pc ls he hn hd
    cases he
    exact W.zret hx hb hr hn (fun t ht hW => ⟨rfl, hn, ht⟩) (fun _ h => by cases h) hd
  generalize MQ below (zQr .int out) args s 0 0 (fun _ => False) = Q at hfin ⊢
  have b4 : ∀ n : Nat, ∀ (x1 : Int32) (x2 : Int32) (x3 : Int32) (ls : Array Slot), lv_has ls 4 [(0, .ref (ke 0)), (1, .int x1), (2, .int x2), (3, .int x3)] → f_X3_commonOf_b4 be n x1 x2 x3 = some out → W p l e (headSpec wsX3_commonOf { frames := 1, cells := 0, slots := 0, locals := 21 }).room s m args below meth c s.heap [] 0 0 Q (F0 m 4 ls []) := by
    intro n
    induction n with
    | zero =>
      intro x1 x2 x3 ls hl h
      cases h
    | succ n ih =>
      intro x1 x2 x3 ls hl h
      rw [f_X3_commonOf_b4] at h
      refine lv_iload_n hx hb dX3_commonOf_4 rfl (lv_at hl 3 rfl) ?_
      refine lv_aload_n hx hb dX3_commonOf_5 rfl (lv_at hl 0 rfl) ?_
      refine va_get (D := D) (ci := 3) (v := .int (be 0 1)) (C := RX3) (T := TX3) (N := 8) hx hb hts hi3 hown hK.1 hP 0 rfl rfl 2 (by decide) fl38 (fun _ h9 => h9) rfl dX3_commonOf_6 ?_
      refine lv_icmp_ge (tgt := 35) hx hb dX3_commonOf_9 (by decide) (fun k1 => ?_) (fun k1 => ?_)
      · replace h := z_pos k1 h
        refine lv_iload_n hx hb dX3_commonOf_35 rfl (lv_at hl 2 rfl) ?_
        exact hfin _ _ _ h rfl dX3_commonOf_36
      replace h := z_neg k1 h
      refine lv_iload_n hx hb dX3_commonOf_12 rfl (lv_at hl 1 rfl) ?_
      refine lv_iload_n hx hb dX3_commonOf_13 rfl (lv_at hl 3 rfl) ?_
      obtain ⟨y2, gy2, h⟩ := zb_some h
      refine z_callr (va_runSN (As := [.int x1, .int x3]) (rest := []) ⟨hx, hb, hml, hown, hts⟩ (c_X9_contains l D tt x1 x3 y2 gy2) ⟨va_cnB (host := "CapStacks") 2 hts gX3_commonOf_X9_contains_n84 rfl rfl rfl nw84 iniX9 (by decide +kernel) ⟨Nat.le_of_ble_eq_true rfl, Nat.le_of_ble_eq_true rfl⟩, st_X9_contains, trivial⟩ (z_preSr hK (hP.sub (ws' := ([] : va_W)) [] rfl)) rfl rfl hl.1 rfl (lv_room (Nat.le_of_ble_eq_true rfl)) dX3_commonOf_14 ⟨Nat.zero_le _, Nat.zero_le _⟩) (fun ny2 => ?_)
      refine lv_if_eq (tgt := 29) hx hb dX3_commonOf_17 (by decide) (fun k3 => ?_) (fun k3 => ?_)
      · replace h := z_pos k3 h
        refine lv_iinc (v := (x3 + 1)) (lv' := [(3, .int (x3 + 1)), (0, .ref (ke 0)), (1, .int x1), (2, .int x2)]) hx hb dX3_commonOf_29 hl (k := 3) rfl rfl (by decide) rfl (fun ls hl => ?_)
        refine lv_goto (tgt := 4) hx hb dX3_commonOf_32 (by decide) ?_
        exact ih x1 x2 (x3 + 1) _ (lv_sub hl [1, 2, 3, 0] rfl) h
      replace h := z_neg k3 h
      refine lv_iload_n hx hb dX3_commonOf_20 rfl (lv_at hl 2 rfl) ?_
      refine lv_aload_n hx hb dX3_commonOf_21 rfl (lv_at hl 0 rfl) ?_
      refine va_get (D := D) (ci := 3) (v := .ref (ke 4)) (C := RX3) (T := TX3) (N := 8) hx hb hts hi3 hown hK.1 hP 0 rfl rfl 5 (by decide) fl21 (fun _ h9 => h9) rfl dX3_commonOf_22 ?_
      refine lv_iload_n hx hb dX3_commonOf_25 rfl (lv_at hl 3 rfl) ?_
      obtain ⟨q4, h⟩ := zA_some h
      refine va_iald hx hb hK.1 hP 4 0 rfl rfl q4 dX3_commonOf_26 ?_
      refine lv_iadd hx hb dX3_commonOf_27 ?_
      refine lv_istore_n (lv' := [(2, .int (x2 + ((be 4) x3.toNatClampNeg))), (0, .ref (ke 0)), (1, .int x1), (3, .int x3)]) hx hb dX3_commonOf_28 rfl hl (by decide) rfl (fun ls hl => ?_)
      refine lv_iinc (v := (x3 + 1)) (lv' := [(3, .int (x3 + 1)), (2, .int (x2 + ((be 4) x3.toNatClampNeg))), (0, .ref (ke 0)), (1, .int x1)]) hx hb dX3_commonOf_29 hl (k := 3) rfl rfl (by decide) rfl (fun ls hl => ?_)
      refine lv_goto (tgt := 4) hx hb dX3_commonOf_32 (by decide) ?_
      exact ih x1 (x2 + ((be 4) x3.toNatClampNeg)) (x3 + 1) _ (lv_sub hl [2, 3, 1, 0] rfl) h
  have hl := lv_entry ([.ref (ke 0), .int x1]) (n := 4) (Nat.le_of_ble_eq_true rfl)
  refine W.eq (g2 := F0 m 0 ((lg_sl ([.ref (ke 0), .int x1]) ++ List.replicate (4 - (lg_sl ([.ref (ke 0), .int x1])).length) Slot.unset).toArray) []) (by rw [ha]; exact lg_entry_eq _ _ _) ?_
  generalize (lg_sl ([.ref (ke 0), .int x1]) ++ List.replicate (4 - (lg_sl ([.ref (ke 0), .int x1])).length) Slot.unset).toArray = ls at hl ⊢
  have hl : lv_has ls 4 [(0, .ref (ke 0)), (1, .int x1)] := hl
  rw [f_X3_commonOf] at h
  refine lv_iconst (v := 0) hx hb dX3_commonOf_0 (by decide) ?_
  refine lv_istore_n (lv' := [(2, .int 0), (0, .ref (ke 0)), (1, .int x1)]) hx hb dX3_commonOf_1 rfl hl (by decide) rfl (fun ls hl => ?_)
  refine lv_iconst (v := 0) hx hb dX3_commonOf_2 (by decide) ?_
  refine lv_istore_n (lv' := [(3, .int 0), (2, .int 0), (0, .ref (ke 0)), (1, .int x1)]) hx hb dX3_commonOf_3 rfl hl (by decide) rfl (fun ls hl => ?_)
  exact b4 1000 x1 0 0 _ (lv_sub hl [2, 3, 1, 0] rfl) h
set_option maxHeartbeats 4000000 in
set_option maxRecDepth 100000 in
theorem c_X3_lowestOverCap (l : Launch) (D : va_G) (tt : Nat → ClassId) (ke : Nat → Nat) (be : zV) (x1 : Int32) (x2 : Int32) (x3 : Int32) (out : Int32) (h : f_X3_lowestOverCap be x1 x2 x3 = some out) : Met l yX3_lowestOverCap wsX3_lowestOverCap { frames := 1, cells := 0, slots := 0, locals := 22 } (zPr [.ref (ke 0), .int x1, .int x2, .int x3] D tt (zw_ex tt ke be)) (zQr .int out) 0 0 (fun _ => False) := by
  refine Met.ofW (cc := cX3_lowestOverCap) (maxL := 5) (ret := (some .int)) (by decide) rfl ?_
  intro p e s m args below meth c s₁ B hml hv
  obtain ⟨ha, hP, hK⟩ := hv
  have hx := B.exec
  have hb := B.bytes
  have hr := B.returns
  have hts := atoms_spec (ws := wsX3_lowestOverCap) B.pre
  have hown : s.vm.findClass RX3 = some m.cls := findClass_of_methodNamed B.named
  have hlocks := B.notSynchronized
  have hi3 : ∀ w ∈ u_ws RX3 TX3 8, w ∈ wsX3_lowestOverCap := fun _ h => List.mem_cons_of_mem _ (List.mem_append_right _ h)
  have fl18 := hts (.fieldLink RX3 18 "CapStacks$Exit" "preference" "[I") (by decide +kernel)
  have fl21 := hts (.fieldLink RX3 21 "CapStacks$Exit" "common" "[I") (by decide +kernel)
  have fl27 := hts (.fieldLink RX3 27 "CapStacks$Exit" "kind" "[I") (by decide +kernel)
  have fl38 := hts (.fieldLink RX3 38 "CapStacks$Exit" "size" "I") (by decide +kernel)
  have iniX9 := hts (.initialized RX9) (by decide +kernel)
  have st_X9_contains := hts (.static yX9_contains) (by decide +kernel)
  have st_X9_portion := hts (.static yX9_portion) (by decide +kernel)
  have nw61 : va_Nw (.methodLinkNest RX3 61 yX9_portion "CapStacks") s := hK.2.1 (RX3, 61, yX9_portion, "CapStacks") (List.mem_of_getElem? (i := 17) rfl)
  have nw84 : va_Nw (.methodLinkNest RX3 84 yX9_contains "CapStacks") s := hK.2.1 (RX3, 84, yX9_contains, "CapStacks") (List.mem_of_getElem? (i := 16) rfl)
  have hfin : ∀ (v : Int32) (pc : Nat) (ls : Array Slot), some v = some out → narrow .int (.int v) = .int v → decode cX3_lowestOverCap pc = .ok (.ireturn, 1) → W p l e (headSpec wsX3_lowestOverCap { frames := 1, cells := 0, slots := 0, locals := 22 }).room s m args below meth c s.heap [] 0 0 (MQ below (zQr .int out) args s 0 0 (fun _ => False)) (F0 m pc ls [.int v]) := by
    intro v pc ls he hn hd
    cases he
    exact W.zret hx hb hr hn (fun t ht hW => ⟨rfl, hn, ht⟩) (fun _ h => by cases h) hd
  generalize MQ below (zQr .int out) args s 0 0 (fun _ => False) = Q at hfin ⊢
  have b3 : ∀ n : Nat, ∀ (x1 : Int32) (x2 : Int32) (x3 : Int32) (x4 : Int32) (ls : Array Slot), lv_has ls 5 [(0, .ref (ke 0)), (1, .int x1), (2, .int x2), (3, .int x3), (4, .int x4)] → f_X3_lowestOverCap_b3 be n x1 x2 x3 x4 = some out → W p l e (headSpec wsX3_lowestOverCap { frames := 1, cells := 0, slots := 0, locals := 22 }).room s m args below meth c s.heap [] 0 0 Q (F0 m 3 ls []) := by
    intro n
    induction n with
    | zero =>
      intro x1 x2 x3 x4 ls hl h
      cases h
    | succ n ih =>
      intro x1 x2 x3 x4 ls hl h
      rw [f_X3_lowestOverCap_b3] at h
      refine lv_iload hx hb dX3_lowestOverCap_3 (lv_at hl 4 rfl) ?_
      refine lv_aload_n hx hb dX3_lowestOverCap_5 rfl (lv_at hl 0 rfl) ?_
      refine va_get (D := D) (ci := 3) (v := .int (be 0 1)) (C := RX3) (T := TX3) (N := 8) hx hb hts hi3 hown hK.1 hP 0 rfl rfl 2 (by decide) fl38 (fun _ h9 => h9) rfl dX3_lowestOverCap_6 ?_
      refine lv_icmp_ge (tgt := 63) hx hb dX3_lowestOverCap_9 (by decide) (fun k1 => ?_) (fun k1 => ?_)
      · replace h := z_pos k1 h
        refine lv_iconst (v := (-1)) hx hb dX3_lowestOverCap_63 (by decide) ?_
        exact hfin _ _ _ h rfl dX3_lowestOverCap_64
      replace h := z_neg k1 h
      refine lv_iload_n hx hb dX3_lowestOverCap_12 rfl (lv_at hl 3 rfl) ?_
      refine lv_iload hx hb dX3_lowestOverCap_13 (lv_at hl 4 rfl) ?_
      obtain ⟨y2, gy2, h⟩ := zb_some h
      refine z_callr (va_runSN (As := [.int x3, .int x4]) (rest := []) ⟨hx, hb, hml, hown, hts⟩ (c_X9_contains l D tt x3 x4 y2 gy2) ⟨va_cnB (host := "CapStacks") 2 hts gX3_lowestOverCap_X9_contains_n84 rfl rfl rfl nw84 iniX9 (by decide +kernel) ⟨Nat.le_of_ble_eq_true rfl, Nat.le_of_ble_eq_true rfl⟩, st_X9_contains, trivial⟩ (z_preSr hK (hP.sub (ws' := ([] : va_W)) [] rfl)) rfl rfl hl.1 rfl (lv_room (Nat.le_of_ble_eq_true rfl)) dX3_lowestOverCap_15 ⟨Nat.zero_le _, Nat.zero_le _⟩) (fun ny2 => ?_)
      refine lv_if_eq (tgt := 57) hx hb dX3_lowestOverCap_18 (by decide) (fun k3 => ?_) (fun k3 => ?_)
      · replace h := z_pos k3 h
        refine lv_iinc (v := (x4 + 1)) (lv' := [(4, .int (x4 + 1)), (0, .ref (ke 0)), (1, .int x1), (2, .int x2), (3, .int x3)]) hx hb dX3_lowestOverCap_57 hl (k := 4) rfl rfl (by decide) rfl (fun ls hl => ?_)
        refine lv_goto (tgt := 3) hx hb dX3_lowestOverCap_60 (by decide) ?_
        exact ih x1 x2 x3 (x4 + 1) _ (lv_sub hl [1, 2, 3, 4, 0] rfl) h
      replace h := z_neg k3 h
      refine lv_aload_n hx hb dX3_lowestOverCap_21 rfl (lv_at hl 0 rfl) ?_
      refine va_get (D := D) (ci := 3) (v := .ref (ke 6)) (C := RX3) (T := TX3) (N := 8) hx hb hts hi3 hown hK.1 hP 0 rfl rfl 7 (by decide) fl27 (fun _ h9 => h9) rfl dX3_lowestOverCap_22 ?_
      refine lv_iload hx hb dX3_lowestOverCap_25 (lv_at hl 4 rfl) ?_
      obtain ⟨q4, h⟩ := zA_some h
      refine va_iald hx hb hK.1 hP 6 0 rfl rfl q4 dX3_lowestOverCap_27 ?_
      refine lv_iconst (v := 2) hx hb dX3_lowestOverCap_28 (by decide) ?_
      refine lv_icmp_ne (tgt := 57) hx hb dX3_lowestOverCap_29 (by decide) (fun k5 => ?_) (fun k5 => ?_)
      · replace h := z_neg k5 h
        refine lv_iinc (v := (x4 + 1)) (lv' := [(4, .int (x4 + 1)), (0, .ref (ke 0)), (1, .int x1), (2, .int x2), (3, .int x3)]) hx hb dX3_lowestOverCap_57 hl (k := 4) rfl rfl (by decide) rfl (fun ls hl => ?_)
        refine lv_goto (tgt := 3) hx hb dX3_lowestOverCap_60 (by decide) ?_
        exact ih x1 x2 x3 (x4 + 1) _ (lv_sub hl [1, 2, 3, 4, 0] rfl) h
      replace h := z_pos k5 h
      refine lv_iload_n hx hb dX3_lowestOverCap_32 rfl (lv_at hl 1 rfl) ?_
      refine lv_aload_n hx hb dX3_lowestOverCap_33 rfl (lv_at hl 0 rfl) ?_
      refine va_get (D := D) (ci := 3) (v := .ref (ke 4)) (C := RX3) (T := TX3) (N := 8) hx hb hts hi3 hown hK.1 hP 0 rfl rfl 5 (by decide) fl21 (fun _ h9 => h9) rfl dX3_lowestOverCap_34 ?_
      refine lv_iload hx hb dX3_lowestOverCap_37 (lv_at hl 4 rfl) ?_
      refine va_iald hx hb hK.1 hP 4 0 rfl rfl q4 dX3_lowestOverCap_39 ?_
      refine lv_iload_n hx hb dX3_lowestOverCap_40 rfl (lv_at hl 2 rfl) ?_
      obtain ⟨y6, gy6, h⟩ := zb_some h
      refine z_callr (va_runSN (As := [.int x1, .int ((be 4) x4.toNatClampNeg), .int x2]) (rest := []) ⟨hx, hb, hml, hown, hts⟩ (c_X9_portion l D tt x1 ((be 4) x4.toNatClampNeg) x2 y6 gy6) ⟨va_cnB (host := "CapStacks") 3 hts gX3_lowestOverCap_X9_portion_n61 rfl rfl rfl nw61 iniX9 (by decide +kernel) ⟨Nat.le_of_ble_eq_true rfl, Nat.le_of_ble_eq_true rfl⟩, st_X9_portion, trivial⟩ (z_preSr hK (hP.sub (ws' := ([] : va_W)) [] rfl)) rfl rfl hl.1 rfl (lv_room (Nat.le_of_ble_eq_true rfl)) dX3_lowestOverCap_41 ⟨Nat.zero_le _, Nat.zero_le _⟩) (fun ny6 => ?_)
      refine lv_aload_n hx hb dX3_lowestOverCap_44 rfl (lv_at hl 0 rfl) ?_
      refine va_get (D := D) (ci := 3) (v := .ref (ke 3)) (C := RX3) (T := TX3) (N := 8) hx hb hts hi3 hown hK.1 hP 0 rfl rfl 4 (by decide) fl18 (fun _ h9 => h9) rfl dX3_lowestOverCap_45 ?_
      refine lv_iload hx hb dX3_lowestOverCap_48 (lv_at hl 4 rfl) ?_
      refine va_iald hx hb hK.1 hP 3 0 rfl rfl q4 dX3_lowestOverCap_50 ?_
      refine lv_icmp_le (tgt := 57) hx hb dX3_lowestOverCap_51 (by decide) (fun k7 => ?_) (fun k7 => ?_)
      rotate_left
      · replace h := z_neg k7 h
        refine lv_iload hx hb dX3_lowestOverCap_54 (lv_at hl 4 rfl) ?_
        exact hfin _ _ _ h rfl dX3_lowestOverCap_56
      replace h := z_pos k7 h
      refine lv_iinc (v := (x4 + 1)) (lv' := [(4, .int (x4 + 1)), (0, .ref (ke 0)), (1, .int x1), (2, .int x2), (3, .int x3)]) hx hb dX3_lowestOverCap_57 hl (k := 4) rfl rfl (by decide) rfl (fun ls hl => ?_)
      refine lv_goto (tgt := 3) hx hb dX3_lowestOverCap_60 (by decide) ?_
      exact ih x1 x2 x3 (x4 + 1) _ (lv_sub hl [1, 2, 3, 4, 0] rfl) h
  have hl := lv_entry ([.ref (ke 0), .int x1, .int x2, .int x3]) (n := 5) (Nat.le_of_ble_eq_true rfl)
  refine W.eq (g2 := F0 m 0 ((lg_sl ([.ref (ke 0), .int x1, .int x2, .int x3]) ++ List.replicate (5 - (lg_sl ([.ref (ke 0), .int x1, .int x2, .int x3])).length) Slot.unset).toArray) []) (by rw [ha]; exact lg_entry_eq _ _ _) ?_
  generalize (lg_sl ([.ref (ke 0), .int x1, .int x2, .int x3]) ++ List.replicate (5 - (lg_sl ([.ref (ke 0), .int x1, .int x2, .int x3])).length) Slot.unset).toArray = ls at hl ⊢
  have hl : lv_has ls 5 [(0, .ref (ke 0)), (1, .int x1), (2, .int x2), (3, .int x3)] := hl
  rw [f_X3_lowestOverCap] at h
  refine lv_iconst (v := 1) hx hb dX3_lowestOverCap_0 (by decide) ?_
  refine lv_istore (lv' := [(4, .int 1), (0, .ref (ke 0)), (1, .int x1), (2, .int x2), (3, .int x3)]) hx hb dX3_lowestOverCap_1 hl (by decide) rfl (fun ls hl => ?_)
  exact b3 1000 x1 x2 x3 1 _ (lv_sub hl [1, 2, 3, 4, 0] rfl) h
set_option maxHeartbeats 4000000 in
set_option maxRecDepth 100000 in
theorem c_X3_addShares (l : Launch) (D : va_G) (tt : Nat → ClassId) (ke : Nat → Nat) (sz : Nat) (be : zV) (x1 : Int32) (x2 : Int32) (x3 : Int32) (out : zV) (h : f_X3_addShares be x1 x2 x3 = some out) : Met l yX3_addShares wsX3_addShares { frames := 1, cells := 0, slots := 0, locals := 22 } (zPm [.ref (ke 0), .int x1, .int x2, .int x3] D tt (zw_ex tt ke be) sz) (zMv D (zw_ex tt ke out) (va_A (zw_ex tt ke be) sz)) 0 0 (va_A (zw_ex tt ke be) sz) := by
  refine Met.ofW (cc := cX3_addShares) (maxL := 5) (ret := none) (by decide) rfl ?_
  intro p e s m args below meth c s₁ B hml hv
  obtain ⟨ha, hsz, hP, hK, hD0⟩ := hv
  have hx := B.exec
  have hb := B.bytes
  have hr := B.returns
  have hts := atoms_spec (ws := wsX3_addShares) B.pre
  have hown : s.vm.findClass RX3 = some m.cls := findClass_of_methodNamed B.named
  have hlocks := B.notSynchronized
  have hi3 : ∀ w ∈ u_ws RX3 TX3 8, w ∈ wsX3_addShares := fun _ h => List.mem_cons_of_mem _ (List.mem_append_right _ h)
  have fl21 := hts (.fieldLink RX3 21 "CapStacks$Exit" "common" "[I") (by decide +kernel)
  have fl38 := hts (.fieldLink RX3 38 "CapStacks$Exit" "size" "I") (by decide +kernel)
  have fl9 := hts (.fieldLink RX3 9 "CapStacks$Exit" "gain" "[I") (by decide +kernel)
  have iniX9 := hts (.initialized RX9) (by decide +kernel)
  have st_X9_contains := hts (.static yX9_contains) (by decide +kernel)
  have st_X9_portion := hts (.static yX9_portion) (by decide +kernel)
  have nw61 : va_Nw (.methodLinkNest RX3 61 yX9_portion "CapStacks") s := hK.2.1 (RX3, 61, yX9_portion, "CapStacks") (List.mem_of_getElem? (i := 17) rfl)
  have nw84 : va_Nw (.methodLinkNest RX3 84 yX9_contains "CapStacks") s := hK.2.1 (RX3, 84, yX9_contains, "CapStacks") (List.mem_of_getElem? (i := 16) rfl)
  subst hsz
  have hD := hD0.self (sz := s.heap.size)
  generalize hAe : va_A (zw_ex tt ke be) s.heap.size = A at hD ⊢
  have hA : ∀ q : Nat, s.heap.size ≤ q → A q := fun q h => by rw [← hAe]; exact Or.inr h
  have hS : va_S A s.heap s.heap [] := va_S.rf
  have hfin : ∀ (be : zV) (pc : Nat) (ls : Array Slot) (H : Heap) (locs : List Loc), some be = some out → va_P D vwCl (zw_ex tt ke be) H → va_D A (zw_ex tt ke be) → va_S A s.heap H locs → decode cX3_addShares pc = .ok (.return_, 1) → W p l e (headSpec wsX3_addShares { frames := 1, cells := 0, slots := 0, locals := 22 }).room s m args below meth c H locs 0 0 (MQ below (zMv D (zw_ex tt ke out) A) args s 0 0 A) (F0 m pc ls []) := by
    intro be pc ls H locs he hP hD hS hd
    cases he
    exact W.vret hx hb hr (fun t ht hW => ⟨⟨(), rfl, trivial, by rw [ht]; exact hP, hD⟩, hS.F ht⟩) hS.2.2 hd
  generalize MQ below (zMv D (zw_ex tt ke out) A) args s 0 0 A = Q at hfin ⊢
  have b3 : ∀ n : Nat, ∀ (be : zV) (x1 : Int32) (x2 : Int32) (x3 : Int32) (x4 : Int32) (H : Heap) (locs : List Loc) (ls : Array Slot), va_P D vwCl (zw_ex tt ke be) H → va_D A (zw_ex tt ke be) → va_S A s.heap H locs → lv_has ls 5 [(0, .ref (ke 0)), (1, .int x1), (2, .int x2), (3, .int x3), (4, .int x4)] → f_X3_addShares_b3 n be x1 x2 x3 x4 = some out → W p l e (headSpec wsX3_addShares { frames := 1, cells := 0, slots := 0, locals := 22 }).room s m args below meth c H locs 0 0 Q (F0 m 3 ls []) := by
    intro n
    induction n with
    | zero =>
      intro be x1 x2 x3 x4 H locs ls hP hD hS hl h
      cases h
    | succ n ih =>
      intro be x1 x2 x3 x4 H locs ls hP hD hS hl h
      rw [f_X3_addShares_b3] at h
      refine lv_iload hx hb dX3_addShares_3 (lv_at hl 4 rfl) ?_
      refine lv_aload_n hx hb dX3_addShares_5 rfl (lv_at hl 0 rfl) ?_
      refine va_get (D := D) (ci := 3) (v := .int (be 0 1)) (C := RX3) (T := TX3) (N := 8) hx hb hts hi3 hown hK.1 hP 0 rfl rfl 2 (by decide) fl38 (fun _ h9 => h9) rfl dX3_addShares_6 ?_
      refine lv_icmp_ge (tgt := 49) hx hb dX3_addShares_9 (by decide) (fun k1 => ?_) (fun k1 => ?_)
      · replace h := z_pos k1 h
        exact hfin _ _ _ _ _ h hP hD hS dX3_addShares_49
      replace h := z_neg k1 h
      refine lv_iload_n hx hb dX3_addShares_12 rfl (lv_at hl 3 rfl) ?_
      refine lv_iload hx hb dX3_addShares_13 (lv_at hl 4 rfl) ?_
      obtain ⟨y2, gy2, h⟩ := zb_some h
      refine z_callr (va_runSN (As := [.int x3, .int x4]) (rest := []) ⟨hx, hb, hml, hown, hts⟩ (c_X9_contains l D tt x3 x4 y2 gy2) ⟨va_cnB (host := "CapStacks") 2 hts gX3_addShares_X9_contains_n84 rfl rfl rfl nw84 iniX9 (by decide +kernel) ⟨Nat.le_of_ble_eq_true rfl, Nat.le_of_ble_eq_true rfl⟩, st_X9_contains, trivial⟩ (z_preSr hK (hP.sub (ws' := ([] : va_W)) [] rfl)) rfl rfl hl.1 rfl (lv_room (Nat.le_of_ble_eq_true rfl)) dX3_addShares_15 ⟨Nat.zero_le _, Nat.zero_le _⟩) (fun ny2 => ?_)
      refine lv_if_eq (tgt := 43) hx hb dX3_addShares_18 (by decide) (fun k3 => ?_) (fun k3 => ?_)
      · replace h := z_pos k3 h
        refine lv_iinc (v := (x4 + 1)) (lv' := [(4, .int (x4 + 1)), (0, .ref (ke 0)), (1, .int x1), (2, .int x2), (3, .int x3)]) hx hb dX3_addShares_43 hl (k := 4) rfl rfl (by decide) rfl (fun ls hl => ?_)
        refine lv_goto (tgt := 3) hx hb dX3_addShares_46 (by decide) ?_
        exact ih be x1 x2 x3 (x4 + 1) _ _ _ hP hD hS (lv_sub hl [1, 2, 3, 4, 0] rfl) h
      replace h := z_neg k3 h
      refine lv_aload_n hx hb dX3_addShares_21 rfl (lv_at hl 0 rfl) ?_
      refine va_get (D := D) (ci := 3) (v := .ref (ke 1)) (C := RX3) (T := TX3) (N := 8) hx hb hts hi3 hown hK.1 hP 0 rfl rfl 1 (by decide) fl9 (fun _ h9 => h9) rfl dX3_addShares_22 ?_
      refine lv_iload hx hb dX3_addShares_25 (lv_at hl 4 rfl) ?_
      refine lv_dup2_11 hx hb dX3_addShares_27 rfl rfl ?_
      obtain ⟨q4, h⟩ := zA_some h
      refine va_iald hx hb hK.1 hP 1 0 rfl rfl q4 dX3_addShares_28 ?_
      refine lv_iload_n hx hb dX3_addShares_29 rfl (lv_at hl 1 rfl) ?_
      refine lv_aload_n hx hb dX3_addShares_30 rfl (lv_at hl 0 rfl) ?_
      refine va_get (D := D) (ci := 3) (v := .ref (ke 4)) (C := RX3) (T := TX3) (N := 8) hx hb hts hi3 hown hK.1 hP 0 rfl rfl 5 (by decide) fl21 (fun _ h9 => h9) rfl dX3_addShares_31 ?_
      refine lv_iload hx hb dX3_addShares_34 (lv_at hl 4 rfl) ?_
      refine va_iald hx hb hK.1 hP 4 0 rfl rfl q4 dX3_addShares_36 ?_
      refine lv_iload_n hx hb dX3_addShares_37 rfl (lv_at hl 2 rfl) ?_
      obtain ⟨y5, gy5, h⟩ := zb_some h
      refine z_callr (va_runSN (As := [.int x1, .int ((be 4) x4.toNatClampNeg), .int x2]) (rest := [.int ((be 1) x4.toNatClampNeg), .int x4, .ref (ke 1)]) ⟨hx, hb, hml, hown, hts⟩ (c_X9_portion l D tt x1 ((be 4) x4.toNatClampNeg) x2 y5 gy5) ⟨va_cnB (host := "CapStacks") 3 hts gX3_addShares_X9_portion_n61 rfl rfl rfl nw61 iniX9 (by decide +kernel) ⟨Nat.le_of_ble_eq_true rfl, Nat.le_of_ble_eq_true rfl⟩, st_X9_portion, trivial⟩ (z_preSr hK (hP.sub (ws' := ([] : va_W)) [] rfl)) rfl rfl hl.1 rfl (lv_room (Nat.le_of_ble_eq_true rfl)) dX3_addShares_38 ⟨Nat.zero_le _, Nat.zero_le _⟩) (fun ny5 => ?_)
      refine lv_iadd hx hb dX3_addShares_41 ?_
      refine va_iast hx hb hK.1 hP hD hS 1 0 rfl rfl q4 dX3_addShares_42 (fun H locs hP hD hS => ?_)
      have hP : va_P D vwCl (zw_ex tt ke (zu be 1 (upd (be 1) x4.toNatClampNeg (((be 1) x4.toNatClampNeg) + y5)))) H := hP
      have hD : va_D A (zw_ex tt ke (zu be 1 (upd (be 1) x4.toNatClampNeg (((be 1) x4.toNatClampNeg) + y5)))) := hD
      refine lv_iinc (v := (x4 + 1)) (lv' := [(4, .int (x4 + 1)), (0, .ref (ke 0)), (1, .int x1), (2, .int x2), (3, .int x3)]) hx hb dX3_addShares_43 hl (k := 4) rfl rfl (by decide) rfl (fun ls hl => ?_)
      refine lv_goto (tgt := 3) hx hb dX3_addShares_46 (by decide) ?_
      exact ih (zu be 1 (upd (be 1) x4.toNatClampNeg (((be 1) x4.toNatClampNeg) + y5))) x1 x2 x3 (x4 + 1) _ _ _ hP hD hS (lv_sub hl [1, 2, 3, 4, 0] rfl) h
  have hl := lv_entry ([.ref (ke 0), .int x1, .int x2, .int x3]) (n := 5) (Nat.le_of_ble_eq_true rfl)
  refine W.eq (g2 := F0 m 0 ((lg_sl ([.ref (ke 0), .int x1, .int x2, .int x3]) ++ List.replicate (5 - (lg_sl ([.ref (ke 0), .int x1, .int x2, .int x3])).length) Slot.unset).toArray) []) (by rw [ha]; exact lg_entry_eq _ _ _) ?_
  generalize (lg_sl ([.ref (ke 0), .int x1, .int x2, .int x3]) ++ List.replicate (5 - (lg_sl ([.ref (ke 0), .int x1, .int x2, .int x3])).length) Slot.unset).toArray = ls at hl ⊢
  have hl : lv_has ls 5 [(0, .ref (ke 0)), (1, .int x1), (2, .int x2), (3, .int x3)] := hl
  rw [f_X3_addShares] at h
  refine lv_iconst (v := 0) hx hb dX3_addShares_0 (by decide) ?_
  refine lv_istore (lv' := [(4, .int 0), (0, .ref (ke 0)), (1, .int x1), (2, .int x2), (3, .int x3)]) hx hb dX3_addShares_1 hl (by decide) rfl (fun ls hl => ?_)
  exact b3 1000 be x1 x2 x3 0 _ _ _ hP hD hS (lv_sub hl [1, 2, 3, 4, 0] rfl) h
set_option maxHeartbeats 4000000 in
set_option maxRecDepth 100000 in
theorem c_X3_shareOut (l : Launch) (D : va_G) (tt : Nat → ClassId) (ke : Nat → Nat) (sz : Nat) (be : zV) (x1 : Int32) (x2 : Int32) (out : zV) (h : f_X3_shareOut be x1 x2 = some out) : Met l yX3_shareOut wsX3_shareOut { frames := 2, cells := 0, slots := 0, locals := 46 } (zPm [.ref (ke 0), .int x1, .int x2] D tt (zw_ex tt ke be) sz) (zMv D (zw_ex tt ke out) (va_A (zw_ex tt ke be) sz)) 0 0 (va_A (zw_ex tt ke be) sz) := by
  refine Met.ofW (cc := cX3_shareOut) (maxL := 8) (ret := none) (by decide) rfl ?_
  intro p e s m args below meth c s₁ B hml hv
  obtain ⟨ha, hsz, hP, hK, hD0⟩ := hv
  have hx := B.exec
  have hb := B.bytes
  have hr := B.returns
  have hts := atoms_spec (ws := wsX3_shareOut) B.pre
  have hown : s.vm.findClass RX3 = some m.cls := findClass_of_methodNamed B.named
  have hlocks := B.notSynchronized
  have hi3 : ∀ w ∈ u_ws RX3 TX3 8, w ∈ wsX3_shareOut := fun _ h => List.mem_cons_of_mem _ (List.mem_append_right _ h)
  have fl18 := hts (.fieldLink RX3 18 "CapStacks$Exit" "preference" "[I") (by decide +kernel)
  have fl38 := hts (.fieldLink RX3 38 "CapStacks$Exit" "size" "I") (by decide +kernel)
  have fl9 := hts (.fieldLink RX3 9 "CapStacks$Exit" "gain" "[I") (by decide +kernel)
  subst hsz
  have hD := hD0.self (sz := s.heap.size)
  generalize hAe : va_A (zw_ex tt ke be) s.heap.size = A at hD ⊢
  have hA : ∀ q : Nat, s.heap.size ≤ q → A q := fun q h => by rw [← hAe]; exact Or.inr h
  have hS : va_S A s.heap s.heap [] := va_S.rf
  have hfin : ∀ (be : zV) (pc : Nat) (ls : Array Slot) (H : Heap) (locs : List Loc), some be = some out → va_P D vwCl (zw_ex tt ke be) H → va_D A (zw_ex tt ke be) → va_S A s.heap H locs → decode cX3_shareOut pc = .ok (.return_, 1) → W p l e (headSpec wsX3_shareOut { frames := 2, cells := 0, slots := 0, locals := 46 }).room s m args below meth c H locs 0 0 (MQ below (zMv D (zw_ex tt ke out) A) args s 0 0 A) (F0 m pc ls []) := by
    intro be pc ls H locs he hP hD hS hd
    cases he
    exact W.vret hx hb hr (fun t ht hW => ⟨⟨(), rfl, trivial, by rw [ht]; exact hP, hD⟩, hS.F ht⟩) hS.2.2 hd
  generalize MQ below (zMv D (zw_ex tt ke out) A) args s 0 0 A = Q at hfin ⊢
  have b12 : ∀ n : Nat, ∀ (be : zV) (x2 : Int32) (x3 : Int32) (x4 : Int32) (x5 : Int32) (H : Heap) (locs : List Loc) (ls : Array Slot), va_P D vwCl (zw_ex tt ke be) H → va_D A (zw_ex tt ke be) → va_S A s.heap H locs → lv_has ls 8 [(0, .ref (ke 0)), (2, .int x2), (3, .int x3), (4, .int x4), (5, .int x5)] → f_X3_shareOut_b12 n be x2 x3 x4 x5 = some out → W p l e (headSpec wsX3_shareOut { frames := 2, cells := 0, slots := 0, locals := 46 }).room s m args below meth c H locs 0 0 Q (F0 m 12 ls []) := by
    intro n
    induction n with
    | zero =>
      intro be x2 x3 x4 x5 H locs ls hP hD hS hl h
      cases h
    | succ n ih =>
      intro be x2 x3 x4 x5 H locs ls hP hD hS hl h
      rw [f_X3_shareOut_b12] at h
      refine lv_iload hx hb dX3_shareOut_12 (lv_at hl 4 rfl) ?_
      refine lv_aload_n hx hb dX3_shareOut_14 rfl (lv_at hl 0 rfl) ?_
      refine va_get (D := D) (ci := 3) (v := .int (be 0 1)) (C := RX3) (T := TX3) (N := 8) hx hb hts hi3 hown hK.1 hP 0 rfl rfl 2 (by decide) fl38 (fun _ h9 => h9) rfl dX3_shareOut_15 ?_
      refine lv_icmp_gt (tgt := 104) hx hb dX3_shareOut_18 (by decide) (fun k1 => ?_) (fun k1 => ?_)
      · replace h := z_pos k1 h
        exact hfin _ _ _ _ _ h hP hD hS dX3_shareOut_104
      replace h := z_neg k1 h
      refine lv_aload_n hx hb dX3_shareOut_21 rfl (lv_at hl 0 rfl) ?_
      refine lv_iload hx hb dX3_shareOut_22 (lv_at hl 3 rfl) ?_
      obtain ⟨y2, gy2, h⟩ := zb_some h
      refine z_callr (va_runV (As := [.int x4]) (rest := []) ⟨hx, hb, hml, hown, hts⟩ (c_X3_commonOf l D tt ke be x4 y2 gy2) (cwV 1 hts gX3_shareOut_X3_commonOf rfl rfl rfl (by decide +kernel) ⟨Nat.le_of_ble_eq_true rfl, Nat.le_of_ble_eq_true rfl⟩) (z_preVr hK hP (ci := 3) (q0 := 0) rfl rfl) rfl rfl hl.1 rfl (lv_room (Nat.le_of_ble_eq_true rfl)) dX3_shareOut_24 ⟨Nat.zero_le _, Nat.zero_le _⟩) (fun ny2 => ?_)
      refine lv_istore (lv' := [(6, .int y2), (0, .ref (ke 0)), (2, .int x2), (3, .int x3), (4, .int x4), (5, .int x5)]) hx hb dX3_shareOut_27 hl (by decide) rfl (fun ls hl => ?_)
      refine lv_aload_n hx hb dX3_shareOut_29 rfl (lv_at hl 1 rfl) ?_
      refine lv_iload_n hx hb dX3_shareOut_30 rfl (lv_at hl 3 rfl) ?_
      refine lv_iload hx hb dX3_shareOut_31 (lv_at hl 0 rfl) ?_
      refine lv_iload hx hb dX3_shareOut_33 (lv_at hl 4 rfl) ?_
      refine lv_iload_n hx hb dX3_shareOut_35 rfl (lv_at hl 2 rfl) ?_
      refine lv_iconst (v := (-1)) hx hb dX3_shareOut_36 (by decide) ?_
      refine lv_ixor hx hb dX3_shareOut_37 ?_
      refine lv_iand hx hb dX3_shareOut_38 ?_
      obtain ⟨y3, gy3, h⟩ := zb_some h
      refine z_callr (va_runV (As := [.int x3, .int y2, .int (x4 &&& (x2 ^^^ (-1)))]) (rest := []) ⟨hx, hb, hml, hown, hts⟩ (c_X3_lowestOverCap l D tt ke be x3 y2 (x4 &&& (x2 ^^^ (-1))) y3 gy3) (cwV 3 hts gX3_shareOut_X3_lowestOverCap rfl rfl rfl (by decide +kernel) ⟨Nat.le_of_ble_eq_true rfl, Nat.le_of_ble_eq_true rfl⟩) (z_preVr hK hP (ci := 3) (q0 := 0) rfl rfl) rfl rfl hl.1 rfl (lv_room (Nat.le_of_ble_eq_true rfl)) dX3_shareOut_39 ⟨Nat.zero_le _, Nat.zero_le _⟩) (fun ny3 => ?_)
      refine lv_istore (lv' := [(7, .int y3), (6, .int y2), (0, .ref (ke 0)), (2, .int x2), (3, .int x3), (4, .int x4), (5, .int x5)]) hx hb dX3_shareOut_42 hl (by decide) rfl (fun ls hl => ?_)
      refine lv_iload hx hb dX3_shareOut_44 (lv_at hl 0 rfl) ?_
      refine lv_iconst (v := (-1)) hx hb dX3_shareOut_46 (by decide) ?_
      refine lv_icmp_ne (tgt := 60) hx hb dX3_shareOut_47 (by decide) (fun k4 => ?_) (fun k4 => ?_)
      rotate_left
      · replace h := z_pos k4 h
        refine lv_aload_n hx hb dX3_shareOut_50 rfl (lv_at hl 2 rfl) ?_
        refine lv_iload_n hx hb dX3_shareOut_51 rfl (lv_at hl 4 rfl) ?_
        refine lv_iload hx hb dX3_shareOut_52 (lv_at hl 1 rfl) ?_
        refine lv_iload hx hb dX3_shareOut_54 (lv_at hl 5 rfl) ?_
        obtain ⟨y6, gy6, h⟩ := zb_some h
        have hFc := z_free0 hD hS hA
        refine z_callmv (wc := (zw_ex tt ke be)) (w1 := (zw_ex tt ke y6)) (va_runV (As := [.int x3, .int y2, .int x4]) (rest := []) ⟨hx, hb, hml, hown, hts⟩ (c_X3_addShares l D tt ke _ be x3 y2 x4 y6 gy6) (cwV 3 hts gX3_shareOut_X3_addShares rfl rfl rfl (by decide +kernel) ⟨Nat.le_of_ble_eq_true rfl, Nat.le_of_ble_eq_true rfl⟩) (z_preVm hK hP hD (ci := 3) (q0 := 0) rfl rfl) rfl rfl hl.1 rfl (lv_room (Nat.le_of_ble_eq_true rfl)) dX3_shareOut_56 ⟨Nat.zero_le _, Nat.zero_le _⟩) hS hFc (fun H locs hP1 hD1 hk1 hS => ?_)
        have hP := hP1
        have hD := hD1.weaken (fun _ q _ h => hFc q.1 h)
        exact hfin _ _ _ _ _ h hP hD hS dX3_shareOut_59
      replace h := z_neg k4 h
      refine lv_aload_n hx hb dX3_shareOut_60 rfl (lv_at hl 2 rfl) ?_
      refine va_get (D := D) (ci := 3) (v := .ref (ke 1)) (C := RX3) (T := TX3) (N := 8) hx hb hts hi3 hown hK.1 hP 0 rfl rfl 1 (by decide) fl9 (fun _ h9 => h9) rfl dX3_shareOut_61 ?_
      refine lv_iload hx hb dX3_shareOut_64 (lv_at hl 0 rfl) ?_
      refine lv_dup2_11 hx hb dX3_shareOut_66 rfl rfl ?_
      obtain ⟨q5, h⟩ := zA_some h
      refine va_iald hx hb hK.1 hP 1 0 rfl rfl q5 dX3_shareOut_67 ?_
      refine lv_aload_n hx hb dX3_shareOut_68 rfl (lv_at hl 2 rfl) ?_
      refine va_get (D := D) (ci := 3) (v := .ref (ke 3)) (C := RX3) (T := TX3) (N := 8) hx hb hts hi3 hown hK.1 hP 0 rfl rfl 4 (by decide) fl18 (fun _ h9 => h9) rfl dX3_shareOut_69 ?_
      refine lv_iload hx hb dX3_shareOut_72 (lv_at hl 0 rfl) ?_
      refine va_iald hx hb hK.1 hP 3 0 rfl rfl q5 dX3_shareOut_74 ?_
      refine lv_iadd hx hb dX3_shareOut_75 ?_
      refine va_iast hx hb hK.1 hP hD hS 1 0 rfl rfl q5 dX3_shareOut_76 (fun H locs hP hD hS => ?_)
      have hP : va_P D vwCl (zw_ex tt ke (zu be 1 (upd (be 1) y3.toNatClampNeg (((be 1) y3.toNatClampNeg) + ((be 3) y3.toNatClampNeg))))) H := hP
      have hD : va_D A (zw_ex tt ke (zu be 1 (upd (be 1) y3.toNatClampNeg (((be 1) y3.toNatClampNeg) + ((be 3) y3.toNatClampNeg))))) := hD
      refine lv_iload_n hx hb dX3_shareOut_77 rfl (lv_at hl 4 rfl) ?_
      refine lv_aload_n hx hb dX3_shareOut_78 rfl (lv_at hl 2 rfl) ?_
      refine va_get (D := D) (ci := 3) (v := .ref (ke 3)) (C := RX3) (T := TX3) (N := 8) hx hb hts hi3 hown hK.1 hP 0 rfl rfl 4 (by decide) fl18 (fun _ h9 => h9) rfl dX3_shareOut_79 ?_
      refine lv_iload hx hb dX3_shareOut_82 (lv_at hl 0 rfl) ?_
      refine va_iald hx hb hK.1 hP 3 0 rfl rfl q5 dX3_shareOut_84 ?_
      refine lv_isub hx hb dX3_shareOut_85 ?_
      refine lv_istore_n (lv' := [(3, .int (x3 - ((be 3) y3.toNatClampNeg))), (7, .int y3), (6, .int y2), (0, .ref (ke 0)), (2, .int x2), (4, .int x4), (5, .int x5)]) hx hb dX3_shareOut_86 rfl hl (by decide) rfl (fun ls hl => ?_)
      refine lv_iload hx hb dX3_shareOut_87 (lv_at hl 5 rfl) ?_
      refine lv_iconst (v := 1) hx hb dX3_shareOut_89 (by decide) ?_
      refine lv_iload hx hb dX3_shareOut_90 (lv_at hl 1 rfl) ?_
      refine lv_ishl hx hb dX3_shareOut_92 ?_
      refine lv_iconst (v := (-1)) hx hb dX3_shareOut_93 (by decide) ?_
      refine lv_ixor hx hb dX3_shareOut_94 ?_
      refine lv_iand hx hb dX3_shareOut_95 ?_
      refine lv_istore (lv' := [(4, .int (x4 &&& ((1 <<< (y3 &&& 31)) ^^^ (-1)))), (3, .int (x3 - ((be 3) y3.toNatClampNeg))), (7, .int y3), (6, .int y2), (0, .ref (ke 0)), (2, .int x2), (5, .int x5)]) hx hb dX3_shareOut_96 hl (by decide) rfl (fun ls hl => ?_)
      refine lv_iinc (v := (x5 + 1)) (lv' := [(5, .int (x5 + 1)), (4, .int (x4 &&& ((1 <<< (y3 &&& 31)) ^^^ (-1)))), (3, .int (x3 - ((be 3) y3.toNatClampNeg))), (7, .int y3), (6, .int y2), (0, .ref (ke 0)), (2, .int x2)]) hx hb dX3_shareOut_98 hl (k := 6) rfl rfl (by decide) rfl (fun ls hl => ?_)
      refine lv_goto (tgt := 12) hx hb dX3_shareOut_101 (by decide) ?_
      exact ih (zu be 1 (upd (be 1) y3.toNatClampNeg (((be 1) y3.toNatClampNeg) + ((be 3) y3.toNatClampNeg)))) x2 (x3 - ((be 3) y3.toNatClampNeg)) (x4 &&& ((1 <<< (y3 &&& 31)) ^^^ (-1))) (x5 + 1) _ _ _ hP hD hS (lv_sub hl [5, 6, 2, 1, 0] rfl) h
  have hl := lv_entry ([.ref (ke 0), .int x1, .int x2]) (n := 8) (Nat.le_of_ble_eq_true rfl)
  refine W.eq (g2 := F0 m 0 ((lg_sl ([.ref (ke 0), .int x1, .int x2]) ++ List.replicate (8 - (lg_sl ([.ref (ke 0), .int x1, .int x2])).length) Slot.unset).toArray) []) (by rw [ha]; exact lg_entry_eq _ _ _) ?_
  generalize (lg_sl ([.ref (ke 0), .int x1, .int x2]) ++ List.replicate (8 - (lg_sl ([.ref (ke 0), .int x1, .int x2])).length) Slot.unset).toArray = ls at hl ⊢
  have hl : lv_has ls 8 [(0, .ref (ke 0)), (1, .int x1), (2, .int x2)] := hl
  rw [f_X3_shareOut] at h
  refine lv_iload_n hx hb dX3_shareOut_0 rfl (lv_at hl 1 rfl) ?_
  refine lv_istore_n (lv' := [(3, .int x1), (0, .ref (ke 0)), (1, .int x1), (2, .int x2)]) hx hb dX3_shareOut_1 rfl hl (by decide) rfl (fun ls hl => ?_)
  refine lv_aload_n hx hb dX3_shareOut_2 rfl (lv_at hl 1 rfl) ?_
  refine lv_iload_n hx hb dX3_shareOut_3 rfl (lv_at hl 3 rfl) ?_
  obtain ⟨y7, gy7, h⟩ := zb_some h
  refine z_callr (va_runV (As := [.int x2]) (rest := []) ⟨hx, hb, hml, hown, hts⟩ (c_X3_sharers l D tt ke be x2 y7 gy7) (cwV 1 hts gX3_shareOut_X3_sharers rfl rfl rfl (by decide +kernel) ⟨Nat.le_of_ble_eq_true rfl, Nat.le_of_ble_eq_true rfl⟩) (z_preVr hK hP (ci := 3) (q0 := 0) rfl rfl) rfl rfl hl.1 rfl (lv_room (Nat.le_of_ble_eq_true rfl)) dX3_shareOut_4 ⟨Nat.zero_le _, Nat.zero_le _⟩) (fun ny7 => ?_)
  refine lv_istore (lv' := [(4, .int y7), (3, .int x1), (0, .ref (ke 0)), (1, .int x1), (2, .int x2)]) hx hb dX3_shareOut_7 hl (by decide) rfl (fun ls hl => ?_)
  refine lv_iconst (v := 0) hx hb dX3_shareOut_9 (by decide) ?_
  refine lv_istore (lv' := [(5, .int 0), (4, .int y7), (3, .int x1), (0, .ref (ke 0)), (1, .int x1), (2, .int x2)]) hx hb dX3_shareOut_10 hl (by decide) rfl (fun ls hl => ?_)
  exact b12 1000 be x2 x1 y7 0 _ _ _ hP hD hS (lv_sub hl [3, 5, 2, 1, 0] rfl) h
set_option maxHeartbeats 4000000 in
set_option maxRecDepth 100000 in
theorem c_X3_payOut (l : Launch) (D : va_G) (tt : Nat → ClassId) (ke : Nat → Nat) (sz : Nat) (be : zV) (x1 : Int32) (x2 : Int32) (out : zV) (h : f_X3_payOut be x1 x2 = some out) : Met l yX3_payOut wsX3_payOut { frames := 3, cells := 0, slots := 0, locals := 73 } (zPm [.ref (ke 0), .int x1, .int x2] D tt (zw_ex tt ke be) sz) (zMv D (zw_ex tt ke out) (va_A (zw_ex tt ke be) sz)) 0 0 (va_A (zw_ex tt ke be) sz) := by
  refine Met.ofW (cc := cX3_payOut) (maxL := 6) (ret := none) (by decide) rfl ?_
  intro p e s m args below meth c s₁ B hml hv
  obtain ⟨ha, hsz, hP, hK, hD0⟩ := hv
  have hx := B.exec
  have hb := B.bytes
  have hr := B.returns
  have hts := atoms_spec (ws := wsX3_payOut) B.pre
  have hown : s.vm.findClass RX3 = some m.cls := findClass_of_methodNamed B.named
  have hlocks := B.notSynchronized
  have hi3 : ∀ w ∈ u_ws RX3 TX3 8, w ∈ wsX3_payOut := fun _ h => List.mem_cons_of_mem _ (List.mem_append_right _ h)
  have fl38 := hts (.fieldLink RX3 38 "CapStacks$Exit" "size" "I") (by decide +kernel)
  have fl9 := hts (.fieldLink RX3 9 "CapStacks$Exit" "gain" "[I") (by decide +kernel)
  have mm1 := hts (.methodLink RX3 91 Lib.Math.min.name) (by decide +kernel)
  have mm2 := hts (.static Lib.Math.min.name) (by decide +kernel)
  have mm3 := hts (.initialized "java/lang/Math") (by decide +kernel)
  have mm4 := hts (.code Lib.Math.min.name Lib.Math.min.code 2 (some .int)) (by decide +kernel)
  subst hsz
  have hD := hD0.self (sz := s.heap.size)
  generalize hAe : va_A (zw_ex tt ke be) s.heap.size = A at hD ⊢
  have hA : ∀ q : Nat, s.heap.size ≤ q → A q := fun q h => by rw [← hAe]; exact Or.inr h
  have hS : va_S A s.heap s.heap [] := va_S.rf
  have hfin : ∀ (be : zV) (pc : Nat) (ls : Array Slot) (H : Heap) (locs : List Loc), some be = some out → va_P D vwCl (zw_ex tt ke be) H → va_D A (zw_ex tt ke be) → va_S A s.heap H locs → decode cX3_payOut pc = .ok (.return_, 1) → W p l e (headSpec wsX3_payOut { frames := 3, cells := 0, slots := 0, locals := 73 }).room s m args below meth c H locs 0 0 (MQ below (zMv D (zw_ex tt ke out) A) args s 0 0 A) (F0 m pc ls []) := by
    intro be pc ls H locs he hP hD hS hd
    cases he
    exact W.vret hx hb hr (fun t ht hW => ⟨⟨(), rfl, trivial, by rw [ht]; exact hP, hD⟩, hS.F ht⟩) hS.2.2 hd
  generalize MQ below (zMv D (zw_ex tt ke out) A) args s 0 0 A = Q at hfin ⊢
  have b29 : ∀ n : Nat, ∀ (be : zV) (x2 : Int32) (x3 : Int32) (x4 : Int32) (H : Heap) (locs : List Loc) (ls : Array Slot), va_P D vwCl (zw_ex tt ke be) H → va_D A (zw_ex tt ke be) → va_S A s.heap H locs → lv_has ls 6 [(0, .ref (ke 0)), (2, .int x2), (3, .int x3), (4, .int x4)] → f_X3_payOut_b29 n be x2 x3 x4 = some out → W p l e (headSpec wsX3_payOut { frames := 3, cells := 0, slots := 0, locals := 73 }).room s m args below meth c H locs 0 0 Q (F0 m 29 ls []) := by
    intro n
    induction n with
    | zero =>
      intro be x2 x3 x4 H locs ls hP hD hS hl h
      cases h
    | succ n ih =>
      intro be x2 x3 x4 H locs ls hP hD hS hl h
      rw [f_X3_payOut_b29] at h
      refine lv_iload hx hb dX3_payOut_29 (lv_at hl 3 rfl) ?_
      refine lv_if_lt (tgt := 76) hx hb dX3_payOut_31 (by decide) (fun k1 => ?_) (fun k1 => ?_)
      · replace h := z_pos k1 h
        refine lv_aload_n hx hb dX3_payOut_76 rfl (lv_at hl 0 rfl) ?_
        refine lv_iload_n hx hb dX3_payOut_77 rfl (lv_at hl 2 rfl) ?_
        refine lv_iload_n hx hb dX3_payOut_78 rfl (lv_at hl 1 rfl) ?_
        obtain ⟨y2, gy2, h⟩ := zb_some h
        have hFc := z_free0 hD hS hA
        refine z_callmv (wc := (zw_ex tt ke be)) (w1 := (zw_ex tt ke y2)) (va_runV (As := [.int x3, .int x2]) (rest := []) ⟨hx, hb, hml, hown, hts⟩ (c_X3_shareOut l D tt ke _ be x3 x2 y2 gy2) (cwV 2 hts gX3_payOut_X3_shareOut rfl rfl rfl (by decide +kernel) ⟨Nat.le_of_ble_eq_true rfl, Nat.le_of_ble_eq_true rfl⟩) (z_preVm hK hP hD (ci := 3) (q0 := 0) rfl rfl) rfl rfl hl.1 rfl (lv_room (Nat.le_of_ble_eq_true rfl)) dX3_payOut_79 ⟨Nat.zero_le _, Nat.zero_le _⟩) hS hFc (fun H locs hP1 hD1 hk1 hS => ?_)
        have hP := hP1
        have hD := hD1.weaken (fun _ q _ h => hFc q.1 h)
        exact hfin _ _ _ _ _ h hP hD hS dX3_payOut_82
      replace h := z_neg k1 h
      refine lv_aload_n hx hb dX3_payOut_34 rfl (lv_at hl 0 rfl) ?_
      refine lv_iload hx hb dX3_payOut_35 (lv_at hl 3 rfl) ?_
      refine lv_iload_n hx hb dX3_payOut_37 rfl (lv_at hl 1 rfl) ?_
      obtain ⟨y3, gy3, h⟩ := zb_some h
      refine z_callr (va_runV (As := [.int x4, .int x2]) (rest := []) ⟨hx, hb, hml, hown, hts⟩ (c_X3_claimsOf l D tt ke be x4 x2 y3 gy3) (cwV 2 hts gX3_payOut_X3_claimsOf rfl rfl rfl (by decide +kernel) ⟨Nat.le_of_ble_eq_true rfl, Nat.le_of_ble_eq_true rfl⟩) (z_preVr hK hP (ci := 3) (q0 := 0) rfl rfl) rfl rfl hl.1 rfl (lv_room (Nat.le_of_ble_eq_true rfl)) dX3_payOut_38 ⟨Nat.zero_le _, Nat.zero_le _⟩) (fun ny3 => ?_)
      refine lv_istore (lv' := [(5, .int y3), (0, .ref (ke 0)), (2, .int x2), (3, .int x3), (4, .int x4)]) hx hb dX3_payOut_41 hl (by decide) rfl (fun ls hl => ?_)
      refine lv_aload_n hx hb dX3_payOut_43 rfl (lv_at hl 1 rfl) ?_
      refine lv_iload hx hb dX3_payOut_44 (lv_at hl 4 rfl) ?_
      refine lv_iload_n hx hb dX3_payOut_46 rfl (lv_at hl 2 rfl) ?_
      refine lv_iload_n hx hb dX3_payOut_47 rfl (lv_at hl 3 rfl) ?_
      refine lv_iload hx hb dX3_payOut_48 (lv_at hl 0 rfl) ?_
      refine va_mmin hx hb (hml.trans hl.1.symm) hown mm1 mm2 mm3 mm4 (Nat.le_of_ble_eq_true rfl) (Nat.le_of_ble_eq_true rfl) (Nat.zero_le _) (Nat.zero_le _) dX3_payOut_50 ?_
      refine lv_iload hx hb dX3_payOut_53 (lv_at hl 0 rfl) ?_
      obtain ⟨y4, gy4, h⟩ := zb_some h
      have hFc := z_free0 hD hS hA
      refine z_callmv (wc := (zw_ex tt ke be)) (w1 := (zw_ex tt ke y4)) (va_runV (As := [.int x4, .int x2, .int (if y3 < x3 then y3 else x3), .int y3]) (rest := []) ⟨hx, hb, hml, hown, hts⟩ (c_X3_payClaims l D tt ke _ be x4 x2 (if y3 < x3 then y3 else x3) y3 y4 gy4) (cwV 4 hts gX3_payOut_X3_payClaims rfl rfl rfl (by decide +kernel) ⟨Nat.le_of_ble_eq_true rfl, Nat.le_of_ble_eq_true rfl⟩) (z_preVm hK hP hD (ci := 3) (q0 := 0) rfl rfl) rfl rfl hl.1 rfl (lv_room (Nat.le_of_ble_eq_true rfl)) dX3_payOut_55 ⟨Nat.zero_le _, Nat.zero_le _⟩) hS hFc (fun H locs hP1 hD1 hk1 hS => ?_)
      have hP := hP1
      have hD := hD1.weaken (fun _ q _ h => hFc q.1 h)
      refine lv_iload_n hx hb dX3_payOut_58 rfl (lv_at hl 3 rfl) ?_
      refine lv_iload hx hb dX3_payOut_59 (lv_at hl 0 rfl) ?_
      refine lv_icmp_ge (tgt := 65) hx hb dX3_payOut_61 (by decide) (fun k5 => ?_) (fun k5 => ?_)
      rotate_left
      · replace h := z_neg k5 h
        exact hfin _ _ _ _ _ h hP hD hS dX3_payOut_64
      replace h := z_pos k5 h
      refine lv_iload_n hx hb dX3_payOut_65 rfl (lv_at hl 3 rfl) ?_
      refine lv_iload hx hb dX3_payOut_66 (lv_at hl 0 rfl) ?_
      refine lv_isub hx hb dX3_payOut_68 ?_
      refine lv_istore_n (lv' := [(3, .int (x3 - y3)), (5, .int y3), (0, .ref (ke 0)), (2, .int x2), (4, .int x4)]) hx hb dX3_payOut_69 rfl hl (by decide) rfl (fun ls hl => ?_)
      refine lv_iinc (v := (x4 + (-1))) (lv' := [(4, .int (x4 + (-1))), (3, .int (x3 - y3)), (5, .int y3), (0, .ref (ke 0)), (2, .int x2)]) hx hb dX3_payOut_70 hl (k := 4) rfl rfl (by decide) rfl (fun ls hl => ?_)
      refine lv_goto (tgt := 29) hx hb dX3_payOut_73 (by decide) ?_
      exact ih y4 x2 (x3 - y3) (x4 + (-1)) _ _ _ hP hD hS (lv_sub hl [3, 4, 1, 0] rfl) h
  have b2 : ∀ n : Nat, ∀ (be : zV) (x1 : Int32) (x2 : Int32) (x3 : Int32) (H : Heap) (locs : List Loc) (ls : Array Slot), va_P D vwCl (zw_ex tt ke be) H → va_D A (zw_ex tt ke be) → va_S A s.heap H locs → lv_has ls 6 [(0, .ref (ke 0)), (1, .int x1), (2, .int x2), (3, .int x3)] → f_X3_payOut_b2 n be x1 x2 x3 = some out → W p l e (headSpec wsX3_payOut { frames := 3, cells := 0, slots := 0, locals := 73 }).room s m args below meth c H locs 0 0 Q (F0 m 2 ls []) := by
    intro n
    induction n with
    | zero =>
      intro be x1 x2 x3 H locs ls hP hD hS hl h
      cases h
    | succ n ih =>
      intro be x1 x2 x3 H locs ls hP hD hS hl h
      rw [f_X3_payOut_b2] at h
      refine lv_iload_n hx hb dX3_payOut_2 rfl (lv_at hl 3 rfl) ?_
      refine lv_aload_n hx hb dX3_payOut_3 rfl (lv_at hl 0 rfl) ?_
      refine va_get (D := D) (ci := 3) (v := .int (be 0 1)) (C := RX3) (T := TX3) (N := 8) hx hb hts hi3 hown hK.1 hP 0 rfl rfl 2 (by decide) fl38 (fun _ h9 => h9) rfl dX3_payOut_4 ?_
      refine lv_icmp_ge (tgt := 23) hx hb dX3_payOut_7 (by decide) (fun k6 => ?_) (fun k6 => ?_)
      · replace h := z_pos k6 h
        refine lv_iload_n hx hb dX3_payOut_23 rfl (lv_at hl 1 rfl) ?_
        refine lv_istore_n (lv' := [(3, .int x1), (0, .ref (ke 0)), (1, .int x1), (2, .int x2)]) hx hb dX3_payOut_24 rfl hl (by decide) rfl (fun ls hl => ?_)
        refine lv_bipush (v := 9) hx hb dX3_payOut_25 (by decide) ?_
        refine lv_istore (lv' := [(4, .int 9), (3, .int x1), (0, .ref (ke 0)), (1, .int x1), (2, .int x2)]) hx hb dX3_payOut_27 hl (by decide) rfl (fun ls hl => ?_)
        exact b29 1000 be x2 x1 9 _ _ _ hP hD hS (lv_sub hl [2, 4, 1, 0] rfl) h
      replace h := z_neg k6 h
      refine lv_aload_n hx hb dX3_payOut_10 rfl (lv_at hl 0 rfl) ?_
      refine va_get (D := D) (ci := 3) (v := .ref (ke 1)) (C := RX3) (T := TX3) (N := 8) hx hb hts hi3 hown hK.1 hP 0 rfl rfl 1 (by decide) fl9 (fun _ h9 => h9) rfl dX3_payOut_11 ?_
      refine lv_iload_n hx hb dX3_payOut_14 rfl (lv_at hl 3 rfl) ?_
      refine lv_iconst (v := 0) hx hb dX3_payOut_15 (by decide) ?_
      obtain ⟨q7, h⟩ := zA_some h
      refine va_iast hx hb hK.1 hP hD hS 1 0 rfl rfl q7 dX3_payOut_16 (fun H locs hP hD hS => ?_)
      have hP : va_P D vwCl (zw_ex tt ke (zu be 1 (upd (be 1) x3.toNatClampNeg 0))) H := hP
      have hD : va_D A (zw_ex tt ke (zu be 1 (upd (be 1) x3.toNatClampNeg 0))) := hD
      refine lv_iinc (v := (x3 + 1)) (lv' := [(3, .int (x3 + 1)), (0, .ref (ke 0)), (1, .int x1), (2, .int x2)]) hx hb dX3_payOut_17 hl (k := 3) rfl rfl (by decide) rfl (fun ls hl => ?_)
      refine lv_goto (tgt := 2) hx hb dX3_payOut_20 (by decide) ?_
      exact ih (zu be 1 (upd (be 1) x3.toNatClampNeg 0)) x1 x2 (x3 + 1) _ _ _ hP hD hS (lv_sub hl [1, 2, 3, 0] rfl) h
  have hl := lv_entry ([.ref (ke 0), .int x1, .int x2]) (n := 6) (Nat.le_of_ble_eq_true rfl)
  refine W.eq (g2 := F0 m 0 ((lg_sl ([.ref (ke 0), .int x1, .int x2]) ++ List.replicate (6 - (lg_sl ([.ref (ke 0), .int x1, .int x2])).length) Slot.unset).toArray) []) (by rw [ha]; exact lg_entry_eq _ _ _) ?_
  generalize (lg_sl ([.ref (ke 0), .int x1, .int x2]) ++ List.replicate (6 - (lg_sl ([.ref (ke 0), .int x1, .int x2])).length) Slot.unset).toArray = ls at hl ⊢
  have hl : lv_has ls 6 [(0, .ref (ke 0)), (1, .int x1), (2, .int x2)] := hl
  rw [f_X3_payOut] at h
  refine lv_iconst (v := 0) hx hb dX3_payOut_0 (by decide) ?_
  refine lv_istore_n (lv' := [(3, .int 0), (0, .ref (ke 0)), (1, .int x1), (2, .int x2)]) hx hb dX3_payOut_1 rfl hl (by decide) rfl (fun ls hl => ?_)
  exact b2 1000 be x1 x2 0 _ _ _ hP hD hS (lv_sub hl [1, 2, 3, 0] rfl) h
set_option maxHeartbeats 4000000 in
set_option maxRecDepth 100000 in
theorem c_X3_nextToConvert (l : Launch) (D : va_G) (tt : Nat → ClassId) (ke : Nat → Nat) (sz : Nat) (be : zV) (x1 : Int32) (out : Int32 × zV) (h : f_X3_nextToConvert be x1 = some out) : Met l yX3_nextToConvert wsX3_nextToConvert { frames := 4, cells := 0, slots := 0, locals := 98 } (zPm [.ref (ke 0), .int x1] D tt (zw_ex tt ke be) sz) (zMi .int out.1 D (zw_ex tt ke out.2) (va_A (zw_ex tt ke be) sz)) 0 0 (va_A (zw_ex tt ke be) sz) := by
  refine Met.ofW (cc := cX3_nextToConvert) (maxL := 4) (ret := (some .int)) (by decide) rfl ?_
  intro p e s m args below meth c s₁ B hml hv
  obtain ⟨ha, hsz, hP, hK, hD0⟩ := hv
  have hx := B.exec
  have hb := B.bytes
  have hr := B.returns
  have hts := atoms_spec (ws := wsX3_nextToConvert) B.pre
  have hown : s.vm.findClass RX3 = some m.cls := findClass_of_methodNamed B.named
  have hlocks := B.notSynchronized
  have hi3 : ∀ w ∈ u_ws RX3 TX3 8, w ∈ wsX3_nextToConvert := fun _ h => List.mem_cons_of_mem _ (List.mem_append_right _ h)
  have fl15 := hts (.fieldLink RX3 15 "CapStacks$Exit" "shares" "[I") (by decide +kernel)
  have fl34 := hts (.fieldLink RX3 34 "CapStacks$Exit" "converting" "I") (by decide +kernel)
  have fl38 := hts (.fieldLink RX3 38 "CapStacks$Exit" "size" "I") (by decide +kernel)
  have fl9 := hts (.fieldLink RX3 9 "CapStacks$Exit" "gain" "[I") (by decide +kernel)
  have iniX9 := hts (.initialized RX9) (by decide +kernel)
  have st_X9_contains := hts (.static yX9_contains) (by decide +kernel)
  have nw84 : va_Nw (.methodLinkNest RX3 84 yX9_contains "CapStacks") s := hK.2.1 (RX3, 84, yX9_contains, "CapStacks") (List.mem_of_getElem? (i := 16) rfl)
  subst hsz
  have hD := hD0.self (sz := s.heap.size)
  generalize hAe : va_A (zw_ex tt ke be) s.heap.size = A at hD ⊢
  have hA : ∀ q : Nat, s.heap.size ≤ q → A q := fun q h => by rw [← hAe]; exact Or.inr h
  have hS : va_S A s.heap s.heap [] := va_S.rf
  have hfin : ∀ (v : Int32) (be : zV) (pc : Nat) (ls : Array Slot) (H : Heap) (locs : List Loc), some (v, be) = some out → narrow .int (.int v) = .int v → va_P D vwCl (zw_ex tt ke be) H → va_D A (zw_ex tt ke be) → va_S A s.heap H locs → decode cX3_nextToConvert pc = .ok (.ireturn, 1) → W p l e (headSpec wsX3_nextToConvert { frames := 4, cells := 0, slots := 0, locals := 98 }).room s m args below meth c H locs 0 0 (MQ below (zMi .int out.1 D (zw_ex tt ke out.2) A) args s 0 0 A) (F0 m pc ls [.int v]) := by
    intro v be pc ls H locs he hn hP hD hS hd
    cases he
    exact W.zret hx hb hr hn (fun t ht hW => ⟨⟨_, (), rfl, ⟨rfl, hn⟩, by rw [ht]; exact hP, hD⟩, hS.F ht⟩) hS.2.2 hd
  generalize MQ below (zMi .int out.1 D (zw_ex tt ke out.2) A) args s 0 0 A = Q at hfin ⊢
  have b2 : ∀ n : Nat, ∀ (be : zV) (x1 : Int32) (x2 : Int32) (H : Heap) (locs : List Loc) (ls : Array Slot), va_P D vwCl (zw_ex tt ke be) H → va_D A (zw_ex tt ke be) → va_S A s.heap H locs → lv_has ls 4 [(0, .ref (ke 0)), (1, .int x1), (2, .int x2)] → f_X3_nextToConvert_b2 n be x1 x2 = some out → W p l e (headSpec wsX3_nextToConvert { frames := 4, cells := 0, slots := 0, locals := 98 }).room s m args below meth c H locs 0 0 Q (F0 m 2 ls []) := by
    intro n
    induction n with
    | zero =>
      intro be x1 x2 H locs ls hP hD hS hl h
      cases h
    | succ n ih =>
      intro be x1 x2 H locs ls hP hD hS hl h
      rw [f_X3_nextToConvert_b2] at h
      refine lv_iload_n hx hb dX3_nextToConvert_2 rfl (lv_at hl 2 rfl) ?_
      refine lv_aload_n hx hb dX3_nextToConvert_3 rfl (lv_at hl 0 rfl) ?_
      refine va_get (D := D) (ci := 3) (v := .int (be 0 1)) (C := RX3) (T := TX3) (N := 8) hx hb hts hi3 hown hK.1 hP 0 rfl rfl 2 (by decide) fl38 (fun _ h9 => h9) rfl dX3_nextToConvert_4 ?_
      refine lv_icmp_ge (tgt := 77) hx hb dX3_nextToConvert_7 (by decide) (fun k1 => ?_) (fun k1 => ?_)
      · replace h := z_pos k1 h
        refine lv_iconst (v := (-1)) hx hb dX3_nextToConvert_77 (by decide) ?_
        exact hfin _ _ _ _ _ _ h rfl hP hD hS dX3_nextToConvert_78
      replace h := z_neg k1 h
      refine lv_aload_n hx hb dX3_nextToConvert_10 rfl (lv_at hl 0 rfl) ?_
      refine va_get (D := D) (ci := 3) (v := .ref (ke 2)) (C := RX3) (T := TX3) (N := 8) hx hb hts hi3 hown hK.1 hP 0 rfl rfl 3 (by decide) fl15 (fun _ h9 => h9) rfl dX3_nextToConvert_11 ?_
      refine lv_iload_n hx hb dX3_nextToConvert_14 rfl (lv_at hl 2 rfl) ?_
      obtain ⟨q2, h⟩ := zA_some h
      refine va_iald hx hb hK.1 hP 2 0 rfl rfl q2 dX3_nextToConvert_15 ?_
      refine lv_if_le (tgt := 71) hx hb dX3_nextToConvert_16 (by decide) (fun k3 => ?_) (fun k3 => ?_)
      · replace h := z_pos k3 h
        refine lv_iinc (v := (x2 + 1)) (lv' := [(2, .int (x2 + 1)), (0, .ref (ke 0)), (1, .int x1)]) hx hb dX3_nextToConvert_71 hl (k := 2) rfl rfl (by decide) rfl (fun ls hl => ?_)
        refine lv_goto (tgt := 2) hx hb dX3_nextToConvert_74 (by decide) ?_
        exact ih be x1 (x2 + 1) _ _ _ hP hD hS (lv_sub hl [1, 2, 0] rfl) h
      replace h := z_neg k3 h
      refine lv_aload_n hx hb dX3_nextToConvert_19 rfl (lv_at hl 0 rfl) ?_
      refine va_get (D := D) (ci := 3) (v := .int (be 0 0)) (C := RX3) (T := TX3) (N := 8) hx hb hts hi3 hown hK.1 hP 0 rfl rfl 0 (by decide) fl34 (fun _ h9 => h9) rfl dX3_nextToConvert_20 ?_
      refine lv_iload_n hx hb dX3_nextToConvert_23 rfl (lv_at hl 2 rfl) ?_
      obtain ⟨y4, gy4, h⟩ := zb_some h
      refine z_callr (va_runSN (As := [.int (be 0 0), .int x2]) (rest := []) ⟨hx, hb, hml, hown, hts⟩ (c_X9_contains l D tt (be 0 0) x2 y4 gy4) ⟨va_cnB (host := "CapStacks") 2 hts gX3_nextToConvert_X9_contains_n84 rfl rfl rfl nw84 iniX9 (by decide +kernel) ⟨Nat.le_of_ble_eq_true rfl, Nat.le_of_ble_eq_true rfl⟩, st_X9_contains, trivial⟩ (z_preSr hK (hP.sub (ws' := ([] : va_W)) [] rfl)) rfl rfl hl.1 rfl (lv_room (Nat.le_of_ble_eq_true rfl)) dX3_nextToConvert_24 ⟨Nat.zero_le _, Nat.zero_le _⟩) (fun ny4 => ?_)
      refine lv_if_ne (tgt := 71) hx hb dX3_nextToConvert_27 (by decide) (fun k5 => ?_) (fun k5 => ?_)
      · replace h := z_neg k5 h
        refine lv_iinc (v := (x2 + 1)) (lv' := [(2, .int (x2 + 1)), (0, .ref (ke 0)), (1, .int x1)]) hx hb dX3_nextToConvert_71 hl (k := 2) rfl rfl (by decide) rfl (fun ls hl => ?_)
        refine lv_goto (tgt := 2) hx hb dX3_nextToConvert_74 (by decide) ?_
        exact ih be x1 (x2 + 1) _ _ _ hP hD hS (lv_sub hl [1, 2, 0] rfl) h
      replace h := z_pos k5 h
      refine lv_aload_n hx hb dX3_nextToConvert_30 rfl (lv_at hl 0 rfl) ?_
      refine lv_iload_n hx hb dX3_nextToConvert_31 rfl (lv_at hl 1 rfl) ?_
      refine lv_aload_n hx hb dX3_nextToConvert_32 rfl (lv_at hl 0 rfl) ?_
      refine va_get (D := D) (ci := 3) (v := .int (be 0 0)) (C := RX3) (T := TX3) (N := 8) hx hb hts hi3 hown hK.1 hP 0 rfl rfl 0 (by decide) fl34 (fun _ h9 => h9) rfl dX3_nextToConvert_33 ?_
      obtain ⟨y6, gy6, h⟩ := zb_some h
      have hFc := z_free0 hD hS hA
      refine z_callmv (wc := (zw_ex tt ke be)) (w1 := (zw_ex tt ke y6)) (va_runV (As := [.int x1, .int (be 0 0)]) (rest := []) ⟨hx, hb, hml, hown, hts⟩ (c_X3_payOut l D tt ke _ be x1 (be 0 0) y6 gy6) (cwV 2 hts gX3_nextToConvert_X3_payOut rfl rfl rfl (by decide +kernel) ⟨Nat.le_of_ble_eq_true rfl, Nat.le_of_ble_eq_true rfl⟩) (z_preVm hK hP hD (ci := 3) (q0 := 0) rfl rfl) rfl rfl hl.1 rfl (lv_room (Nat.le_of_ble_eq_true rfl)) dX3_nextToConvert_36 ⟨Nat.zero_le _, Nat.zero_le _⟩) hS hFc (fun H locs hP1 hD1 hk1 hS => ?_)
      have hP := hP1
      have hD := hD1.weaken (fun _ q _ h => hFc q.1 h)
      refine lv_aload_n hx hb dX3_nextToConvert_39 rfl (lv_at hl 0 rfl) ?_
      refine va_get (D := D) (ci := 3) (v := .ref (ke 1)) (C := RX3) (T := TX3) (N := 8) hx hb hts hi3 hown hK.1 hP 0 rfl rfl 1 (by decide) fl9 (fun _ h9 => h9) rfl dX3_nextToConvert_40 ?_
      refine lv_iload_n hx hb dX3_nextToConvert_43 rfl (lv_at hl 2 rfl) ?_
      refine va_iald hx hb hK.1 hP 1 0 rfl rfl q2 dX3_nextToConvert_44 ?_
      refine lv_istore_n (lv' := [(3, .int ((y6 1) x2.toNatClampNeg)), (0, .ref (ke 0)), (1, .int x1), (2, .int x2)]) hx hb dX3_nextToConvert_45 rfl hl (by decide) rfl (fun ls hl => ?_)
      refine lv_aload_n hx hb dX3_nextToConvert_46 rfl (lv_at hl 1 rfl) ?_
      refine lv_iload_n hx hb dX3_nextToConvert_47 rfl (lv_at hl 2 rfl) ?_
      refine lv_aload_n hx hb dX3_nextToConvert_48 rfl (lv_at hl 1 rfl) ?_
      refine va_get (D := D) (ci := 3) (v := .int (y6 0 0)) (C := RX3) (T := TX3) (N := 8) hx hb hts hi3 hown hK.1 hP 0 rfl rfl 0 (by decide) fl34 (fun _ h9 => h9) rfl dX3_nextToConvert_49 ?_
      refine lv_iconst (v := 1) hx hb dX3_nextToConvert_52 (by decide) ?_
      refine lv_iload_n hx hb dX3_nextToConvert_53 rfl (lv_at hl 3 rfl) ?_
      refine lv_ishl hx hb dX3_nextToConvert_54 ?_
      refine lv_ior hx hb dX3_nextToConvert_55 ?_
      obtain ⟨y7, gy7, h⟩ := zb_some h
      have hFc := z_free0 hD hS hA
      refine z_callmv (wc := (zw_ex tt ke y6)) (w1 := (zw_ex tt ke y7)) (va_runV (As := [.int x1, .int ((y6 0 0) ||| (1 <<< (x2 &&& 31)))]) (rest := []) ⟨hx, hb, hml, hown, hts⟩ (c_X3_payOut l D tt ke _ y6 x1 ((y6 0 0) ||| (1 <<< (x2 &&& 31))) y7 gy7) (cwV 2 hts gX3_nextToConvert_X3_payOut rfl rfl rfl (by decide +kernel) ⟨Nat.le_of_ble_eq_true rfl, Nat.le_of_ble_eq_true rfl⟩) (z_preVm hK hP hD (ci := 3) (q0 := 0) rfl rfl) rfl rfl hl.1 rfl (lv_room (Nat.le_of_ble_eq_true rfl)) dX3_nextToConvert_56 ⟨Nat.zero_le _, Nat.zero_le _⟩) hS hFc (fun H locs hP1 hD1 hk1 hS => ?_)
      have hP := hP1
      have hD := hD1.weaken (fun _ q _ h => hFc q.1 h)
      refine lv_aload_n hx hb dX3_nextToConvert_59 rfl (lv_at hl 1 rfl) ?_
      refine va_get (D := D) (ci := 3) (v := .ref (ke 1)) (C := RX3) (T := TX3) (N := 8) hx hb hts hi3 hown hK.1 hP 0 rfl rfl 1 (by decide) fl9 (fun _ h9 => h9) rfl dX3_nextToConvert_60 ?_
      refine lv_iload_n hx hb dX3_nextToConvert_63 rfl (lv_at hl 3 rfl) ?_
      refine va_iald hx hb hK.1 hP 1 0 rfl rfl q2 dX3_nextToConvert_64 ?_
      refine lv_iload_n hx hb dX3_nextToConvert_65 rfl (lv_at hl 0 rfl) ?_
      refine lv_icmp_le (tgt := 71) hx hb dX3_nextToConvert_66 (by decide) (fun k8 => ?_) (fun k8 => ?_)
      rotate_left
      · replace h := z_neg k8 h
        refine lv_iload_n hx hb dX3_nextToConvert_69 rfl (lv_at hl 3 rfl) ?_
        exact hfin _ _ _ _ _ _ h rfl hP hD hS dX3_nextToConvert_70
      replace h := z_pos k8 h
      refine lv_iinc (v := (x2 + 1)) (lv' := [(2, .int (x2 + 1)), (3, .int ((y6 1) x2.toNatClampNeg)), (0, .ref (ke 0)), (1, .int x1)]) hx hb dX3_nextToConvert_71 hl (k := 3) rfl rfl (by decide) rfl (fun ls hl => ?_)
      refine lv_goto (tgt := 2) hx hb dX3_nextToConvert_74 (by decide) ?_
      exact ih y7 x1 (x2 + 1) _ _ _ hP hD hS (lv_sub hl [2, 3, 0] rfl) h
  have hl := lv_entry ([.ref (ke 0), .int x1]) (n := 4) (Nat.le_of_ble_eq_true rfl)
  refine W.eq (g2 := F0 m 0 ((lg_sl ([.ref (ke 0), .int x1]) ++ List.replicate (4 - (lg_sl ([.ref (ke 0), .int x1])).length) Slot.unset).toArray) []) (by rw [ha]; exact lg_entry_eq _ _ _) ?_
  generalize (lg_sl ([.ref (ke 0), .int x1]) ++ List.replicate (4 - (lg_sl ([.ref (ke 0), .int x1])).length) Slot.unset).toArray = ls at hl ⊢
  have hl : lv_has ls 4 [(0, .ref (ke 0)), (1, .int x1)] := hl
  rw [f_X3_nextToConvert] at h
  refine lv_iconst (v := 1) hx hb dX3_nextToConvert_0 (by decide) ?_
  refine lv_istore_n (lv' := [(2, .int 1), (0, .ref (ke 0)), (1, .int x1)]) hx hb dX3_nextToConvert_1 rfl hl (by decide) rfl (fun ls hl => ?_)
  exact b2 1000 be x1 1 _ _ _ hP hD hS (lv_sub hl [1, 2, 0] rfl) h
set_option maxHeartbeats 4000000 in
set_option maxRecDepth 100000 in
theorem c_X3_reckon (l : Launch) (D : va_G) (tt : Nat → ClassId) (ke : Nat → Nat) (kv : Nat → Nat) (sz : Nat) (be : zV) (bv : zV) (x2 : Int32) (out : zV) (h : f_X3_reckon be bv x2 = some out) : Met l yX3_reckon wsX3_reckon { frames := 5, cells := 0, slots := 0, locals := 121 } (zPm [.ref (ke 0), .ref (kv 0), .int x2] D tt (zw_ex tt ke be ++ zw_co tt kv bv) sz) (zMv D (zw_ex tt ke out ++ zw_co tt kv bv) (va_A (zw_ex tt ke be ++ zw_co tt kv bv) sz)) 0 0 (va_A (zw_ex tt ke be ++ zw_co tt kv bv) sz) := by
  refine Met.ofW (cc := cX3_reckon) (maxL := 5) (ret := none) (by decide) rfl ?_
  intro p e s m args below meth c s₁ B hml hv
  obtain ⟨ha, hsz, hP, hK, hD0⟩ := hv
  have hx := B.exec
  have hb := B.bytes
  have hr := B.returns
  have hts := atoms_spec (ws := wsX3_reckon) B.pre
  have hown : s.vm.findClass RX3 = some m.cls := findClass_of_methodNamed B.named
  have hlocks := B.notSynchronized
  have hi3 : ∀ w ∈ u_ws RX3 TX3 8, w ∈ wsX3_reckon := fun _ h => List.mem_cons_of_mem _ (List.mem_append_left _ (List.mem_append_left _ (List.mem_append_left _ (List.mem_append_right _ h))))
  have fl34 := hts (.fieldLink RX3 34 "CapStacks$Exit" "converting" "I") (by decide +kernel)
  have fl38 := hts (.fieldLink RX3 38 "CapStacks$Exit" "size" "I") (by decide +kernel)
  subst hsz
  have hD := hD0.self (sz := s.heap.size)
  generalize hAe : va_A (zw_ex tt ke be ++ zw_co tt kv bv) s.heap.size = A at hD ⊢
  have hA : ∀ q : Nat, s.heap.size ≤ q → A q := fun q h => by rw [← hAe]; exact Or.inr h
  have hS : va_S A s.heap s.heap [] := va_S.rf
  have hfin : ∀ (be : zV) (pc : Nat) (ls : Array Slot) (H : Heap) (locs : List Loc), some be = some out → va_P D vwCl (zw_ex tt ke be ++ zw_co tt kv bv) H → va_D A (zw_ex tt ke be ++ zw_co tt kv bv) → va_S A s.heap H locs → decode cX3_reckon pc = .ok (.return_, 1) → W p l e (headSpec wsX3_reckon { frames := 5, cells := 0, slots := 0, locals := 121 }).room s m args below meth c H locs 0 0 (MQ below (zMv D (zw_ex tt ke out ++ zw_co tt kv bv) A) args s 0 0 A) (F0 m pc ls []) := by
    intro be pc ls H locs he hP hD hS hd
    cases he
    exact W.vret hx hb hr (fun t ht hW => ⟨⟨(), rfl, trivial, by rw [ht]; exact hP, hD⟩, hS.F ht⟩) hS.2.2 hd
  generalize MQ below (zMv D (zw_ex tt ke out ++ zw_co tt kv bv) A) args s 0 0 A = Q at hfin ⊢
  have b12 : ∀ n : Nat, ∀ (be : zV) (x2 : Int32) (x3 : Int32) (H : Heap) (locs : List Loc) (ls : Array Slot), va_P D vwCl (zw_ex tt ke be ++ zw_co tt kv bv) H → va_D A (zw_ex tt ke be ++ zw_co tt kv bv) → va_S A s.heap H locs → lv_has ls 5 [(0, .ref (ke 0)), (1, .ref (kv 0)), (2, .int x2), (3, .int x3)] → f_X3_reckon_b12 bv n be x2 x3 = some out → W p l e (headSpec wsX3_reckon { frames := 5, cells := 0, slots := 0, locals := 121 }).room s m args below meth c H locs 0 0 Q (F0 m 12 ls []) := by
    intro n
    induction n with
    | zero =>
      intro be x2 x3 H locs ls hP hD hS hl h
      cases h
    | succ n ih =>
      intro be x2 x3 H locs ls hP hD hS hl h
      rw [f_X3_reckon_b12] at h
      refine lv_iload_n hx hb dX3_reckon_12 rfl (lv_at hl 3 rfl) ?_
      refine lv_aload_n hx hb dX3_reckon_13 rfl (lv_at hl 0 rfl) ?_
      refine va_get (D := D) (ci := 3) (v := .int (be 0 1)) (C := RX3) (T := TX3) (N := 8) hx hb hts hi3 hown hK.1 hP 0 rfl rfl 2 (by decide) fl38 (fun _ h9 => h9) rfl dX3_reckon_14 ?_
      refine lv_icmp_ge (tgt := 55) hx hb dX3_reckon_17 (by decide) (fun k1 => ?_) (fun k1 => ?_)
      · replace h := z_pos k1 h
        refine lv_aload_n hx hb dX3_reckon_55 rfl (lv_at hl 0 rfl) ?_
        refine lv_iload_n hx hb dX3_reckon_56 rfl (lv_at hl 2 rfl) ?_
        refine lv_aload_n hx hb dX3_reckon_57 rfl (lv_at hl 0 rfl) ?_
        refine va_get (D := D) (ci := 3) (v := .int (be 0 0)) (C := RX3) (T := TX3) (N := 8) hx hb hts hi3 hown hK.1 hP 0 rfl rfl 0 (by decide) fl34 (fun _ h9 => h9) rfl dX3_reckon_58 ?_
        obtain ⟨y2, gy2, h⟩ := zb_some h
        have hpm : List.Perm (zw_ex tt ke be ++ zw_co tt kv bv) ((zw_ex tt ke be) ++ (zw_co tt kv bv)) := z_pm (fun _ x => by simp only [List.count_append, List.count_nil] <;> omega)
        have hPc := z_takeP hpm hP
        have hDc := z_takeD hpm hD
        have hFc := z_free0 hDc hS hA
        refine z_callmv (wc := (zw_ex tt ke be)) (w1 := (zw_ex tt ke y2)) (va_runV (As := [.int x2, .int (be 0 0)]) (rest := []) ⟨hx, hb, hml, hown, hts⟩ (c_X3_payOut l D tt ke _ be x2 (be 0 0) y2 gy2) (cwV 2 hts gX3_reckon_X3_payOut rfl rfl rfl (by decide +kernel) ⟨Nat.le_of_ble_eq_true rfl, Nat.le_of_ble_eq_true rfl⟩) (z_preVm hK hPc hDc (ci := 3) (q0 := 0) rfl rfl) rfl rfl hl.1 rfl (lv_room (Nat.le_of_ble_eq_true rfl)) dX3_reckon_61 ⟨Nat.zero_le _, Nat.zero_le _⟩) hS hFc (fun H locs hP1 hD1 hk1 hS => ?_)
        have hpm2 : List.Perm (zw_ex tt ke y2 ++ zw_co tt kv bv) ((zw_ex tt ke y2) ++ (zw_co tt kv bv)) := z_pm (fun _ x => by simp only [List.count_append, List.count_nil] <;> omega)
        obtain ⟨hP, hD⟩ := z_joinB hpm hpm2 hP hD hk1 hFc hP1 hD1
        clear hpm hpm2
        have hP : va_P D vwCl (zw_ex tt ke y2 ++ zw_co tt kv bv) H := hP
        have hD : va_D A (zw_ex tt ke y2 ++ zw_co tt kv bv) := hD
        exact hfin _ _ _ _ _ h hP hD hS dX3_reckon_64
      replace h := z_neg k1 h
      refine lv_aload_n hx hb dX3_reckon_20 rfl (lv_at hl 0 rfl) ?_
      refine lv_iload_n hx hb dX3_reckon_21 rfl (lv_at hl 2 rfl) ?_
      obtain ⟨y3, gy3, h⟩ := zb_some h
      have hpm : List.Perm (zw_ex tt ke be ++ zw_co tt kv bv) ((zw_ex tt ke be) ++ (zw_co tt kv bv)) := z_pm (fun _ x => by simp only [List.count_append, List.count_nil] <;> omega)
      have hPc := z_takeP hpm hP
      have hDc := z_takeD hpm hD
      have hFc := z_free0 hDc hS hA
      refine z_callmi (wc := (zw_ex tt ke be)) (w1 := (zw_ex tt ke y3.2)) (va_runV (As := [.int x2]) (rest := []) ⟨hx, hb, hml, hown, hts⟩ (c_X3_nextToConvert l D tt ke _ be x2 y3 gy3) (cwV 1 hts gX3_reckon_X3_nextToConvert rfl rfl rfl (by decide +kernel) ⟨Nat.le_of_ble_eq_true rfl, Nat.le_of_ble_eq_true rfl⟩) (z_preVm hK hPc hDc (ci := 3) (q0 := 0) rfl rfl) rfl rfl hl.1 rfl (lv_room (Nat.le_of_ble_eq_true rfl)) dX3_reckon_22 ⟨Nat.zero_le _, Nat.zero_le _⟩) hS hFc (fun H locs ny3 hP1 hD1 hk1 hS => ?_)
      have hpm2 : List.Perm (zw_ex tt ke y3.2 ++ zw_co tt kv bv) ((zw_ex tt ke y3.2) ++ (zw_co tt kv bv)) := z_pm (fun _ x => by simp only [List.count_append, List.count_nil] <;> omega)
      obtain ⟨hP, hD⟩ := z_joinB hpm hpm2 hP hD hk1 hFc hP1 hD1
      clear hpm hpm2
      have hP : va_P D vwCl (zw_ex tt ke y3.2 ++ zw_co tt kv bv) H := hP
      have hD : va_D A (zw_ex tt ke y3.2 ++ zw_co tt kv bv) := hD
      refine lv_istore (lv' := [(4, .int y3.1), (0, .ref (ke 0)), (1, .ref (kv 0)), (2, .int x2), (3, .int x3)]) hx hb dX3_reckon_25 hl (by decide) rfl (fun ls hl => ?_)
      refine lv_iload hx hb dX3_reckon_27 (lv_at hl 0 rfl) ?_
      refine lv_iconst (v := (-1)) hx hb dX3_reckon_29 (by decide) ?_
      refine lv_icmp_ne (tgt := 36) hx hb dX3_reckon_30 (by decide) (fun k4 => ?_) (fun k4 => ?_)
      · replace h := z_neg k4 h
        refine lv_aload_n hx hb dX3_reckon_36 rfl (lv_at hl 1 rfl) ?_
        refine lv_dup hx hb dX3_reckon_37 rfl ?_
        refine va_get (D := D) (ci := 3) (v := .int (y3.2 0 0)) (C := RX3) (T := TX3) (N := 8) hx hb hts hi3 hown hK.1 hP 0 rfl rfl 0 (by decide) fl34 (fun _ h9 => h9) rfl dX3_reckon_38 ?_
        refine lv_iconst (v := 1) hx hb dX3_reckon_41 (by decide) ?_
        refine lv_iload hx hb dX3_reckon_42 (lv_at hl 0 rfl) ?_
        refine lv_ishl hx hb dX3_reckon_44 ?_
        refine lv_ior hx hb dX3_reckon_45 ?_
        refine va_put (D := D) (ci := 3) (v := .int ((y3.2 0 0) ||| (1 <<< (y3.1 &&& 31)))) (ty := .int) (C := RX3) (T := TX3) (N := 8) hx hb hts hi3 tyX3 tyX3_ok nmX3 hown hK.1 hP hD hS 0 rfl rfl 0 (by decide) fl34 (fun _ h9 => h9) rfl (by decide +kernel) rfl rfl (Nat.le_of_ble_eq_true rfl) dX3_reckon_46 (fun H locs hP hD hS => ?_)
        have hP : va_P D vwCl (zw_ex tt ke (zu y3.2 0 (zu (y3.2 0) 0 ((y3.2 0 0) ||| (1 <<< (y3.1 &&& 31))))) ++ zw_co tt kv bv) H := hP
        have hD : va_D A (zw_ex tt ke (zu y3.2 0 (zu (y3.2 0) 0 ((y3.2 0 0) ||| (1 <<< (y3.1 &&& 31))))) ++ zw_co tt kv bv) := hD
        refine lv_iinc (v := (x3 + 1)) (lv' := [(3, .int (x3 + 1)), (4, .int y3.1), (0, .ref (ke 0)), (1, .ref (kv 0)), (2, .int x2)]) hx hb dX3_reckon_49 hl (k := 4) rfl rfl (by decide) rfl (fun ls hl => ?_)
        refine lv_goto (tgt := 12) hx hb dX3_reckon_52 (by decide) ?_
        exact ih (zu y3.2 0 (zu (y3.2 0) 0 ((y3.2 0 0) ||| (1 <<< (y3.1 &&& 31))))) x2 (x3 + 1) _ _ _ hP hD hS (lv_sub hl [2, 3, 4, 0] rfl) h
      replace h := z_pos k4 h
      refine lv_goto (tgt := 55) hx hb dX3_reckon_33 (by decide) ?_
      refine lv_aload_n hx hb dX3_reckon_55 rfl (lv_at hl 1 rfl) ?_
      refine lv_iload_n hx hb dX3_reckon_56 rfl (lv_at hl 3 rfl) ?_
      refine lv_aload_n hx hb dX3_reckon_57 rfl (lv_at hl 1 rfl) ?_
      refine va_get (D := D) (ci := 3) (v := .int (y3.2 0 0)) (C := RX3) (T := TX3) (N := 8) hx hb hts hi3 hown hK.1 hP 0 rfl rfl 0 (by decide) fl34 (fun _ h9 => h9) rfl dX3_reckon_58 ?_
      obtain ⟨y5, gy5, h⟩ := zb_some h
      have hpm : List.Perm (zw_ex tt ke y3.2 ++ zw_co tt kv bv) ((zw_ex tt ke y3.2) ++ (zw_co tt kv bv)) := z_pm (fun _ x => by simp only [List.count_append, List.count_nil] <;> omega)
      have hPc := z_takeP hpm hP
      have hDc := z_takeD hpm hD
      have hFc := z_free0 hDc hS hA
      refine z_callmv (wc := (zw_ex tt ke y3.2)) (w1 := (zw_ex tt ke y5)) (va_runV (As := [.int x2, .int (y3.2 0 0)]) (rest := []) ⟨hx, hb, hml, hown, hts⟩ (c_X3_payOut l D tt ke _ y3.2 x2 (y3.2 0 0) y5 gy5) (cwV 2 hts gX3_reckon_X3_payOut rfl rfl rfl (by decide +kernel) ⟨Nat.le_of_ble_eq_true rfl, Nat.le_of_ble_eq_true rfl⟩) (z_preVm hK hPc hDc (ci := 3) (q0 := 0) rfl rfl) rfl rfl hl.1 rfl (lv_room (Nat.le_of_ble_eq_true rfl)) dX3_reckon_61 ⟨Nat.zero_le _, Nat.zero_le _⟩) hS hFc (fun H locs hP1 hD1 hk1 hS => ?_)
      have hpm2 : List.Perm (zw_ex tt ke y5 ++ zw_co tt kv bv) ((zw_ex tt ke y5) ++ (zw_co tt kv bv)) := z_pm (fun _ x => by simp only [List.count_append, List.count_nil] <;> omega)
      obtain ⟨hP, hD⟩ := z_joinB hpm hpm2 hP hD hk1 hFc hP1 hD1
      clear hpm hpm2
      have hP : va_P D vwCl (zw_ex tt ke y5 ++ zw_co tt kv bv) H := hP
      have hD : va_D A (zw_ex tt ke y5 ++ zw_co tt kv bv) := hD
      exact hfin _ _ _ _ _ h hP hD hS dX3_reckon_64
  have hl := lv_entry ([.ref (ke 0), .ref (kv 0), .int x2]) (n := 5) (Nat.le_of_ble_eq_true rfl)
  refine W.eq (g2 := F0 m 0 ((lg_sl ([.ref (ke 0), .ref (kv 0), .int x2]) ++ List.replicate (5 - (lg_sl ([.ref (ke 0), .ref (kv 0), .int x2])).length) Slot.unset).toArray) []) (by rw [ha]; exact lg_entry_eq _ _ _) ?_
  generalize (lg_sl ([.ref (ke 0), .ref (kv 0), .int x2]) ++ List.replicate (5 - (lg_sl ([.ref (ke 0), .ref (kv 0), .int x2])).length) Slot.unset).toArray = ls at hl ⊢
  have hl : lv_has ls 5 [(0, .ref (ke 0)), (1, .ref (kv 0)), (2, .int x2)] := hl
  rw [f_X3_reckon] at h
  refine lv_aload_n hx hb dX3_reckon_0 rfl (lv_at hl 0 rfl) ?_
  refine lv_aload_n hx hb dX3_reckon_1 rfl (lv_at hl 1 rfl) ?_
  obtain ⟨y6, gy6, h⟩ := zb_some h
  have hFc := z_free0 hD hS hA
  refine z_callmv (wc := (zw_ex tt ke be ++ zw_co tt kv bv)) (w1 := (zw_ex tt ke y6 ++ zw_co tt kv bv)) (va_runV (As := [.ref (kv 0)]) (rest := []) ⟨hx, hb, hml, hown, hts⟩ (c_X3_readClasses l D tt ke kv _ be bv y6 gy6) (cwV 1 hts gX3_reckon_X3_readClasses rfl rfl rfl (by decide +kernel) ⟨Nat.le_of_ble_eq_true rfl, Nat.le_of_ble_eq_true rfl⟩) (z_preVm hK hP hD (ci := 3) (q0 := 0) rfl rfl) rfl rfl hl.1 rfl (lv_room (Nat.le_of_ble_eq_true rfl)) dX3_reckon_2 ⟨Nat.zero_le _, Nat.zero_le _⟩) hS hFc (fun H locs hP1 hD1 hk1 hS => ?_)
  have hP := hP1
  have hD := hD1.weaken (fun _ q _ h => hFc q.1 h)
  refine lv_aload_n hx hb dX3_reckon_5 rfl (lv_at hl 0 rfl) ?_
  refine lv_iconst (v := 0) hx hb dX3_reckon_6 (by decide) ?_
  refine va_put (D := D) (ci := 3) (v := .int 0) (ty := .int) (C := RX3) (T := TX3) (N := 8) hx hb hts hi3 tyX3 tyX3_ok nmX3 hown hK.1 hP hD hS 0 rfl rfl 0 (by decide) fl34 (fun _ h9 => h9) rfl (by decide +kernel) rfl rfl (Nat.le_of_ble_eq_true rfl) dX3_reckon_7 (fun H locs hP hD hS => ?_)
  have hP : va_P D vwCl (zw_ex tt ke (zu y6 0 (zu (y6 0) 0 0)) ++ zw_co tt kv bv) H := hP
  have hD : va_D A (zw_ex tt ke (zu y6 0 (zu (y6 0) 0 0)) ++ zw_co tt kv bv) := hD
  refine lv_iconst (v := 1) hx hb dX3_reckon_10 (by decide) ?_
  refine lv_istore_n (lv' := [(3, .int 1), (0, .ref (ke 0)), (1, .ref (kv 0)), (2, .int x2)]) hx hb dX3_reckon_11 rfl hl (by decide) rfl (fun ls hl => ?_)
  exact b12 1000 (zu y6 0 (zu (y6 0) 0 0)) x2 1 _ _ _ hP hD hS (lv_sub hl [1, 2, 3, 0] rfl) h
set_option maxHeartbeats 4000000 in
set_option maxRecDepth 100000 in
theorem c_X3_gainOfHolder (l : Launch) (D : va_G) (tt : Nat → ClassId) (ke : Nat → Nat) (kv : Nat → Nat) (be : zV) (bv : zV) (x2 : Int32) (out : Int32) (h : f_X3_gainOfHolder be bv x2 = some out) : Met l yX3_gainOfHolder wsX3_gainOfHolder { frames := 1, cells := 0, slots := 0, locals := 24 } (zPr [.ref (ke 0), .ref (kv 0), .int x2] D tt (zw_ex tt ke be ++ zw_co tt kv bv)) (zQr .int out) 0 0 (fun _ => False) := by
  refine Met.ofW (cc := cX3_gainOfHolder) (maxL := 5) (ret := (some .int)) (by decide) rfl ?_
  intro p e s m args below meth c s₁ B hml hv
  obtain ⟨ha, hP, hK⟩ := hv
  have hx := B.exec
  have hb := B.bytes
  have hr := B.returns
  have hts := atoms_spec (ws := wsX3_gainOfHolder) B.pre
  have hown : s.vm.findClass RX3 = some m.cls := findClass_of_methodNamed B.named
  have hlocks := B.notSynchronized
  have hi2 : ∀ w ∈ u_ws RX2 TX2 11, w ∈ wsX3_gainOfHolder := fun _ h => List.mem_cons_of_mem _ (List.mem_append_left _ (List.mem_append_right _ h))
  have hi3 : ∀ w ∈ u_ws RX3 TX3 8, w ∈ wsX3_gainOfHolder := fun _ h => List.mem_cons_of_mem _ (List.mem_append_left _ (List.mem_append_left _ (List.mem_append_right _ h)))
  have fl15 := hts (.fieldLink RX3 15 "CapStacks$Exit" "shares" "[I") (by decide +kernel)
  have fl38 := hts (.fieldLink RX3 38 "CapStacks$Exit" "size" "I") (by decide +kernel)
  have fl49 := hts (.fieldLink RX3 49 "CapStacks$Company" "certificates" "LCapStacks$Certificates;") (by decide +kernel)
  have fl9 := hts (.fieldLink RX3 9 "CapStacks$Exit" "gain" "[I") (by decide +kernel)
  have iniX9 := hts (.initialized RX9) (by decide +kernel)
  have st_X9_portion := hts (.static yX9_portion) (by decide +kernel)
  have nw61 : va_Nw (.methodLinkNest RX3 61 yX9_portion "CapStacks") s := hK.2.1 (RX3, 61, yX9_portion, "CapStacks") (List.mem_of_getElem? (i := 17) rfl)
  have hfin : ∀ (v : Int32) (pc : Nat) (ls : Array Slot), some v = some out → narrow .int (.int v) = .int v → decode cX3_gainOfHolder pc = .ok (.ireturn, 1) → W p l e (headSpec wsX3_gainOfHolder { frames := 1, cells := 0, slots := 0, locals := 24 }).room s m args below meth c s.heap [] 0 0 (MQ below (zQr .int out) args s 0 0 (fun _ => False)) (F0 m pc ls [.int v]) := by
    intro v pc ls he hn hd
    cases he
    exact W.zret hx hb hr hn (fun t ht hW => ⟨rfl, hn, ht⟩) (fun _ h => by cases h) hd
  generalize MQ below (zQr .int out) args s 0 0 (fun _ => False) = Q at hfin ⊢
  have b5 : ∀ n : Nat, ∀ (x2 : Int32) (x3 : Int32) (x4 : Int32) (ls : Array Slot), lv_has ls 5 [(0, .ref (ke 0)), (1, .ref (kv 0)), (2, .int x2), (3, .int x3), (4, .int x4)] → f_X3_gainOfHolder_b5 be bv n x2 x3 x4 = some out → W p l e (headSpec wsX3_gainOfHolder { frames := 1, cells := 0, slots := 0, locals := 24 }).room s m args below meth c s.heap [] 0 0 Q (F0 m 5 ls []) := by
    intro n
    induction n with
    | zero =>
      intro x2 x3 x4 ls hl h
      cases h
    | succ n ih =>
      intro x2 x3 x4 ls hl h
      rw [f_X3_gainOfHolder_b5] at h
      refine lv_iload hx hb dX3_gainOfHolder_5 (lv_at hl 4 rfl) ?_
      refine lv_aload_n hx hb dX3_gainOfHolder_7 rfl (lv_at hl 0 rfl) ?_
      refine va_get (D := D) (ci := 3) (v := .int (be 0 1)) (C := RX3) (T := TX3) (N := 8) hx hb hts hi3 hown hK.1 hP 0 rfl rfl 2 (by decide) fl38 (fun _ h9 => h9) rfl dX3_gainOfHolder_8 ?_
      refine lv_icmp_ge (tgt := 50) hx hb dX3_gainOfHolder_11 (by decide) (fun k1 => ?_) (fun k1 => ?_)
      · replace h := z_pos k1 h
        refine lv_iload_n hx hb dX3_gainOfHolder_50 rfl (lv_at hl 3 rfl) ?_
        exact hfin _ _ _ h rfl dX3_gainOfHolder_51
      replace h := z_neg k1 h
      refine lv_iload_n hx hb dX3_gainOfHolder_14 rfl (lv_at hl 3 rfl) ?_
      refine lv_aload_n hx hb dX3_gainOfHolder_15 rfl (lv_at hl 0 rfl) ?_
      refine va_get (D := D) (ci := 3) (v := .ref (ke 1)) (C := RX3) (T := TX3) (N := 8) hx hb hts hi3 hown hK.1 hP 0 rfl rfl 1 (by decide) fl9 (fun _ h9 => h9) rfl dX3_gainOfHolder_16 ?_
      refine lv_iload hx hb dX3_gainOfHolder_19 (lv_at hl 4 rfl) ?_
      obtain ⟨q2, h⟩ := zA_some h
      refine va_iald hx hb hK.1 hP 1 0 rfl rfl q2 dX3_gainOfHolder_21 ?_
      refine lv_aload_n hx hb dX3_gainOfHolder_22 rfl (lv_at hl 1 rfl) ?_
      refine va_get (D := D) (ci := 2) (v := .ref (kv 2)) (C := RX2) (T := TX2) (N := 11) hx hb hts hi2 hown hK.1 hP 7 rfl rfl 1 (by decide) fl49 (fun _ h9 => h9) rfl dX3_gainOfHolder_23 ?_
      refine lv_iload_n hx hb dX3_gainOfHolder_26 rfl (lv_at hl 2 rfl) ?_
      refine lv_iload hx hb dX3_gainOfHolder_27 (lv_at hl 4 rfl) ?_
      obtain ⟨y3, gy3, h⟩ := zb_some h
      have hpm : List.Perm (zw_ex tt ke be ++ (zw_c0 tt kv bv ++ (zw_cl tt kv bv ++ (zw_ce tt kv bv ++ (zw_gr tt kv bv ++ (zw_ro tt kv bv ++ (zw_la tt kv bv))))))) ((zw_ce tt kv bv) ++ (zw_ex tt ke be ++ zw_c0 tt kv bv ++ zw_cl tt kv bv ++ zw_gr tt kv bv ++ zw_ro tt kv bv ++ zw_la tt kv bv)) := z_pm (fun _ x => by simp only [List.count_append, List.count_nil] <;> omega)
      refine z_callr (va_runV (As := [.int x2, .int x4]) (rest := [.int ((be 1) x4.toNatClampNeg), .int x3]) ⟨hx, hb, hml, hown, hts⟩ (c_X0_sharesOwned l D tt kv bv x2 x4 y3 gy3) (cwV 2 hts gX3_gainOfHolder_X0_sharesOwned rfl rfl rfl (by decide +kernel) ⟨Nat.le_of_ble_eq_true rfl, Nat.le_of_ble_eq_true rfl⟩) (z_preVr hK (z_takeP hpm hP) (ci := 0) (q0 := 0) rfl rfl) rfl rfl hl.1 rfl (lv_room (Nat.le_of_ble_eq_true rfl)) dX3_gainOfHolder_29 ⟨Nat.zero_le _, Nat.zero_le _⟩) (fun ny3 => ?_)
      refine lv_aload_n hx hb dX3_gainOfHolder_32 rfl (lv_at hl 0 rfl) ?_
      refine va_get (D := D) (ci := 3) (v := .ref (ke 2)) (C := RX3) (T := TX3) (N := 8) hx hb hts hi3 hown hK.1 hP 0 rfl rfl 3 (by decide) fl15 (fun _ h9 => h9) rfl dX3_gainOfHolder_33 ?_
      refine lv_iload hx hb dX3_gainOfHolder_36 (lv_at hl 4 rfl) ?_
      refine va_iald hx hb hK.1 hP 2 0 rfl rfl q2 dX3_gainOfHolder_38 ?_
      obtain ⟨y4, gy4, h⟩ := zb_some h
      refine z_callr (va_runSN (As := [.int ((be 1) x4.toNatClampNeg), .int y3, .int ((be 2) x4.toNatClampNeg)]) (rest := [.int x3]) ⟨hx, hb, hml, hown, hts⟩ (c_X9_portion l D tt ((be 1) x4.toNatClampNeg) y3 ((be 2) x4.toNatClampNeg) y4 gy4) ⟨va_cnB (host := "CapStacks") 3 hts gX3_gainOfHolder_X9_portion_n61 rfl rfl rfl nw61 iniX9 (by decide +kernel) ⟨Nat.le_of_ble_eq_true rfl, Nat.le_of_ble_eq_true rfl⟩, st_X9_portion, trivial⟩ (z_preSr hK (hP.sub (ws' := ([] : va_W)) [] rfl)) rfl rfl hl.1 rfl (lv_room (Nat.le_of_ble_eq_true rfl)) dX3_gainOfHolder_39 ⟨Nat.zero_le _, Nat.zero_le _⟩) (fun ny4 => ?_)
      refine lv_iadd hx hb dX3_gainOfHolder_42 ?_
      refine lv_istore_n (lv' := [(3, .int (x3 + y4)), (0, .ref (ke 0)), (1, .ref (kv 0)), (2, .int x2), (4, .int x4)]) hx hb dX3_gainOfHolder_43 rfl hl (by decide) rfl (fun ls hl => ?_)
      refine lv_iinc (v := (x4 + 1)) (lv' := [(4, .int (x4 + 1)), (3, .int (x3 + y4)), (0, .ref (ke 0)), (1, .ref (kv 0)), (2, .int x2)]) hx hb dX3_gainOfHolder_44 hl (k := 4) rfl rfl (by decide) rfl (fun ls hl => ?_)
      refine lv_goto (tgt := 5) hx hb dX3_gainOfHolder_47 (by decide) ?_
      exact ih x2 (x3 + y4) (x4 + 1) _ (lv_sub hl [2, 3, 4, 1, 0] rfl) h
  have hl := lv_entry ([.ref (ke 0), .ref (kv 0), .int x2]) (n := 5) (Nat.le_of_ble_eq_true rfl)
  refine W.eq (g2 := F0 m 0 ((lg_sl ([.ref (ke 0), .ref (kv 0), .int x2]) ++ List.replicate (5 - (lg_sl ([.ref (ke 0), .ref (kv 0), .int x2])).length) Slot.unset).toArray) []) (by rw [ha]; exact lg_entry_eq _ _ _) ?_
  generalize (lg_sl ([.ref (ke 0), .ref (kv 0), .int x2]) ++ List.replicate (5 - (lg_sl ([.ref (ke 0), .ref (kv 0), .int x2])).length) Slot.unset).toArray = ls at hl ⊢
  have hl : lv_has ls 5 [(0, .ref (ke 0)), (1, .ref (kv 0)), (2, .int x2)] := hl
  rw [f_X3_gainOfHolder] at h
  refine lv_iconst (v := 0) hx hb dX3_gainOfHolder_0 (by decide) ?_
  refine lv_istore_n (lv' := [(3, .int 0), (0, .ref (ke 0)), (1, .ref (kv 0)), (2, .int x2)]) hx hb dX3_gainOfHolder_1 rfl hl (by decide) rfl (fun ls hl => ?_)
  refine lv_iconst (v := 0) hx hb dX3_gainOfHolder_2 (by decide) ?_
  refine lv_istore (lv' := [(4, .int 0), (3, .int 0), (0, .ref (ke 0)), (1, .ref (kv 0)), (2, .int x2)]) hx hb dX3_gainOfHolder_3 hl (by decide) rfl (fun ls hl => ?_)
  exact b5 1000 x2 0 0 _ (lv_sub hl [2, 3, 4, 1, 0] rfl) h
set_option maxHeartbeats 4000000 in
set_option maxRecDepth 100000 in
theorem c_X3_classesAhead (l : Launch) (D : va_G) (tt : Nat → ClassId) (ke : Nat → Nat) (be : zV) (x1 : Int32) (out : Int32) (h : f_X3_classesAhead be x1 = some out) : Met l yX3_classesAhead wsX3_classesAhead { frames := 0, cells := 0, slots := 0, locals := 0 } (zPr [.ref (ke 0), .int x1] D tt (zw_ex tt ke be)) (zQr .int out) 0 0 (fun _ => False) := by
  refine Met.ofW (cc := cX3_classesAhead) (maxL := 4) (ret := (some .int)) (by decide) rfl ?_
  intro p e s m args below meth c s₁ B hml hv
  obtain ⟨ha, hP, hK⟩ := hv
  have hx := B.exec
  have hb := B.bytes
  have hr := B.returns
  have hts := atoms_spec (ws := wsX3_classesAhead) B.pre
  have hown : s.vm.findClass RX3 = some m.cls := findClass_of_methodNamed B.named
  have hlocks := B.notSynchronized
  have hi3 : ∀ w ∈ u_ws RX3 TX3 8, w ∈ wsX3_classesAhead := fun _ h => List.mem_cons_of_mem _ (List.mem_append_right _ h)
  have fl38 := hts (.fieldLink RX3 38 "CapStacks$Exit" "size" "I") (by decide +kernel)
  have fl9 := hts (.fieldLink RX3 9 "CapStacks$Exit" "gain" "[I") (by decide +kernel)
  have hfin : ∀ (v : Int32) (pc : Nat) (ls : Array Slot), some v = some out → narrow .int (.int v) = .int v → decode cX3_classesAhead pc = .ok (.ireturn, 1) → W p l e (headSpec wsX3_classesAhead { frames := 0, cells := 0, slots := 0, locals := 0 }).room s m args below meth c s.heap [] 0 0 (MQ below (zQr .int out) args s 0 0 (fun _ => False)) (F0 m pc ls [.int v]) := by
    intro v pc ls he hn hd
    cases he
    exact W.zret hx hb hr hn (fun t ht hW => ⟨rfl, hn, ht⟩) (fun _ h => by cases h) hd
  generalize MQ below (zQr .int out) args s 0 0 (fun _ => False) = Q at hfin ⊢
  have b4 : ∀ n : Nat, ∀ (x1 : Int32) (x2 : Int32) (x3 : Int32) (ls : Array Slot), lv_has ls 4 [(0, .ref (ke 0)), (1, .int x1), (2, .int x2), (3, .int x3)] → f_X3_classesAhead_b4 be n x1 x2 x3 = some out → W p l e (headSpec wsX3_classesAhead { frames := 0, cells := 0, slots := 0, locals := 0 }).room s m args below meth c s.heap [] 0 0 Q (F0 m 4 ls []) := by
    intro n
    induction n with
    | zero =>
      intro x1 x2 x3 ls hl h
      cases h
    | succ n ih =>
      intro x1 x2 x3 ls hl h
      rw [f_X3_classesAhead_b4] at h
      refine lv_iload_n hx hb dX3_classesAhead_4 rfl (lv_at hl 3 rfl) ?_
      refine lv_aload_n hx hb dX3_classesAhead_5 rfl (lv_at hl 0 rfl) ?_
      refine va_get (D := D) (ci := 3) (v := .int (be 0 1)) (C := RX3) (T := TX3) (N := 8) hx hb hts hi3 hown hK.1 hP 0 rfl rfl 2 (by decide) fl38 (fun _ h9 => h9) rfl dX3_classesAhead_6 ?_
      refine lv_icmp_ge (tgt := 56) hx hb dX3_classesAhead_9 (by decide) (fun k1 => ?_) (fun k1 => ?_)
      · replace h := z_pos k1 h
        refine lv_iload_n hx hb dX3_classesAhead_56 rfl (lv_at hl 2 rfl) ?_
        exact hfin _ _ _ h rfl dX3_classesAhead_57
      replace h := z_neg k1 h
      refine lv_aload_n hx hb dX3_classesAhead_12 rfl (lv_at hl 0 rfl) ?_
      refine va_get (D := D) (ci := 3) (v := .ref (ke 1)) (C := RX3) (T := TX3) (N := 8) hx hb hts hi3 hown hK.1 hP 0 rfl rfl 1 (by decide) fl9 (fun _ h9 => h9) rfl dX3_classesAhead_13 ?_
      refine lv_iload_n hx hb dX3_classesAhead_16 rfl (lv_at hl 3 rfl) ?_
      obtain ⟨q2, h⟩ := zA_some h
      refine va_iald hx hb hK.1 hP 1 0 rfl rfl q2 dX3_classesAhead_17 ?_
      refine lv_aload_n hx hb dX3_classesAhead_18 rfl (lv_at hl 0 rfl) ?_
      refine va_get (D := D) (ci := 3) (v := .ref (ke 1)) (C := RX3) (T := TX3) (N := 8) hx hb hts hi3 hown hK.1 hP 0 rfl rfl 1 (by decide) fl9 (fun _ h9 => h9) rfl dX3_classesAhead_19 ?_
      refine lv_iload_n hx hb dX3_classesAhead_22 rfl (lv_at hl 1 rfl) ?_
      obtain ⟨q3, h⟩ := zA_some h
      refine va_iald hx hb hK.1 hP 1 0 rfl rfl q3 dX3_classesAhead_23 ?_
      refine lv_icmp_gt (tgt := 47) hx hb dX3_classesAhead_24 (by decide) (fun k4 => ?_) (fun k4 => ?_)
      · replace h := z_pos k4 h
        refine lv_iinc (v := (x2 + 1)) (lv' := [(2, .int (x2 + 1)), (0, .ref (ke 0)), (1, .int x1), (3, .int x3)]) hx hb dX3_classesAhead_47 hl (k := 2) rfl rfl (by decide) rfl (fun ls hl => ?_)
        refine lv_iinc (v := (x3 + 1)) (lv' := [(3, .int (x3 + 1)), (2, .int (x2 + 1)), (0, .ref (ke 0)), (1, .int x1)]) hx hb dX3_classesAhead_50 hl (k := 3) rfl rfl (by decide) rfl (fun ls hl => ?_)
        refine lv_goto (tgt := 4) hx hb dX3_classesAhead_53 (by decide) ?_
        exact ih x1 (x2 + 1) (x3 + 1) _ (lv_sub hl [2, 3, 1, 0] rfl) h
      replace h := z_neg k4 h
      refine lv_aload_n hx hb dX3_classesAhead_27 rfl (lv_at hl 0 rfl) ?_
      refine va_get (D := D) (ci := 3) (v := .ref (ke 1)) (C := RX3) (T := TX3) (N := 8) hx hb hts hi3 hown hK.1 hP 0 rfl rfl 1 (by decide) fl9 (fun _ h9 => h9) rfl dX3_classesAhead_28 ?_
      refine lv_iload_n hx hb dX3_classesAhead_31 rfl (lv_at hl 3 rfl) ?_
      refine va_iald hx hb hK.1 hP 1 0 rfl rfl q2 dX3_classesAhead_32 ?_
      refine lv_aload_n hx hb dX3_classesAhead_33 rfl (lv_at hl 0 rfl) ?_
      refine va_get (D := D) (ci := 3) (v := .ref (ke 1)) (C := RX3) (T := TX3) (N := 8) hx hb hts hi3 hown hK.1 hP 0 rfl rfl 1 (by decide) fl9 (fun _ h9 => h9) rfl dX3_classesAhead_34 ?_
      refine lv_iload_n hx hb dX3_classesAhead_37 rfl (lv_at hl 1 rfl) ?_
      refine va_iald hx hb hK.1 hP 1 0 rfl rfl q3 dX3_classesAhead_38 ?_
      refine lv_icmp_ne (tgt := 50) hx hb dX3_classesAhead_39 (by decide) (fun k5 => ?_) (fun k5 => ?_)
      · replace h := z_neg k5 h
        refine lv_iinc (v := (x3 + 1)) (lv' := [(3, .int (x3 + 1)), (0, .ref (ke 0)), (1, .int x1), (2, .int x2)]) hx hb dX3_classesAhead_50 hl (k := 3) rfl rfl (by decide) rfl (fun ls hl => ?_)
        refine lv_goto (tgt := 4) hx hb dX3_classesAhead_53 (by decide) ?_
        exact ih x1 x2 (x3 + 1) _ (lv_sub hl [1, 2, 3, 0] rfl) h
      replace h := z_pos k5 h
      refine lv_iload_n hx hb dX3_classesAhead_42 rfl (lv_at hl 3 rfl) ?_
      refine lv_iload_n hx hb dX3_classesAhead_43 rfl (lv_at hl 1 rfl) ?_
      refine lv_icmp_ge (tgt := 50) hx hb dX3_classesAhead_44 (by decide) (fun k6 => ?_) (fun k6 => ?_)
      · replace h := z_pos k6 h
        refine lv_iinc (v := (x3 + 1)) (lv' := [(3, .int (x3 + 1)), (0, .ref (ke 0)), (1, .int x1), (2, .int x2)]) hx hb dX3_classesAhead_50 hl (k := 3) rfl rfl (by decide) rfl (fun ls hl => ?_)
        refine lv_goto (tgt := 4) hx hb dX3_classesAhead_53 (by decide) ?_
        exact ih x1 x2 (x3 + 1) _ (lv_sub hl [1, 2, 3, 0] rfl) h
      replace h := z_neg k6 h
      refine lv_iinc (v := (x2 + 1)) (lv' := [(2, .int (x2 + 1)), (0, .ref (ke 0)), (1, .int x1), (3, .int x3)]) hx hb dX3_classesAhead_47 hl (k := 2) rfl rfl (by decide) rfl (fun ls hl => ?_)
      refine lv_iinc (v := (x3 + 1)) (lv' := [(3, .int (x3 + 1)), (2, .int (x2 + 1)), (0, .ref (ke 0)), (1, .int x1)]) hx hb dX3_classesAhead_50 hl (k := 3) rfl rfl (by decide) rfl (fun ls hl => ?_)
      refine lv_goto (tgt := 4) hx hb dX3_classesAhead_53 (by decide) ?_
      exact ih x1 (x2 + 1) (x3 + 1) _ (lv_sub hl [2, 3, 1, 0] rfl) h
  have hl := lv_entry ([.ref (ke 0), .int x1]) (n := 4) (Nat.le_of_ble_eq_true rfl)
  refine W.eq (g2 := F0 m 0 ((lg_sl ([.ref (ke 0), .int x1]) ++ List.replicate (4 - (lg_sl ([.ref (ke 0), .int x1])).length) Slot.unset).toArray) []) (by rw [ha]; exact lg_entry_eq _ _ _) ?_
  generalize (lg_sl ([.ref (ke 0), .int x1]) ++ List.replicate (4 - (lg_sl ([.ref (ke 0), .int x1])).length) Slot.unset).toArray = ls at hl ⊢
  have hl : lv_has ls 4 [(0, .ref (ke 0)), (1, .int x1)] := hl
  rw [f_X3_classesAhead] at h
  refine lv_iconst (v := 0) hx hb dX3_classesAhead_0 (by decide) ?_
  refine lv_istore_n (lv' := [(2, .int 0), (0, .ref (ke 0)), (1, .int x1)]) hx hb dX3_classesAhead_1 rfl hl (by decide) rfl (fun ls hl => ?_)
  refine lv_iconst (v := 0) hx hb dX3_classesAhead_2 (by decide) ?_
  refine lv_istore_n (lv' := [(3, .int 0), (2, .int 0), (0, .ref (ke 0)), (1, .int x1)]) hx hb dX3_classesAhead_3 rfl hl (by decide) rfl (fun ls hl => ?_)
  exact b4 1000 x1 0 0 _ (lv_sub hl [2, 3, 1, 0] rfl) h
set_option maxHeartbeats 4000000 in
set_option maxRecDepth 100000 in
theorem c_X3_classAt (l : Launch) (D : va_G) (tt : Nat → ClassId) (ke : Nat → Nat) (be : zV) (x1 : Int32) (out : Int32) (h : f_X3_classAt be x1 = some out) : Met l yX3_classAt wsX3_classAt { frames := 1, cells := 0, slots := 0, locals := 23 } (zPr [.ref (ke 0), .int x1] D tt (zw_ex tt ke be)) (zQr .int out) 0 0 (fun _ => False) := by
  refine Met.ofW (cc := cX3_classAt) (maxL := 3) (ret := (some .int)) (by decide) rfl ?_
  intro p e s m args below meth c s₁ B hml hv
  obtain ⟨ha, hP, hK⟩ := hv
  have hx := B.exec
  have hb := B.bytes
  have hr := B.returns
  have hts := atoms_spec (ws := wsX3_classAt) B.pre
  have hown : s.vm.findClass RX3 = some m.cls := findClass_of_methodNamed B.named
  have hlocks := B.notSynchronized
  have hi3 : ∀ w ∈ u_ws RX3 TX3 8, w ∈ wsX3_classAt := fun _ h => List.mem_cons_of_mem _ (List.mem_append_right _ h)
  have fl38 := hts (.fieldLink RX3 38 "CapStacks$Exit" "size" "I") (by decide +kernel)
  have hfin : ∀ (v : Int32) (pc : Nat) (ls : Array Slot), some v = some out → narrow .int (.int v) = .int v → decode cX3_classAt pc = .ok (.ireturn, 1) → W p l e (headSpec wsX3_classAt { frames := 1, cells := 0, slots := 0, locals := 23 }).room s m args below meth c s.heap [] 0 0 (MQ below (zQr .int out) args s 0 0 (fun _ => False)) (F0 m pc ls [.int v]) := by
    intro v pc ls he hn hd
    cases he
    exact W.zret hx hb hr hn (fun t ht hW => ⟨rfl, hn, ht⟩) (fun _ h => by cases h) hd
  generalize MQ below (zQr .int out) args s 0 0 (fun _ => False) = Q at hfin ⊢
  have b2 : ∀ n : Nat, ∀ (x1 : Int32) (x2 : Int32) (ls : Array Slot), lv_has ls 3 [(0, .ref (ke 0)), (1, .int x1), (2, .int x2)] → f_X3_classAt_b2 be n x1 x2 = some out → W p l e (headSpec wsX3_classAt { frames := 1, cells := 0, slots := 0, locals := 23 }).room s m args below meth c s.heap [] 0 0 Q (F0 m 2 ls []) := by
    intro n
    induction n with
    | zero =>
      intro x1 x2 ls hl h
      cases h
    | succ n ih =>
      intro x1 x2 ls hl h
      rw [f_X3_classAt_b2] at h
      refine lv_iload_n hx hb dX3_classAt_2 rfl (lv_at hl 2 rfl) ?_
      refine lv_aload_n hx hb dX3_classAt_3 rfl (lv_at hl 0 rfl) ?_
      refine va_get (D := D) (ci := 3) (v := .int (be 0 1)) (C := RX3) (T := TX3) (N := 8) hx hb hts hi3 hown hK.1 hP 0 rfl rfl 2 (by decide) fl38 (fun _ h9 => h9) rfl dX3_classAt_4 ?_
      refine lv_icmp_ge (tgt := 27) hx hb dX3_classAt_7 (by decide) (fun k1 => ?_) (fun k1 => ?_)
      · replace h := z_pos k1 h
        refine lv_bipush (v := (-4)) hx hb dX3_classAt_27 (by decide) ?_
        exact hfin _ _ _ h rfl dX3_classAt_29
      replace h := z_neg k1 h
      refine lv_aload_n hx hb dX3_classAt_10 rfl (lv_at hl 0 rfl) ?_
      refine lv_iload_n hx hb dX3_classAt_11 rfl (lv_at hl 2 rfl) ?_
      obtain ⟨y2, gy2, h⟩ := zb_some h
      refine z_callr (va_runV (As := [.int x2]) (rest := []) ⟨hx, hb, hml, hown, hts⟩ (c_X3_classesAhead l D tt ke be x2 y2 gy2) (cwV 1 hts gX3_classAt_X3_classesAhead rfl rfl rfl (by decide +kernel) ⟨Nat.le_of_ble_eq_true rfl, Nat.le_of_ble_eq_true rfl⟩) (z_preVr hK hP (ci := 3) (q0 := 0) rfl rfl) rfl rfl hl.1 rfl (lv_room (Nat.le_of_ble_eq_true rfl)) dX3_classAt_12 ⟨Nat.zero_le _, Nat.zero_le _⟩) (fun ny2 => ?_)
      refine lv_iload_n hx hb dX3_classAt_15 rfl (lv_at hl 1 rfl) ?_
      refine lv_icmp_ne (tgt := 21) hx hb dX3_classAt_16 (by decide) (fun k3 => ?_) (fun k3 => ?_)
      rotate_left
      · replace h := z_pos k3 h
        refine lv_iload_n hx hb dX3_classAt_19 rfl (lv_at hl 2 rfl) ?_
        exact hfin _ _ _ h rfl dX3_classAt_20
      replace h := z_neg k3 h
      refine lv_iinc (v := (x2 + 1)) (lv' := [(2, .int (x2 + 1)), (0, .ref (ke 0)), (1, .int x1)]) hx hb dX3_classAt_21 hl (k := 2) rfl rfl (by decide) rfl (fun ls hl => ?_)
      refine lv_goto (tgt := 2) hx hb dX3_classAt_24 (by decide) ?_
      exact ih x1 (x2 + 1) _ (lv_sub hl [1, 2, 0] rfl) h
  have hl := lv_entry ([.ref (ke 0), .int x1]) (n := 3) (Nat.le_of_ble_eq_true rfl)
  refine W.eq (g2 := F0 m 0 ((lg_sl ([.ref (ke 0), .int x1]) ++ List.replicate (3 - (lg_sl ([.ref (ke 0), .int x1])).length) Slot.unset).toArray) []) (by rw [ha]; exact lg_entry_eq _ _ _) ?_
  generalize (lg_sl ([.ref (ke 0), .int x1]) ++ List.replicate (3 - (lg_sl ([.ref (ke 0), .int x1])).length) Slot.unset).toArray = ls at hl ⊢
  have hl : lv_has ls 3 [(0, .ref (ke 0)), (1, .int x1)] := hl
  rw [f_X3_classAt] at h
  refine lv_iconst (v := 0) hx hb dX3_classAt_0 (by decide) ?_
  refine lv_istore_n (lv' := [(2, .int 0), (0, .ref (ke 0)), (1, .int x1)]) hx hb dX3_classAt_1 rfl hl (by decide) rfl (fun ls hl => ?_)
  exact b2 1000 x1 0 _ (lv_sub hl [1, 2, 0] rfl) h
