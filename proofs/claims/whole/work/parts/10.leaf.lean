/-! ===== contracts: 10.leaf ===== -/
set_option maxHeartbeats 4000000 in
set_option maxRecDepth 100000 in
theorem c_X9_copyRow (l : Launch) (D : va_G) (tt : Nat → ClassId) (a b : Nat) (sz : Nat) (n : Nat) (hn0 : n < 1000) (f g : Nat → Int32) : Met l yX9_copyRow wsX9_copyRow { frames := 1, cells := 0, slots := 0, locals := 40 } (zPm [.ref a, .ref b] D tt [(a, .inl (tt 0, n, .inl f)), (b, .inl (tt 0, n, .inl g))] sz) (zMv D [(a, .inl (tt 0, n, .inl f)), (b, .inl (tt 0, n, .inl (va_cpy f g 0 0 n)))] (va_A [(a, .inl (tt 0, n, .inl f)), (b, .inl (tt 0, n, .inl g))] sz)) 0 0 (va_A [(a, .inl (tt 0, n, .inl f)), (b, .inl (tt 0, n, .inl g))] sz) := by
  refine Met.ofW (cc := cX9_copyRow) (maxL := 2) (ret := none) (by decide) rfl ?_
  intro p e s m args below meth c s₁ B hml hv
  obtain ⟨ha, hsz, hP, hK, hD0⟩ := hv
  have hx := B.exec
  have hb := B.bytes
  have hr := B.returns
  have hts := atoms_spec (ws := wsX9_copyRow) B.pre
  have hown : s.vm.findClass RX9 = some m.cls := findClass_of_methodNamed B.named
  have hlocks := B.notSynchronized
  have mm1 := hts (.methodLink RX9 184 Lib.Math.min.name) (by decide +kernel)
  have mm2 := hts (.static Lib.Math.min.name) (by decide +kernel)
  have mm3 := hts (.initialized "java/lang/Math") (by decide +kernel)
  have mm4 := hts (.code Lib.Math.min.name Lib.Math.min.code 2 (some .int)) (by decide +kernel)
  have ac1 := hts (.methodLink RX9 189 arraycopyName) (by decide +kernel)
  have ac2 := hts (.native arraycopyName) (by decide +kernel)
  have ac3 := hts (.static arraycopyName) (by decide +kernel)
  have ac4 := hts (.initialized "java/lang/System") (by decide +kernel)
  subst hsz
  have hD := hD0.self (sz := s.heap.size)
  generalize hAe : va_A [(a, .inl (tt 0, n, .inl f)), (b, .inl (tt 0, n, .inl g))] s.heap.size = A at hD ⊢
  have hA : ∀ q : Nat, s.heap.size ≤ q → A q := fun q h => by rw [← hAe]; exact Or.inr h
  have hS : va_S A s.heap s.heap [] := va_S.rf
  have hl := lv_entry ([.ref a, .ref b]) (n := 2) (Nat.le_of_ble_eq_true rfl)
  subst ha
  rw [lg_entry_eq]
  generalize (lg_sl ([.ref a, .ref b]) ++ List.replicate (2 - (lg_sl ([.ref a, .ref b])).length) Slot.unset).toArray = ls at hl ⊢
  have hl : lv_has ls 2 [(0, .ref a), (1, .ref b)] := hl
  have z0 : (0 : Int32).toNatClampNeg = 0 := by decide
  have zn : (nI n).toNatClampNeg = n := nI_clamp (by omega)
  refine lv_aload_n hx hb dX9_copyRow_0 rfl (lv_at hl 0 rfl) ?_
  refine lv_iconst (v := 0) hx hb dX9_copyRow_1 (by decide) ?_
  refine lv_aload_n hx hb dX9_copyRow_2 rfl (lv_at hl 1 rfl) ?_
  refine lv_iconst (v := 0) hx hb dX9_copyRow_3 (by decide) ?_
  refine lv_aload_n hx hb dX9_copyRow_4 rfl (lv_at hl 0 rfl) ?_
  refine va_alen (v := nI n) hx hb hK.1 hP 0 0 rfl rfl rfl dX9_copyRow_5 ?_
  refine lv_aload_n hx hb dX9_copyRow_6 rfl (lv_at hl 1 rfl) ?_
  refine va_alen (v := nI n) hx hb hK.1 hP 1 0 rfl rfl rfl dX9_copyRow_7 ?_
  refine va_mmin hx hb (hml.trans hl.1.symm) hown mm1 mm2 mm3 mm4 (Nat.le_of_ble_eq_true rfl) (Nat.le_of_ble_eq_true rfl) (Nat.zero_le _) (Nat.zero_le _) dX9_copyRow_8 ?_
  rw [ite_self]
  refine va_copyi hx hb (hml.trans hl.1.symm) hown ac1 ac2 ac3 ac4 hK.1 hP hD hS 0 1 0 0 rfl rfl rfl rfl rfl (by decide) (by decide) (nI_pos (by omega)) (by rw [z0, zn]; omega) (by rw [z0, zn]; omega) (fun _ _ => rfl) (Nat.le_of_ble_eq_true rfl) (Nat.le_of_ble_eq_true rfl) dX9_copyRow_11 (fun H locs hP hD hS => ?_)
  rw [z0, zn] at hP hD
  have hP : va_P D vwCl [(a, .inl (tt 0, n, .inl f)), (b, .inl (tt 0, n, .inl (va_cpy f g 0 0 n)))] H := hP
  have hD : va_D A [(a, .inl (tt 0, n, .inl f)), (b, .inl (tt 0, n, .inl (va_cpy f g 0 0 n)))] := hD
  exact W.vret hx hb hr (fun t ht hW => ⟨⟨(), rfl, trivial, by rw [ht]; exact hP, hD⟩, hS.F ht⟩) hS.2.2 dX9_copyRow_14
set_option maxHeartbeats 4000000 in
set_option maxRecDepth 100000 in
theorem c_X9_within (l : Launch) (D : va_G) (tt : Nat → ClassId)  (x0 : Int32) (x1 : Int32) (x2 : Int32) (out : Int32) (h : f_X9_within x0 x1 x2 = some out) : Met l yX9_within wsX9_within { frames := 0, cells := 0, slots := 0, locals := 0 } (zPr [.int x0, .int x1, .int x2] D tt ([] : va_W)) (zQr .boolean out) 0 0 (fun _ => False) := by
  refine Met.ofW (cc := cX9_within) (maxL := 3) (ret := (some .boolean)) (by decide) rfl ?_
  intro p e s m args below meth c s₁ B hml hv
  obtain ⟨ha, hP, hK⟩ := hv
  have hx := B.exec
  have hb := B.bytes
  have hr := B.returns
  have hts := atoms_spec (ws := wsX9_within) B.pre
  have hown : s.vm.findClass RX9 = some m.cls := findClass_of_methodNamed B.named
  have hlocks := B.notSynchronized
  have hfin : ∀ (v : Int32) (pc : Nat) (ls : Array Slot), some v = some out → narrow .boolean (.int v) = .int v → decode cX9_within pc = .ok (.ireturn, 1) → W p l e (headSpec wsX9_within { frames := 0, cells := 0, slots := 0, locals := 0 }).room s m args below meth c s.heap [] 0 0 (MQ below (zQr .boolean out) args s 0 0 (fun _ => False)) (F0 m pc ls [.int v]) := by
    intro v pc ls he hn hd
    cases he
    exact W.zret hx hb hr hn (fun t ht hW => ⟨rfl, hn, ht⟩) (fun _ h => by cases h) hd
  generalize MQ below (zQr .boolean out) args s 0 0 (fun _ => False) = Q at hfin ⊢
  have hl := lv_entry ([.int x0, .int x1, .int x2]) (n := 3) (Nat.le_of_ble_eq_true rfl)
  refine W.eq (g2 := F0 m 0 ((lg_sl ([.int x0, .int x1, .int x2]) ++ List.replicate (3 - (lg_sl ([.int x0, .int x1, .int x2])).length) Slot.unset).toArray) []) (by rw [ha]; exact lg_entry_eq _ _ _) ?_
  generalize (lg_sl ([.int x0, .int x1, .int x2]) ++ List.replicate (3 - (lg_sl ([.int x0, .int x1, .int x2])).length) Slot.unset).toArray = ls at hl ⊢
  have hl : lv_has ls 3 [(0, .int x0), (1, .int x1), (2, .int x2)] := hl
  rw [f_X9_within] at h
  refine lv_iload_n hx hb dX9_within_0 rfl (lv_at hl 0 rfl) ?_
  refine lv_iload_n hx hb dX9_within_1 rfl (lv_at hl 1 rfl) ?_
  refine lv_icmp_lt (tgt := 14) hx hb dX9_within_2 (by decide) (fun k1 => ?_) (fun k1 => ?_)
  · replace h := z_pos k1 h
    refine lv_iconst (v := 0) hx hb dX9_within_14 (by decide) ?_
    exact hfin _ _ _ h rfl dX9_within_15
  replace h := z_neg k1 h
  refine lv_iload_n hx hb dX9_within_5 rfl (lv_at hl 0 rfl) ?_
  refine lv_iload_n hx hb dX9_within_6 rfl (lv_at hl 2 rfl) ?_
  refine lv_icmp_gt (tgt := 14) hx hb dX9_within_7 (by decide) (fun k2 => ?_) (fun k2 => ?_)
  · replace h := z_pos k2 h
    refine lv_iconst (v := 0) hx hb dX9_within_14 (by decide) ?_
    exact hfin _ _ _ h rfl dX9_within_15
  replace h := z_neg k2 h
  refine lv_iconst (v := 1) hx hb dX9_within_10 (by decide) ?_
  refine lv_goto (tgt := 15) hx hb dX9_within_11 (by decide) ?_
  exact hfin _ _ _ h rfl dX9_within_15
set_option maxHeartbeats 4000000 in
set_option maxRecDepth 100000 in
theorem c_X9_portion (l : Launch) (D : va_G) (tt : Nat → ClassId)  (x0 : Int32) (x1 : Int32) (x2 : Int32) (out : Int32) (h : f_X9_portion x0 x1 x2 = some out) : Met l yX9_portion wsX9_portion { frames := 0, cells := 0, slots := 0, locals := 0 } (zPr [.int x0, .int x1, .int x2] D tt ([] : va_W)) (zQr .int out) 0 0 (fun _ => False) := by
  refine Met.ofW (cc := cX9_portion) (maxL := 3) (ret := (some .int)) (by decide) rfl ?_
  intro p e s m args below meth c s₁ B hml hv
  obtain ⟨ha, hP, hK⟩ := hv
  have hx := B.exec
  have hb := B.bytes
  have hr := B.returns
  have hts := atoms_spec (ws := wsX9_portion) B.pre
  have hown : s.vm.findClass RX9 = some m.cls := findClass_of_methodNamed B.named
  have hlocks := B.notSynchronized
  have hfin : ∀ (v : Int32) (pc : Nat) (ls : Array Slot), some v = some out → narrow .int (.int v) = .int v → decode cX9_portion pc = .ok (.ireturn, 1) → W p l e (headSpec wsX9_portion { frames := 0, cells := 0, slots := 0, locals := 0 }).room s m args below meth c s.heap [] 0 0 (MQ below (zQr .int out) args s 0 0 (fun _ => False)) (F0 m pc ls [.int v]) := by
    intro v pc ls he hn hd
    cases he
    exact W.zret hx hb hr hn (fun t ht hW => ⟨rfl, hn, ht⟩) (fun _ h => by cases h) hd
  generalize MQ below (zQr .int out) args s 0 0 (fun _ => False) = Q at hfin ⊢
  have hl := lv_entry ([.int x0, .int x1, .int x2]) (n := 3) (Nat.le_of_ble_eq_true rfl)
  refine W.eq (g2 := F0 m 0 ((lg_sl ([.int x0, .int x1, .int x2]) ++ List.replicate (3 - (lg_sl ([.int x0, .int x1, .int x2])).length) Slot.unset).toArray) []) (by rw [ha]; exact lg_entry_eq _ _ _) ?_
  generalize (lg_sl ([.int x0, .int x1, .int x2]) ++ List.replicate (3 - (lg_sl ([.int x0, .int x1, .int x2])).length) Slot.unset).toArray = ls at hl ⊢
  have hl : lv_has ls 3 [(0, .int x0), (1, .int x1), (2, .int x2)] := hl
  rw [f_X9_portion] at h
  refine lv_iload_n hx hb dX9_portion_0 rfl (lv_at hl 2 rfl) ?_
  refine lv_if_gt (tgt := 6) hx hb dX9_portion_1 (by decide) (fun k1 => ?_) (fun k1 => ?_)
  rotate_left
  · replace h := z_neg k1 h
    refine lv_iconst (v := 0) hx hb dX9_portion_4 (by decide) ?_
    exact hfin _ _ _ h rfl dX9_portion_5
  replace h := z_pos k1 h
  refine lv_iload_n hx hb dX9_portion_6 rfl (lv_at hl 0 rfl) ?_
  refine lv_i2l hx hb dX9_portion_7 rfl ?_
  refine lv_iload_n hx hb dX9_portion_8 rfl (lv_at hl 1 rfl) ?_
  refine lv_i2l hx hb dX9_portion_9 rfl ?_
  refine lv_lmul hx hb dX9_portion_10 ?_
  refine lv_iload_n hx hb dX9_portion_11 rfl (lv_at hl 2 rfl) ?_
  refine lv_i2l hx hb dX9_portion_12 rfl ?_
  obtain ⟨q2, h⟩ := zDl_some h
  refine lv_ldiv hx hb dX9_portion_13 q2 ?_
  refine lv_l2i hx hb dX9_portion_14 rfl ?_
  exact hfin _ _ _ h rfl dX9_portion_15
set_option maxHeartbeats 4000000 in
set_option maxRecDepth 100000 in
theorem c_X9_contains (l : Launch) (D : va_G) (tt : Nat → ClassId)  (x0 : Int32) (x1 : Int32) (out : Int32) (h : f_X9_contains x0 x1 = some out) : Met l yX9_contains wsX9_contains { frames := 0, cells := 0, slots := 0, locals := 0 } (zPr [.int x0, .int x1] D tt ([] : va_W)) (zQr .boolean out) 0 0 (fun _ => False) := by
  refine Met.ofW (cc := cX9_contains) (maxL := 2) (ret := (some .boolean)) (by decide) rfl ?_
  intro p e s m args below meth c s₁ B hml hv
  obtain ⟨ha, hP, hK⟩ := hv
  have hx := B.exec
  have hb := B.bytes
  have hr := B.returns
  have hts := atoms_spec (ws := wsX9_contains) B.pre
  have hown : s.vm.findClass RX9 = some m.cls := findClass_of_methodNamed B.named
  have hlocks := B.notSynchronized
  have hfin : ∀ (v : Int32) (pc : Nat) (ls : Array Slot), some v = some out → narrow .boolean (.int v) = .int v → decode cX9_contains pc = .ok (.ireturn, 1) → W p l e (headSpec wsX9_contains { frames := 0, cells := 0, slots := 0, locals := 0 }).room s m args below meth c s.heap [] 0 0 (MQ below (zQr .boolean out) args s 0 0 (fun _ => False)) (F0 m pc ls [.int v]) := by
    intro v pc ls he hn hd
    cases he
    exact W.zret hx hb hr hn (fun t ht hW => ⟨rfl, hn, ht⟩) (fun _ h => by cases h) hd
  generalize MQ below (zQr .boolean out) args s 0 0 (fun _ => False) = Q at hfin ⊢
  have hl := lv_entry ([.int x0, .int x1]) (n := 2) (Nat.le_of_ble_eq_true rfl)
  refine W.eq (g2 := F0 m 0 ((lg_sl ([.int x0, .int x1]) ++ List.replicate (2 - (lg_sl ([.int x0, .int x1])).length) Slot.unset).toArray) []) (by rw [ha]; exact lg_entry_eq _ _ _) ?_
  generalize (lg_sl ([.int x0, .int x1]) ++ List.replicate (2 - (lg_sl ([.int x0, .int x1])).length) Slot.unset).toArray = ls at hl ⊢
  have hl : lv_has ls 2 [(0, .int x0), (1, .int x1)] := hl
  rw [f_X9_contains] at h
  refine lv_iload_n hx hb dX9_contains_0 rfl (lv_at hl 0 rfl) ?_
  refine lv_iload_n hx hb dX9_contains_1 rfl (lv_at hl 1 rfl) ?_
  refine lv_ishr hx hb dX9_contains_2 ?_
  refine lv_iconst (v := 1) hx hb dX9_contains_3 (by decide) ?_
  refine lv_iand hx hb dX9_contains_4 ?_
  refine lv_iconst (v := 1) hx hb dX9_contains_5 (by decide) ?_
  refine lv_icmp_ne (tgt := 13) hx hb dX9_contains_6 (by decide) (fun k1 => ?_) (fun k1 => ?_)
  · replace h := z_neg k1 h
    refine lv_iconst (v := 0) hx hb dX9_contains_13 (by decide) ?_
    exact hfin _ _ _ h rfl dX9_contains_14
  replace h := z_pos k1 h
  refine lv_iconst (v := 1) hx hb dX9_contains_9 (by decide) ?_
  refine lv_goto (tgt := 14) hx hb dX9_contains_10 (by decide) ?_
  exact hfin _ _ _ h rfl dX9_contains_14
set_option maxHeartbeats 4000000 in
set_option maxRecDepth 100000 in
theorem c_X1_copyFrom (l : Launch) (D : va_G) (tt : Nat → ClassId) (kv : Nat → Nat) (kd : Nat → Nat) (sz : Nat) (bv : zV) (bd : zV)  (out : zV) (h : f_X1_copyFrom bv bd = some out) : Met l yX1_copyFrom wsX1_copyFrom { frames := 2, cells := 0, slots := 0, locals := 61 } (zPm [.ref (kv 1), .ref (kd 1)] D tt (zw_cl tt kv bv ++ zw_cl tt kd bd) sz) (zMv D (zw_cl tt kv out ++ zw_cl tt kd bd) (va_A (zw_cl tt kv bv ++ zw_cl tt kd bd) sz)) 0 0 (va_A (zw_cl tt kv bv ++ zw_cl tt kd bd) sz) := by
  refine Met.ofW (cc := cX1_copyFrom) (maxL := 2) (ret := none) (by decide) rfl ?_
  intro p e s m args below meth c s₁ B hml hv
  obtain ⟨ha, hsz, hP, hK, hD0⟩ := hv
  have hx := B.exec
  have hb := B.bytes
  have hr := B.returns
  have hts := atoms_spec (ws := wsX1_copyFrom) B.pre
  have hown : s.vm.findClass RX1 = some m.cls := findClass_of_methodNamed B.named
  have hlocks := B.notSynchronized
  have hi1 : ∀ w ∈ u_ws RX1 TX1 6, w ∈ wsX1_copyFrom := fun _ h => List.mem_cons_of_mem _ (List.mem_append_right _ h)
  have fl15 := hts (.fieldLink RX1 15 "CapStacks$Classes" "price" "[I") (by decide +kernel)
  have fl19 := hts (.fieldLink RX1 19 "CapStacks$Classes" "multiple" "[I") (by decide +kernel)
  have fl22 := hts (.fieldLink RX1 22 "CapStacks$Classes" "rank" "[I") (by decide +kernel)
  have fl25 := hts (.fieldLink RX1 25 "CapStacks$Classes" "kind" "[I") (by decide +kernel)
  have fl28 := hts (.fieldLink RX1 28 "CapStacks$Classes" "ratio" "[I") (by decide +kernel)
  have fl9 := hts (.fieldLink RX1 9 "CapStacks$Classes" "size" "I") (by decide +kernel)
  have iniX9 := hts (.initialized RX9) (by decide +kernel)
  have st_X9_copyRow := hts (.static yX9_copyRow) (by decide +kernel)
  have nw31 : va_Nw (.methodLinkNest RX1 31 yX9_copyRow "CapStacks") s := hK.2.1 (RX1, 31, yX9_copyRow, "CapStacks") (List.mem_of_getElem? (i := 8) rfl)
  subst hsz
  have hD := hD0.self (sz := s.heap.size)
  generalize hAe : va_A (zw_cl tt kv bv ++ zw_cl tt kd bd) s.heap.size = A at hD ⊢
  have hA : ∀ q : Nat, s.heap.size ≤ q → A q := fun q h => by rw [← hAe]; exact Or.inr h
  have hS : va_S A s.heap s.heap [] := va_S.rf
  have hfin : ∀ (bv : zV) (pc : Nat) (ls : Array Slot) (H : Heap) (locs : List Loc), some bv = some out → va_P D vwCl (zw_cl tt kv bv ++ zw_cl tt kd bd) H → va_D A (zw_cl tt kv bv ++ zw_cl tt kd bd) → va_S A s.heap H locs → decode cX1_copyFrom pc = .ok (.return_, 1) → W p l e (headSpec wsX1_copyFrom { frames := 2, cells := 0, slots := 0, locals := 61 }).room s m args below meth c H locs 0 0 (MQ below (zMv D (zw_cl tt kv out ++ zw_cl tt kd bd) A) args s 0 0 A) (F0 m pc ls []) := by
    intro bv pc ls H locs he hP hD hS hd
    cases he
    exact W.vret hx hb hr (fun t ht hW => ⟨⟨(), rfl, trivial, by rw [ht]; exact hP, hD⟩, hS.F ht⟩) hS.2.2 hd
  generalize MQ below (zMv D (zw_cl tt kv out ++ zw_cl tt kd bd) A) args s 0 0 A = Q at hfin ⊢
  have hl := lv_entry ([.ref (kv 1), .ref (kd 1)]) (n := 2) (Nat.le_of_ble_eq_true rfl)
  refine W.eq (g2 := F0 m 0 ((lg_sl ([.ref (kv 1), .ref (kd 1)]) ++ List.replicate (2 - (lg_sl ([.ref (kv 1), .ref (kd 1)])).length) Slot.unset).toArray) []) (by rw [ha]; exact lg_entry_eq _ _ _) ?_
  generalize (lg_sl ([.ref (kv 1), .ref (kd 1)]) ++ List.replicate (2 - (lg_sl ([.ref (kv 1), .ref (kd 1)])).length) Slot.unset).toArray = ls at hl ⊢
  have hl : lv_has ls 2 [(0, .ref (kv 1)), (1, .ref (kd 1))] := hl
  rw [f_X1_copyFrom] at h
  refine lv_aload_n hx hb dX1_copyFrom_0 rfl (lv_at hl 0 rfl) ?_
  refine lv_aload_n hx hb dX1_copyFrom_1 rfl (lv_at hl 1 rfl) ?_
  refine va_get (D := D) (ci := 1) (v := .int (bd 0 0)) (C := RX1) (T := TX1) (N := 6) hx hb hts hi1 hown hK.1 hP 6 rfl rfl 0 (by decide) fl9 (fun _ h9 => h9) rfl dX1_copyFrom_2 ?_
  refine va_put (D := D) (ci := 1) (v := .int (bd 0 0)) (ty := .int) (C := RX1) (T := TX1) (N := 6) hx hb hts hi1 tyX1 tyX1_ok nmX1 hown hK.1 hP hD hS 0 rfl rfl 0 (by decide) fl9 (fun _ h9 => h9) rfl (by decide +kernel) rfl rfl (Nat.le_of_ble_eq_true rfl) dX1_copyFrom_5 (fun H locs hP hD hS => ?_)
  have hP : va_P D vwCl (zw_cl tt kv (zu bv 0 (zu (bv 0) 0 (bd 0 0))) ++ zw_cl tt kd bd) H := hP
  have hD : va_D A (zw_cl tt kv (zu bv 0 (zu (bv 0) 0 (bd 0 0))) ++ zw_cl tt kd bd) := hD
  refine lv_aload_n hx hb dX1_copyFrom_8 rfl (lv_at hl 1 rfl) ?_
  refine va_get (D := D) (ci := 1) (v := .ref (kd 5)) (C := RX1) (T := TX1) (N := 6) hx hb hts hi1 hown hK.1 hP 6 rfl rfl 1 (by decide) fl15 (fun _ h9 => h9) rfl dX1_copyFrom_9 ?_
  refine lv_aload_n hx hb dX1_copyFrom_12 rfl (lv_at hl 0 rfl) ?_
  refine va_get (D := D) (ci := 1) (v := .ref (kv 5)) (C := RX1) (T := TX1) (N := 6) hx hb hts hi1 hown hK.1 hP 0 rfl rfl 1 (by decide) fl15 (fun _ h9 => h9) rfl dX1_copyFrom_13 ?_
  have hPc := hP.sub (ws' := [(kd 5, .inl (tt 0, 5, .inl (bd 1))), (kv 5, .inl (tt 0, 5, .inl (bv 1)))]) [7, 1] rfl
  have hDc := hD.sub (ws' := [(kd 5, .inl (tt 0, 5, .inl (bd 1))), (kv 5, .inl (tt 0, 5, .inl (bv 1)))]) [7, 1] (by decide) rfl
  have hFc := va_free (wc := [(kd 5, .inl (tt 0, 5, .inl (bd 1))), (kv 5, .inl (tt 0, 5, .inl (bv 1)))]) hD hS hA [7, 1] rfl
  refine z_callmv (wc := [(kd 5, .inl (tt 0, 5, .inl (bd 1))), (kv 5, .inl (tt 0, 5, .inl (bv 1)))]) (w1 := [(kd 5, .inl (tt 0, 5, .inl (bd 1))), (kv 5, .inl (tt 0, 5, .inl (va_cpy (bd 1) (bv 1) 0 0 5)))]) (va_runSN (As := [.ref (kd 5), .ref (kv 5)]) (rest := []) ⟨hx, hb, hml, hown, hts⟩ (c_X9_copyRow l D tt (kd 5) (kv 5) _ 5 (by decide) (bd 1) (bv 1)) ⟨va_cnB (host := "CapStacks") 2 hts gX1_copyFrom_X9_copyRow_n31 rfl rfl rfl nw31 iniX9 (by decide +kernel) ⟨Nat.le_of_ble_eq_true rfl, Nat.le_of_ble_eq_true rfl⟩, st_X9_copyRow, trivial⟩ (z_preSm hK hPc hDc) rfl rfl hl.1 rfl (lv_room (Nat.le_of_ble_eq_true rfl)) dX1_copyFrom_16 ⟨Nat.zero_le _, Nat.zero_le _⟩) hS hFc (fun H locs hP1 hD1 hk1 hS => ?_)
  obtain ⟨hP, hD⟩ := z_join (w2 := (zw_cl tt kv (zu (zu bv 0 (zu (bv 0) 0 (bd 0 0))) 1 (va_cpy (bd 1) (bv 1) 0 0 5)) ++ zw_cl tt kd bd)) hP hD [7, 1] [0, 2, 3, 4, 5, 6, 8, 9, 10, 11] [0, 11, 1, 2, 3, 4, 5, 10, 6, 7, 8, 9] rfl rfl rfl (by decide) hk1 hFc hP1 hD1 rfl rfl
  refine lv_aload_n hx hb dX1_copyFrom_19 rfl (lv_at hl 1 rfl) ?_
  refine va_get (D := D) (ci := 1) (v := .ref (kd 6)) (C := RX1) (T := TX1) (N := 6) hx hb hts hi1 hown hK.1 hP 6 rfl rfl 2 (by decide) fl19 (fun _ h9 => h9) rfl dX1_copyFrom_20 ?_
  refine lv_aload_n hx hb dX1_copyFrom_23 rfl (lv_at hl 0 rfl) ?_
  refine va_get (D := D) (ci := 1) (v := .ref (kv 6)) (C := RX1) (T := TX1) (N := 6) hx hb hts hi1 hown hK.1 hP 0 rfl rfl 2 (by decide) fl19 (fun _ h9 => h9) rfl dX1_copyFrom_24 ?_
  have hPc := hP.sub (ws' := [(kd 6, .inl (tt 0, 5, .inl (bd 2))), (kv 6, .inl (tt 0, 5, .inl (bv 2)))]) [8, 2] rfl
  have hDc := hD.sub (ws' := [(kd 6, .inl (tt 0, 5, .inl (bd 2))), (kv 6, .inl (tt 0, 5, .inl (bv 2)))]) [8, 2] (by decide) rfl
  have hFc := va_free (wc := [(kd 6, .inl (tt 0, 5, .inl (bd 2))), (kv 6, .inl (tt 0, 5, .inl (bv 2)))]) hD hS hA [8, 2] rfl
  refine z_callmv (wc := [(kd 6, .inl (tt 0, 5, .inl (bd 2))), (kv 6, .inl (tt 0, 5, .inl (bv 2)))]) (w1 := [(kd 6, .inl (tt 0, 5, .inl (bd 2))), (kv 6, .inl (tt 0, 5, .inl (va_cpy (bd 2) (bv 2) 0 0 5)))]) (va_runSN (As := [.ref (kd 6), .ref (kv 6)]) (rest := []) ⟨hx, hb, hml, hown, hts⟩ (c_X9_copyRow l D tt (kd 6) (kv 6) _ 5 (by decide) (bd 2) (bv 2)) ⟨va_cnB (host := "CapStacks") 2 hts gX1_copyFrom_X9_copyRow_n31 rfl rfl rfl nw31 iniX9 (by decide +kernel) ⟨Nat.le_of_ble_eq_true rfl, Nat.le_of_ble_eq_true rfl⟩, st_X9_copyRow, trivial⟩ (z_preSm hK hPc hDc) rfl rfl hl.1 rfl (lv_room (Nat.le_of_ble_eq_true rfl)) dX1_copyFrom_27 ⟨Nat.zero_le _, Nat.zero_le _⟩) hS hFc (fun H locs hP1 hD1 hk1 hS => ?_)
  obtain ⟨hP, hD⟩ := z_join (w2 := (zw_cl tt kv (zu (zu (zu bv 0 (zu (bv 0) 0 (bd 0 0))) 1 (va_cpy (bd 1) (bv 1) 0 0 5)) 2 (va_cpy (bd 2) (bv 2) 0 0 5)) ++ zw_cl tt kd bd)) hP hD [8, 2] [0, 1, 3, 4, 5, 6, 7, 9, 10, 11] [0, 1, 11, 2, 3, 4, 5, 6, 10, 7, 8, 9] rfl rfl rfl (by decide) hk1 hFc hP1 hD1 rfl rfl
  refine lv_aload_n hx hb dX1_copyFrom_30 rfl (lv_at hl 1 rfl) ?_
  refine va_get (D := D) (ci := 1) (v := .ref (kd 7)) (C := RX1) (T := TX1) (N := 6) hx hb hts hi1 hown hK.1 hP 6 rfl rfl 3 (by decide) fl22 (fun _ h9 => h9) rfl dX1_copyFrom_31 ?_
  refine lv_aload_n hx hb dX1_copyFrom_34 rfl (lv_at hl 0 rfl) ?_
  refine va_get (D := D) (ci := 1) (v := .ref (kv 7)) (C := RX1) (T := TX1) (N := 6) hx hb hts hi1 hown hK.1 hP 0 rfl rfl 3 (by decide) fl22 (fun _ h9 => h9) rfl dX1_copyFrom_35 ?_
  have hPc := hP.sub (ws' := [(kd 7, .inl (tt 0, 5, .inl (bd 3))), (kv 7, .inl (tt 0, 5, .inl (bv 3)))]) [9, 3] rfl
  have hDc := hD.sub (ws' := [(kd 7, .inl (tt 0, 5, .inl (bd 3))), (kv 7, .inl (tt 0, 5, .inl (bv 3)))]) [9, 3] (by decide) rfl
  have hFc := va_free (wc := [(kd 7, .inl (tt 0, 5, .inl (bd 3))), (kv 7, .inl (tt 0, 5, .inl (bv 3)))]) hD hS hA [9, 3] rfl
  refine z_callmv (wc := [(kd 7, .inl (tt 0, 5, .inl (bd 3))), (kv 7, .inl (tt 0, 5, .inl (bv 3)))]) (w1 := [(kd 7, .inl (tt 0, 5, .inl (bd 3))), (kv 7, .inl (tt 0, 5, .inl (va_cpy (bd 3) (bv 3) 0 0 5)))]) (va_runSN (As := [.ref (kd 7), .ref (kv 7)]) (rest := []) ⟨hx, hb, hml, hown, hts⟩ (c_X9_copyRow l D tt (kd 7) (kv 7) _ 5 (by decide) (bd 3) (bv 3)) ⟨va_cnB (host := "CapStacks") 2 hts gX1_copyFrom_X9_copyRow_n31 rfl rfl rfl nw31 iniX9 (by decide +kernel) ⟨Nat.le_of_ble_eq_true rfl, Nat.le_of_ble_eq_true rfl⟩, st_X9_copyRow, trivial⟩ (z_preSm hK hPc hDc) rfl rfl hl.1 rfl (lv_room (Nat.le_of_ble_eq_true rfl)) dX1_copyFrom_38 ⟨Nat.zero_le _, Nat.zero_le _⟩) hS hFc (fun H locs hP1 hD1 hk1 hS => ?_)
  obtain ⟨hP, hD⟩ := z_join (w2 := (zw_cl tt kv (zu (zu (zu (zu bv 0 (zu (bv 0) 0 (bd 0 0))) 1 (va_cpy (bd 1) (bv 1) 0 0 5)) 2 (va_cpy (bd 2) (bv 2) 0 0 5)) 3 (va_cpy (bd 3) (bv 3) 0 0 5)) ++ zw_cl tt kd bd)) hP hD [9, 3] [0, 1, 2, 4, 5, 6, 7, 8, 10, 11] [0, 1, 2, 11, 3, 4, 5, 6, 7, 10, 8, 9] rfl rfl rfl (by decide) hk1 hFc hP1 hD1 rfl rfl
  refine lv_aload_n hx hb dX1_copyFrom_41 rfl (lv_at hl 1 rfl) ?_
  refine va_get (D := D) (ci := 1) (v := .ref (kd 8)) (C := RX1) (T := TX1) (N := 6) hx hb hts hi1 hown hK.1 hP 6 rfl rfl 4 (by decide) fl25 (fun _ h9 => h9) rfl dX1_copyFrom_42 ?_
  refine lv_aload_n hx hb dX1_copyFrom_45 rfl (lv_at hl 0 rfl) ?_
  refine va_get (D := D) (ci := 1) (v := .ref (kv 8)) (C := RX1) (T := TX1) (N := 6) hx hb hts hi1 hown hK.1 hP 0 rfl rfl 4 (by decide) fl25 (fun _ h9 => h9) rfl dX1_copyFrom_46 ?_
  have hPc := hP.sub (ws' := [(kd 8, .inl (tt 0, 5, .inl (bd 4))), (kv 8, .inl (tt 0, 5, .inl (bv 4)))]) [10, 4] rfl
  have hDc := hD.sub (ws' := [(kd 8, .inl (tt 0, 5, .inl (bd 4))), (kv 8, .inl (tt 0, 5, .inl (bv 4)))]) [10, 4] (by decide) rfl
  have hFc := va_free (wc := [(kd 8, .inl (tt 0, 5, .inl (bd 4))), (kv 8, .inl (tt 0, 5, .inl (bv 4)))]) hD hS hA [10, 4] rfl
  refine z_callmv (wc := [(kd 8, .inl (tt 0, 5, .inl (bd 4))), (kv 8, .inl (tt 0, 5, .inl (bv 4)))]) (w1 := [(kd 8, .inl (tt 0, 5, .inl (bd 4))), (kv 8, .inl (tt 0, 5, .inl (va_cpy (bd 4) (bv 4) 0 0 5)))]) (va_runSN (As := [.ref (kd 8), .ref (kv 8)]) (rest := []) ⟨hx, hb, hml, hown, hts⟩ (c_X9_copyRow l D tt (kd 8) (kv 8) _ 5 (by decide) (bd 4) (bv 4)) ⟨va_cnB (host := "CapStacks") 2 hts gX1_copyFrom_X9_copyRow_n31 rfl rfl rfl nw31 iniX9 (by decide +kernel) ⟨Nat.le_of_ble_eq_true rfl, Nat.le_of_ble_eq_true rfl⟩, st_X9_copyRow, trivial⟩ (z_preSm hK hPc hDc) rfl rfl hl.1 rfl (lv_room (Nat.le_of_ble_eq_true rfl)) dX1_copyFrom_49 ⟨Nat.zero_le _, Nat.zero_le _⟩) hS hFc (fun H locs hP1 hD1 hk1 hS => ?_)
  obtain ⟨hP, hD⟩ := z_join (w2 := (zw_cl tt kv (zu (zu (zu (zu (zu bv 0 (zu (bv 0) 0 (bd 0 0))) 1 (va_cpy (bd 1) (bv 1) 0 0 5)) 2 (va_cpy (bd 2) (bv 2) 0 0 5)) 3 (va_cpy (bd 3) (bv 3) 0 0 5)) 4 (va_cpy (bd 4) (bv 4) 0 0 5)) ++ zw_cl tt kd bd)) hP hD [10, 4] [0, 1, 2, 3, 5, 6, 7, 8, 9, 11] [0, 1, 2, 3, 11, 4, 5, 6, 7, 8, 10, 9] rfl rfl rfl (by decide) hk1 hFc hP1 hD1 rfl rfl
  refine lv_aload_n hx hb dX1_copyFrom_52 rfl (lv_at hl 1 rfl) ?_
  refine va_get (D := D) (ci := 1) (v := .ref (kd 9)) (C := RX1) (T := TX1) (N := 6) hx hb hts hi1 hown hK.1 hP 6 rfl rfl 5 (by decide) fl28 (fun _ h9 => h9) rfl dX1_copyFrom_53 ?_
  refine lv_aload_n hx hb dX1_copyFrom_56 rfl (lv_at hl 0 rfl) ?_
  refine va_get (D := D) (ci := 1) (v := .ref (kv 9)) (C := RX1) (T := TX1) (N := 6) hx hb hts hi1 hown hK.1 hP 0 rfl rfl 5 (by decide) fl28 (fun _ h9 => h9) rfl dX1_copyFrom_57 ?_
  have hPc := hP.sub (ws' := [(kd 9, .inl (tt 0, 5, .inl (bd 5))), (kv 9, .inl (tt 0, 5, .inl (bv 5)))]) [11, 5] rfl
  have hDc := hD.sub (ws' := [(kd 9, .inl (tt 0, 5, .inl (bd 5))), (kv 9, .inl (tt 0, 5, .inl (bv 5)))]) [11, 5] (by decide) rfl
  have hFc := va_free (wc := [(kd 9, .inl (tt 0, 5, .inl (bd 5))), (kv 9, .inl (tt 0, 5, .inl (bv 5)))]) hD hS hA [11, 5] rfl
  refine z_callmv (wc := [(kd 9, .inl (tt 0, 5, .inl (bd 5))), (kv 9, .inl (tt 0, 5, .inl (bv 5)))]) (w1 := [(kd 9, .inl (tt 0, 5, .inl (bd 5))), (kv 9, .inl (tt 0, 5, .inl (va_cpy (bd 5) (bv 5) 0 0 5)))]) (va_runSN (As := [.ref (kd 9), .ref (kv 9)]) (rest := []) ⟨hx, hb, hml, hown, hts⟩ (c_X9_copyRow l D tt (kd 9) (kv 9) _ 5 (by decide) (bd 5) (bv 5)) ⟨va_cnB (host := "CapStacks") 2 hts gX1_copyFrom_X9_copyRow_n31 rfl rfl rfl nw31 iniX9 (by decide +kernel) ⟨Nat.le_of_ble_eq_true rfl, Nat.le_of_ble_eq_true rfl⟩, st_X9_copyRow, trivial⟩ (z_preSm hK hPc hDc) rfl rfl hl.1 rfl (lv_room (Nat.le_of_ble_eq_true rfl)) dX1_copyFrom_60 ⟨Nat.zero_le _, Nat.zero_le _⟩) hS hFc (fun H locs hP1 hD1 hk1 hS => ?_)
  obtain ⟨hP, hD⟩ := z_join (w2 := (zw_cl tt kv (zu (zu (zu (zu (zu (zu bv 0 (zu (bv 0) 0 (bd 0 0))) 1 (va_cpy (bd 1) (bv 1) 0 0 5)) 2 (va_cpy (bd 2) (bv 2) 0 0 5)) 3 (va_cpy (bd 3) (bv 3) 0 0 5)) 4 (va_cpy (bd 4) (bv 4) 0 0 5)) 5 (va_cpy (bd 5) (bv 5) 0 0 5)) ++ zw_cl tt kd bd)) hP hD [11, 5] [0, 1, 2, 3, 4, 6, 7, 8, 9, 10] [0, 1, 2, 3, 4, 11, 5, 6, 7, 8, 9, 10] rfl rfl rfl (by decide) hk1 hFc hP1 hD1 rfl rfl
  exact hfin _ _ _ _ _ h hP hD hS dX1_copyFrom_63
set_option maxHeartbeats 4000000 in
set_option maxRecDepth 100000 in
theorem c_X0_copyFrom (l : Launch) (D : va_G) (tt : Nat → ClassId) (kv : Nat → Nat) (kd : Nat → Nat) (sz : Nat) (bv : zV) (bd : zV)  (out : zV) (h : f_X0_copyFrom bv bd = some out) : Met l yX0_copyFrom wsX0_copyFrom { frames := 2, cells := 0, slots := 0, locals := 61 } (zPm [.ref (kv 2), .ref (kd 2)] D tt (zw_ce tt kv bv ++ zw_ce tt kd bd) sz) (zMv D (zw_ce tt kv out ++ zw_ce tt kd bd) (va_A (zw_ce tt kv bv ++ zw_ce tt kd bd) sz)) 0 0 (va_A (zw_ce tt kv bv ++ zw_ce tt kd bd) sz) := by
  refine Met.ofW (cc := cX0_copyFrom) (maxL := 2) (ret := none) (by decide) rfl ?_
  intro p e s m args below meth c s₁ B hml hv
  obtain ⟨ha, hsz, hP, hK, hD0⟩ := hv
  have hx := B.exec
  have hb := B.bytes
  have hr := B.returns
  have hts := atoms_spec (ws := wsX0_copyFrom) B.pre
  have hown : s.vm.findClass RX0 = some m.cls := findClass_of_methodNamed B.named
  have hlocks := B.notSynchronized
  have hi0 : ∀ w ∈ u_ws RX0 TX0 4, w ∈ wsX0_copyFrom := fun _ h => List.mem_cons_of_mem _ (List.mem_append_right _ h)
  have fl15 := hts (.fieldLink RX0 15 "CapStacks$Certificates" "of" "[I") (by decide +kernel)
  have fl18 := hts (.fieldLink RX0 18 "CapStacks$Certificates" "shares" "[I") (by decide +kernel)
  have fl21 := hts (.fieldLink RX0 21 "CapStacks$Certificates" "made" "[I") (by decide +kernel)
  have fl9 := hts (.fieldLink RX0 9 "CapStacks$Certificates" "holder" "[I") (by decide +kernel)
  have iniX9 := hts (.initialized RX9) (by decide +kernel)
  have st_X9_copyRow := hts (.static yX9_copyRow) (by decide +kernel)
  have nw24 : va_Nw (.methodLinkNest RX0 24 yX9_copyRow "CapStacks") s := hK.2.1 (RX0, 24, yX9_copyRow, "CapStacks") (List.mem_of_getElem? (i := 9) rfl)
  subst hsz
  have hD := hD0.self (sz := s.heap.size)
  generalize hAe : va_A (zw_ce tt kv bv ++ zw_ce tt kd bd) s.heap.size = A at hD ⊢
  have hA : ∀ q : Nat, s.heap.size ≤ q → A q := fun q h => by rw [← hAe]; exact Or.inr h
  have hS : va_S A s.heap s.heap [] := va_S.rf
  have hfin : ∀ (bv : zV) (pc : Nat) (ls : Array Slot) (H : Heap) (locs : List Loc), some bv = some out → va_P D vwCl (zw_ce tt kv bv ++ zw_ce tt kd bd) H → va_D A (zw_ce tt kv bv ++ zw_ce tt kd bd) → va_S A s.heap H locs → decode cX0_copyFrom pc = .ok (.return_, 1) → W p l e (headSpec wsX0_copyFrom { frames := 2, cells := 0, slots := 0, locals := 61 }).room s m args below meth c H locs 0 0 (MQ below (zMv D (zw_ce tt kv out ++ zw_ce tt kd bd) A) args s 0 0 A) (F0 m pc ls []) := by
    intro bv pc ls H locs he hP hD hS hd
    cases he
    exact W.vret hx hb hr (fun t ht hW => ⟨⟨(), rfl, trivial, by rw [ht]; exact hP, hD⟩, hS.F ht⟩) hS.2.2 hd
  generalize MQ below (zMv D (zw_ce tt kv out ++ zw_ce tt kd bd) A) args s 0 0 A = Q at hfin ⊢
  have hl := lv_entry ([.ref (kv 2), .ref (kd 2)]) (n := 2) (Nat.le_of_ble_eq_true rfl)
  refine W.eq (g2 := F0 m 0 ((lg_sl ([.ref (kv 2), .ref (kd 2)]) ++ List.replicate (2 - (lg_sl ([.ref (kv 2), .ref (kd 2)])).length) Slot.unset).toArray) []) (by rw [ha]; exact lg_entry_eq _ _ _) ?_
  generalize (lg_sl ([.ref (kv 2), .ref (kd 2)]) ++ List.replicate (2 - (lg_sl ([.ref (kv 2), .ref (kd 2)])).length) Slot.unset).toArray = ls at hl ⊢
  have hl : lv_has ls 2 [(0, .ref (kv 2)), (1, .ref (kd 2))] := hl
  rw [f_X0_copyFrom] at h
  refine lv_aload_n hx hb dX0_copyFrom_0 rfl (lv_at hl 1 rfl) ?_
  refine va_get (D := D) (ci := 0) (v := .ref (kd 10)) (C := RX0) (T := TX0) (N := 4) hx hb hts hi0 hown hK.1 hP 5 rfl rfl 0 (by decide) fl9 (fun _ h9 => h9) rfl dX0_copyFrom_1 ?_
  refine lv_aload_n hx hb dX0_copyFrom_4 rfl (lv_at hl 0 rfl) ?_
  refine va_get (D := D) (ci := 0) (v := .ref (kv 10)) (C := RX0) (T := TX0) (N := 4) hx hb hts hi0 hown hK.1 hP 0 rfl rfl 0 (by decide) fl9 (fun _ h9 => h9) rfl dX0_copyFrom_5 ?_
  have hPc := hP.sub (ws' := [(kd 10, .inl (tt 0, 24, .inl (bd 6))), (kv 10, .inl (tt 0, 24, .inl (bv 6)))]) [6, 1] rfl
  have hDc := hD.sub (ws' := [(kd 10, .inl (tt 0, 24, .inl (bd 6))), (kv 10, .inl (tt 0, 24, .inl (bv 6)))]) [6, 1] (by decide) rfl
  have hFc := va_free (wc := [(kd 10, .inl (tt 0, 24, .inl (bd 6))), (kv 10, .inl (tt 0, 24, .inl (bv 6)))]) hD hS hA [6, 1] rfl
  refine z_callmv (wc := [(kd 10, .inl (tt 0, 24, .inl (bd 6))), (kv 10, .inl (tt 0, 24, .inl (bv 6)))]) (w1 := [(kd 10, .inl (tt 0, 24, .inl (bd 6))), (kv 10, .inl (tt 0, 24, .inl (va_cpy (bd 6) (bv 6) 0 0 24)))]) (va_runSN (As := [.ref (kd 10), .ref (kv 10)]) (rest := []) ⟨hx, hb, hml, hown, hts⟩ (c_X9_copyRow l D tt (kd 10) (kv 10) _ 24 (by decide) (bd 6) (bv 6)) ⟨va_cnB (host := "CapStacks") 2 hts gX0_copyFrom_X9_copyRow_n24 rfl rfl rfl nw24 iniX9 (by decide +kernel) ⟨Nat.le_of_ble_eq_true rfl, Nat.le_of_ble_eq_true rfl⟩, st_X9_copyRow, trivial⟩ (z_preSm hK hPc hDc) rfl rfl hl.1 rfl (lv_room (Nat.le_of_ble_eq_true rfl)) dX0_copyFrom_8 ⟨Nat.zero_le _, Nat.zero_le _⟩) hS hFc (fun H locs hP1 hD1 hk1 hS => ?_)
  obtain ⟨hP, hD⟩ := z_join (w2 := (zw_ce tt kv (zu bv 6 (va_cpy (bd 6) (bv 6) 0 0 24)) ++ zw_ce tt kd bd)) hP hD [6, 1] [0, 2, 3, 4, 5, 7, 8, 9] [0, 9, 1, 2, 3, 4, 8, 5, 6, 7] rfl rfl rfl (by decide) hk1 hFc hP1 hD1 rfl rfl
  refine lv_aload_n hx hb dX0_copyFrom_11 rfl (lv_at hl 1 rfl) ?_
  refine va_get (D := D) (ci := 0) (v := .ref (kd 11)) (C := RX0) (T := TX0) (N := 4) hx hb hts hi0 hown hK.1 hP 5 rfl rfl 1 (by decide) fl15 (fun _ h9 => h9) rfl dX0_copyFrom_12 ?_
  refine lv_aload_n hx hb dX0_copyFrom_15 rfl (lv_at hl 0 rfl) ?_
  refine va_get (D := D) (ci := 0) (v := .ref (kv 11)) (C := RX0) (T := TX0) (N := 4) hx hb hts hi0 hown hK.1 hP 0 rfl rfl 1 (by decide) fl15 (fun _ h9 => h9) rfl dX0_copyFrom_16 ?_
  have hPc := hP.sub (ws' := [(kd 11, .inl (tt 0, 24, .inl (bd 7))), (kv 11, .inl (tt 0, 24, .inl (bv 7)))]) [7, 2] rfl
  have hDc := hD.sub (ws' := [(kd 11, .inl (tt 0, 24, .inl (bd 7))), (kv 11, .inl (tt 0, 24, .inl (bv 7)))]) [7, 2] (by decide) rfl
  have hFc := va_free (wc := [(kd 11, .inl (tt 0, 24, .inl (bd 7))), (kv 11, .inl (tt 0, 24, .inl (bv 7)))]) hD hS hA [7, 2] rfl
  refine z_callmv (wc := [(kd 11, .inl (tt 0, 24, .inl (bd 7))), (kv 11, .inl (tt 0, 24, .inl (bv 7)))]) (w1 := [(kd 11, .inl (tt 0, 24, .inl (bd 7))), (kv 11, .inl (tt 0, 24, .inl (va_cpy (bd 7) (bv 7) 0 0 24)))]) (va_runSN (As := [.ref (kd 11), .ref (kv 11)]) (rest := []) ⟨hx, hb, hml, hown, hts⟩ (c_X9_copyRow l D tt (kd 11) (kv 11) _ 24 (by decide) (bd 7) (bv 7)) ⟨va_cnB (host := "CapStacks") 2 hts gX0_copyFrom_X9_copyRow_n24 rfl rfl rfl nw24 iniX9 (by decide +kernel) ⟨Nat.le_of_ble_eq_true rfl, Nat.le_of_ble_eq_true rfl⟩, st_X9_copyRow, trivial⟩ (z_preSm hK hPc hDc) rfl rfl hl.1 rfl (lv_room (Nat.le_of_ble_eq_true rfl)) dX0_copyFrom_19 ⟨Nat.zero_le _, Nat.zero_le _⟩) hS hFc (fun H locs hP1 hD1 hk1 hS => ?_)
  obtain ⟨hP, hD⟩ := z_join (w2 := (zw_ce tt kv (zu (zu bv 6 (va_cpy (bd 6) (bv 6) 0 0 24)) 7 (va_cpy (bd 7) (bv 7) 0 0 24)) ++ zw_ce tt kd bd)) hP hD [7, 2] [0, 1, 3, 4, 5, 6, 8, 9] [0, 1, 9, 2, 3, 4, 5, 8, 6, 7] rfl rfl rfl (by decide) hk1 hFc hP1 hD1 rfl rfl
  refine lv_aload_n hx hb dX0_copyFrom_22 rfl (lv_at hl 1 rfl) ?_
  refine va_get (D := D) (ci := 0) (v := .ref (kd 12)) (C := RX0) (T := TX0) (N := 4) hx hb hts hi0 hown hK.1 hP 5 rfl rfl 2 (by decide) fl18 (fun _ h9 => h9) rfl dX0_copyFrom_23 ?_
  refine lv_aload_n hx hb dX0_copyFrom_26 rfl (lv_at hl 0 rfl) ?_
  refine va_get (D := D) (ci := 0) (v := .ref (kv 12)) (C := RX0) (T := TX0) (N := 4) hx hb hts hi0 hown hK.1 hP 0 rfl rfl 2 (by decide) fl18 (fun _ h9 => h9) rfl dX0_copyFrom_27 ?_
  have hPc := hP.sub (ws' := [(kd 12, .inl (tt 0, 24, .inl (bd 8))), (kv 12, .inl (tt 0, 24, .inl (bv 8)))]) [8, 3] rfl
  have hDc := hD.sub (ws' := [(kd 12, .inl (tt 0, 24, .inl (bd 8))), (kv 12, .inl (tt 0, 24, .inl (bv 8)))]) [8, 3] (by decide) rfl
  have hFc := va_free (wc := [(kd 12, .inl (tt 0, 24, .inl (bd 8))), (kv 12, .inl (tt 0, 24, .inl (bv 8)))]) hD hS hA [8, 3] rfl
  refine z_callmv (wc := [(kd 12, .inl (tt 0, 24, .inl (bd 8))), (kv 12, .inl (tt 0, 24, .inl (bv 8)))]) (w1 := [(kd 12, .inl (tt 0, 24, .inl (bd 8))), (kv 12, .inl (tt 0, 24, .inl (va_cpy (bd 8) (bv 8) 0 0 24)))]) (va_runSN (As := [.ref (kd 12), .ref (kv 12)]) (rest := []) ⟨hx, hb, hml, hown, hts⟩ (c_X9_copyRow l D tt (kd 12) (kv 12) _ 24 (by decide) (bd 8) (bv 8)) ⟨va_cnB (host := "CapStacks") 2 hts gX0_copyFrom_X9_copyRow_n24 rfl rfl rfl nw24 iniX9 (by decide +kernel) ⟨Nat.le_of_ble_eq_true rfl, Nat.le_of_ble_eq_true rfl⟩, st_X9_copyRow, trivial⟩ (z_preSm hK hPc hDc) rfl rfl hl.1 rfl (lv_room (Nat.le_of_ble_eq_true rfl)) dX0_copyFrom_30 ⟨Nat.zero_le _, Nat.zero_le _⟩) hS hFc (fun H locs hP1 hD1 hk1 hS => ?_)
  obtain ⟨hP, hD⟩ := z_join (w2 := (zw_ce tt kv (zu (zu (zu bv 6 (va_cpy (bd 6) (bv 6) 0 0 24)) 7 (va_cpy (bd 7) (bv 7) 0 0 24)) 8 (va_cpy (bd 8) (bv 8) 0 0 24)) ++ zw_ce tt kd bd)) hP hD [8, 3] [0, 1, 2, 4, 5, 6, 7, 9] [0, 1, 2, 9, 3, 4, 5, 6, 8, 7] rfl rfl rfl (by decide) hk1 hFc hP1 hD1 rfl rfl
  refine lv_aload_n hx hb dX0_copyFrom_33 rfl (lv_at hl 1 rfl) ?_
  refine va_get (D := D) (ci := 0) (v := .ref (kd 13)) (C := RX0) (T := TX0) (N := 4) hx hb hts hi0 hown hK.1 hP 5 rfl rfl 3 (by decide) fl21 (fun _ h9 => h9) rfl dX0_copyFrom_34 ?_
  refine lv_aload_n hx hb dX0_copyFrom_37 rfl (lv_at hl 0 rfl) ?_
  refine va_get (D := D) (ci := 0) (v := .ref (kv 13)) (C := RX0) (T := TX0) (N := 4) hx hb hts hi0 hown hK.1 hP 0 rfl rfl 3 (by decide) fl21 (fun _ h9 => h9) rfl dX0_copyFrom_38 ?_
  have hPc := hP.sub (ws' := [(kd 13, .inl (tt 0, 24, .inl (bd 9))), (kv 13, .inl (tt 0, 24, .inl (bv 9)))]) [9, 4] rfl
  have hDc := hD.sub (ws' := [(kd 13, .inl (tt 0, 24, .inl (bd 9))), (kv 13, .inl (tt 0, 24, .inl (bv 9)))]) [9, 4] (by decide) rfl
  have hFc := va_free (wc := [(kd 13, .inl (tt 0, 24, .inl (bd 9))), (kv 13, .inl (tt 0, 24, .inl (bv 9)))]) hD hS hA [9, 4] rfl
  refine z_callmv (wc := [(kd 13, .inl (tt 0, 24, .inl (bd 9))), (kv 13, .inl (tt 0, 24, .inl (bv 9)))]) (w1 := [(kd 13, .inl (tt 0, 24, .inl (bd 9))), (kv 13, .inl (tt 0, 24, .inl (va_cpy (bd 9) (bv 9) 0 0 24)))]) (va_runSN (As := [.ref (kd 13), .ref (kv 13)]) (rest := []) ⟨hx, hb, hml, hown, hts⟩ (c_X9_copyRow l D tt (kd 13) (kv 13) _ 24 (by decide) (bd 9) (bv 9)) ⟨va_cnB (host := "CapStacks") 2 hts gX0_copyFrom_X9_copyRow_n24 rfl rfl rfl nw24 iniX9 (by decide +kernel) ⟨Nat.le_of_ble_eq_true rfl, Nat.le_of_ble_eq_true rfl⟩, st_X9_copyRow, trivial⟩ (z_preSm hK hPc hDc) rfl rfl hl.1 rfl (lv_room (Nat.le_of_ble_eq_true rfl)) dX0_copyFrom_41 ⟨Nat.zero_le _, Nat.zero_le _⟩) hS hFc (fun H locs hP1 hD1 hk1 hS => ?_)
  obtain ⟨hP, hD⟩ := z_join (w2 := (zw_ce tt kv (zu (zu (zu (zu bv 6 (va_cpy (bd 6) (bv 6) 0 0 24)) 7 (va_cpy (bd 7) (bv 7) 0 0 24)) 8 (va_cpy (bd 8) (bv 8) 0 0 24)) 9 (va_cpy (bd 9) (bv 9) 0 0 24)) ++ zw_ce tt kd bd)) hP hD [9, 4] [0, 1, 2, 3, 5, 6, 7, 8] [0, 1, 2, 3, 9, 4, 5, 6, 7, 8] rfl rfl rfl (by decide) hk1 hFc hP1 hD1 rfl rfl
  exact hfin _ _ _ _ _ h hP hD hS dX0_copyFrom_44
set_option maxHeartbeats 4000000 in
set_option maxRecDepth 100000 in
theorem c_X4_copyFrom (l : Launch) (D : va_G) (tt : Nat → ClassId) (kv : Nat → Nat) (kd : Nat → Nat) (sz : Nat) (bv : zV) (bd : zV)  (out : zV) (h : f_X4_copyFrom bv bd = some out) : Met l yX4_copyFrom wsX4_copyFrom { frames := 2, cells := 0, slots := 0, locals := 61 } (zPm [.ref (kv 3), .ref (kd 3)] D tt (zw_gr tt kv bv ++ zw_gr tt kd bd) sz) (zMv D (zw_gr tt kv out ++ zw_gr tt kd bd) (va_A (zw_gr tt kv bv ++ zw_gr tt kd bd) sz)) 0 0 (va_A (zw_gr tt kv bv ++ zw_gr tt kd bd) sz) := by
  refine Met.ofW (cc := cX4_copyFrom) (maxL := 2) (ret := none) (by decide) rfl ?_
  intro p e s m args below meth c s₁ B hml hv
  obtain ⟨ha, hsz, hP, hK, hD0⟩ := hv
  have hx := B.exec
  have hb := B.bytes
  have hr := B.returns
  have hts := atoms_spec (ws := wsX4_copyFrom) B.pre
  have hown : s.vm.findClass RX4 = some m.cls := findClass_of_methodNamed B.named
  have hlocks := B.notSynchronized
  have hi4 : ∀ w ∈ u_ws RX4 TX4 8, w ∈ wsX4_copyFrom := fun _ h => List.mem_cons_of_mem _ (List.mem_append_right _ h)
  have fl15 := hts (.fieldLink RX4 15 "CapStacks$Grants" "shares" "[I") (by decide +kernel)
  have fl18 := hts (.fieldLink RX4 18 "CapStacks$Grants" "strike" "[I") (by decide +kernel)
  have fl21 := hts (.fieldLink RX4 21 "CapStacks$Grants" "cliff" "[I") (by decide +kernel)
  have fl24 := hts (.fieldLink RX4 24 "CapStacks$Grants" "term" "[I") (by decide +kernel)
  have fl27 := hts (.fieldLink RX4 27 "CapStacks$Grants" "made" "[I") (by decide +kernel)
  have fl30 := hts (.fieldLink RX4 30 "CapStacks$Grants" "taken" "[I") (by decide +kernel)
  have fl33 := hts (.fieldLink RX4 33 "CapStacks$Grants" "size" "I") (by decide +kernel)
  have fl9 := hts (.fieldLink RX4 9 "CapStacks$Grants" "holder" "[I") (by decide +kernel)
  have iniX9 := hts (.initialized RX9) (by decide +kernel)
  have st_X9_copyRow := hts (.static yX9_copyRow) (by decide +kernel)
  have nw37 : va_Nw (.methodLinkNest RX4 37 yX9_copyRow "CapStacks") s := hK.2.1 (RX4, 37, yX9_copyRow, "CapStacks") (List.mem_of_getElem? (i := 10) rfl)
  subst hsz
  have hD := hD0.self (sz := s.heap.size)
  generalize hAe : va_A (zw_gr tt kv bv ++ zw_gr tt kd bd) s.heap.size = A at hD ⊢
  have hA : ∀ q : Nat, s.heap.size ≤ q → A q := fun q h => by rw [← hAe]; exact Or.inr h
  have hS : va_S A s.heap s.heap [] := va_S.rf
  have hfin : ∀ (bv : zV) (pc : Nat) (ls : Array Slot) (H : Heap) (locs : List Loc), some bv = some out → va_P D vwCl (zw_gr tt kv bv ++ zw_gr tt kd bd) H → va_D A (zw_gr tt kv bv ++ zw_gr tt kd bd) → va_S A s.heap H locs → decode cX4_copyFrom pc = .ok (.return_, 1) → W p l e (headSpec wsX4_copyFrom { frames := 2, cells := 0, slots := 0, locals := 61 }).room s m args below meth c H locs 0 0 (MQ below (zMv D (zw_gr tt kv out ++ zw_gr tt kd bd) A) args s 0 0 A) (F0 m pc ls []) := by
    intro bv pc ls H locs he hP hD hS hd
    cases he
    exact W.vret hx hb hr (fun t ht hW => ⟨⟨(), rfl, trivial, by rw [ht]; exact hP, hD⟩, hS.F ht⟩) hS.2.2 hd
  generalize MQ below (zMv D (zw_gr tt kv out ++ zw_gr tt kd bd) A) args s 0 0 A = Q at hfin ⊢
  have hl := lv_entry ([.ref (kv 3), .ref (kd 3)]) (n := 2) (Nat.le_of_ble_eq_true rfl)
  refine W.eq (g2 := F0 m 0 ((lg_sl ([.ref (kv 3), .ref (kd 3)]) ++ List.replicate (2 - (lg_sl ([.ref (kv 3), .ref (kd 3)])).length) Slot.unset).toArray) []) (by rw [ha]; exact lg_entry_eq _ _ _) ?_
  generalize (lg_sl ([.ref (kv 3), .ref (kd 3)]) ++ List.replicate (2 - (lg_sl ([.ref (kv 3), .ref (kd 3)])).length) Slot.unset).toArray = ls at hl ⊢
  have hl : lv_has ls 2 [(0, .ref (kv 3)), (1, .ref (kd 3))] := hl
  rw [f_X4_copyFrom] at h
  refine lv_aload_n hx hb dX4_copyFrom_0 rfl (lv_at hl 0 rfl) ?_
  refine lv_aload_n hx hb dX4_copyFrom_1 rfl (lv_at hl 1 rfl) ?_
  refine va_get (D := D) (ci := 4) (v := .int (bd 0 1)) (C := RX4) (T := TX4) (N := 8) hx hb hts hi4 hown hK.1 hP 8 rfl rfl 0 (by decide) fl33 (fun _ h9 => h9) rfl dX4_copyFrom_2 ?_
  refine va_put (D := D) (ci := 4) (v := .int (bd 0 1)) (ty := .int) (C := RX4) (T := TX4) (N := 8) hx hb hts hi4 tyX4 tyX4_ok nmX4 hown hK.1 hP hD hS 0 rfl rfl 0 (by decide) fl33 (fun _ h9 => h9) rfl (by decide +kernel) rfl rfl (Nat.le_of_ble_eq_true rfl) dX4_copyFrom_5 (fun H locs hP hD hS => ?_)
  have hP : va_P D vwCl (zw_gr tt kv (zu bv 0 (zu (bv 0) 1 (bd 0 1))) ++ zw_gr tt kd bd) H := hP
  have hD : va_D A (zw_gr tt kv (zu bv 0 (zu (bv 0) 1 (bd 0 1))) ++ zw_gr tt kd bd) := hD
  refine lv_aload_n hx hb dX4_copyFrom_8 rfl (lv_at hl 1 rfl) ?_
  refine va_get (D := D) (ci := 4) (v := .ref (kd 14)) (C := RX4) (T := TX4) (N := 8) hx hb hts hi4 hown hK.1 hP 8 rfl rfl 1 (by decide) fl9 (fun _ h9 => h9) rfl dX4_copyFrom_9 ?_
  refine lv_aload_n hx hb dX4_copyFrom_12 rfl (lv_at hl 0 rfl) ?_
  refine va_get (D := D) (ci := 4) (v := .ref (kv 14)) (C := RX4) (T := TX4) (N := 8) hx hb hts hi4 hown hK.1 hP 0 rfl rfl 1 (by decide) fl9 (fun _ h9 => h9) rfl dX4_copyFrom_13 ?_
  have hPc := hP.sub (ws' := [(kd 14, .inl (tt 0, 8, .inl (bd 10))), (kv 14, .inl (tt 0, 8, .inl (bv 10)))]) [9, 1] rfl
  have hDc := hD.sub (ws' := [(kd 14, .inl (tt 0, 8, .inl (bd 10))), (kv 14, .inl (tt 0, 8, .inl (bv 10)))]) [9, 1] (by decide) rfl
  have hFc := va_free (wc := [(kd 14, .inl (tt 0, 8, .inl (bd 10))), (kv 14, .inl (tt 0, 8, .inl (bv 10)))]) hD hS hA [9, 1] rfl
  refine z_callmv (wc := [(kd 14, .inl (tt 0, 8, .inl (bd 10))), (kv 14, .inl (tt 0, 8, .inl (bv 10)))]) (w1 := [(kd 14, .inl (tt 0, 8, .inl (bd 10))), (kv 14, .inl (tt 0, 8, .inl (va_cpy (bd 10) (bv 10) 0 0 8)))]) (va_runSN (As := [.ref (kd 14), .ref (kv 14)]) (rest := []) ⟨hx, hb, hml, hown, hts⟩ (c_X9_copyRow l D tt (kd 14) (kv 14) _ 8 (by decide) (bd 10) (bv 10)) ⟨va_cnB (host := "CapStacks") 2 hts gX4_copyFrom_X9_copyRow_n37 rfl rfl rfl nw37 iniX9 (by decide +kernel) ⟨Nat.le_of_ble_eq_true rfl, Nat.le_of_ble_eq_true rfl⟩, st_X9_copyRow, trivial⟩ (z_preSm hK hPc hDc) rfl rfl hl.1 rfl (lv_room (Nat.le_of_ble_eq_true rfl)) dX4_copyFrom_16 ⟨Nat.zero_le _, Nat.zero_le _⟩) hS hFc (fun H locs hP1 hD1 hk1 hS => ?_)
  obtain ⟨hP, hD⟩ := z_join (w2 := (zw_gr tt kv (zu (zu bv 0 (zu (bv 0) 1 (bd 0 1))) 10 (va_cpy (bd 10) (bv 10) 0 0 8)) ++ zw_gr tt kd bd)) hP hD [9, 1] [0, 2, 3, 4, 5, 6, 7, 8, 10, 11, 12, 13, 14, 15] [0, 15, 1, 2, 3, 4, 5, 6, 7, 14, 8, 9, 10, 11, 12, 13] rfl rfl rfl (by decide) hk1 hFc hP1 hD1 rfl rfl
  refine lv_aload_n hx hb dX4_copyFrom_19 rfl (lv_at hl 1 rfl) ?_
  refine va_get (D := D) (ci := 4) (v := .ref (kd 15)) (C := RX4) (T := TX4) (N := 8) hx hb hts hi4 hown hK.1 hP 8 rfl rfl 2 (by decide) fl15 (fun _ h9 => h9) rfl dX4_copyFrom_20 ?_
  refine lv_aload_n hx hb dX4_copyFrom_23 rfl (lv_at hl 0 rfl) ?_
  refine va_get (D := D) (ci := 4) (v := .ref (kv 15)) (C := RX4) (T := TX4) (N := 8) hx hb hts hi4 hown hK.1 hP 0 rfl rfl 2 (by decide) fl15 (fun _ h9 => h9) rfl dX4_copyFrom_24 ?_
  have hPc := hP.sub (ws' := [(kd 15, .inl (tt 0, 8, .inl (bd 11))), (kv 15, .inl (tt 0, 8, .inl (bv 11)))]) [10, 2] rfl
  have hDc := hD.sub (ws' := [(kd 15, .inl (tt 0, 8, .inl (bd 11))), (kv 15, .inl (tt 0, 8, .inl (bv 11)))]) [10, 2] (by decide) rfl
  have hFc := va_free (wc := [(kd 15, .inl (tt 0, 8, .inl (bd 11))), (kv 15, .inl (tt 0, 8, .inl (bv 11)))]) hD hS hA [10, 2] rfl
  refine z_callmv (wc := [(kd 15, .inl (tt 0, 8, .inl (bd 11))), (kv 15, .inl (tt 0, 8, .inl (bv 11)))]) (w1 := [(kd 15, .inl (tt 0, 8, .inl (bd 11))), (kv 15, .inl (tt 0, 8, .inl (va_cpy (bd 11) (bv 11) 0 0 8)))]) (va_runSN (As := [.ref (kd 15), .ref (kv 15)]) (rest := []) ⟨hx, hb, hml, hown, hts⟩ (c_X9_copyRow l D tt (kd 15) (kv 15) _ 8 (by decide) (bd 11) (bv 11)) ⟨va_cnB (host := "CapStacks") 2 hts gX4_copyFrom_X9_copyRow_n37 rfl rfl rfl nw37 iniX9 (by decide +kernel) ⟨Nat.le_of_ble_eq_true rfl, Nat.le_of_ble_eq_true rfl⟩, st_X9_copyRow, trivial⟩ (z_preSm hK hPc hDc) rfl rfl hl.1 rfl (lv_room (Nat.le_of_ble_eq_true rfl)) dX4_copyFrom_27 ⟨Nat.zero_le _, Nat.zero_le _⟩) hS hFc (fun H locs hP1 hD1 hk1 hS => ?_)
  obtain ⟨hP, hD⟩ := z_join (w2 := (zw_gr tt kv (zu (zu (zu bv 0 (zu (bv 0) 1 (bd 0 1))) 10 (va_cpy (bd 10) (bv 10) 0 0 8)) 11 (va_cpy (bd 11) (bv 11) 0 0 8)) ++ zw_gr tt kd bd)) hP hD [10, 2] [0, 1, 3, 4, 5, 6, 7, 8, 9, 11, 12, 13, 14, 15] [0, 1, 15, 2, 3, 4, 5, 6, 7, 8, 14, 9, 10, 11, 12, 13] rfl rfl rfl (by decide) hk1 hFc hP1 hD1 rfl rfl
  refine lv_aload_n hx hb dX4_copyFrom_30 rfl (lv_at hl 1 rfl) ?_
  refine va_get (D := D) (ci := 4) (v := .ref (kd 16)) (C := RX4) (T := TX4) (N := 8) hx hb hts hi4 hown hK.1 hP 8 rfl rfl 3 (by decide) fl18 (fun _ h9 => h9) rfl dX4_copyFrom_31 ?_
  refine lv_aload_n hx hb dX4_copyFrom_34 rfl (lv_at hl 0 rfl) ?_
  refine va_get (D := D) (ci := 4) (v := .ref (kv 16)) (C := RX4) (T := TX4) (N := 8) hx hb hts hi4 hown hK.1 hP 0 rfl rfl 3 (by decide) fl18 (fun _ h9 => h9) rfl dX4_copyFrom_35 ?_
  have hPc := hP.sub (ws' := [(kd 16, .inl (tt 0, 8, .inl (bd 12))), (kv 16, .inl (tt 0, 8, .inl (bv 12)))]) [11, 3] rfl
  have hDc := hD.sub (ws' := [(kd 16, .inl (tt 0, 8, .inl (bd 12))), (kv 16, .inl (tt 0, 8, .inl (bv 12)))]) [11, 3] (by decide) rfl
  have hFc := va_free (wc := [(kd 16, .inl (tt 0, 8, .inl (bd 12))), (kv 16, .inl (tt 0, 8, .inl (bv 12)))]) hD hS hA [11, 3] rfl
  refine z_callmv (wc := [(kd 16, .inl (tt 0, 8, .inl (bd 12))), (kv 16, .inl (tt 0, 8, .inl (bv 12)))]) (w1 := [(kd 16, .inl (tt 0, 8, .inl (bd 12))), (kv 16, .inl (tt 0, 8, .inl (va_cpy (bd 12) (bv 12) 0 0 8)))]) (va_runSN (As := [.ref (kd 16), .ref (kv 16)]) (rest := []) ⟨hx, hb, hml, hown, hts⟩ (c_X9_copyRow l D tt (kd 16) (kv 16) _ 8 (by decide) (bd 12) (bv 12)) ⟨va_cnB (host := "CapStacks") 2 hts gX4_copyFrom_X9_copyRow_n37 rfl rfl rfl nw37 iniX9 (by decide +kernel) ⟨Nat.le_of_ble_eq_true rfl, Nat.le_of_ble_eq_true rfl⟩, st_X9_copyRow, trivial⟩ (z_preSm hK hPc hDc) rfl rfl hl.1 rfl (lv_room (Nat.le_of_ble_eq_true rfl)) dX4_copyFrom_38 ⟨Nat.zero_le _, Nat.zero_le _⟩) hS hFc (fun H locs hP1 hD1 hk1 hS => ?_)
  obtain ⟨hP, hD⟩ := z_join (w2 := (zw_gr tt kv (zu (zu (zu (zu bv 0 (zu (bv 0) 1 (bd 0 1))) 10 (va_cpy (bd 10) (bv 10) 0 0 8)) 11 (va_cpy (bd 11) (bv 11) 0 0 8)) 12 (va_cpy (bd 12) (bv 12) 0 0 8)) ++ zw_gr tt kd bd)) hP hD [11, 3] [0, 1, 2, 4, 5, 6, 7, 8, 9, 10, 12, 13, 14, 15] [0, 1, 2, 15, 3, 4, 5, 6, 7, 8, 9, 14, 10, 11, 12, 13] rfl rfl rfl (by decide) hk1 hFc hP1 hD1 rfl rfl
  refine lv_aload_n hx hb dX4_copyFrom_41 rfl (lv_at hl 1 rfl) ?_
  refine va_get (D := D) (ci := 4) (v := .ref (kd 17)) (C := RX4) (T := TX4) (N := 8) hx hb hts hi4 hown hK.1 hP 8 rfl rfl 4 (by decide) fl21 (fun _ h9 => h9) rfl dX4_copyFrom_42 ?_
  refine lv_aload_n hx hb dX4_copyFrom_45 rfl (lv_at hl 0 rfl) ?_
  refine va_get (D := D) (ci := 4) (v := .ref (kv 17)) (C := RX4) (T := TX4) (N := 8) hx hb hts hi4 hown hK.1 hP 0 rfl rfl 4 (by decide) fl21 (fun _ h9 => h9) rfl dX4_copyFrom_46 ?_
  have hPc := hP.sub (ws' := [(kd 17, .inl (tt 0, 8, .inl (bd 13))), (kv 17, .inl (tt 0, 8, .inl (bv 13)))]) [12, 4] rfl
  have hDc := hD.sub (ws' := [(kd 17, .inl (tt 0, 8, .inl (bd 13))), (kv 17, .inl (tt 0, 8, .inl (bv 13)))]) [12, 4] (by decide) rfl
  have hFc := va_free (wc := [(kd 17, .inl (tt 0, 8, .inl (bd 13))), (kv 17, .inl (tt 0, 8, .inl (bv 13)))]) hD hS hA [12, 4] rfl
  refine z_callmv (wc := [(kd 17, .inl (tt 0, 8, .inl (bd 13))), (kv 17, .inl (tt 0, 8, .inl (bv 13)))]) (w1 := [(kd 17, .inl (tt 0, 8, .inl (bd 13))), (kv 17, .inl (tt 0, 8, .inl (va_cpy (bd 13) (bv 13) 0 0 8)))]) (va_runSN (As := [.ref (kd 17), .ref (kv 17)]) (rest := []) ⟨hx, hb, hml, hown, hts⟩ (c_X9_copyRow l D tt (kd 17) (kv 17) _ 8 (by decide) (bd 13) (bv 13)) ⟨va_cnB (host := "CapStacks") 2 hts gX4_copyFrom_X9_copyRow_n37 rfl rfl rfl nw37 iniX9 (by decide +kernel) ⟨Nat.le_of_ble_eq_true rfl, Nat.le_of_ble_eq_true rfl⟩, st_X9_copyRow, trivial⟩ (z_preSm hK hPc hDc) rfl rfl hl.1 rfl (lv_room (Nat.le_of_ble_eq_true rfl)) dX4_copyFrom_49 ⟨Nat.zero_le _, Nat.zero_le _⟩) hS hFc (fun H locs hP1 hD1 hk1 hS => ?_)
  obtain ⟨hP, hD⟩ := z_join (w2 := (zw_gr tt kv (zu (zu (zu (zu (zu bv 0 (zu (bv 0) 1 (bd 0 1))) 10 (va_cpy (bd 10) (bv 10) 0 0 8)) 11 (va_cpy (bd 11) (bv 11) 0 0 8)) 12 (va_cpy (bd 12) (bv 12) 0 0 8)) 13 (va_cpy (bd 13) (bv 13) 0 0 8)) ++ zw_gr tt kd bd)) hP hD [12, 4] [0, 1, 2, 3, 5, 6, 7, 8, 9, 10, 11, 13, 14, 15] [0, 1, 2, 3, 15, 4, 5, 6, 7, 8, 9, 10, 14, 11, 12, 13] rfl rfl rfl (by decide) hk1 hFc hP1 hD1 rfl rfl
  refine lv_aload_n hx hb dX4_copyFrom_52 rfl (lv_at hl 1 rfl) ?_
  refine va_get (D := D) (ci := 4) (v := .ref (kd 18)) (C := RX4) (T := TX4) (N := 8) hx hb hts hi4 hown hK.1 hP 8 rfl rfl 5 (by decide) fl24 (fun _ h9 => h9) rfl dX4_copyFrom_53 ?_
  refine lv_aload_n hx hb dX4_copyFrom_56 rfl (lv_at hl 0 rfl) ?_
  refine va_get (D := D) (ci := 4) (v := .ref (kv 18)) (C := RX4) (T := TX4) (N := 8) hx hb hts hi4 hown hK.1 hP 0 rfl rfl 5 (by decide) fl24 (fun _ h9 => h9) rfl dX4_copyFrom_57 ?_
  have hPc := hP.sub (ws' := [(kd 18, .inl (tt 0, 8, .inl (bd 14))), (kv 18, .inl (tt 0, 8, .inl (bv 14)))]) [13, 5] rfl
  have hDc := hD.sub (ws' := [(kd 18, .inl (tt 0, 8, .inl (bd 14))), (kv 18, .inl (tt 0, 8, .inl (bv 14)))]) [13, 5] (by decide) rfl
  have hFc := va_free (wc := [(kd 18, .inl (tt 0, 8, .inl (bd 14))), (kv 18, .inl (tt 0, 8, .inl (bv 14)))]) hD hS hA [13, 5] rfl
  refine z_callmv (wc := [(kd 18, .inl (tt 0, 8, .inl (bd 14))), (kv 18, .inl (tt 0, 8, .inl (bv 14)))]) (w1 := [(kd 18, .inl (tt 0, 8, .inl (bd 14))), (kv 18, .inl (tt 0, 8, .inl (va_cpy (bd 14) (bv 14) 0 0 8)))]) (va_runSN (As := [.ref (kd 18), .ref (kv 18)]) (rest := []) ⟨hx, hb, hml, hown, hts⟩ (c_X9_copyRow l D tt (kd 18) (kv 18) _ 8 (by decide) (bd 14) (bv 14)) ⟨va_cnB (host := "CapStacks") 2 hts gX4_copyFrom_X9_copyRow_n37 rfl rfl rfl nw37 iniX9 (by decide +kernel) ⟨Nat.le_of_ble_eq_true rfl, Nat.le_of_ble_eq_true rfl⟩, st_X9_copyRow, trivial⟩ (z_preSm hK hPc hDc) rfl rfl hl.1 rfl (lv_room (Nat.le_of_ble_eq_true rfl)) dX4_copyFrom_60 ⟨Nat.zero_le _, Nat.zero_le _⟩) hS hFc (fun H locs hP1 hD1 hk1 hS => ?_)
  obtain ⟨hP, hD⟩ := z_join (w2 := (zw_gr tt kv (zu (zu (zu (zu (zu (zu bv 0 (zu (bv 0) 1 (bd 0 1))) 10 (va_cpy (bd 10) (bv 10) 0 0 8)) 11 (va_cpy (bd 11) (bv 11) 0 0 8)) 12 (va_cpy (bd 12) (bv 12) 0 0 8)) 13 (va_cpy (bd 13) (bv 13) 0 0 8)) 14 (va_cpy (bd 14) (bv 14) 0 0 8)) ++ zw_gr tt kd bd)) hP hD [13, 5] [0, 1, 2, 3, 4, 6, 7, 8, 9, 10, 11, 12, 14, 15] [0, 1, 2, 3, 4, 15, 5, 6, 7, 8, 9, 10, 11, 14, 12, 13] rfl rfl rfl (by decide) hk1 hFc hP1 hD1 rfl rfl
  refine lv_aload_n hx hb dX4_copyFrom_63 rfl (lv_at hl 1 rfl) ?_
  refine va_get (D := D) (ci := 4) (v := .ref (kd 19)) (C := RX4) (T := TX4) (N := 8) hx hb hts hi4 hown hK.1 hP 8 rfl rfl 6 (by decide) fl27 (fun _ h9 => h9) rfl dX4_copyFrom_64 ?_
  refine lv_aload_n hx hb dX4_copyFrom_67 rfl (lv_at hl 0 rfl) ?_
  refine va_get (D := D) (ci := 4) (v := .ref (kv 19)) (C := RX4) (T := TX4) (N := 8) hx hb hts hi4 hown hK.1 hP 0 rfl rfl 6 (by decide) fl27 (fun _ h9 => h9) rfl dX4_copyFrom_68 ?_
  have hPc := hP.sub (ws' := [(kd 19, .inl (tt 0, 8, .inl (bd 15))), (kv 19, .inl (tt 0, 8, .inl (bv 15)))]) [14, 6] rfl
  have hDc := hD.sub (ws' := [(kd 19, .inl (tt 0, 8, .inl (bd 15))), (kv 19, .inl (tt 0, 8, .inl (bv 15)))]) [14, 6] (by decide) rfl
  have hFc := va_free (wc := [(kd 19, .inl (tt 0, 8, .inl (bd 15))), (kv 19, .inl (tt 0, 8, .inl (bv 15)))]) hD hS hA [14, 6] rfl
  refine z_callmv (wc := [(kd 19, .inl (tt 0, 8, .inl (bd 15))), (kv 19, .inl (tt 0, 8, .inl (bv 15)))]) (w1 := [(kd 19, .inl (tt 0, 8, .inl (bd 15))), (kv 19, .inl (tt 0, 8, .inl (va_cpy (bd 15) (bv 15) 0 0 8)))]) (va_runSN (As := [.ref (kd 19), .ref (kv 19)]) (rest := []) ⟨hx, hb, hml, hown, hts⟩ (c_X9_copyRow l D tt (kd 19) (kv 19) _ 8 (by decide) (bd 15) (bv 15)) ⟨va_cnB (host := "CapStacks") 2 hts gX4_copyFrom_X9_copyRow_n37 rfl rfl rfl nw37 iniX9 (by decide +kernel) ⟨Nat.le_of_ble_eq_true rfl, Nat.le_of_ble_eq_true rfl⟩, st_X9_copyRow, trivial⟩ (z_preSm hK hPc hDc) rfl rfl hl.1 rfl (lv_room (Nat.le_of_ble_eq_true rfl)) dX4_copyFrom_71 ⟨Nat.zero_le _, Nat.zero_le _⟩) hS hFc (fun H locs hP1 hD1 hk1 hS => ?_)
  obtain ⟨hP, hD⟩ := z_join (w2 := (zw_gr tt kv (zu (zu (zu (zu (zu (zu (zu bv 0 (zu (bv 0) 1 (bd 0 1))) 10 (va_cpy (bd 10) (bv 10) 0 0 8)) 11 (va_cpy (bd 11) (bv 11) 0 0 8)) 12 (va_cpy (bd 12) (bv 12) 0 0 8)) 13 (va_cpy (bd 13) (bv 13) 0 0 8)) 14 (va_cpy (bd 14) (bv 14) 0 0 8)) 15 (va_cpy (bd 15) (bv 15) 0 0 8)) ++ zw_gr tt kd bd)) hP hD [14, 6] [0, 1, 2, 3, 4, 5, 7, 8, 9, 10, 11, 12, 13, 15] [0, 1, 2, 3, 4, 5, 15, 6, 7, 8, 9, 10, 11, 12, 14, 13] rfl rfl rfl (by decide) hk1 hFc hP1 hD1 rfl rfl
  refine lv_aload_n hx hb dX4_copyFrom_74 rfl (lv_at hl 1 rfl) ?_
  refine va_get (D := D) (ci := 4) (v := .ref (kd 20)) (C := RX4) (T := TX4) (N := 8) hx hb hts hi4 hown hK.1 hP 8 rfl rfl 7 (by decide) fl30 (fun _ h9 => h9) rfl dX4_copyFrom_75 ?_
  refine lv_aload_n hx hb dX4_copyFrom_78 rfl (lv_at hl 0 rfl) ?_
  refine va_get (D := D) (ci := 4) (v := .ref (kv 20)) (C := RX4) (T := TX4) (N := 8) hx hb hts hi4 hown hK.1 hP 0 rfl rfl 7 (by decide) fl30 (fun _ h9 => h9) rfl dX4_copyFrom_79 ?_
  have hPc := hP.sub (ws' := [(kd 20, .inl (tt 0, 8, .inl (bd 16))), (kv 20, .inl (tt 0, 8, .inl (bv 16)))]) [15, 7] rfl
  have hDc := hD.sub (ws' := [(kd 20, .inl (tt 0, 8, .inl (bd 16))), (kv 20, .inl (tt 0, 8, .inl (bv 16)))]) [15, 7] (by decide) rfl
  have hFc := va_free (wc := [(kd 20, .inl (tt 0, 8, .inl (bd 16))), (kv 20, .inl (tt 0, 8, .inl (bv 16)))]) hD hS hA [15, 7] rfl
  refine z_callmv (wc := [(kd 20, .inl (tt 0, 8, .inl (bd 16))), (kv 20, .inl (tt 0, 8, .inl (bv 16)))]) (w1 := [(kd 20, .inl (tt 0, 8, .inl (bd 16))), (kv 20, .inl (tt 0, 8, .inl (va_cpy (bd 16) (bv 16) 0 0 8)))]) (va_runSN (As := [.ref (kd 20), .ref (kv 20)]) (rest := []) ⟨hx, hb, hml, hown, hts⟩ (c_X9_copyRow l D tt (kd 20) (kv 20) _ 8 (by decide) (bd 16) (bv 16)) ⟨va_cnB (host := "CapStacks") 2 hts gX4_copyFrom_X9_copyRow_n37 rfl rfl rfl nw37 iniX9 (by decide +kernel) ⟨Nat.le_of_ble_eq_true rfl, Nat.le_of_ble_eq_true rfl⟩, st_X9_copyRow, trivial⟩ (z_preSm hK hPc hDc) rfl rfl hl.1 rfl (lv_room (Nat.le_of_ble_eq_true rfl)) dX4_copyFrom_82 ⟨Nat.zero_le _, Nat.zero_le _⟩) hS hFc (fun H locs hP1 hD1 hk1 hS => ?_)
  obtain ⟨hP, hD⟩ := z_join (w2 := (zw_gr tt kv (zu (zu (zu (zu (zu (zu (zu (zu bv 0 (zu (bv 0) 1 (bd 0 1))) 10 (va_cpy (bd 10) (bv 10) 0 0 8)) 11 (va_cpy (bd 11) (bv 11) 0 0 8)) 12 (va_cpy (bd 12) (bv 12) 0 0 8)) 13 (va_cpy (bd 13) (bv 13) 0 0 8)) 14 (va_cpy (bd 14) (bv 14) 0 0 8)) 15 (va_cpy (bd 15) (bv 15) 0 0 8)) 16 (va_cpy (bd 16) (bv 16) 0 0 8)) ++ zw_gr tt kd bd)) hP hD [15, 7] [0, 1, 2, 3, 4, 5, 6, 8, 9, 10, 11, 12, 13, 14] [0, 1, 2, 3, 4, 5, 6, 15, 7, 8, 9, 10, 11, 12, 13, 14] rfl rfl rfl (by decide) hk1 hFc hP1 hD1 rfl rfl
  exact hfin _ _ _ _ _ h hP hD hS dX4_copyFrom_85
set_option maxHeartbeats 4000000 in
set_option maxRecDepth 100000 in
theorem c_X7_copyFrom (l : Launch) (D : va_G) (tt : Nat → ClassId) (kv : Nat → Nat) (kd : Nat → Nat) (sz : Nat) (bv : zV) (bd : zV)  (out : zV) (h : f_X7_copyFrom bv bd = some out) : Met l yX7_copyFrom wsX7_copyFrom { frames := 2, cells := 0, slots := 0, locals := 61 } (zPm [.ref (kv 4), .ref (kd 4)] D tt (zw_ro tt kv bv ++ zw_ro tt kd bd) sz) (zMv D (zw_ro tt kv out ++ zw_ro tt kd bd) (va_A (zw_ro tt kv bv ++ zw_ro tt kd bd) sz)) 0 0 (va_A (zw_ro tt kv bv ++ zw_ro tt kd bd) sz) := by
  refine Met.ofW (cc := cX7_copyFrom) (maxL := 2) (ret := none) (by decide) rfl ?_
  intro p e s m args below meth c s₁ B hml hv
  obtain ⟨ha, hsz, hP, hK, hD0⟩ := hv
  have hx := B.exec
  have hb := B.bytes
  have hr := B.returns
  have hts := atoms_spec (ws := wsX7_copyFrom) B.pre
  have hown : s.vm.findClass RX7 = some m.cls := findClass_of_methodNamed B.named
  have hlocks := B.notSynchronized
  have hi7 : ∀ w ∈ u_ws RX7 TX7 6, w ∈ wsX7_copyFrom := fun _ h => List.mem_cons_of_mem _ (List.mem_append_right _ h)
  have fl15 := hts (.fieldLink RX7 15 "CapStacks$Round" "takenUp" "[I") (by decide +kernel)
  have fl18 := hts (.fieldLink RX7 18 "CapStacks$Round" "on" "Z") (by decide +kernel)
  have fl22 := hts (.fieldLink RX7 22 "CapStacks$Round" "of" "I") (by decide +kernel)
  have fl26 := hts (.fieldLink RX7 26 "CapStacks$Round" "shares" "I") (by decide +kernel)
  have fl29 := hts (.fieldLink RX7 29 "CapStacks$Round" "leader" "I") (by decide +kernel)
  have fl9 := hts (.fieldLink RX7 9 "CapStacks$Round" "right" "[I") (by decide +kernel)
  have iniX9 := hts (.initialized RX9) (by decide +kernel)
  have st_X9_copyRow := hts (.static yX9_copyRow) (by decide +kernel)
  have nw32 : va_Nw (.methodLinkNest RX7 32 yX9_copyRow "CapStacks") s := hK.2.1 (RX7, 32, yX9_copyRow, "CapStacks") (List.mem_of_getElem? (i := 11) rfl)
  subst hsz
  have hD := hD0.self (sz := s.heap.size)
  generalize hAe : va_A (zw_ro tt kv bv ++ zw_ro tt kd bd) s.heap.size = A at hD ⊢
  have hA : ∀ q : Nat, s.heap.size ≤ q → A q := fun q h => by rw [← hAe]; exact Or.inr h
  have hS : va_S A s.heap s.heap [] := va_S.rf
  have hfin : ∀ (bv : zV) (pc : Nat) (ls : Array Slot) (H : Heap) (locs : List Loc), some bv = some out → va_P D vwCl (zw_ro tt kv bv ++ zw_ro tt kd bd) H → va_D A (zw_ro tt kv bv ++ zw_ro tt kd bd) → va_S A s.heap H locs → decode cX7_copyFrom pc = .ok (.return_, 1) → W p l e (headSpec wsX7_copyFrom { frames := 2, cells := 0, slots := 0, locals := 61 }).room s m args below meth c H locs 0 0 (MQ below (zMv D (zw_ro tt kv out ++ zw_ro tt kd bd) A) args s 0 0 A) (F0 m pc ls []) := by
    intro bv pc ls H locs he hP hD hS hd
    cases he
    exact W.vret hx hb hr (fun t ht hW => ⟨⟨(), rfl, trivial, by rw [ht]; exact hP, hD⟩, hS.F ht⟩) hS.2.2 hd
  generalize MQ below (zMv D (zw_ro tt kv out ++ zw_ro tt kd bd) A) args s 0 0 A = Q at hfin ⊢
  have hl := lv_entry ([.ref (kv 4), .ref (kd 4)]) (n := 2) (Nat.le_of_ble_eq_true rfl)
  refine W.eq (g2 := F0 m 0 ((lg_sl ([.ref (kv 4), .ref (kd 4)]) ++ List.replicate (2 - (lg_sl ([.ref (kv 4), .ref (kd 4)])).length) Slot.unset).toArray) []) (by rw [ha]; exact lg_entry_eq _ _ _) ?_
  generalize (lg_sl ([.ref (kv 4), .ref (kd 4)]) ++ List.replicate (2 - (lg_sl ([.ref (kv 4), .ref (kd 4)])).length) Slot.unset).toArray = ls at hl ⊢
  have hl : lv_has ls 2 [(0, .ref (kv 4)), (1, .ref (kd 4))] := hl
  rw [f_X7_copyFrom] at h
  refine lv_aload_n hx hb dX7_copyFrom_0 rfl (lv_at hl 0 rfl) ?_
  refine lv_aload_n hx hb dX7_copyFrom_1 rfl (lv_at hl 1 rfl) ?_
  refine va_get (D := D) (ci := 7) (v := .int (bd 0 2)) (C := RX7) (T := TX7) (N := 6) hx hb hts hi7 hown hK.1 hP 3 rfl rfl 0 (by decide) fl18 (fun _ h9 => h9) rfl dX7_copyFrom_2 ?_
  obtain ⟨q1, h⟩ := zZ_some h
  refine va_put (D := D) (ci := 7) (v := .int (bd 0 2)) (ty := .boolean) (C := RX7) (T := TX7) (N := 6) hx hb hts hi7 tyX7 tyX7_ok nmX7 hown hK.1 hP hD hS 0 rfl rfl 0 (by decide) fl18 (fun _ h9 => h9) rfl (by decide +kernel) (zZ_n q1) (zZ_f q1) (Nat.le_of_ble_eq_true rfl) dX7_copyFrom_5 (fun H locs hP hD hS => ?_)
  have hP : va_P D vwCl (zw_ro tt kv (zu bv 0 (zu (bv 0) 2 (bd 0 2))) ++ zw_ro tt kd bd) H := hP
  have hD : va_D A (zw_ro tt kv (zu bv 0 (zu (bv 0) 2 (bd 0 2))) ++ zw_ro tt kd bd) := hD
  refine lv_aload_n hx hb dX7_copyFrom_8 rfl (lv_at hl 0 rfl) ?_
  refine lv_aload_n hx hb dX7_copyFrom_9 rfl (lv_at hl 1 rfl) ?_
  refine va_get (D := D) (ci := 7) (v := .int (bd 0 3)) (C := RX7) (T := TX7) (N := 6) hx hb hts hi7 hown hK.1 hP 3 rfl rfl 1 (by decide) fl22 (fun _ h9 => h9) rfl dX7_copyFrom_10 ?_
  refine va_put (D := D) (ci := 7) (v := .int (bd 0 3)) (ty := .int) (C := RX7) (T := TX7) (N := 6) hx hb hts hi7 tyX7 tyX7_ok nmX7 hown hK.1 hP hD hS 0 rfl rfl 1 (by decide) fl22 (fun _ h9 => h9) rfl (by decide +kernel) rfl rfl (Nat.le_of_ble_eq_true rfl) dX7_copyFrom_13 (fun H locs hP hD hS => ?_)
  have hP : va_P D vwCl (zw_ro tt kv (zu bv 0 (zu (zu (bv 0) 2 (bd 0 2)) 3 (bd 0 3))) ++ zw_ro tt kd bd) H := hP
  have hD : va_D A (zw_ro tt kv (zu bv 0 (zu (zu (bv 0) 2 (bd 0 2)) 3 (bd 0 3))) ++ zw_ro tt kd bd) := hD
  refine lv_aload_n hx hb dX7_copyFrom_16 rfl (lv_at hl 0 rfl) ?_
  refine lv_aload_n hx hb dX7_copyFrom_17 rfl (lv_at hl 1 rfl) ?_
  refine va_get (D := D) (ci := 7) (v := .int (bd 0 4)) (C := RX7) (T := TX7) (N := 6) hx hb hts hi7 hown hK.1 hP 3 rfl rfl 2 (by decide) fl26 (fun _ h9 => h9) rfl dX7_copyFrom_18 ?_
  refine va_put (D := D) (ci := 7) (v := .int (bd 0 4)) (ty := .int) (C := RX7) (T := TX7) (N := 6) hx hb hts hi7 tyX7 tyX7_ok nmX7 hown hK.1 hP hD hS 0 rfl rfl 2 (by decide) fl26 (fun _ h9 => h9) rfl (by decide +kernel) rfl rfl (Nat.le_of_ble_eq_true rfl) dX7_copyFrom_21 (fun H locs hP hD hS => ?_)
  have hP : va_P D vwCl (zw_ro tt kv (zu bv 0 (zu (zu (zu (bv 0) 2 (bd 0 2)) 3 (bd 0 3)) 4 (bd 0 4))) ++ zw_ro tt kd bd) H := hP
  have hD : va_D A (zw_ro tt kv (zu bv 0 (zu (zu (zu (bv 0) 2 (bd 0 2)) 3 (bd 0 3)) 4 (bd 0 4))) ++ zw_ro tt kd bd) := hD
  refine lv_aload_n hx hb dX7_copyFrom_24 rfl (lv_at hl 0 rfl) ?_
  refine lv_aload_n hx hb dX7_copyFrom_25 rfl (lv_at hl 1 rfl) ?_
  refine va_get (D := D) (ci := 7) (v := .int (bd 0 5)) (C := RX7) (T := TX7) (N := 6) hx hb hts hi7 hown hK.1 hP 3 rfl rfl 3 (by decide) fl29 (fun _ h9 => h9) rfl dX7_copyFrom_26 ?_
  refine va_put (D := D) (ci := 7) (v := .int (bd 0 5)) (ty := .int) (C := RX7) (T := TX7) (N := 6) hx hb hts hi7 tyX7 tyX7_ok nmX7 hown hK.1 hP hD hS 0 rfl rfl 3 (by decide) fl29 (fun _ h9 => h9) rfl (by decide +kernel) rfl rfl (Nat.le_of_ble_eq_true rfl) dX7_copyFrom_29 (fun H locs hP hD hS => ?_)
  have hP : va_P D vwCl (zw_ro tt kv (zu bv 0 (zu (zu (zu (zu (bv 0) 2 (bd 0 2)) 3 (bd 0 3)) 4 (bd 0 4)) 5 (bd 0 5))) ++ zw_ro tt kd bd) H := hP
  have hD : va_D A (zw_ro tt kv (zu bv 0 (zu (zu (zu (zu (bv 0) 2 (bd 0 2)) 3 (bd 0 3)) 4 (bd 0 4)) 5 (bd 0 5))) ++ zw_ro tt kd bd) := hD
  refine lv_aload_n hx hb dX7_copyFrom_32 rfl (lv_at hl 1 rfl) ?_
  refine va_get (D := D) (ci := 7) (v := .ref (kd 21)) (C := RX7) (T := TX7) (N := 6) hx hb hts hi7 hown hK.1 hP 3 rfl rfl 4 (by decide) fl9 (fun _ h9 => h9) rfl dX7_copyFrom_33 ?_
  refine lv_aload_n hx hb dX7_copyFrom_36 rfl (lv_at hl 0 rfl) ?_
  refine va_get (D := D) (ci := 7) (v := .ref (kv 21)) (C := RX7) (T := TX7) (N := 6) hx hb hts hi7 hown hK.1 hP 0 rfl rfl 4 (by decide) fl9 (fun _ h9 => h9) rfl dX7_copyFrom_37 ?_
  have hPc := hP.sub (ws' := [(kd 21, .inl (tt 0, 8, .inl (bd 17))), (kv 21, .inl (tt 0, 8, .inl (bv 17)))]) [4, 1] rfl
  have hDc := hD.sub (ws' := [(kd 21, .inl (tt 0, 8, .inl (bd 17))), (kv 21, .inl (tt 0, 8, .inl (bv 17)))]) [4, 1] (by decide) rfl
  have hFc := va_free (wc := [(kd 21, .inl (tt 0, 8, .inl (bd 17))), (kv 21, .inl (tt 0, 8, .inl (bv 17)))]) hD hS hA [4, 1] rfl
  refine z_callmv (wc := [(kd 21, .inl (tt 0, 8, .inl (bd 17))), (kv 21, .inl (tt 0, 8, .inl (bv 17)))]) (w1 := [(kd 21, .inl (tt 0, 8, .inl (bd 17))), (kv 21, .inl (tt 0, 8, .inl (va_cpy (bd 17) (bv 17) 0 0 8)))]) (va_runSN (As := [.ref (kd 21), .ref (kv 21)]) (rest := []) ⟨hx, hb, hml, hown, hts⟩ (c_X9_copyRow l D tt (kd 21) (kv 21) _ 8 (by decide) (bd 17) (bv 17)) ⟨va_cnB (host := "CapStacks") 2 hts gX7_copyFrom_X9_copyRow_n32 rfl rfl rfl nw32 iniX9 (by decide +kernel) ⟨Nat.le_of_ble_eq_true rfl, Nat.le_of_ble_eq_true rfl⟩, st_X9_copyRow, trivial⟩ (z_preSm hK hPc hDc) rfl rfl hl.1 rfl (lv_room (Nat.le_of_ble_eq_true rfl)) dX7_copyFrom_40 ⟨Nat.zero_le _, Nat.zero_le _⟩) hS hFc (fun H locs hP1 hD1 hk1 hS => ?_)
  obtain ⟨hP, hD⟩ := z_join (w2 := (zw_ro tt kv (zu (zu bv 0 (zu (zu (zu (zu (bv 0) 2 (bd 0 2)) 3 (bd 0 3)) 4 (bd 0 4)) 5 (bd 0 5))) 17 (va_cpy (bd 17) (bv 17) 0 0 8)) ++ zw_ro tt kd bd)) hP hD [4, 1] [0, 2, 3, 5] [0, 5, 1, 2, 4, 3] rfl rfl rfl (by decide) hk1 hFc hP1 hD1 rfl rfl
  refine lv_aload_n hx hb dX7_copyFrom_43 rfl (lv_at hl 1 rfl) ?_
  refine va_get (D := D) (ci := 7) (v := .ref (kd 22)) (C := RX7) (T := TX7) (N := 6) hx hb hts hi7 hown hK.1 hP 3 rfl rfl 5 (by decide) fl15 (fun _ h9 => h9) rfl dX7_copyFrom_44 ?_
  refine lv_aload_n hx hb dX7_copyFrom_47 rfl (lv_at hl 0 rfl) ?_
  refine va_get (D := D) (ci := 7) (v := .ref (kv 22)) (C := RX7) (T := TX7) (N := 6) hx hb hts hi7 hown hK.1 hP 0 rfl rfl 5 (by decide) fl15 (fun _ h9 => h9) rfl dX7_copyFrom_48 ?_
  have hPc := hP.sub (ws' := [(kd 22, .inl (tt 0, 8, .inl (bd 18))), (kv 22, .inl (tt 0, 8, .inl (bv 18)))]) [5, 2] rfl
  have hDc := hD.sub (ws' := [(kd 22, .inl (tt 0, 8, .inl (bd 18))), (kv 22, .inl (tt 0, 8, .inl (bv 18)))]) [5, 2] (by decide) rfl
  have hFc := va_free (wc := [(kd 22, .inl (tt 0, 8, .inl (bd 18))), (kv 22, .inl (tt 0, 8, .inl (bv 18)))]) hD hS hA [5, 2] rfl
  refine z_callmv (wc := [(kd 22, .inl (tt 0, 8, .inl (bd 18))), (kv 22, .inl (tt 0, 8, .inl (bv 18)))]) (w1 := [(kd 22, .inl (tt 0, 8, .inl (bd 18))), (kv 22, .inl (tt 0, 8, .inl (va_cpy (bd 18) (bv 18) 0 0 8)))]) (va_runSN (As := [.ref (kd 22), .ref (kv 22)]) (rest := []) ⟨hx, hb, hml, hown, hts⟩ (c_X9_copyRow l D tt (kd 22) (kv 22) _ 8 (by decide) (bd 18) (bv 18)) ⟨va_cnB (host := "CapStacks") 2 hts gX7_copyFrom_X9_copyRow_n32 rfl rfl rfl nw32 iniX9 (by decide +kernel) ⟨Nat.le_of_ble_eq_true rfl, Nat.le_of_ble_eq_true rfl⟩, st_X9_copyRow, trivial⟩ (z_preSm hK hPc hDc) rfl rfl hl.1 rfl (lv_room (Nat.le_of_ble_eq_true rfl)) dX7_copyFrom_51 ⟨Nat.zero_le _, Nat.zero_le _⟩) hS hFc (fun H locs hP1 hD1 hk1 hS => ?_)
  obtain ⟨hP, hD⟩ := z_join (w2 := (zw_ro tt kv (zu (zu (zu bv 0 (zu (zu (zu (zu (bv 0) 2 (bd 0 2)) 3 (bd 0 3)) 4 (bd 0 4)) 5 (bd 0 5))) 17 (va_cpy (bd 17) (bv 17) 0 0 8)) 18 (va_cpy (bd 18) (bv 18) 0 0 8)) ++ zw_ro tt kd bd)) hP hD [5, 2] [0, 1, 3, 4] [0, 1, 5, 2, 3, 4] rfl rfl rfl (by decide) hk1 hFc hP1 hD1 rfl rfl
  exact hfin _ _ _ _ _ h hP hD hS dX7_copyFrom_54
set_option maxHeartbeats 4000000 in
set_option maxRecDepth 100000 in
theorem c_X0_size (l : Launch) (D : va_G) (tt : Nat → ClassId) (kv : Nat → Nat) (bv : zV)  (out : Int32) (h : f_X0_size bv = some out) : Met l yX0_size wsX0_size { frames := 0, cells := 0, slots := 0, locals := 0 } (zPr [.ref (kv 2)] D tt (zw_ce tt kv bv)) (zQr .int out) 0 0 (fun _ => False) := by
  refine Met.ofW (cc := cX0_size) (maxL := 3) (ret := (some .int)) (by decide) rfl ?_
  intro p e s m args below meth c s₁ B hml hv
  obtain ⟨ha, hP, hK⟩ := hv
  have hx := B.exec
  have hb := B.bytes
  have hr := B.returns
  have hts := atoms_spec (ws := wsX0_size) B.pre
  have hown : s.vm.findClass RX0 = some m.cls := findClass_of_methodNamed B.named
  have hlocks := B.notSynchronized
  have hi0 : ∀ w ∈ u_ws RX0 TX0 4, w ∈ wsX0_size := fun _ h => List.mem_cons_of_mem _ (List.mem_append_right _ h)
  have fl18 := hts (.fieldLink RX0 18 "CapStacks$Certificates" "shares" "[I") (by decide +kernel)
  have hfin : ∀ (v : Int32) (pc : Nat) (ls : Array Slot), some v = some out → narrow .int (.int v) = .int v → decode cX0_size pc = .ok (.ireturn, 1) → W p l e (headSpec wsX0_size { frames := 0, cells := 0, slots := 0, locals := 0 }).room s m args below meth c s.heap [] 0 0 (MQ below (zQr .int out) args s 0 0 (fun _ => False)) (F0 m pc ls [.int v]) := by
    intro v pc ls he hn hd
    cases he
    exact W.zret hx hb hr hn (fun t ht hW => ⟨rfl, hn, ht⟩) (fun _ h => by cases h) hd
  generalize MQ below (zQr .int out) args s 0 0 (fun _ => False) = Q at hfin ⊢
  have b4 : ∀ n : Nat, ∀ (x1 : Int32) (x2 : Int32) (ls : Array Slot), lv_has ls 3 [(0, .ref (kv 2)), (1, .int x1), (2, .int x2)] → f_X0_size_b4 bv n x1 x2 = some out → W p l e (headSpec wsX0_size { frames := 0, cells := 0, slots := 0, locals := 0 }).room s m args below meth c s.heap [] 0 0 Q (F0 m 4 ls []) := by
    intro n
    induction n with
    | zero =>
      intro x1 x2 ls hl h
      cases h
    | succ n ih =>
      intro x1 x2 ls hl h
      rw [f_X0_size_b4] at h
      refine lv_iload_n hx hb dX0_size_4 rfl (lv_at hl 2 rfl) ?_
      refine lv_bipush (v := 24) hx hb dX0_size_5 (by decide) ?_
      refine lv_icmp_ge (tgt := 28) hx hb dX0_size_7 (by decide) (fun k1 => ?_) (fun k1 => ?_)
      · replace h := z_pos k1 h
        refine lv_iload_n hx hb dX0_size_28 rfl (lv_at hl 1 rfl) ?_
        exact hfin _ _ _ h rfl dX0_size_29
      replace h := z_neg k1 h
      refine lv_aload_n hx hb dX0_size_10 rfl (lv_at hl 0 rfl) ?_
      refine va_get (D := D) (ci := 0) (v := .ref (kv 12)) (C := RX0) (T := TX0) (N := 4) hx hb hts hi0 hown hK.1 hP 0 rfl rfl 2 (by decide) fl18 (fun _ h9 => h9) rfl dX0_size_11 ?_
      refine lv_iload_n hx hb dX0_size_14 rfl (lv_at hl 2 rfl) ?_
      obtain ⟨q2, h⟩ := zA_some h
      refine va_iald hx hb hK.1 hP 3 0 rfl rfl q2 dX0_size_15 ?_
      refine lv_if_le (tgt := 22) hx hb dX0_size_16 (by decide) (fun k3 => ?_) (fun k3 => ?_)
      · replace h := z_pos k3 h
        refine lv_iinc (v := (x2 + 1)) (lv' := [(2, .int (x2 + 1)), (0, .ref (kv 2)), (1, .int x1)]) hx hb dX0_size_22 hl (k := 2) rfl rfl (by decide) rfl (fun ls hl => ?_)
        refine lv_goto (tgt := 4) hx hb dX0_size_25 (by decide) ?_
        exact ih x1 (x2 + 1) _ (lv_sub hl [1, 2, 0] rfl) h
      replace h := z_neg k3 h
      refine lv_iinc (v := (x1 + 1)) (lv' := [(1, .int (x1 + 1)), (0, .ref (kv 2)), (2, .int x2)]) hx hb dX0_size_19 hl (k := 1) rfl rfl (by decide) rfl (fun ls hl => ?_)
      refine lv_iinc (v := (x2 + 1)) (lv' := [(2, .int (x2 + 1)), (1, .int (x1 + 1)), (0, .ref (kv 2))]) hx hb dX0_size_22 hl (k := 2) rfl rfl (by decide) rfl (fun ls hl => ?_)
      refine lv_goto (tgt := 4) hx hb dX0_size_25 (by decide) ?_
      exact ih (x1 + 1) (x2 + 1) _ (lv_sub hl [2, 1, 0] rfl) h
  have hl := lv_entry ([.ref (kv 2)]) (n := 3) (Nat.le_of_ble_eq_true rfl)
  refine W.eq (g2 := F0 m 0 ((lg_sl ([.ref (kv 2)]) ++ List.replicate (3 - (lg_sl ([.ref (kv 2)])).length) Slot.unset).toArray) []) (by rw [ha]; exact lg_entry_eq _ _ _) ?_
  generalize (lg_sl ([.ref (kv 2)]) ++ List.replicate (3 - (lg_sl ([.ref (kv 2)])).length) Slot.unset).toArray = ls at hl ⊢
  have hl : lv_has ls 3 [(0, .ref (kv 2))] := hl
  rw [f_X0_size] at h
  refine lv_iconst (v := 0) hx hb dX0_size_0 (by decide) ?_
  refine lv_istore_n (lv' := [(1, .int 0), (0, .ref (kv 2))]) hx hb dX0_size_1 rfl hl (by decide) rfl (fun ls hl => ?_)
  refine lv_iconst (v := 0) hx hb dX0_size_2 (by decide) ?_
  refine lv_istore_n (lv' := [(2, .int 0), (1, .int 0), (0, .ref (kv 2))]) hx hb dX0_size_3 rfl hl (by decide) rfl (fun ls hl => ?_)
  exact b4 1000 0 0 _ (lv_sub hl [2, 1, 0] rfl) h
set_option maxHeartbeats 4000000 in
set_option maxRecDepth 100000 in
theorem c_X0_add (l : Launch) (D : va_G) (tt : Nat → ClassId) (kv : Nat → Nat) (sz : Nat) (bv : zV) (x1 : Int32) (x2 : Int32) (x3 : Int32) (x4 : Int32) (out : Int32 × zV) (h : f_X0_add bv x1 x2 x3 x4 = some out) : Met l yX0_add wsX0_add { frames := 0, cells := 0, slots := 0, locals := 0 } (zPm [.ref (kv 2), .int x1, .int x2, .int x3, .int x4] D tt (zw_ce tt kv bv) sz) (zMi .int out.1 D (zw_ce tt kv out.2) (va_A (zw_ce tt kv bv) sz)) 0 0 (va_A (zw_ce tt kv bv) sz) := by
  refine Met.ofW (cc := cX0_add) (maxL := 6) (ret := (some .int)) (by decide) rfl ?_
  intro p e s m args below meth c s₁ B hml hv
  obtain ⟨ha, hsz, hP, hK, hD0⟩ := hv
  have hx := B.exec
  have hb := B.bytes
  have hr := B.returns
  have hts := atoms_spec (ws := wsX0_add) B.pre
  have hown : s.vm.findClass RX0 = some m.cls := findClass_of_methodNamed B.named
  have hlocks := B.notSynchronized
  have hi0 : ∀ w ∈ u_ws RX0 TX0 4, w ∈ wsX0_add := fun _ h => List.mem_cons_of_mem _ (List.mem_append_right _ h)
  have fl15 := hts (.fieldLink RX0 15 "CapStacks$Certificates" "of" "[I") (by decide +kernel)
  have fl18 := hts (.fieldLink RX0 18 "CapStacks$Certificates" "shares" "[I") (by decide +kernel)
  have fl21 := hts (.fieldLink RX0 21 "CapStacks$Certificates" "made" "[I") (by decide +kernel)
  have fl9 := hts (.fieldLink RX0 9 "CapStacks$Certificates" "holder" "[I") (by decide +kernel)
  subst hsz
  have hD := hD0.self (sz := s.heap.size)
  generalize hAe : va_A (zw_ce tt kv bv) s.heap.size = A at hD ⊢
  have hA : ∀ q : Nat, s.heap.size ≤ q → A q := fun q h => by rw [← hAe]; exact Or.inr h
  have hS : va_S A s.heap s.heap [] := va_S.rf
  have hfin : ∀ (v : Int32) (bv : zV) (pc : Nat) (ls : Array Slot) (H : Heap) (locs : List Loc), some (v, bv) = some out → narrow .int (.int v) = .int v → va_P D vwCl (zw_ce tt kv bv) H → va_D A (zw_ce tt kv bv) → va_S A s.heap H locs → decode cX0_add pc = .ok (.ireturn, 1) → W p l e (headSpec wsX0_add { frames := 0, cells := 0, slots := 0, locals := 0 }).room s m args below meth c H locs 0 0 (MQ below (zMi .int out.1 D (zw_ce tt kv out.2) A) args s 0 0 A) (F0 m pc ls [.int v]) := by
    intro v bv pc ls H locs he hn hP hD hS hd
    cases he
    exact W.zret hx hb hr hn (fun t ht hW => ⟨⟨_, (), rfl, ⟨rfl, hn⟩, by rw [ht]; exact hP, hD⟩, hS.F ht⟩) hS.2.2 hd
  generalize MQ below (zMi .int out.1 D (zw_ce tt kv out.2) A) args s 0 0 A = Q at hfin ⊢
  have b3 : ∀ n : Nat, ∀ (bv : zV) (x1 : Int32) (x2 : Int32) (x3 : Int32) (x4 : Int32) (x5 : Int32) (H : Heap) (locs : List Loc) (ls : Array Slot), va_P D vwCl (zw_ce tt kv bv) H → va_D A (zw_ce tt kv bv) → va_S A s.heap H locs → lv_has ls 6 [(0, .ref (kv 2)), (1, .int x1), (2, .int x2), (3, .int x3), (4, .int x4), (5, .int x5)] → f_X0_add_b3 n bv x1 x2 x3 x4 x5 = some out → W p l e (headSpec wsX0_add { frames := 0, cells := 0, slots := 0, locals := 0 }).room s m args below meth c H locs 0 0 Q (F0 m 3 ls []) := by
    intro n
    induction n with
    | zero =>
      intro bv x1 x2 x3 x4 x5 H locs ls hP hD hS hl h
      cases h
    | succ n ih =>
      intro bv x1 x2 x3 x4 x5 H locs ls hP hD hS hl h
      rw [f_X0_add_b3] at h
      refine lv_iload hx hb dX0_add_3 (lv_at hl 5 rfl) ?_
      refine lv_bipush (v := 24) hx hb dX0_add_5 (by decide) ?_
      refine lv_icmp_ge (tgt := 62) hx hb dX0_add_7 (by decide) (fun k1 => ?_) (fun k1 => ?_)
      · replace h := z_pos k1 h
        refine lv_bipush (v := (-3)) hx hb dX0_add_62 (by decide) ?_
        exact hfin _ _ _ _ _ _ h rfl hP hD hS dX0_add_64
      replace h := z_neg k1 h
      refine lv_aload_n hx hb dX0_add_10 rfl (lv_at hl 0 rfl) ?_
      refine va_get (D := D) (ci := 0) (v := .ref (kv 12)) (C := RX0) (T := TX0) (N := 4) hx hb hts hi0 hown hK.1 hP 0 rfl rfl 2 (by decide) fl18 (fun _ h9 => h9) rfl dX0_add_11 ?_
      refine lv_iload hx hb dX0_add_14 (lv_at hl 5 rfl) ?_
      obtain ⟨q2, h⟩ := zA_some h
      refine va_iald hx hb hK.1 hP 3 0 rfl rfl q2 dX0_add_16 ?_
      refine lv_if_ne (tgt := 56) hx hb dX0_add_17 (by decide) (fun k3 => ?_) (fun k3 => ?_)
      · replace h := z_neg k3 h
        refine lv_iinc (v := (x5 + 1)) (lv' := [(5, .int (x5 + 1)), (0, .ref (kv 2)), (1, .int x1), (2, .int x2), (3, .int x3), (4, .int x4)]) hx hb dX0_add_56 hl (k := 5) rfl rfl (by decide) rfl (fun ls hl => ?_)
        refine lv_goto (tgt := 3) hx hb dX0_add_59 (by decide) ?_
        exact ih bv x1 x2 x3 x4 (x5 + 1) _ _ _ hP hD hS (lv_sub hl [1, 2, 3, 4, 5, 0] rfl) h
      replace h := z_pos k3 h
      refine lv_aload_n hx hb dX0_add_20 rfl (lv_at hl 0 rfl) ?_
      refine va_get (D := D) (ci := 0) (v := .ref (kv 10)) (C := RX0) (T := TX0) (N := 4) hx hb hts hi0 hown hK.1 hP 0 rfl rfl 0 (by decide) fl9 (fun _ h9 => h9) rfl dX0_add_21 ?_
      refine lv_iload hx hb dX0_add_24 (lv_at hl 5 rfl) ?_
      refine lv_iload_n hx hb dX0_add_26 rfl (lv_at hl 1 rfl) ?_
      refine va_iast hx hb hK.1 hP hD hS 1 0 rfl rfl q2 dX0_add_27 (fun H locs hP hD hS => ?_)
      have hP : va_P D vwCl (zw_ce tt kv (zu bv 6 (upd (bv 6) x5.toNatClampNeg x1))) H := hP
      have hD : va_D A (zw_ce tt kv (zu bv 6 (upd (bv 6) x5.toNatClampNeg x1))) := hD
      refine lv_aload_n hx hb dX0_add_28 rfl (lv_at hl 0 rfl) ?_
      refine va_get (D := D) (ci := 0) (v := .ref (kv 11)) (C := RX0) (T := TX0) (N := 4) hx hb hts hi0 hown hK.1 hP 0 rfl rfl 1 (by decide) fl15 (fun _ h9 => h9) rfl dX0_add_29 ?_
      refine lv_iload hx hb dX0_add_32 (lv_at hl 5 rfl) ?_
      refine lv_iload_n hx hb dX0_add_34 rfl (lv_at hl 2 rfl) ?_
      refine va_iast hx hb hK.1 hP hD hS 2 0 rfl rfl q2 dX0_add_35 (fun H locs hP hD hS => ?_)
      have hP : va_P D vwCl (zw_ce tt kv (zu (zu bv 6 (upd (bv 6) x5.toNatClampNeg x1)) 7 (upd (bv 7) x5.toNatClampNeg x2))) H := hP
      have hD : va_D A (zw_ce tt kv (zu (zu bv 6 (upd (bv 6) x5.toNatClampNeg x1)) 7 (upd (bv 7) x5.toNatClampNeg x2))) := hD
      refine lv_aload_n hx hb dX0_add_36 rfl (lv_at hl 0 rfl) ?_
      refine va_get (D := D) (ci := 0) (v := .ref (kv 12)) (C := RX0) (T := TX0) (N := 4) hx hb hts hi0 hown hK.1 hP 0 rfl rfl 2 (by decide) fl18 (fun _ h9 => h9) rfl dX0_add_37 ?_
      refine lv_iload hx hb dX0_add_40 (lv_at hl 5 rfl) ?_
      refine lv_iload_n hx hb dX0_add_42 rfl (lv_at hl 3 rfl) ?_
      refine va_iast hx hb hK.1 hP hD hS 3 0 rfl rfl q2 dX0_add_43 (fun H locs hP hD hS => ?_)
      have hP : va_P D vwCl (zw_ce tt kv (zu (zu (zu bv 6 (upd (bv 6) x5.toNatClampNeg x1)) 7 (upd (bv 7) x5.toNatClampNeg x2)) 8 (upd (bv 8) x5.toNatClampNeg x3))) H := hP
      have hD : va_D A (zw_ce tt kv (zu (zu (zu bv 6 (upd (bv 6) x5.toNatClampNeg x1)) 7 (upd (bv 7) x5.toNatClampNeg x2)) 8 (upd (bv 8) x5.toNatClampNeg x3))) := hD
      refine lv_aload_n hx hb dX0_add_44 rfl (lv_at hl 0 rfl) ?_
      refine va_get (D := D) (ci := 0) (v := .ref (kv 13)) (C := RX0) (T := TX0) (N := 4) hx hb hts hi0 hown hK.1 hP 0 rfl rfl 3 (by decide) fl21 (fun _ h9 => h9) rfl dX0_add_45 ?_
      refine lv_iload hx hb dX0_add_48 (lv_at hl 5 rfl) ?_
      refine lv_iload hx hb dX0_add_50 (lv_at hl 4 rfl) ?_
      refine va_iast hx hb hK.1 hP hD hS 4 0 rfl rfl q2 dX0_add_52 (fun H locs hP hD hS => ?_)
      have hP : va_P D vwCl (zw_ce tt kv (zu (zu (zu (zu bv 6 (upd (bv 6) x5.toNatClampNeg x1)) 7 (upd (bv 7) x5.toNatClampNeg x2)) 8 (upd (bv 8) x5.toNatClampNeg x3)) 9 (upd (bv 9) x5.toNatClampNeg x4))) H := hP
      have hD : va_D A (zw_ce tt kv (zu (zu (zu (zu bv 6 (upd (bv 6) x5.toNatClampNeg x1)) 7 (upd (bv 7) x5.toNatClampNeg x2)) 8 (upd (bv 8) x5.toNatClampNeg x3)) 9 (upd (bv 9) x5.toNatClampNeg x4))) := hD
      refine lv_iload hx hb dX0_add_53 (lv_at hl 5 rfl) ?_
      exact hfin _ _ _ _ _ _ h rfl hP hD hS dX0_add_55
  have hl := lv_entry ([.ref (kv 2), .int x1, .int x2, .int x3, .int x4]) (n := 6) (Nat.le_of_ble_eq_true rfl)
  refine W.eq (g2 := F0 m 0 ((lg_sl ([.ref (kv 2), .int x1, .int x2, .int x3, .int x4]) ++ List.replicate (6 - (lg_sl ([.ref (kv 2), .int x1, .int x2, .int x3, .int x4])).length) Slot.unset).toArray) []) (by rw [ha]; exact lg_entry_eq _ _ _) ?_
  generalize (lg_sl ([.ref (kv 2), .int x1, .int x2, .int x3, .int x4]) ++ List.replicate (6 - (lg_sl ([.ref (kv 2), .int x1, .int x2, .int x3, .int x4])).length) Slot.unset).toArray = ls at hl ⊢
  have hl : lv_has ls 6 [(0, .ref (kv 2)), (1, .int x1), (2, .int x2), (3, .int x3), (4, .int x4)] := hl
  rw [f_X0_add] at h
  refine lv_iconst (v := 0) hx hb dX0_add_0 (by decide) ?_
  refine lv_istore (lv' := [(5, .int 0), (0, .ref (kv 2)), (1, .int x1), (2, .int x2), (3, .int x3), (4, .int x4)]) hx hb dX0_add_1 hl (by decide) rfl (fun ls hl => ?_)
  exact b3 1000 bv x1 x2 x3 x4 0 _ _ _ hP hD hS (lv_sub hl [1, 2, 3, 4, 5, 0] rfl) h
set_option maxHeartbeats 4000000 in
set_option maxRecDepth 100000 in
theorem c_X0_has (l : Launch) (D : va_G) (tt : Nat → ClassId) (kv : Nat → Nat) (bv : zV) (x1 : Int32) (out : Int32) (h : f_X0_has bv x1 = some out) : Met l yX0_has wsX0_has { frames := 1, cells := 0, slots := 0, locals := 22 } (zPr [.ref (kv 2), .int x1] D tt (zw_ce tt kv bv)) (zQr .boolean out) 0 0 (fun _ => False) := by
  refine Met.ofW (cc := cX0_has) (maxL := 2) (ret := (some .boolean)) (by decide) rfl ?_
  intro p e s m args below meth c s₁ B hml hv
  obtain ⟨ha, hP, hK⟩ := hv
  have hx := B.exec
  have hb := B.bytes
  have hr := B.returns
  have hts := atoms_spec (ws := wsX0_has) B.pre
  have hown : s.vm.findClass RX0 = some m.cls := findClass_of_methodNamed B.named
  have hlocks := B.notSynchronized
  have hi0 : ∀ w ∈ u_ws RX0 TX0 4, w ∈ wsX0_has := fun _ h => List.mem_cons_of_mem _ (List.mem_append_right _ h)
  have fl18 := hts (.fieldLink RX0 18 "CapStacks$Certificates" "shares" "[I") (by decide +kernel)
  have iniX9 := hts (.initialized RX9) (by decide +kernel)
  have st_X9_within := hts (.static yX9_within) (by decide +kernel)
  have nw28 : va_Nw (.methodLinkNest RX0 28 yX9_within "CapStacks") s := hK.2.1 (RX0, 28, yX9_within, "CapStacks") (List.mem_of_getElem? (i := 14) rfl)
  have hfin : ∀ (v : Int32) (pc : Nat) (ls : Array Slot), some v = some out → narrow .boolean (.int v) = .int v → decode cX0_has pc = .ok (.ireturn, 1) → W p l e (headSpec wsX0_has { frames := 1, cells := 0, slots := 0, locals := 22 }).room s m args below meth c s.heap [] 0 0 (MQ below (zQr .boolean out) args s 0 0 (fun _ => False)) (F0 m pc ls [.int v]) := by
    intro v pc ls he hn hd
    cases he
    exact W.zret hx hb hr hn (fun t ht hW => ⟨rfl, hn, ht⟩) (fun _ h => by cases h) hd
  generalize MQ below (zQr .boolean out) args s 0 0 (fun _ => False) = Q at hfin ⊢
  have hl := lv_entry ([.ref (kv 2), .int x1]) (n := 2) (Nat.le_of_ble_eq_true rfl)
  refine W.eq (g2 := F0 m 0 ((lg_sl ([.ref (kv 2), .int x1]) ++ List.replicate (2 - (lg_sl ([.ref (kv 2), .int x1])).length) Slot.unset).toArray) []) (by rw [ha]; exact lg_entry_eq _ _ _) ?_
  generalize (lg_sl ([.ref (kv 2), .int x1]) ++ List.replicate (2 - (lg_sl ([.ref (kv 2), .int x1])).length) Slot.unset).toArray = ls at hl ⊢
  have hl : lv_has ls 2 [(0, .ref (kv 2)), (1, .int x1)] := hl
  rw [f_X0_has] at h
  refine lv_iload_n hx hb dX0_has_0 rfl (lv_at hl 1 rfl) ?_
  refine lv_iconst (v := 0) hx hb dX0_has_1 (by decide) ?_
  refine lv_bipush (v := 23) hx hb dX0_has_2 (by decide) ?_
  obtain ⟨y1, gy1, h⟩ := zb_some h
  refine z_callr (va_runSN (As := [.int x1, .int 0, .int 23]) (rest := []) ⟨hx, hb, hml, hown, hts⟩ (c_X9_within l D tt x1 0 23 y1 gy1) ⟨va_cnB (host := "CapStacks") 3 hts gX0_has_X9_within_n28 rfl rfl rfl nw28 iniX9 (by decide +kernel) ⟨Nat.le_of_ble_eq_true rfl, Nat.le_of_ble_eq_true rfl⟩, st_X9_within, trivial⟩ (z_preSr hK (hP.sub (ws' := ([] : va_W)) [] rfl)) rfl rfl hl.1 rfl (lv_room (Nat.le_of_ble_eq_true rfl)) dX0_has_4 ⟨Nat.zero_le _, Nat.zero_le _⟩) (fun ny1 => ?_)
  refine lv_if_eq (tgt := 23) hx hb dX0_has_7 (by decide) (fun k2 => ?_) (fun k2 => ?_)
  · replace h := z_pos k2 h
    refine lv_iconst (v := 0) hx hb dX0_has_23 (by decide) ?_
    exact hfin _ _ _ h rfl dX0_has_24
  replace h := z_neg k2 h
  refine lv_aload_n hx hb dX0_has_10 rfl (lv_at hl 0 rfl) ?_
  refine va_get (D := D) (ci := 0) (v := .ref (kv 12)) (C := RX0) (T := TX0) (N := 4) hx hb hts hi0 hown hK.1 hP 0 rfl rfl 2 (by decide) fl18 (fun _ h9 => h9) rfl dX0_has_11 ?_
  refine lv_iload_n hx hb dX0_has_14 rfl (lv_at hl 1 rfl) ?_
  obtain ⟨q3, h⟩ := zA_some h
  refine va_iald hx hb hK.1 hP 3 0 rfl rfl q3 dX0_has_15 ?_
  refine lv_if_le (tgt := 23) hx hb dX0_has_16 (by decide) (fun k4 => ?_) (fun k4 => ?_)
  · replace h := z_pos k4 h
    refine lv_iconst (v := 0) hx hb dX0_has_23 (by decide) ?_
    exact hfin _ _ _ h rfl dX0_has_24
  replace h := z_neg k4 h
  refine lv_iconst (v := 1) hx hb dX0_has_19 (by decide) ?_
  refine lv_goto (tgt := 24) hx hb dX0_has_20 (by decide) ?_
  exact hfin _ _ _ h rfl dX0_has_24
set_option maxHeartbeats 4000000 in
set_option maxRecDepth 100000 in
theorem c_X7_begin (l : Launch) (D : va_G) (tt : Nat → ClassId) (kv : Nat → Nat) (sz : Nat) (bv : zV) (x1 : Int32) (x2 : Int32) (x3 : Int32) (out : zV) (h : f_X7_begin bv x1 x2 x3 = some out) : Met l yX7_begin wsX7_begin { frames := 0, cells := 0, slots := 0, locals := 0 } (zPm [.ref (kv 4), .int x1, .int x2, .int x3] D tt (zw_ro tt kv bv) sz) (zMv D (zw_ro tt kv out) (va_A (zw_ro tt kv bv) sz)) 0 0 (va_A (zw_ro tt kv bv) sz) := by
  refine Met.ofW (cc := cX7_begin) (maxL := 5) (ret := none) (by decide) rfl ?_
  intro p e s m args below meth c s₁ B hml hv
  obtain ⟨ha, hsz, hP, hK, hD0⟩ := hv
  have hx := B.exec
  have hb := B.bytes
  have hr := B.returns
  have hts := atoms_spec (ws := wsX7_begin) B.pre
  have hown : s.vm.findClass RX7 = some m.cls := findClass_of_methodNamed B.named
  have hlocks := B.notSynchronized
  have hi7 : ∀ w ∈ u_ws RX7 TX7 6, w ∈ wsX7_begin := fun _ h => List.mem_cons_of_mem _ (List.mem_append_right _ h)
  have fl15 := hts (.fieldLink RX7 15 "CapStacks$Round" "takenUp" "[I") (by decide +kernel)
  have fl18 := hts (.fieldLink RX7 18 "CapStacks$Round" "on" "Z") (by decide +kernel)
  have fl22 := hts (.fieldLink RX7 22 "CapStacks$Round" "of" "I") (by decide +kernel)
  have fl26 := hts (.fieldLink RX7 26 "CapStacks$Round" "shares" "I") (by decide +kernel)
  have fl29 := hts (.fieldLink RX7 29 "CapStacks$Round" "leader" "I") (by decide +kernel)
  have fl9 := hts (.fieldLink RX7 9 "CapStacks$Round" "right" "[I") (by decide +kernel)
  subst hsz
  have hD := hD0.self (sz := s.heap.size)
  generalize hAe : va_A (zw_ro tt kv bv) s.heap.size = A at hD ⊢
  have hA : ∀ q : Nat, s.heap.size ≤ q → A q := fun q h => by rw [← hAe]; exact Or.inr h
  have hS : va_S A s.heap s.heap [] := va_S.rf
  have hfin : ∀ (bv : zV) (pc : Nat) (ls : Array Slot) (H : Heap) (locs : List Loc), some bv = some out → va_P D vwCl (zw_ro tt kv bv) H → va_D A (zw_ro tt kv bv) → va_S A s.heap H locs → decode cX7_begin pc = .ok (.return_, 1) → W p l e (headSpec wsX7_begin { frames := 0, cells := 0, slots := 0, locals := 0 }).room s m args below meth c H locs 0 0 (MQ below (zMv D (zw_ro tt kv out) A) args s 0 0 A) (F0 m pc ls []) := by
    intro bv pc ls H locs he hP hD hS hd
    cases he
    exact W.vret hx hb hr (fun t ht hW => ⟨⟨(), rfl, trivial, by rw [ht]; exact hP, hD⟩, hS.F ht⟩) hS.2.2 hd
  generalize MQ below (zMv D (zw_ro tt kv out) A) args s 0 0 A = Q at hfin ⊢
  have b23 : ∀ n : Nat, ∀ (bv : zV) (x4 : Int32) (H : Heap) (locs : List Loc) (ls : Array Slot), va_P D vwCl (zw_ro tt kv bv) H → va_D A (zw_ro tt kv bv) → va_S A s.heap H locs → lv_has ls 5 [(0, .ref (kv 4)), (4, .int x4)] → f_X7_begin_b23 n bv x4 = some out → W p l e (headSpec wsX7_begin { frames := 0, cells := 0, slots := 0, locals := 0 }).room s m args below meth c H locs 0 0 Q (F0 m 23 ls []) := by
    intro n
    induction n with
    | zero =>
      intro bv x4 H locs ls hP hD hS hl h
      cases h
    | succ n ih =>
      intro bv x4 H locs ls hP hD hS hl h
      rw [f_X7_begin_b23] at h
      refine lv_iload hx hb dX7_begin_23 (lv_at hl 1 rfl) ?_
      refine lv_bipush (v := 8) hx hb dX7_begin_25 (by decide) ?_
      refine lv_icmp_ge (tgt := 52) hx hb dX7_begin_27 (by decide) (fun k1 => ?_) (fun k1 => ?_)
      · replace h := z_pos k1 h
        exact hfin _ _ _ _ _ h hP hD hS dX7_begin_52
      replace h := z_neg k1 h
      refine lv_aload_n hx hb dX7_begin_30 rfl (lv_at hl 0 rfl) ?_
      refine va_get (D := D) (ci := 7) (v := .ref (kv 21)) (C := RX7) (T := TX7) (N := 6) hx hb hts hi7 hown hK.1 hP 0 rfl rfl 4 (by decide) fl9 (fun _ h9 => h9) rfl dX7_begin_31 ?_
      refine lv_iload hx hb dX7_begin_34 (lv_at hl 1 rfl) ?_
      refine lv_iconst (v := 0) hx hb dX7_begin_36 (by decide) ?_
      obtain ⟨q2, h⟩ := zA_some h
      refine va_iast hx hb hK.1 hP hD hS 1 0 rfl rfl q2 dX7_begin_37 (fun H locs hP hD hS => ?_)
      have hP : va_P D vwCl (zw_ro tt kv (zu bv 17 (upd (bv 17) x4.toNatClampNeg 0))) H := hP
      have hD : va_D A (zw_ro tt kv (zu bv 17 (upd (bv 17) x4.toNatClampNeg 0))) := hD
      refine lv_aload_n hx hb dX7_begin_38 rfl (lv_at hl 0 rfl) ?_
      refine va_get (D := D) (ci := 7) (v := .ref (kv 22)) (C := RX7) (T := TX7) (N := 6) hx hb hts hi7 hown hK.1 hP 0 rfl rfl 5 (by decide) fl15 (fun _ h9 => h9) rfl dX7_begin_39 ?_
      refine lv_iload hx hb dX7_begin_42 (lv_at hl 1 rfl) ?_
      refine lv_iconst (v := 0) hx hb dX7_begin_44 (by decide) ?_
      refine va_iast hx hb hK.1 hP hD hS 2 0 rfl rfl q2 dX7_begin_45 (fun H locs hP hD hS => ?_)
      have hP : va_P D vwCl (zw_ro tt kv (zu (zu bv 17 (upd (bv 17) x4.toNatClampNeg 0)) 18 (upd (bv 18) x4.toNatClampNeg 0))) H := hP
      have hD : va_D A (zw_ro tt kv (zu (zu bv 17 (upd (bv 17) x4.toNatClampNeg 0)) 18 (upd (bv 18) x4.toNatClampNeg 0))) := hD
      refine lv_iinc (v := (x4 + 1)) (lv' := [(4, .int (x4 + 1)), (0, .ref (kv 4))]) hx hb dX7_begin_46 hl (k := 1) rfl rfl (by decide) rfl (fun ls hl => ?_)
      refine lv_goto (tgt := 23) hx hb dX7_begin_49 (by decide) ?_
      exact ih (zu (zu bv 17 (upd (bv 17) x4.toNatClampNeg 0)) 18 (upd (bv 18) x4.toNatClampNeg 0)) (x4 + 1) _ _ _ hP hD hS (lv_sub hl [1, 0] rfl) h
  have hl := lv_entry ([.ref (kv 4), .int x1, .int x2, .int x3]) (n := 5) (Nat.le_of_ble_eq_true rfl)
  refine W.eq (g2 := F0 m 0 ((lg_sl ([.ref (kv 4), .int x1, .int x2, .int x3]) ++ List.replicate (5 - (lg_sl ([.ref (kv 4), .int x1, .int x2, .int x3])).length) Slot.unset).toArray) []) (by rw [ha]; exact lg_entry_eq _ _ _) ?_
  generalize (lg_sl ([.ref (kv 4), .int x1, .int x2, .int x3]) ++ List.replicate (5 - (lg_sl ([.ref (kv 4), .int x1, .int x2, .int x3])).length) Slot.unset).toArray = ls at hl ⊢
  have hl : lv_has ls 5 [(0, .ref (kv 4)), (1, .int x1), (2, .int x2), (3, .int x3)] := hl
  rw [f_X7_begin] at h
  refine lv_aload_n hx hb dX7_begin_0 rfl (lv_at hl 0 rfl) ?_
  refine lv_iconst (v := 1) hx hb dX7_begin_1 (by decide) ?_
  refine va_put (D := D) (ci := 7) (v := .int 1) (ty := .boolean) (C := RX7) (T := TX7) (N := 6) hx hb hts hi7 tyX7 tyX7_ok nmX7 hown hK.1 hP hD hS 0 rfl rfl 0 (by decide) fl18 (fun _ h9 => h9) rfl (by decide +kernel) rfl rfl (Nat.le_of_ble_eq_true rfl) dX7_begin_2 (fun H locs hP hD hS => ?_)
  have hP : va_P D vwCl (zw_ro tt kv (zu bv 0 (zu (bv 0) 2 1))) H := hP
  have hD : va_D A (zw_ro tt kv (zu bv 0 (zu (bv 0) 2 1))) := hD
  refine lv_aload_n hx hb dX7_begin_5 rfl (lv_at hl 0 rfl) ?_
  refine lv_iload_n hx hb dX7_begin_6 rfl (lv_at hl 1 rfl) ?_
  refine va_put (D := D) (ci := 7) (v := .int x1) (ty := .int) (C := RX7) (T := TX7) (N := 6) hx hb hts hi7 tyX7 tyX7_ok nmX7 hown hK.1 hP hD hS 0 rfl rfl 1 (by decide) fl22 (fun _ h9 => h9) rfl (by decide +kernel) rfl rfl (Nat.le_of_ble_eq_true rfl) dX7_begin_7 (fun H locs hP hD hS => ?_)
  have hP : va_P D vwCl (zw_ro tt kv (zu bv 0 (zu (zu (bv 0) 2 1) 3 x1))) H := hP
  have hD : va_D A (zw_ro tt kv (zu bv 0 (zu (zu (bv 0) 2 1) 3 x1))) := hD
  refine lv_aload_n hx hb dX7_begin_10 rfl (lv_at hl 0 rfl) ?_
  refine lv_iload_n hx hb dX7_begin_11 rfl (lv_at hl 2 rfl) ?_
  refine va_put (D := D) (ci := 7) (v := .int x2) (ty := .int) (C := RX7) (T := TX7) (N := 6) hx hb hts hi7 tyX7 tyX7_ok nmX7 hown hK.1 hP hD hS 0 rfl rfl 2 (by decide) fl26 (fun _ h9 => h9) rfl (by decide +kernel) rfl rfl (Nat.le_of_ble_eq_true rfl) dX7_begin_12 (fun H locs hP hD hS => ?_)
  have hP : va_P D vwCl (zw_ro tt kv (zu bv 0 (zu (zu (zu (bv 0) 2 1) 3 x1) 4 x2))) H := hP
  have hD : va_D A (zw_ro tt kv (zu bv 0 (zu (zu (zu (bv 0) 2 1) 3 x1) 4 x2))) := hD
  refine lv_aload_n hx hb dX7_begin_15 rfl (lv_at hl 0 rfl) ?_
  refine lv_iload_n hx hb dX7_begin_16 rfl (lv_at hl 3 rfl) ?_
  refine va_put (D := D) (ci := 7) (v := .int x3) (ty := .int) (C := RX7) (T := TX7) (N := 6) hx hb hts hi7 tyX7 tyX7_ok nmX7 hown hK.1 hP hD hS 0 rfl rfl 3 (by decide) fl29 (fun _ h9 => h9) rfl (by decide +kernel) rfl rfl (Nat.le_of_ble_eq_true rfl) dX7_begin_17 (fun H locs hP hD hS => ?_)
  have hP : va_P D vwCl (zw_ro tt kv (zu bv 0 (zu (zu (zu (zu (bv 0) 2 1) 3 x1) 4 x2) 5 x3))) H := hP
  have hD : va_D A (zw_ro tt kv (zu bv 0 (zu (zu (zu (zu (bv 0) 2 1) 3 x1) 4 x2) 5 x3))) := hD
  refine lv_iconst (v := 0) hx hb dX7_begin_20 (by decide) ?_
  refine lv_istore (lv' := [(4, .int 0), (0, .ref (kv 4)), (1, .int x1), (2, .int x2), (3, .int x3)]) hx hb dX7_begin_21 hl (by decide) rfl (fun ls hl => ?_)
  exact b23 1000 (zu bv 0 (zu (zu (zu (zu (bv 0) 2 1) 3 x1) 4 x2) 5 x3)) 0 _ _ _ hP hD hS (lv_sub hl [1, 0] rfl) h
set_option maxHeartbeats 4000000 in
set_option maxRecDepth 100000 in
theorem c_X0_sharesIn (l : Launch) (D : va_G) (tt : Nat → ClassId) (kv : Nat → Nat) (bv : zV) (x1 : Int32) (out : Int32) (h : f_X0_sharesIn bv x1 = some out) : Met l yX0_sharesIn wsX0_sharesIn { frames := 0, cells := 0, slots := 0, locals := 0 } (zPr [.ref (kv 2), .int x1] D tt (zw_ce tt kv bv)) (zQr .int out) 0 0 (fun _ => False) := by
  refine Met.ofW (cc := cX0_sharesIn) (maxL := 4) (ret := (some .int)) (by decide) rfl ?_
  intro p e s m args below meth c s₁ B hml hv
  obtain ⟨ha, hP, hK⟩ := hv
  have hx := B.exec
  have hb := B.bytes
  have hr := B.returns
  have hts := atoms_spec (ws := wsX0_sharesIn) B.pre
  have hown : s.vm.findClass RX0 = some m.cls := findClass_of_methodNamed B.named
  have hlocks := B.notSynchronized
  have hi0 : ∀ w ∈ u_ws RX0 TX0 4, w ∈ wsX0_sharesIn := fun _ h => List.mem_cons_of_mem _ (List.mem_append_right _ h)
  have fl15 := hts (.fieldLink RX0 15 "CapStacks$Certificates" "of" "[I") (by decide +kernel)
  have fl18 := hts (.fieldLink RX0 18 "CapStacks$Certificates" "shares" "[I") (by decide +kernel)
  have hfin : ∀ (v : Int32) (pc : Nat) (ls : Array Slot), some v = some out → narrow .int (.int v) = .int v → decode cX0_sharesIn pc = .ok (.ireturn, 1) → W p l e (headSpec wsX0_sharesIn { frames := 0, cells := 0, slots := 0, locals := 0 }).room s m args below meth c s.heap [] 0 0 (MQ below (zQr .int out) args s 0 0 (fun _ => False)) (F0 m pc ls [.int v]) := by
    intro v pc ls he hn hd
    cases he
    exact W.zret hx hb hr hn (fun t ht hW => ⟨rfl, hn, ht⟩) (fun _ h => by cases h) hd
  generalize MQ below (zQr .int out) args s 0 0 (fun _ => False) = Q at hfin ⊢
  have b4 : ∀ n : Nat, ∀ (x1 : Int32) (x2 : Int32) (x3 : Int32) (ls : Array Slot), lv_has ls 4 [(0, .ref (kv 2)), (1, .int x1), (2, .int x2), (3, .int x3)] → f_X0_sharesIn_b4 bv n x1 x2 x3 = some out → W p l e (headSpec wsX0_sharesIn { frames := 0, cells := 0, slots := 0, locals := 0 }).room s m args below meth c s.heap [] 0 0 Q (F0 m 4 ls []) := by
    intro n
    induction n with
    | zero =>
      intro x1 x2 x3 ls hl h
      cases h
    | succ n ih =>
      intro x1 x2 x3 ls hl h
      rw [f_X0_sharesIn_b4] at h
      refine lv_iload_n hx hb dX0_sharesIn_4 rfl (lv_at hl 3 rfl) ?_
      refine lv_bipush (v := 24) hx hb dX0_sharesIn_5 (by decide) ?_
      refine lv_icmp_ge (tgt := 35) hx hb dX0_sharesIn_7 (by decide) (fun k1 => ?_) (fun k1 => ?_)
      · replace h := z_pos k1 h
        refine lv_iload_n hx hb dX0_sharesIn_35 rfl (lv_at hl 2 rfl) ?_
        exact hfin _ _ _ h rfl dX0_sharesIn_36
      replace h := z_neg k1 h
      refine lv_aload_n hx hb dX0_sharesIn_10 rfl (lv_at hl 0 rfl) ?_
      refine va_get (D := D) (ci := 0) (v := .ref (kv 11)) (C := RX0) (T := TX0) (N := 4) hx hb hts hi0 hown hK.1 hP 0 rfl rfl 1 (by decide) fl15 (fun _ h9 => h9) rfl dX0_sharesIn_11 ?_
      refine lv_iload_n hx hb dX0_sharesIn_14 rfl (lv_at hl 3 rfl) ?_
      obtain ⟨q2, h⟩ := zA_some h
      refine va_iald hx hb hK.1 hP 2 0 rfl rfl q2 dX0_sharesIn_15 ?_
      refine lv_iload_n hx hb dX0_sharesIn_16 rfl (lv_at hl 1 rfl) ?_
      refine lv_icmp_ne (tgt := 29) hx hb dX0_sharesIn_17 (by decide) (fun k3 => ?_) (fun k3 => ?_)
      · replace h := z_neg k3 h
        refine lv_iinc (v := (x3 + 1)) (lv' := [(3, .int (x3 + 1)), (0, .ref (kv 2)), (1, .int x1), (2, .int x2)]) hx hb dX0_sharesIn_29 hl (k := 3) rfl rfl (by decide) rfl (fun ls hl => ?_)
        refine lv_goto (tgt := 4) hx hb dX0_sharesIn_32 (by decide) ?_
        exact ih x1 x2 (x3 + 1) _ (lv_sub hl [1, 2, 3, 0] rfl) h
      replace h := z_pos k3 h
      refine lv_iload_n hx hb dX0_sharesIn_20 rfl (lv_at hl 2 rfl) ?_
      refine lv_aload_n hx hb dX0_sharesIn_21 rfl (lv_at hl 0 rfl) ?_
      refine va_get (D := D) (ci := 0) (v := .ref (kv 12)) (C := RX0) (T := TX0) (N := 4) hx hb hts hi0 hown hK.1 hP 0 rfl rfl 2 (by decide) fl18 (fun _ h9 => h9) rfl dX0_sharesIn_22 ?_
      refine lv_iload_n hx hb dX0_sharesIn_25 rfl (lv_at hl 3 rfl) ?_
      refine va_iald hx hb hK.1 hP 3 0 rfl rfl q2 dX0_sharesIn_26 ?_
      refine lv_iadd hx hb dX0_sharesIn_27 ?_
      refine lv_istore_n (lv' := [(2, .int (x2 + ((bv 8) x3.toNatClampNeg))), (0, .ref (kv 2)), (1, .int x1), (3, .int x3)]) hx hb dX0_sharesIn_28 rfl hl (by decide) rfl (fun ls hl => ?_)
      refine lv_iinc (v := (x3 + 1)) (lv' := [(3, .int (x3 + 1)), (2, .int (x2 + ((bv 8) x3.toNatClampNeg))), (0, .ref (kv 2)), (1, .int x1)]) hx hb dX0_sharesIn_29 hl (k := 3) rfl rfl (by decide) rfl (fun ls hl => ?_)
      refine lv_goto (tgt := 4) hx hb dX0_sharesIn_32 (by decide) ?_
      exact ih x1 (x2 + ((bv 8) x3.toNatClampNeg)) (x3 + 1) _ (lv_sub hl [2, 3, 1, 0] rfl) h
  have hl := lv_entry ([.ref (kv 2), .int x1]) (n := 4) (Nat.le_of_ble_eq_true rfl)
  refine W.eq (g2 := F0 m 0 ((lg_sl ([.ref (kv 2), .int x1]) ++ List.replicate (4 - (lg_sl ([.ref (kv 2), .int x1])).length) Slot.unset).toArray) []) (by rw [ha]; exact lg_entry_eq _ _ _) ?_
  generalize (lg_sl ([.ref (kv 2), .int x1]) ++ List.replicate (4 - (lg_sl ([.ref (kv 2), .int x1])).length) Slot.unset).toArray = ls at hl ⊢
  have hl : lv_has ls 4 [(0, .ref (kv 2)), (1, .int x1)] := hl
  rw [f_X0_sharesIn] at h
  refine lv_iconst (v := 0) hx hb dX0_sharesIn_0 (by decide) ?_
  refine lv_istore_n (lv' := [(2, .int 0), (0, .ref (kv 2)), (1, .int x1)]) hx hb dX0_sharesIn_1 rfl hl (by decide) rfl (fun ls hl => ?_)
  refine lv_iconst (v := 0) hx hb dX0_sharesIn_2 (by decide) ?_
  refine lv_istore_n (lv' := [(3, .int 0), (2, .int 0), (0, .ref (kv 2)), (1, .int x1)]) hx hb dX0_sharesIn_3 rfl hl (by decide) rfl (fun ls hl => ?_)
  exact b4 1000 x1 0 0 _ (lv_sub hl [2, 3, 1, 0] rfl) h
set_option maxHeartbeats 4000000 in
set_option maxRecDepth 100000 in
theorem c_X1_common (l : Launch) (D : va_G) (tt : Nat → ClassId) (kv : Nat → Nat) (bv : zV) (x1 : Int32) (x2 : Int32) (out : Int32) (h : f_X1_common bv x1 x2 = some out) : Met l yX1_common wsX1_common { frames := 0, cells := 0, slots := 0, locals := 0 } (zPr [.ref (kv 1), .int x1, .int x2] D tt (zw_cl tt kv bv)) (zQr .int out) 0 0 (fun _ => False) := by
  refine Met.ofW (cc := cX1_common) (maxL := 3) (ret := (some .int)) (by decide) rfl ?_
  intro p e s m args below meth c s₁ B hml hv
  obtain ⟨ha, hP, hK⟩ := hv
  have hx := B.exec
  have hb := B.bytes
  have hr := B.returns
  have hts := atoms_spec (ws := wsX1_common) B.pre
  have hown : s.vm.findClass RX1 = some m.cls := findClass_of_methodNamed B.named
  have hlocks := B.notSynchronized
  have hi1 : ∀ w ∈ u_ws RX1 TX1 6, w ∈ wsX1_common := fun _ h => List.mem_cons_of_mem _ (List.mem_append_right _ h)
  have fl28 := hts (.fieldLink RX1 28 "CapStacks$Classes" "ratio" "[I") (by decide +kernel)
  have hfin : ∀ (v : Int32) (pc : Nat) (ls : Array Slot), some v = some out → narrow .int (.int v) = .int v → decode cX1_common pc = .ok (.ireturn, 1) → W p l e (headSpec wsX1_common { frames := 0, cells := 0, slots := 0, locals := 0 }).room s m args below meth c s.heap [] 0 0 (MQ below (zQr .int out) args s 0 0 (fun _ => False)) (F0 m pc ls [.int v]) := by
    intro v pc ls he hn hd
    cases he
    exact W.zret hx hb hr hn (fun t ht hW => ⟨rfl, hn, ht⟩) (fun _ h => by cases h) hd
  generalize MQ below (zQr .int out) args s 0 0 (fun _ => False) = Q at hfin ⊢
  have hl := lv_entry ([.ref (kv 1), .int x1, .int x2]) (n := 3) (Nat.le_of_ble_eq_true rfl)
  refine W.eq (g2 := F0 m 0 ((lg_sl ([.ref (kv 1), .int x1, .int x2]) ++ List.replicate (3 - (lg_sl ([.ref (kv 1), .int x1, .int x2])).length) Slot.unset).toArray) []) (by rw [ha]; exact lg_entry_eq _ _ _) ?_
  generalize (lg_sl ([.ref (kv 1), .int x1, .int x2]) ++ List.replicate (3 - (lg_sl ([.ref (kv 1), .int x1, .int x2])).length) Slot.unset).toArray = ls at hl ⊢
  have hl : lv_has ls 3 [(0, .ref (kv 1)), (1, .int x1), (2, .int x2)] := hl
  rw [f_X1_common] at h
  refine lv_iload_n hx hb dX1_common_0 rfl (lv_at hl 2 rfl) ?_
  refine lv_aload_n hx hb dX1_common_1 rfl (lv_at hl 0 rfl) ?_
  refine va_get (D := D) (ci := 1) (v := .ref (kv 9)) (C := RX1) (T := TX1) (N := 6) hx hb hts hi1 hown hK.1 hP 0 rfl rfl 5 (by decide) fl28 (fun _ h9 => h9) rfl dX1_common_2 ?_
  refine lv_iload_n hx hb dX1_common_5 rfl (lv_at hl 1 rfl) ?_
  obtain ⟨q1, h⟩ := zA_some h
  refine va_iald hx hb hK.1 hP 5 0 rfl rfl q1 dX1_common_6 ?_
  refine lv_imul hx hb dX1_common_7 ?_
  exact hfin _ _ _ h rfl dX1_common_8
set_option maxHeartbeats 4000000 in
set_option maxRecDepth 100000 in
theorem c_X0_sharesOwned (l : Launch) (D : va_G) (tt : Nat → ClassId) (kv : Nat → Nat) (bv : zV) (x1 : Int32) (x2 : Int32) (out : Int32) (h : f_X0_sharesOwned bv x1 x2 = some out) : Met l yX0_sharesOwned wsX0_sharesOwned { frames := 0, cells := 0, slots := 0, locals := 0 } (zPr [.ref (kv 2), .int x1, .int x2] D tt (zw_ce tt kv bv)) (zQr .int out) 0 0 (fun _ => False) := by
  refine Met.ofW (cc := cX0_sharesOwned) (maxL := 5) (ret := (some .int)) (by decide) rfl ?_
  intro p e s m args below meth c s₁ B hml hv
  obtain ⟨ha, hP, hK⟩ := hv
  have hx := B.exec
  have hb := B.bytes
  have hr := B.returns
  have hts := atoms_spec (ws := wsX0_sharesOwned) B.pre
  have hown : s.vm.findClass RX0 = some m.cls := findClass_of_methodNamed B.named
  have hlocks := B.notSynchronized
  have hi0 : ∀ w ∈ u_ws RX0 TX0 4, w ∈ wsX0_sharesOwned := fun _ h => List.mem_cons_of_mem _ (List.mem_append_right _ h)
  have fl15 := hts (.fieldLink RX0 15 "CapStacks$Certificates" "of" "[I") (by decide +kernel)
  have fl18 := hts (.fieldLink RX0 18 "CapStacks$Certificates" "shares" "[I") (by decide +kernel)
  have fl9 := hts (.fieldLink RX0 9 "CapStacks$Certificates" "holder" "[I") (by decide +kernel)
  have hfin : ∀ (v : Int32) (pc : Nat) (ls : Array Slot), some v = some out → narrow .int (.int v) = .int v → decode cX0_sharesOwned pc = .ok (.ireturn, 1) → W p l e (headSpec wsX0_sharesOwned { frames := 0, cells := 0, slots := 0, locals := 0 }).room s m args below meth c s.heap [] 0 0 (MQ below (zQr .int out) args s 0 0 (fun _ => False)) (F0 m pc ls [.int v]) := by
    intro v pc ls he hn hd
    cases he
    exact W.zret hx hb hr hn (fun t ht hW => ⟨rfl, hn, ht⟩) (fun _ h => by cases h) hd
  generalize MQ below (zQr .int out) args s 0 0 (fun _ => False) = Q at hfin ⊢
  have b5 : ∀ n : Nat, ∀ (x1 : Int32) (x2 : Int32) (x3 : Int32) (x4 : Int32) (ls : Array Slot), lv_has ls 5 [(0, .ref (kv 2)), (1, .int x1), (2, .int x2), (3, .int x3), (4, .int x4)] → f_X0_sharesOwned_b5 bv n x1 x2 x3 x4 = some out → W p l e (headSpec wsX0_sharesOwned { frames := 0, cells := 0, slots := 0, locals := 0 }).room s m args below meth c s.heap [] 0 0 Q (F0 m 5 ls []) := by
    intro n
    induction n with
    | zero =>
      intro x1 x2 x3 x4 ls hl h
      cases h
    | succ n ih =>
      intro x1 x2 x3 x4 ls hl h
      rw [f_X0_sharesOwned_b5] at h
      refine lv_iload hx hb dX0_sharesOwned_5 (lv_at hl 4 rfl) ?_
      refine lv_bipush (v := 24) hx hb dX0_sharesOwned_7 (by decide) ?_
      refine lv_icmp_ge (tgt := 50) hx hb dX0_sharesOwned_9 (by decide) (fun k1 => ?_) (fun k1 => ?_)
      · replace h := z_pos k1 h
        refine lv_iload_n hx hb dX0_sharesOwned_50 rfl (lv_at hl 3 rfl) ?_
        exact hfin _ _ _ h rfl dX0_sharesOwned_51
      replace h := z_neg k1 h
      refine lv_aload_n hx hb dX0_sharesOwned_12 rfl (lv_at hl 0 rfl) ?_
      refine va_get (D := D) (ci := 0) (v := .ref (kv 11)) (C := RX0) (T := TX0) (N := 4) hx hb hts hi0 hown hK.1 hP 0 rfl rfl 1 (by decide) fl15 (fun _ h9 => h9) rfl dX0_sharesOwned_13 ?_
      refine lv_iload hx hb dX0_sharesOwned_16 (lv_at hl 4 rfl) ?_
      obtain ⟨q2, h⟩ := zA_some h
      refine va_iald hx hb hK.1 hP 2 0 rfl rfl q2 dX0_sharesOwned_18 ?_
      refine lv_iload_n hx hb dX0_sharesOwned_19 rfl (lv_at hl 2 rfl) ?_
      refine lv_icmp_ne (tgt := 44) hx hb dX0_sharesOwned_20 (by decide) (fun k3 => ?_) (fun k3 => ?_)
      · replace h := z_neg k3 h
        refine lv_iinc (v := (x4 + 1)) (lv' := [(4, .int (x4 + 1)), (0, .ref (kv 2)), (1, .int x1), (2, .int x2), (3, .int x3)]) hx hb dX0_sharesOwned_44 hl (k := 4) rfl rfl (by decide) rfl (fun ls hl => ?_)
        refine lv_goto (tgt := 5) hx hb dX0_sharesOwned_47 (by decide) ?_
        exact ih x1 x2 x3 (x4 + 1) _ (lv_sub hl [1, 2, 3, 4, 0] rfl) h
      replace h := z_pos k3 h
      refine lv_aload_n hx hb dX0_sharesOwned_23 rfl (lv_at hl 0 rfl) ?_
      refine va_get (D := D) (ci := 0) (v := .ref (kv 10)) (C := RX0) (T := TX0) (N := 4) hx hb hts hi0 hown hK.1 hP 0 rfl rfl 0 (by decide) fl9 (fun _ h9 => h9) rfl dX0_sharesOwned_24 ?_
      refine lv_iload hx hb dX0_sharesOwned_27 (lv_at hl 4 rfl) ?_
      refine va_iald hx hb hK.1 hP 1 0 rfl rfl q2 dX0_sharesOwned_29 ?_
      refine lv_iload_n hx hb dX0_sharesOwned_30 rfl (lv_at hl 1 rfl) ?_
      refine lv_icmp_ne (tgt := 44) hx hb dX0_sharesOwned_31 (by decide) (fun k4 => ?_) (fun k4 => ?_)
      · replace h := z_neg k4 h
        refine lv_iinc (v := (x4 + 1)) (lv' := [(4, .int (x4 + 1)), (0, .ref (kv 2)), (1, .int x1), (2, .int x2), (3, .int x3)]) hx hb dX0_sharesOwned_44 hl (k := 4) rfl rfl (by decide) rfl (fun ls hl => ?_)
        refine lv_goto (tgt := 5) hx hb dX0_sharesOwned_47 (by decide) ?_
        exact ih x1 x2 x3 (x4 + 1) _ (lv_sub hl [1, 2, 3, 4, 0] rfl) h
      replace h := z_pos k4 h
      refine lv_iload_n hx hb dX0_sharesOwned_34 rfl (lv_at hl 3 rfl) ?_
      refine lv_aload_n hx hb dX0_sharesOwned_35 rfl (lv_at hl 0 rfl) ?_
      refine va_get (D := D) (ci := 0) (v := .ref (kv 12)) (C := RX0) (T := TX0) (N := 4) hx hb hts hi0 hown hK.1 hP 0 rfl rfl 2 (by decide) fl18 (fun _ h9 => h9) rfl dX0_sharesOwned_36 ?_
      refine lv_iload hx hb dX0_sharesOwned_39 (lv_at hl 4 rfl) ?_
      refine va_iald hx hb hK.1 hP 3 0 rfl rfl q2 dX0_sharesOwned_41 ?_
      refine lv_iadd hx hb dX0_sharesOwned_42 ?_
      refine lv_istore_n (lv' := [(3, .int (x3 + ((bv 8) x4.toNatClampNeg))), (0, .ref (kv 2)), (1, .int x1), (2, .int x2), (4, .int x4)]) hx hb dX0_sharesOwned_43 rfl hl (by decide) rfl (fun ls hl => ?_)
      refine lv_iinc (v := (x4 + 1)) (lv' := [(4, .int (x4 + 1)), (3, .int (x3 + ((bv 8) x4.toNatClampNeg))), (0, .ref (kv 2)), (1, .int x1), (2, .int x2)]) hx hb dX0_sharesOwned_44 hl (k := 4) rfl rfl (by decide) rfl (fun ls hl => ?_)
      refine lv_goto (tgt := 5) hx hb dX0_sharesOwned_47 (by decide) ?_
      exact ih x1 x2 (x3 + ((bv 8) x4.toNatClampNeg)) (x4 + 1) _ (lv_sub hl [2, 3, 4, 1, 0] rfl) h
  have hl := lv_entry ([.ref (kv 2), .int x1, .int x2]) (n := 5) (Nat.le_of_ble_eq_true rfl)
  refine W.eq (g2 := F0 m 0 ((lg_sl ([.ref (kv 2), .int x1, .int x2]) ++ List.replicate (5 - (lg_sl ([.ref (kv 2), .int x1, .int x2])).length) Slot.unset).toArray) []) (by rw [ha]; exact lg_entry_eq _ _ _) ?_
  generalize (lg_sl ([.ref (kv 2), .int x1, .int x2]) ++ List.replicate (5 - (lg_sl ([.ref (kv 2), .int x1, .int x2])).length) Slot.unset).toArray = ls at hl ⊢
  have hl : lv_has ls 5 [(0, .ref (kv 2)), (1, .int x1), (2, .int x2)] := hl
  rw [f_X0_sharesOwned] at h
  refine lv_iconst (v := 0) hx hb dX0_sharesOwned_0 (by decide) ?_
  refine lv_istore_n (lv' := [(3, .int 0), (0, .ref (kv 2)), (1, .int x1), (2, .int x2)]) hx hb dX0_sharesOwned_1 rfl hl (by decide) rfl (fun ls hl => ?_)
  refine lv_iconst (v := 0) hx hb dX0_sharesOwned_2 (by decide) ?_
  refine lv_istore (lv' := [(4, .int 0), (3, .int 0), (0, .ref (kv 2)), (1, .int x1), (2, .int x2)]) hx hb dX0_sharesOwned_3 hl (by decide) rfl (fun ls hl => ?_)
  exact b5 1000 x1 x2 0 0 _ (lv_sub hl [2, 3, 4, 1, 0] rfl) h
set_option maxHeartbeats 4000000 in
set_option maxRecDepth 100000 in
theorem c_X7_notTakenUp (l : Launch) (D : va_G) (tt : Nat → ClassId) (kv : Nat → Nat) (bv : zV)  (out : Int32) (h : f_X7_notTakenUp bv = some out) : Met l yX7_notTakenUp wsX7_notTakenUp { frames := 0, cells := 0, slots := 0, locals := 0 } (zPr [.ref (kv 4)] D tt (zw_ro tt kv bv)) (zQr .int out) 0 0 (fun _ => False) := by
  refine Met.ofW (cc := cX7_notTakenUp) (maxL := 3) (ret := (some .int)) (by decide) rfl ?_
  intro p e s m args below meth c s₁ B hml hv
  obtain ⟨ha, hP, hK⟩ := hv
  have hx := B.exec
  have hb := B.bytes
  have hr := B.returns
  have hts := atoms_spec (ws := wsX7_notTakenUp) B.pre
  have hown : s.vm.findClass RX7 = some m.cls := findClass_of_methodNamed B.named
  have hlocks := B.notSynchronized
  have hi7 : ∀ w ∈ u_ws RX7 TX7 6, w ∈ wsX7_notTakenUp := fun _ h => List.mem_cons_of_mem _ (List.mem_append_right _ h)
  have fl15 := hts (.fieldLink RX7 15 "CapStacks$Round" "takenUp" "[I") (by decide +kernel)
  have fl26 := hts (.fieldLink RX7 26 "CapStacks$Round" "shares" "I") (by decide +kernel)
  have hfin : ∀ (v : Int32) (pc : Nat) (ls : Array Slot), some v = some out → narrow .int (.int v) = .int v → decode cX7_notTakenUp pc = .ok (.ireturn, 1) → W p l e (headSpec wsX7_notTakenUp { frames := 0, cells := 0, slots := 0, locals := 0 }).room s m args below meth c s.heap [] 0 0 (MQ below (zQr .int out) args s 0 0 (fun _ => False)) (F0 m pc ls [.int v]) := by
    intro v pc ls he hn hd
    cases he
    exact W.zret hx hb hr hn (fun t ht hW => ⟨rfl, hn, ht⟩) (fun _ h => by cases h) hd
  generalize MQ below (zQr .int out) args s 0 0 (fun _ => False) = Q at hfin ⊢
  have b7 : ∀ n : Nat, ∀ (x1 : Int32) (x2 : Int32) (ls : Array Slot), lv_has ls 3 [(0, .ref (kv 4)), (1, .int x1), (2, .int x2)] → f_X7_notTakenUp_b7 bv n x1 x2 = some out → W p l e (headSpec wsX7_notTakenUp { frames := 0, cells := 0, slots := 0, locals := 0 }).room s m args below meth c s.heap [] 0 0 Q (F0 m 7 ls []) := by
    intro n
    induction n with
    | zero =>
      intro x1 x2 ls hl h
      cases h
    | succ n ih =>
      intro x1 x2 ls hl h
      rw [f_X7_notTakenUp_b7] at h
      refine lv_iload_n hx hb dX7_notTakenUp_7 rfl (lv_at hl 2 rfl) ?_
      refine lv_bipush (v := 8) hx hb dX7_notTakenUp_8 (by decide) ?_
      refine lv_icmp_ge (tgt := 28) hx hb dX7_notTakenUp_10 (by decide) (fun k1 => ?_) (fun k1 => ?_)
      · replace h := z_pos k1 h
        refine lv_iload_n hx hb dX7_notTakenUp_28 rfl (lv_at hl 1 rfl) ?_
        exact hfin _ _ _ h rfl dX7_notTakenUp_29
      replace h := z_neg k1 h
      refine lv_iload_n hx hb dX7_notTakenUp_13 rfl (lv_at hl 1 rfl) ?_
      refine lv_aload_n hx hb dX7_notTakenUp_14 rfl (lv_at hl 0 rfl) ?_
      refine va_get (D := D) (ci := 7) (v := .ref (kv 22)) (C := RX7) (T := TX7) (N := 6) hx hb hts hi7 hown hK.1 hP 0 rfl rfl 5 (by decide) fl15 (fun _ h9 => h9) rfl dX7_notTakenUp_15 ?_
      refine lv_iload_n hx hb dX7_notTakenUp_18 rfl (lv_at hl 2 rfl) ?_
      obtain ⟨q2, h⟩ := zA_some h
      refine va_iald hx hb hK.1 hP 2 0 rfl rfl q2 dX7_notTakenUp_19 ?_
      refine lv_isub hx hb dX7_notTakenUp_20 ?_
      refine lv_istore_n (lv' := [(1, .int (x1 - ((bv 18) x2.toNatClampNeg))), (0, .ref (kv 4)), (2, .int x2)]) hx hb dX7_notTakenUp_21 rfl hl (by decide) rfl (fun ls hl => ?_)
      refine lv_iinc (v := (x2 + 1)) (lv' := [(2, .int (x2 + 1)), (1, .int (x1 - ((bv 18) x2.toNatClampNeg))), (0, .ref (kv 4))]) hx hb dX7_notTakenUp_22 hl (k := 2) rfl rfl (by decide) rfl (fun ls hl => ?_)
      refine lv_goto (tgt := 7) hx hb dX7_notTakenUp_25 (by decide) ?_
      exact ih (x1 - ((bv 18) x2.toNatClampNeg)) (x2 + 1) _ (lv_sub hl [2, 1, 0] rfl) h
  have hl := lv_entry ([.ref (kv 4)]) (n := 3) (Nat.le_of_ble_eq_true rfl)
  refine W.eq (g2 := F0 m 0 ((lg_sl ([.ref (kv 4)]) ++ List.replicate (3 - (lg_sl ([.ref (kv 4)])).length) Slot.unset).toArray) []) (by rw [ha]; exact lg_entry_eq _ _ _) ?_
  generalize (lg_sl ([.ref (kv 4)]) ++ List.replicate (3 - (lg_sl ([.ref (kv 4)])).length) Slot.unset).toArray = ls at hl ⊢
  have hl : lv_has ls 3 [(0, .ref (kv 4))] := hl
  rw [f_X7_notTakenUp] at h
  refine lv_aload_n hx hb dX7_notTakenUp_0 rfl (lv_at hl 0 rfl) ?_
  refine va_get (D := D) (ci := 7) (v := .int (bv 0 4)) (C := RX7) (T := TX7) (N := 6) hx hb hts hi7 hown hK.1 hP 0 rfl rfl 2 (by decide) fl26 (fun _ h9 => h9) rfl dX7_notTakenUp_1 ?_
  refine lv_istore_n (lv' := [(1, .int (bv 0 4)), (0, .ref (kv 4))]) hx hb dX7_notTakenUp_4 rfl hl (by decide) rfl (fun ls hl => ?_)
  refine lv_iconst (v := 0) hx hb dX7_notTakenUp_5 (by decide) ?_
  refine lv_istore_n (lv' := [(2, .int 0), (1, .int (bv 0 4)), (0, .ref (kv 4))]) hx hb dX7_notTakenUp_6 rfl hl (by decide) rfl (fun ls hl => ?_)
  exact b7 1000 (bv 0 4) 0 _ (lv_sub hl [2, 1, 0] rfl) h
set_option maxHeartbeats 4000000 in
set_option maxRecDepth 100000 in
theorem c_X7_certificatesToMake (l : Launch) (D : va_G) (tt : Nat → ClassId) (kv : Nat → Nat) (bv : zV)  (out : Int32) (h : f_X7_certificatesToMake bv = some out) : Met l yX7_certificatesToMake wsX7_certificatesToMake { frames := 1, cells := 0, slots := 0, locals := 22 } (zPr [.ref (kv 4)] D tt (zw_ro tt kv bv)) (zQr .int out) 0 0 (fun _ => False) := by
  refine Met.ofW (cc := cX7_certificatesToMake) (maxL := 3) (ret := (some .int)) (by decide) rfl ?_
  intro p e s m args below meth c s₁ B hml hv
  obtain ⟨ha, hP, hK⟩ := hv
  have hx := B.exec
  have hb := B.bytes
  have hr := B.returns
  have hts := atoms_spec (ws := wsX7_certificatesToMake) B.pre
  have hown : s.vm.findClass RX7 = some m.cls := findClass_of_methodNamed B.named
  have hlocks := B.notSynchronized
  have hi7 : ∀ w ∈ u_ws RX7 TX7 6, w ∈ wsX7_certificatesToMake := fun _ h => List.mem_cons_of_mem _ (List.mem_append_right _ h)
  have fl15 := hts (.fieldLink RX7 15 "CapStacks$Round" "takenUp" "[I") (by decide +kernel)
  have hfin : ∀ (v : Int32) (pc : Nat) (ls : Array Slot), some v = some out → narrow .int (.int v) = .int v → decode cX7_certificatesToMake pc = .ok (.ireturn, 1) → W p l e (headSpec wsX7_certificatesToMake { frames := 1, cells := 0, slots := 0, locals := 22 }).room s m args below meth c s.heap [] 0 0 (MQ below (zQr .int out) args s 0 0 (fun _ => False)) (F0 m pc ls [.int v]) := by
    intro v pc ls he hn hd
    cases he
    exact W.zret hx hb hr hn (fun t ht hW => ⟨rfl, hn, ht⟩) (fun _ h => by cases h) hd
  generalize MQ below (zQr .int out) args s 0 0 (fun _ => False) = Q at hfin ⊢
  have b15 : ∀ n : Nat, ∀ (x1 : Int32) (x2 : Int32) (ls : Array Slot), lv_has ls 3 [(0, .ref (kv 4)), (1, .int x1), (2, .int x2)] → f_X7_certificatesToMake_b15 bv n x1 x2 = some out → W p l e (headSpec wsX7_certificatesToMake { frames := 1, cells := 0, slots := 0, locals := 22 }).room s m args below meth c s.heap [] 0 0 Q (F0 m 15 ls []) := by
    intro n
    induction n with
    | zero =>
      intro x1 x2 ls hl h
      cases h
    | succ n ih =>
      intro x1 x2 ls hl h
      rw [f_X7_certificatesToMake_b15] at h
      refine lv_iload_n hx hb dX7_certificatesToMake_15 rfl (lv_at hl 2 rfl) ?_
      refine lv_bipush (v := 8) hx hb dX7_certificatesToMake_16 (by decide) ?_
      refine lv_icmp_ge (tgt := 39) hx hb dX7_certificatesToMake_18 (by decide) (fun k1 => ?_) (fun k1 => ?_)
      · replace h := z_pos k1 h
        refine lv_iload_n hx hb dX7_certificatesToMake_39 rfl (lv_at hl 1 rfl) ?_
        exact hfin _ _ _ h rfl dX7_certificatesToMake_40
      replace h := z_neg k1 h
      refine lv_aload_n hx hb dX7_certificatesToMake_21 rfl (lv_at hl 0 rfl) ?_
      refine va_get (D := D) (ci := 7) (v := .ref (kv 22)) (C := RX7) (T := TX7) (N := 6) hx hb hts hi7 hown hK.1 hP 0 rfl rfl 5 (by decide) fl15 (fun _ h9 => h9) rfl dX7_certificatesToMake_22 ?_
      refine lv_iload_n hx hb dX7_certificatesToMake_25 rfl (lv_at hl 2 rfl) ?_
      obtain ⟨q2, h⟩ := zA_some h
      refine va_iald hx hb hK.1 hP 2 0 rfl rfl q2 dX7_certificatesToMake_26 ?_
      refine lv_if_le (tgt := 33) hx hb dX7_certificatesToMake_27 (by decide) (fun k3 => ?_) (fun k3 => ?_)
      · replace h := z_pos k3 h
        refine lv_iinc (v := (x2 + 1)) (lv' := [(2, .int (x2 + 1)), (0, .ref (kv 4)), (1, .int x1)]) hx hb dX7_certificatesToMake_33 hl (k := 2) rfl rfl (by decide) rfl (fun ls hl => ?_)
        refine lv_goto (tgt := 15) hx hb dX7_certificatesToMake_36 (by decide) ?_
        exact ih x1 (x2 + 1) _ (lv_sub hl [1, 2, 0] rfl) h
      replace h := z_neg k3 h
      refine lv_iinc (v := (x1 + 1)) (lv' := [(1, .int (x1 + 1)), (0, .ref (kv 4)), (2, .int x2)]) hx hb dX7_certificatesToMake_30 hl (k := 1) rfl rfl (by decide) rfl (fun ls hl => ?_)
      refine lv_iinc (v := (x2 + 1)) (lv' := [(2, .int (x2 + 1)), (1, .int (x1 + 1)), (0, .ref (kv 4))]) hx hb dX7_certificatesToMake_33 hl (k := 2) rfl rfl (by decide) rfl (fun ls hl => ?_)
      refine lv_goto (tgt := 15) hx hb dX7_certificatesToMake_36 (by decide) ?_
      exact ih (x1 + 1) (x2 + 1) _ (lv_sub hl [2, 1, 0] rfl) h
  have hl := lv_entry ([.ref (kv 4)]) (n := 3) (Nat.le_of_ble_eq_true rfl)
  refine W.eq (g2 := F0 m 0 ((lg_sl ([.ref (kv 4)]) ++ List.replicate (3 - (lg_sl ([.ref (kv 4)])).length) Slot.unset).toArray) []) (by rw [ha]; exact lg_entry_eq _ _ _) ?_
  generalize (lg_sl ([.ref (kv 4)]) ++ List.replicate (3 - (lg_sl ([.ref (kv 4)])).length) Slot.unset).toArray = ls at hl ⊢
  have hl : lv_has ls 3 [(0, .ref (kv 4))] := hl
  rw [f_X7_certificatesToMake] at h
  refine lv_aload_n hx hb dX7_certificatesToMake_0 rfl (lv_at hl 0 rfl) ?_
  obtain ⟨y4, gy4, h⟩ := zb_some h
  refine z_callr (va_runV (As := []) (rest := []) ⟨hx, hb, hml, hown, hts⟩ (c_X7_notTakenUp l D tt kv bv y4 gy4) (cwV 0 hts gX7_certificatesToMake_X7_notTakenUp rfl rfl rfl (by decide +kernel) ⟨Nat.le_of_ble_eq_true rfl, Nat.le_of_ble_eq_true rfl⟩) (z_preVr hK hP (ci := 7) (q0 := 0) rfl rfl) rfl rfl hl.1 rfl (lv_room (Nat.le_of_ble_eq_true rfl)) dX7_certificatesToMake_1 ⟨Nat.zero_le _, Nat.zero_le _⟩) (fun ny4 => ?_)
  refine lv_if_le (tgt := 11) hx hb dX7_certificatesToMake_4 (by decide) (fun k5 => ?_) (fun k5 => ?_)
  · replace h := z_pos k5 h
    refine lv_iconst (v := 0) hx hb dX7_certificatesToMake_11 (by decide) ?_
    refine lv_istore_n (lv' := [(1, .int 0), (0, .ref (kv 4))]) hx hb dX7_certificatesToMake_12 rfl hl (by decide) rfl (fun ls hl => ?_)
    refine lv_iconst (v := 0) hx hb dX7_certificatesToMake_13 (by decide) ?_
    refine lv_istore_n (lv' := [(2, .int 0), (1, .int 0), (0, .ref (kv 4))]) hx hb dX7_certificatesToMake_14 rfl hl (by decide) rfl (fun ls hl => ?_)
    exact b15 1000 0 0 _ (lv_sub hl [2, 1, 0] rfl) h
  replace h := z_neg k5 h
  refine lv_iconst (v := 1) hx hb dX7_certificatesToMake_7 (by decide) ?_
  refine lv_goto (tgt := 12) hx hb dX7_certificatesToMake_8 (by decide) ?_
  refine lv_istore_n (lv' := [(1, .int 1), (0, .ref (kv 4))]) hx hb dX7_certificatesToMake_12 rfl hl (by decide) rfl (fun ls hl => ?_)
  refine lv_iconst (v := 0) hx hb dX7_certificatesToMake_13 (by decide) ?_
  refine lv_istore_n (lv' := [(2, .int 0), (1, .int 1), (0, .ref (kv 4))]) hx hb dX7_certificatesToMake_14 rfl hl (by decide) rfl (fun ls hl => ?_)
  exact b15 1000 1 0 _ (lv_sub hl [2, 1, 0] rfl) h
set_option maxHeartbeats 4000000 in
set_option maxRecDepth 100000 in
theorem c_X1_preference (l : Launch) (D : va_G) (tt : Nat → ClassId) (kv : Nat → Nat) (bv : zV) (x1 : Int32) (x2 : Int32) (out : Int32) (h : f_X1_preference bv x1 x2 = some out) : Met l yX1_preference wsX1_preference { frames := 0, cells := 0, slots := 0, locals := 0 } (zPr [.ref (kv 1), .int x1, .int x2] D tt (zw_cl tt kv bv)) (zQr .int out) 0 0 (fun _ => False) := by
  refine Met.ofW (cc := cX1_preference) (maxL := 3) (ret := (some .int)) (by decide) rfl ?_
  intro p e s m args below meth c s₁ B hml hv
  obtain ⟨ha, hP, hK⟩ := hv
  have hx := B.exec
  have hb := B.bytes
  have hr := B.returns
  have hts := atoms_spec (ws := wsX1_preference) B.pre
  have hown : s.vm.findClass RX1 = some m.cls := findClass_of_methodNamed B.named
  have hlocks := B.notSynchronized
  have hi1 : ∀ w ∈ u_ws RX1 TX1 6, w ∈ wsX1_preference := fun _ h => List.mem_cons_of_mem _ (List.mem_append_right _ h)
  have fl15 := hts (.fieldLink RX1 15 "CapStacks$Classes" "price" "[I") (by decide +kernel)
  have fl19 := hts (.fieldLink RX1 19 "CapStacks$Classes" "multiple" "[I") (by decide +kernel)
  have hfin : ∀ (v : Int32) (pc : Nat) (ls : Array Slot), some v = some out → narrow .int (.int v) = .int v → decode cX1_preference pc = .ok (.ireturn, 1) → W p l e (headSpec wsX1_preference { frames := 0, cells := 0, slots := 0, locals := 0 }).room s m args below meth c s.heap [] 0 0 (MQ below (zQr .int out) args s 0 0 (fun _ => False)) (F0 m pc ls [.int v]) := by
    intro v pc ls he hn hd
    cases he
    exact W.zret hx hb hr hn (fun t ht hW => ⟨rfl, hn, ht⟩) (fun _ h => by cases h) hd
  generalize MQ below (zQr .int out) args s 0 0 (fun _ => False) = Q at hfin ⊢
  have hl := lv_entry ([.ref (kv 1), .int x1, .int x2]) (n := 3) (Nat.le_of_ble_eq_true rfl)
  refine W.eq (g2 := F0 m 0 ((lg_sl ([.ref (kv 1), .int x1, .int x2]) ++ List.replicate (3 - (lg_sl ([.ref (kv 1), .int x1, .int x2])).length) Slot.unset).toArray) []) (by rw [ha]; exact lg_entry_eq _ _ _) ?_
  generalize (lg_sl ([.ref (kv 1), .int x1, .int x2]) ++ List.replicate (3 - (lg_sl ([.ref (kv 1), .int x1, .int x2])).length) Slot.unset).toArray = ls at hl ⊢
  have hl : lv_has ls 3 [(0, .ref (kv 1)), (1, .int x1), (2, .int x2)] := hl
  rw [f_X1_preference] at h
  refine lv_iload_n hx hb dX1_preference_0 rfl (lv_at hl 2 rfl) ?_
  refine lv_aload_n hx hb dX1_preference_1 rfl (lv_at hl 0 rfl) ?_
  refine va_get (D := D) (ci := 1) (v := .ref (kv 5)) (C := RX1) (T := TX1) (N := 6) hx hb hts hi1 hown hK.1 hP 0 rfl rfl 1 (by decide) fl15 (fun _ h9 => h9) rfl dX1_preference_2 ?_
  refine lv_iload_n hx hb dX1_preference_5 rfl (lv_at hl 1 rfl) ?_
  obtain ⟨q1, h⟩ := zA_some h
  refine va_iald hx hb hK.1 hP 1 0 rfl rfl q1 dX1_preference_6 ?_
  refine lv_imul hx hb dX1_preference_7 ?_
  refine lv_aload_n hx hb dX1_preference_8 rfl (lv_at hl 0 rfl) ?_
  refine va_get (D := D) (ci := 1) (v := .ref (kv 6)) (C := RX1) (T := TX1) (N := 6) hx hb hts hi1 hown hK.1 hP 0 rfl rfl 2 (by decide) fl19 (fun _ h9 => h9) rfl dX1_preference_9 ?_
  refine lv_iload_n hx hb dX1_preference_12 rfl (lv_at hl 1 rfl) ?_
  refine va_iald hx hb hK.1 hP 2 0 rfl rfl q1 dX1_preference_13 ?_
  refine lv_imul hx hb dX1_preference_14 ?_
  exact hfin _ _ _ h rfl dX1_preference_15
set_option maxHeartbeats 4000000 in
set_option maxRecDepth 100000 in
theorem c_X0_sizeOf (l : Launch) (D : va_G) (tt : Nat → ClassId) (kv : Nat → Nat) (bv : zV) (x1 : Int32) (out : Int32) (h : f_X0_sizeOf bv x1 = some out) : Met l yX0_sizeOf wsX0_sizeOf { frames := 0, cells := 0, slots := 0, locals := 0 } (zPr [.ref (kv 2), .int x1] D tt (zw_ce tt kv bv)) (zQr .int out) 0 0 (fun _ => False) := by
  refine Met.ofW (cc := cX0_sizeOf) (maxL := 4) (ret := (some .int)) (by decide) rfl ?_
  intro p e s m args below meth c s₁ B hml hv
  obtain ⟨ha, hP, hK⟩ := hv
  have hx := B.exec
  have hb := B.bytes
  have hr := B.returns
  have hts := atoms_spec (ws := wsX0_sizeOf) B.pre
  have hown : s.vm.findClass RX0 = some m.cls := findClass_of_methodNamed B.named
  have hlocks := B.notSynchronized
  have hi0 : ∀ w ∈ u_ws RX0 TX0 4, w ∈ wsX0_sizeOf := fun _ h => List.mem_cons_of_mem _ (List.mem_append_right _ h)
  have fl18 := hts (.fieldLink RX0 18 "CapStacks$Certificates" "shares" "[I") (by decide +kernel)
  have fl9 := hts (.fieldLink RX0 9 "CapStacks$Certificates" "holder" "[I") (by decide +kernel)
  have hfin : ∀ (v : Int32) (pc : Nat) (ls : Array Slot), some v = some out → narrow .int (.int v) = .int v → decode cX0_sizeOf pc = .ok (.ireturn, 1) → W p l e (headSpec wsX0_sizeOf { frames := 0, cells := 0, slots := 0, locals := 0 }).room s m args below meth c s.heap [] 0 0 (MQ below (zQr .int out) args s 0 0 (fun _ => False)) (F0 m pc ls [.int v]) := by
    intro v pc ls he hn hd
    cases he
    exact W.zret hx hb hr hn (fun t ht hW => ⟨rfl, hn, ht⟩) (fun _ h => by cases h) hd
  generalize MQ below (zQr .int out) args s 0 0 (fun _ => False) = Q at hfin ⊢
  have b4 : ∀ n : Nat, ∀ (x1 : Int32) (x2 : Int32) (x3 : Int32) (ls : Array Slot), lv_has ls 4 [(0, .ref (kv 2)), (1, .int x1), (2, .int x2), (3, .int x3)] → f_X0_sizeOf_b4 bv n x1 x2 x3 = some out → W p l e (headSpec wsX0_sizeOf { frames := 0, cells := 0, slots := 0, locals := 0 }).room s m args below meth c s.heap [] 0 0 Q (F0 m 4 ls []) := by
    intro n
    induction n with
    | zero =>
      intro x1 x2 x3 ls hl h
      cases h
    | succ n ih =>
      intro x1 x2 x3 ls hl h
      rw [f_X0_sizeOf_b4] at h
      refine lv_iload_n hx hb dX0_sizeOf_4 rfl (lv_at hl 3 rfl) ?_
      refine lv_bipush (v := 24) hx hb dX0_sizeOf_5 (by decide) ?_
      refine lv_icmp_ge (tgt := 38) hx hb dX0_sizeOf_7 (by decide) (fun k1 => ?_) (fun k1 => ?_)
      · replace h := z_pos k1 h
        refine lv_iload_n hx hb dX0_sizeOf_38 rfl (lv_at hl 2 rfl) ?_
        exact hfin _ _ _ h rfl dX0_sizeOf_39
      replace h := z_neg k1 h
      refine lv_aload_n hx hb dX0_sizeOf_10 rfl (lv_at hl 0 rfl) ?_
      refine va_get (D := D) (ci := 0) (v := .ref (kv 12)) (C := RX0) (T := TX0) (N := 4) hx hb hts hi0 hown hK.1 hP 0 rfl rfl 2 (by decide) fl18 (fun _ h9 => h9) rfl dX0_sizeOf_11 ?_
      refine lv_iload_n hx hb dX0_sizeOf_14 rfl (lv_at hl 3 rfl) ?_
      obtain ⟨q2, h⟩ := zA_some h
      refine va_iald hx hb hK.1 hP 3 0 rfl rfl q2 dX0_sizeOf_15 ?_
      refine lv_if_le (tgt := 32) hx hb dX0_sizeOf_16 (by decide) (fun k3 => ?_) (fun k3 => ?_)
      · replace h := z_pos k3 h
        refine lv_iinc (v := (x3 + 1)) (lv' := [(3, .int (x3 + 1)), (0, .ref (kv 2)), (1, .int x1), (2, .int x2)]) hx hb dX0_sizeOf_32 hl (k := 3) rfl rfl (by decide) rfl (fun ls hl => ?_)
        refine lv_goto (tgt := 4) hx hb dX0_sizeOf_35 (by decide) ?_
        exact ih x1 x2 (x3 + 1) _ (lv_sub hl [1, 2, 3, 0] rfl) h
      replace h := z_neg k3 h
      refine lv_aload_n hx hb dX0_sizeOf_19 rfl (lv_at hl 0 rfl) ?_
      refine va_get (D := D) (ci := 0) (v := .ref (kv 10)) (C := RX0) (T := TX0) (N := 4) hx hb hts hi0 hown hK.1 hP 0 rfl rfl 0 (by decide) fl9 (fun _ h9 => h9) rfl dX0_sizeOf_20 ?_
      refine lv_iload_n hx hb dX0_sizeOf_23 rfl (lv_at hl 3 rfl) ?_
      refine va_iald hx hb hK.1 hP 1 0 rfl rfl q2 dX0_sizeOf_24 ?_
      refine lv_iload_n hx hb dX0_sizeOf_25 rfl (lv_at hl 1 rfl) ?_
      refine lv_icmp_ne (tgt := 32) hx hb dX0_sizeOf_26 (by decide) (fun k4 => ?_) (fun k4 => ?_)
      · replace h := z_neg k4 h
        refine lv_iinc (v := (x3 + 1)) (lv' := [(3, .int (x3 + 1)), (0, .ref (kv 2)), (1, .int x1), (2, .int x2)]) hx hb dX0_sizeOf_32 hl (k := 3) rfl rfl (by decide) rfl (fun ls hl => ?_)
        refine lv_goto (tgt := 4) hx hb dX0_sizeOf_35 (by decide) ?_
        exact ih x1 x2 (x3 + 1) _ (lv_sub hl [1, 2, 3, 0] rfl) h
      replace h := z_pos k4 h
      refine lv_iinc (v := (x2 + 1)) (lv' := [(2, .int (x2 + 1)), (0, .ref (kv 2)), (1, .int x1), (3, .int x3)]) hx hb dX0_sizeOf_29 hl (k := 2) rfl rfl (by decide) rfl (fun ls hl => ?_)
      refine lv_iinc (v := (x3 + 1)) (lv' := [(3, .int (x3 + 1)), (2, .int (x2 + 1)), (0, .ref (kv 2)), (1, .int x1)]) hx hb dX0_sizeOf_32 hl (k := 3) rfl rfl (by decide) rfl (fun ls hl => ?_)
      refine lv_goto (tgt := 4) hx hb dX0_sizeOf_35 (by decide) ?_
      exact ih x1 (x2 + 1) (x3 + 1) _ (lv_sub hl [2, 3, 1, 0] rfl) h
  have hl := lv_entry ([.ref (kv 2), .int x1]) (n := 4) (Nat.le_of_ble_eq_true rfl)
  refine W.eq (g2 := F0 m 0 ((lg_sl ([.ref (kv 2), .int x1]) ++ List.replicate (4 - (lg_sl ([.ref (kv 2), .int x1])).length) Slot.unset).toArray) []) (by rw [ha]; exact lg_entry_eq _ _ _) ?_
  generalize (lg_sl ([.ref (kv 2), .int x1]) ++ List.replicate (4 - (lg_sl ([.ref (kv 2), .int x1])).length) Slot.unset).toArray = ls at hl ⊢
  have hl : lv_has ls 4 [(0, .ref (kv 2)), (1, .int x1)] := hl
  rw [f_X0_sizeOf] at h
  refine lv_iconst (v := 0) hx hb dX0_sizeOf_0 (by decide) ?_
  refine lv_istore_n (lv' := [(2, .int 0), (0, .ref (kv 2)), (1, .int x1)]) hx hb dX0_sizeOf_1 rfl hl (by decide) rfl (fun ls hl => ?_)
  refine lv_iconst (v := 0) hx hb dX0_sizeOf_2 (by decide) ?_
  refine lv_istore_n (lv' := [(3, .int 0), (2, .int 0), (0, .ref (kv 2)), (1, .int x1)]) hx hb dX0_sizeOf_3 rfl hl (by decide) rfl (fun ls hl => ?_)
  exact b4 1000 x1 0 0 _ (lv_sub hl [2, 3, 1, 0] rfl) h
