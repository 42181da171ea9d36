/-! ===== contracts: 20.model0 ===== -/
set_option maxHeartbeats 4000000 in
set_option maxRecDepth 100000 in
theorem c_X10_in (l : Launch) (D : va_G) (tt : Nat → ClassId)  (x0 : Int32) (x1 : Int32) (x2 : Int32) (out : Int32) (h : f_X10_in x0 x1 x2 = some out) : Met l yX10_in wsX10_in { frames := 0, cells := 0, slots := 0, locals := 0 } (zPr [.int x0, .int x1, .int x2] D tt ([] : va_W)) (zQr .boolean out) 0 0 (fun _ => False) := by
  refine Met.ofW (cc := cX10_in) (maxL := 3) (ret := (some .boolean)) (by decide) rfl ?_
  intro p e s m args below meth c s₁ B hml hv
  obtain ⟨ha, hP, hK⟩ := hv
  have hx := B.exec
  have hb := B.bytes
  have hr := B.returns
  have hts := atoms_spec (ws := wsX10_in) B.pre
  have hown : s.vm.findClass RX10 = some m.cls := findClass_of_methodNamed B.named
  have hlocks := B.notSynchronized
  have hfin : ∀ (v : Int32) (pc : Nat) (ls : Array Slot), some v = some out → narrow .boolean (.int v) = .int v → decode cX10_in pc = .ok (.ireturn, 1) → W p l e (headSpec wsX10_in { frames := 0, cells := 0, slots := 0, locals := 0 }).room s m args below meth c s.heap [] 0 0 (MQ below (zQr .boolean out) args s 0 0 (fun _ => False)) (F0 m pc ls [.int v]) := by
    intro v pc ls he hn hd
    cases he
    exact W.zret hx hb hr hn (fun t ht hW => ⟨rfl, hn, ht⟩) (fun _ h => by cases h) hd
  generalize MQ below (zQr .boolean out) args s 0 0 (fun _ => False) = Q at hfin ⊢
  have hl := lv_entry ([.int x0, .int x1, .int x2]) (n := 3) (Nat.le_of_ble_eq_true rfl)
  refine W.eq (g2 := F0 m 0 ((lg_sl ([.int x0, .int x1, .int x2]) ++ List.replicate (3 - (lg_sl ([.int x0, .int x1, .int x2])).length) Slot.unset).toArray) []) (by rw [ha]; exact lg_entry_eq _ _ _) ?_
  generalize (lg_sl ([.int x0, .int x1, .int x2]) ++ List.replicate (3 - (lg_sl ([.int x0, .int x1, .int x2])).length) Slot.unset).toArray = ls at hl ⊢
  have hl : lv_has ls 3 [(0, .int x0), (1, .int x1), (2, .int x2)] := hl
  rw [f_X10_in] at h
  refine lv_iload_n hx hb dX10_in_0 rfl (lv_at hl 0 rfl) ?_
  refine lv_iload_n hx hb dX10_in_1 rfl (lv_at hl 1 rfl) ?_
  refine lv_icmp_lt (tgt := 14) hx hb dX10_in_2 (by decide) (fun k1 => ?_) (fun k1 => ?_)
  · replace h := z_pos k1 h
    refine lv_iconst (v := 0) hx hb dX10_in_14 (by decide) ?_
    exact hfin _ _ _ h rfl dX10_in_15
  replace h := z_neg k1 h
  refine lv_iload_n hx hb dX10_in_5 rfl (lv_at hl 0 rfl) ?_
  refine lv_iload_n hx hb dX10_in_6 rfl (lv_at hl 2 rfl) ?_
  refine lv_icmp_gt (tgt := 14) hx hb dX10_in_7 (by decide) (fun k2 => ?_) (fun k2 => ?_)
  · replace h := z_pos k2 h
    refine lv_iconst (v := 0) hx hb dX10_in_14 (by decide) ?_
    exact hfin _ _ _ h rfl dX10_in_15
  replace h := z_neg k2 h
  refine lv_iconst (v := 1) hx hb dX10_in_10 (by decide) ?_
  refine lv_goto (tgt := 15) hx hb dX10_in_11 (by decide) ?_
  exact hfin _ _ _ h rfl dX10_in_15
set_option maxHeartbeats 4000000 in
set_option maxRecDepth 100000 in
theorem c_X10_begins (l : Launch) (D : va_G) (tt : Nat → ClassId) (kw : Nat → Nat) (sz : Nat) (bw : zV) (bj : zJ)  (out : zV) (h : f_X10_begins bw bj = some out) : Met l yX10_begins wsX10_begins { frames := 0, cells := 0, slots := 0, locals := 0 } (zPm [.ref (kw 0)] D tt (zw_mo tt kw bw bj) sz) (zMv D (zw_mo tt kw out bj) (va_A (zw_mo tt kw bw bj) sz)) 0 0 (va_A (zw_mo tt kw bw bj) sz) := by
  refine Met.ofW (cc := cX10_begins) (maxL := 2) (ret := none) (by decide) rfl ?_
  intro p e s m args below meth c s₁ B hml hv
  obtain ⟨ha, hsz, hP, hK, hD0⟩ := hv
  have hx := B.exec
  have hb := B.bytes
  have hr := B.returns
  have hts := atoms_spec (ws := wsX10_begins) B.pre
  have hown : s.vm.findClass RX10 = some m.cls := findClass_of_methodNamed B.named
  have hlocks := B.notSynchronized
  have hi10 : ∀ w ∈ u_ws RX10 TX10 15, w ∈ wsX10_begins := fun _ h => List.mem_cons_of_mem _ (List.mem_append_right _ h)
  have fl13 := hts (.fieldLink RX10 13 "CapStacksModel" "begun" "[I") (by decide +kernel)
  have fl7 := hts (.fieldLink RX10 7 "CapStacksModel" "s" "[I") (by decide +kernel)
  subst hsz
  have hD := hD0.self (sz := s.heap.size)
  generalize hAe : va_A (zw_mo tt kw bw bj) s.heap.size = A at hD ⊢
  have hA : ∀ q : Nat, s.heap.size ≤ q → A q := fun q h => by rw [← hAe]; exact Or.inr h
  have hS : va_S A s.heap s.heap [] := va_S.rf
  have hfin : ∀ (bw : zV) (pc : Nat) (ls : Array Slot) (H : Heap) (locs : List Loc), some bw = some out → va_P D vwCl (zw_mo tt kw bw bj) H → va_D A (zw_mo tt kw bw bj) → va_S A s.heap H locs → decode cX10_begins pc = .ok (.return_, 1) → W p l e (headSpec wsX10_begins { frames := 0, cells := 0, slots := 0, locals := 0 }).room s m args below meth c H locs 0 0 (MQ below (zMv D (zw_mo tt kw out bj) A) args s 0 0 A) (F0 m pc ls []) := by
    intro bw pc ls H locs he hP hD hS hd
    cases he
    exact W.vret hx hb hr (fun t ht hW => ⟨⟨(), rfl, trivial, by rw [ht]; exact hP, hD⟩, hS.F ht⟩) hS.2.2 hd
  generalize MQ below (zMv D (zw_mo tt kw out bj) A) args s 0 0 A = Q at hfin ⊢
  have b2 : ∀ n : Nat, ∀ (bw : zV) (x1 : Int32) (H : Heap) (locs : List Loc) (ls : Array Slot), va_P D vwCl (zw_mo tt kw bw bj) H → va_D A (zw_mo tt kw bw bj) → va_S A s.heap H locs → lv_has ls 2 [(0, .ref (kw 0)), (1, .int x1)] → f_X10_begins_b2 bj n bw x1 = some out → W p l e (headSpec wsX10_begins { frames := 0, cells := 0, slots := 0, locals := 0 }).room s m args below meth c H locs 0 0 Q (F0 m 2 ls []) := by
    intro n
    induction n with
    | zero =>
      intro bw x1 H locs ls hP hD hS hl h
      cases h
    | succ n ih =>
      intro bw x1 H locs ls hP hD hS hl h
      rw [f_X10_begins_b2] at h
      refine lv_iload_n hx hb dX10_begins_2 rfl (lv_at hl 1 rfl) ?_
      refine lv_sipush (v := 213) hx hb dX10_begins_3 (by decide) ?_
      refine lv_icmp_ge (tgt := 27) hx hb dX10_begins_6 (by decide) (fun k1 => ?_) (fun k1 => ?_)
      · replace h := z_pos k1 h
        exact hfin _ _ _ _ _ h hP hD hS dX10_begins_27
      replace h := z_neg k1 h
      refine lv_aload_n hx hb dX10_begins_9 rfl (lv_at hl 0 rfl) ?_
      refine va_get (D := D) (ci := 10) (v := .ref (kw 2)) (C := RX10) (T := TX10) (N := 15) hx hb hts hi10 hown hK.1 hP 0 rfl rfl 1 (by decide) fl13 (fun _ h9 => h9) rfl dX10_begins_10 ?_
      refine lv_iload_n hx hb dX10_begins_13 rfl (lv_at hl 1 rfl) ?_
      refine lv_aload_n hx hb dX10_begins_14 rfl (lv_at hl 0 rfl) ?_
      refine va_get (D := D) (ci := 10) (v := .ref (kw 1)) (C := RX10) (T := TX10) (N := 15) hx hb hts hi10 hown hK.1 hP 0 rfl rfl 0 (by decide) fl7 (fun _ h9 => h9) rfl dX10_begins_15 ?_
      refine lv_iload_n hx hb dX10_begins_18 rfl (lv_at hl 1 rfl) ?_
      obtain ⟨q2, h⟩ := zA_some h
      refine va_iald hx hb hK.1 hP 1 0 rfl rfl q2 dX10_begins_19 ?_
      refine va_iast hx hb hK.1 hP hD hS 2 0 rfl rfl q2 dX10_begins_20 (fun H locs hP hD hS => ?_)
      obtain ⟨a3, ea3, h⟩ := zl_some h
      have hP : va_P D vwCl (zw_mo tt kw (zu bw 2 a3) bj) H := by rw [ea3]; exact hP
      have hD : va_D A (zw_mo tt kw (zu bw 2 a3) bj) := by rw [ea3]; exact hD
      clear ea3
      refine lv_iinc (v := (x1 + 1)) (lv' := [(1, .int (x1 + 1)), (0, .ref (kw 0))]) hx hb dX10_begins_21 hl (k := 1) rfl rfl (by decide) rfl (fun ls hl => ?_)
      refine lv_goto (tgt := 2) hx hb dX10_begins_24 (by decide) ?_
      exact ih (zu bw 2 a3) (x1 + 1) _ _ _ hP hD hS (lv_sub hl [1, 0] rfl) h
  have hl := lv_entry ([.ref (kw 0)]) (n := 2) (Nat.le_of_ble_eq_true rfl)
  refine W.eq (g2 := F0 m 0 ((lg_sl ([.ref (kw 0)]) ++ List.replicate (2 - (lg_sl ([.ref (kw 0)])).length) Slot.unset).toArray) []) (by rw [ha]; exact lg_entry_eq _ _ _) ?_
  generalize (lg_sl ([.ref (kw 0)]) ++ List.replicate (2 - (lg_sl ([.ref (kw 0)])).length) Slot.unset).toArray = ls at hl ⊢
  have hl : lv_has ls 2 [(0, .ref (kw 0))] := hl
  rw [f_X10_begins] at h
  refine lv_iconst (v := 0) hx hb dX10_begins_0 (by decide) ?_
  refine lv_istore_n (lv' := [(1, .int 0), (0, .ref (kw 0))]) hx hb dX10_begins_1 rfl hl (by decide) rfl (fun ls hl => ?_)
  exact b2 1000 bw 0 _ _ _ hP hD hS (lv_sub hl [1, 0] rfl) h
set_option maxHeartbeats 4000000 in
set_option maxRecDepth 100000 in
theorem c_X10_returns (l : Launch) (D : va_G) (tt : Nat → ClassId) (kw : Nat → Nat) (sz : Nat) (bw : zV) (bj : zJ)  (out : zV) (h : f_X10_returns bw bj = some out) : Met l yX10_returns wsX10_returns { frames := 0, cells := 0, slots := 0, locals := 0 } (zPm [.ref (kw 0)] D tt (zw_mo tt kw bw bj) sz) (zMv D (zw_mo tt kw out bj) (va_A (zw_mo tt kw bw bj) sz)) 0 0 (va_A (zw_mo tt kw bw bj) sz) := by
  refine Met.ofW (cc := cX10_returns) (maxL := 2) (ret := none) (by decide) rfl ?_
  intro p e s m args below meth c s₁ B hml hv
  obtain ⟨ha, hsz, hP, hK, hD0⟩ := hv
  have hx := B.exec
  have hb := B.bytes
  have hr := B.returns
  have hts := atoms_spec (ws := wsX10_returns) B.pre
  have hown : s.vm.findClass RX10 = some m.cls := findClass_of_methodNamed B.named
  have hlocks := B.notSynchronized
  have hi10 : ∀ w ∈ u_ws RX10 TX10 15, w ∈ wsX10_returns := fun _ h => List.mem_cons_of_mem _ (List.mem_append_right _ h)
  have fl13 := hts (.fieldLink RX10 13 "CapStacksModel" "begun" "[I") (by decide +kernel)
  have fl7 := hts (.fieldLink RX10 7 "CapStacksModel" "s" "[I") (by decide +kernel)
  subst hsz
  have hD := hD0.self (sz := s.heap.size)
  generalize hAe : va_A (zw_mo tt kw bw bj) s.heap.size = A at hD ⊢
  have hA : ∀ q : Nat, s.heap.size ≤ q → A q := fun q h => by rw [← hAe]; exact Or.inr h
  have hS : va_S A s.heap s.heap [] := va_S.rf
  have hfin : ∀ (bw : zV) (pc : Nat) (ls : Array Slot) (H : Heap) (locs : List Loc), some bw = some out → va_P D vwCl (zw_mo tt kw bw bj) H → va_D A (zw_mo tt kw bw bj) → va_S A s.heap H locs → decode cX10_returns pc = .ok (.return_, 1) → W p l e (headSpec wsX10_returns { frames := 0, cells := 0, slots := 0, locals := 0 }).room s m args below meth c H locs 0 0 (MQ below (zMv D (zw_mo tt kw out bj) A) args s 0 0 A) (F0 m pc ls []) := by
    intro bw pc ls H locs he hP hD hS hd
    cases he
    exact W.vret hx hb hr (fun t ht hW => ⟨⟨(), rfl, trivial, by rw [ht]; exact hP, hD⟩, hS.F ht⟩) hS.2.2 hd
  generalize MQ below (zMv D (zw_mo tt kw out bj) A) args s 0 0 A = Q at hfin ⊢
  have b2 : ∀ n : Nat, ∀ (bw : zV) (x1 : Int32) (H : Heap) (locs : List Loc) (ls : Array Slot), va_P D vwCl (zw_mo tt kw bw bj) H → va_D A (zw_mo tt kw bw bj) → va_S A s.heap H locs → lv_has ls 2 [(0, .ref (kw 0)), (1, .int x1)] → f_X10_returns_b2 bj n bw x1 = some out → W p l e (headSpec wsX10_returns { frames := 0, cells := 0, slots := 0, locals := 0 }).room s m args below meth c H locs 0 0 Q (F0 m 2 ls []) := by
    intro n
    induction n with
    | zero =>
      intro bw x1 H locs ls hP hD hS hl h
      cases h
    | succ n ih =>
      intro bw x1 H locs ls hP hD hS hl h
      rw [f_X10_returns_b2] at h
      refine lv_iload_n hx hb dX10_returns_2 rfl (lv_at hl 1 rfl) ?_
      refine lv_sipush (v := 213) hx hb dX10_returns_3 (by decide) ?_
      refine lv_icmp_ge (tgt := 27) hx hb dX10_returns_6 (by decide) (fun k1 => ?_) (fun k1 => ?_)
      · replace h := z_pos k1 h
        exact hfin _ _ _ _ _ h hP hD hS dX10_returns_27
      replace h := z_neg k1 h
      refine lv_aload_n hx hb dX10_returns_9 rfl (lv_at hl 0 rfl) ?_
      refine va_get (D := D) (ci := 10) (v := .ref (kw 1)) (C := RX10) (T := TX10) (N := 15) hx hb hts hi10 hown hK.1 hP 0 rfl rfl 0 (by decide) fl7 (fun _ h9 => h9) rfl dX10_returns_10 ?_
      refine lv_iload_n hx hb dX10_returns_13 rfl (lv_at hl 1 rfl) ?_
      refine lv_aload_n hx hb dX10_returns_14 rfl (lv_at hl 0 rfl) ?_
      refine va_get (D := D) (ci := 10) (v := .ref (kw 2)) (C := RX10) (T := TX10) (N := 15) hx hb hts hi10 hown hK.1 hP 0 rfl rfl 1 (by decide) fl13 (fun _ h9 => h9) rfl dX10_returns_15 ?_
      refine lv_iload_n hx hb dX10_returns_18 rfl (lv_at hl 1 rfl) ?_
      obtain ⟨q2, h⟩ := zA_some h
      refine va_iald hx hb hK.1 hP 2 0 rfl rfl q2 dX10_returns_19 ?_
      refine va_iast hx hb hK.1 hP hD hS 1 0 rfl rfl q2 dX10_returns_20 (fun H locs hP hD hS => ?_)
      obtain ⟨a3, ea3, h⟩ := zl_some h
      have hP : va_P D vwCl (zw_mo tt kw (zu bw 1 a3) bj) H := by rw [ea3]; exact hP
      have hD : va_D A (zw_mo tt kw (zu bw 1 a3) bj) := by rw [ea3]; exact hD
      clear ea3
      refine lv_iinc (v := (x1 + 1)) (lv' := [(1, .int (x1 + 1)), (0, .ref (kw 0))]) hx hb dX10_returns_21 hl (k := 1) rfl rfl (by decide) rfl (fun ls hl => ?_)
      refine lv_goto (tgt := 2) hx hb dX10_returns_24 (by decide) ?_
      exact ih (zu bw 1 a3) (x1 + 1) _ _ _ hP hD hS (lv_sub hl [1, 0] rfl) h
  have hl := lv_entry ([.ref (kw 0)]) (n := 2) (Nat.le_of_ble_eq_true rfl)
  refine W.eq (g2 := F0 m 0 ((lg_sl ([.ref (kw 0)]) ++ List.replicate (2 - (lg_sl ([.ref (kw 0)])).length) Slot.unset).toArray) []) (by rw [ha]; exact lg_entry_eq _ _ _) ?_
  generalize (lg_sl ([.ref (kw 0)]) ++ List.replicate (2 - (lg_sl ([.ref (kw 0)])).length) Slot.unset).toArray = ls at hl ⊢
  have hl : lv_has ls 2 [(0, .ref (kw 0))] := hl
  rw [f_X10_returns] at h
  refine lv_iconst (v := 0) hx hb dX10_returns_0 (by decide) ?_
  refine lv_istore_n (lv' := [(1, .int 0), (0, .ref (kw 0))]) hx hb dX10_returns_1 rfl hl (by decide) rfl (fun ls hl => ?_)
  exact b2 1000 bw 0 _ _ _ hP hD hS (lv_sub hl [1, 0] rfl) h
set_option maxHeartbeats 4000000 in
set_option maxRecDepth 100000 in
theorem c_X10_acted (l : Launch) (D : va_G) (tt : Nat → ClassId) (kw : Nat → Nat) (sz : Nat) (bw : zV) (bj : zJ) (x1 : Int32) (out : Int32 × zV) (h : f_X10_acted bw bj x1 = some out) : Met l yX10_acted wsX10_acted { frames := 0, cells := 0, slots := 0, locals := 0 } (zPm [.ref (kw 0), .int x1] D tt (zw_mo tt kw bw bj) sz) (zMi .int out.1 D (zw_mo tt kw out.2 bj) (va_A (zw_mo tt kw bw bj) sz)) 0 0 (va_A (zw_mo tt kw bw bj) sz) := by
  refine Met.ofW (cc := cX10_acted) (maxL := 3) (ret := (some .int)) (by decide) rfl ?_
  intro p e s m args below meth c s₁ B hml hv
  obtain ⟨ha, hsz, hP, hK, hD0⟩ := hv
  have hx := B.exec
  have hb := B.bytes
  have hr := B.returns
  have hts := atoms_spec (ws := wsX10_acted) B.pre
  have hown : s.vm.findClass RX10 = some m.cls := findClass_of_methodNamed B.named
  have hlocks := B.notSynchronized
  have hi10 : ∀ w ∈ u_ws RX10 TX10 15, w ∈ wsX10_acted := fun _ h => List.mem_cons_of_mem _ (List.mem_append_right _ h)
  have fl13 := hts (.fieldLink RX10 13 "CapStacksModel" "begun" "[I") (by decide +kernel)
  have fl16 := hts (.fieldLink RX10 16 "CapStacksModel" "past" "[I") (by decide +kernel)
  have fl38 := hts (.fieldLink RX10 38 "CapStacksModel" "states" "I") (by decide +kernel)
  subst hsz
  have hD := hD0.self (sz := s.heap.size)
  generalize hAe : va_A (zw_mo tt kw bw bj) s.heap.size = A at hD ⊢
  have hA : ∀ q : Nat, s.heap.size ≤ q → A q := fun q h => by rw [← hAe]; exact Or.inr h
  have hS : va_S A s.heap s.heap [] := va_S.rf
  have hfin : ∀ (v : Int32) (bw : zV) (pc : Nat) (ls : Array Slot) (H : Heap) (locs : List Loc), some (v, bw) = some out → narrow .int (.int v) = .int v → va_P D vwCl (zw_mo tt kw bw bj) H → va_D A (zw_mo tt kw bw bj) → va_S A s.heap H locs → decode cX10_acted pc = .ok (.ireturn, 1) → W p l e (headSpec wsX10_acted { frames := 0, cells := 0, slots := 0, locals := 0 }).room s m args below meth c H locs 0 0 (MQ below (zMi .int out.1 D (zw_mo tt kw out.2 bj) A) args s 0 0 A) (F0 m pc ls [.int v]) := by
    intro v bw pc ls H locs he hn hP hD hS hd
    cases he
    exact W.zret hx hb hr hn (fun t ht hW => ⟨⟨_, (), rfl, ⟨rfl, hn⟩, by rw [ht]; exact hP, hD⟩, hS.F ht⟩) hS.2.2 hd
  generalize MQ below (zMi .int out.1 D (zw_mo tt kw out.2 bj) A) args s 0 0 A = Q at hfin ⊢
  have b57 : ∀ n : Nat, ∀ (bw : zV) (x1 : Int32) (x2 : Int32) (H : Heap) (locs : List Loc) (ls : Array Slot), va_P D vwCl (zw_mo tt kw bw bj) H → va_D A (zw_mo tt kw bw bj) → va_S A s.heap H locs → lv_has ls 3 [(0, .ref (kw 0)), (1, .int x1), (2, .int x2)] → f_X10_acted_b57 bj n bw x1 x2 = some out → W p l e (headSpec wsX10_acted { frames := 0, cells := 0, slots := 0, locals := 0 }).room s m args below meth c H locs 0 0 Q (F0 m 57 ls []) := by
    intro n
    induction n with
    | zero =>
      intro bw x1 x2 H locs ls hP hD hS hl h
      cases h
    | succ n ih =>
      intro bw x1 x2 H locs ls hP hD hS hl h
      rw [f_X10_acted_b57] at h
      refine lv_iload_n hx hb dX10_acted_57 rfl (lv_at hl 2 rfl) ?_
      refine lv_sipush (v := 213) hx hb dX10_acted_58 (by decide) ?_
      refine lv_icmp_ge (tgt := 91) hx hb dX10_acted_61 (by decide) (fun k1 => ?_) (fun k1 => ?_)
      · replace h := z_pos k1 h
        refine lv_aload_n hx hb dX10_acted_91 rfl (lv_at hl 0 rfl) ?_
        refine lv_dup hx hb dX10_acted_92 rfl ?_
        refine va_get (D := D) (ci := 10) (v := .int (bw 0 0)) (C := RX10) (T := TX10) (N := 15) hx hb hts hi10 hown hK.1 hP 0 rfl rfl 3 (by decide) fl38 (fun _ h9 => h9) rfl dX10_acted_93 ?_
        refine lv_iconst (v := 1) hx hb dX10_acted_96 (by decide) ?_
        refine lv_iadd hx hb dX10_acted_97 ?_
        refine va_put (D := D) (ci := 10) (v := .int ((bw 0 0) + 1)) (ty := .int) (C := RX10) (T := TX10) (N := 15) hx hb hts hi10 tyX10 tyX10_ok nmX10 hown hK.1 hP hD hS 0 rfl rfl 3 (by decide) fl38 (fun _ h9 => h9) rfl (by decide +kernel) rfl rfl (Nat.le_of_ble_eq_true rfl) dX10_acted_98 (fun H locs hP hD hS => ?_)
        have hP : va_P D vwCl (zw_mo tt kw (zu bw 0 (zu (bw 0) 0 ((bw 0 0) + 1))) bj) H := hP
        have hD : va_D A (zw_mo tt kw (zu bw 0 (zu (bw 0) 0 ((bw 0 0) + 1))) bj) := hD
        refine lv_iload_n hx hb dX10_acted_101 rfl (lv_at hl 1 rfl) ?_
        exact hfin _ _ _ _ _ _ h rfl hP hD hS dX10_acted_102
      replace h := z_neg k1 h
      refine lv_aload_n hx hb dX10_acted_64 rfl (lv_at hl 0 rfl) ?_
      refine va_get (D := D) (ci := 10) (v := .ref (kw 3)) (C := RX10) (T := TX10) (N := 15) hx hb hts hi10 hown hK.1 hP 0 rfl rfl 2 (by decide) fl16 (fun _ h9 => h9) rfl dX10_acted_65 ?_
      refine lv_sipush (v := 213) hx hb dX10_acted_68 (by decide) ?_
      refine lv_aload_n hx hb dX10_acted_71 rfl (lv_at hl 0 rfl) ?_
      refine va_get (D := D) (ci := 10) (v := .int (bw 0 0)) (C := RX10) (T := TX10) (N := 15) hx hb hts hi10 hown hK.1 hP 0 rfl rfl 3 (by decide) fl38 (fun _ h9 => h9) rfl dX10_acted_72 ?_
      refine lv_imul hx hb dX10_acted_75 ?_
      refine lv_iload_n hx hb dX10_acted_76 rfl (lv_at hl 2 rfl) ?_
      refine lv_iadd hx hb dX10_acted_77 ?_
      refine lv_aload_n hx hb dX10_acted_78 rfl (lv_at hl 0 rfl) ?_
      refine va_get (D := D) (ci := 10) (v := .ref (kw 2)) (C := RX10) (T := TX10) (N := 15) hx hb hts hi10 hown hK.1 hP 0 rfl rfl 1 (by decide) fl13 (fun _ h9 => h9) rfl dX10_acted_79 ?_
      refine lv_iload_n hx hb dX10_acted_82 rfl (lv_at hl 2 rfl) ?_
      obtain ⟨q2, h⟩ := zA_some h
      refine va_iald hx hb hK.1 hP 2 0 rfl rfl q2 dX10_acted_83 ?_
      obtain ⟨q3, h⟩ := zA_some h
      refine va_iast hx hb hK.1 hP hD hS 3 0 rfl rfl q3 dX10_acted_84 (fun H locs hP hD hS => ?_)
      obtain ⟨a4, ea4, h⟩ := zl_some h
      have hP : va_P D vwCl (zw_mo tt kw (zu bw 3 a4) bj) H := by rw [ea4]; exact hP
      have hD : va_D A (zw_mo tt kw (zu bw 3 a4) bj) := by rw [ea4]; exact hD
      clear ea4
      refine lv_iinc (v := (x2 + 1)) (lv' := [(2, .int (x2 + 1)), (0, .ref (kw 0)), (1, .int x1)]) hx hb dX10_acted_85 hl (k := 2) rfl rfl (by decide) rfl (fun ls hl => ?_)
      refine lv_goto (tgt := 57) hx hb dX10_acted_88 (by decide) ?_
      exact ih (zu bw 3 a4) x1 (x2 + 1) _ _ _ hP hD hS (lv_sub hl [1, 2, 0] rfl) h
  have b16 : ∀ n : Nat, ∀ (bw : zV) (x1 : Int32) (x2 : Int32) (H : Heap) (locs : List Loc) (ls : Array Slot), va_P D vwCl (zw_mo tt kw bw bj) H → va_D A (zw_mo tt kw bw bj) → va_S A s.heap H locs → lv_has ls 3 [(0, .ref (kw 0)), (1, .int x1), (2, .int x2)] → f_X10_acted_b16 bj n bw x1 x2 = some out → W p l e (headSpec wsX10_acted { frames := 0, cells := 0, slots := 0, locals := 0 }).room s m args below meth c H locs 0 0 Q (F0 m 16 ls []) := by
    intro n
    induction n with
    | zero =>
      intro bw x1 x2 H locs ls hP hD hS hl h
      cases h
    | succ n ih =>
      intro bw x1 x2 H locs ls hP hD hS hl h
      rw [f_X10_acted_b16] at h
      refine lv_iload_n hx hb dX10_acted_16 rfl (lv_at hl 2 rfl) ?_
      refine lv_sipush (v := 639) hx hb dX10_acted_17 (by decide) ?_
      refine lv_icmp_ge (tgt := 45) hx hb dX10_acted_20 (by decide) (fun k5 => ?_) (fun k5 => ?_)
      · replace h := z_pos k5 h
        refine lv_aload_n hx hb dX10_acted_45 rfl (lv_at hl 0 rfl) ?_
        refine lv_dup hx hb dX10_acted_46 rfl ?_
        refine va_get (D := D) (ci := 10) (v := .int (bw 0 0)) (C := RX10) (T := TX10) (N := 15) hx hb hts hi10 hown hK.1 hP 0 rfl rfl 3 (by decide) fl38 (fun _ h9 => h9) rfl dX10_acted_47 ?_
        refine lv_iconst (v := 1) hx hb dX10_acted_50 (by decide) ?_
        refine lv_isub hx hb dX10_acted_51 ?_
        refine va_put (D := D) (ci := 10) (v := .int ((bw 0 0) - 1)) (ty := .int) (C := RX10) (T := TX10) (N := 15) hx hb hts hi10 tyX10 tyX10_ok nmX10 hown hK.1 hP hD hS 0 rfl rfl 3 (by decide) fl38 (fun _ h9 => h9) rfl (by decide +kernel) rfl rfl (Nat.le_of_ble_eq_true rfl) dX10_acted_52 (fun H locs hP hD hS => ?_)
        have hP : va_P D vwCl (zw_mo tt kw (zu bw 0 (zu (bw 0) 0 ((bw 0 0) - 1))) bj) H := hP
        have hD : va_D A (zw_mo tt kw (zu bw 0 (zu (bw 0) 0 ((bw 0 0) - 1))) bj) := hD
        refine lv_iconst (v := 0) hx hb dX10_acted_55 (by decide) ?_
        refine lv_istore_n (lv' := [(2, .int 0), (0, .ref (kw 0)), (1, .int x1)]) hx hb dX10_acted_56 rfl hl (by decide) rfl (fun ls hl => ?_)
        exact b57 1000 (zu bw 0 (zu (bw 0) 0 ((bw 0 0) - 1))) x1 0 _ _ _ hP hD hS (lv_sub hl [1, 2, 0] rfl) h
      replace h := z_neg k5 h
      refine lv_aload_n hx hb dX10_acted_23 rfl (lv_at hl 0 rfl) ?_
      refine va_get (D := D) (ci := 10) (v := .ref (kw 3)) (C := RX10) (T := TX10) (N := 15) hx hb hts hi10 hown hK.1 hP 0 rfl rfl 2 (by decide) fl16 (fun _ h9 => h9) rfl dX10_acted_24 ?_
      refine lv_iload_n hx hb dX10_acted_27 rfl (lv_at hl 2 rfl) ?_
      refine lv_aload_n hx hb dX10_acted_28 rfl (lv_at hl 0 rfl) ?_
      refine va_get (D := D) (ci := 10) (v := .ref (kw 3)) (C := RX10) (T := TX10) (N := 15) hx hb hts hi10 hown hK.1 hP 0 rfl rfl 2 (by decide) fl16 (fun _ h9 => h9) rfl dX10_acted_29 ?_
      refine lv_iload_n hx hb dX10_acted_32 rfl (lv_at hl 2 rfl) ?_
      refine lv_sipush (v := 213) hx hb dX10_acted_33 (by decide) ?_
      refine lv_iadd hx hb dX10_acted_36 ?_
      obtain ⟨q6, h⟩ := zA_some h
      refine va_iald hx hb hK.1 hP 3 0 rfl rfl q6 dX10_acted_37 ?_
      obtain ⟨q7, h⟩ := zA_some h
      refine va_iast hx hb hK.1 hP hD hS 3 0 rfl rfl q7 dX10_acted_38 (fun H locs hP hD hS => ?_)
      obtain ⟨a8, ea8, h⟩ := zl_some h
      have hP : va_P D vwCl (zw_mo tt kw (zu bw 3 a8) bj) H := by rw [ea8]; exact hP
      have hD : va_D A (zw_mo tt kw (zu bw 3 a8) bj) := by rw [ea8]; exact hD
      clear ea8
      refine lv_iinc (v := (x2 + 1)) (lv' := [(2, .int (x2 + 1)), (0, .ref (kw 0)), (1, .int x1)]) hx hb dX10_acted_39 hl (k := 2) rfl rfl (by decide) rfl (fun ls hl => ?_)
      refine lv_goto (tgt := 16) hx hb dX10_acted_42 (by decide) ?_
      exact ih (zu bw 3 a8) x1 (x2 + 1) _ _ _ hP hD hS (lv_sub hl [1, 2, 0] rfl) h
  have hl := lv_entry ([.ref (kw 0), .int x1]) (n := 3) (Nat.le_of_ble_eq_true rfl)
  refine W.eq (g2 := F0 m 0 ((lg_sl ([.ref (kw 0), .int x1]) ++ List.replicate (3 - (lg_sl ([.ref (kw 0), .int x1])).length) Slot.unset).toArray) []) (by rw [ha]; exact lg_entry_eq _ _ _) ?_
  generalize (lg_sl ([.ref (kw 0), .int x1]) ++ List.replicate (3 - (lg_sl ([.ref (kw 0), .int x1])).length) Slot.unset).toArray = ls at hl ⊢
  have hl : lv_has ls 3 [(0, .ref (kw 0)), (1, .int x1)] := hl
  rw [f_X10_acted] at h
  refine lv_iload_n hx hb dX10_acted_0 rfl (lv_at hl 1 rfl) ?_
  refine lv_if_ge (tgt := 6) hx hb dX10_acted_1 (by decide) (fun k9 => ?_) (fun k9 => ?_)
  rotate_left
  · replace h := z_neg k9 h
    refine lv_iload_n hx hb dX10_acted_4 rfl (lv_at hl 1 rfl) ?_
    exact hfin _ _ _ _ _ _ h rfl hP hD hS dX10_acted_5
  replace h := z_pos k9 h
  refine lv_aload_n hx hb dX10_acted_6 rfl (lv_at hl 0 rfl) ?_
  refine va_get (D := D) (ci := 10) (v := .int (bw 0 0)) (C := RX10) (T := TX10) (N := 15) hx hb hts hi10 hown hK.1 hP 0 rfl rfl 3 (by decide) fl38 (fun _ h9 => h9) rfl dX10_acted_7 ?_
  refine lv_iconst (v := 4) hx hb dX10_acted_10 (by decide) ?_
  refine lv_icmp_ne (tgt := 55) hx hb dX10_acted_11 (by decide) (fun k10 => ?_) (fun k10 => ?_)
  · replace h := z_neg k10 h
    refine lv_iconst (v := 0) hx hb dX10_acted_55 (by decide) ?_
    refine lv_istore_n (lv' := [(2, .int 0), (0, .ref (kw 0)), (1, .int x1)]) hx hb dX10_acted_56 rfl hl (by decide) rfl (fun ls hl => ?_)
    exact b57 1000 bw x1 0 _ _ _ hP hD hS (lv_sub hl [1, 2, 0] rfl) h
  replace h := z_pos k10 h
  refine lv_iconst (v := 0) hx hb dX10_acted_14 (by decide) ?_
  refine lv_istore_n (lv' := [(2, .int 0), (0, .ref (kw 0)), (1, .int x1)]) hx hb dX10_acted_15 rfl hl (by decide) rfl (fun ls hl => ?_)
  exact b16 1000 bw x1 0 _ _ _ hP hD hS (lv_sub hl [1, 2, 0] rfl) h
set_option maxHeartbeats 4000000 in
set_option maxRecDepth 100000 in
theorem c_X10_isClass (l : Launch) (D : va_G) (tt : Nat → ClassId) (kw : Nat → Nat) (bw : zV) (bj : zJ) (x1 : Int32) (out : Int32) (h : f_X10_isClass bw bj x1 = some out) : Met l yX10_isClass wsX10_isClass { frames := 1, cells := 0, slots := 0, locals := 22 } (zPr [.ref (kw 0), .int x1] D tt (zw_mo tt kw bw bj)) (zQr .boolean out) 0 0 (fun _ => False) := by
  refine Met.ofW (cc := cX10_isClass) (maxL := 2) (ret := (some .boolean)) (by decide) rfl ?_
  intro p e s m args below meth c s₁ B hml hv
  obtain ⟨ha, hP, hK⟩ := hv
  have hx := B.exec
  have hb := B.bytes
  have hr := B.returns
  have hts := atoms_spec (ws := wsX10_isClass) B.pre
  have hown : s.vm.findClass RX10 = some m.cls := findClass_of_methodNamed B.named
  have hlocks := B.notSynchronized
  have hi10 : ∀ w ∈ u_ws RX10 TX10 15, w ∈ wsX10_isClass := fun _ h => List.mem_cons_of_mem _ (List.mem_append_right _ h)
  have fl7 := hts (.fieldLink RX10 7 "CapStacksModel" "s" "[I") (by decide +kernel)
  have hfin : ∀ (v : Int32) (pc : Nat) (ls : Array Slot), some v = some out → narrow .boolean (.int v) = .int v → decode cX10_isClass pc = .ok (.ireturn, 1) → W p l e (headSpec wsX10_isClass { frames := 1, cells := 0, slots := 0, locals := 22 }).room s m args below meth c s.heap [] 0 0 (MQ below (zQr .boolean out) args s 0 0 (fun _ => False)) (F0 m pc ls [.int v]) := by
    intro v pc ls he hn hd
    cases he
    exact W.zret hx hb hr hn (fun t ht hW => ⟨rfl, hn, ht⟩) (fun _ h => by cases h) hd
  generalize MQ below (zQr .boolean out) args s 0 0 (fun _ => False) = Q at hfin ⊢
  have hl := lv_entry ([.ref (kw 0), .int x1]) (n := 2) (Nat.le_of_ble_eq_true rfl)
  refine W.eq (g2 := F0 m 0 ((lg_sl ([.ref (kw 0), .int x1]) ++ List.replicate (2 - (lg_sl ([.ref (kw 0), .int x1])).length) Slot.unset).toArray) []) (by rw [ha]; exact lg_entry_eq _ _ _) ?_
  generalize (lg_sl ([.ref (kw 0), .int x1]) ++ List.replicate (2 - (lg_sl ([.ref (kw 0), .int x1])).length) Slot.unset).toArray = ls at hl ⊢
  have hl : lv_has ls 2 [(0, .ref (kw 0)), (1, .int x1)] := hl
  rw [f_X10_isClass] at h
  refine lv_iload_n hx hb dX10_isClass_0 rfl (lv_at hl 1 rfl) ?_
  refine lv_iconst (v := 0) hx hb dX10_isClass_1 (by decide) ?_
  refine lv_aload_n hx hb dX10_isClass_2 rfl (lv_at hl 0 rfl) ?_
  refine va_get (D := D) (ci := 10) (v := .ref (kw 1)) (C := RX10) (T := TX10) (N := 15) hx hb hts hi10 hown hK.1 hP 0 rfl rfl 0 (by decide) fl7 (fun _ h9 => h9) rfl dX10_isClass_3 ?_
  refine lv_iconst (v := 0) hx hb dX10_isClass_6 (by decide) ?_
  refine va_iald hx hb hK.1 hP 1 0 rfl rfl (vp_in_lit 0 213 rfl) dX10_isClass_7 ?_
  refine lv_iconst (v := 1) hx hb dX10_isClass_8 (by decide) ?_
  refine lv_isub hx hb dX10_isClass_9 ?_
  obtain ⟨y1, gy1, h⟩ := zb_some h
  refine z_callr (va_runS (As := [.int x1, .int 0, .int (((bw 1) (0 : Int32).toNatClampNeg) - 1)]) (rest := []) ⟨hx, hb, hml, hown, hts⟩ (c_X10_in l D tt x1 0 (((bw 1) (0 : Int32).toNatClampNeg) - 1) y1 gy1) (va_cwS 3 hts gX10_isClass_X10_in rfl rfl rfl (by decide +kernel) ⟨Nat.le_of_ble_eq_true rfl, Nat.le_of_ble_eq_true rfl⟩) (z_preSr hK (hP.sub (ws' := ([] : va_W)) [] rfl)) rfl rfl hl.1 rfl (lv_room (Nat.le_of_ble_eq_true rfl)) dX10_isClass_10 ⟨Nat.zero_le _, Nat.zero_le _⟩) (fun ny1 => ?_)
  exact hfin _ _ _ h ny1 dX10_isClass_13
set_option maxHeartbeats 4000000 in
set_option maxRecDepth 100000 in
theorem c_X10_isHolder (l : Launch) (D : va_G) (tt : Nat → ClassId) (kw : Nat → Nat) (bw : zV) (bj : zJ) (x1 : Int32) (out : Int32) (h : f_X10_isHolder bw bj x1 = some out) : Met l yX10_isHolder wsX10_isHolder { frames := 1, cells := 0, slots := 0, locals := 22 } (zPr [.ref (kw 0), .int x1] D tt (zw_mo tt kw bw bj)) (zQr .boolean out) 0 0 (fun _ => False) := by
  refine Met.ofW (cc := cX10_isHolder) (maxL := 2) (ret := (some .boolean)) (by decide) rfl ?_
  intro p e s m args below meth c s₁ B hml hv
  obtain ⟨ha, hP, hK⟩ := hv
  have hx := B.exec
  have hb := B.bytes
  have hr := B.returns
  have hts := atoms_spec (ws := wsX10_isHolder) B.pre
  have hown : s.vm.findClass RX10 = some m.cls := findClass_of_methodNamed B.named
  have hlocks := B.notSynchronized
  have hi10 : ∀ w ∈ u_ws RX10 TX10 15, w ∈ wsX10_isHolder := fun _ h => List.mem_cons_of_mem _ (List.mem_append_right _ h)
  have fl7 := hts (.fieldLink RX10 7 "CapStacksModel" "s" "[I") (by decide +kernel)
  have hfin : ∀ (v : Int32) (pc : Nat) (ls : Array Slot), some v = some out → narrow .boolean (.int v) = .int v → decode cX10_isHolder pc = .ok (.ireturn, 1) → W p l e (headSpec wsX10_isHolder { frames := 1, cells := 0, slots := 0, locals := 22 }).room s m args below meth c s.heap [] 0 0 (MQ below (zQr .boolean out) args s 0 0 (fun _ => False)) (F0 m pc ls [.int v]) := by
    intro v pc ls he hn hd
    cases he
    exact W.zret hx hb hr hn (fun t ht hW => ⟨rfl, hn, ht⟩) (fun _ h => by cases h) hd
  generalize MQ below (zQr .boolean out) args s 0 0 (fun _ => False) = Q at hfin ⊢
  have hl := lv_entry ([.ref (kw 0), .int x1]) (n := 2) (Nat.le_of_ble_eq_true rfl)
  refine W.eq (g2 := F0 m 0 ((lg_sl ([.ref (kw 0), .int x1]) ++ List.replicate (2 - (lg_sl ([.ref (kw 0), .int x1])).length) Slot.unset).toArray) []) (by rw [ha]; exact lg_entry_eq _ _ _) ?_
  generalize (lg_sl ([.ref (kw 0), .int x1]) ++ List.replicate (2 - (lg_sl ([.ref (kw 0), .int x1])).length) Slot.unset).toArray = ls at hl ⊢
  have hl : lv_has ls 2 [(0, .ref (kw 0)), (1, .int x1)] := hl
  rw [f_X10_isHolder] at h
  refine lv_iload_n hx hb dX10_isHolder_0 rfl (lv_at hl 1 rfl) ?_
  refine lv_iconst (v := 0) hx hb dX10_isHolder_1 (by decide) ?_
  refine lv_aload_n hx hb dX10_isHolder_2 rfl (lv_at hl 0 rfl) ?_
  refine va_get (D := D) (ci := 10) (v := .ref (kw 1)) (C := RX10) (T := TX10) (N := 15) hx hb hts hi10 hown hK.1 hP 0 rfl rfl 0 (by decide) fl7 (fun _ h9 => h9) rfl dX10_isHolder_3 ?_
  refine lv_iconst (v := 1) hx hb dX10_isHolder_6 (by decide) ?_
  refine va_iald hx hb hK.1 hP 1 0 rfl rfl (vp_in_lit 1 213 rfl) dX10_isHolder_7 ?_
  refine lv_iconst (v := 1) hx hb dX10_isHolder_8 (by decide) ?_
  refine lv_isub hx hb dX10_isHolder_9 ?_
  obtain ⟨y1, gy1, h⟩ := zb_some h
  refine z_callr (va_runS (As := [.int x1, .int 0, .int (((bw 1) (1 : Int32).toNatClampNeg) - 1)]) (rest := []) ⟨hx, hb, hml, hown, hts⟩ (c_X10_in l D tt x1 0 (((bw 1) (1 : Int32).toNatClampNeg) - 1) y1 gy1) (va_cwS 3 hts gX10_isHolder_X10_in rfl rfl rfl (by decide +kernel) ⟨Nat.le_of_ble_eq_true rfl, Nat.le_of_ble_eq_true rfl⟩) (z_preSr hK (hP.sub (ws' := ([] : va_W)) [] rfl)) rfl rfl hl.1 rfl (lv_room (Nat.le_of_ble_eq_true rfl)) dX10_isHolder_10 ⟨Nat.zero_le _, Nat.zero_le _⟩) (fun ny1 => ?_)
  exact hfin _ _ _ h ny1 dX10_isHolder_13
set_option maxHeartbeats 4000000 in
set_option maxRecDepth 100000 in
theorem c_X10_ofCertificate (l : Launch) (D : va_G) (tt : Nat → ClassId) (kw : Nat → Nat) (bw : zV) (bj : zJ) (x1 : Int32) (x2 : Int32) (out : Int32) (h : f_X10_ofCertificate bw bj x1 x2 = some out) : Met l yX10_ofCertificate wsX10_ofCertificate { frames := 0, cells := 0, slots := 0, locals := 0 } (zPr [.ref (kw 0), .int x1, .int x2] D tt (zw_mo tt kw bw bj)) (zQr .int out) 0 0 (fun _ => False) := by
  refine Met.ofW (cc := cX10_ofCertificate) (maxL := 3) (ret := (some .int)) (by decide) rfl ?_
  intro p e s m args below meth c s₁ B hml hv
  obtain ⟨ha, hP, hK⟩ := hv
  have hx := B.exec
  have hb := B.bytes
  have hr := B.returns
  have hts := atoms_spec (ws := wsX10_ofCertificate) B.pre
  have hown : s.vm.findClass RX10 = some m.cls := findClass_of_methodNamed B.named
  have hlocks := B.notSynchronized
  have hi10 : ∀ w ∈ u_ws RX10 TX10 15, w ∈ wsX10_ofCertificate := fun _ h => List.mem_cons_of_mem _ (List.mem_append_right _ h)
  have fl7 := hts (.fieldLink RX10 7 "CapStacksModel" "s" "[I") (by decide +kernel)
  have hfin : ∀ (v : Int32) (pc : Nat) (ls : Array Slot), some v = some out → narrow .int (.int v) = .int v → decode cX10_ofCertificate pc = .ok (.ireturn, 1) → W p l e (headSpec wsX10_ofCertificate { frames := 0, cells := 0, slots := 0, locals := 0 }).room s m args below meth c s.heap [] 0 0 (MQ below (zQr .int out) args s 0 0 (fun _ => False)) (F0 m pc ls [.int v]) := by
    intro v pc ls he hn hd
    cases he
    exact W.zret hx hb hr hn (fun t ht hW => ⟨rfl, hn, ht⟩) (fun _ h => by cases h) hd
  generalize MQ below (zQr .int out) args s 0 0 (fun _ => False) = Q at hfin ⊢
  have hl := lv_entry ([.ref (kw 0), .int x1, .int x2]) (n := 3) (Nat.le_of_ble_eq_true rfl)
  refine W.eq (g2 := F0 m 0 ((lg_sl ([.ref (kw 0), .int x1, .int x2]) ++ List.replicate (3 - (lg_sl ([.ref (kw 0), .int x1, .int x2])).length) Slot.unset).toArray) []) (by rw [ha]; exact lg_entry_eq _ _ _) ?_
  generalize (lg_sl ([.ref (kw 0), .int x1, .int x2]) ++ List.replicate (3 - (lg_sl ([.ref (kw 0), .int x1, .int x2])).length) Slot.unset).toArray = ls at hl ⊢
  have hl : lv_has ls 3 [(0, .ref (kw 0)), (1, .int x1), (2, .int x2)] := hl
  rw [f_X10_ofCertificate] at h
  refine lv_aload_n hx hb dX10_ofCertificate_0 rfl (lv_at hl 0 rfl) ?_
  refine va_get (D := D) (ci := 10) (v := .ref (kw 1)) (C := RX10) (T := TX10) (N := 15) hx hb hts hi10 hown hK.1 hP 0 rfl rfl 0 (by decide) fl7 (fun _ h9 => h9) rfl dX10_ofCertificate_1 ?_
  refine lv_bipush (v := 61) hx hb dX10_ofCertificate_4 (by decide) ?_
  refine lv_iconst (v := 4) hx hb dX10_ofCertificate_6 (by decide) ?_
  refine lv_iload_n hx hb dX10_ofCertificate_7 rfl (lv_at hl 1 rfl) ?_
  refine lv_imul hx hb dX10_ofCertificate_8 ?_
  refine lv_iadd hx hb dX10_ofCertificate_9 ?_
  refine lv_iload_n hx hb dX10_ofCertificate_10 rfl (lv_at hl 2 rfl) ?_
  refine lv_iadd hx hb dX10_ofCertificate_11 ?_
  obtain ⟨q1, h⟩ := zA_some h
  refine va_iald hx hb hK.1 hP 1 0 rfl rfl q1 dX10_ofCertificate_12 ?_
  exact hfin _ _ _ h rfl dX10_ofCertificate_13
set_option maxHeartbeats 4000000 in
set_option maxRecDepth 100000 in
theorem c_X10_isCertificate (l : Launch) (D : va_G) (tt : Nat → ClassId) (kw : Nat → Nat) (bw : zV) (bj : zJ) (x1 : Int32) (out : Int32) (h : f_X10_isCertificate bw bj x1 = some out) : Met l yX10_isCertificate wsX10_isCertificate { frames := 1, cells := 0, slots := 0, locals := 22 } (zPr [.ref (kw 0), .int x1] D tt (zw_mo tt kw bw bj)) (zQr .boolean out) 0 0 (fun _ => False) := by
  refine Met.ofW (cc := cX10_isCertificate) (maxL := 2) (ret := (some .boolean)) (by decide) rfl ?_
  intro p e s m args below meth c s₁ B hml hv
  obtain ⟨ha, hP, hK⟩ := hv
  have hx := B.exec
  have hb := B.bytes
  have hr := B.returns
  have hts := atoms_spec (ws := wsX10_isCertificate) B.pre
  have hown : s.vm.findClass RX10 = some m.cls := findClass_of_methodNamed B.named
  have hlocks := B.notSynchronized
  have hfin : ∀ (v : Int32) (pc : Nat) (ls : Array Slot), some v = some out → narrow .boolean (.int v) = .int v → decode cX10_isCertificate pc = .ok (.ireturn, 1) → W p l e (headSpec wsX10_isCertificate { frames := 1, cells := 0, slots := 0, locals := 22 }).room s m args below meth c s.heap [] 0 0 (MQ below (zQr .boolean out) args s 0 0 (fun _ => False)) (F0 m pc ls [.int v]) := by
    intro v pc ls he hn hd
    cases he
    exact W.zret hx hb hr hn (fun t ht hW => ⟨rfl, hn, ht⟩) (fun _ h => by cases h) hd
  generalize MQ below (zQr .boolean out) args s 0 0 (fun _ => False) = Q at hfin ⊢
  have hl := lv_entry ([.ref (kw 0), .int x1]) (n := 2) (Nat.le_of_ble_eq_true rfl)
  refine W.eq (g2 := F0 m 0 ((lg_sl ([.ref (kw 0), .int x1]) ++ List.replicate (2 - (lg_sl ([.ref (kw 0), .int x1])).length) Slot.unset).toArray) []) (by rw [ha]; exact lg_entry_eq _ _ _) ?_
  generalize (lg_sl ([.ref (kw 0), .int x1]) ++ List.replicate (2 - (lg_sl ([.ref (kw 0), .int x1])).length) Slot.unset).toArray = ls at hl ⊢
  have hl : lv_has ls 2 [(0, .ref (kw 0)), (1, .int x1)] := hl
  rw [f_X10_isCertificate] at h
  refine lv_iload_n hx hb dX10_isCertificate_0 rfl (lv_at hl 1 rfl) ?_
  refine lv_iconst (v := 0) hx hb dX10_isCertificate_1 (by decide) ?_
  refine lv_bipush (v := 23) hx hb dX10_isCertificate_2 (by decide) ?_
  obtain ⟨y1, gy1, h⟩ := zb_some h
  refine z_callr (va_runS (As := [.int x1, .int 0, .int 23]) (rest := []) ⟨hx, hb, hml, hown, hts⟩ (c_X10_in l D tt x1 0 23 y1 gy1) (va_cwS 3 hts gX10_isCertificate_X10_in rfl rfl rfl (by decide +kernel) ⟨Nat.le_of_ble_eq_true rfl, Nat.le_of_ble_eq_true rfl⟩) (z_preSr hK (hP.sub (ws' := ([] : va_W)) [] rfl)) rfl rfl hl.1 rfl (lv_room (Nat.le_of_ble_eq_true rfl)) dX10_isCertificate_4 ⟨Nat.zero_le _, Nat.zero_le _⟩) (fun ny1 => ?_)
  refine lv_if_eq (tgt := 23) hx hb dX10_isCertificate_7 (by decide) (fun k2 => ?_) (fun k2 => ?_)
  · replace h := z_pos k2 h
    refine lv_iconst (v := 0) hx hb dX10_isCertificate_23 (by decide) ?_
    exact hfin _ _ _ h rfl dX10_isCertificate_24
  replace h := z_neg k2 h
  refine lv_aload_n hx hb dX10_isCertificate_10 rfl (lv_at hl 0 rfl) ?_
  refine lv_iload_n hx hb dX10_isCertificate_11 rfl (lv_at hl 1 rfl) ?_
  refine lv_iconst (v := 0) hx hb dX10_isCertificate_12 (by decide) ?_
  obtain ⟨y3, gy3, h⟩ := zb_some h
  refine z_callr (va_runV (As := [.int x1, .int 0]) (rest := []) ⟨hx, hb, hml, hown, hts⟩ (c_X10_ofCertificate l D tt kw bw bj x1 0 y3 gy3) (cwV 2 hts gX10_isCertificate_X10_ofCertificate rfl rfl rfl (by decide +kernel) ⟨Nat.le_of_ble_eq_true rfl, Nat.le_of_ble_eq_true rfl⟩) (z_preVr hK hP (ci := 10) (q0 := 0) rfl rfl) rfl rfl hl.1 rfl (lv_room (Nat.le_of_ble_eq_true rfl)) dX10_isCertificate_13 ⟨Nat.zero_le _, Nat.zero_le _⟩) (fun ny3 => ?_)
  refine lv_if_le (tgt := 23) hx hb dX10_isCertificate_16 (by decide) (fun k4 => ?_) (fun k4 => ?_)
  · replace h := z_pos k4 h
    refine lv_iconst (v := 0) hx hb dX10_isCertificate_23 (by decide) ?_
    exact hfin _ _ _ h rfl dX10_isCertificate_24
  replace h := z_neg k4 h
  refine lv_iconst (v := 1) hx hb dX10_isCertificate_19 (by decide) ?_
  refine lv_goto (tgt := 24) hx hb dX10_isCertificate_20 (by decide) ?_
  exact hfin _ _ _ h rfl dX10_isCertificate_24
set_option maxHeartbeats 4000000 in
set_option maxRecDepth 100000 in
theorem c_X10_isGrant (l : Launch) (D : va_G) (tt : Nat → ClassId) (kw : Nat → Nat) (bw : zV) (bj : zJ) (x1 : Int32) (out : Int32) (h : f_X10_isGrant bw bj x1 = some out) : Met l yX10_isGrant wsX10_isGrant { frames := 1, cells := 0, slots := 0, locals := 22 } (zPr [.ref (kw 0), .int x1] D tt (zw_mo tt kw bw bj)) (zQr .boolean out) 0 0 (fun _ => False) := by
  refine Met.ofW (cc := cX10_isGrant) (maxL := 2) (ret := (some .boolean)) (by decide) rfl ?_
  intro p e s m args below meth c s₁ B hml hv
  obtain ⟨ha, hP, hK⟩ := hv
  have hx := B.exec
  have hb := B.bytes
  have hr := B.returns
  have hts := atoms_spec (ws := wsX10_isGrant) B.pre
  have hown : s.vm.findClass RX10 = some m.cls := findClass_of_methodNamed B.named
  have hlocks := B.notSynchronized
  have hi10 : ∀ w ∈ u_ws RX10 TX10 15, w ∈ wsX10_isGrant := fun _ h => List.mem_cons_of_mem _ (List.mem_append_right _ h)
  have fl7 := hts (.fieldLink RX10 7 "CapStacksModel" "s" "[I") (by decide +kernel)
  have hfin : ∀ (v : Int32) (pc : Nat) (ls : Array Slot), some v = some out → narrow .boolean (.int v) = .int v → decode cX10_isGrant pc = .ok (.ireturn, 1) → W p l e (headSpec wsX10_isGrant { frames := 1, cells := 0, slots := 0, locals := 22 }).room s m args below meth c s.heap [] 0 0 (MQ below (zQr .boolean out) args s 0 0 (fun _ => False)) (F0 m pc ls [.int v]) := by
    intro v pc ls he hn hd
    cases he
    exact W.zret hx hb hr hn (fun t ht hW => ⟨rfl, hn, ht⟩) (fun _ h => by cases h) hd
  generalize MQ below (zQr .boolean out) args s 0 0 (fun _ => False) = Q at hfin ⊢
  have hl := lv_entry ([.ref (kw 0), .int x1]) (n := 2) (Nat.le_of_ble_eq_true rfl)
  refine W.eq (g2 := F0 m 0 ((lg_sl ([.ref (kw 0), .int x1]) ++ List.replicate (2 - (lg_sl ([.ref (kw 0), .int x1])).length) Slot.unset).toArray) []) (by rw [ha]; exact lg_entry_eq _ _ _) ?_
  generalize (lg_sl ([.ref (kw 0), .int x1]) ++ List.replicate (2 - (lg_sl ([.ref (kw 0), .int x1])).length) Slot.unset).toArray = ls at hl ⊢
  have hl : lv_has ls 2 [(0, .ref (kw 0)), (1, .int x1)] := hl
  rw [f_X10_isGrant] at h
  refine lv_iload_n hx hb dX10_isGrant_0 rfl (lv_at hl 1 rfl) ?_
  refine lv_iconst (v := 0) hx hb dX10_isGrant_1 (by decide) ?_
  refine lv_aload_n hx hb dX10_isGrant_2 rfl (lv_at hl 0 rfl) ?_
  refine va_get (D := D) (ci := 10) (v := .ref (kw 1)) (C := RX10) (T := TX10) (N := 15) hx hb hts hi10 hown hK.1 hP 0 rfl rfl 0 (by decide) fl7 (fun _ h9 => h9) rfl dX10_isGrant_3 ?_
  refine lv_iconst (v := 2) hx hb dX10_isGrant_6 (by decide) ?_
  refine va_iald hx hb hK.1 hP 1 0 rfl rfl (vp_in_lit 2 213 rfl) dX10_isGrant_7 ?_
  refine lv_iconst (v := 1) hx hb dX10_isGrant_8 (by decide) ?_
  refine lv_isub hx hb dX10_isGrant_9 ?_
  obtain ⟨y1, gy1, h⟩ := zb_some h
  refine z_callr (va_runS (As := [.int x1, .int 0, .int (((bw 1) (2 : Int32).toNatClampNeg) - 1)]) (rest := []) ⟨hx, hb, hml, hown, hts⟩ (c_X10_in l D tt x1 0 (((bw 1) (2 : Int32).toNatClampNeg) - 1) y1 gy1) (va_cwS 3 hts gX10_isGrant_X10_in rfl rfl rfl (by decide +kernel) ⟨Nat.le_of_ble_eq_true rfl, Nat.le_of_ble_eq_true rfl⟩) (z_preSr hK (hP.sub (ws' := ([] : va_W)) [] rfl)) rfl rfl hl.1 rfl (lv_room (Nat.le_of_ble_eq_true rfl)) dX10_isGrant_10 ⟨Nat.zero_le _, Nat.zero_le _⟩) (fun ny1 => ?_)
  exact hfin _ _ _ h ny1 dX10_isGrant_13
set_option maxHeartbeats 4000000 in
set_option maxRecDepth 100000 in
theorem c_X10_isRound (l : Launch) (D : va_G) (tt : Nat → ClassId) (kw : Nat → Nat) (bw : zV) (bj : zJ)  (out : Int32) (h : f_X10_isRound bw bj = some out) : Met l yX10_isRound wsX10_isRound { frames := 0, cells := 0, slots := 0, locals := 0 } (zPr [.ref (kw 0)] D tt (zw_mo tt kw bw bj)) (zQr .boolean out) 0 0 (fun _ => False) := by
  refine Met.ofW (cc := cX10_isRound) (maxL := 1) (ret := (some .boolean)) (by decide) rfl ?_
  intro p e s m args below meth c s₁ B hml hv
  obtain ⟨ha, hP, hK⟩ := hv
  have hx := B.exec
  have hb := B.bytes
  have hr := B.returns
  have hts := atoms_spec (ws := wsX10_isRound) B.pre
  have hown : s.vm.findClass RX10 = some m.cls := findClass_of_methodNamed B.named
  have hlocks := B.notSynchronized
  have hi10 : ∀ w ∈ u_ws RX10 TX10 15, w ∈ wsX10_isRound := fun _ h => List.mem_cons_of_mem _ (List.mem_append_right _ h)
  have fl7 := hts (.fieldLink RX10 7 "CapStacksModel" "s" "[I") (by decide +kernel)
  have hfin : ∀ (v : Int32) (pc : Nat) (ls : Array Slot), some v = some out → narrow .boolean (.int v) = .int v → decode cX10_isRound pc = .ok (.ireturn, 1) → W p l e (headSpec wsX10_isRound { frames := 0, cells := 0, slots := 0, locals := 0 }).room s m args below meth c s.heap [] 0 0 (MQ below (zQr .boolean out) args s 0 0 (fun _ => False)) (F0 m pc ls [.int v]) := by
    intro v pc ls he hn hd
    cases he
    exact W.zret hx hb hr hn (fun t ht hW => ⟨rfl, hn, ht⟩) (fun _ h => by cases h) hd
  generalize MQ below (zQr .boolean out) args s 0 0 (fun _ => False) = Q at hfin ⊢
  have hl := lv_entry ([.ref (kw 0)]) (n := 1) (Nat.le_of_ble_eq_true rfl)
  refine W.eq (g2 := F0 m 0 ((lg_sl ([.ref (kw 0)]) ++ List.replicate (1 - (lg_sl ([.ref (kw 0)])).length) Slot.unset).toArray) []) (by rw [ha]; exact lg_entry_eq _ _ _) ?_
  generalize (lg_sl ([.ref (kw 0)]) ++ List.replicate (1 - (lg_sl ([.ref (kw 0)])).length) Slot.unset).toArray = ls at hl ⊢
  have hl : lv_has ls 1 [(0, .ref (kw 0))] := hl
  rw [f_X10_isRound] at h
  refine lv_aload_n hx hb dX10_isRound_0 rfl (lv_at hl 0 rfl) ?_
  refine va_get (D := D) (ci := 10) (v := .ref (kw 1)) (C := RX10) (T := TX10) (N := 15) hx hb hts hi10 hown hK.1 hP 0 rfl rfl 0 (by decide) fl7 (fun _ h9 => h9) rfl dX10_isRound_1 ?_
  refine lv_bipush (v := 8) hx hb dX10_isRound_4 (by decide) ?_
  refine va_iald hx hb hK.1 hP 1 0 rfl rfl (vp_in_lit 8 213 rfl) dX10_isRound_6 ?_
  refine lv_iconst (v := 1) hx hb dX10_isRound_7 (by decide) ?_
  refine lv_icmp_ne (tgt := 15) hx hb dX10_isRound_8 (by decide) (fun k1 => ?_) (fun k1 => ?_)
  · replace h := z_neg k1 h
    refine lv_iconst (v := 0) hx hb dX10_isRound_15 (by decide) ?_
    exact hfin _ _ _ h rfl dX10_isRound_16
  replace h := z_pos k1 h
  refine lv_iconst (v := 1) hx hb dX10_isRound_11 (by decide) ?_
  refine lv_goto (tgt := 16) hx hb dX10_isRound_12 (by decide) ?_
  exact hfin _ _ _ h rfl dX10_isRound_16
set_option maxHeartbeats 4000000 in
set_option maxRecDepth 100000 in
theorem c_X10_ofClass (l : Launch) (D : va_G) (tt : Nat → ClassId) (kw : Nat → Nat) (bw : zV) (bj : zJ) (x1 : Int32) (x2 : Int32) (out : Int32) (h : f_X10_ofClass bw bj x1 x2 = some out) : Met l yX10_ofClass wsX10_ofClass { frames := 0, cells := 0, slots := 0, locals := 0 } (zPr [.ref (kw 0), .int x1, .int x2] D tt (zw_mo tt kw bw bj)) (zQr .int out) 0 0 (fun _ => False) := by
  refine Met.ofW (cc := cX10_ofClass) (maxL := 3) (ret := (some .int)) (by decide) rfl ?_
  intro p e s m args below meth c s₁ B hml hv
  obtain ⟨ha, hP, hK⟩ := hv
  have hx := B.exec
  have hb := B.bytes
  have hr := B.returns
  have hts := atoms_spec (ws := wsX10_ofClass) B.pre
  have hown : s.vm.findClass RX10 = some m.cls := findClass_of_methodNamed B.named
  have hlocks := B.notSynchronized
  have hi10 : ∀ w ∈ u_ws RX10 TX10 15, w ∈ wsX10_ofClass := fun _ h => List.mem_cons_of_mem _ (List.mem_append_right _ h)
  have fl7 := hts (.fieldLink RX10 7 "CapStacksModel" "s" "[I") (by decide +kernel)
  have hfin : ∀ (v : Int32) (pc : Nat) (ls : Array Slot), some v = some out → narrow .int (.int v) = .int v → decode cX10_ofClass pc = .ok (.ireturn, 1) → W p l e (headSpec wsX10_ofClass { frames := 0, cells := 0, slots := 0, locals := 0 }).room s m args below meth c s.heap [] 0 0 (MQ below (zQr .int out) args s 0 0 (fun _ => False)) (F0 m pc ls [.int v]) := by
    intro v pc ls he hn hd
    cases he
    exact W.zret hx hb hr hn (fun t ht hW => ⟨rfl, hn, ht⟩) (fun _ h => by cases h) hd
  generalize MQ below (zQr .int out) args s 0 0 (fun _ => False) = Q at hfin ⊢
  have hl := lv_entry ([.ref (kw 0), .int x1, .int x2]) (n := 3) (Nat.le_of_ble_eq_true rfl)
  refine W.eq (g2 := F0 m 0 ((lg_sl ([.ref (kw 0), .int x1, .int x2]) ++ List.replicate (3 - (lg_sl ([.ref (kw 0), .int x1, .int x2])).length) Slot.unset).toArray) []) (by rw [ha]; exact lg_entry_eq _ _ _) ?_
  generalize (lg_sl ([.ref (kw 0), .int x1, .int x2]) ++ List.replicate (3 - (lg_sl ([.ref (kw 0), .int x1, .int x2])).length) Slot.unset).toArray = ls at hl ⊢
  have hl : lv_has ls 3 [(0, .ref (kw 0)), (1, .int x1), (2, .int x2)] := hl
  rw [f_X10_ofClass] at h
  refine lv_aload_n hx hb dX10_ofClass_0 rfl (lv_at hl 0 rfl) ?_
  refine va_get (D := D) (ci := 10) (v := .ref (kw 1)) (C := RX10) (T := TX10) (N := 15) hx hb hts hi10 hown hK.1 hP 0 rfl rfl 0 (by decide) fl7 (fun _ h9 => h9) rfl dX10_ofClass_1 ?_
  refine lv_bipush (v := 28) hx hb dX10_ofClass_4 (by decide) ?_
  refine lv_iconst (v := 5) hx hb dX10_ofClass_6 (by decide) ?_
  refine lv_iload_n hx hb dX10_ofClass_7 rfl (lv_at hl 1 rfl) ?_
  refine lv_imul hx hb dX10_ofClass_8 ?_
  refine lv_iadd hx hb dX10_ofClass_9 ?_
  refine lv_iload_n hx hb dX10_ofClass_10 rfl (lv_at hl 2 rfl) ?_
  refine lv_iadd hx hb dX10_ofClass_11 ?_
  obtain ⟨q1, h⟩ := zA_some h
  refine va_iald hx hb hK.1 hP 1 0 rfl rfl q1 dX10_ofClass_12 ?_
  exact hfin _ _ _ h rfl dX10_ofClass_13
set_option maxHeartbeats 4000000 in
set_option maxRecDepth 100000 in
theorem c_X10_ofGrant (l : Launch) (D : va_G) (tt : Nat → ClassId) (kw : Nat → Nat) (bw : zV) (bj : zJ) (x1 : Int32) (x2 : Int32) (out : Int32) (h : f_X10_ofGrant bw bj x1 x2 = some out) : Met l yX10_ofGrant wsX10_ofGrant { frames := 0, cells := 0, slots := 0, locals := 0 } (zPr [.ref (kw 0), .int x1, .int x2] D tt (zw_mo tt kw bw bj)) (zQr .int out) 0 0 (fun _ => False) := by
  refine Met.ofW (cc := cX10_ofGrant) (maxL := 3) (ret := (some .int)) (by decide) rfl ?_
  intro p e s m args below meth c s₁ B hml hv
  obtain ⟨ha, hP, hK⟩ := hv
  have hx := B.exec
  have hb := B.bytes
  have hr := B.returns
  have hts := atoms_spec (ws := wsX10_ofGrant) B.pre
  have hown : s.vm.findClass RX10 = some m.cls := findClass_of_methodNamed B.named
  have hlocks := B.notSynchronized
  have hi10 : ∀ w ∈ u_ws RX10 TX10 15, w ∈ wsX10_ofGrant := fun _ h => List.mem_cons_of_mem _ (List.mem_append_right _ h)
  have fl7 := hts (.fieldLink RX10 7 "CapStacksModel" "s" "[I") (by decide +kernel)
  have hfin : ∀ (v : Int32) (pc : Nat) (ls : Array Slot), some v = some out → narrow .int (.int v) = .int v → decode cX10_ofGrant pc = .ok (.ireturn, 1) → W p l e (headSpec wsX10_ofGrant { frames := 0, cells := 0, slots := 0, locals := 0 }).room s m args below meth c s.heap [] 0 0 (MQ below (zQr .int out) args s 0 0 (fun _ => False)) (F0 m pc ls [.int v]) := by
    intro v pc ls he hn hd
    cases he
    exact W.zret hx hb hr hn (fun t ht hW => ⟨rfl, hn, ht⟩) (fun _ h => by cases h) hd
  generalize MQ below (zQr .int out) args s 0 0 (fun _ => False) = Q at hfin ⊢
  have hl := lv_entry ([.ref (kw 0), .int x1, .int x2]) (n := 3) (Nat.le_of_ble_eq_true rfl)
  refine W.eq (g2 := F0 m 0 ((lg_sl ([.ref (kw 0), .int x1, .int x2]) ++ List.replicate (3 - (lg_sl ([.ref (kw 0), .int x1, .int x2])).length) Slot.unset).toArray) []) (by rw [ha]; exact lg_entry_eq _ _ _) ?_
  generalize (lg_sl ([.ref (kw 0), .int x1, .int x2]) ++ List.replicate (3 - (lg_sl ([.ref (kw 0), .int x1, .int x2])).length) Slot.unset).toArray = ls at hl ⊢
  have hl : lv_has ls 3 [(0, .ref (kw 0)), (1, .int x1), (2, .int x2)] := hl
  rw [f_X10_ofGrant] at h
  refine lv_aload_n hx hb dX10_ofGrant_0 rfl (lv_at hl 0 rfl) ?_
  refine va_get (D := D) (ci := 10) (v := .ref (kw 1)) (C := RX10) (T := TX10) (N := 15) hx hb hts hi10 hown hK.1 hP 0 rfl rfl 0 (by decide) fl7 (fun _ h9 => h9) rfl dX10_ofGrant_1 ?_
  refine lv_sipush (v := 157) hx hb dX10_ofGrant_4 (by decide) ?_
  refine lv_bipush (v := 7) hx hb dX10_ofGrant_7 (by decide) ?_
  refine lv_iload_n hx hb dX10_ofGrant_9 rfl (lv_at hl 1 rfl) ?_
  refine lv_imul hx hb dX10_ofGrant_10 ?_
  refine lv_iadd hx hb dX10_ofGrant_11 ?_
  refine lv_iload_n hx hb dX10_ofGrant_12 rfl (lv_at hl 2 rfl) ?_
  refine lv_iadd hx hb dX10_ofGrant_13 ?_
  obtain ⟨q1, h⟩ := zA_some h
  refine va_iald hx hb hK.1 hP 1 0 rfl rfl q1 dX10_ofGrant_14 ?_
  exact hfin _ _ _ h rfl dX10_ofGrant_15
set_option maxHeartbeats 4000000 in
set_option maxRecDepth 100000 in
theorem c_X10_hasLeft (l : Launch) (D : va_G) (tt : Nat → ClassId) (kw : Nat → Nat) (bw : zV) (bj : zJ) (x1 : Int32) (out : Int32) (h : f_X10_hasLeft bw bj x1 = some out) : Met l yX10_hasLeft wsX10_hasLeft { frames := 0, cells := 0, slots := 0, locals := 0 } (zPr [.ref (kw 0), .int x1] D tt (zw_mo tt kw bw bj)) (zQr .boolean out) 0 0 (fun _ => False) := by
  refine Met.ofW (cc := cX10_hasLeft) (maxL := 2) (ret := (some .boolean)) (by decide) rfl ?_
  intro p e s m args below meth c s₁ B hml hv
  obtain ⟨ha, hP, hK⟩ := hv
  have hx := B.exec
  have hb := B.bytes
  have hr := B.returns
  have hts := atoms_spec (ws := wsX10_hasLeft) B.pre
  have hown : s.vm.findClass RX10 = some m.cls := findClass_of_methodNamed B.named
  have hlocks := B.notSynchronized
  have hi10 : ∀ w ∈ u_ws RX10 TX10 15, w ∈ wsX10_hasLeft := fun _ h => List.mem_cons_of_mem _ (List.mem_append_right _ h)
  have fl7 := hts (.fieldLink RX10 7 "CapStacksModel" "s" "[I") (by decide +kernel)
  have hfin : ∀ (v : Int32) (pc : Nat) (ls : Array Slot), some v = some out → narrow .boolean (.int v) = .int v → decode cX10_hasLeft pc = .ok (.ireturn, 1) → W p l e (headSpec wsX10_hasLeft { frames := 0, cells := 0, slots := 0, locals := 0 }).room s m args below meth c s.heap [] 0 0 (MQ below (zQr .boolean out) args s 0 0 (fun _ => False)) (F0 m pc ls [.int v]) := by
    intro v pc ls he hn hd
    cases he
    exact W.zret hx hb hr hn (fun t ht hW => ⟨rfl, hn, ht⟩) (fun _ h => by cases h) hd
  generalize MQ below (zQr .boolean out) args s 0 0 (fun _ => False) = Q at hfin ⊢
  have hl := lv_entry ([.ref (kw 0), .int x1]) (n := 2) (Nat.le_of_ble_eq_true rfl)
  refine W.eq (g2 := F0 m 0 ((lg_sl ([.ref (kw 0), .int x1]) ++ List.replicate (2 - (lg_sl ([.ref (kw 0), .int x1])).length) Slot.unset).toArray) []) (by rw [ha]; exact lg_entry_eq _ _ _) ?_
  generalize (lg_sl ([.ref (kw 0), .int x1]) ++ List.replicate (2 - (lg_sl ([.ref (kw 0), .int x1])).length) Slot.unset).toArray = ls at hl ⊢
  have hl : lv_has ls 2 [(0, .ref (kw 0)), (1, .int x1)] := hl
  rw [f_X10_hasLeft] at h
  refine lv_aload_n hx hb dX10_hasLeft_0 rfl (lv_at hl 0 rfl) ?_
  refine va_get (D := D) (ci := 10) (v := .ref (kw 1)) (C := RX10) (T := TX10) (N := 15) hx hb hts hi10 hown hK.1 hP 0 rfl rfl 0 (by decide) fl7 (fun _ h9 => h9) rfl dX10_hasLeft_1 ?_
  refine lv_bipush (v := 53) hx hb dX10_hasLeft_4 (by decide) ?_
  refine lv_iload_n hx hb dX10_hasLeft_6 rfl (lv_at hl 1 rfl) ?_
  refine lv_iadd hx hb dX10_hasLeft_7 ?_
  obtain ⟨q1, h⟩ := zA_some h
  refine va_iald hx hb hK.1 hP 1 0 rfl rfl q1 dX10_hasLeft_8 ?_
  refine lv_if_le (tgt := 16) hx hb dX10_hasLeft_9 (by decide) (fun k2 => ?_) (fun k2 => ?_)
  · replace h := z_pos k2 h
    refine lv_iconst (v := 0) hx hb dX10_hasLeft_16 (by decide) ?_
    exact hfin _ _ _ h rfl dX10_hasLeft_17
  replace h := z_neg k2 h
  refine lv_iconst (v := 1) hx hb dX10_hasLeft_12 (by decide) ?_
  refine lv_goto (tgt := 17) hx hb dX10_hasLeft_13 (by decide) ?_
  exact hfin _ _ _ h rfl dX10_hasLeft_17
set_option maxHeartbeats 4000000 in
set_option maxRecDepth 100000 in
theorem c_X10_sharesOf (l : Launch) (D : va_G) (tt : Nat → ClassId) (kw : Nat → Nat) (bw : zV) (bj : zJ) (x1 : Int32) (x2 : Int32) (out : Int32) (h : f_X10_sharesOf bw bj x1 x2 = some out) : Met l yX10_sharesOf wsX10_sharesOf { frames := 1, cells := 0, slots := 0, locals := 22 } (zPr [.ref (kw 0), .int x1, .int x2] D tt (zw_mo tt kw bw bj)) (zQr .int out) 0 0 (fun _ => False) := by
  refine Met.ofW (cc := cX10_sharesOf) (maxL := 6) (ret := (some .int)) (by decide) rfl ?_
  intro p e s m args below meth c s₁ B hml hv
  obtain ⟨ha, hP, hK⟩ := hv
  have hx := B.exec
  have hb := B.bytes
  have hr := B.returns
  have hts := atoms_spec (ws := wsX10_sharesOf) B.pre
  have hown : s.vm.findClass RX10 = some m.cls := findClass_of_methodNamed B.named
  have hlocks := B.notSynchronized
  have hfin : ∀ (v : Int32) (pc : Nat) (ls : Array Slot), some v = some out → narrow .int (.int v) = .int v → decode cX10_sharesOf pc = .ok (.ireturn, 1) → W p l e (headSpec wsX10_sharesOf { frames := 1, cells := 0, slots := 0, locals := 22 }).room s m args below meth c s.heap [] 0 0 (MQ below (zQr .int out) args s 0 0 (fun _ => False)) (F0 m pc ls [.int v]) := by
    intro v pc ls he hn hd
    cases he
    exact W.zret hx hb hr hn (fun t ht hW => ⟨rfl, hn, ht⟩) (fun _ h => by cases h) hd
  generalize MQ below (zQr .int out) args s 0 0 (fun _ => False) = Q at hfin ⊢
  have go : ∀ n : Nat, (∀ (x1 : Int32) (x2 : Int32) (x3 : Int32) (x4 : Int32) (ls : Array Slot), lv_has ls 6 [(0, .ref (kw 0)), (1, .int x1), (2, .int x2), (3, .int x3), (4, .int x4)] → f_X10_sharesOf_go bw bj n 0 x1 x2 x3 x4 = some out → W p l e (headSpec wsX10_sharesOf { frames := 1, cells := 0, slots := 0, locals := 22 }).room s m args below meth c s.heap [] 0 0 Q (F0 m 5 ls [])) ∧ (∀ (x1 : Int32) (x2 : Int32) (x3 : Int32) (x4 : Int32) (ls : Array Slot), lv_has ls 6 [(0, .ref (kw 0)), (1, .int x1), (2, .int x2), (3, .int x3), (4, .int x4)] → f_X10_sharesOf_go bw bj n 1 x1 x2 x3 x4 = some out → W p l e (headSpec wsX10_sharesOf { frames := 1, cells := 0, slots := 0, locals := 22 }).room s m args below meth c s.heap [] 0 0 Q (F0 m 37 ls [])) := by
    intro n
    induction n with
    | zero =>
      refine ⟨?_, ?_⟩
      · intro x1 x2 x3 x4 ls hl h
        cases h
      · intro x1 x2 x3 x4 ls hl h
        cases h
    | succ n ih =>
      refine ⟨?_, ?_⟩
      · intro x1 x2 x3 x4 ls hl h
        rw [f_X10_sharesOf_go] at h
        refine lv_iload hx hb dX10_sharesOf_5 (lv_at hl 4 rfl) ?_
        refine lv_bipush (v := 24) hx hb dX10_sharesOf_7 (by decide) ?_
        refine lv_icmp_ge (tgt := 82) hx hb dX10_sharesOf_9 (by decide) (fun k7 => ?_) (fun k7 => ?_)
        · replace h := z_pos k7 h
          refine lv_iload_n hx hb dX10_sharesOf_82 rfl (lv_at hl 3 rfl) ?_
          exact hfin _ _ _ h rfl dX10_sharesOf_83
        replace h := z_neg k7 h
        refine lv_aload_n hx hb dX10_sharesOf_12 rfl (lv_at hl 0 rfl) ?_
        refine lv_iload hx hb dX10_sharesOf_13 (lv_at hl 4 rfl) ?_
        refine lv_iconst (v := 0) hx hb dX10_sharesOf_15 (by decide) ?_
        obtain ⟨y8, gy8, h⟩ := zb_some h
        refine z_callr (va_runV (As := [.int x4, .int 0]) (rest := []) ⟨hx, hb, hml, hown, hts⟩ (c_X10_ofCertificate l D tt kw bw bj x4 0 y8 gy8) (cwV 2 hts gX10_sharesOf_X10_ofCertificate rfl rfl rfl (by decide +kernel) ⟨Nat.le_of_ble_eq_true rfl, Nat.le_of_ble_eq_true rfl⟩) (z_preVr hK hP (ci := 10) (q0 := 0) rfl rfl) rfl rfl hl.1 rfl (lv_room (Nat.le_of_ble_eq_true rfl)) dX10_sharesOf_16 ⟨Nat.zero_le _, Nat.zero_le _⟩) (fun ny8 => ?_)
        refine lv_if_le (tgt := 37) hx hb dX10_sharesOf_19 (by decide) (fun k9 => ?_) (fun k9 => ?_)
        · replace h := z_pos k9 h
          exact (ih).2 x1 x2 x3 x4 _ (lv_sub hl [0, 1, 2, 3, 4] rfl) h
        replace h := z_neg k9 h
        refine lv_aload_n hx hb dX10_sharesOf_22 rfl (lv_at hl 0 rfl) ?_
        refine lv_iload hx hb dX10_sharesOf_23 (lv_at hl 4 rfl) ?_
        refine lv_iconst (v := 1) hx hb dX10_sharesOf_25 (by decide) ?_
        obtain ⟨y10, gy10, h⟩ := zb_some h
        refine z_callr (va_runV (As := [.int x4, .int 1]) (rest := []) ⟨hx, hb, hml, hown, hts⟩ (c_X10_ofCertificate l D tt kw bw bj x4 1 y10 gy10) (cwV 2 hts gX10_sharesOf_X10_ofCertificate rfl rfl rfl (by decide +kernel) ⟨Nat.le_of_ble_eq_true rfl, Nat.le_of_ble_eq_true rfl⟩) (z_preVr hK hP (ci := 10) (q0 := 0) rfl rfl) rfl rfl hl.1 rfl (lv_room (Nat.le_of_ble_eq_true rfl)) dX10_sharesOf_26 ⟨Nat.zero_le _, Nat.zero_le _⟩) (fun ny10 => ?_)
        refine lv_iload_n hx hb dX10_sharesOf_29 rfl (lv_at hl 2 rfl) ?_
        refine lv_icmp_ne (tgt := 37) hx hb dX10_sharesOf_30 (by decide) (fun k11 => ?_) (fun k11 => ?_)
        · replace h := z_neg k11 h
          exact (ih).2 x1 x2 x3 x4 _ (lv_sub hl [0, 1, 2, 3, 4] rfl) h
        replace h := z_pos k11 h
        refine lv_iconst (v := 1) hx hb dX10_sharesOf_33 (by decide) ?_
        refine lv_goto (tgt := 38) hx hb dX10_sharesOf_34 (by decide) ?_
        refine lv_istore (lv' := [(5, .int 1), (0, .ref (kw 0)), (1, .int x1), (2, .int x2), (3, .int x3), (4, .int x4)]) hx hb dX10_sharesOf_38 hl (by decide) rfl (fun ls hl => ?_)
        refine lv_iload_n hx hb dX10_sharesOf_40 rfl (lv_at hl 4 rfl) ?_
        refine lv_iload hx hb dX10_sharesOf_41 (lv_at hl 0 rfl) ?_
        refine lv_if_eq (tgt := 73) hx hb dX10_sharesOf_43 (by decide) (fun k12 => ?_) (fun k12 => ?_)
        · replace h := z_pos k12 h
          refine lv_iconst (v := 0) hx hb dX10_sharesOf_73 (by decide) ?_
          refine lv_iadd hx hb dX10_sharesOf_74 ?_
          refine lv_istore_n (lv' := [(3, .int (x3 + 0)), (5, .int 1), (0, .ref (kw 0)), (1, .int x1), (2, .int x2), (4, .int x4)]) hx hb dX10_sharesOf_75 rfl hl (by decide) rfl (fun ls hl => ?_)
          refine lv_iinc (v := (x4 + 1)) (lv' := [(4, .int (x4 + 1)), (3, .int (x3 + 0)), (5, .int 1), (0, .ref (kw 0)), (1, .int x1), (2, .int x2)]) hx hb dX10_sharesOf_76 hl (k := 5) rfl rfl (by decide) rfl (fun ls hl => ?_)
          refine lv_goto (tgt := 5) hx hb dX10_sharesOf_79 (by decide) ?_
          exact (ih).1 x1 x2 (x3 + 0) (x4 + 1) _ (lv_sub hl [3, 4, 5, 1, 0] rfl) h
        replace h := z_neg k12 h
        refine lv_iload_n hx hb dX10_sharesOf_46 rfl (lv_at hl 2 rfl) ?_
        refine lv_if_lt (tgt := 63) hx hb dX10_sharesOf_47 (by decide) (fun k13 => ?_) (fun k13 => ?_)
        · replace h := z_pos k13 h
          refine lv_aload_n hx hb dX10_sharesOf_63 rfl (lv_at hl 1 rfl) ?_
          refine lv_iload hx hb dX10_sharesOf_64 (lv_at hl 5 rfl) ?_
          refine lv_iconst (v := 2) hx hb dX10_sharesOf_66 (by decide) ?_
          obtain ⟨y14, gy14, h⟩ := zb_some h
          refine z_callr (va_runV (As := [.int x4, .int 2]) (rest := [.int x3]) ⟨hx, hb, hml, hown, hts⟩ (c_X10_ofCertificate l D tt kw bw bj x4 2 y14 gy14) (cwV 2 hts gX10_sharesOf_X10_ofCertificate rfl rfl rfl (by decide +kernel) ⟨Nat.le_of_ble_eq_true rfl, Nat.le_of_ble_eq_true rfl⟩) (z_preVr hK hP (ci := 10) (q0 := 0) rfl rfl) rfl rfl hl.1 rfl (lv_room (Nat.le_of_ble_eq_true rfl)) dX10_sharesOf_67 ⟨Nat.zero_le _, Nat.zero_le _⟩) (fun ny14 => ?_)
          refine lv_goto (tgt := 74) hx hb dX10_sharesOf_70 (by decide) ?_
          refine lv_iadd hx hb dX10_sharesOf_74 ?_
          refine lv_istore_n (lv' := [(3, .int (x3 + y14)), (5, .int 1), (0, .ref (kw 0)), (1, .int x1), (2, .int x2), (4, .int x4)]) hx hb dX10_sharesOf_75 rfl hl (by decide) rfl (fun ls hl => ?_)
          refine lv_iinc (v := (x4 + 1)) (lv' := [(4, .int (x4 + 1)), (3, .int (x3 + y14)), (5, .int 1), (0, .ref (kw 0)), (1, .int x1), (2, .int x2)]) hx hb dX10_sharesOf_76 hl (k := 5) rfl rfl (by decide) rfl (fun ls hl => ?_)
          refine lv_goto (tgt := 5) hx hb dX10_sharesOf_79 (by decide) ?_
          exact (ih).1 x1 x2 (x3 + y14) (x4 + 1) _ (lv_sub hl [3, 4, 5, 1, 0] rfl) h
        replace h := z_neg k13 h
        refine lv_aload_n hx hb dX10_sharesOf_50 rfl (lv_at hl 1 rfl) ?_
        refine lv_iload hx hb dX10_sharesOf_51 (lv_at hl 5 rfl) ?_
        refine lv_iconst (v := 0) hx hb dX10_sharesOf_53 (by decide) ?_
        obtain ⟨y15, gy15, h⟩ := zb_some h
        refine z_callr (va_runV (As := [.int x4, .int 0]) (rest := [.int x3]) ⟨hx, hb, hml, hown, hts⟩ (c_X10_ofCertificate l D tt kw bw bj x4 0 y15 gy15) (cwV 2 hts gX10_sharesOf_X10_ofCertificate rfl rfl rfl (by decide +kernel) ⟨Nat.le_of_ble_eq_true rfl, Nat.le_of_ble_eq_true rfl⟩) (z_preVr hK hP (ci := 10) (q0 := 0) rfl rfl) rfl rfl hl.1 rfl (lv_room (Nat.le_of_ble_eq_true rfl)) dX10_sharesOf_54 ⟨Nat.zero_le _, Nat.zero_le _⟩) (fun ny15 => ?_)
        refine lv_iload_n hx hb dX10_sharesOf_57 rfl (lv_at hl 2 rfl) ?_
        refine lv_iconst (v := 1) hx hb dX10_sharesOf_58 (by decide) ?_
        refine lv_iadd hx hb dX10_sharesOf_59 ?_
        refine lv_icmp_ne (tgt := 73) hx hb dX10_sharesOf_60 (by decide) (fun k16 => ?_) (fun k16 => ?_)
        · replace h := z_neg k16 h
          refine lv_iconst (v := 0) hx hb dX10_sharesOf_73 (by decide) ?_
          refine lv_iadd hx hb dX10_sharesOf_74 ?_
          refine lv_istore_n (lv' := [(3, .int (x3 + 0)), (5, .int 1), (0, .ref (kw 0)), (1, .int x1), (2, .int x2), (4, .int x4)]) hx hb dX10_sharesOf_75 rfl hl (by decide) rfl (fun ls hl => ?_)
          refine lv_iinc (v := (x4 + 1)) (lv' := [(4, .int (x4 + 1)), (3, .int (x3 + 0)), (5, .int 1), (0, .ref (kw 0)), (1, .int x1), (2, .int x2)]) hx hb dX10_sharesOf_76 hl (k := 5) rfl rfl (by decide) rfl (fun ls hl => ?_)
          refine lv_goto (tgt := 5) hx hb dX10_sharesOf_79 (by decide) ?_
          exact (ih).1 x1 x2 (x3 + 0) (x4 + 1) _ (lv_sub hl [3, 4, 5, 1, 0] rfl) h
        replace h := z_pos k16 h
        refine lv_aload_n hx hb dX10_sharesOf_63 rfl (lv_at hl 1 rfl) ?_
        refine lv_iload hx hb dX10_sharesOf_64 (lv_at hl 5 rfl) ?_
        refine lv_iconst (v := 2) hx hb dX10_sharesOf_66 (by decide) ?_
        obtain ⟨y17, gy17, h⟩ := zb_some h
        refine z_callr (va_runV (As := [.int x4, .int 2]) (rest := [.int x3]) ⟨hx, hb, hml, hown, hts⟩ (c_X10_ofCertificate l D tt kw bw bj x4 2 y17 gy17) (cwV 2 hts gX10_sharesOf_X10_ofCertificate rfl rfl rfl (by decide +kernel) ⟨Nat.le_of_ble_eq_true rfl, Nat.le_of_ble_eq_true rfl⟩) (z_preVr hK hP (ci := 10) (q0 := 0) rfl rfl) rfl rfl hl.1 rfl (lv_room (Nat.le_of_ble_eq_true rfl)) dX10_sharesOf_67 ⟨Nat.zero_le _, Nat.zero_le _⟩) (fun ny17 => ?_)
        refine lv_goto (tgt := 74) hx hb dX10_sharesOf_70 (by decide) ?_
        refine lv_iadd hx hb dX10_sharesOf_74 ?_
        refine lv_istore_n (lv' := [(3, .int (x3 + y17)), (5, .int 1), (0, .ref (kw 0)), (1, .int x1), (2, .int x2), (4, .int x4)]) hx hb dX10_sharesOf_75 rfl hl (by decide) rfl (fun ls hl => ?_)
        refine lv_iinc (v := (x4 + 1)) (lv' := [(4, .int (x4 + 1)), (3, .int (x3 + y17)), (5, .int 1), (0, .ref (kw 0)), (1, .int x1), (2, .int x2)]) hx hb dX10_sharesOf_76 hl (k := 5) rfl rfl (by decide) rfl (fun ls hl => ?_)
        refine lv_goto (tgt := 5) hx hb dX10_sharesOf_79 (by decide) ?_
        exact (ih).1 x1 x2 (x3 + y17) (x4 + 1) _ (lv_sub hl [3, 4, 5, 1, 0] rfl) h
      · intro x1 x2 x3 x4 ls hl h
        rw [f_X10_sharesOf_go] at h
        refine lv_iconst (v := 0) hx hb dX10_sharesOf_37 (by decide) ?_
        refine lv_istore (lv' := [(5, .int 0), (0, .ref (kw 0)), (1, .int x1), (2, .int x2), (3, .int x3), (4, .int x4)]) hx hb dX10_sharesOf_38 hl (by decide) rfl (fun ls hl => ?_)
        refine lv_iload_n hx hb dX10_sharesOf_40 rfl (lv_at hl 4 rfl) ?_
        refine lv_iload hx hb dX10_sharesOf_41 (lv_at hl 0 rfl) ?_
        refine lv_if_eq (tgt := 73) hx hb dX10_sharesOf_43 (by decide) (fun k1 => ?_) (fun k1 => ?_)
        · replace h := z_pos k1 h
          refine lv_iconst (v := 0) hx hb dX10_sharesOf_73 (by decide) ?_
          refine lv_iadd hx hb dX10_sharesOf_74 ?_
          refine lv_istore_n (lv' := [(3, .int (x3 + 0)), (5, .int 0), (0, .ref (kw 0)), (1, .int x1), (2, .int x2), (4, .int x4)]) hx hb dX10_sharesOf_75 rfl hl (by decide) rfl (fun ls hl => ?_)
          refine lv_iinc (v := (x4 + 1)) (lv' := [(4, .int (x4 + 1)), (3, .int (x3 + 0)), (5, .int 0), (0, .ref (kw 0)), (1, .int x1), (2, .int x2)]) hx hb dX10_sharesOf_76 hl (k := 5) rfl rfl (by decide) rfl (fun ls hl => ?_)
          refine lv_goto (tgt := 5) hx hb dX10_sharesOf_79 (by decide) ?_
          exact (ih).1 x1 x2 (x3 + 0) (x4 + 1) _ (lv_sub hl [3, 4, 5, 1, 0] rfl) h
        replace h := z_neg k1 h
        refine lv_iload_n hx hb dX10_sharesOf_46 rfl (lv_at hl 2 rfl) ?_
        refine lv_if_lt (tgt := 63) hx hb dX10_sharesOf_47 (by decide) (fun k2 => ?_) (fun k2 => ?_)
        · replace h := z_pos k2 h
          refine lv_aload_n hx hb dX10_sharesOf_63 rfl (lv_at hl 1 rfl) ?_
          refine lv_iload hx hb dX10_sharesOf_64 (lv_at hl 5 rfl) ?_
          refine lv_iconst (v := 2) hx hb dX10_sharesOf_66 (by decide) ?_
          obtain ⟨y3, gy3, h⟩ := zb_some h
          refine z_callr (va_runV (As := [.int x4, .int 2]) (rest := [.int x3]) ⟨hx, hb, hml, hown, hts⟩ (c_X10_ofCertificate l D tt kw bw bj x4 2 y3 gy3) (cwV 2 hts gX10_sharesOf_X10_ofCertificate rfl rfl rfl (by decide +kernel) ⟨Nat.le_of_ble_eq_true rfl, Nat.le_of_ble_eq_true rfl⟩) (z_preVr hK hP (ci := 10) (q0 := 0) rfl rfl) rfl rfl hl.1 rfl (lv_room (Nat.le_of_ble_eq_true rfl)) dX10_sharesOf_67 ⟨Nat.zero_le _, Nat.zero_le _⟩) (fun ny3 => ?_)
          refine lv_goto (tgt := 74) hx hb dX10_sharesOf_70 (by decide) ?_
          refine lv_iadd hx hb dX10_sharesOf_74 ?_
          refine lv_istore_n (lv' := [(3, .int (x3 + y3)), (5, .int 0), (0, .ref (kw 0)), (1, .int x1), (2, .int x2), (4, .int x4)]) hx hb dX10_sharesOf_75 rfl hl (by decide) rfl (fun ls hl => ?_)
          refine lv_iinc (v := (x4 + 1)) (lv' := [(4, .int (x4 + 1)), (3, .int (x3 + y3)), (5, .int 0), (0, .ref (kw 0)), (1, .int x1), (2, .int x2)]) hx hb dX10_sharesOf_76 hl (k := 5) rfl rfl (by decide) rfl (fun ls hl => ?_)
          refine lv_goto (tgt := 5) hx hb dX10_sharesOf_79 (by decide) ?_
          exact (ih).1 x1 x2 (x3 + y3) (x4 + 1) _ (lv_sub hl [3, 4, 5, 1, 0] rfl) h
        replace h := z_neg k2 h
        refine lv_aload_n hx hb dX10_sharesOf_50 rfl (lv_at hl 1 rfl) ?_
        refine lv_iload hx hb dX10_sharesOf_51 (lv_at hl 5 rfl) ?_
        refine lv_iconst (v := 0) hx hb dX10_sharesOf_53 (by decide) ?_
        obtain ⟨y4, gy4, h⟩ := zb_some h
        refine z_callr (va_runV (As := [.int x4, .int 0]) (rest := [.int x3]) ⟨hx, hb, hml, hown, hts⟩ (c_X10_ofCertificate l D tt kw bw bj x4 0 y4 gy4) (cwV 2 hts gX10_sharesOf_X10_ofCertificate rfl rfl rfl (by decide +kernel) ⟨Nat.le_of_ble_eq_true rfl, Nat.le_of_ble_eq_true rfl⟩) (z_preVr hK hP (ci := 10) (q0 := 0) rfl rfl) rfl rfl hl.1 rfl (lv_room (Nat.le_of_ble_eq_true rfl)) dX10_sharesOf_54 ⟨Nat.zero_le _, Nat.zero_le _⟩) (fun ny4 => ?_)
        refine lv_iload_n hx hb dX10_sharesOf_57 rfl (lv_at hl 2 rfl) ?_
        refine lv_iconst (v := 1) hx hb dX10_sharesOf_58 (by decide) ?_
        refine lv_iadd hx hb dX10_sharesOf_59 ?_
        refine lv_icmp_ne (tgt := 73) hx hb dX10_sharesOf_60 (by decide) (fun k5 => ?_) (fun k5 => ?_)
        · replace h := z_neg k5 h
          refine lv_iconst (v := 0) hx hb dX10_sharesOf_73 (by decide) ?_
          refine lv_iadd hx hb dX10_sharesOf_74 ?_
          refine lv_istore_n (lv' := [(3, .int (x3 + 0)), (5, .int 0), (0, .ref (kw 0)), (1, .int x1), (2, .int x2), (4, .int x4)]) hx hb dX10_sharesOf_75 rfl hl (by decide) rfl (fun ls hl => ?_)
          refine lv_iinc (v := (x4 + 1)) (lv' := [(4, .int (x4 + 1)), (3, .int (x3 + 0)), (5, .int 0), (0, .ref (kw 0)), (1, .int x1), (2, .int x2)]) hx hb dX10_sharesOf_76 hl (k := 5) rfl rfl (by decide) rfl (fun ls hl => ?_)
          refine lv_goto (tgt := 5) hx hb dX10_sharesOf_79 (by decide) ?_
          exact (ih).1 x1 x2 (x3 + 0) (x4 + 1) _ (lv_sub hl [3, 4, 5, 1, 0] rfl) h
        replace h := z_pos k5 h
        refine lv_aload_n hx hb dX10_sharesOf_63 rfl (lv_at hl 1 rfl) ?_
        refine lv_iload hx hb dX10_sharesOf_64 (lv_at hl 5 rfl) ?_
        refine lv_iconst (v := 2) hx hb dX10_sharesOf_66 (by decide) ?_
        obtain ⟨y6, gy6, h⟩ := zb_some h
        refine z_callr (va_runV (As := [.int x4, .int 2]) (rest := [.int x3]) ⟨hx, hb, hml, hown, hts⟩ (c_X10_ofCertificate l D tt kw bw bj x4 2 y6 gy6) (cwV 2 hts gX10_sharesOf_X10_ofCertificate rfl rfl rfl (by decide +kernel) ⟨Nat.le_of_ble_eq_true rfl, Nat.le_of_ble_eq_true rfl⟩) (z_preVr hK hP (ci := 10) (q0 := 0) rfl rfl) rfl rfl hl.1 rfl (lv_room (Nat.le_of_ble_eq_true rfl)) dX10_sharesOf_67 ⟨Nat.zero_le _, Nat.zero_le _⟩) (fun ny6 => ?_)
        refine lv_goto (tgt := 74) hx hb dX10_sharesOf_70 (by decide) ?_
        refine lv_iadd hx hb dX10_sharesOf_74 ?_
        refine lv_istore_n (lv' := [(3, .int (x3 + y6)), (5, .int 0), (0, .ref (kw 0)), (1, .int x1), (2, .int x2), (4, .int x4)]) hx hb dX10_sharesOf_75 rfl hl (by decide) rfl (fun ls hl => ?_)
        refine lv_iinc (v := (x4 + 1)) (lv' := [(4, .int (x4 + 1)), (3, .int (x3 + y6)), (5, .int 0), (0, .ref (kw 0)), (1, .int x1), (2, .int x2)]) hx hb dX10_sharesOf_76 hl (k := 5) rfl rfl (by decide) rfl (fun ls hl => ?_)
        refine lv_goto (tgt := 5) hx hb dX10_sharesOf_79 (by decide) ?_
        exact (ih).1 x1 x2 (x3 + y6) (x4 + 1) _ (lv_sub hl [3, 4, 5, 1, 0] rfl) h
  have hl := lv_entry ([.ref (kw 0), .int x1, .int x2]) (n := 6) (Nat.le_of_ble_eq_true rfl)
  refine W.eq (g2 := F0 m 0 ((lg_sl ([.ref (kw 0), .int x1, .int x2]) ++ List.replicate (6 - (lg_sl ([.ref (kw 0), .int x1, .int x2])).length) Slot.unset).toArray) []) (by rw [ha]; exact lg_entry_eq _ _ _) ?_
  generalize (lg_sl ([.ref (kw 0), .int x1, .int x2]) ++ List.replicate (6 - (lg_sl ([.ref (kw 0), .int x1, .int x2])).length) Slot.unset).toArray = ls at hl ⊢
  have hl : lv_has ls 6 [(0, .ref (kw 0)), (1, .int x1), (2, .int x2)] := hl
  rw [f_X10_sharesOf] at h
  refine lv_iconst (v := 0) hx hb dX10_sharesOf_0 (by decide) ?_
  refine lv_istore_n (lv' := [(3, .int 0), (0, .ref (kw 0)), (1, .int x1), (2, .int x2)]) hx hb dX10_sharesOf_1 rfl hl (by decide) rfl (fun ls hl => ?_)
  refine lv_iconst (v := 0) hx hb dX10_sharesOf_2 (by decide) ?_
  refine lv_istore (lv' := [(4, .int 0), (3, .int 0), (0, .ref (kw 0)), (1, .int x1), (2, .int x2)]) hx hb dX10_sharesOf_3 hl (by decide) rfl (fun ls hl => ?_)
  exact (go 1000).1 x1 x2 0 0 _ (lv_sub hl [2, 3, 4, 1, 0] rfl) h
set_option maxHeartbeats 4000000 in
set_option maxRecDepth 100000 in
theorem c_X10_commonOf (l : Launch) (D : va_G) (tt : Nat → ClassId) (kw : Nat → Nat) (bw : zV) (bj : zJ) (x1 : Int32) (out : Int32) (h : f_X10_commonOf bw bj x1 = some out) : Met l yX10_commonOf wsX10_commonOf { frames := 2, cells := 0, slots := 0, locals := 47 } (zPr [.ref (kw 0), .int x1] D tt (zw_mo tt kw bw bj)) (zQr .int out) 0 0 (fun _ => False) := by
  refine Met.ofW (cc := cX10_commonOf) (maxL := 4) (ret := (some .int)) (by decide) rfl ?_
  intro p e s m args below meth c s₁ B hml hv
  obtain ⟨ha, hP, hK⟩ := hv
  have hx := B.exec
  have hb := B.bytes
  have hr := B.returns
  have hts := atoms_spec (ws := wsX10_commonOf) B.pre
  have hown : s.vm.findClass RX10 = some m.cls := findClass_of_methodNamed B.named
  have hlocks := B.notSynchronized
  have hi10 : ∀ w ∈ u_ws RX10 TX10 15, w ∈ wsX10_commonOf := fun _ h => List.mem_cons_of_mem _ (List.mem_append_right _ h)
  have fl7 := hts (.fieldLink RX10 7 "CapStacksModel" "s" "[I") (by decide +kernel)
  have hfin : ∀ (v : Int32) (pc : Nat) (ls : Array Slot), some v = some out → narrow .int (.int v) = .int v → decode cX10_commonOf pc = .ok (.ireturn, 1) → W p l e (headSpec wsX10_commonOf { frames := 2, cells := 0, slots := 0, locals := 47 }).room s m args below meth c s.heap [] 0 0 (MQ below (zQr .int out) args s 0 0 (fun _ => False)) (F0 m pc ls [.int v]) := by
    intro v pc ls he hn hd
    cases he
    exact W.zret hx hb hr hn (fun t ht hW => ⟨rfl, hn, ht⟩) (fun _ h => by cases h) hd
  generalize MQ below (zQr .int out) args s 0 0 (fun _ => False) = Q at hfin ⊢
  have b4 : ∀ n : Nat, ∀ (x1 : Int32) (x2 : Int32) (x3 : Int32) (ls : Array Slot), lv_has ls 4 [(0, .ref (kw 0)), (1, .int x1), (2, .int x2), (3, .int x3)] → f_X10_commonOf_b4 bw bj n x1 x2 x3 = some out → W p l e (headSpec wsX10_commonOf { frames := 2, cells := 0, slots := 0, locals := 47 }).room s m args below meth c s.heap [] 0 0 Q (F0 m 4 ls []) := by
    intro n
    induction n with
    | zero =>
      intro x1 x2 x3 ls hl h
      cases h
    | succ n ih =>
      intro x1 x2 x3 ls hl h
      rw [f_X10_commonOf_b4] at h
      refine lv_iload_n hx hb dX10_commonOf_4 rfl (lv_at hl 3 rfl) ?_
      refine lv_aload_n hx hb dX10_commonOf_5 rfl (lv_at hl 0 rfl) ?_
      refine va_get (D := D) (ci := 10) (v := .ref (kw 1)) (C := RX10) (T := TX10) (N := 15) hx hb hts hi10 hown hK.1 hP 0 rfl rfl 0 (by decide) fl7 (fun _ h9 => h9) rfl dX10_commonOf_6 ?_
      refine lv_iconst (v := 0) hx hb dX10_commonOf_9 (by decide) ?_
      refine va_iald hx hb hK.1 hP 1 0 rfl rfl (vp_in_lit 0 213 rfl) dX10_commonOf_10 ?_
      refine lv_icmp_ge (tgt := 36) hx hb dX10_commonOf_11 (by decide) (fun k1 => ?_) (fun k1 => ?_)
      · replace h := z_pos k1 h
        refine lv_iload_n hx hb dX10_commonOf_36 rfl (lv_at hl 2 rfl) ?_
        exact hfin _ _ _ h rfl dX10_commonOf_37
      replace h := z_neg k1 h
      refine lv_iload_n hx hb dX10_commonOf_14 rfl (lv_at hl 2 rfl) ?_
      refine lv_aload_n hx hb dX10_commonOf_15 rfl (lv_at hl 0 rfl) ?_
      refine lv_iload_n hx hb dX10_commonOf_16 rfl (lv_at hl 1 rfl) ?_
      refine lv_iload_n hx hb dX10_commonOf_17 rfl (lv_at hl 3 rfl) ?_
      obtain ⟨y2, gy2, h⟩ := zb_some h
      refine z_callr (va_runV (As := [.int x1, .int x3]) (rest := [.int x2]) ⟨hx, hb, hml, hown, hts⟩ (c_X10_sharesOf l D tt kw bw bj x1 x3 y2 gy2) (cwV 2 hts gX10_commonOf_X10_sharesOf rfl rfl rfl (by decide +kernel) ⟨Nat.le_of_ble_eq_true rfl, Nat.le_of_ble_eq_true rfl⟩) (z_preVr hK hP (ci := 10) (q0 := 0) rfl rfl) rfl rfl hl.1 rfl (lv_room (Nat.le_of_ble_eq_true rfl)) dX10_commonOf_18 ⟨Nat.zero_le _, Nat.zero_le _⟩) (fun ny2 => ?_)
      refine lv_aload_n hx hb dX10_commonOf_21 rfl (lv_at hl 0 rfl) ?_
      refine lv_iload_n hx hb dX10_commonOf_22 rfl (lv_at hl 3 rfl) ?_
      refine lv_iconst (v := 4) hx hb dX10_commonOf_23 (by decide) ?_
      obtain ⟨y3, gy3, h⟩ := zb_some h
      refine z_callr (va_runV (As := [.int x3, .int 4]) (rest := [.int y2, .int x2]) ⟨hx, hb, hml, hown, hts⟩ (c_X10_ofClass l D tt kw bw bj x3 4 y3 gy3) (cwV 2 hts gX10_commonOf_X10_ofClass rfl rfl rfl (by decide +kernel) ⟨Nat.le_of_ble_eq_true rfl, Nat.le_of_ble_eq_true rfl⟩) (z_preVr hK hP (ci := 10) (q0 := 0) rfl rfl) rfl rfl hl.1 rfl (lv_room (Nat.le_of_ble_eq_true rfl)) dX10_commonOf_24 ⟨Nat.zero_le _, Nat.zero_le _⟩) (fun ny3 => ?_)
      refine lv_imul hx hb dX10_commonOf_27 ?_
      refine lv_iadd hx hb dX10_commonOf_28 ?_
      refine lv_istore_n (lv' := [(2, .int (x2 + (y2 * y3))), (0, .ref (kw 0)), (1, .int x1), (3, .int x3)]) hx hb dX10_commonOf_29 rfl hl (by decide) rfl (fun ls hl => ?_)
      refine lv_iinc (v := (x3 + 1)) (lv' := [(3, .int (x3 + 1)), (2, .int (x2 + (y2 * y3))), (0, .ref (kw 0)), (1, .int x1)]) hx hb dX10_commonOf_30 hl (k := 3) rfl rfl (by decide) rfl (fun ls hl => ?_)
      refine lv_goto (tgt := 4) hx hb dX10_commonOf_33 (by decide) ?_
      exact ih x1 (x2 + (y2 * y3)) (x3 + 1) _ (lv_sub hl [2, 3, 1, 0] rfl) h
  have hl := lv_entry ([.ref (kw 0), .int x1]) (n := 4) (Nat.le_of_ble_eq_true rfl)
  refine W.eq (g2 := F0 m 0 ((lg_sl ([.ref (kw 0), .int x1]) ++ List.replicate (4 - (lg_sl ([.ref (kw 0), .int x1])).length) Slot.unset).toArray) []) (by rw [ha]; exact lg_entry_eq _ _ _) ?_
  generalize (lg_sl ([.ref (kw 0), .int x1]) ++ List.replicate (4 - (lg_sl ([.ref (kw 0), .int x1])).length) Slot.unset).toArray = ls at hl ⊢
  have hl : lv_has ls 4 [(0, .ref (kw 0)), (1, .int x1)] := hl
  rw [f_X10_commonOf] at h
  refine lv_iconst (v := 0) hx hb dX10_commonOf_0 (by decide) ?_
  refine lv_istore_n (lv' := [(2, .int 0), (0, .ref (kw 0)), (1, .int x1)]) hx hb dX10_commonOf_1 rfl hl (by decide) rfl (fun ls hl => ?_)
  refine lv_iconst (v := 0) hx hb dX10_commonOf_2 (by decide) ?_
  refine lv_istore_n (lv' := [(3, .int 0), (2, .int 0), (0, .ref (kw 0)), (1, .int x1)]) hx hb dX10_commonOf_3 rfl hl (by decide) rfl (fun ls hl => ?_)
  exact b4 1000 x1 0 0 _ (lv_sub hl [2, 3, 1, 0] rfl) h
set_option maxHeartbeats 4000000 in
set_option maxRecDepth 100000 in
theorem c_X10_certificates (l : Launch) (D : va_G) (tt : Nat → ClassId) (kw : Nat → Nat) (bw : zV) (bj : zJ)  (out : Int32) (h : f_X10_certificates bw bj = some out) : Met l yX10_certificates wsX10_certificates { frames := 1, cells := 0, slots := 0, locals := 22 } (zPr [.ref (kw 0)] D tt (zw_mo tt kw bw bj)) (zQr .int out) 0 0 (fun _ => False) := by
  refine Met.ofW (cc := cX10_certificates) (maxL := 3) (ret := (some .int)) (by decide) rfl ?_
  intro p e s m args below meth c s₁ B hml hv
  obtain ⟨ha, hP, hK⟩ := hv
  have hx := B.exec
  have hb := B.bytes
  have hr := B.returns
  have hts := atoms_spec (ws := wsX10_certificates) B.pre
  have hown : s.vm.findClass RX10 = some m.cls := findClass_of_methodNamed B.named
  have hlocks := B.notSynchronized
  have hfin : ∀ (v : Int32) (pc : Nat) (ls : Array Slot), some v = some out → narrow .int (.int v) = .int v → decode cX10_certificates pc = .ok (.ireturn, 1) → W p l e (headSpec wsX10_certificates { frames := 1, cells := 0, slots := 0, locals := 22 }).room s m args below meth c s.heap [] 0 0 (MQ below (zQr .int out) args s 0 0 (fun _ => False)) (F0 m pc ls [.int v]) := by
    intro v pc ls he hn hd
    cases he
    exact W.zret hx hb hr hn (fun t ht hW => ⟨rfl, hn, ht⟩) (fun _ h => by cases h) hd
  generalize MQ below (zQr .int out) args s 0 0 (fun _ => False) = Q at hfin ⊢
  have b4 : ∀ n : Nat, ∀ (x1 : Int32) (x2 : Int32) (ls : Array Slot), lv_has ls 3 [(0, .ref (kw 0)), (1, .int x1), (2, .int x2)] → f_X10_certificates_b4 bw bj n x1 x2 = some out → W p l e (headSpec wsX10_certificates { frames := 1, cells := 0, slots := 0, locals := 22 }).room s m args below meth c s.heap [] 0 0 Q (F0 m 4 ls []) := by
    intro n
    induction n with
    | zero =>
      intro x1 x2 ls hl h
      cases h
    | succ n ih =>
      intro x1 x2 ls hl h
      rw [f_X10_certificates_b4] at h
      refine lv_iload_n hx hb dX10_certificates_4 rfl (lv_at hl 2 rfl) ?_
      refine lv_bipush (v := 24) hx hb dX10_certificates_5 (by decide) ?_
      refine lv_icmp_ge (tgt := 33) hx hb dX10_certificates_7 (by decide) (fun k1 => ?_) (fun k1 => ?_)
      · replace h := z_pos k1 h
        refine lv_iload_n hx hb dX10_certificates_33 rfl (lv_at hl 1 rfl) ?_
        exact hfin _ _ _ h rfl dX10_certificates_34
      replace h := z_neg k1 h
      refine lv_iload_n hx hb dX10_certificates_10 rfl (lv_at hl 1 rfl) ?_
      refine lv_aload_n hx hb dX10_certificates_11 rfl (lv_at hl 0 rfl) ?_
      refine lv_iload_n hx hb dX10_certificates_12 rfl (lv_at hl 2 rfl) ?_
      refine lv_iconst (v := 0) hx hb dX10_certificates_13 (by decide) ?_
      obtain ⟨y2, gy2, h⟩ := zb_some h
      refine z_callr (va_runV (As := [.int x2, .int 0]) (rest := [.int x1]) ⟨hx, hb, hml, hown, hts⟩ (c_X10_ofCertificate l D tt kw bw bj x2 0 y2 gy2) (cwV 2 hts gX10_certificates_X10_ofCertificate rfl rfl rfl (by decide +kernel) ⟨Nat.le_of_ble_eq_true rfl, Nat.le_of_ble_eq_true rfl⟩) (z_preVr hK hP (ci := 10) (q0 := 0) rfl rfl) rfl rfl hl.1 rfl (lv_room (Nat.le_of_ble_eq_true rfl)) dX10_certificates_14 ⟨Nat.zero_le _, Nat.zero_le _⟩) (fun ny2 => ?_)
      refine lv_if_le (tgt := 24) hx hb dX10_certificates_17 (by decide) (fun k3 => ?_) (fun k3 => ?_)
      · replace h := z_pos k3 h
        refine lv_iconst (v := 0) hx hb dX10_certificates_24 (by decide) ?_
        refine lv_iadd hx hb dX10_certificates_25 ?_
        refine lv_istore_n (lv' := [(1, .int (x1 + 0)), (0, .ref (kw 0)), (2, .int x2)]) hx hb dX10_certificates_26 rfl hl (by decide) rfl (fun ls hl => ?_)
        refine lv_iinc (v := (x2 + 1)) (lv' := [(2, .int (x2 + 1)), (1, .int (x1 + 0)), (0, .ref (kw 0))]) hx hb dX10_certificates_27 hl (k := 2) rfl rfl (by decide) rfl (fun ls hl => ?_)
        refine lv_goto (tgt := 4) hx hb dX10_certificates_30 (by decide) ?_
        exact ih (x1 + 0) (x2 + 1) _ (lv_sub hl [2, 1, 0] rfl) h
      replace h := z_neg k3 h
      refine lv_iconst (v := 1) hx hb dX10_certificates_20 (by decide) ?_
      refine lv_goto (tgt := 25) hx hb dX10_certificates_21 (by decide) ?_
      refine lv_iadd hx hb dX10_certificates_25 ?_
      refine lv_istore_n (lv' := [(1, .int (x1 + 1)), (0, .ref (kw 0)), (2, .int x2)]) hx hb dX10_certificates_26 rfl hl (by decide) rfl (fun ls hl => ?_)
      refine lv_iinc (v := (x2 + 1)) (lv' := [(2, .int (x2 + 1)), (1, .int (x1 + 1)), (0, .ref (kw 0))]) hx hb dX10_certificates_27 hl (k := 2) rfl rfl (by decide) rfl (fun ls hl => ?_)
      refine lv_goto (tgt := 4) hx hb dX10_certificates_30 (by decide) ?_
      exact ih (x1 + 1) (x2 + 1) _ (lv_sub hl [2, 1, 0] rfl) h
  have hl := lv_entry ([.ref (kw 0)]) (n := 3) (Nat.le_of_ble_eq_true rfl)
  refine W.eq (g2 := F0 m 0 ((lg_sl ([.ref (kw 0)]) ++ List.replicate (3 - (lg_sl ([.ref (kw 0)])).length) Slot.unset).toArray) []) (by rw [ha]; exact lg_entry_eq _ _ _) ?_
  generalize (lg_sl ([.ref (kw 0)]) ++ List.replicate (3 - (lg_sl ([.ref (kw 0)])).length) Slot.unset).toArray = ls at hl ⊢
  have hl : lv_has ls 3 [(0, .ref (kw 0))] := hl
  rw [f_X10_certificates] at h
  refine lv_iconst (v := 0) hx hb dX10_certificates_0 (by decide) ?_
  refine lv_istore_n (lv' := [(1, .int 0), (0, .ref (kw 0))]) hx hb dX10_certificates_1 rfl hl (by decide) rfl (fun ls hl => ?_)
  refine lv_iconst (v := 0) hx hb dX10_certificates_2 (by decide) ?_
  refine lv_istore_n (lv' := [(2, .int 0), (1, .int 0), (0, .ref (kw 0))]) hx hb dX10_certificates_3 rfl hl (by decide) rfl (fun ls hl => ?_)
  exact b4 1000 0 0 _ (lv_sub hl [2, 1, 0] rfl) h
set_option maxHeartbeats 4000000 in
set_option maxRecDepth 100000 in
theorem c_X10_makes (l : Launch) (D : va_G) (tt : Nat → ClassId) (kw : Nat → Nat) (sz : Nat) (bw : zV) (bj : zJ) (x1 : Int32) (x2 : Int32) (x3 : Int32) (out : Int32 × zV) (h : f_X10_makes bw bj x1 x2 x3 = some out) : Met l yX10_makes wsX10_makes { frames := 1, cells := 0, slots := 0, locals := 22 } (zPm [.ref (kw 0), .int x1, .int x2, .int x3] D tt (zw_mo tt kw bw bj) sz) (zMi .int out.1 D (zw_mo tt kw out.2 bj) (va_A (zw_mo tt kw bw bj) sz)) 0 0 (va_A (zw_mo tt kw bw bj) sz) := by
  refine Met.ofW (cc := cX10_makes) (maxL := 6) (ret := (some .int)) (by decide) rfl ?_
  intro p e s m args below meth c s₁ B hml hv
  obtain ⟨ha, hsz, hP, hK, hD0⟩ := hv
  have hx := B.exec
  have hb := B.bytes
  have hr := B.returns
  have hts := atoms_spec (ws := wsX10_makes) B.pre
  have hown : s.vm.findClass RX10 = some m.cls := findClass_of_methodNamed B.named
  have hlocks := B.notSynchronized
  have hi10 : ∀ w ∈ u_ws RX10 TX10 15, w ∈ wsX10_makes := fun _ h => List.mem_cons_of_mem _ (List.mem_append_right _ h)
  have fl7 := hts (.fieldLink RX10 7 "CapStacksModel" "s" "[I") (by decide +kernel)
  subst hsz
  have hD := hD0.self (sz := s.heap.size)
  generalize hAe : va_A (zw_mo tt kw bw bj) s.heap.size = A at hD ⊢
  have hA : ∀ q : Nat, s.heap.size ≤ q → A q := fun q h => by rw [← hAe]; exact Or.inr h
  have hS : va_S A s.heap s.heap [] := va_S.rf
  have hfin : ∀ (v : Int32) (bw : zV) (pc : Nat) (ls : Array Slot) (H : Heap) (locs : List Loc), some (v, bw) = some out → narrow .int (.int v) = .int v → va_P D vwCl (zw_mo tt kw bw bj) H → va_D A (zw_mo tt kw bw bj) → va_S A s.heap H locs → decode cX10_makes pc = .ok (.ireturn, 1) → W p l e (headSpec wsX10_makes { frames := 1, cells := 0, slots := 0, locals := 22 }).room s m args below meth c H locs 0 0 (MQ below (zMi .int out.1 D (zw_mo tt kw out.2 bj) A) args s 0 0 A) (F0 m pc ls [.int v]) := by
    intro v bw pc ls H locs he hn hP hD hS hd
    cases he
    exact W.zret hx hb hr hn (fun t ht hW => ⟨⟨_, (), rfl, ⟨rfl, hn⟩, by rw [ht]; exact hP, hD⟩, hS.F ht⟩) hS.2.2 hd
  generalize MQ below (zMi .int out.1 D (zw_mo tt kw out.2 bj) A) args s 0 0 A = Q at hfin ⊢
  have b7 : ∀ n : Nat, ∀ (bw : zV) (x1 : Int32) (x2 : Int32) (x3 : Int32) (x4 : Int32) (x5 : Int32) (H : Heap) (locs : List Loc) (ls : Array Slot), va_P D vwCl (zw_mo tt kw bw bj) H → va_D A (zw_mo tt kw bw bj) → va_S A s.heap H locs → lv_has ls 6 [(0, .ref (kw 0)), (1, .int x1), (2, .int x2), (3, .int x3), (4, .int x4), (5, .int x5)] → f_X10_makes_b7 bj n bw x1 x2 x3 x4 x5 = some out → W p l e (headSpec wsX10_makes { frames := 1, cells := 0, slots := 0, locals := 22 }).room s m args below meth c H locs 0 0 Q (F0 m 7 ls []) := by
    intro n
    induction n with
    | zero =>
      intro bw x1 x2 x3 x4 x5 H locs ls hP hD hS hl h
      cases h
    | succ n ih =>
      intro bw x1 x2 x3 x4 x5 H locs ls hP hD hS hl h
      rw [f_X10_makes_b7] at h
      refine lv_iload hx hb dX10_makes_7 (lv_at hl 5 rfl) ?_
      refine lv_if_lt (tgt := 37) hx hb dX10_makes_9 (by decide) (fun k1 => ?_) (fun k1 => ?_)
      rotate_left
      · replace h := z_neg k1 h
        refine lv_aload_n hx hb dX10_makes_12 rfl (lv_at hl 0 rfl) ?_
        refine lv_iload hx hb dX10_makes_13 (lv_at hl 5 rfl) ?_
        refine lv_iconst (v := 0) hx hb dX10_makes_15 (by decide) ?_
        obtain ⟨y10, gy10, h⟩ := zb_some h
        refine z_callr (va_runV (As := [.int x5, .int 0]) (rest := []) ⟨hx, hb, hml, hown, hts⟩ (c_X10_ofCertificate l D tt kw bw bj x5 0 y10 gy10) (cwV 2 hts gX10_makes_X10_ofCertificate rfl rfl rfl (by decide +kernel) ⟨Nat.le_of_ble_eq_true rfl, Nat.le_of_ble_eq_true rfl⟩) (z_preVr hK hP (ci := 10) (q0 := 0) rfl rfl) rfl rfl hl.1 rfl (lv_room (Nat.le_of_ble_eq_true rfl)) dX10_makes_16 ⟨Nat.zero_le _, Nat.zero_le _⟩) (fun ny10 => ?_)
        refine lv_if_le (tgt := 27) hx hb dX10_makes_19 (by decide) (fun k11 => ?_) (fun k11 => ?_)
        · replace h := z_pos k11 h
          refine lv_iload hx hb dX10_makes_27 (lv_at hl 5 rfl) ?_
          refine lv_istore (lv' := [(4, .int x5), (0, .ref (kw 0)), (1, .int x1), (2, .int x2), (3, .int x3), (5, .int x5)]) hx hb dX10_makes_29 hl (by decide) rfl (fun ls hl => ?_)
          refine lv_iinc (v := (x5 + (-1))) (lv' := [(5, .int (x5 + (-1))), (4, .int x5), (0, .ref (kw 0)), (1, .int x1), (2, .int x2), (3, .int x3)]) hx hb dX10_makes_31 hl (k := 5) rfl rfl (by decide) rfl (fun ls hl => ?_)
          refine lv_goto (tgt := 7) hx hb dX10_makes_34 (by decide) ?_
          exact ih bw x1 x2 x3 x5 (x5 + (-1)) _ _ _ hP hD hS (lv_sub hl [2, 3, 4, 5, 1, 0] rfl) h
        replace h := z_neg k11 h
        refine lv_iload hx hb dX10_makes_22 (lv_at hl 4 rfl) ?_
        refine lv_goto (tgt := 29) hx hb dX10_makes_24 (by decide) ?_
        refine lv_istore (lv' := [(4, .int x4), (0, .ref (kw 0)), (1, .int x1), (2, .int x2), (3, .int x3), (5, .int x5)]) hx hb dX10_makes_29 hl (by decide) rfl (fun ls hl => ?_)
        refine lv_iinc (v := (x5 + (-1))) (lv' := [(5, .int (x5 + (-1))), (4, .int x4), (0, .ref (kw 0)), (1, .int x1), (2, .int x2), (3, .int x3)]) hx hb dX10_makes_31 hl (k := 5) rfl rfl (by decide) rfl (fun ls hl => ?_)
        refine lv_goto (tgt := 7) hx hb dX10_makes_34 (by decide) ?_
        exact ih bw x1 x2 x3 x4 (x5 + (-1)) _ _ _ hP hD hS (lv_sub hl [2, 3, 4, 5, 1, 0] rfl) h
      replace h := z_pos k1 h
      refine lv_bipush (v := 61) hx hb dX10_makes_37 (by decide) ?_
      refine lv_iconst (v := 4) hx hb dX10_makes_39 (by decide) ?_
      refine lv_iload hx hb dX10_makes_40 (lv_at hl 4 rfl) ?_
      refine lv_imul hx hb dX10_makes_42 ?_
      refine lv_iadd hx hb dX10_makes_43 ?_
      refine lv_istore (lv' := [(5, .int (61 + (4 * x4))), (0, .ref (kw 0)), (1, .int x1), (2, .int x2), (3, .int x3), (4, .int x4)]) hx hb dX10_makes_44 hl (by decide) rfl (fun ls hl => ?_)
      refine lv_aload_n hx hb dX10_makes_46 rfl (lv_at hl 1 rfl) ?_
      refine va_get (D := D) (ci := 10) (v := .ref (kw 1)) (C := RX10) (T := TX10) (N := 15) hx hb hts hi10 hown hK.1 hP 0 rfl rfl 0 (by decide) fl7 (fun _ h9 => h9) rfl dX10_makes_47 ?_
      refine lv_iload hx hb dX10_makes_50 (lv_at hl 0 rfl) ?_
      refine lv_iconst (v := 0) hx hb dX10_makes_52 (by decide) ?_
      refine lv_iadd hx hb dX10_makes_53 ?_
      refine lv_iload_n hx hb dX10_makes_54 rfl (lv_at hl 2 rfl) ?_
      refine lv_iconst (v := 1) hx hb dX10_makes_55 (by decide) ?_
      refine lv_iadd hx hb dX10_makes_56 ?_
      obtain ⟨q2, h⟩ := zA_some h
      refine va_iast hx hb hK.1 hP hD hS 1 0 rfl rfl q2 dX10_makes_57 (fun H locs hP hD hS => ?_)
      obtain ⟨a3, ea3, h⟩ := zl_some h
      have hP : va_P D vwCl (zw_mo tt kw (zu bw 1 a3) bj) H := by rw [ea3]; exact hP
      have hD : va_D A (zw_mo tt kw (zu bw 1 a3) bj) := by rw [ea3]; exact hD
      clear ea3
      refine lv_aload_n hx hb dX10_makes_58 rfl (lv_at hl 1 rfl) ?_
      refine va_get (D := D) (ci := 10) (v := .ref (kw 1)) (C := RX10) (T := TX10) (N := 15) hx hb hts hi10 hown hK.1 hP 0 rfl rfl 0 (by decide) fl7 (fun _ h9 => h9) rfl dX10_makes_59 ?_
      refine lv_iload hx hb dX10_makes_62 (lv_at hl 0 rfl) ?_
      refine lv_iconst (v := 1) hx hb dX10_makes_64 (by decide) ?_
      refine lv_iadd hx hb dX10_makes_65 ?_
      refine lv_iload_n hx hb dX10_makes_66 rfl (lv_at hl 3 rfl) ?_
      obtain ⟨q4, h⟩ := zA_some h
      refine va_iast hx hb hK.1 hP hD hS 1 0 rfl rfl q4 dX10_makes_67 (fun H locs hP hD hS => ?_)
      obtain ⟨a5, ea5, h⟩ := zl_some h
      have hP : va_P D vwCl (zw_mo tt kw (zu bw 1 a5) bj) H := by rw [ea5]; exact hP
      have hD : va_D A (zw_mo tt kw (zu bw 1 a5) bj) := by rw [ea5]; exact hD
      clear ea5
      refine lv_aload_n hx hb dX10_makes_68 rfl (lv_at hl 1 rfl) ?_
      refine va_get (D := D) (ci := 10) (v := .ref (kw 1)) (C := RX10) (T := TX10) (N := 15) hx hb hts hi10 hown hK.1 hP 0 rfl rfl 0 (by decide) fl7 (fun _ h9 => h9) rfl dX10_makes_69 ?_
      refine lv_iload hx hb dX10_makes_72 (lv_at hl 0 rfl) ?_
      refine lv_iconst (v := 2) hx hb dX10_makes_74 (by decide) ?_
      refine lv_iadd hx hb dX10_makes_75 ?_
      refine lv_iload_n hx hb dX10_makes_76 rfl (lv_at hl 4 rfl) ?_
      obtain ⟨q6, h⟩ := zA_some h
      refine va_iast hx hb hK.1 hP hD hS 1 0 rfl rfl q6 dX10_makes_77 (fun H locs hP hD hS => ?_)
      obtain ⟨a7, ea7, h⟩ := zl_some h
      have hP : va_P D vwCl (zw_mo tt kw (zu bw 1 a7) bj) H := by rw [ea7]; exact hP
      have hD : va_D A (zw_mo tt kw (zu bw 1 a7) bj) := by rw [ea7]; exact hD
      clear ea7
      refine lv_aload_n hx hb dX10_makes_78 rfl (lv_at hl 1 rfl) ?_
      refine va_get (D := D) (ci := 10) (v := .ref (kw 1)) (C := RX10) (T := TX10) (N := 15) hx hb hts hi10 hown hK.1 hP 0 rfl rfl 0 (by decide) fl7 (fun _ h9 => h9) rfl dX10_makes_79 ?_
      refine lv_iload hx hb dX10_makes_82 (lv_at hl 0 rfl) ?_
      refine lv_iconst (v := 3) hx hb dX10_makes_84 (by decide) ?_
      refine lv_iadd hx hb dX10_makes_85 ?_
      refine lv_aload_n hx hb dX10_makes_86 rfl (lv_at hl 1 rfl) ?_
      refine va_get (D := D) (ci := 10) (v := .ref (kw 1)) (C := RX10) (T := TX10) (N := 15) hx hb hts hi10 hown hK.1 hP 0 rfl rfl 0 (by decide) fl7 (fun _ h9 => h9) rfl dX10_makes_87 ?_
      refine lv_iconst (v := 3) hx hb dX10_makes_90 (by decide) ?_
      refine va_iald hx hb hK.1 hP 1 0 rfl rfl (vp_in_lit 3 213 rfl) dX10_makes_91 ?_
      obtain ⟨q8, h⟩ := zA_some h
      refine va_iast hx hb hK.1 hP hD hS 1 0 rfl rfl q8 dX10_makes_92 (fun H locs hP hD hS => ?_)
      obtain ⟨a9, ea9, h⟩ := zl_some h
      have hP : va_P D vwCl (zw_mo tt kw (zu bw 1 a9) bj) H := by rw [ea9]; exact hP
      have hD : va_D A (zw_mo tt kw (zu bw 1 a9) bj) := by rw [ea9]; exact hD
      clear ea9
      refine lv_iload hx hb dX10_makes_93 (lv_at hl 5 rfl) ?_
      exact hfin _ _ _ _ _ _ h rfl hP hD hS dX10_makes_95
  have hl := lv_entry ([.ref (kw 0), .int x1, .int x2, .int x3]) (n := 6) (Nat.le_of_ble_eq_true rfl)
  refine W.eq (g2 := F0 m 0 ((lg_sl ([.ref (kw 0), .int x1, .int x2, .int x3]) ++ List.replicate (6 - (lg_sl ([.ref (kw 0), .int x1, .int x2, .int x3])).length) Slot.unset).toArray) []) (by rw [ha]; exact lg_entry_eq _ _ _) ?_
  generalize (lg_sl ([.ref (kw 0), .int x1, .int x2, .int x3]) ++ List.replicate (6 - (lg_sl ([.ref (kw 0), .int x1, .int x2, .int x3])).length) Slot.unset).toArray = ls at hl ⊢
  have hl : lv_has ls 6 [(0, .ref (kw 0)), (1, .int x1), (2, .int x2), (3, .int x3)] := hl
  rw [f_X10_makes] at h
  refine lv_iconst (v := (-1)) hx hb dX10_makes_0 (by decide) ?_
  refine lv_istore (lv' := [(4, .int (-1)), (0, .ref (kw 0)), (1, .int x1), (2, .int x2), (3, .int x3)]) hx hb dX10_makes_1 hl (by decide) rfl (fun ls hl => ?_)
  refine lv_bipush (v := 23) hx hb dX10_makes_3 (by decide) ?_
  refine lv_istore (lv' := [(5, .int 23), (4, .int (-1)), (0, .ref (kw 0)), (1, .int x1), (2, .int x2), (3, .int x3)]) hx hb dX10_makes_5 hl (by decide) rfl (fun ls hl => ?_)
  exact b7 1000 bw x1 x2 x3 (-1) 23 _ _ _ hP hD hS (lv_sub hl [2, 3, 4, 5, 1, 0] rfl) h
