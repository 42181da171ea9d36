/-! ===== contracts: the history ===== -/
theorem z_rot_arr (ka : Nat → Nat → Nat) : va_up (va_up (va_up (va_up (fun i => some (ka i 0)) 0 (some (ka 1 0))) 1 (some (ka 2 0))) 2 (some (ka 3 0))) 3 (some (ka 0 0)) = fun i => some (zrot ka i 0) := by
  funext i
  match i with
  | 0 => rfl
  | 1 => rfl
  | 2 => rfl
  | 3 => rfl
  | i + 4 =>
    have e : ∀ k, k < 4 → Nat.beq (i + 4) k = false := by
      intro k hk
      cases h : Nat.beq (i + 4) k with
      | false => rfl
      | true => exact absurd (Nat.eq_of_beq_eq_true h) (by omega)
    simp [va_up, zrot, zu, e 0 (by omega), e 1 (by omega), e 2 (by omega), e 3 (by omega)]
def zw_hf (tt : Nat → ClassId) (kx : Nat → Nat) (hz : Int32) (g : Nat → Option Nat) (hv : Nat → zV) (ka : Nat → Nat → Nat) : va_W := [(kx 1, .inr (5, [.int hz, .ref (kx 2)])), (kx 2, .inl (tt 3, 4, .inr (.inr (.inr (.inr g)))))] ++ zw_co tt (ka 0) (hv 0) ++ zw_co tt (ka 1) (hv 1) ++ zw_co tt (ka 2) (hv 2) ++ zw_co tt (ka 3) (hv 3)
theorem zt0 : (0 : Int32).toNatClampNeg = 0 := by decide
theorem zt1 : (1 : Int32).toNatClampNeg = 1 := by decide
theorem zt2 : (2 : Int32).toNatClampNeg = 2 := by decide
theorem zt3 : (3 : Int32).toNatClampNeg = 3 := by decide
set_option maxHeartbeats 8000000 in
set_option maxRecDepth 100000 in
theorem c_X5_dropOldest (l : Launch) (D : va_G) (tt : Nat → ClassId) (kx : Nat → Nat) (sz : Nat) (bh : zH) (out : zH) (h : f_X5_dropOldest bh = some out) : Met l yX5_dropOldest wsX5_dropOldest { frames := 0, cells := 0, slots := 0, locals := 0 } (zPm [.ref (kx 1)] D tt (zw_hi tt kx bh) sz) (zMv D (zw_hi tt kx out) (va_A (zw_hi tt kx bh) sz)) 0 0 (va_A (zw_hi tt kx bh) sz) := by
  refine Met.ofW (cc := cX5_dropOldest) (maxL := 3) (ret := none) (by decide) rfl ?_
  intro p e s m args below meth c s₁ B hml hv0
  obtain ⟨ha, hsz, hP, hK, hD0⟩ := hv0
  have hx := B.exec
  have hb := B.bytes
  have hr := B.returns
  have hts := atoms_spec (ws := wsX5_dropOldest) B.pre
  have hown : s.vm.findClass RX5 = some m.cls := findClass_of_methodNamed B.named
  have hlocks := B.notSynchronized
  have hi5 : ∀ w ∈ u_ws RX5 TX5 2, w ∈ wsX5_dropOldest := fun _ h => List.mem_cons_of_mem _ (List.mem_append_right _ h)
  have fl11 := hts (.fieldLink RX5 11 "CapStacks$History" "states" "[LCapStacks$Company;") (by decide +kernel)
  have fl18 := hts (.fieldLink RX5 18 "CapStacks$History" "size" "I") (by decide +kernel)
  obtain ⟨hz, hv, ka⟩ := bh
  cases h
  subst hsz
  have hD := hD0.self (sz := s.heap.size)
  generalize hAe : va_A (zw_hi tt kx (hz, hv, ka)) s.heap.size = A at hD ⊢
  have hA : ∀ q : Nat, s.heap.size ≤ q → A q := fun q h => by rw [← hAe]; exact Or.inr h
  have hS : va_S A s.heap s.heap [] := va_S.rf
  have hP : va_P D vwCl (zw_hf tt kx hz (fun i => some (ka i 0)) hv ka) s.heap := hP
  have hD : va_D A (zw_hf tt kx hz (fun i => some (ka i 0)) hv ka) := hD
  have hl := lv_entry ([.ref (kx 1)]) (n := 3) (Nat.le_of_ble_eq_true rfl)
  refine W.eq (g2 := F0 m 0 ((lg_sl ([.ref (kx 1)]) ++ List.replicate (3 - (lg_sl ([.ref (kx 1)])).length) Slot.unset).toArray) []) (by rw [ha]; exact lg_entry_eq _ _ _) ?_
  generalize (lg_sl ([.ref (kx 1)]) ++ List.replicate (3 - (lg_sl ([.ref (kx 1)])).length) Slot.unset).toArray = ls at hl ⊢
  have hl : lv_has ls 3 [(0, .ref (kx 1))] := hl
  refine lv_aload_n hx hb dX5_dropOldest_0 rfl (lv_at hl 0 rfl) ?_
  refine va_get (D := D) (ci := 5) (v := .ref (kx 2)) (C := RX5) (T := TX5) (N := 2) hx hb hts hi5 hown hK.1 hP 0 rfl rfl 1 (by decide) fl11 (fun _ h9 => h9) rfl dX5_dropOldest_1 ?_
  refine lv_iconst (v := 0) hx hb dX5_dropOldest_4 (by decide) ?_
  refine va_aldq hx hb hK.1 hP 1 3 rfl rfl (vp_in_lit 0 4 rfl) dX5_dropOldest_5 ?_
  rw [zt0]
  refine lv_astore_n (lv' := [(1, .ref (ka 0 0)), (0, .ref (kx 1))]) hx hb dX5_dropOldest_6 rfl hl (by decide) rfl (fun ls hl => ?_)
  refine lv_iconst (v := 1) hx hb dX5_dropOldest_7 (by decide) ?_
  refine lv_istore_n (lv' := [(2, .int 1), (1, .ref (ka 0 0)), (0, .ref (kx 1))]) hx hb dX5_dropOldest_8 rfl hl (by decide) rfl (fun ls hl => ?_)
  refine lv_iload_n hx hb dX5_dropOldest_9 rfl (lv_at hl 0 rfl) ?_
  refine lv_iconst (v := 4) hx hb dX5_dropOldest_10 (by decide) ?_
  refine lv_icmp_ge (tgt := 34) hx hb dX5_dropOldest_11 (by decide) (fun k => absurd k (by decide)) (fun k => ?_)
  clear k
  refine lv_aload_n hx hb dX5_dropOldest_14 rfl (lv_at hl 2 rfl) ?_
  refine va_get (D := D) (ci := 5) (v := .ref (kx 2)) (C := RX5) (T := TX5) (N := 2) hx hb hts hi5 hown hK.1 hP 0 rfl rfl 1 (by decide) fl11 (fun _ h9 => h9) rfl dX5_dropOldest_15 ?_
  refine lv_iload_n hx hb dX5_dropOldest_18 rfl (lv_at hl 0 rfl) ?_
  refine lv_iconst (v := 1) hx hb dX5_dropOldest_19 (by decide) ?_
  refine lv_isub hx hb dX5_dropOldest_20 ?_
  rw [show ((1 : Int32) - 1) = 0 from by decide]
  refine lv_aload_n hx hb dX5_dropOldest_21 rfl (lv_at hl 2 rfl) ?_
  refine va_get (D := D) (ci := 5) (v := .ref (kx 2)) (C := RX5) (T := TX5) (N := 2) hx hb hts hi5 hown hK.1 hP 0 rfl rfl 1 (by decide) fl11 (fun _ h9 => h9) rfl dX5_dropOldest_22 ?_
  refine lv_iload_n hx hb dX5_dropOldest_25 rfl (lv_at hl 0 rfl) ?_
  refine va_aldq hx hb hK.1 hP 1 3 rfl rfl (vp_in_lit 1 4 rfl) dX5_dropOldest_26 ?_
  rw [zt1]
  refine W.eq (g2 := F0 m 27 ls [.ref (ka 1 0), .int 0, .ref (kx 2)]) rfl ?_
  refine va_astq hx hb hK.1 hP hD hS 1 3 26 2 rfl rfl rfl rfl (vp_in_lit 0 4 rfl) dX5_dropOldest_27 (fun H locs hP hD hS => ?_)
  rw [zt0] at hP hD
  have hP : va_P D vwCl (zw_hf tt kx hz (va_up (fun i => some (ka i 0)) 0 (some (ka 1 0))) hv ka) H := hP
  have hD : va_D A (zw_hf tt kx hz (va_up (fun i => some (ka i 0)) 0 (some (ka 1 0))) hv ka) := hD
  refine lv_iinc (v := 2) (lv' := [(2, .int 2), (1, .ref (ka 0 0)), (0, .ref (kx 1))]) hx hb dX5_dropOldest_28 hl (k := 0) rfl (by decide) (by decide) rfl (fun ls hl => ?_)
  refine lv_goto (tgt := 9) hx hb dX5_dropOldest_31 (by decide) ?_
  refine lv_iload_n hx hb dX5_dropOldest_9 rfl (lv_at hl 0 rfl) ?_
  refine lv_iconst (v := 4) hx hb dX5_dropOldest_10 (by decide) ?_
  refine lv_icmp_ge (tgt := 34) hx hb dX5_dropOldest_11 (by decide) (fun k => absurd k (by decide)) (fun k => ?_)
  clear k
  refine lv_aload_n hx hb dX5_dropOldest_14 rfl (lv_at hl 2 rfl) ?_
  refine va_get (D := D) (ci := 5) (v := .ref (kx 2)) (C := RX5) (T := TX5) (N := 2) hx hb hts hi5 hown hK.1 hP 0 rfl rfl 1 (by decide) fl11 (fun _ h9 => h9) rfl dX5_dropOldest_15 ?_
  refine lv_iload_n hx hb dX5_dropOldest_18 rfl (lv_at hl 0 rfl) ?_
  refine lv_iconst (v := 1) hx hb dX5_dropOldest_19 (by decide) ?_
  refine lv_isub hx hb dX5_dropOldest_20 ?_
  rw [show ((2 : Int32) - 1) = 1 from by decide]
  refine lv_aload_n hx hb dX5_dropOldest_21 rfl (lv_at hl 2 rfl) ?_
  refine va_get (D := D) (ci := 5) (v := .ref (kx 2)) (C := RX5) (T := TX5) (N := 2) hx hb hts hi5 hown hK.1 hP 0 rfl rfl 1 (by decide) fl11 (fun _ h9 => h9) rfl dX5_dropOldest_22 ?_
  refine lv_iload_n hx hb dX5_dropOldest_25 rfl (lv_at hl 0 rfl) ?_
  refine va_aldq hx hb hK.1 hP 1 3 rfl rfl (vp_in_lit 2 4 rfl) dX5_dropOldest_26 ?_
  rw [zt2]
  refine W.eq (g2 := F0 m 27 ls [.ref (ka 2 0), .int 1, .ref (kx 2)]) rfl ?_
  refine va_astq hx hb hK.1 hP hD hS 1 3 50 2 rfl rfl rfl rfl (vp_in_lit 1 4 rfl) dX5_dropOldest_27 (fun H locs hP hD hS => ?_)
  rw [zt1] at hP hD
  have hP : va_P D vwCl (zw_hf tt kx hz (va_up (va_up (fun i => some (ka i 0)) 0 (some (ka 1 0))) 1 (some (ka 2 0))) hv ka) H := hP
  have hD : va_D A (zw_hf tt kx hz (va_up (va_up (fun i => some (ka i 0)) 0 (some (ka 1 0))) 1 (some (ka 2 0))) hv ka) := hD
  refine lv_iinc (v := 3) (lv' := [(2, .int 3), (1, .ref (ka 0 0)), (0, .ref (kx 1))]) hx hb dX5_dropOldest_28 hl (k := 0) rfl (by decide) (by decide) rfl (fun ls hl => ?_)
  refine lv_goto (tgt := 9) hx hb dX5_dropOldest_31 (by decide) ?_
  refine lv_iload_n hx hb dX5_dropOldest_9 rfl (lv_at hl 0 rfl) ?_
  refine lv_iconst (v := 4) hx hb dX5_dropOldest_10 (by decide) ?_
  refine lv_icmp_ge (tgt := 34) hx hb dX5_dropOldest_11 (by decide) (fun k => absurd k (by decide)) (fun k => ?_)
  clear k
  refine lv_aload_n hx hb dX5_dropOldest_14 rfl (lv_at hl 2 rfl) ?_
  refine va_get (D := D) (ci := 5) (v := .ref (kx 2)) (C := RX5) (T := TX5) (N := 2) hx hb hts hi5 hown hK.1 hP 0 rfl rfl 1 (by decide) fl11 (fun _ h9 => h9) rfl dX5_dropOldest_15 ?_
  refine lv_iload_n hx hb dX5_dropOldest_18 rfl (lv_at hl 0 rfl) ?_
  refine lv_iconst (v := 1) hx hb dX5_dropOldest_19 (by decide) ?_
  refine lv_isub hx hb dX5_dropOldest_20 ?_
  rw [show ((3 : Int32) - 1) = 2 from by decide]
  refine lv_aload_n hx hb dX5_dropOldest_21 rfl (lv_at hl 2 rfl) ?_
  refine va_get (D := D) (ci := 5) (v := .ref (kx 2)) (C := RX5) (T := TX5) (N := 2) hx hb hts hi5 hown hK.1 hP 0 rfl rfl 1 (by decide) fl11 (fun _ h9 => h9) rfl dX5_dropOldest_22 ?_
  refine lv_iload_n hx hb dX5_dropOldest_25 rfl (lv_at hl 0 rfl) ?_
  refine va_aldq hx hb hK.1 hP 1 3 rfl rfl (vp_in_lit 3 4 rfl) dX5_dropOldest_26 ?_
  rw [zt3]
  refine W.eq (g2 := F0 m 27 ls [.ref (ka 3 0), .int 2, .ref (kx 2)]) rfl ?_
  refine va_astq hx hb hK.1 hP hD hS 1 3 74 2 rfl rfl rfl rfl (vp_in_lit 2 4 rfl) dX5_dropOldest_27 (fun H locs hP hD hS => ?_)
  rw [zt2] at hP hD
  have hP : va_P D vwCl (zw_hf tt kx hz (va_up (va_up (va_up (fun i => some (ka i 0)) 0 (some (ka 1 0))) 1 (some (ka 2 0))) 2 (some (ka 3 0))) hv ka) H := hP
  have hD : va_D A (zw_hf tt kx hz (va_up (va_up (va_up (fun i => some (ka i 0)) 0 (some (ka 1 0))) 1 (some (ka 2 0))) 2 (some (ka 3 0))) hv ka) := hD
  refine lv_iinc (v := 4) (lv' := [(2, .int 4), (1, .ref (ka 0 0)), (0, .ref (kx 1))]) hx hb dX5_dropOldest_28 hl (k := 0) rfl (by decide) (by decide) rfl (fun ls hl => ?_)
  refine lv_goto (tgt := 9) hx hb dX5_dropOldest_31 (by decide) ?_
  refine lv_iload_n hx hb dX5_dropOldest_9 rfl (lv_at hl 0 rfl) ?_
  refine lv_iconst (v := 4) hx hb dX5_dropOldest_10 (by decide) ?_
  refine lv_icmp_ge (tgt := 34) hx hb dX5_dropOldest_11 (by decide) (fun k => ?_) (fun k => absurd (by decide) k)
  refine lv_aload_n hx hb dX5_dropOldest_34 rfl (lv_at hl 2 rfl) ?_
  refine va_get (D := D) (ci := 5) (v := .ref (kx 2)) (C := RX5) (T := TX5) (N := 2) hx hb hts hi5 hown hK.1 hP 0 rfl rfl 1 (by decide) fl11 (fun _ h9 => h9) rfl dX5_dropOldest_35 ?_
  refine lv_iconst (v := 3) hx hb dX5_dropOldest_38 (by decide) ?_
  refine lv_aload_n hx hb dX5_dropOldest_39 rfl (lv_at hl 1 rfl) ?_
  refine va_astq hx hb hK.1 hP hD hS 1 3 2 2 rfl rfl rfl rfl (vp_in_lit 3 4 rfl) dX5_dropOldest_40 (fun H locs hP hD hS => ?_)
  rw [zt3] at hP hD
  have hP : va_P D vwCl (zw_hf tt kx hz (va_up (va_up (va_up (va_up (fun i => some (ka i 0)) 0 (some (ka 1 0))) 1 (some (ka 2 0))) 2 (some (ka 3 0))) 3 (some (ka 0 0))) hv ka) H := hP
  have hD : va_D A (zw_hf tt kx hz (va_up (va_up (va_up (va_up (fun i => some (ka i 0)) 0 (some (ka 1 0))) 1 (some (ka 2 0))) 2 (some (ka 3 0))) 3 (some (ka 0 0))) hv ka) := hD
  rw [z_rot_arr] at hP hD
  refine lv_aload_n hx hb dX5_dropOldest_41 rfl (lv_at hl 2 rfl) ?_
  refine lv_iconst (v := 3) hx hb dX5_dropOldest_42 (by decide) ?_
  refine va_put (D := D) (ci := 5) (v := .int 3) (ty := .int) (C := RX5) (T := TX5) (N := 2) hx hb hts hi5 tyX5 tyX5_ok nmX5 hown hK.1 hP hD hS 0 rfl rfl 0 (by decide) fl18 (fun _ h9 => h9) rfl (by decide +kernel) rfl rfl (Nat.le_of_ble_eq_true rfl) dX5_dropOldest_43 (fun H locs hP hD hS => ?_)
  have hP : va_P D vwCl (zw_hf tt kx 3 (fun i => some (zrot ka i 0)) hv ka) H := hP
  have hD : va_D A (zw_hf tt kx 3 (fun i => some (zrot ka i 0)) hv ka) := hD
  have hpm : List.Perm ([(kx 1, .inr (5, [.int 3, .ref (kx 2)])), (kx 2, .inl (tt 3, 4, .inr (.inr (.inr (.inr fun i => some (zrot ka i 0))))))] ++ zw_co tt (ka 0) (hv 0) ++ zw_co tt (ka 1) (hv 1) ++ zw_co tt (ka 2) (hv 2) ++ zw_co tt (ka 3) (hv 3)) (([(kx 1, .inr (5, [.int 3, .ref (kx 2)])), (kx 2, .inl (tt 3, 4, .inr (.inr (.inr (.inr fun i => some (zrot ka i 0))))))] ++ zw_co tt (ka 1) (hv 1) ++ zw_co tt (ka 2) (hv 2) ++ zw_co tt (ka 3) (hv 3) ++ zw_co tt (ka 0) (hv 0)) ++ []) := z_pm (fun _ x => by simp only [List.count_append, List.count_nil] <;> omega)
  have hP : va_P D vwCl (zw_hi tt kx (3, zrot hv, zrot ka)) H := z_takeP hpm hP
  have hD : va_D A (zw_hi tt kx (3, zrot hv, zrot ka)) := z_takeD hpm hD
  exact W.vret hx hb hr (fun t ht hW => ⟨⟨(), rfl, trivial, by rw [ht]; exact hP, hD⟩, hS.F ht⟩) hS.2.2 dX5_dropOldest_46
set_option maxHeartbeats 8000000 in
set_option maxRecDepth 100000 in
theorem c_X5_keep (l : Launch) (D : va_G) (tt : Nat → ClassId) (kx : Nat → Nat) (kv : Nat → Nat) (sz : Nat) (bh : zH) (bv : zV) (out : zH) (h : f_X5_keep bh bv = some out) : Met l yX5_keep wsX5_keep { frames := 4, cells := 0, slots := 0, locals := 103 } (zPm [.ref (kx 1), .ref (kv 0)] D tt (zw_hi tt kx bh ++ zw_co tt kv bv) sz) (zMv D (zw_hi tt kx out ++ zw_co tt kv bv) (va_A (zw_hi tt kx bh ++ zw_co tt kv bv) sz)) 0 0 (va_A (zw_hi tt kx bh ++ zw_co tt kv bv) sz) := by
  refine Met.ofW (cc := cX5_keep) (maxL := 2) (ret := none) (by decide) rfl ?_
  intro p e s m args below meth c s₁ B hml hv0
  obtain ⟨ha, hsz, hP, hK, hD0⟩ := hv0
  have hx := B.exec
  have hb := B.bytes
  have hr := B.returns
  have hts := atoms_spec (ws := wsX5_keep) B.pre
  have hown : s.vm.findClass RX5 = some m.cls := findClass_of_methodNamed B.named
  have hlocks := B.notSynchronized
  have hi5 : ∀ w ∈ u_ws RX5 TX5 2, w ∈ wsX5_keep := fun _ h => List.mem_cons_of_mem _ (List.mem_append_left _ (List.mem_append_left _ (List.mem_append_left _ (List.mem_append_left _ (List.mem_append_left _ (List.mem_append_right _ h))))))
  have fl11 := hts (.fieldLink RX5 11 "CapStacks$History" "states" "[LCapStacks$Company;") (by decide +kernel)
  have fl18 := hts (.fieldLink RX5 18 "CapStacks$History" "size" "I") (by decide +kernel)
  subst hsz
  have hD := hD0.self (sz := s.heap.size)
  generalize hAe : va_A (zw_hi tt kx bh ++ zw_co tt kv bv) s.heap.size = A at hD ⊢
  have hA : ∀ q : Nat, s.heap.size ≤ q → A q := fun q h => by rw [← hAe]; exact Or.inr h
  have hS : va_S A s.heap s.heap [] := va_S.rf
  have hfin : ∀ (bh : zH) (pc : Nat) (ls : Array Slot) (H : Heap) (locs : List Loc), some bh = some out → va_P D vwCl (zw_hi tt kx bh ++ zw_co tt kv bv) H → va_D A (zw_hi tt kx bh ++ zw_co tt kv bv) → va_S A s.heap H locs → decode cX5_keep pc = .ok (.return_, 1) → W p l e (headSpec wsX5_keep { frames := 4, cells := 0, slots := 0, locals := 103 }).room s m args below meth c H locs 0 0 (MQ below (zMv D (zw_hi tt kx out ++ zw_co tt kv bv) A) args s 0 0 A) (F0 m pc ls []) := by
    intro bh pc ls H locs he hP hD hS hd
    cases he
    exact W.vret hx hb hr (fun t ht hW => ⟨⟨(), rfl, trivial, by rw [ht]; exact hP, hD⟩, hS.F ht⟩) hS.2.2 hd
  generalize MQ below (zMv D (zw_hi tt kx out ++ zw_co tt kv bv) A) args s 0 0 A = Q at hfin ⊢
  have b12 : ∀ (bh : zH) (H : Heap) (locs : List Loc) (ls : Array Slot), va_P D vwCl (zw_hi tt kx bh ++ zw_co tt kv bv) H → va_D A (zw_hi tt kx bh ++ zw_co tt kv bv) → va_S A s.heap H locs → lv_has ls 2 [(0, .ref (kx 1)), (1, .ref (kv 0))] → f_X5_keep_k bh bv = some out → W p l e (headSpec wsX5_keep { frames := 4, cells := 0, slots := 0, locals := 103 }).room s m args below meth c H locs 0 0 Q (F0 m 12 ls []) := by
    intro bh H locs ls hP hD hS hl h
    rw [f_X5_keep_k] at h
    obtain ⟨q, h⟩ := zA_some h
    obtain ⟨j, hj, ej⟩ := vp_in_of q (by omega)
    obtain ⟨hz, hv, ka⟩ := bh
    simp only at ej h q
    subst ej
    obtain ⟨u, gu, h⟩ := zb_some h
    refine lv_aload_n hx hb dX5_keep_12 rfl (lv_at hl 0 rfl) ?_
    refine va_get (D := D) (ci := 5) (v := .ref (kx 2)) (C := RX5) (T := TX5) (N := 2) hx hb hts hi5 hown hK.1 hP 0 rfl rfl 1 (by decide) fl11 (fun _ h9 => h9) rfl dX5_keep_13 ?_
    refine lv_aload_n hx hb dX5_keep_16 rfl (lv_at hl 0 rfl) ?_
    refine va_get (D := D) (ci := 5) (v := .int (nI j)) (C := RX5) (T := TX5) (N := 2) hx hb hts hi5 hown hK.1 hP 0 rfl rfl 0 (by decide) fl18 (fun _ h9 => h9) rfl dX5_keep_17 ?_
    refine va_aldq hx hb hK.1 hP 1 3 rfl rfl q dX5_keep_20 ?_
    rw [nI_clamp (by omega)] at gu h ⊢
    refine lv_aload_n hx hb dX5_keep_21 rfl (lv_at hl 1 rfl) ?_
    match j, hj with
    | 0, _ =>
      have hpm : List.Perm ([(kx 1, .inr (5, [.int (nI 0), .ref (kx 2)])), (kx 2, .inl (tt 3, 4, .inr (.inr (.inr (.inr fun i => some (ka i 0))))))] ++ zw_co tt (ka 0) (hv 0) ++ zw_co tt (ka 1) (hv 1) ++ zw_co tt (ka 2) (hv 2) ++ zw_co tt (ka 3) (hv 3) ++ zw_co tt kv bv) ((zw_co tt (ka 0) (hv 0) ++ zw_co tt kv bv) ++ ([(kx 1, .inr (5, [.int (nI 0), .ref (kx 2)])), (kx 2, .inl (tt 3, 4, .inr (.inr (.inr (.inr fun i => some (ka i 0))))))] ++ zw_co tt (ka 1) (hv 1) ++ zw_co tt (ka 2) (hv 2) ++ zw_co tt (ka 3) (hv 3))) := z_pm (fun _ x => by simp only [List.count_append] <;> omega)
      have hPc := z_takeP hpm hP
      have hDc := z_takeD hpm hD
      have hFc := z_free0 hDc hS hA
      have hpm2 : List.Perm ([(kx 1, .inr (5, [.int (nI 0), .ref (kx 2)])), (kx 2, .inl (tt 3, 4, .inr (.inr (.inr (.inr fun i => some (ka i 0))))))] ++ zw_co tt (ka 0) u ++ zw_co tt (ka 1) (hv 1) ++ zw_co tt (ka 2) (hv 2) ++ zw_co tt (ka 3) (hv 3) ++ zw_co tt kv bv) ((zw_co tt (ka 0) u ++ zw_co tt kv bv) ++ ([(kx 1, .inr (5, [.int (nI 0), .ref (kx 2)])), (kx 2, .inl (tt 3, 4, .inr (.inr (.inr (.inr fun i => some (ka i 0))))))] ++ zw_co tt (ka 1) (hv 1) ++ zw_co tt (ka 2) (hv 2) ++ zw_co tt (ka 3) (hv 3))) := z_pm (fun _ x => by simp only [List.count_append] <;> omega)
      refine z_callmv (wc := (zw_co tt (ka 0) (hv 0) ++ zw_co tt kv bv)) (w1 := (zw_co tt (ka 0) u ++ zw_co tt kv bv)) (va_runV (As := [.ref (kv 0)]) (rest := []) ⟨hx, hb, hml, hown, hts⟩ (c_X2_copyFrom l D tt (ka 0) kv _ (hv 0) bv u gu) (cwV 1 hts gX5_keep_X2_copyFrom rfl rfl rfl (by decide +kernel) ⟨Nat.le_of_ble_eq_true rfl, Nat.le_of_ble_eq_true rfl⟩) (z_preVm hK hPc hDc (ci := 2) (q0 := 0) rfl rfl) rfl rfl hl.1 rfl (lv_room (Nat.le_of_ble_eq_true rfl)) dX5_keep_22 ⟨Nat.zero_le _, Nat.zero_le _⟩) hS hFc (fun H locs hP1 hD1 hk1 hS => ?_)
      obtain ⟨hP, hD⟩ := z_joinB hpm hpm2 hP hD hk1 hFc hP1 hD1
      have hP : va_P D vwCl (zw_hi tt kx (nI 0, zu hv 0 u, ka) ++ zw_co tt kv bv) H := hP
      have hD : va_D A (zw_hi tt kx (nI 0, zu hv 0 u, ka) ++ zw_co tt kv bv) := hD
      refine lv_aload_n hx hb dX5_keep_25 rfl (lv_at hl 0 rfl) ?_
      refine lv_dup hx hb dX5_keep_26 rfl ?_
      refine va_get (D := D) (ci := 5) (v := .int (nI 0)) (C := RX5) (T := TX5) (N := 2) hx hb hts hi5 hown hK.1 hP 0 rfl rfl 0 (by decide) fl18 (fun _ h9 => h9) rfl dX5_keep_27 ?_
      refine lv_iconst (v := 1) hx hb dX5_keep_30 (by decide) ?_
      refine lv_iadd hx hb dX5_keep_31 ?_
      refine va_put (D := D) (ci := 5) (v := .int (nI 0 + 1)) (ty := .int) (C := RX5) (T := TX5) (N := 2) hx hb hts hi5 tyX5 tyX5_ok nmX5 hown hK.1 hP hD hS 0 rfl rfl 0 (by decide) fl18 (fun _ h9 => h9) rfl (by decide +kernel) rfl rfl (Nat.le_of_ble_eq_true rfl) dX5_keep_32 (fun H locs hP hD hS => ?_)
      exact hfin (nI 0 + 1, zu hv 0 u, ka) _ _ _ _ h hP hD hS dX5_keep_35
    | 1, _ =>
      have hpm : List.Perm ([(kx 1, .inr (5, [.int (nI 1), .ref (kx 2)])), (kx 2, .inl (tt 3, 4, .inr (.inr (.inr (.inr fun i => some (ka i 0))))))] ++ zw_co tt (ka 0) (hv 0) ++ zw_co tt (ka 1) (hv 1) ++ zw_co tt (ka 2) (hv 2) ++ zw_co tt (ka 3) (hv 3) ++ zw_co tt kv bv) ((zw_co tt (ka 1) (hv 1) ++ zw_co tt kv bv) ++ ([(kx 1, .inr (5, [.int (nI 1), .ref (kx 2)])), (kx 2, .inl (tt 3, 4, .inr (.inr (.inr (.inr fun i => some (ka i 0))))))] ++ zw_co tt (ka 0) (hv 0) ++ zw_co tt (ka 2) (hv 2) ++ zw_co tt (ka 3) (hv 3))) := z_pm (fun _ x => by simp only [List.count_append] <;> omega)
      have hPc := z_takeP hpm hP
      have hDc := z_takeD hpm hD
      have hFc := z_free0 hDc hS hA
      have hpm2 : List.Perm ([(kx 1, .inr (5, [.int (nI 1), .ref (kx 2)])), (kx 2, .inl (tt 3, 4, .inr (.inr (.inr (.inr fun i => some (ka i 0))))))] ++ zw_co tt (ka 0) (hv 0) ++ zw_co tt (ka 1) u ++ zw_co tt (ka 2) (hv 2) ++ zw_co tt (ka 3) (hv 3) ++ zw_co tt kv bv) ((zw_co tt (ka 1) u ++ zw_co tt kv bv) ++ ([(kx 1, .inr (5, [.int (nI 1), .ref (kx 2)])), (kx 2, .inl (tt 3, 4, .inr (.inr (.inr (.inr fun i => some (ka i 0))))))] ++ zw_co tt (ka 0) (hv 0) ++ zw_co tt (ka 2) (hv 2) ++ zw_co tt (ka 3) (hv 3))) := z_pm (fun _ x => by simp only [List.count_append] <;> omega)
      refine z_callmv (wc := (zw_co tt (ka 1) (hv 1) ++ zw_co tt kv bv)) (w1 := (zw_co tt (ka 1) u ++ zw_co tt kv bv)) (va_runV (As := [.ref (kv 0)]) (rest := []) ⟨hx, hb, hml, hown, hts⟩ (c_X2_copyFrom l D tt (ka 1) kv _ (hv 1) bv u gu) (cwV 1 hts gX5_keep_X2_copyFrom rfl rfl rfl (by decide +kernel) ⟨Nat.le_of_ble_eq_true rfl, Nat.le_of_ble_eq_true rfl⟩) (z_preVm hK hPc hDc (ci := 2) (q0 := 0) rfl rfl) rfl rfl hl.1 rfl (lv_room (Nat.le_of_ble_eq_true rfl)) dX5_keep_22 ⟨Nat.zero_le _, Nat.zero_le _⟩) hS hFc (fun H locs hP1 hD1 hk1 hS => ?_)
      obtain ⟨hP, hD⟩ := z_joinB hpm hpm2 hP hD hk1 hFc hP1 hD1
      have hP : va_P D vwCl (zw_hi tt kx (nI 1, zu hv 1 u, ka) ++ zw_co tt kv bv) H := hP
      have hD : va_D A (zw_hi tt kx (nI 1, zu hv 1 u, ka) ++ zw_co tt kv bv) := hD
      refine lv_aload_n hx hb dX5_keep_25 rfl (lv_at hl 0 rfl) ?_
      refine lv_dup hx hb dX5_keep_26 rfl ?_
      refine va_get (D := D) (ci := 5) (v := .int (nI 1)) (C := RX5) (T := TX5) (N := 2) hx hb hts hi5 hown hK.1 hP 0 rfl rfl 0 (by decide) fl18 (fun _ h9 => h9) rfl dX5_keep_27 ?_
      refine lv_iconst (v := 1) hx hb dX5_keep_30 (by decide) ?_
      refine lv_iadd hx hb dX5_keep_31 ?_
      refine va_put (D := D) (ci := 5) (v := .int (nI 1 + 1)) (ty := .int) (C := RX5) (T := TX5) (N := 2) hx hb hts hi5 tyX5 tyX5_ok nmX5 hown hK.1 hP hD hS 0 rfl rfl 0 (by decide) fl18 (fun _ h9 => h9) rfl (by decide +kernel) rfl rfl (Nat.le_of_ble_eq_true rfl) dX5_keep_32 (fun H locs hP hD hS => ?_)
      exact hfin (nI 1 + 1, zu hv 1 u, ka) _ _ _ _ h hP hD hS dX5_keep_35
    | 2, _ =>
      have hpm : List.Perm ([(kx 1, .inr (5, [.int (nI 2), .ref (kx 2)])), (kx 2, .inl (tt 3, 4, .inr (.inr (.inr (.inr fun i => some (ka i 0))))))] ++ zw_co tt (ka 0) (hv 0) ++ zw_co tt (ka 1) (hv 1) ++ zw_co tt (ka 2) (hv 2) ++ zw_co tt (ka 3) (hv 3) ++ zw_co tt kv bv) ((zw_co tt (ka 2) (hv 2) ++ zw_co tt kv bv) ++ ([(kx 1, .inr (5, [.int (nI 2), .ref (kx 2)])), (kx 2, .inl (tt 3, 4, .inr (.inr (.inr (.inr fun i => some (ka i 0))))))] ++ zw_co tt (ka 0) (hv 0) ++ zw_co tt (ka 1) (hv 1) ++ zw_co tt (ka 3) (hv 3))) := z_pm (fun _ x => by simp only [List.count_append] <;> omega)
      have hPc := z_takeP hpm hP
      have hDc := z_takeD hpm hD
      have hFc := z_free0 hDc hS hA
      have hpm2 : List.Perm ([(kx 1, .inr (5, [.int (nI 2), .ref (kx 2)])), (kx 2, .inl (tt 3, 4, .inr (.inr (.inr (.inr fun i => some (ka i 0))))))] ++ zw_co tt (ka 0) (hv 0) ++ zw_co tt (ka 1) (hv 1) ++ zw_co tt (ka 2) u ++ zw_co tt (ka 3) (hv 3) ++ zw_co tt kv bv) ((zw_co tt (ka 2) u ++ zw_co tt kv bv) ++ ([(kx 1, .inr (5, [.int (nI 2), .ref (kx 2)])), (kx 2, .inl (tt 3, 4, .inr (.inr (.inr (.inr fun i => some (ka i 0))))))] ++ zw_co tt (ka 0) (hv 0) ++ zw_co tt (ka 1) (hv 1) ++ zw_co tt (ka 3) (hv 3))) := z_pm (fun _ x => by simp only [List.count_append] <;> omega)
      refine z_callmv (wc := (zw_co tt (ka 2) (hv 2) ++ zw_co tt kv bv)) (w1 := (zw_co tt (ka 2) u ++ zw_co tt kv bv)) (va_runV (As := [.ref (kv 0)]) (rest := []) ⟨hx, hb, hml, hown, hts⟩ (c_X2_copyFrom l D tt (ka 2) kv _ (hv 2) bv u gu) (cwV 1 hts gX5_keep_X2_copyFrom rfl rfl rfl (by decide +kernel) ⟨Nat.le_of_ble_eq_true rfl, Nat.le_of_ble_eq_true rfl⟩) (z_preVm hK hPc hDc (ci := 2) (q0 := 0) rfl rfl) rfl rfl hl.1 rfl (lv_room (Nat.le_of_ble_eq_true rfl)) dX5_keep_22 ⟨Nat.zero_le _, Nat.zero_le _⟩) hS hFc (fun H locs hP1 hD1 hk1 hS => ?_)
      obtain ⟨hP, hD⟩ := z_joinB hpm hpm2 hP hD hk1 hFc hP1 hD1
      have hP : va_P D vwCl (zw_hi tt kx (nI 2, zu hv 2 u, ka) ++ zw_co tt kv bv) H := hP
      have hD : va_D A (zw_hi tt kx (nI 2, zu hv 2 u, ka) ++ zw_co tt kv bv) := hD
      refine lv_aload_n hx hb dX5_keep_25 rfl (lv_at hl 0 rfl) ?_
      refine lv_dup hx hb dX5_keep_26 rfl ?_
      refine va_get (D := D) (ci := 5) (v := .int (nI 2)) (C := RX5) (T := TX5) (N := 2) hx hb hts hi5 hown hK.1 hP 0 rfl rfl 0 (by decide) fl18 (fun _ h9 => h9) rfl dX5_keep_27 ?_
      refine lv_iconst (v := 1) hx hb dX5_keep_30 (by decide) ?_
      refine lv_iadd hx hb dX5_keep_31 ?_
      refine va_put (D := D) (ci := 5) (v := .int (nI 2 + 1)) (ty := .int) (C := RX5) (T := TX5) (N := 2) hx hb hts hi5 tyX5 tyX5_ok nmX5 hown hK.1 hP hD hS 0 rfl rfl 0 (by decide) fl18 (fun _ h9 => h9) rfl (by decide +kernel) rfl rfl (Nat.le_of_ble_eq_true rfl) dX5_keep_32 (fun H locs hP hD hS => ?_)
      exact hfin (nI 2 + 1, zu hv 2 u, ka) _ _ _ _ h hP hD hS dX5_keep_35
    | 3, _ =>
      have hpm : List.Perm ([(kx 1, .inr (5, [.int (nI 3), .ref (kx 2)])), (kx 2, .inl (tt 3, 4, .inr (.inr (.inr (.inr fun i => some (ka i 0))))))] ++ zw_co tt (ka 0) (hv 0) ++ zw_co tt (ka 1) (hv 1) ++ zw_co tt (ka 2) (hv 2) ++ zw_co tt (ka 3) (hv 3) ++ zw_co tt kv bv) ((zw_co tt (ka 3) (hv 3) ++ zw_co tt kv bv) ++ ([(kx 1, .inr (5, [.int (nI 3), .ref (kx 2)])), (kx 2, .inl (tt 3, 4, .inr (.inr (.inr (.inr fun i => some (ka i 0))))))] ++ zw_co tt (ka 0) (hv 0) ++ zw_co tt (ka 1) (hv 1) ++ zw_co tt (ka 2) (hv 2))) := z_pm (fun _ x => by simp only [List.count_append] <;> omega)
      have hPc := z_takeP hpm hP
      have hDc := z_takeD hpm hD
      have hFc := z_free0 hDc hS hA
      have hpm2 : List.Perm ([(kx 1, .inr (5, [.int (nI 3), .ref (kx 2)])), (kx 2, .inl (tt 3, 4, .inr (.inr (.inr (.inr fun i => some (ka i 0))))))] ++ zw_co tt (ka 0) (hv 0) ++ zw_co tt (ka 1) (hv 1) ++ zw_co tt (ka 2) (hv 2) ++ zw_co tt (ka 3) u ++ zw_co tt kv bv) ((zw_co tt (ka 3) u ++ zw_co tt kv bv) ++ ([(kx 1, .inr (5, [.int (nI 3), .ref (kx 2)])), (kx 2, .inl (tt 3, 4, .inr (.inr (.inr (.inr fun i => some (ka i 0))))))] ++ zw_co tt (ka 0) (hv 0) ++ zw_co tt (ka 1) (hv 1) ++ zw_co tt (ka 2) (hv 2))) := z_pm (fun _ x => by simp only [List.count_append] <;> omega)
      refine z_callmv (wc := (zw_co tt (ka 3) (hv 3) ++ zw_co tt kv bv)) (w1 := (zw_co tt (ka 3) u ++ zw_co tt kv bv)) (va_runV (As := [.ref (kv 0)]) (rest := []) ⟨hx, hb, hml, hown, hts⟩ (c_X2_copyFrom l D tt (ka 3) kv _ (hv 3) bv u gu) (cwV 1 hts gX5_keep_X2_copyFrom rfl rfl rfl (by decide +kernel) ⟨Nat.le_of_ble_eq_true rfl, Nat.le_of_ble_eq_true rfl⟩) (z_preVm hK hPc hDc (ci := 2) (q0 := 0) rfl rfl) rfl rfl hl.1 rfl (lv_room (Nat.le_of_ble_eq_true rfl)) dX5_keep_22 ⟨Nat.zero_le _, Nat.zero_le _⟩) hS hFc (fun H locs hP1 hD1 hk1 hS => ?_)
      obtain ⟨hP, hD⟩ := z_joinB hpm hpm2 hP hD hk1 hFc hP1 hD1
      have hP : va_P D vwCl (zw_hi tt kx (nI 3, zu hv 3 u, ka) ++ zw_co tt kv bv) H := hP
      have hD : va_D A (zw_hi tt kx (nI 3, zu hv 3 u, ka) ++ zw_co tt kv bv) := hD
      refine lv_aload_n hx hb dX5_keep_25 rfl (lv_at hl 0 rfl) ?_
      refine lv_dup hx hb dX5_keep_26 rfl ?_
      refine va_get (D := D) (ci := 5) (v := .int (nI 3)) (C := RX5) (T := TX5) (N := 2) hx hb hts hi5 hown hK.1 hP 0 rfl rfl 0 (by decide) fl18 (fun _ h9 => h9) rfl dX5_keep_27 ?_
      refine lv_iconst (v := 1) hx hb dX5_keep_30 (by decide) ?_
      refine lv_iadd hx hb dX5_keep_31 ?_
      refine va_put (D := D) (ci := 5) (v := .int (nI 3 + 1)) (ty := .int) (C := RX5) (T := TX5) (N := 2) hx hb hts hi5 tyX5 tyX5_ok nmX5 hown hK.1 hP hD hS 0 rfl rfl 0 (by decide) fl18 (fun _ h9 => h9) rfl (by decide +kernel) rfl rfl (Nat.le_of_ble_eq_true rfl) dX5_keep_32 (fun H locs hP hD hS => ?_)
      exact hfin (nI 3 + 1, zu hv 3 u, ka) _ _ _ _ h hP hD hS dX5_keep_35
    | j + 4, hj => exact absurd hj (by omega)
  have hl := lv_entry ([.ref (kx 1), .ref (kv 0)]) (n := 2) (Nat.le_of_ble_eq_true rfl)
  refine W.eq (g2 := F0 m 0 ((lg_sl ([.ref (kx 1), .ref (kv 0)]) ++ List.replicate (2 - (lg_sl ([.ref (kx 1), .ref (kv 0)])).length) Slot.unset).toArray) []) (by rw [ha]; exact lg_entry_eq _ _ _) ?_
  generalize (lg_sl ([.ref (kx 1), .ref (kv 0)]) ++ List.replicate (2 - (lg_sl ([.ref (kx 1), .ref (kv 0)])).length) Slot.unset).toArray = ls at hl ⊢
  have hl : lv_has ls 2 [(0, .ref (kx 1)), (1, .ref (kv 0))] := hl
  rw [f_X5_keep] at h
  refine lv_aload_n hx hb dX5_keep_0 rfl (lv_at hl 0 rfl) ?_
  refine va_get (D := D) (ci := 5) (v := .int bh.1) (C := RX5) (T := TX5) (N := 2) hx hb hts hi5 hown hK.1 hP 0 rfl rfl 0 (by decide) fl18 (fun _ h9 => h9) rfl dX5_keep_1 ?_
  refine lv_iconst (v := 4) hx hb dX5_keep_4 (by decide) ?_
  refine lv_icmp_lt (tgt := 12) hx hb dX5_keep_5 (by decide) (fun k => ?_) (fun k => ?_)
  · replace h := z_pos k h
    exact b12 bh _ _ _ hP hD hS hl h
  replace h := z_neg k h
  refine lv_aload_n hx hb dX5_keep_8 rfl (lv_at hl 0 rfl) ?_
  have hpm : List.Perm (zw_hi tt kx bh ++ zw_co tt kv bv) (zw_hi tt kx bh ++ zw_co tt kv bv) := List.Perm.refl _
  have hPc := z_takeP hpm hP
  have hDc := z_takeD hpm hD
  have hFc := z_free0 hDc hS hA
  refine z_callmv (wc := (zw_hi tt kx bh)) (w1 := (zw_hi tt kx (3, zrot bh.2.1, zrot bh.2.2))) (va_runV (As := []) (rest := []) ⟨hx, hb, hml, hown, hts⟩ (c_X5_dropOldest l D tt kx _ bh (3, zrot bh.2.1, zrot bh.2.2) rfl) (cwV 0 hts gX5_keep_X5_dropOldest rfl rfl rfl (by decide +kernel) ⟨Nat.le_of_ble_eq_true rfl, Nat.le_of_ble_eq_true rfl⟩) (z_preVm hK hPc hDc (ci := 5) (q0 := 0) rfl rfl) rfl rfl hl.1 rfl (lv_room (Nat.le_of_ble_eq_true rfl)) dX5_keep_9 ⟨Nat.zero_le _, Nat.zero_le _⟩) hS hFc (fun H locs hP1 hD1 hk1 hS => ?_)
  obtain ⟨hP, hD⟩ := z_joinB hpm (List.Perm.refl (zw_hi tt kx (3, zrot bh.2.1, zrot bh.2.2) ++ zw_co tt kv bv)) hP hD hk1 hFc hP1 hD1
  exact b12 (3, zrot bh.2.1, zrot bh.2.2) _ _ _ hP hD hS hl h
set_option maxHeartbeats 8000000 in
set_option maxRecDepth 100000 in
theorem c_X5_restore (l : Launch) (D : va_G) (tt : Nat → ClassId) (kx : Nat → Nat) (kv : Nat → Nat) (sz : Nat) (bh : zH) (bv : zV) (out : zH × zV) (h : f_X5_restore bh bv = some out) : Met l yX5_restore wsX5_restore { frames := 4, cells := 0, slots := 0, locals := 103 } (zPm [.ref (kx 1), .ref (kv 0)] D tt (zw_hi tt kx bh ++ zw_co tt kv bv) sz) (zMv D (zw_hi tt kx out.1 ++ zw_co tt kv out.2) (va_A (zw_hi tt kx bh ++ zw_co tt kv bv) sz)) 0 0 (va_A (zw_hi tt kx bh ++ zw_co tt kv bv) sz) := by
  refine Met.ofW (cc := cX5_restore) (maxL := 2) (ret := none) (by decide) rfl ?_
  intro p e s m args below meth c s₁ B hml hv0
  obtain ⟨ha, hsz, hP, hK, hD0⟩ := hv0
  have hx := B.exec
  have hb := B.bytes
  have hr := B.returns
  have hts := atoms_spec (ws := wsX5_restore) B.pre
  have hown : s.vm.findClass RX5 = some m.cls := findClass_of_methodNamed B.named
  have hlocks := B.notSynchronized
  have hi5 : ∀ w ∈ u_ws RX5 TX5 2, w ∈ wsX5_restore := fun _ h => List.mem_cons_of_mem _ (List.mem_append_left _ (List.mem_append_left _ (List.mem_append_left _ (List.mem_append_left _ (List.mem_append_left _ (List.mem_append_right _ h))))))
  have fl11 := hts (.fieldLink RX5 11 "CapStacks$History" "states" "[LCapStacks$Company;") (by decide +kernel)
  have fl18 := hts (.fieldLink RX5 18 "CapStacks$History" "size" "I") (by decide +kernel)
  subst hsz
  have hD := hD0.self (sz := s.heap.size)
  generalize hAe : va_A (zw_hi tt kx bh ++ zw_co tt kv bv) s.heap.size = A at hD ⊢
  have hA : ∀ q : Nat, s.heap.size ≤ q → A q := fun q h => by rw [← hAe]; exact Or.inr h
  have hS : va_S A s.heap s.heap [] := va_S.rf
  have hfin : ∀ (bh : zH) (bv : zV) (pc : Nat) (ls : Array Slot) (H : Heap) (locs : List Loc), some (bh, bv) = some out → va_P D vwCl (zw_hi tt kx bh ++ zw_co tt kv bv) H → va_D A (zw_hi tt kx bh ++ zw_co tt kv bv) → va_S A s.heap H locs → decode cX5_restore pc = .ok (.return_, 1) → W p l e (headSpec wsX5_restore { frames := 4, cells := 0, slots := 0, locals := 103 }).room s m args below meth c H locs 0 0 (MQ below (zMv D (zw_hi tt kx out.1 ++ zw_co tt kv out.2) A) args s 0 0 A) (F0 m pc ls []) := by
    intro bh bv pc ls H locs he hP hD hS hd
    cases he
    exact W.vret hx hb hr (fun t ht hW => ⟨⟨(), rfl, trivial, by rw [ht]; exact hP, hD⟩, hS.F ht⟩) hS.2.2 hd
  generalize MQ below (zMv D (zw_hi tt kx out.1 ++ zw_co tt kv out.2) A) args s 0 0 A = Q at hfin ⊢
  have hl := lv_entry ([.ref (kx 1), .ref (kv 0)]) (n := 2) (Nat.le_of_ble_eq_true rfl)
  refine W.eq (g2 := F0 m 0 ((lg_sl ([.ref (kx 1), .ref (kv 0)]) ++ List.replicate (2 - (lg_sl ([.ref (kx 1), .ref (kv 0)])).length) Slot.unset).toArray) []) (by rw [ha]; exact lg_entry_eq _ _ _) ?_
  generalize (lg_sl ([.ref (kx 1), .ref (kv 0)]) ++ List.replicate (2 - (lg_sl ([.ref (kx 1), .ref (kv 0)])).length) Slot.unset).toArray = ls at hl ⊢
  have hl : lv_has ls 2 [(0, .ref (kx 1)), (1, .ref (kv 0))] := hl
  rw [f_X5_restore] at h
  refine lv_aload_n hx hb dX5_restore_0 rfl (lv_at hl 0 rfl) ?_
  refine va_get (D := D) (ci := 5) (v := .int bh.1) (C := RX5) (T := TX5) (N := 2) hx hb hts hi5 hown hK.1 hP 0 rfl rfl 0 (by decide) fl18 (fun _ h9 => h9) rfl dX5_restore_1 ?_
  refine lv_if_le (tgt := 30) hx hb dX5_restore_4 (by decide) (fun k => ?_) (fun k => ?_)
  · replace h := z_pos k h
    exact hfin _ _ _ _ _ _ h hP hD hS dX5_restore_30
  replace h := z_neg k h
  obtain ⟨q, h⟩ := zA_some h
  obtain ⟨u, gu, h⟩ := zb_some h
  refine lv_aload_n hx hb dX5_restore_7 rfl (lv_at hl 0 rfl) ?_
  refine lv_dup hx hb dX5_restore_8 rfl ?_
  refine va_get (D := D) (ci := 5) (v := .int bh.1) (C := RX5) (T := TX5) (N := 2) hx hb hts hi5 hown hK.1 hP 0 rfl rfl 0 (by decide) fl18 (fun _ h9 => h9) rfl dX5_restore_9 ?_
  refine lv_iconst (v := 1) hx hb dX5_restore_12 (by decide) ?_
  refine lv_isub hx hb dX5_restore_13 ?_
  refine va_put (D := D) (ci := 5) (v := .int (bh.1 - 1)) (ty := .int) (C := RX5) (T := TX5) (N := 2) hx hb hts hi5 tyX5 tyX5_ok nmX5 hown hK.1 hP hD hS 0 rfl rfl 0 (by decide) fl18 (fun _ h9 => h9) rfl (by decide +kernel) rfl rfl (Nat.le_of_ble_eq_true rfl) dX5_restore_14 (fun H locs hP hD hS => ?_)
  have hP : va_P D vwCl (zw_hi tt kx (bh.1 - 1, bh.2) ++ zw_co tt kv bv) H := hP
  have hD : va_D A (zw_hi tt kx (bh.1 - 1, bh.2) ++ zw_co tt kv bv) := hD
  obtain ⟨j, hj, ej⟩ := vp_in_of q (by omega)
  clear k hAe hD0
  obtain ⟨hz, hv, ka⟩ := bh
  simp only at ej h q gu hP hD
  rw [ej] at h q gu hP hD
  rw [nI_clamp (by omega)] at gu
  refine lv_aload_n hx hb dX5_restore_17 rfl (lv_at hl 1 rfl) ?_
  refine lv_aload_n hx hb dX5_restore_18 rfl (lv_at hl 0 rfl) ?_
  refine va_get (D := D) (ci := 5) (v := .ref (kx 2)) (C := RX5) (T := TX5) (N := 2) hx hb hts hi5 hown hK.1 hP 0 rfl rfl 1 (by decide) fl11 (fun _ h9 => h9) rfl dX5_restore_19 ?_
  refine lv_aload_n hx hb dX5_restore_22 rfl (lv_at hl 0 rfl) ?_
  refine va_get (D := D) (ci := 5) (v := .int (nI j)) (C := RX5) (T := TX5) (N := 2) hx hb hts hi5 hown hK.1 hP 0 rfl rfl 0 (by decide) fl18 (fun _ h9 => h9) rfl dX5_restore_23 ?_
  refine va_aldq hx hb hK.1 hP 1 3 rfl rfl q dX5_restore_26 ?_
  rw [nI_clamp (by omega)]
  match j, hj with
  | 0, _ =>
    have hpm : List.Perm ([(kx 1, .inr (5, [.int (nI 0), .ref (kx 2)])), (kx 2, .inl (tt 3, 4, .inr (.inr (.inr (.inr fun i => some (ka i 0))))))] ++ zw_co tt (ka 0) (hv 0) ++ zw_co tt (ka 1) (hv 1) ++ zw_co tt (ka 2) (hv 2) ++ zw_co tt (ka 3) (hv 3) ++ zw_co tt kv bv) ((zw_co tt kv bv ++ zw_co tt (ka 0) (hv 0)) ++ ([(kx 1, .inr (5, [.int (nI 0), .ref (kx 2)])), (kx 2, .inl (tt 3, 4, .inr (.inr (.inr (.inr fun i => some (ka i 0))))))] ++ zw_co tt (ka 1) (hv 1) ++ zw_co tt (ka 2) (hv 2) ++ zw_co tt (ka 3) (hv 3))) := z_pm (fun _ x => by simp only [List.count_append] <;> omega)
    have hPc := z_takeP hpm hP
    have hDc := z_takeD hpm hD
    have hFc := z_free0 hDc hS hA
    have hpm2 : List.Perm ([(kx 1, .inr (5, [.int (nI 0), .ref (kx 2)])), (kx 2, .inl (tt 3, 4, .inr (.inr (.inr (.inr fun i => some (ka i 0))))))] ++ zw_co tt (ka 0) (hv 0) ++ zw_co tt (ka 1) (hv 1) ++ zw_co tt (ka 2) (hv 2) ++ zw_co tt (ka 3) (hv 3) ++ zw_co tt kv u) ((zw_co tt kv u ++ zw_co tt (ka 0) (hv 0)) ++ ([(kx 1, .inr (5, [.int (nI 0), .ref (kx 2)])), (kx 2, .inl (tt 3, 4, .inr (.inr (.inr (.inr fun i => some (ka i 0))))))] ++ zw_co tt (ka 1) (hv 1) ++ zw_co tt (ka 2) (hv 2) ++ zw_co tt (ka 3) (hv 3))) := z_pm (fun _ x => by simp only [List.count_append] <;> omega)
    refine z_callmv (wc := (zw_co tt kv bv ++ zw_co tt (ka 0) (hv 0))) (w1 := (zw_co tt kv u ++ zw_co tt (ka 0) (hv 0))) (va_runV (As := [.ref (ka 0 0)]) (rest := []) ⟨hx, hb, hml, hown, hts⟩ (c_X2_copyFrom l D tt kv (ka 0) _ bv (hv 0) u gu) (cwV 1 hts gX5_restore_X2_copyFrom rfl rfl rfl (by decide +kernel) ⟨Nat.le_of_ble_eq_true rfl, Nat.le_of_ble_eq_true rfl⟩) (z_preVm hK hPc hDc (ci := 2) (q0 := 0) rfl rfl) rfl rfl hl.1 rfl (lv_room (Nat.le_of_ble_eq_true rfl)) dX5_restore_27 ⟨Nat.zero_le _, Nat.zero_le _⟩) hS hFc (fun H locs hP1 hD1 hk1 hS => ?_)
    obtain ⟨hP, hD⟩ := z_joinB hpm hpm2 hP hD hk1 hFc hP1 hD1
    have hP : va_P D vwCl (zw_hi tt kx (nI 0, hv, ka) ++ zw_co tt kv u) H := hP
    have hD : va_D A (zw_hi tt kx (nI 0, hv, ka) ++ zw_co tt kv u) := hD
    exact hfin (nI 0, hv, ka) u _ _ _ _ h hP hD hS dX5_restore_30
  | 1, _ =>
    have hpm : List.Perm ([(kx 1, .inr (5, [.int (nI 1), .ref (kx 2)])), (kx 2, .inl (tt 3, 4, .inr (.inr (.inr (.inr fun i => some (ka i 0))))))] ++ zw_co tt (ka 0) (hv 0) ++ zw_co tt (ka 1) (hv 1) ++ zw_co tt (ka 2) (hv 2) ++ zw_co tt (ka 3) (hv 3) ++ zw_co tt kv bv) ((zw_co tt kv bv ++ zw_co tt (ka 1) (hv 1)) ++ ([(kx 1, .inr (5, [.int (nI 1), .ref (kx 2)])), (kx 2, .inl (tt 3, 4, .inr (.inr (.inr (.inr fun i => some (ka i 0))))))] ++ zw_co tt (ka 0) (hv 0) ++ zw_co tt (ka 2) (hv 2) ++ zw_co tt (ka 3) (hv 3))) := z_pm (fun _ x => by simp only [List.count_append] <;> omega)
    have hPc := z_takeP hpm hP
    have hDc := z_takeD hpm hD
    have hFc := z_free0 hDc hS hA
    have hpm2 : List.Perm ([(kx 1, .inr (5, [.int (nI 1), .ref (kx 2)])), (kx 2, .inl (tt 3, 4, .inr (.inr (.inr (.inr fun i => some (ka i 0))))))] ++ zw_co tt (ka 0) (hv 0) ++ zw_co tt (ka 1) (hv 1) ++ zw_co tt (ka 2) (hv 2) ++ zw_co tt (ka 3) (hv 3) ++ zw_co tt kv u) ((zw_co tt kv u ++ zw_co tt (ka 1) (hv 1)) ++ ([(kx 1, .inr (5, [.int (nI 1), .ref (kx 2)])), (kx 2, .inl (tt 3, 4, .inr (.inr (.inr (.inr fun i => some (ka i 0))))))] ++ zw_co tt (ka 0) (hv 0) ++ zw_co tt (ka 2) (hv 2) ++ zw_co tt (ka 3) (hv 3))) := z_pm (fun _ x => by simp only [List.count_append] <;> omega)
    refine z_callmv (wc := (zw_co tt kv bv ++ zw_co tt (ka 1) (hv 1))) (w1 := (zw_co tt kv u ++ zw_co tt (ka 1) (hv 1))) (va_runV (As := [.ref (ka 1 0)]) (rest := []) ⟨hx, hb, hml, hown, hts⟩ (c_X2_copyFrom l D tt kv (ka 1) _ bv (hv 1) u gu) (cwV 1 hts gX5_restore_X2_copyFrom rfl rfl rfl (by decide +kernel) ⟨Nat.le_of_ble_eq_true rfl, Nat.le_of_ble_eq_true rfl⟩) (z_preVm hK hPc hDc (ci := 2) (q0 := 0) rfl rfl) rfl rfl hl.1 rfl (lv_room (Nat.le_of_ble_eq_true rfl)) dX5_restore_27 ⟨Nat.zero_le _, Nat.zero_le _⟩) hS hFc (fun H locs hP1 hD1 hk1 hS => ?_)
    obtain ⟨hP, hD⟩ := z_joinB hpm hpm2 hP hD hk1 hFc hP1 hD1
    have hP : va_P D vwCl (zw_hi tt kx (nI 1, hv, ka) ++ zw_co tt kv u) H := hP
    have hD : va_D A (zw_hi tt kx (nI 1, hv, ka) ++ zw_co tt kv u) := hD
    exact hfin (nI 1, hv, ka) u _ _ _ _ h hP hD hS dX5_restore_30
  | 2, _ =>
    have hpm : List.Perm ([(kx 1, .inr (5, [.int (nI 2), .ref (kx 2)])), (kx 2, .inl (tt 3, 4, .inr (.inr (.inr (.inr fun i => some (ka i 0))))))] ++ zw_co tt (ka 0) (hv 0) ++ zw_co tt (ka 1) (hv 1) ++ zw_co tt (ka 2) (hv 2) ++ zw_co tt (ka 3) (hv 3) ++ zw_co tt kv bv) ((zw_co tt kv bv ++ zw_co tt (ka 2) (hv 2)) ++ ([(kx 1, .inr (5, [.int (nI 2), .ref (kx 2)])), (kx 2, .inl (tt 3, 4, .inr (.inr (.inr (.inr fun i => some (ka i 0))))))] ++ zw_co tt (ka 0) (hv 0) ++ zw_co tt (ka 1) (hv 1) ++ zw_co tt (ka 3) (hv 3))) := z_pm (fun _ x => by simp only [List.count_append] <;> omega)
    have hPc := z_takeP hpm hP
    have hDc := z_takeD hpm hD
    have hFc := z_free0 hDc hS hA
    have hpm2 : List.Perm ([(kx 1, .inr (5, [.int (nI 2), .ref (kx 2)])), (kx 2, .inl (tt 3, 4, .inr (.inr (.inr (.inr fun i => some (ka i 0))))))] ++ zw_co tt (ka 0) (hv 0) ++ zw_co tt (ka 1) (hv 1) ++ zw_co tt (ka 2) (hv 2) ++ zw_co tt (ka 3) (hv 3) ++ zw_co tt kv u) ((zw_co tt kv u ++ zw_co tt (ka 2) (hv 2)) ++ ([(kx 1, .inr (5, [.int (nI 2), .ref (kx 2)])), (kx 2, .inl (tt 3, 4, .inr (.inr (.inr (.inr fun i => some (ka i 0))))))] ++ zw_co tt (ka 0) (hv 0) ++ zw_co tt (ka 1) (hv 1) ++ zw_co tt (ka 3) (hv 3))) := z_pm (fun _ x => by simp only [List.count_append] <;> omega)
    refine z_callmv (wc := (zw_co tt kv bv ++ zw_co tt (ka 2) (hv 2))) (w1 := (zw_co tt kv u ++ zw_co tt (ka 2) (hv 2))) (va_runV (As := [.ref (ka 2 0)]) (rest := []) ⟨hx, hb, hml, hown, hts⟩ (c_X2_copyFrom l D tt kv (ka 2) _ bv (hv 2) u gu) (cwV 1 hts gX5_restore_X2_copyFrom rfl rfl rfl (by decide +kernel) ⟨Nat.le_of_ble_eq_true rfl, Nat.le_of_ble_eq_true rfl⟩) (z_preVm hK hPc hDc (ci := 2) (q0 := 0) rfl rfl) rfl rfl hl.1 rfl (lv_room (Nat.le_of_ble_eq_true rfl)) dX5_restore_27 ⟨Nat.zero_le _, Nat.zero_le _⟩) hS hFc (fun H locs hP1 hD1 hk1 hS => ?_)
    obtain ⟨hP, hD⟩ := z_joinB hpm hpm2 hP hD hk1 hFc hP1 hD1
    have hP : va_P D vwCl (zw_hi tt kx (nI 2, hv, ka) ++ zw_co tt kv u) H := hP
    have hD : va_D A (zw_hi tt kx (nI 2, hv, ka) ++ zw_co tt kv u) := hD
    exact hfin (nI 2, hv, ka) u _ _ _ _ h hP hD hS dX5_restore_30
  | 3, _ =>
    have hpm : List.Perm ([(kx 1, .inr (5, [.int (nI 3), .ref (kx 2)])), (kx 2, .inl (tt 3, 4, .inr (.inr (.inr (.inr fun i => some (ka i 0))))))] ++ zw_co tt (ka 0) (hv 0) ++ zw_co tt (ka 1) (hv 1) ++ zw_co tt (ka 2) (hv 2) ++ zw_co tt (ka 3) (hv 3) ++ zw_co tt kv bv) ((zw_co tt kv bv ++ zw_co tt (ka 3) (hv 3)) ++ ([(kx 1, .inr (5, [.int (nI 3), .ref (kx 2)])), (kx 2, .inl (tt 3, 4, .inr (.inr (.inr (.inr fun i => some (ka i 0))))))] ++ zw_co tt (ka 0) (hv 0) ++ zw_co tt (ka 1) (hv 1) ++ zw_co tt (ka 2) (hv 2))) := z_pm (fun _ x => by simp only [List.count_append] <;> omega)
    have hPc := z_takeP hpm hP
    have hDc := z_takeD hpm hD
    have hFc := z_free0 hDc hS hA
    have hpm2 : List.Perm ([(kx 1, .inr (5, [.int (nI 3), .ref (kx 2)])), (kx 2, .inl (tt 3, 4, .inr (.inr (.inr (.inr fun i => some (ka i 0))))))] ++ zw_co tt (ka 0) (hv 0) ++ zw_co tt (ka 1) (hv 1) ++ zw_co tt (ka 2) (hv 2) ++ zw_co tt (ka 3) (hv 3) ++ zw_co tt kv u) ((zw_co tt kv u ++ zw_co tt (ka 3) (hv 3)) ++ ([(kx 1, .inr (5, [.int (nI 3), .ref (kx 2)])), (kx 2, .inl (tt 3, 4, .inr (.inr (.inr (.inr fun i => some (ka i 0))))))] ++ zw_co tt (ka 0) (hv 0) ++ zw_co tt (ka 1) (hv 1) ++ zw_co tt (ka 2) (hv 2))) := z_pm (fun _ x => by simp only [List.count_append] <;> omega)
    refine z_callmv (wc := (zw_co tt kv bv ++ zw_co tt (ka 3) (hv 3))) (w1 := (zw_co tt kv u ++ zw_co tt (ka 3) (hv 3))) (va_runV (As := [.ref (ka 3 0)]) (rest := []) ⟨hx, hb, hml, hown, hts⟩ (c_X2_copyFrom l D tt kv (ka 3) _ bv (hv 3) u gu) (cwV 1 hts gX5_restore_X2_copyFrom rfl rfl rfl (by decide +kernel) ⟨Nat.le_of_ble_eq_true rfl, Nat.le_of_ble_eq_true rfl⟩) (z_preVm hK hPc hDc (ci := 2) (q0 := 0) rfl rfl) rfl rfl hl.1 rfl (lv_room (Nat.le_of_ble_eq_true rfl)) dX5_restore_27 ⟨Nat.zero_le _, Nat.zero_le _⟩) hS hFc (fun H locs hP1 hD1 hk1 hS => ?_)
    obtain ⟨hP, hD⟩ := z_joinB hpm hpm2 hP hD hk1 hFc hP1 hD1
    have hP : va_P D vwCl (zw_hi tt kx (nI 3, hv, ka) ++ zw_co tt kv u) H := hP
    have hD : va_D A (zw_hi tt kx (nI 3, hv, ka) ++ zw_co tt kv u) := hD
    exact hfin (nI 3, hv, ka) u _ _ _ _ h hP hD hS dX5_restore_30
  | j + 4, hj => exact absurd hj (by omega)
