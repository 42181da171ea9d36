/-! ===== contracts: 16.outer ===== -/
set_option maxHeartbeats 4000000 in
set_option maxRecDepth 100000 in
theorem c_X9_newDraft (l : Launch) (D : va_G) (tt : Nat → ClassId) (kx : Nat → Nat) (kv : Nat → Nat) (kd : Nat → Nat) (ke : Nat → Nat) (kt : Nat → Nat) (kr : Nat → Nat) (sz : Nat) (bv : zV) (bd : zV) (bh : zH) (be : zV) (bt : zV) (br : zV)  (out : zV) (h : f_X9_newDraft bv bd bh be bt br = some out) : Met l yX9_newDraft wsX9_newDraft { frames := 4, cells := 0, slots := 0, locals := 103 } (zPm [.ref (kx 0)] D tt (zw_x9 kx kv kd ke kt kr ++ zw_co tt kv bv ++ zw_co tt kd bd ++ zw_hi tt kx bh ++ zw_ex tt ke be ++ zw_tx tt kt bt ++ zw_rh tt kr br) sz) (zMr (kd 0) D (zw_x9 kx kv kd ke kt kr ++ zw_co tt kv bv ++ zw_co tt kd out ++ zw_hi tt kx bh ++ zw_ex tt ke be ++ zw_tx tt kt bt ++ zw_rh tt kr br) (va_A (zw_x9 kx kv kd ke kt kr ++ zw_co tt kv bv ++ zw_co tt kd bd ++ zw_hi tt kx bh ++ zw_ex tt ke be ++ zw_tx tt kt bt ++ zw_rh tt kr br) sz)) 0 0 (va_A (zw_x9 kx kv kd ke kt kr ++ zw_co tt kv bv ++ zw_co tt kd bd ++ zw_hi tt kx bh ++ zw_ex tt ke be ++ zw_tx tt kt bt ++ zw_rh tt kr br) sz) := by
  refine Met.ofW (cc := cX9_newDraft) (maxL := 1) (ret := (some (.object "CapStacks$Company"))) (by decide) rfl ?_
  intro p e s m args below meth c s₁ B hml hv
  obtain ⟨ha, hsz, hP, hK, hD0⟩ := hv
  have hx := B.exec
  have hb := B.bytes
  have hr := B.returns
  have hts := atoms_spec (ws := wsX9_newDraft) B.pre
  have hown : s.vm.findClass RX9 = some m.cls := findClass_of_methodNamed B.named
  have hlocks := B.notSynchronized
  have hi9 : ∀ w ∈ u_ws RX9 TX9 6, w ∈ wsX9_newDraft := fun _ h => List.mem_cons_of_mem _ (List.mem_append_left _ (List.mem_append_left _ (List.mem_append_left _ (List.mem_append_left _ (List.mem_append_left _ (List.mem_append_right _ h))))))
  have fl10 := hts (.fieldLink RX9 10 "CapStacks" "company" "LCapStacks$Company;") (by decide +kernel)
  have fl16 := hts (.fieldLink RX9 16 "CapStacks" "draft" "LCapStacks$Company;") (by decide +kernel)
  subst hsz
  have hD := hD0.self (sz := s.heap.size)
  generalize hAe : va_A (zw_x9 kx kv kd ke kt kr ++ zw_co tt kv bv ++ zw_co tt kd bd ++ zw_hi tt kx bh ++ zw_ex tt ke be ++ zw_tx tt kt bt ++ zw_rh tt kr br) s.heap.size = A at hD ⊢
  have hA : ∀ q : Nat, s.heap.size ≤ q → A q := fun q h => by rw [← hAe]; exact Or.inr h
  have hS : va_S A s.heap s.heap [] := va_S.rf
  have hfin : ∀ (bd : zV) (pc : Nat) (ls : Array Slot) (H : Heap) (locs : List Loc), some bd = some out → va_P D vwCl (zw_x9 kx kv kd ke kt kr ++ zw_co tt kv bv ++ zw_co tt kd bd ++ zw_hi tt kx bh ++ zw_ex tt ke be ++ zw_tx tt kt bt ++ zw_rh tt kr br) H → va_D A (zw_x9 kx kv kd ke kt kr ++ zw_co tt kv bv ++ zw_co tt kd bd ++ zw_hi tt kx bh ++ zw_ex tt ke be ++ zw_tx tt kt bt ++ zw_rh tt kr br) → va_S A s.heap H locs → decode cX9_newDraft pc = .ok (.areturn, 1) → W p l e (headSpec wsX9_newDraft { frames := 4, cells := 0, slots := 0, locals := 103 }).room s m args below meth c H locs 0 0 (MQ below (zMr (kd 0) D (zw_x9 kx kv kd ke kt kr ++ zw_co tt kv bv ++ zw_co tt kd out ++ zw_hi tt kx bh ++ zw_ex tt ke be ++ zw_tx tt kt bt ++ zw_rh tt kr br) A) args s 0 0 A) (F0 m pc ls [.ref (kd 0)]) := by
    intro bd pc ls H locs he hP hD hS hd
    cases he
    exact W.aret (v := .ref (kd 0)) hx hb hr (Or.inl ⟨_, rfl⟩) (Or.inr ⟨_, rfl⟩) (fun t ht hW => ⟨⟨(), _, rfl, trivial, rfl, by rw [ht]; exact hP, hD⟩, hS.F ht⟩) hS.2.2 hd
  generalize MQ below (zMr (kd 0) D (zw_x9 kx kv kd ke kt kr ++ zw_co tt kv bv ++ zw_co tt kd out ++ zw_hi tt kx bh ++ zw_ex tt ke be ++ zw_tx tt kt bt ++ zw_rh tt kr br) A) args s 0 0 A = Q at hfin ⊢
  have hl := lv_entry ([.ref (kx 0)]) (n := 1) (Nat.le_of_ble_eq_true rfl)
  refine W.eq (g2 := F0 m 0 ((lg_sl ([.ref (kx 0)]) ++ List.replicate (1 - (lg_sl ([.ref (kx 0)])).length) Slot.unset).toArray) []) (by rw [ha]; exact lg_entry_eq _ _ _) ?_
  generalize (lg_sl ([.ref (kx 0)]) ++ List.replicate (1 - (lg_sl ([.ref (kx 0)])).length) Slot.unset).toArray = ls at hl ⊢
  have hl : lv_has ls 1 [(0, .ref (kx 0))] := hl
  rw [f_X9_newDraft] at h
  refine lv_aload_n hx hb dX9_newDraft_0 rfl (lv_at hl 0 rfl) ?_
  refine va_get (D := D) (ci := 9) (v := .ref (kd 0)) (C := RX9) (T := TX9) (N := 6) hx hb hts hi9 hown hK.1 hP 0 rfl rfl 1 (by decide) fl16 (fun _ h9 => h9) rfl dX9_newDraft_1 ?_
  refine lv_aload_n hx hb dX9_newDraft_4 rfl (lv_at hl 0 rfl) ?_
  refine va_get (D := D) (ci := 9) (v := .ref (kv 0)) (C := RX9) (T := TX9) (N := 6) hx hb hts hi9 hown hK.1 hP 0 rfl rfl 0 (by decide) fl10 (fun _ h9 => h9) rfl dX9_newDraft_5 ?_
  obtain ⟨y1, gy1, h⟩ := zb_some h
  have hpm : List.Perm (zw_x9 kx kv kd ke kt kr ++ zw_co tt kv bv ++ zw_co tt kd bd ++ zw_hi tt kx bh ++ zw_ex tt ke be ++ zw_tx tt kt bt ++ zw_rh tt kr br) ((zw_co tt kd bd ++ zw_co tt kv bv) ++ (zw_x9 kx kv kd ke kt kr ++ zw_hi tt kx bh ++ zw_ex tt ke be ++ zw_tx tt kt bt ++ zw_rh tt kr br)) := z_pm (fun _ x => by simp only [List.count_append, List.count_nil] <;> omega)
  have hPc := z_takeP hpm hP
  have hDc := z_takeD hpm hD
  have hFc := z_free0 hDc hS hA
  refine z_callmv (wc := (zw_co tt kd bd ++ zw_co tt kv bv)) (w1 := (zw_co tt kd y1 ++ zw_co tt kv bv)) (va_runV (As := [.ref (kv 0)]) (rest := []) ⟨hx, hb, hml, hown, hts⟩ (c_X2_copyFrom l D tt kd kv _ bd bv y1 gy1) (cwV 1 hts gX9_newDraft_X2_copyFrom rfl rfl rfl (by decide +kernel) ⟨Nat.le_of_ble_eq_true rfl, Nat.le_of_ble_eq_true rfl⟩) (z_preVm hK hPc hDc (ci := 2) (q0 := 0) rfl rfl) rfl rfl hl.1 rfl (lv_room (Nat.le_of_ble_eq_true rfl)) dX9_newDraft_8 ⟨Nat.zero_le _, Nat.zero_le _⟩) hS hFc (fun H locs hP1 hD1 hk1 hS => ?_)
  have hpm2 : List.Perm (zw_x9 kx kv kd ke kt kr ++ zw_co tt kv bv ++ zw_co tt kd y1 ++ zw_hi tt kx bh ++ zw_ex tt ke be ++ zw_tx tt kt bt ++ zw_rh tt kr br) ((zw_co tt kd y1 ++ zw_co tt kv bv) ++ (zw_x9 kx kv kd ke kt kr ++ zw_hi tt kx bh ++ zw_ex tt ke be ++ zw_tx tt kt bt ++ zw_rh tt kr br)) := z_pm (fun _ x => by simp only [List.count_append, List.count_nil] <;> omega)
  obtain ⟨hP, hD⟩ := z_joinB hpm hpm2 hP hD hk1 hFc hP1 hD1
  clear hpm hpm2
  have hP : va_P D vwCl (zw_x9 kx kv kd ke kt kr ++ zw_co tt kv bv ++ zw_co tt kd y1 ++ zw_hi tt kx bh ++ zw_ex tt ke be ++ zw_tx tt kt bt ++ zw_rh tt kr br) H := hP
  have hD : va_D A (zw_x9 kx kv kd ke kt kr ++ zw_co tt kv bv ++ zw_co tt kd y1 ++ zw_hi tt kx bh ++ zw_ex tt ke be ++ zw_tx tt kt bt ++ zw_rh tt kr br) := hD
  refine lv_aload_n hx hb dX9_newDraft_11 rfl (lv_at hl 0 rfl) ?_
  refine va_get (D := D) (ci := 9) (v := .ref (kd 0)) (C := RX9) (T := TX9) (N := 6) hx hb hts hi9 hown hK.1 hP 0 rfl rfl 1 (by decide) fl16 (fun _ h9 => h9) rfl dX9_newDraft_12 ?_
  exact hfin _ _ _ _ _ h hP hD hS dX9_newDraft_15
set_option maxHeartbeats 4000000 in
set_option maxRecDepth 100000 in
theorem c_X9_accepted (l : Launch) (D : va_G) (tt : Nat → ClassId) (kx : Nat → Nat) (kv : Nat → Nat) (kd : Nat → Nat) (ke : Nat → Nat) (kt : Nat → Nat) (kr : Nat → Nat) (sz : Nat) (bv : zV) (bd : zV) (bh : zH) (be : zV) (bt : zV) (br : zV) (x1 : Int32) (out : Int32 × zV × zH) (h : f_X9_accepted bv bd bh be bt br x1 = some out) : Met l yX9_accepted wsX9_accepted { frames := 5, cells := 0, slots := 0, locals := 124 } (zPm [.ref (kx 0), .int x1] D tt (zw_x9 kx kv kd ke kt kr ++ zw_co tt kv bv ++ zw_co tt kd bd ++ zw_hi tt kx bh ++ zw_ex tt ke be ++ zw_tx tt kt bt ++ zw_rh tt kr br) sz) (zMi .int out.1 D (zw_x9 kx kv kd ke kt kr ++ zw_co tt kv out.2.1 ++ zw_co tt kd bd ++ zw_hi tt kx out.2.2 ++ zw_ex tt ke be ++ zw_tx tt kt bt ++ zw_rh tt kr br) (va_A (zw_x9 kx kv kd ke kt kr ++ zw_co tt kv bv ++ zw_co tt kd bd ++ zw_hi tt kx bh ++ zw_ex tt ke be ++ zw_tx tt kt bt ++ zw_rh tt kr br) sz)) 0 0 (va_A (zw_x9 kx kv kd ke kt kr ++ zw_co tt kv bv ++ zw_co tt kd bd ++ zw_hi tt kx bh ++ zw_ex tt ke be ++ zw_tx tt kt bt ++ zw_rh tt kr br) sz) := by
  refine Met.ofW (cc := cX9_accepted) (maxL := 2) (ret := (some .int)) (by decide) rfl ?_
  intro p e s m args below meth c s₁ B hml hv
  obtain ⟨ha, hsz, hP, hK, hD0⟩ := hv
  have hx := B.exec
  have hb := B.bytes
  have hr := B.returns
  have hts := atoms_spec (ws := wsX9_accepted) B.pre
  have hown : s.vm.findClass RX9 = some m.cls := findClass_of_methodNamed B.named
  have hlocks := B.notSynchronized
  have hi9 : ∀ w ∈ u_ws RX9 TX9 6, w ∈ wsX9_accepted := fun _ h => List.mem_cons_of_mem _ (List.mem_append_left _ (List.mem_append_left _ (List.mem_append_left _ (List.mem_append_left _ (List.mem_append_left _ (List.mem_append_left _ (List.mem_append_right _ h)))))))
  have fl10 := hts (.fieldLink RX9 10 "CapStacks" "company" "LCapStacks$Company;") (by decide +kernel)
  have fl16 := hts (.fieldLink RX9 16 "CapStacks" "draft" "LCapStacks$Company;") (by decide +kernel)
  have fl22 := hts (.fieldLink RX9 22 "CapStacks" "history" "LCapStacks$History;") (by decide +kernel)
  subst hsz
  have hD := hD0.self (sz := s.heap.size)
  generalize hAe : va_A (zw_x9 kx kv kd ke kt kr ++ zw_co tt kv bv ++ zw_co tt kd bd ++ zw_hi tt kx bh ++ zw_ex tt ke be ++ zw_tx tt kt bt ++ zw_rh tt kr br) s.heap.size = A at hD ⊢
  have hA : ∀ q : Nat, s.heap.size ≤ q → A q := fun q h => by rw [← hAe]; exact Or.inr h
  have hS : va_S A s.heap s.heap [] := va_S.rf
  have hfin : ∀ (v : Int32) (bv : zV) (bh : zH) (pc : Nat) (ls : Array Slot) (H : Heap) (locs : List Loc), some (v, bv, bh) = some out → narrow .int (.int v) = .int v → va_P D vwCl (zw_x9 kx kv kd ke kt kr ++ zw_co tt kv bv ++ zw_co tt kd bd ++ zw_hi tt kx bh ++ zw_ex tt ke be ++ zw_tx tt kt bt ++ zw_rh tt kr br) H → va_D A (zw_x9 kx kv kd ke kt kr ++ zw_co tt kv bv ++ zw_co tt kd bd ++ zw_hi tt kx bh ++ zw_ex tt ke be ++ zw_tx tt kt bt ++ zw_rh tt kr br) → va_S A s.heap H locs → decode cX9_accepted pc = .ok (.ireturn, 1) → W p l e (headSpec wsX9_accepted { frames := 5, cells := 0, slots := 0, locals := 124 }).room s m args below meth c H locs 0 0 (MQ below (zMi .int out.1 D (zw_x9 kx kv kd ke kt kr ++ zw_co tt kv out.2.1 ++ zw_co tt kd bd ++ zw_hi tt kx out.2.2 ++ zw_ex tt ke be ++ zw_tx tt kt bt ++ zw_rh tt kr br) A) args s 0 0 A) (F0 m pc ls [.int v]) := by
    intro v bv bh pc ls H locs he hn hP hD hS hd
    cases he
    exact W.zret hx hb hr hn (fun t ht hW => ⟨⟨_, (), rfl, ⟨rfl, hn⟩, by rw [ht]; exact hP, hD⟩, hS.F ht⟩) hS.2.2 hd
  generalize MQ below (zMi .int out.1 D (zw_x9 kx kv kd ke kt kr ++ zw_co tt kv out.2.1 ++ zw_co tt kd bd ++ zw_hi tt kx out.2.2 ++ zw_ex tt ke be ++ zw_tx tt kt bt ++ zw_rh tt kr br) A) args s 0 0 A = Q at hfin ⊢
  have hl := lv_entry ([.ref (kx 0), .int x1]) (n := 2) (Nat.le_of_ble_eq_true rfl)
  refine W.eq (g2 := F0 m 0 ((lg_sl ([.ref (kx 0), .int x1]) ++ List.replicate (2 - (lg_sl ([.ref (kx 0), .int x1])).length) Slot.unset).toArray) []) (by rw [ha]; exact lg_entry_eq _ _ _) ?_
  generalize (lg_sl ([.ref (kx 0), .int x1]) ++ List.replicate (2 - (lg_sl ([.ref (kx 0), .int x1])).length) Slot.unset).toArray = ls at hl ⊢
  have hl : lv_has ls 2 [(0, .ref (kx 0)), (1, .int x1)] := hl
  rw [f_X9_accepted] at h
  refine lv_iload_n hx hb dX9_accepted_0 rfl (lv_at hl 1 rfl) ?_
  refine lv_if_lt (tgt := 26) hx hb dX9_accepted_1 (by decide) (fun k1 => ?_) (fun k1 => ?_)
  · replace h := z_pos k1 h
    refine lv_iload_n hx hb dX9_accepted_26 rfl (lv_at hl 1 rfl) ?_
    exact hfin _ _ _ _ _ _ _ h rfl hP hD hS dX9_accepted_27
  replace h := z_neg k1 h
  refine lv_aload_n hx hb dX9_accepted_4 rfl (lv_at hl 0 rfl) ?_
  refine va_get (D := D) (ci := 9) (v := .ref (kx 1)) (C := RX9) (T := TX9) (N := 6) hx hb hts hi9 hown hK.1 hP 0 rfl rfl 2 (by decide) fl22 (fun _ h9 => h9) rfl dX9_accepted_5 ?_
  refine lv_aload_n hx hb dX9_accepted_8 rfl (lv_at hl 0 rfl) ?_
  refine va_get (D := D) (ci := 9) (v := .ref (kv 0)) (C := RX9) (T := TX9) (N := 6) hx hb hts hi9 hown hK.1 hP 0 rfl rfl 0 (by decide) fl10 (fun _ h9 => h9) rfl dX9_accepted_9 ?_
  obtain ⟨y2, gy2, h⟩ := zb_some h
  have hpm : List.Perm (zw_x9 kx kv kd ke kt kr ++ zw_co tt kv bv ++ zw_co tt kd bd ++ zw_hi tt kx bh ++ zw_ex tt ke be ++ zw_tx tt kt bt ++ zw_rh tt kr br) ((zw_hi tt kx bh ++ zw_co tt kv bv) ++ (zw_x9 kx kv kd ke kt kr ++ zw_co tt kd bd ++ zw_ex tt ke be ++ zw_tx tt kt bt ++ zw_rh tt kr br)) := z_pm (fun _ x => by simp only [List.count_append, List.count_nil] <;> omega)
  have hPc := z_takeP hpm hP
  have hDc := z_takeD hpm hD
  have hFc := z_free0 hDc hS hA
  refine z_callmv (wc := (zw_hi tt kx bh ++ zw_co tt kv bv)) (w1 := (zw_hi tt kx y2 ++ zw_co tt kv bv)) (va_runV (As := [.ref (kv 0)]) (rest := []) ⟨hx, hb, hml, hown, hts⟩ (c_X5_keep l D tt kx kv _ bh bv y2 gy2) (cwV 1 hts gX9_accepted_X5_keep rfl rfl rfl (by decide +kernel) ⟨Nat.le_of_ble_eq_true rfl, Nat.le_of_ble_eq_true rfl⟩) (z_preVm hK hPc hDc (ci := 5) (q0 := 0) rfl rfl) rfl rfl hl.1 rfl (lv_room (Nat.le_of_ble_eq_true rfl)) dX9_accepted_12 ⟨Nat.zero_le _, Nat.zero_le _⟩) hS hFc (fun H locs hP1 hD1 hk1 hS => ?_)
  have hpm2 : List.Perm (zw_x9 kx kv kd ke kt kr ++ zw_co tt kv bv ++ zw_co tt kd bd ++ zw_hi tt kx y2 ++ zw_ex tt ke be ++ zw_tx tt kt bt ++ zw_rh tt kr br) ((zw_hi tt kx y2 ++ zw_co tt kv bv) ++ (zw_x9 kx kv kd ke kt kr ++ zw_co tt kd bd ++ zw_ex tt ke be ++ zw_tx tt kt bt ++ zw_rh tt kr br)) := z_pm (fun _ x => by simp only [List.count_append, List.count_nil] <;> omega)
  obtain ⟨hP, hD⟩ := z_joinB hpm hpm2 hP hD hk1 hFc hP1 hD1
  clear hpm hpm2
  have hP : va_P D vwCl (zw_x9 kx kv kd ke kt kr ++ zw_co tt kv bv ++ zw_co tt kd bd ++ zw_hi tt kx y2 ++ zw_ex tt ke be ++ zw_tx tt kt bt ++ zw_rh tt kr br) H := hP
  have hD : va_D A (zw_x9 kx kv kd ke kt kr ++ zw_co tt kv bv ++ zw_co tt kd bd ++ zw_hi tt kx y2 ++ zw_ex tt ke be ++ zw_tx tt kt bt ++ zw_rh tt kr br) := hD
  refine lv_aload_n hx hb dX9_accepted_15 rfl (lv_at hl 0 rfl) ?_
  refine va_get (D := D) (ci := 9) (v := .ref (kv 0)) (C := RX9) (T := TX9) (N := 6) hx hb hts hi9 hown hK.1 hP 0 rfl rfl 0 (by decide) fl10 (fun _ h9 => h9) rfl dX9_accepted_16 ?_
  refine lv_aload_n hx hb dX9_accepted_19 rfl (lv_at hl 0 rfl) ?_
  refine va_get (D := D) (ci := 9) (v := .ref (kd 0)) (C := RX9) (T := TX9) (N := 6) hx hb hts hi9 hown hK.1 hP 0 rfl rfl 1 (by decide) fl16 (fun _ h9 => h9) rfl dX9_accepted_20 ?_
  obtain ⟨y3, gy3, h⟩ := zb_some h
  have hpm : List.Perm (zw_x9 kx kv kd ke kt kr ++ zw_co tt kv bv ++ zw_co tt kd bd ++ zw_hi tt kx y2 ++ zw_ex tt ke be ++ zw_tx tt kt bt ++ zw_rh tt kr br) ((zw_co tt kv bv ++ zw_co tt kd bd) ++ (zw_x9 kx kv kd ke kt kr ++ zw_hi tt kx y2 ++ zw_ex tt ke be ++ zw_tx tt kt bt ++ zw_rh tt kr br)) := z_pm (fun _ x => by simp only [List.count_append, List.count_nil] <;> omega)
  have hPc := z_takeP hpm hP
  have hDc := z_takeD hpm hD
  have hFc := z_free0 hDc hS hA
  refine z_callmv (wc := (zw_co tt kv bv ++ zw_co tt kd bd)) (w1 := (zw_co tt kv y3 ++ zw_co tt kd bd)) (va_runV (As := [.ref (kd 0)]) (rest := []) ⟨hx, hb, hml, hown, hts⟩ (c_X2_copyFrom l D tt kv kd _ bv bd y3 gy3) (cwV 1 hts gX9_accepted_X2_copyFrom rfl rfl rfl (by decide +kernel) ⟨Nat.le_of_ble_eq_true rfl, Nat.le_of_ble_eq_true rfl⟩) (z_preVm hK hPc hDc (ci := 2) (q0 := 0) rfl rfl) rfl rfl hl.1 rfl (lv_room (Nat.le_of_ble_eq_true rfl)) dX9_accepted_23 ⟨Nat.zero_le _, Nat.zero_le _⟩) hS hFc (fun H locs hP1 hD1 hk1 hS => ?_)
  have hpm2 : List.Perm (zw_x9 kx kv kd ke kt kr ++ zw_co tt kv y3 ++ zw_co tt kd bd ++ zw_hi tt kx y2 ++ zw_ex tt ke be ++ zw_tx tt kt bt ++ zw_rh tt kr br) ((zw_co tt kv y3 ++ zw_co tt kd bd) ++ (zw_x9 kx kv kd ke kt kr ++ zw_hi tt kx y2 ++ zw_ex tt ke be ++ zw_tx tt kt bt ++ zw_rh tt kr br)) := z_pm (fun _ x => by simp only [List.count_append, List.count_nil] <;> omega)
  obtain ⟨hP, hD⟩ := z_joinB hpm hpm2 hP hD hk1 hFc hP1 hD1
  clear hpm hpm2
  have hP : va_P D vwCl (zw_x9 kx kv kd ke kt kr ++ zw_co tt kv y3 ++ zw_co tt kd bd ++ zw_hi tt kx y2 ++ zw_ex tt ke be ++ zw_tx tt kt bt ++ zw_rh tt kr br) H := hP
  have hD : va_D A (zw_x9 kx kv kd ke kt kr ++ zw_co tt kv y3 ++ zw_co tt kd bd ++ zw_hi tt kx y2 ++ zw_ex tt ke be ++ zw_tx tt kt bt ++ zw_rh tt kr br) := hD
  refine lv_iload_n hx hb dX9_accepted_26 rfl (lv_at hl 1 rfl) ?_
  exact hfin _ _ _ _ _ _ _ h rfl hP hD hS dX9_accepted_27
set_option maxHeartbeats 4000000 in
set_option maxRecDepth 100000 in
theorem c_X9_shareClass (l : Launch) (D : va_G) (tt : Nat → ClassId) (kx : Nat → Nat) (kv : Nat → Nat) (kd : Nat → Nat) (ke : Nat → Nat) (kt : Nat → Nat) (kr : Nat → Nat) (sz : Nat) (bv : zV) (bd : zV) (bh : zH) (be : zV) (bt : zV) (br : zV) (x1 : Int32) (x2 : Int32) (x3 : Int32) (x4 : Int32) (x5 : Int32) (out : Int32 × zV × zV × zH) (h : f_X9_shareClass bv bd bh be bt br x1 x2 x3 x4 x5 = some out) : Met l yX9_shareClass wsX9_shareClass { frames := 6, cells := 0, slots := 0, locals := 145 } (zPm [.ref (kx 0), .int x1, .int x2, .int x3, .int x4, .int x5] D tt (zw_x9 kx kv kd ke kt kr ++ zw_co tt kv bv ++ zw_co tt kd bd ++ zw_hi tt kx bh ++ zw_ex tt ke be ++ zw_tx tt kt bt ++ zw_rh tt kr br) sz) (zMi .int out.1 D (zw_x9 kx kv kd ke kt kr ++ zw_co tt kv out.2.1 ++ zw_co tt kd out.2.2.1 ++ zw_hi tt kx out.2.2.2 ++ zw_ex tt ke be ++ zw_tx tt kt bt ++ zw_rh tt kr br) (va_A (zw_x9 kx kv kd ke kt kr ++ zw_co tt kv bv ++ zw_co tt kd bd ++ zw_hi tt kx bh ++ zw_ex tt ke be ++ zw_tx tt kt bt ++ zw_rh tt kr br) sz)) 0 0 (va_A (zw_x9 kx kv kd ke kt kr ++ zw_co tt kv bv ++ zw_co tt kd bd ++ zw_hi tt kx bh ++ zw_ex tt ke be ++ zw_tx tt kt bt ++ zw_rh tt kr br) sz) := by
  refine Met.ofW (cc := cX9_shareClass) (maxL := 6) (ret := (some .int)) (by decide) rfl ?_
  intro p e s m args below meth c s₁ B hml hv
  obtain ⟨ha, hsz, hP, hK, hD0⟩ := hv
  have hx := B.exec
  have hb := B.bytes
  have hr := B.returns
  have hts := atoms_spec (ws := wsX9_shareClass) B.pre
  have hown : s.vm.findClass RX9 = some m.cls := findClass_of_methodNamed B.named
  have hlocks := B.notSynchronized
  subst hsz
  have hD := hD0.self (sz := s.heap.size)
  generalize hAe : va_A (zw_x9 kx kv kd ke kt kr ++ zw_co tt kv bv ++ zw_co tt kd bd ++ zw_hi tt kx bh ++ zw_ex tt ke be ++ zw_tx tt kt bt ++ zw_rh tt kr br) s.heap.size = A at hD ⊢
  have hA : ∀ q : Nat, s.heap.size ≤ q → A q := fun q h => by rw [← hAe]; exact Or.inr h
  have hS : va_S A s.heap s.heap [] := va_S.rf
  have hfin : ∀ (v : Int32) (bv : zV) (bd : zV) (bh : zH) (pc : Nat) (ls : Array Slot) (H : Heap) (locs : List Loc), some (v, bv, bd, bh) = some out → narrow .int (.int v) = .int v → va_P D vwCl (zw_x9 kx kv kd ke kt kr ++ zw_co tt kv bv ++ zw_co tt kd bd ++ zw_hi tt kx bh ++ zw_ex tt ke be ++ zw_tx tt kt bt ++ zw_rh tt kr br) H → va_D A (zw_x9 kx kv kd ke kt kr ++ zw_co tt kv bv ++ zw_co tt kd bd ++ zw_hi tt kx bh ++ zw_ex tt ke be ++ zw_tx tt kt bt ++ zw_rh tt kr br) → va_S A s.heap H locs → decode cX9_shareClass pc = .ok (.ireturn, 1) → W p l e (headSpec wsX9_shareClass { frames := 6, cells := 0, slots := 0, locals := 145 }).room s m args below meth c H locs 0 0 (MQ below (zMi .int out.1 D (zw_x9 kx kv kd ke kt kr ++ zw_co tt kv out.2.1 ++ zw_co tt kd out.2.2.1 ++ zw_hi tt kx out.2.2.2 ++ zw_ex tt ke be ++ zw_tx tt kt bt ++ zw_rh tt kr br) A) args s 0 0 A) (F0 m pc ls [.int v]) := by
    intro v bv bd bh pc ls H locs he hn hP hD hS hd
    cases he
    exact W.zret hx hb hr hn (fun t ht hW => ⟨⟨_, (), rfl, ⟨rfl, hn⟩, by rw [ht]; exact hP, hD⟩, hS.F ht⟩) hS.2.2 hd
  generalize MQ below (zMi .int out.1 D (zw_x9 kx kv kd ke kt kr ++ zw_co tt kv out.2.1 ++ zw_co tt kd out.2.2.1 ++ zw_hi tt kx out.2.2.2 ++ zw_ex tt ke be ++ zw_tx tt kt bt ++ zw_rh tt kr br) A) args s 0 0 A = Q at hfin ⊢
  have hl := lv_entry ([.ref (kx 0), .int x1, .int x2, .int x3, .int x4, .int x5]) (n := 6) (Nat.le_of_ble_eq_true rfl)
  refine W.eq (g2 := F0 m 0 ((lg_sl ([.ref (kx 0), .int x1, .int x2, .int x3, .int x4, .int x5]) ++ List.replicate (6 - (lg_sl ([.ref (kx 0), .int x1, .int x2, .int x3, .int x4, .int x5])).length) Slot.unset).toArray) []) (by rw [ha]; exact lg_entry_eq _ _ _) ?_
  generalize (lg_sl ([.ref (kx 0), .int x1, .int x2, .int x3, .int x4, .int x5]) ++ List.replicate (6 - (lg_sl ([.ref (kx 0), .int x1, .int x2, .int x3, .int x4, .int x5])).length) Slot.unset).toArray = ls at hl ⊢
  have hl : lv_has ls 6 [(0, .ref (kx 0)), (1, .int x1), (2, .int x2), (3, .int x3), (4, .int x4), (5, .int x5)] := hl
  rw [f_X9_shareClass] at h
  refine lv_aload_n hx hb dX9_shareClass_0 rfl (lv_at hl 0 rfl) ?_
  refine lv_aload_n hx hb dX9_shareClass_1 rfl (lv_at hl 0 rfl) ?_
  obtain ⟨y1, gy1, h⟩ := zb_some h
  have hFc := z_free0 hD hS hA
  refine z_callmr (q := kd 0) (wc := (zw_x9 kx kv kd ke kt kr ++ zw_co tt kv bv ++ zw_co tt kd bd ++ zw_hi tt kx bh ++ zw_ex tt ke be ++ zw_tx tt kt bt ++ zw_rh tt kr br)) (w1 := (zw_x9 kx kv kd ke kt kr ++ zw_co tt kv bv ++ zw_co tt kd y1 ++ zw_hi tt kx bh ++ zw_ex tt ke be ++ zw_tx tt kt bt ++ zw_rh tt kr br)) (va_runV (As := []) (rest := [.ref (kx 0)]) ⟨hx, hb, hml, hown, hts⟩ (c_X9_newDraft l D tt kx kv kd ke kt kr _ bv bd bh be bt br y1 gy1) (cwV 0 hts gX9_shareClass_X9_newDraft rfl rfl rfl (by decide +kernel) ⟨Nat.le_of_ble_eq_true rfl, Nat.le_of_ble_eq_true rfl⟩) (z_preVm hK hP hD (ci := 9) (q0 := 0) rfl rfl) rfl rfl hl.1 rfl (lv_room (Nat.le_of_ble_eq_true rfl)) dX9_shareClass_2 ⟨Nat.zero_le _, Nat.zero_le _⟩) hS hFc (fun H locs hP1 hD1 hk1 hS => ?_)
  have hP := hP1
  have hD := hD1.weaken (fun _ q _ h => hFc q.1 h)
  refine lv_iload_n hx hb dX9_shareClass_5 rfl (lv_at hl 1 rfl) ?_
  refine lv_iload_n hx hb dX9_shareClass_6 rfl (lv_at hl 2 rfl) ?_
  refine lv_iload_n hx hb dX9_shareClass_7 rfl (lv_at hl 3 rfl) ?_
  refine lv_iload hx hb dX9_shareClass_8 (lv_at hl 4 rfl) ?_
  refine lv_iload hx hb dX9_shareClass_10 (lv_at hl 5 rfl) ?_
  obtain ⟨y2, gy2, h⟩ := zb_some h
  have hpm : List.Perm (zw_x9 kx kv kd ke kt kr ++ zw_co tt kv bv ++ zw_co tt kd y1 ++ zw_hi tt kx bh ++ zw_ex tt ke be ++ zw_tx tt kt bt ++ zw_rh tt kr br) ((zw_co tt kd y1) ++ (zw_x9 kx kv kd ke kt kr ++ zw_co tt kv bv ++ zw_hi tt kx bh ++ zw_ex tt ke be ++ zw_tx tt kt bt ++ zw_rh tt kr br)) := z_pm (fun _ x => by simp only [List.count_append, List.count_nil] <;> omega)
  have hPc := z_takeP hpm hP
  have hDc := z_takeD hpm hD
  have hFc := z_free0 hDc hS hA
  refine z_callmi (wc := (zw_co tt kd y1)) (w1 := (zw_co tt kd y2.2)) (va_runV (As := [.int x1, .int x2, .int x3, .int x4, .int x5]) (rest := [.ref (kx 0)]) ⟨hx, hb, hml, hown, hts⟩ (c_X2_addClass l D tt kd _ y1 x1 x2 x3 x4 x5 y2 gy2) (cwV 5 hts gX9_shareClass_X2_addClass rfl rfl rfl (by decide +kernel) ⟨Nat.le_of_ble_eq_true rfl, Nat.le_of_ble_eq_true rfl⟩) (z_preVm hK hPc hDc (ci := 2) (q0 := 0) rfl rfl) rfl rfl hl.1 rfl (lv_room (Nat.le_of_ble_eq_true rfl)) dX9_shareClass_12 ⟨Nat.zero_le _, Nat.zero_le _⟩) hS hFc (fun H locs ny2 hP1 hD1 hk1 hS => ?_)
  have hpm2 : List.Perm (zw_x9 kx kv kd ke kt kr ++ zw_co tt kv bv ++ zw_co tt kd y2.2 ++ zw_hi tt kx bh ++ zw_ex tt ke be ++ zw_tx tt kt bt ++ zw_rh tt kr br) ((zw_co tt kd y2.2) ++ (zw_x9 kx kv kd ke kt kr ++ zw_co tt kv bv ++ zw_hi tt kx bh ++ zw_ex tt ke be ++ zw_tx tt kt bt ++ zw_rh tt kr br)) := z_pm (fun _ x => by simp only [List.count_append, List.count_nil] <;> omega)
  obtain ⟨hP, hD⟩ := z_joinB hpm hpm2 hP hD hk1 hFc hP1 hD1
  clear hpm hpm2
  have hP : va_P D vwCl (zw_x9 kx kv kd ke kt kr ++ zw_co tt kv bv ++ zw_co tt kd y2.2 ++ zw_hi tt kx bh ++ zw_ex tt ke be ++ zw_tx tt kt bt ++ zw_rh tt kr br) H := hP
  have hD : va_D A (zw_x9 kx kv kd ke kt kr ++ zw_co tt kv bv ++ zw_co tt kd y2.2 ++ zw_hi tt kx bh ++ zw_ex tt ke be ++ zw_tx tt kt bt ++ zw_rh tt kr br) := hD
  obtain ⟨y3, gy3, h⟩ := zb_some h
  have hFc := z_free0 hD hS hA
  refine z_callmi (wc := (zw_x9 kx kv kd ke kt kr ++ zw_co tt kv bv ++ zw_co tt kd y2.2 ++ zw_hi tt kx bh ++ zw_ex tt ke be ++ zw_tx tt kt bt ++ zw_rh tt kr br)) (w1 := (zw_x9 kx kv kd ke kt kr ++ zw_co tt kv y3.2.1 ++ zw_co tt kd y2.2 ++ zw_hi tt kx y3.2.2 ++ zw_ex tt ke be ++ zw_tx tt kt bt ++ zw_rh tt kr br)) (va_runV (As := [.int y2.1]) (rest := []) ⟨hx, hb, hml, hown, hts⟩ (c_X9_accepted l D tt kx kv kd ke kt kr _ bv y2.2 bh be bt br y2.1 y3 gy3) (cwV 1 hts gX9_shareClass_X9_accepted rfl rfl rfl (by decide +kernel) ⟨Nat.le_of_ble_eq_true rfl, Nat.le_of_ble_eq_true rfl⟩) (z_preVm hK hP hD (ci := 9) (q0 := 0) rfl rfl) rfl rfl hl.1 rfl (lv_room (Nat.le_of_ble_eq_true rfl)) dX9_shareClass_15 ⟨Nat.zero_le _, Nat.zero_le _⟩) hS hFc (fun H locs ny3 hP1 hD1 hk1 hS => ?_)
  have hP := hP1
  have hD := hD1.weaken (fun _ q _ h => hFc q.1 h)
  exact hfin _ _ _ _ _ _ _ _ h rfl hP hD hS dX9_shareClass_18
set_option maxHeartbeats 4000000 in
set_option maxRecDepth 100000 in
theorem c_X9_holder (l : Launch) (D : va_G) (tt : Nat → ClassId) (kx : Nat → Nat) (kv : Nat → Nat) (kd : Nat → Nat) (ke : Nat → Nat) (kt : Nat → Nat) (kr : Nat → Nat) (sz : Nat) (bv : zV) (bd : zV) (bh : zH) (be : zV) (bt : zV) (br : zV)  (out : Int32 × zV × zV × zH) (h : f_X9_holder bv bd bh be bt br = some out) : Met l yX9_holder wsX9_holder { frames := 6, cells := 0, slots := 0, locals := 145 } (zPm [.ref (kx 0)] D tt (zw_x9 kx kv kd ke kt kr ++ zw_co tt kv bv ++ zw_co tt kd bd ++ zw_hi tt kx bh ++ zw_ex tt ke be ++ zw_tx tt kt bt ++ zw_rh tt kr br) sz) (zMi .int out.1 D (zw_x9 kx kv kd ke kt kr ++ zw_co tt kv out.2.1 ++ zw_co tt kd out.2.2.1 ++ zw_hi tt kx out.2.2.2 ++ zw_ex tt ke be ++ zw_tx tt kt bt ++ zw_rh tt kr br) (va_A (zw_x9 kx kv kd ke kt kr ++ zw_co tt kv bv ++ zw_co tt kd bd ++ zw_hi tt kx bh ++ zw_ex tt ke be ++ zw_tx tt kt bt ++ zw_rh tt kr br) sz)) 0 0 (va_A (zw_x9 kx kv kd ke kt kr ++ zw_co tt kv bv ++ zw_co tt kd bd ++ zw_hi tt kx bh ++ zw_ex tt ke be ++ zw_tx tt kt bt ++ zw_rh tt kr br) sz) := by
  refine Met.ofW (cc := cX9_holder) (maxL := 1) (ret := (some .int)) (by decide) rfl ?_
  intro p e s m args below meth c s₁ B hml hv
  obtain ⟨ha, hsz, hP, hK, hD0⟩ := hv
  have hx := B.exec
  have hb := B.bytes
  have hr := B.returns
  have hts := atoms_spec (ws := wsX9_holder) B.pre
  have hown : s.vm.findClass RX9 = some m.cls := findClass_of_methodNamed B.named
  have hlocks := B.notSynchronized
  subst hsz
  have hD := hD0.self (sz := s.heap.size)
  generalize hAe : va_A (zw_x9 kx kv kd ke kt kr ++ zw_co tt kv bv ++ zw_co tt kd bd ++ zw_hi tt kx bh ++ zw_ex tt ke be ++ zw_tx tt kt bt ++ zw_rh tt kr br) s.heap.size = A at hD ⊢
  have hA : ∀ q : Nat, s.heap.size ≤ q → A q := fun q h => by rw [← hAe]; exact Or.inr h
  have hS : va_S A s.heap s.heap [] := va_S.rf
  have hfin : ∀ (v : Int32) (bv : zV) (bd : zV) (bh : zH) (pc : Nat) (ls : Array Slot) (H : Heap) (locs : List Loc), some (v, bv, bd, bh) = some out → narrow .int (.int v) = .int v → va_P D vwCl (zw_x9 kx kv kd ke kt kr ++ zw_co tt kv bv ++ zw_co tt kd bd ++ zw_hi tt kx bh ++ zw_ex tt ke be ++ zw_tx tt kt bt ++ zw_rh tt kr br) H → va_D A (zw_x9 kx kv kd ke kt kr ++ zw_co tt kv bv ++ zw_co tt kd bd ++ zw_hi tt kx bh ++ zw_ex tt ke be ++ zw_tx tt kt bt ++ zw_rh tt kr br) → va_S A s.heap H locs → decode cX9_holder pc = .ok (.ireturn, 1) → W p l e (headSpec wsX9_holder { frames := 6, cells := 0, slots := 0, locals := 145 }).room s m args below meth c H locs 0 0 (MQ below (zMi .int out.1 D (zw_x9 kx kv kd ke kt kr ++ zw_co tt kv out.2.1 ++ zw_co tt kd out.2.2.1 ++ zw_hi tt kx out.2.2.2 ++ zw_ex tt ke be ++ zw_tx tt kt bt ++ zw_rh tt kr br) A) args s 0 0 A) (F0 m pc ls [.int v]) := by
    intro v bv bd bh pc ls H locs he hn hP hD hS hd
    cases he
    exact W.zret hx hb hr hn (fun t ht hW => ⟨⟨_, (), rfl, ⟨rfl, hn⟩, by rw [ht]; exact hP, hD⟩, hS.F ht⟩) hS.2.2 hd
  generalize MQ below (zMi .int out.1 D (zw_x9 kx kv kd ke kt kr ++ zw_co tt kv out.2.1 ++ zw_co tt kd out.2.2.1 ++ zw_hi tt kx out.2.2.2 ++ zw_ex tt ke be ++ zw_tx tt kt bt ++ zw_rh tt kr br) A) args s 0 0 A = Q at hfin ⊢
  have hl := lv_entry ([.ref (kx 0)]) (n := 1) (Nat.le_of_ble_eq_true rfl)
  refine W.eq (g2 := F0 m 0 ((lg_sl ([.ref (kx 0)]) ++ List.replicate (1 - (lg_sl ([.ref (kx 0)])).length) Slot.unset).toArray) []) (by rw [ha]; exact lg_entry_eq _ _ _) ?_
  generalize (lg_sl ([.ref (kx 0)]) ++ List.replicate (1 - (lg_sl ([.ref (kx 0)])).length) Slot.unset).toArray = ls at hl ⊢
  have hl : lv_has ls 1 [(0, .ref (kx 0))] := hl
  rw [f_X9_holder] at h
  refine lv_aload_n hx hb dX9_holder_0 rfl (lv_at hl 0 rfl) ?_
  refine lv_aload_n hx hb dX9_holder_1 rfl (lv_at hl 0 rfl) ?_
  obtain ⟨y1, gy1, h⟩ := zb_some h
  have hFc := z_free0 hD hS hA
  refine z_callmr (q := kd 0) (wc := (zw_x9 kx kv kd ke kt kr ++ zw_co tt kv bv ++ zw_co tt kd bd ++ zw_hi tt kx bh ++ zw_ex tt ke be ++ zw_tx tt kt bt ++ zw_rh tt kr br)) (w1 := (zw_x9 kx kv kd ke kt kr ++ zw_co tt kv bv ++ zw_co tt kd y1 ++ zw_hi tt kx bh ++ zw_ex tt ke be ++ zw_tx tt kt bt ++ zw_rh tt kr br)) (va_runV (As := []) (rest := [.ref (kx 0)]) ⟨hx, hb, hml, hown, hts⟩ (c_X9_newDraft l D tt kx kv kd ke kt kr _ bv bd bh be bt br y1 gy1) (cwV 0 hts gX9_holder_X9_newDraft rfl rfl rfl (by decide +kernel) ⟨Nat.le_of_ble_eq_true rfl, Nat.le_of_ble_eq_true rfl⟩) (z_preVm hK hP hD (ci := 9) (q0 := 0) rfl rfl) rfl rfl hl.1 rfl (lv_room (Nat.le_of_ble_eq_true rfl)) dX9_holder_2 ⟨Nat.zero_le _, Nat.zero_le _⟩) hS hFc (fun H locs hP1 hD1 hk1 hS => ?_)
  have hP := hP1
  have hD := hD1.weaken (fun _ q _ h => hFc q.1 h)
  obtain ⟨y2, gy2, h⟩ := zb_some h
  have hpm : List.Perm (zw_x9 kx kv kd ke kt kr ++ zw_co tt kv bv ++ zw_co tt kd y1 ++ zw_hi tt kx bh ++ zw_ex tt ke be ++ zw_tx tt kt bt ++ zw_rh tt kr br) ((zw_co tt kd y1) ++ (zw_x9 kx kv kd ke kt kr ++ zw_co tt kv bv ++ zw_hi tt kx bh ++ zw_ex tt ke be ++ zw_tx tt kt bt ++ zw_rh tt kr br)) := z_pm (fun _ x => by simp only [List.count_append, List.count_nil] <;> omega)
  have hPc := z_takeP hpm hP
  have hDc := z_takeD hpm hD
  have hFc := z_free0 hDc hS hA
  refine z_callmi (wc := (zw_co tt kd y1)) (w1 := (zw_co tt kd y2.2)) (va_runV (As := []) (rest := [.ref (kx 0)]) ⟨hx, hb, hml, hown, hts⟩ (c_X2_addHolder l D tt kd _ y1 y2 gy2) (cwV 0 hts gX9_holder_X2_addHolder rfl rfl rfl (by decide +kernel) ⟨Nat.le_of_ble_eq_true rfl, Nat.le_of_ble_eq_true rfl⟩) (z_preVm hK hPc hDc (ci := 2) (q0 := 0) rfl rfl) rfl rfl hl.1 rfl (lv_room (Nat.le_of_ble_eq_true rfl)) dX9_holder_5 ⟨Nat.zero_le _, Nat.zero_le _⟩) hS hFc (fun H locs ny2 hP1 hD1 hk1 hS => ?_)
  have hpm2 : List.Perm (zw_x9 kx kv kd ke kt kr ++ zw_co tt kv bv ++ zw_co tt kd y2.2 ++ zw_hi tt kx bh ++ zw_ex tt ke be ++ zw_tx tt kt bt ++ zw_rh tt kr br) ((zw_co tt kd y2.2) ++ (zw_x9 kx kv kd ke kt kr ++ zw_co tt kv bv ++ zw_hi tt kx bh ++ zw_ex tt ke be ++ zw_tx tt kt bt ++ zw_rh tt kr br)) := z_pm (fun _ x => by simp only [List.count_append, List.count_nil] <;> omega)
  obtain ⟨hP, hD⟩ := z_joinB hpm hpm2 hP hD hk1 hFc hP1 hD1
  clear hpm hpm2
  have hP : va_P D vwCl (zw_x9 kx kv kd ke kt kr ++ zw_co tt kv bv ++ zw_co tt kd y2.2 ++ zw_hi tt kx bh ++ zw_ex tt ke be ++ zw_tx tt kt bt ++ zw_rh tt kr br) H := hP
  have hD : va_D A (zw_x9 kx kv kd ke kt kr ++ zw_co tt kv bv ++ zw_co tt kd y2.2 ++ zw_hi tt kx bh ++ zw_ex tt ke be ++ zw_tx tt kt bt ++ zw_rh tt kr br) := hD
  obtain ⟨y3, gy3, h⟩ := zb_some h
  have hFc := z_free0 hD hS hA
  refine z_callmi (wc := (zw_x9 kx kv kd ke kt kr ++ zw_co tt kv bv ++ zw_co tt kd y2.2 ++ zw_hi tt kx bh ++ zw_ex tt ke be ++ zw_tx tt kt bt ++ zw_rh tt kr br)) (w1 := (zw_x9 kx kv kd ke kt kr ++ zw_co tt kv y3.2.1 ++ zw_co tt kd y2.2 ++ zw_hi tt kx y3.2.2 ++ zw_ex tt ke be ++ zw_tx tt kt bt ++ zw_rh tt kr br)) (va_runV (As := [.int y2.1]) (rest := []) ⟨hx, hb, hml, hown, hts⟩ (c_X9_accepted l D tt kx kv kd ke kt kr _ bv y2.2 bh be bt br y2.1 y3 gy3) (cwV 1 hts gX9_holder_X9_accepted rfl rfl rfl (by decide +kernel) ⟨Nat.le_of_ble_eq_true rfl, Nat.le_of_ble_eq_true rfl⟩) (z_preVm hK hP hD (ci := 9) (q0 := 0) rfl rfl) rfl rfl hl.1 rfl (lv_room (Nat.le_of_ble_eq_true rfl)) dX9_holder_8 ⟨Nat.zero_le _, Nat.zero_le _⟩) hS hFc (fun H locs ny3 hP1 hD1 hk1 hS => ?_)
  have hP := hP1
  have hD := hD1.weaken (fun _ q _ h => hFc q.1 h)
  exact hfin _ _ _ _ _ _ _ _ h rfl hP hD hS dX9_holder_11
set_option maxHeartbeats 4000000 in
set_option maxRecDepth 100000 in
theorem c_X9_issue (l : Launch) (D : va_G) (tt : Nat → ClassId) (kx : Nat → Nat) (kv : Nat → Nat) (kd : Nat → Nat) (ke : Nat → Nat) (kt : Nat → Nat) (kr : Nat → Nat) (sz : Nat) (bv : zV) (bd : zV) (bh : zH) (be : zV) (bt : zV) (br : zV) (x1 : Int32) (x2 : Int32) (x3 : Int32) (out : Int32 × zV × zV × zH) (h : f_X9_issue bv bd bh be bt br x1 x2 x3 = some out) : Met l yX9_issue wsX9_issue { frames := 6, cells := 0, slots := 0, locals := 145 } (zPm [.ref (kx 0), .int x1, .int x2, .int x3] D tt (zw_x9 kx kv kd ke kt kr ++ zw_co tt kv bv ++ zw_co tt kd bd ++ zw_hi tt kx bh ++ zw_ex tt ke be ++ zw_tx tt kt bt ++ zw_rh tt kr br) sz) (zMi .int out.1 D (zw_x9 kx kv kd ke kt kr ++ zw_co tt kv out.2.1 ++ zw_co tt kd out.2.2.1 ++ zw_hi tt kx out.2.2.2 ++ zw_ex tt ke be ++ zw_tx tt kt bt ++ zw_rh tt kr br) (va_A (zw_x9 kx kv kd ke kt kr ++ zw_co tt kv bv ++ zw_co tt kd bd ++ zw_hi tt kx bh ++ zw_ex tt ke be ++ zw_tx tt kt bt ++ zw_rh tt kr br) sz)) 0 0 (va_A (zw_x9 kx kv kd ke kt kr ++ zw_co tt kv bv ++ zw_co tt kd bd ++ zw_hi tt kx bh ++ zw_ex tt ke be ++ zw_tx tt kt bt ++ zw_rh tt kr br) sz) := by
  refine Met.ofW (cc := cX9_issue) (maxL := 4) (ret := (some .int)) (by decide) rfl ?_
  intro p e s m args below meth c s₁ B hml hv
  obtain ⟨ha, hsz, hP, hK, hD0⟩ := hv
  have hx := B.exec
  have hb := B.bytes
  have hr := B.returns
  have hts := atoms_spec (ws := wsX9_issue) B.pre
  have hown : s.vm.findClass RX9 = some m.cls := findClass_of_methodNamed B.named
  have hlocks := B.notSynchronized
  subst hsz
  have hD := hD0.self (sz := s.heap.size)
  generalize hAe : va_A (zw_x9 kx kv kd ke kt kr ++ zw_co tt kv bv ++ zw_co tt kd bd ++ zw_hi tt kx bh ++ zw_ex tt ke be ++ zw_tx tt kt bt ++ zw_rh tt kr br) s.heap.size = A at hD ⊢
  have hA : ∀ q : Nat, s.heap.size ≤ q → A q := fun q h => by rw [← hAe]; exact Or.inr h
  have hS : va_S A s.heap s.heap [] := va_S.rf
  have hfin : ∀ (v : Int32) (bv : zV) (bd : zV) (bh : zH) (pc : Nat) (ls : Array Slot) (H : Heap) (locs : List Loc), some (v, bv, bd, bh) = some out → narrow .int (.int v) = .int v → va_P D vwCl (zw_x9 kx kv kd ke kt kr ++ zw_co tt kv bv ++ zw_co tt kd bd ++ zw_hi tt kx bh ++ zw_ex tt ke be ++ zw_tx tt kt bt ++ zw_rh tt kr br) H → va_D A (zw_x9 kx kv kd ke kt kr ++ zw_co tt kv bv ++ zw_co tt kd bd ++ zw_hi tt kx bh ++ zw_ex tt ke be ++ zw_tx tt kt bt ++ zw_rh tt kr br) → va_S A s.heap H locs → decode cX9_issue pc = .ok (.ireturn, 1) → W p l e (headSpec wsX9_issue { frames := 6, cells := 0, slots := 0, locals := 145 }).room s m args below meth c H locs 0 0 (MQ below (zMi .int out.1 D (zw_x9 kx kv kd ke kt kr ++ zw_co tt kv out.2.1 ++ zw_co tt kd out.2.2.1 ++ zw_hi tt kx out.2.2.2 ++ zw_ex tt ke be ++ zw_tx tt kt bt ++ zw_rh tt kr br) A) args s 0 0 A) (F0 m pc ls [.int v]) := by
    intro v bv bd bh pc ls H locs he hn hP hD hS hd
    cases he
    exact W.zret hx hb hr hn (fun t ht hW => ⟨⟨_, (), rfl, ⟨rfl, hn⟩, by rw [ht]; exact hP, hD⟩, hS.F ht⟩) hS.2.2 hd
  generalize MQ below (zMi .int out.1 D (zw_x9 kx kv kd ke kt kr ++ zw_co tt kv out.2.1 ++ zw_co tt kd out.2.2.1 ++ zw_hi tt kx out.2.2.2 ++ zw_ex tt ke be ++ zw_tx tt kt bt ++ zw_rh tt kr br) A) args s 0 0 A = Q at hfin ⊢
  have hl := lv_entry ([.ref (kx 0), .int x1, .int x2, .int x3]) (n := 4) (Nat.le_of_ble_eq_true rfl)
  refine W.eq (g2 := F0 m 0 ((lg_sl ([.ref (kx 0), .int x1, .int x2, .int x3]) ++ List.replicate (4 - (lg_sl ([.ref (kx 0), .int x1, .int x2, .int x3])).length) Slot.unset).toArray) []) (by rw [ha]; exact lg_entry_eq _ _ _) ?_
  generalize (lg_sl ([.ref (kx 0), .int x1, .int x2, .int x3]) ++ List.replicate (4 - (lg_sl ([.ref (kx 0), .int x1, .int x2, .int x3])).length) Slot.unset).toArray = ls at hl ⊢
  have hl : lv_has ls 4 [(0, .ref (kx 0)), (1, .int x1), (2, .int x2), (3, .int x3)] := hl
  rw [f_X9_issue] at h
  refine lv_aload_n hx hb dX9_issue_0 rfl (lv_at hl 0 rfl) ?_
  refine lv_aload_n hx hb dX9_issue_1 rfl (lv_at hl 0 rfl) ?_
  obtain ⟨y1, gy1, h⟩ := zb_some h
  have hFc := z_free0 hD hS hA
  refine z_callmr (q := kd 0) (wc := (zw_x9 kx kv kd ke kt kr ++ zw_co tt kv bv ++ zw_co tt kd bd ++ zw_hi tt kx bh ++ zw_ex tt ke be ++ zw_tx tt kt bt ++ zw_rh tt kr br)) (w1 := (zw_x9 kx kv kd ke kt kr ++ zw_co tt kv bv ++ zw_co tt kd y1 ++ zw_hi tt kx bh ++ zw_ex tt ke be ++ zw_tx tt kt bt ++ zw_rh tt kr br)) (va_runV (As := []) (rest := [.ref (kx 0)]) ⟨hx, hb, hml, hown, hts⟩ (c_X9_newDraft l D tt kx kv kd ke kt kr _ bv bd bh be bt br y1 gy1) (cwV 0 hts gX9_issue_X9_newDraft rfl rfl rfl (by decide +kernel) ⟨Nat.le_of_ble_eq_true rfl, Nat.le_of_ble_eq_true rfl⟩) (z_preVm hK hP hD (ci := 9) (q0 := 0) rfl rfl) rfl rfl hl.1 rfl (lv_room (Nat.le_of_ble_eq_true rfl)) dX9_issue_2 ⟨Nat.zero_le _, Nat.zero_le _⟩) hS hFc (fun H locs hP1 hD1 hk1 hS => ?_)
  have hP := hP1
  have hD := hD1.weaken (fun _ q _ h => hFc q.1 h)
  refine lv_iload_n hx hb dX9_issue_5 rfl (lv_at hl 1 rfl) ?_
  refine lv_iload_n hx hb dX9_issue_6 rfl (lv_at hl 2 rfl) ?_
  refine lv_iload_n hx hb dX9_issue_7 rfl (lv_at hl 3 rfl) ?_
  obtain ⟨y2, gy2, h⟩ := zb_some h
  have hpm : List.Perm (zw_x9 kx kv kd ke kt kr ++ zw_co tt kv bv ++ zw_co tt kd y1 ++ zw_hi tt kx bh ++ zw_ex tt ke be ++ zw_tx tt kt bt ++ zw_rh tt kr br) ((zw_co tt kd y1) ++ (zw_x9 kx kv kd ke kt kr ++ zw_co tt kv bv ++ zw_hi tt kx bh ++ zw_ex tt ke be ++ zw_tx tt kt bt ++ zw_rh tt kr br)) := z_pm (fun _ x => by simp only [List.count_append, List.count_nil] <;> omega)
  have hPc := z_takeP hpm hP
  have hDc := z_takeD hpm hD
  have hFc := z_free0 hDc hS hA
  refine z_callmi (wc := (zw_co tt kd y1)) (w1 := (zw_co tt kd y2.2)) (va_runV (As := [.int x1, .int x2, .int x3]) (rest := [.ref (kx 0)]) ⟨hx, hb, hml, hown, hts⟩ (c_X2_issueShares l D tt kd _ y1 x1 x2 x3 y2 gy2) (cwV 3 hts gX9_issue_X2_issueShares rfl rfl rfl (by decide +kernel) ⟨Nat.le_of_ble_eq_true rfl, Nat.le_of_ble_eq_true rfl⟩) (z_preVm hK hPc hDc (ci := 2) (q0 := 0) rfl rfl) rfl rfl hl.1 rfl (lv_room (Nat.le_of_ble_eq_true rfl)) dX9_issue_8 ⟨Nat.zero_le _, Nat.zero_le _⟩) hS hFc (fun H locs ny2 hP1 hD1 hk1 hS => ?_)
  have hpm2 : List.Perm (zw_x9 kx kv kd ke kt kr ++ zw_co tt kv bv ++ zw_co tt kd y2.2 ++ zw_hi tt kx bh ++ zw_ex tt ke be ++ zw_tx tt kt bt ++ zw_rh tt kr br) ((zw_co tt kd y2.2) ++ (zw_x9 kx kv kd ke kt kr ++ zw_co tt kv bv ++ zw_hi tt kx bh ++ zw_ex tt ke be ++ zw_tx tt kt bt ++ zw_rh tt kr br)) := z_pm (fun _ x => by simp only [List.count_append, List.count_nil] <;> omega)
  obtain ⟨hP, hD⟩ := z_joinB hpm hpm2 hP hD hk1 hFc hP1 hD1
  clear hpm hpm2
  have hP : va_P D vwCl (zw_x9 kx kv kd ke kt kr ++ zw_co tt kv bv ++ zw_co tt kd y2.2 ++ zw_hi tt kx bh ++ zw_ex tt ke be ++ zw_tx tt kt bt ++ zw_rh tt kr br) H := hP
  have hD : va_D A (zw_x9 kx kv kd ke kt kr ++ zw_co tt kv bv ++ zw_co tt kd y2.2 ++ zw_hi tt kx bh ++ zw_ex tt ke be ++ zw_tx tt kt bt ++ zw_rh tt kr br) := hD
  obtain ⟨y3, gy3, h⟩ := zb_some h
  have hFc := z_free0 hD hS hA
  refine z_callmi (wc := (zw_x9 kx kv kd ke kt kr ++ zw_co tt kv bv ++ zw_co tt kd y2.2 ++ zw_hi tt kx bh ++ zw_ex tt ke be ++ zw_tx tt kt bt ++ zw_rh tt kr br)) (w1 := (zw_x9 kx kv kd ke kt kr ++ zw_co tt kv y3.2.1 ++ zw_co tt kd y2.2 ++ zw_hi tt kx y3.2.2 ++ zw_ex tt ke be ++ zw_tx tt kt bt ++ zw_rh tt kr br)) (va_runV (As := [.int y2.1]) (rest := []) ⟨hx, hb, hml, hown, hts⟩ (c_X9_accepted l D tt kx kv kd ke kt kr _ bv y2.2 bh be bt br y2.1 y3 gy3) (cwV 1 hts gX9_issue_X9_accepted rfl rfl rfl (by decide +kernel) ⟨Nat.le_of_ble_eq_true rfl, Nat.le_of_ble_eq_true rfl⟩) (z_preVm hK hP hD (ci := 9) (q0 := 0) rfl rfl) rfl rfl hl.1 rfl (lv_room (Nat.le_of_ble_eq_true rfl)) dX9_issue_11 ⟨Nat.zero_le _, Nat.zero_le _⟩) hS hFc (fun H locs ny3 hP1 hD1 hk1 hS => ?_)
  have hP := hP1
  have hD := hD1.weaken (fun _ q _ h => hFc q.1 h)
  exact hfin _ _ _ _ _ _ _ _ h rfl hP hD hS dX9_issue_14
set_option maxHeartbeats 4000000 in
set_option maxRecDepth 100000 in
theorem c_X9_split (l : Launch) (D : va_G) (tt : Nat → ClassId) (kx : Nat → Nat) (kv : Nat → Nat) (kd : Nat → Nat) (ke : Nat → Nat) (kt : Nat → Nat) (kr : Nat → Nat) (sz : Nat) (bv : zV) (bd : zV) (bh : zH) (be : zV) (bt : zV) (br : zV) (x1 : Int32) (x2 : Int32) (x3 : Int32) (out : Int32 × zV × zV × zH) (h : f_X9_split bv bd bh be bt br x1 x2 x3 = some out) : Met l yX9_split wsX9_split { frames := 6, cells := 0, slots := 0, locals := 145 } (zPm [.ref (kx 0), .int x1, .int x2, .int x3] D tt (zw_x9 kx kv kd ke kt kr ++ zw_co tt kv bv ++ zw_co tt kd bd ++ zw_hi tt kx bh ++ zw_ex tt ke be ++ zw_tx tt kt bt ++ zw_rh tt kr br) sz) (zMi .int out.1 D (zw_x9 kx kv kd ke kt kr ++ zw_co tt kv out.2.1 ++ zw_co tt kd out.2.2.1 ++ zw_hi tt kx out.2.2.2 ++ zw_ex tt ke be ++ zw_tx tt kt bt ++ zw_rh tt kr br) (va_A (zw_x9 kx kv kd ke kt kr ++ zw_co tt kv bv ++ zw_co tt kd bd ++ zw_hi tt kx bh ++ zw_ex tt ke be ++ zw_tx tt kt bt ++ zw_rh tt kr br) sz)) 0 0 (va_A (zw_x9 kx kv kd ke kt kr ++ zw_co tt kv bv ++ zw_co tt kd bd ++ zw_hi tt kx bh ++ zw_ex tt ke be ++ zw_tx tt kt bt ++ zw_rh tt kr br) sz) := by
  refine Met.ofW (cc := cX9_split) (maxL := 4) (ret := (some .int)) (by decide) rfl ?_
  intro p e s m args below meth c s₁ B hml hv
  obtain ⟨ha, hsz, hP, hK, hD0⟩ := hv
  have hx := B.exec
  have hb := B.bytes
  have hr := B.returns
  have hts := atoms_spec (ws := wsX9_split) B.pre
  have hown : s.vm.findClass RX9 = some m.cls := findClass_of_methodNamed B.named
  have hlocks := B.notSynchronized
  subst hsz
  have hD := hD0.self (sz := s.heap.size)
  generalize hAe : va_A (zw_x9 kx kv kd ke kt kr ++ zw_co tt kv bv ++ zw_co tt kd bd ++ zw_hi tt kx bh ++ zw_ex tt ke be ++ zw_tx tt kt bt ++ zw_rh tt kr br) s.heap.size = A at hD ⊢
  have hA : ∀ q : Nat, s.heap.size ≤ q → A q := fun q h => by rw [← hAe]; exact Or.inr h
  have hS : va_S A s.heap s.heap [] := va_S.rf
  have hfin : ∀ (v : Int32) (bv : zV) (bd : zV) (bh : zH) (pc : Nat) (ls : Array Slot) (H : Heap) (locs : List Loc), some (v, bv, bd, bh) = some out → narrow .int (.int v) = .int v → va_P D vwCl (zw_x9 kx kv kd ke kt kr ++ zw_co tt kv bv ++ zw_co tt kd bd ++ zw_hi tt kx bh ++ zw_ex tt ke be ++ zw_tx tt kt bt ++ zw_rh tt kr br) H → va_D A (zw_x9 kx kv kd ke kt kr ++ zw_co tt kv bv ++ zw_co tt kd bd ++ zw_hi tt kx bh ++ zw_ex tt ke be ++ zw_tx tt kt bt ++ zw_rh tt kr br) → va_S A s.heap H locs → decode cX9_split pc = .ok (.ireturn, 1) → W p l e (headSpec wsX9_split { frames := 6, cells := 0, slots := 0, locals := 145 }).room s m args below meth c H locs 0 0 (MQ below (zMi .int out.1 D (zw_x9 kx kv kd ke kt kr ++ zw_co tt kv out.2.1 ++ zw_co tt kd out.2.2.1 ++ zw_hi tt kx out.2.2.2 ++ zw_ex tt ke be ++ zw_tx tt kt bt ++ zw_rh tt kr br) A) args s 0 0 A) (F0 m pc ls [.int v]) := by
    intro v bv bd bh pc ls H locs he hn hP hD hS hd
    cases he
    exact W.zret hx hb hr hn (fun t ht hW => ⟨⟨_, (), rfl, ⟨rfl, hn⟩, by rw [ht]; exact hP, hD⟩, hS.F ht⟩) hS.2.2 hd
  generalize MQ below (zMi .int out.1 D (zw_x9 kx kv kd ke kt kr ++ zw_co tt kv out.2.1 ++ zw_co tt kd out.2.2.1 ++ zw_hi tt kx out.2.2.2 ++ zw_ex tt ke be ++ zw_tx tt kt bt ++ zw_rh tt kr br) A) args s 0 0 A = Q at hfin ⊢
  have hl := lv_entry ([.ref (kx 0), .int x1, .int x2, .int x3]) (n := 4) (Nat.le_of_ble_eq_true rfl)
  refine W.eq (g2 := F0 m 0 ((lg_sl ([.ref (kx 0), .int x1, .int x2, .int x3]) ++ List.replicate (4 - (lg_sl ([.ref (kx 0), .int x1, .int x2, .int x3])).length) Slot.unset).toArray) []) (by rw [ha]; exact lg_entry_eq _ _ _) ?_
  generalize (lg_sl ([.ref (kx 0), .int x1, .int x2, .int x3]) ++ List.replicate (4 - (lg_sl ([.ref (kx 0), .int x1, .int x2, .int x3])).length) Slot.unset).toArray = ls at hl ⊢
  have hl : lv_has ls 4 [(0, .ref (kx 0)), (1, .int x1), (2, .int x2), (3, .int x3)] := hl
  rw [f_X9_split] at h
  refine lv_aload_n hx hb dX9_split_0 rfl (lv_at hl 0 rfl) ?_
  refine lv_aload_n hx hb dX9_split_1 rfl (lv_at hl 0 rfl) ?_
  obtain ⟨y1, gy1, h⟩ := zb_some h
  have hFc := z_free0 hD hS hA
  refine z_callmr (q := kd 0) (wc := (zw_x9 kx kv kd ke kt kr ++ zw_co tt kv bv ++ zw_co tt kd bd ++ zw_hi tt kx bh ++ zw_ex tt ke be ++ zw_tx tt kt bt ++ zw_rh tt kr br)) (w1 := (zw_x9 kx kv kd ke kt kr ++ zw_co tt kv bv ++ zw_co tt kd y1 ++ zw_hi tt kx bh ++ zw_ex tt ke be ++ zw_tx tt kt bt ++ zw_rh tt kr br)) (va_runV (As := []) (rest := [.ref (kx 0)]) ⟨hx, hb, hml, hown, hts⟩ (c_X9_newDraft l D tt kx kv kd ke kt kr _ bv bd bh be bt br y1 gy1) (cwV 0 hts gX9_split_X9_newDraft rfl rfl rfl (by decide +kernel) ⟨Nat.le_of_ble_eq_true rfl, Nat.le_of_ble_eq_true rfl⟩) (z_preVm hK hP hD (ci := 9) (q0 := 0) rfl rfl) rfl rfl hl.1 rfl (lv_room (Nat.le_of_ble_eq_true rfl)) dX9_split_2 ⟨Nat.zero_le _, Nat.zero_le _⟩) hS hFc (fun H locs hP1 hD1 hk1 hS => ?_)
  have hP := hP1
  have hD := hD1.weaken (fun _ q _ h => hFc q.1 h)
  refine lv_iload_n hx hb dX9_split_5 rfl (lv_at hl 1 rfl) ?_
  refine lv_iload_n hx hb dX9_split_6 rfl (lv_at hl 2 rfl) ?_
  refine lv_iload_n hx hb dX9_split_7 rfl (lv_at hl 3 rfl) ?_
  obtain ⟨y2, gy2, h⟩ := zb_some h
  have hpm : List.Perm (zw_x9 kx kv kd ke kt kr ++ zw_co tt kv bv ++ zw_co tt kd y1 ++ zw_hi tt kx bh ++ zw_ex tt ke be ++ zw_tx tt kt bt ++ zw_rh tt kr br) ((zw_co tt kd y1) ++ (zw_x9 kx kv kd ke kt kr ++ zw_co tt kv bv ++ zw_hi tt kx bh ++ zw_ex tt ke be ++ zw_tx tt kt bt ++ zw_rh tt kr br)) := z_pm (fun _ x => by simp only [List.count_append, List.count_nil] <;> omega)
  have hPc := z_takeP hpm hP
  have hDc := z_takeD hpm hD
  have hFc := z_free0 hDc hS hA
  refine z_callmi (wc := (zw_co tt kd y1)) (w1 := (zw_co tt kd y2.2)) (va_runV (As := [.int x1, .int x2, .int x3]) (rest := [.ref (kx 0)]) ⟨hx, hb, hml, hown, hts⟩ (c_X2_splitCertificate l D tt kd _ y1 x1 x2 x3 y2 gy2) (cwV 3 hts gX9_split_X2_splitCertificate rfl rfl rfl (by decide +kernel) ⟨Nat.le_of_ble_eq_true rfl, Nat.le_of_ble_eq_true rfl⟩) (z_preVm hK hPc hDc (ci := 2) (q0 := 0) rfl rfl) rfl rfl hl.1 rfl (lv_room (Nat.le_of_ble_eq_true rfl)) dX9_split_8 ⟨Nat.zero_le _, Nat.zero_le _⟩) hS hFc (fun H locs ny2 hP1 hD1 hk1 hS => ?_)
  have hpm2 : List.Perm (zw_x9 kx kv kd ke kt kr ++ zw_co tt kv bv ++ zw_co tt kd y2.2 ++ zw_hi tt kx bh ++ zw_ex tt ke be ++ zw_tx tt kt bt ++ zw_rh tt kr br) ((zw_co tt kd y2.2) ++ (zw_x9 kx kv kd ke kt kr ++ zw_co tt kv bv ++ zw_hi tt kx bh ++ zw_ex tt ke be ++ zw_tx tt kt bt ++ zw_rh tt kr br)) := z_pm (fun _ x => by simp only [List.count_append, List.count_nil] <;> omega)
  obtain ⟨hP, hD⟩ := z_joinB hpm hpm2 hP hD hk1 hFc hP1 hD1
  clear hpm hpm2
  have hP : va_P D vwCl (zw_x9 kx kv kd ke kt kr ++ zw_co tt kv bv ++ zw_co tt kd y2.2 ++ zw_hi tt kx bh ++ zw_ex tt ke be ++ zw_tx tt kt bt ++ zw_rh tt kr br) H := hP
  have hD : va_D A (zw_x9 kx kv kd ke kt kr ++ zw_co tt kv bv ++ zw_co tt kd y2.2 ++ zw_hi tt kx bh ++ zw_ex tt ke be ++ zw_tx tt kt bt ++ zw_rh tt kr br) := hD
  obtain ⟨y3, gy3, h⟩ := zb_some h
  have hFc := z_free0 hD hS hA
  refine z_callmi (wc := (zw_x9 kx kv kd ke kt kr ++ zw_co tt kv bv ++ zw_co tt kd y2.2 ++ zw_hi tt kx bh ++ zw_ex tt ke be ++ zw_tx tt kt bt ++ zw_rh tt kr br)) (w1 := (zw_x9 kx kv kd ke kt kr ++ zw_co tt kv y3.2.1 ++ zw_co tt kd y2.2 ++ zw_hi tt kx y3.2.2 ++ zw_ex tt ke be ++ zw_tx tt kt bt ++ zw_rh tt kr br)) (va_runV (As := [.int y2.1]) (rest := []) ⟨hx, hb, hml, hown, hts⟩ (c_X9_accepted l D tt kx kv kd ke kt kr _ bv y2.2 bh be bt br y2.1 y3 gy3) (cwV 1 hts gX9_split_X9_accepted rfl rfl rfl (by decide +kernel) ⟨Nat.le_of_ble_eq_true rfl, Nat.le_of_ble_eq_true rfl⟩) (z_preVm hK hP hD (ci := 9) (q0 := 0) rfl rfl) rfl rfl hl.1 rfl (lv_room (Nat.le_of_ble_eq_true rfl)) dX9_split_11 ⟨Nat.zero_le _, Nat.zero_le _⟩) hS hFc (fun H locs ny3 hP1 hD1 hk1 hS => ?_)
  have hP := hP1
  have hD := hD1.weaken (fun _ q _ h => hFc q.1 h)
  exact hfin _ _ _ _ _ _ _ _ h rfl hP hD hS dX9_split_14
set_option maxHeartbeats 4000000 in
set_option maxRecDepth 100000 in
theorem c_X9_buyBack (l : Launch) (D : va_G) (tt : Nat → ClassId) (kx : Nat → Nat) (kv : Nat → Nat) (kd : Nat → Nat) (ke : Nat → Nat) (kt : Nat → Nat) (kr : Nat → Nat) (sz : Nat) (bv : zV) (bd : zV) (bh : zH) (be : zV) (bt : zV) (br : zV) (x1 : Int32) (x2 : Int32) (out : Int32 × zV × zV × zH) (h : f_X9_buyBack bv bd bh be bt br x1 x2 = some out) : Met l yX9_buyBack wsX9_buyBack { frames := 6, cells := 0, slots := 0, locals := 145 } (zPm [.ref (kx 0), .int x1, .int x2] D tt (zw_x9 kx kv kd ke kt kr ++ zw_co tt kv bv ++ zw_co tt kd bd ++ zw_hi tt kx bh ++ zw_ex tt ke be ++ zw_tx tt kt bt ++ zw_rh tt kr br) sz) (zMi .int out.1 D (zw_x9 kx kv kd ke kt kr ++ zw_co tt kv out.2.1 ++ zw_co tt kd out.2.2.1 ++ zw_hi tt kx out.2.2.2 ++ zw_ex tt ke be ++ zw_tx tt kt bt ++ zw_rh tt kr br) (va_A (zw_x9 kx kv kd ke kt kr ++ zw_co tt kv bv ++ zw_co tt kd bd ++ zw_hi tt kx bh ++ zw_ex tt ke be ++ zw_tx tt kt bt ++ zw_rh tt kr br) sz)) 0 0 (va_A (zw_x9 kx kv kd ke kt kr ++ zw_co tt kv bv ++ zw_co tt kd bd ++ zw_hi tt kx bh ++ zw_ex tt ke be ++ zw_tx tt kt bt ++ zw_rh tt kr br) sz) := by
  refine Met.ofW (cc := cX9_buyBack) (maxL := 3) (ret := (some .int)) (by decide) rfl ?_
  intro p e s m args below meth c s₁ B hml hv
  obtain ⟨ha, hsz, hP, hK, hD0⟩ := hv
  have hx := B.exec
  have hb := B.bytes
  have hr := B.returns
  have hts := atoms_spec (ws := wsX9_buyBack) B.pre
  have hown : s.vm.findClass RX9 = some m.cls := findClass_of_methodNamed B.named
  have hlocks := B.notSynchronized
  subst hsz
  have hD := hD0.self (sz := s.heap.size)
  generalize hAe : va_A (zw_x9 kx kv kd ke kt kr ++ zw_co tt kv bv ++ zw_co tt kd bd ++ zw_hi tt kx bh ++ zw_ex tt ke be ++ zw_tx tt kt bt ++ zw_rh tt kr br) s.heap.size = A at hD ⊢
  have hA : ∀ q : Nat, s.heap.size ≤ q → A q := fun q h => by rw [← hAe]; exact Or.inr h
  have hS : va_S A s.heap s.heap [] := va_S.rf
  have hfin : ∀ (v : Int32) (bv : zV) (bd : zV) (bh : zH) (pc : Nat) (ls : Array Slot) (H : Heap) (locs : List Loc), some (v, bv, bd, bh) = some out → narrow .int (.int v) = .int v → va_P D vwCl (zw_x9 kx kv kd ke kt kr ++ zw_co tt kv bv ++ zw_co tt kd bd ++ zw_hi tt kx bh ++ zw_ex tt ke be ++ zw_tx tt kt bt ++ zw_rh tt kr br) H → va_D A (zw_x9 kx kv kd ke kt kr ++ zw_co tt kv bv ++ zw_co tt kd bd ++ zw_hi tt kx bh ++ zw_ex tt ke be ++ zw_tx tt kt bt ++ zw_rh tt kr br) → va_S A s.heap H locs → decode cX9_buyBack pc = .ok (.ireturn, 1) → W p l e (headSpec wsX9_buyBack { frames := 6, cells := 0, slots := 0, locals := 145 }).room s m args below meth c H locs 0 0 (MQ below (zMi .int out.1 D (zw_x9 kx kv kd ke kt kr ++ zw_co tt kv out.2.1 ++ zw_co tt kd out.2.2.1 ++ zw_hi tt kx out.2.2.2 ++ zw_ex tt ke be ++ zw_tx tt kt bt ++ zw_rh tt kr br) A) args s 0 0 A) (F0 m pc ls [.int v]) := by
    intro v bv bd bh pc ls H locs he hn hP hD hS hd
    cases he
    exact W.zret hx hb hr hn (fun t ht hW => ⟨⟨_, (), rfl, ⟨rfl, hn⟩, by rw [ht]; exact hP, hD⟩, hS.F ht⟩) hS.2.2 hd
  generalize MQ below (zMi .int out.1 D (zw_x9 kx kv kd ke kt kr ++ zw_co tt kv out.2.1 ++ zw_co tt kd out.2.2.1 ++ zw_hi tt kx out.2.2.2 ++ zw_ex tt ke be ++ zw_tx tt kt bt ++ zw_rh tt kr br) A) args s 0 0 A = Q at hfin ⊢
  have hl := lv_entry ([.ref (kx 0), .int x1, .int x2]) (n := 3) (Nat.le_of_ble_eq_true rfl)
  refine W.eq (g2 := F0 m 0 ((lg_sl ([.ref (kx 0), .int x1, .int x2]) ++ List.replicate (3 - (lg_sl ([.ref (kx 0), .int x1, .int x2])).length) Slot.unset).toArray) []) (by rw [ha]; exact lg_entry_eq _ _ _) ?_
  generalize (lg_sl ([.ref (kx 0), .int x1, .int x2]) ++ List.replicate (3 - (lg_sl ([.ref (kx 0), .int x1, .int x2])).length) Slot.unset).toArray = ls at hl ⊢
  have hl : lv_has ls 3 [(0, .ref (kx 0)), (1, .int x1), (2, .int x2)] := hl
  rw [f_X9_buyBack] at h
  refine lv_aload_n hx hb dX9_buyBack_0 rfl (lv_at hl 0 rfl) ?_
  refine lv_aload_n hx hb dX9_buyBack_1 rfl (lv_at hl 0 rfl) ?_
  obtain ⟨y1, gy1, h⟩ := zb_some h
  have hFc := z_free0 hD hS hA
  refine z_callmr (q := kd 0) (wc := (zw_x9 kx kv kd ke kt kr ++ zw_co tt kv bv ++ zw_co tt kd bd ++ zw_hi tt kx bh ++ zw_ex tt ke be ++ zw_tx tt kt bt ++ zw_rh tt kr br)) (w1 := (zw_x9 kx kv kd ke kt kr ++ zw_co tt kv bv ++ zw_co tt kd y1 ++ zw_hi tt kx bh ++ zw_ex tt ke be ++ zw_tx tt kt bt ++ zw_rh tt kr br)) (va_runV (As := []) (rest := [.ref (kx 0)]) ⟨hx, hb, hml, hown, hts⟩ (c_X9_newDraft l D tt kx kv kd ke kt kr _ bv bd bh be bt br y1 gy1) (cwV 0 hts gX9_buyBack_X9_newDraft rfl rfl rfl (by decide +kernel) ⟨Nat.le_of_ble_eq_true rfl, Nat.le_of_ble_eq_true rfl⟩) (z_preVm hK hP hD (ci := 9) (q0 := 0) rfl rfl) rfl rfl hl.1 rfl (lv_room (Nat.le_of_ble_eq_true rfl)) dX9_buyBack_2 ⟨Nat.zero_le _, Nat.zero_le _⟩) hS hFc (fun H locs hP1 hD1 hk1 hS => ?_)
  have hP := hP1
  have hD := hD1.weaken (fun _ q _ h => hFc q.1 h)
  refine lv_iload_n hx hb dX9_buyBack_5 rfl (lv_at hl 1 rfl) ?_
  refine lv_iload_n hx hb dX9_buyBack_6 rfl (lv_at hl 2 rfl) ?_
  obtain ⟨y2, gy2, h⟩ := zb_some h
  have hpm : List.Perm (zw_x9 kx kv kd ke kt kr ++ zw_co tt kv bv ++ zw_co tt kd y1 ++ zw_hi tt kx bh ++ zw_ex tt ke be ++ zw_tx tt kt bt ++ zw_rh tt kr br) ((zw_co tt kd y1) ++ (zw_x9 kx kv kd ke kt kr ++ zw_co tt kv bv ++ zw_hi tt kx bh ++ zw_ex tt ke be ++ zw_tx tt kt bt ++ zw_rh tt kr br)) := z_pm (fun _ x => by simp only [List.count_append, List.count_nil] <;> omega)
  have hPc := z_takeP hpm hP
  have hDc := z_takeD hpm hD
  have hFc := z_free0 hDc hS hA
  refine z_callmi (wc := (zw_co tt kd y1)) (w1 := (zw_co tt kd y2.2)) (va_runV (As := [.int x1, .int x2]) (rest := [.ref (kx 0)]) ⟨hx, hb, hml, hown, hts⟩ (c_X2_buySharesBack l D tt kd _ y1 x1 x2 y2 gy2) (cwV 2 hts gX9_buyBack_X2_buySharesBack rfl rfl rfl (by decide +kernel) ⟨Nat.le_of_ble_eq_true rfl, Nat.le_of_ble_eq_true rfl⟩) (z_preVm hK hPc hDc (ci := 2) (q0 := 0) rfl rfl) rfl rfl hl.1 rfl (lv_room (Nat.le_of_ble_eq_true rfl)) dX9_buyBack_7 ⟨Nat.zero_le _, Nat.zero_le _⟩) hS hFc (fun H locs ny2 hP1 hD1 hk1 hS => ?_)
  have hpm2 : List.Perm (zw_x9 kx kv kd ke kt kr ++ zw_co tt kv bv ++ zw_co tt kd y2.2 ++ zw_hi tt kx bh ++ zw_ex tt ke be ++ zw_tx tt kt bt ++ zw_rh tt kr br) ((zw_co tt kd y2.2) ++ (zw_x9 kx kv kd ke kt kr ++ zw_co tt kv bv ++ zw_hi tt kx bh ++ zw_ex tt ke be ++ zw_tx tt kt bt ++ zw_rh tt kr br)) := z_pm (fun _ x => by simp only [List.count_append, List.count_nil] <;> omega)
  obtain ⟨hP, hD⟩ := z_joinB hpm hpm2 hP hD hk1 hFc hP1 hD1
  clear hpm hpm2
  have hP : va_P D vwCl (zw_x9 kx kv kd ke kt kr ++ zw_co tt kv bv ++ zw_co tt kd y2.2 ++ zw_hi tt kx bh ++ zw_ex tt ke be ++ zw_tx tt kt bt ++ zw_rh tt kr br) H := hP
  have hD : va_D A (zw_x9 kx kv kd ke kt kr ++ zw_co tt kv bv ++ zw_co tt kd y2.2 ++ zw_hi tt kx bh ++ zw_ex tt ke be ++ zw_tx tt kt bt ++ zw_rh tt kr br) := hD
  obtain ⟨y3, gy3, h⟩ := zb_some h
  have hFc := z_free0 hD hS hA
  refine z_callmi (wc := (zw_x9 kx kv kd ke kt kr ++ zw_co tt kv bv ++ zw_co tt kd y2.2 ++ zw_hi tt kx bh ++ zw_ex tt ke be ++ zw_tx tt kt bt ++ zw_rh tt kr br)) (w1 := (zw_x9 kx kv kd ke kt kr ++ zw_co tt kv y3.2.1 ++ zw_co tt kd y2.2 ++ zw_hi tt kx y3.2.2 ++ zw_ex tt ke be ++ zw_tx tt kt bt ++ zw_rh tt kr br)) (va_runV (As := [.int y2.1]) (rest := []) ⟨hx, hb, hml, hown, hts⟩ (c_X9_accepted l D tt kx kv kd ke kt kr _ bv y2.2 bh be bt br y2.1 y3 gy3) (cwV 1 hts gX9_buyBack_X9_accepted rfl rfl rfl (by decide +kernel) ⟨Nat.le_of_ble_eq_true rfl, Nat.le_of_ble_eq_true rfl⟩) (z_preVm hK hP hD (ci := 9) (q0 := 0) rfl rfl) rfl rfl hl.1 rfl (lv_room (Nat.le_of_ble_eq_true rfl)) dX9_buyBack_10 ⟨Nat.zero_le _, Nat.zero_le _⟩) hS hFc (fun H locs ny3 hP1 hD1 hk1 hS => ?_)
  have hP := hP1
  have hD := hD1.weaken (fun _ q _ h => hFc q.1 h)
  exact hfin _ _ _ _ _ _ _ _ h rfl hP hD hS dX9_buyBack_13
set_option maxHeartbeats 4000000 in
set_option maxRecDepth 100000 in
theorem c_X9_grant (l : Launch) (D : va_G) (tt : Nat → ClassId) (kx : Nat → Nat) (kv : Nat → Nat) (kd : Nat → Nat) (ke : Nat → Nat) (kt : Nat → Nat) (kr : Nat → Nat) (sz : Nat) (bv : zV) (bd : zV) (bh : zH) (be : zV) (bt : zV) (br : zV) (x1 : Int32) (x2 : Int32) (x3 : Int32) (x4 : Int32) (x5 : Int32) (out : Int32 × zV × zV × zH) (h : f_X9_grant bv bd bh be bt br x1 x2 x3 x4 x5 = some out) : Met l yX9_grant wsX9_grant { frames := 6, cells := 0, slots := 0, locals := 145 } (zPm [.ref (kx 0), .int x1, .int x2, .int x3, .int x4, .int x5] D tt (zw_x9 kx kv kd ke kt kr ++ zw_co tt kv bv ++ zw_co tt kd bd ++ zw_hi tt kx bh ++ zw_ex tt ke be ++ zw_tx tt kt bt ++ zw_rh tt kr br) sz) (zMi .int out.1 D (zw_x9 kx kv kd ke kt kr ++ zw_co tt kv out.2.1 ++ zw_co tt kd out.2.2.1 ++ zw_hi tt kx out.2.2.2 ++ zw_ex tt ke be ++ zw_tx tt kt bt ++ zw_rh tt kr br) (va_A (zw_x9 kx kv kd ke kt kr ++ zw_co tt kv bv ++ zw_co tt kd bd ++ zw_hi tt kx bh ++ zw_ex tt ke be ++ zw_tx tt kt bt ++ zw_rh tt kr br) sz)) 0 0 (va_A (zw_x9 kx kv kd ke kt kr ++ zw_co tt kv bv ++ zw_co tt kd bd ++ zw_hi tt kx bh ++ zw_ex tt ke be ++ zw_tx tt kt bt ++ zw_rh tt kr br) sz) := by
  refine Met.ofW (cc := cX9_grant) (maxL := 6) (ret := (some .int)) (by decide) rfl ?_
  intro p e s m args below meth c s₁ B hml hv
  obtain ⟨ha, hsz, hP, hK, hD0⟩ := hv
  have hx := B.exec
  have hb := B.bytes
  have hr := B.returns
  have hts := atoms_spec (ws := wsX9_grant) B.pre
  have hown : s.vm.findClass RX9 = some m.cls := findClass_of_methodNamed B.named
  have hlocks := B.notSynchronized
  subst hsz
  have hD := hD0.self (sz := s.heap.size)
  generalize hAe : va_A (zw_x9 kx kv kd ke kt kr ++ zw_co tt kv bv ++ zw_co tt kd bd ++ zw_hi tt kx bh ++ zw_ex tt ke be ++ zw_tx tt kt bt ++ zw_rh tt kr br) s.heap.size = A at hD ⊢
  have hA : ∀ q : Nat, s.heap.size ≤ q → A q := fun q h => by rw [← hAe]; exact Or.inr h
  have hS : va_S A s.heap s.heap [] := va_S.rf
  have hfin : ∀ (v : Int32) (bv : zV) (bd : zV) (bh : zH) (pc : Nat) (ls : Array Slot) (H : Heap) (locs : List Loc), some (v, bv, bd, bh) = some out → narrow .int (.int v) = .int v → va_P D vwCl (zw_x9 kx kv kd ke kt kr ++ zw_co tt kv bv ++ zw_co tt kd bd ++ zw_hi tt kx bh ++ zw_ex tt ke be ++ zw_tx tt kt bt ++ zw_rh tt kr br) H → va_D A (zw_x9 kx kv kd ke kt kr ++ zw_co tt kv bv ++ zw_co tt kd bd ++ zw_hi tt kx bh ++ zw_ex tt ke be ++ zw_tx tt kt bt ++ zw_rh tt kr br) → va_S A s.heap H locs → decode cX9_grant pc = .ok (.ireturn, 1) → W p l e (headSpec wsX9_grant { frames := 6, cells := 0, slots := 0, locals := 145 }).room s m args below meth c H locs 0 0 (MQ below (zMi .int out.1 D (zw_x9 kx kv kd ke kt kr ++ zw_co tt kv out.2.1 ++ zw_co tt kd out.2.2.1 ++ zw_hi tt kx out.2.2.2 ++ zw_ex tt ke be ++ zw_tx tt kt bt ++ zw_rh tt kr br) A) args s 0 0 A) (F0 m pc ls [.int v]) := by
    intro v bv bd bh pc ls H locs he hn hP hD hS hd
    cases he
    exact W.zret hx hb hr hn (fun t ht hW => ⟨⟨_, (), rfl, ⟨rfl, hn⟩, by rw [ht]; exact hP, hD⟩, hS.F ht⟩) hS.2.2 hd
  generalize MQ below (zMi .int out.1 D (zw_x9 kx kv kd ke kt kr ++ zw_co tt kv out.2.1 ++ zw_co tt kd out.2.2.1 ++ zw_hi tt kx out.2.2.2 ++ zw_ex tt ke be ++ zw_tx tt kt bt ++ zw_rh tt kr br) A) args s 0 0 A = Q at hfin ⊢
  have hl := lv_entry ([.ref (kx 0), .int x1, .int x2, .int x3, .int x4, .int x5]) (n := 6) (Nat.le_of_ble_eq_true rfl)
  refine W.eq (g2 := F0 m 0 ((lg_sl ([.ref (kx 0), .int x1, .int x2, .int x3, .int x4, .int x5]) ++ List.replicate (6 - (lg_sl ([.ref (kx 0), .int x1, .int x2, .int x3, .int x4, .int x5])).length) Slot.unset).toArray) []) (by rw [ha]; exact lg_entry_eq _ _ _) ?_
  generalize (lg_sl ([.ref (kx 0), .int x1, .int x2, .int x3, .int x4, .int x5]) ++ List.replicate (6 - (lg_sl ([.ref (kx 0), .int x1, .int x2, .int x3, .int x4, .int x5])).length) Slot.unset).toArray = ls at hl ⊢
  have hl : lv_has ls 6 [(0, .ref (kx 0)), (1, .int x1), (2, .int x2), (3, .int x3), (4, .int x4), (5, .int x5)] := hl
  rw [f_X9_grant] at h
  refine lv_aload_n hx hb dX9_grant_0 rfl (lv_at hl 0 rfl) ?_
  refine lv_aload_n hx hb dX9_grant_1 rfl (lv_at hl 0 rfl) ?_
  obtain ⟨y1, gy1, h⟩ := zb_some h
  have hFc := z_free0 hD hS hA
  refine z_callmr (q := kd 0) (wc := (zw_x9 kx kv kd ke kt kr ++ zw_co tt kv bv ++ zw_co tt kd bd ++ zw_hi tt kx bh ++ zw_ex tt ke be ++ zw_tx tt kt bt ++ zw_rh tt kr br)) (w1 := (zw_x9 kx kv kd ke kt kr ++ zw_co tt kv bv ++ zw_co tt kd y1 ++ zw_hi tt kx bh ++ zw_ex tt ke be ++ zw_tx tt kt bt ++ zw_rh tt kr br)) (va_runV (As := []) (rest := [.ref (kx 0)]) ⟨hx, hb, hml, hown, hts⟩ (c_X9_newDraft l D tt kx kv kd ke kt kr _ bv bd bh be bt br y1 gy1) (cwV 0 hts gX9_grant_X9_newDraft rfl rfl rfl (by decide +kernel) ⟨Nat.le_of_ble_eq_true rfl, Nat.le_of_ble_eq_true rfl⟩) (z_preVm hK hP hD (ci := 9) (q0 := 0) rfl rfl) rfl rfl hl.1 rfl (lv_room (Nat.le_of_ble_eq_true rfl)) dX9_grant_2 ⟨Nat.zero_le _, Nat.zero_le _⟩) hS hFc (fun H locs hP1 hD1 hk1 hS => ?_)
  have hP := hP1
  have hD := hD1.weaken (fun _ q _ h => hFc q.1 h)
  refine lv_iload_n hx hb dX9_grant_5 rfl (lv_at hl 1 rfl) ?_
  refine lv_iload_n hx hb dX9_grant_6 rfl (lv_at hl 2 rfl) ?_
  refine lv_iload_n hx hb dX9_grant_7 rfl (lv_at hl 3 rfl) ?_
  refine lv_iload hx hb dX9_grant_8 (lv_at hl 4 rfl) ?_
  refine lv_iload hx hb dX9_grant_10 (lv_at hl 5 rfl) ?_
  obtain ⟨y2, gy2, h⟩ := zb_some h
  have hpm : List.Perm (zw_x9 kx kv kd ke kt kr ++ zw_co tt kv bv ++ zw_co tt kd y1 ++ zw_hi tt kx bh ++ zw_ex tt ke be ++ zw_tx tt kt bt ++ zw_rh tt kr br) ((zw_co tt kd y1) ++ (zw_x9 kx kv kd ke kt kr ++ zw_co tt kv bv ++ zw_hi tt kx bh ++ zw_ex tt ke be ++ zw_tx tt kt bt ++ zw_rh tt kr br)) := z_pm (fun _ x => by simp only [List.count_append, List.count_nil] <;> omega)
  have hPc := z_takeP hpm hP
  have hDc := z_takeD hpm hD
  have hFc := z_free0 hDc hS hA
  refine z_callmi (wc := (zw_co tt kd y1)) (w1 := (zw_co tt kd y2.2)) (va_runV (As := [.int x1, .int x2, .int x3, .int x4, .int x5]) (rest := [.ref (kx 0)]) ⟨hx, hb, hml, hown, hts⟩ (c_X2_addGrant l D tt kd _ y1 x1 x2 x3 x4 x5 y2 gy2) (cwV 5 hts gX9_grant_X2_addGrant rfl rfl rfl (by decide +kernel) ⟨Nat.le_of_ble_eq_true rfl, Nat.le_of_ble_eq_true rfl⟩) (z_preVm hK hPc hDc (ci := 2) (q0 := 0) rfl rfl) rfl rfl hl.1 rfl (lv_room (Nat.le_of_ble_eq_true rfl)) dX9_grant_12 ⟨Nat.zero_le _, Nat.zero_le _⟩) hS hFc (fun H locs ny2 hP1 hD1 hk1 hS => ?_)
  have hpm2 : List.Perm (zw_x9 kx kv kd ke kt kr ++ zw_co tt kv bv ++ zw_co tt kd y2.2 ++ zw_hi tt kx bh ++ zw_ex tt ke be ++ zw_tx tt kt bt ++ zw_rh tt kr br) ((zw_co tt kd y2.2) ++ (zw_x9 kx kv kd ke kt kr ++ zw_co tt kv bv ++ zw_hi tt kx bh ++ zw_ex tt ke be ++ zw_tx tt kt bt ++ zw_rh tt kr br)) := z_pm (fun _ x => by simp only [List.count_append, List.count_nil] <;> omega)
  obtain ⟨hP, hD⟩ := z_joinB hpm hpm2 hP hD hk1 hFc hP1 hD1
  clear hpm hpm2
  have hP : va_P D vwCl (zw_x9 kx kv kd ke kt kr ++ zw_co tt kv bv ++ zw_co tt kd y2.2 ++ zw_hi tt kx bh ++ zw_ex tt ke be ++ zw_tx tt kt bt ++ zw_rh tt kr br) H := hP
  have hD : va_D A (zw_x9 kx kv kd ke kt kr ++ zw_co tt kv bv ++ zw_co tt kd y2.2 ++ zw_hi tt kx bh ++ zw_ex tt ke be ++ zw_tx tt kt bt ++ zw_rh tt kr br) := hD
  obtain ⟨y3, gy3, h⟩ := zb_some h
  have hFc := z_free0 hD hS hA
  refine z_callmi (wc := (zw_x9 kx kv kd ke kt kr ++ zw_co tt kv bv ++ zw_co tt kd y2.2 ++ zw_hi tt kx bh ++ zw_ex tt ke be ++ zw_tx tt kt bt ++ zw_rh tt kr br)) (w1 := (zw_x9 kx kv kd ke kt kr ++ zw_co tt kv y3.2.1 ++ zw_co tt kd y2.2 ++ zw_hi tt kx y3.2.2 ++ zw_ex tt ke be ++ zw_tx tt kt bt ++ zw_rh tt kr br)) (va_runV (As := [.int y2.1]) (rest := []) ⟨hx, hb, hml, hown, hts⟩ (c_X9_accepted l D tt kx kv kd ke kt kr _ bv y2.2 bh be bt br y2.1 y3 gy3) (cwV 1 hts gX9_grant_X9_accepted rfl rfl rfl (by decide +kernel) ⟨Nat.le_of_ble_eq_true rfl, Nat.le_of_ble_eq_true rfl⟩) (z_preVm hK hP hD (ci := 9) (q0 := 0) rfl rfl) rfl rfl hl.1 rfl (lv_room (Nat.le_of_ble_eq_true rfl)) dX9_grant_15 ⟨Nat.zero_le _, Nat.zero_le _⟩) hS hFc (fun H locs ny3 hP1 hD1 hk1 hS => ?_)
  have hP := hP1
  have hD := hD1.weaken (fun _ q _ h => hFc q.1 h)
  exact hfin _ _ _ _ _ _ _ _ h rfl hP hD hS dX9_grant_18
set_option maxHeartbeats 4000000 in
set_option maxRecDepth 100000 in
theorem c_X9_take (l : Launch) (D : va_G) (tt : Nat → ClassId) (kx : Nat → Nat) (kv : Nat → Nat) (kd : Nat → Nat) (ke : Nat → Nat) (kt : Nat → Nat) (kr : Nat → Nat) (sz : Nat) (bv : zV) (bd : zV) (bh : zH) (be : zV) (bt : zV) (br : zV) (x1 : Int32) (x2 : Int32) (out : Int32 × zV × zV × zH) (h : f_X9_take bv bd bh be bt br x1 x2 = some out) : Met l yX9_take wsX9_take { frames := 6, cells := 0, slots := 0, locals := 145 } (zPm [.ref (kx 0), .int x1, .int x2] D tt (zw_x9 kx kv kd ke kt kr ++ zw_co tt kv bv ++ zw_co tt kd bd ++ zw_hi tt kx bh ++ zw_ex tt ke be ++ zw_tx tt kt bt ++ zw_rh tt kr br) sz) (zMi .int out.1 D (zw_x9 kx kv kd ke kt kr ++ zw_co tt kv out.2.1 ++ zw_co tt kd out.2.2.1 ++ zw_hi tt kx out.2.2.2 ++ zw_ex tt ke be ++ zw_tx tt kt bt ++ zw_rh tt kr br) (va_A (zw_x9 kx kv kd ke kt kr ++ zw_co tt kv bv ++ zw_co tt kd bd ++ zw_hi tt kx bh ++ zw_ex tt ke be ++ zw_tx tt kt bt ++ zw_rh tt kr br) sz)) 0 0 (va_A (zw_x9 kx kv kd ke kt kr ++ zw_co tt kv bv ++ zw_co tt kd bd ++ zw_hi tt kx bh ++ zw_ex tt ke be ++ zw_tx tt kt bt ++ zw_rh tt kr br) sz) := by
  refine Met.ofW (cc := cX9_take) (maxL := 3) (ret := (some .int)) (by decide) rfl ?_
  intro p e s m args below meth c s₁ B hml hv
  obtain ⟨ha, hsz, hP, hK, hD0⟩ := hv
  have hx := B.exec
  have hb := B.bytes
  have hr := B.returns
  have hts := atoms_spec (ws := wsX9_take) B.pre
  have hown : s.vm.findClass RX9 = some m.cls := findClass_of_methodNamed B.named
  have hlocks := B.notSynchronized
  subst hsz
  have hD := hD0.self (sz := s.heap.size)
  generalize hAe : va_A (zw_x9 kx kv kd ke kt kr ++ zw_co tt kv bv ++ zw_co tt kd bd ++ zw_hi tt kx bh ++ zw_ex tt ke be ++ zw_tx tt kt bt ++ zw_rh tt kr br) s.heap.size = A at hD ⊢
  have hA : ∀ q : Nat, s.heap.size ≤ q → A q := fun q h => by rw [← hAe]; exact Or.inr h
  have hS : va_S A s.heap s.heap [] := va_S.rf
  have hfin : ∀ (v : Int32) (bv : zV) (bd : zV) (bh : zH) (pc : Nat) (ls : Array Slot) (H : Heap) (locs : List Loc), some (v, bv, bd, bh) = some out → narrow .int (.int v) = .int v → va_P D vwCl (zw_x9 kx kv kd ke kt kr ++ zw_co tt kv bv ++ zw_co tt kd bd ++ zw_hi tt kx bh ++ zw_ex tt ke be ++ zw_tx tt kt bt ++ zw_rh tt kr br) H → va_D A (zw_x9 kx kv kd ke kt kr ++ zw_co tt kv bv ++ zw_co tt kd bd ++ zw_hi tt kx bh ++ zw_ex tt ke be ++ zw_tx tt kt bt ++ zw_rh tt kr br) → va_S A s.heap H locs → decode cX9_take pc = .ok (.ireturn, 1) → W p l e (headSpec wsX9_take { frames := 6, cells := 0, slots := 0, locals := 145 }).room s m args below meth c H locs 0 0 (MQ below (zMi .int out.1 D (zw_x9 kx kv kd ke kt kr ++ zw_co tt kv out.2.1 ++ zw_co tt kd out.2.2.1 ++ zw_hi tt kx out.2.2.2 ++ zw_ex tt ke be ++ zw_tx tt kt bt ++ zw_rh tt kr br) A) args s 0 0 A) (F0 m pc ls [.int v]) := by
    intro v bv bd bh pc ls H locs he hn hP hD hS hd
    cases he
    exact W.zret hx hb hr hn (fun t ht hW => ⟨⟨_, (), rfl, ⟨rfl, hn⟩, by rw [ht]; exact hP, hD⟩, hS.F ht⟩) hS.2.2 hd
  generalize MQ below (zMi .int out.1 D (zw_x9 kx kv kd ke kt kr ++ zw_co tt kv out.2.1 ++ zw_co tt kd out.2.2.1 ++ zw_hi tt kx out.2.2.2 ++ zw_ex tt ke be ++ zw_tx tt kt bt ++ zw_rh tt kr br) A) args s 0 0 A = Q at hfin ⊢
  have hl := lv_entry ([.ref (kx 0), .int x1, .int x2]) (n := 3) (Nat.le_of_ble_eq_true rfl)
  refine W.eq (g2 := F0 m 0 ((lg_sl ([.ref (kx 0), .int x1, .int x2]) ++ List.replicate (3 - (lg_sl ([.ref (kx 0), .int x1, .int x2])).length) Slot.unset).toArray) []) (by rw [ha]; exact lg_entry_eq _ _ _) ?_
  generalize (lg_sl ([.ref (kx 0), .int x1, .int x2]) ++ List.replicate (3 - (lg_sl ([.ref (kx 0), .int x1, .int x2])).length) Slot.unset).toArray = ls at hl ⊢
  have hl : lv_has ls 3 [(0, .ref (kx 0)), (1, .int x1), (2, .int x2)] := hl
  rw [f_X9_take] at h
  refine lv_aload_n hx hb dX9_take_0 rfl (lv_at hl 0 rfl) ?_
  refine lv_aload_n hx hb dX9_take_1 rfl (lv_at hl 0 rfl) ?_
  obtain ⟨y1, gy1, h⟩ := zb_some h
  have hFc := z_free0 hD hS hA
  refine z_callmr (q := kd 0) (wc := (zw_x9 kx kv kd ke kt kr ++ zw_co tt kv bv ++ zw_co tt kd bd ++ zw_hi tt kx bh ++ zw_ex tt ke be ++ zw_tx tt kt bt ++ zw_rh tt kr br)) (w1 := (zw_x9 kx kv kd ke kt kr ++ zw_co tt kv bv ++ zw_co tt kd y1 ++ zw_hi tt kx bh ++ zw_ex tt ke be ++ zw_tx tt kt bt ++ zw_rh tt kr br)) (va_runV (As := []) (rest := [.ref (kx 0)]) ⟨hx, hb, hml, hown, hts⟩ (c_X9_newDraft l D tt kx kv kd ke kt kr _ bv bd bh be bt br y1 gy1) (cwV 0 hts gX9_take_X9_newDraft rfl rfl rfl (by decide +kernel) ⟨Nat.le_of_ble_eq_true rfl, Nat.le_of_ble_eq_true rfl⟩) (z_preVm hK hP hD (ci := 9) (q0 := 0) rfl rfl) rfl rfl hl.1 rfl (lv_room (Nat.le_of_ble_eq_true rfl)) dX9_take_2 ⟨Nat.zero_le _, Nat.zero_le _⟩) hS hFc (fun H locs hP1 hD1 hk1 hS => ?_)
  have hP := hP1
  have hD := hD1.weaken (fun _ q _ h => hFc q.1 h)
  refine lv_iload_n hx hb dX9_take_5 rfl (lv_at hl 1 rfl) ?_
  refine lv_iload_n hx hb dX9_take_6 rfl (lv_at hl 2 rfl) ?_
  obtain ⟨y2, gy2, h⟩ := zb_some h
  have hpm : List.Perm (zw_x9 kx kv kd ke kt kr ++ zw_co tt kv bv ++ zw_co tt kd y1 ++ zw_hi tt kx bh ++ zw_ex tt ke be ++ zw_tx tt kt bt ++ zw_rh tt kr br) ((zw_co tt kd y1) ++ (zw_x9 kx kv kd ke kt kr ++ zw_co tt kv bv ++ zw_hi tt kx bh ++ zw_ex tt ke be ++ zw_tx tt kt bt ++ zw_rh tt kr br)) := z_pm (fun _ x => by simp only [List.count_append, List.count_nil] <;> omega)
  have hPc := z_takeP hpm hP
  have hDc := z_takeD hpm hD
  have hFc := z_free0 hDc hS hA
  refine z_callmi (wc := (zw_co tt kd y1)) (w1 := (zw_co tt kd y2.2)) (va_runV (As := [.int x1, .int x2]) (rest := [.ref (kx 0)]) ⟨hx, hb, hml, hown, hts⟩ (c_X2_takeOptions l D tt kd _ y1 x1 x2 y2 gy2) (cwV 2 hts gX9_take_X2_takeOptions rfl rfl rfl (by decide +kernel) ⟨Nat.le_of_ble_eq_true rfl, Nat.le_of_ble_eq_true rfl⟩) (z_preVm hK hPc hDc (ci := 2) (q0 := 0) rfl rfl) rfl rfl hl.1 rfl (lv_room (Nat.le_of_ble_eq_true rfl)) dX9_take_7 ⟨Nat.zero_le _, Nat.zero_le _⟩) hS hFc (fun H locs ny2 hP1 hD1 hk1 hS => ?_)
  have hpm2 : List.Perm (zw_x9 kx kv kd ke kt kr ++ zw_co tt kv bv ++ zw_co tt kd y2.2 ++ zw_hi tt kx bh ++ zw_ex tt ke be ++ zw_tx tt kt bt ++ zw_rh tt kr br) ((zw_co tt kd y2.2) ++ (zw_x9 kx kv kd ke kt kr ++ zw_co tt kv bv ++ zw_hi tt kx bh ++ zw_ex tt ke be ++ zw_tx tt kt bt ++ zw_rh tt kr br)) := z_pm (fun _ x => by simp only [List.count_append, List.count_nil] <;> omega)
  obtain ⟨hP, hD⟩ := z_joinB hpm hpm2 hP hD hk1 hFc hP1 hD1
  clear hpm hpm2
  have hP : va_P D vwCl (zw_x9 kx kv kd ke kt kr ++ zw_co tt kv bv ++ zw_co tt kd y2.2 ++ zw_hi tt kx bh ++ zw_ex tt ke be ++ zw_tx tt kt bt ++ zw_rh tt kr br) H := hP
  have hD : va_D A (zw_x9 kx kv kd ke kt kr ++ zw_co tt kv bv ++ zw_co tt kd y2.2 ++ zw_hi tt kx bh ++ zw_ex tt ke be ++ zw_tx tt kt bt ++ zw_rh tt kr br) := hD
  obtain ⟨y3, gy3, h⟩ := zb_some h
  have hFc := z_free0 hD hS hA
  refine z_callmi (wc := (zw_x9 kx kv kd ke kt kr ++ zw_co tt kv bv ++ zw_co tt kd y2.2 ++ zw_hi tt kx bh ++ zw_ex tt ke be ++ zw_tx tt kt bt ++ zw_rh tt kr br)) (w1 := (zw_x9 kx kv kd ke kt kr ++ zw_co tt kv y3.2.1 ++ zw_co tt kd y2.2 ++ zw_hi tt kx y3.2.2 ++ zw_ex tt ke be ++ zw_tx tt kt bt ++ zw_rh tt kr br)) (va_runV (As := [.int y2.1]) (rest := []) ⟨hx, hb, hml, hown, hts⟩ (c_X9_accepted l D tt kx kv kd ke kt kr _ bv y2.2 bh be bt br y2.1 y3 gy3) (cwV 1 hts gX9_take_X9_accepted rfl rfl rfl (by decide +kernel) ⟨Nat.le_of_ble_eq_true rfl, Nat.le_of_ble_eq_true rfl⟩) (z_preVm hK hP hD (ci := 9) (q0 := 0) rfl rfl) rfl rfl hl.1 rfl (lv_room (Nat.le_of_ble_eq_true rfl)) dX9_take_10 ⟨Nat.zero_le _, Nat.zero_le _⟩) hS hFc (fun H locs ny3 hP1 hD1 hk1 hS => ?_)
  have hP := hP1
  have hD := hD1.weaken (fun _ q _ h => hFc q.1 h)
  exact hfin _ _ _ _ _ _ _ _ h rfl hP hD hS dX9_take_13
set_option maxHeartbeats 4000000 in
set_option maxRecDepth 100000 in
theorem c_X9_leave (l : Launch) (D : va_G) (tt : Nat → ClassId) (kx : Nat → Nat) (kv : Nat → Nat) (kd : Nat → Nat) (ke : Nat → Nat) (kt : Nat → Nat) (kr : Nat → Nat) (sz : Nat) (bv : zV) (bd : zV) (bh : zH) (be : zV) (bt : zV) (br : zV) (x1 : Int32) (out : Int32 × zV × zV × zH) (h : f_X9_leave bv bd bh be bt br x1 = some out) : Met l yX9_leave wsX9_leave { frames := 6, cells := 0, slots := 0, locals := 145 } (zPm [.ref (kx 0), .int x1] D tt (zw_x9 kx kv kd ke kt kr ++ zw_co tt kv bv ++ zw_co tt kd bd ++ zw_hi tt kx bh ++ zw_ex tt ke be ++ zw_tx tt kt bt ++ zw_rh tt kr br) sz) (zMi .int out.1 D (zw_x9 kx kv kd ke kt kr ++ zw_co tt kv out.2.1 ++ zw_co tt kd out.2.2.1 ++ zw_hi tt kx out.2.2.2 ++ zw_ex tt ke be ++ zw_tx tt kt bt ++ zw_rh tt kr br) (va_A (zw_x9 kx kv kd ke kt kr ++ zw_co tt kv bv ++ zw_co tt kd bd ++ zw_hi tt kx bh ++ zw_ex tt ke be ++ zw_tx tt kt bt ++ zw_rh tt kr br) sz)) 0 0 (va_A (zw_x9 kx kv kd ke kt kr ++ zw_co tt kv bv ++ zw_co tt kd bd ++ zw_hi tt kx bh ++ zw_ex tt ke be ++ zw_tx tt kt bt ++ zw_rh tt kr br) sz) := by
  refine Met.ofW (cc := cX9_leave) (maxL := 2) (ret := (some .int)) (by decide) rfl ?_
  intro p e s m args below meth c s₁ B hml hv
  obtain ⟨ha, hsz, hP, hK, hD0⟩ := hv
  have hx := B.exec
  have hb := B.bytes
  have hr := B.returns
  have hts := atoms_spec (ws := wsX9_leave) B.pre
  have hown : s.vm.findClass RX9 = some m.cls := findClass_of_methodNamed B.named
  have hlocks := B.notSynchronized
  subst hsz
  have hD := hD0.self (sz := s.heap.size)
  generalize hAe : va_A (zw_x9 kx kv kd ke kt kr ++ zw_co tt kv bv ++ zw_co tt kd bd ++ zw_hi tt kx bh ++ zw_ex tt ke be ++ zw_tx tt kt bt ++ zw_rh tt kr br) s.heap.size = A at hD ⊢
  have hA : ∀ q : Nat, s.heap.size ≤ q → A q := fun q h => by rw [← hAe]; exact Or.inr h
  have hS : va_S A s.heap s.heap [] := va_S.rf
  have hfin : ∀ (v : Int32) (bv : zV) (bd : zV) (bh : zH) (pc : Nat) (ls : Array Slot) (H : Heap) (locs : List Loc), some (v, bv, bd, bh) = some out → narrow .int (.int v) = .int v → va_P D vwCl (zw_x9 kx kv kd ke kt kr ++ zw_co tt kv bv ++ zw_co tt kd bd ++ zw_hi tt kx bh ++ zw_ex tt ke be ++ zw_tx tt kt bt ++ zw_rh tt kr br) H → va_D A (zw_x9 kx kv kd ke kt kr ++ zw_co tt kv bv ++ zw_co tt kd bd ++ zw_hi tt kx bh ++ zw_ex tt ke be ++ zw_tx tt kt bt ++ zw_rh tt kr br) → va_S A s.heap H locs → decode cX9_leave pc = .ok (.ireturn, 1) → W p l e (headSpec wsX9_leave { frames := 6, cells := 0, slots := 0, locals := 145 }).room s m args below meth c H locs 0 0 (MQ below (zMi .int out.1 D (zw_x9 kx kv kd ke kt kr ++ zw_co tt kv out.2.1 ++ zw_co tt kd out.2.2.1 ++ zw_hi tt kx out.2.2.2 ++ zw_ex tt ke be ++ zw_tx tt kt bt ++ zw_rh tt kr br) A) args s 0 0 A) (F0 m pc ls [.int v]) := by
    intro v bv bd bh pc ls H locs he hn hP hD hS hd
    cases he
    exact W.zret hx hb hr hn (fun t ht hW => ⟨⟨_, (), rfl, ⟨rfl, hn⟩, by rw [ht]; exact hP, hD⟩, hS.F ht⟩) hS.2.2 hd
  generalize MQ below (zMi .int out.1 D (zw_x9 kx kv kd ke kt kr ++ zw_co tt kv out.2.1 ++ zw_co tt kd out.2.2.1 ++ zw_hi tt kx out.2.2.2 ++ zw_ex tt ke be ++ zw_tx tt kt bt ++ zw_rh tt kr br) A) args s 0 0 A = Q at hfin ⊢
  have hl := lv_entry ([.ref (kx 0), .int x1]) (n := 2) (Nat.le_of_ble_eq_true rfl)
  refine W.eq (g2 := F0 m 0 ((lg_sl ([.ref (kx 0), .int x1]) ++ List.replicate (2 - (lg_sl ([.ref (kx 0), .int x1])).length) Slot.unset).toArray) []) (by rw [ha]; exact lg_entry_eq _ _ _) ?_
  generalize (lg_sl ([.ref (kx 0), .int x1]) ++ List.replicate (2 - (lg_sl ([.ref (kx 0), .int x1])).length) Slot.unset).toArray = ls at hl ⊢
  have hl : lv_has ls 2 [(0, .ref (kx 0)), (1, .int x1)] := hl
  rw [f_X9_leave] at h
  refine lv_aload_n hx hb dX9_leave_0 rfl (lv_at hl 0 rfl) ?_
  refine lv_aload_n hx hb dX9_leave_1 rfl (lv_at hl 0 rfl) ?_
  obtain ⟨y1, gy1, h⟩ := zb_some h
  have hFc := z_free0 hD hS hA
  refine z_callmr (q := kd 0) (wc := (zw_x9 kx kv kd ke kt kr ++ zw_co tt kv bv ++ zw_co tt kd bd ++ zw_hi tt kx bh ++ zw_ex tt ke be ++ zw_tx tt kt bt ++ zw_rh tt kr br)) (w1 := (zw_x9 kx kv kd ke kt kr ++ zw_co tt kv bv ++ zw_co tt kd y1 ++ zw_hi tt kx bh ++ zw_ex tt ke be ++ zw_tx tt kt bt ++ zw_rh tt kr br)) (va_runV (As := []) (rest := [.ref (kx 0)]) ⟨hx, hb, hml, hown, hts⟩ (c_X9_newDraft l D tt kx kv kd ke kt kr _ bv bd bh be bt br y1 gy1) (cwV 0 hts gX9_leave_X9_newDraft rfl rfl rfl (by decide +kernel) ⟨Nat.le_of_ble_eq_true rfl, Nat.le_of_ble_eq_true rfl⟩) (z_preVm hK hP hD (ci := 9) (q0 := 0) rfl rfl) rfl rfl hl.1 rfl (lv_room (Nat.le_of_ble_eq_true rfl)) dX9_leave_2 ⟨Nat.zero_le _, Nat.zero_le _⟩) hS hFc (fun H locs hP1 hD1 hk1 hS => ?_)
  have hP := hP1
  have hD := hD1.weaken (fun _ q _ h => hFc q.1 h)
  refine lv_iload_n hx hb dX9_leave_5 rfl (lv_at hl 1 rfl) ?_
  obtain ⟨y2, gy2, h⟩ := zb_some h
  have hpm : List.Perm (zw_x9 kx kv kd ke kt kr ++ zw_co tt kv bv ++ zw_co tt kd y1 ++ zw_hi tt kx bh ++ zw_ex tt ke be ++ zw_tx tt kt bt ++ zw_rh tt kr br) ((zw_co tt kd y1) ++ (zw_x9 kx kv kd ke kt kr ++ zw_co tt kv bv ++ zw_hi tt kx bh ++ zw_ex tt ke be ++ zw_tx tt kt bt ++ zw_rh tt kr br)) := z_pm (fun _ x => by simp only [List.count_append, List.count_nil] <;> omega)
  have hPc := z_takeP hpm hP
  have hDc := z_takeD hpm hD
  have hFc := z_free0 hDc hS hA
  refine z_callmi (wc := (zw_co tt kd y1)) (w1 := (zw_co tt kd y2.2)) (va_runV (As := [.int x1]) (rest := [.ref (kx 0)]) ⟨hx, hb, hml, hown, hts⟩ (c_X2_letLeave l D tt kd _ y1 x1 y2 gy2) (cwV 1 hts gX9_leave_X2_letLeave rfl rfl rfl (by decide +kernel) ⟨Nat.le_of_ble_eq_true rfl, Nat.le_of_ble_eq_true rfl⟩) (z_preVm hK hPc hDc (ci := 2) (q0 := 0) rfl rfl) rfl rfl hl.1 rfl (lv_room (Nat.le_of_ble_eq_true rfl)) dX9_leave_6 ⟨Nat.zero_le _, Nat.zero_le _⟩) hS hFc (fun H locs ny2 hP1 hD1 hk1 hS => ?_)
  have hpm2 : List.Perm (zw_x9 kx kv kd ke kt kr ++ zw_co tt kv bv ++ zw_co tt kd y2.2 ++ zw_hi tt kx bh ++ zw_ex tt ke be ++ zw_tx tt kt bt ++ zw_rh tt kr br) ((zw_co tt kd y2.2) ++ (zw_x9 kx kv kd ke kt kr ++ zw_co tt kv bv ++ zw_hi tt kx bh ++ zw_ex tt ke be ++ zw_tx tt kt bt ++ zw_rh tt kr br)) := z_pm (fun _ x => by simp only [List.count_append, List.count_nil] <;> omega)
  obtain ⟨hP, hD⟩ := z_joinB hpm hpm2 hP hD hk1 hFc hP1 hD1
  clear hpm hpm2
  have hP : va_P D vwCl (zw_x9 kx kv kd ke kt kr ++ zw_co tt kv bv ++ zw_co tt kd y2.2 ++ zw_hi tt kx bh ++ zw_ex tt ke be ++ zw_tx tt kt bt ++ zw_rh tt kr br) H := hP
  have hD : va_D A (zw_x9 kx kv kd ke kt kr ++ zw_co tt kv bv ++ zw_co tt kd y2.2 ++ zw_hi tt kx bh ++ zw_ex tt ke be ++ zw_tx tt kt bt ++ zw_rh tt kr br) := hD
  obtain ⟨y3, gy3, h⟩ := zb_some h
  have hFc := z_free0 hD hS hA
  refine z_callmi (wc := (zw_x9 kx kv kd ke kt kr ++ zw_co tt kv bv ++ zw_co tt kd y2.2 ++ zw_hi tt kx bh ++ zw_ex tt ke be ++ zw_tx tt kt bt ++ zw_rh tt kr br)) (w1 := (zw_x9 kx kv kd ke kt kr ++ zw_co tt kv y3.2.1 ++ zw_co tt kd y2.2 ++ zw_hi tt kx y3.2.2 ++ zw_ex tt ke be ++ zw_tx tt kt bt ++ zw_rh tt kr br)) (va_runV (As := [.int y2.1]) (rest := []) ⟨hx, hb, hml, hown, hts⟩ (c_X9_accepted l D tt kx kv kd ke kt kr _ bv y2.2 bh be bt br y2.1 y3 gy3) (cwV 1 hts gX9_leave_X9_accepted rfl rfl rfl (by decide +kernel) ⟨Nat.le_of_ble_eq_true rfl, Nat.le_of_ble_eq_true rfl⟩) (z_preVm hK hP hD (ci := 9) (q0 := 0) rfl rfl) rfl rfl hl.1 rfl (lv_room (Nat.le_of_ble_eq_true rfl)) dX9_leave_9 ⟨Nat.zero_le _, Nat.zero_le _⟩) hS hFc (fun H locs ny3 hP1 hD1 hk1 hS => ?_)
  have hP := hP1
  have hD := hD1.weaken (fun _ q _ h => hFc q.1 h)
  exact hfin _ _ _ _ _ _ _ _ h rfl hP hD hS dX9_leave_12
set_option maxHeartbeats 4000000 in
set_option maxRecDepth 100000 in
theorem c_X9_pass (l : Launch) (D : va_G) (tt : Nat → ClassId) (kx : Nat → Nat) (kv : Nat → Nat) (kd : Nat → Nat) (ke : Nat → Nat) (kt : Nat → Nat) (kr : Nat → Nat) (sz : Nat) (bv : zV) (bd : zV) (bh : zH) (be : zV) (bt : zV) (br : zV) (x1 : Int32) (out : Int32 × zV × zV × zH) (h : f_X9_pass bv bd bh be bt br x1 = some out) : Met l yX9_pass wsX9_pass { frames := 6, cells := 0, slots := 0, locals := 145 } (zPm [.ref (kx 0), .int x1] D tt (zw_x9 kx kv kd ke kt kr ++ zw_co tt kv bv ++ zw_co tt kd bd ++ zw_hi tt kx bh ++ zw_ex tt ke be ++ zw_tx tt kt bt ++ zw_rh tt kr br) sz) (zMi .int out.1 D (zw_x9 kx kv kd ke kt kr ++ zw_co tt kv out.2.1 ++ zw_co tt kd out.2.2.1 ++ zw_hi tt kx out.2.2.2 ++ zw_ex tt ke be ++ zw_tx tt kt bt ++ zw_rh tt kr br) (va_A (zw_x9 kx kv kd ke kt kr ++ zw_co tt kv bv ++ zw_co tt kd bd ++ zw_hi tt kx bh ++ zw_ex tt ke be ++ zw_tx tt kt bt ++ zw_rh tt kr br) sz)) 0 0 (va_A (zw_x9 kx kv kd ke kt kr ++ zw_co tt kv bv ++ zw_co tt kd bd ++ zw_hi tt kx bh ++ zw_ex tt ke be ++ zw_tx tt kt bt ++ zw_rh tt kr br) sz) := by
  refine Met.ofW (cc := cX9_pass) (maxL := 2) (ret := (some .int)) (by decide) rfl ?_
  intro p e s m args below meth c s₁ B hml hv
  obtain ⟨ha, hsz, hP, hK, hD0⟩ := hv
  have hx := B.exec
  have hb := B.bytes
  have hr := B.returns
  have hts := atoms_spec (ws := wsX9_pass) B.pre
  have hown : s.vm.findClass RX9 = some m.cls := findClass_of_methodNamed B.named
  have hlocks := B.notSynchronized
  subst hsz
  have hD := hD0.self (sz := s.heap.size)
  generalize hAe : va_A (zw_x9 kx kv kd ke kt kr ++ zw_co tt kv bv ++ zw_co tt kd bd ++ zw_hi tt kx bh ++ zw_ex tt ke be ++ zw_tx tt kt bt ++ zw_rh tt kr br) s.heap.size = A at hD ⊢
  have hA : ∀ q : Nat, s.heap.size ≤ q → A q := fun q h => by rw [← hAe]; exact Or.inr h
  have hS : va_S A s.heap s.heap [] := va_S.rf
  have hfin : ∀ (v : Int32) (bv : zV) (bd : zV) (bh : zH) (pc : Nat) (ls : Array Slot) (H : Heap) (locs : List Loc), some (v, bv, bd, bh) = some out → narrow .int (.int v) = .int v → va_P D vwCl (zw_x9 kx kv kd ke kt kr ++ zw_co tt kv bv ++ zw_co tt kd bd ++ zw_hi tt kx bh ++ zw_ex tt ke be ++ zw_tx tt kt bt ++ zw_rh tt kr br) H → va_D A (zw_x9 kx kv kd ke kt kr ++ zw_co tt kv bv ++ zw_co tt kd bd ++ zw_hi tt kx bh ++ zw_ex tt ke be ++ zw_tx tt kt bt ++ zw_rh tt kr br) → va_S A s.heap H locs → decode cX9_pass pc = .ok (.ireturn, 1) → W p l e (headSpec wsX9_pass { frames := 6, cells := 0, slots := 0, locals := 145 }).room s m args below meth c H locs 0 0 (MQ below (zMi .int out.1 D (zw_x9 kx kv kd ke kt kr ++ zw_co tt kv out.2.1 ++ zw_co tt kd out.2.2.1 ++ zw_hi tt kx out.2.2.2 ++ zw_ex tt ke be ++ zw_tx tt kt bt ++ zw_rh tt kr br) A) args s 0 0 A) (F0 m pc ls [.int v]) := by
    intro v bv bd bh pc ls H locs he hn hP hD hS hd
    cases he
    exact W.zret hx hb hr hn (fun t ht hW => ⟨⟨_, (), rfl, ⟨rfl, hn⟩, by rw [ht]; exact hP, hD⟩, hS.F ht⟩) hS.2.2 hd
  generalize MQ below (zMi .int out.1 D (zw_x9 kx kv kd ke kt kr ++ zw_co tt kv out.2.1 ++ zw_co tt kd out.2.2.1 ++ zw_hi tt kx out.2.2.2 ++ zw_ex tt ke be ++ zw_tx tt kt bt ++ zw_rh tt kr br) A) args s 0 0 A = Q at hfin ⊢
  have hl := lv_entry ([.ref (kx 0), .int x1]) (n := 2) (Nat.le_of_ble_eq_true rfl)
  refine W.eq (g2 := F0 m 0 ((lg_sl ([.ref (kx 0), .int x1]) ++ List.replicate (2 - (lg_sl ([.ref (kx 0), .int x1])).length) Slot.unset).toArray) []) (by rw [ha]; exact lg_entry_eq _ _ _) ?_
  generalize (lg_sl ([.ref (kx 0), .int x1]) ++ List.replicate (2 - (lg_sl ([.ref (kx 0), .int x1])).length) Slot.unset).toArray = ls at hl ⊢
  have hl : lv_has ls 2 [(0, .ref (kx 0)), (1, .int x1)] := hl
  rw [f_X9_pass] at h
  refine lv_aload_n hx hb dX9_pass_0 rfl (lv_at hl 0 rfl) ?_
  refine lv_aload_n hx hb dX9_pass_1 rfl (lv_at hl 0 rfl) ?_
  obtain ⟨y1, gy1, h⟩ := zb_some h
  have hFc := z_free0 hD hS hA
  refine z_callmr (q := kd 0) (wc := (zw_x9 kx kv kd ke kt kr ++ zw_co tt kv bv ++ zw_co tt kd bd ++ zw_hi tt kx bh ++ zw_ex tt ke be ++ zw_tx tt kt bt ++ zw_rh tt kr br)) (w1 := (zw_x9 kx kv kd ke kt kr ++ zw_co tt kv bv ++ zw_co tt kd y1 ++ zw_hi tt kx bh ++ zw_ex tt ke be ++ zw_tx tt kt bt ++ zw_rh tt kr br)) (va_runV (As := []) (rest := [.ref (kx 0)]) ⟨hx, hb, hml, hown, hts⟩ (c_X9_newDraft l D tt kx kv kd ke kt kr _ bv bd bh be bt br y1 gy1) (cwV 0 hts gX9_pass_X9_newDraft rfl rfl rfl (by decide +kernel) ⟨Nat.le_of_ble_eq_true rfl, Nat.le_of_ble_eq_true rfl⟩) (z_preVm hK hP hD (ci := 9) (q0 := 0) rfl rfl) rfl rfl hl.1 rfl (lv_room (Nat.le_of_ble_eq_true rfl)) dX9_pass_2 ⟨Nat.zero_le _, Nat.zero_le _⟩) hS hFc (fun H locs hP1 hD1 hk1 hS => ?_)
  have hP := hP1
  have hD := hD1.weaken (fun _ q _ h => hFc q.1 h)
  refine lv_iload_n hx hb dX9_pass_5 rfl (lv_at hl 1 rfl) ?_
  obtain ⟨y2, gy2, h⟩ := zb_some h
  have hpm : List.Perm (zw_x9 kx kv kd ke kt kr ++ zw_co tt kv bv ++ zw_co tt kd y1 ++ zw_hi tt kx bh ++ zw_ex tt ke be ++ zw_tx tt kt bt ++ zw_rh tt kr br) ((zw_co tt kd y1) ++ (zw_x9 kx kv kd ke kt kr ++ zw_co tt kv bv ++ zw_hi tt kx bh ++ zw_ex tt ke be ++ zw_tx tt kt bt ++ zw_rh tt kr br)) := z_pm (fun _ x => by simp only [List.count_append, List.count_nil] <;> omega)
  have hPc := z_takeP hpm hP
  have hDc := z_takeD hpm hD
  have hFc := z_free0 hDc hS hA
  refine z_callmi (wc := (zw_co tt kd y1)) (w1 := (zw_co tt kd y2.2)) (va_runV (As := [.int x1]) (rest := [.ref (kx 0)]) ⟨hx, hb, hml, hown, hts⟩ (c_X2_passMonths l D tt kd _ y1 x1 y2 gy2) (cwV 1 hts gX9_pass_X2_passMonths rfl rfl rfl (by decide +kernel) ⟨Nat.le_of_ble_eq_true rfl, Nat.le_of_ble_eq_true rfl⟩) (z_preVm hK hPc hDc (ci := 2) (q0 := 0) rfl rfl) rfl rfl hl.1 rfl (lv_room (Nat.le_of_ble_eq_true rfl)) dX9_pass_6 ⟨Nat.zero_le _, Nat.zero_le _⟩) hS hFc (fun H locs ny2 hP1 hD1 hk1 hS => ?_)
  have hpm2 : List.Perm (zw_x9 kx kv kd ke kt kr ++ zw_co tt kv bv ++ zw_co tt kd y2.2 ++ zw_hi tt kx bh ++ zw_ex tt ke be ++ zw_tx tt kt bt ++ zw_rh tt kr br) ((zw_co tt kd y2.2) ++ (zw_x9 kx kv kd ke kt kr ++ zw_co tt kv bv ++ zw_hi tt kx bh ++ zw_ex tt ke be ++ zw_tx tt kt bt ++ zw_rh tt kr br)) := z_pm (fun _ x => by simp only [List.count_append, List.count_nil] <;> omega)
  obtain ⟨hP, hD⟩ := z_joinB hpm hpm2 hP hD hk1 hFc hP1 hD1
  clear hpm hpm2
  have hP : va_P D vwCl (zw_x9 kx kv kd ke kt kr ++ zw_co tt kv bv ++ zw_co tt kd y2.2 ++ zw_hi tt kx bh ++ zw_ex tt ke be ++ zw_tx tt kt bt ++ zw_rh tt kr br) H := hP
  have hD : va_D A (zw_x9 kx kv kd ke kt kr ++ zw_co tt kv bv ++ zw_co tt kd y2.2 ++ zw_hi tt kx bh ++ zw_ex tt ke be ++ zw_tx tt kt bt ++ zw_rh tt kr br) := hD
  obtain ⟨y3, gy3, h⟩ := zb_some h
  have hFc := z_free0 hD hS hA
  refine z_callmi (wc := (zw_x9 kx kv kd ke kt kr ++ zw_co tt kv bv ++ zw_co tt kd y2.2 ++ zw_hi tt kx bh ++ zw_ex tt ke be ++ zw_tx tt kt bt ++ zw_rh tt kr br)) (w1 := (zw_x9 kx kv kd ke kt kr ++ zw_co tt kv y3.2.1 ++ zw_co tt kd y2.2 ++ zw_hi tt kx y3.2.2 ++ zw_ex tt ke be ++ zw_tx tt kt bt ++ zw_rh tt kr br)) (va_runV (As := [.int y2.1]) (rest := []) ⟨hx, hb, hml, hown, hts⟩ (c_X9_accepted l D tt kx kv kd ke kt kr _ bv y2.2 bh be bt br y2.1 y3 gy3) (cwV 1 hts gX9_pass_X9_accepted rfl rfl rfl (by decide +kernel) ⟨Nat.le_of_ble_eq_true rfl, Nat.le_of_ble_eq_true rfl⟩) (z_preVm hK hP hD (ci := 9) (q0 := 0) rfl rfl) rfl rfl hl.1 rfl (lv_room (Nat.le_of_ble_eq_true rfl)) dX9_pass_9 ⟨Nat.zero_le _, Nat.zero_le _⟩) hS hFc (fun H locs ny3 hP1 hD1 hk1 hS => ?_)
  have hP := hP1
  have hD := hD1.weaken (fun _ q _ h => hFc q.1 h)
  exact hfin _ _ _ _ _ _ _ _ h rfl hP hD hS dX9_pass_12
set_option maxHeartbeats 4000000 in
set_option maxRecDepth 100000 in
theorem c_X9_round (l : Launch) (D : va_G) (tt : Nat → ClassId) (kx : Nat → Nat) (kv : Nat → Nat) (kd : Nat → Nat) (ke : Nat → Nat) (kt : Nat → Nat) (kr : Nat → Nat) (sz : Nat) (bv : zV) (bd : zV) (bh : zH) (be : zV) (bt : zV) (br : zV) (x1 : Int32) (x2 : Int32) (x3 : Int32) (out : Int32 × zV × zV × zH) (h : f_X9_round bv bd bh be bt br x1 x2 x3 = some out) : Met l yX9_round wsX9_round { frames := 6, cells := 0, slots := 0, locals := 145 } (zPm [.ref (kx 0), .int x1, .int x2, .int x3] D tt (zw_x9 kx kv kd ke kt kr ++ zw_co tt kv bv ++ zw_co tt kd bd ++ zw_hi tt kx bh ++ zw_ex tt ke be ++ zw_tx tt kt bt ++ zw_rh tt kr br) sz) (zMi .int out.1 D (zw_x9 kx kv kd ke kt kr ++ zw_co tt kv out.2.1 ++ zw_co tt kd out.2.2.1 ++ zw_hi tt kx out.2.2.2 ++ zw_ex tt ke be ++ zw_tx tt kt bt ++ zw_rh tt kr br) (va_A (zw_x9 kx kv kd ke kt kr ++ zw_co tt kv bv ++ zw_co tt kd bd ++ zw_hi tt kx bh ++ zw_ex tt ke be ++ zw_tx tt kt bt ++ zw_rh tt kr br) sz)) 0 0 (va_A (zw_x9 kx kv kd ke kt kr ++ zw_co tt kv bv ++ zw_co tt kd bd ++ zw_hi tt kx bh ++ zw_ex tt ke be ++ zw_tx tt kt bt ++ zw_rh tt kr br) sz) := by
  refine Met.ofW (cc := cX9_round) (maxL := 4) (ret := (some .int)) (by decide) rfl ?_
  intro p e s m args below meth c s₁ B hml hv
  obtain ⟨ha, hsz, hP, hK, hD0⟩ := hv
  have hx := B.exec
  have hb := B.bytes
  have hr := B.returns
  have hts := atoms_spec (ws := wsX9_round) B.pre
  have hown : s.vm.findClass RX9 = some m.cls := findClass_of_methodNamed B.named
  have hlocks := B.notSynchronized
  subst hsz
  have hD := hD0.self (sz := s.heap.size)
  generalize hAe : va_A (zw_x9 kx kv kd ke kt kr ++ zw_co tt kv bv ++ zw_co tt kd bd ++ zw_hi tt kx bh ++ zw_ex tt ke be ++ zw_tx tt kt bt ++ zw_rh tt kr br) s.heap.size = A at hD ⊢
  have hA : ∀ q : Nat, s.heap.size ≤ q → A q := fun q h => by rw [← hAe]; exact Or.inr h
  have hS : va_S A s.heap s.heap [] := va_S.rf
  have hfin : ∀ (v : Int32) (bv : zV) (bd : zV) (bh : zH) (pc : Nat) (ls : Array Slot) (H : Heap) (locs : List Loc), some (v, bv, bd, bh) = some out → narrow .int (.int v) = .int v → va_P D vwCl (zw_x9 kx kv kd ke kt kr ++ zw_co tt kv bv ++ zw_co tt kd bd ++ zw_hi tt kx bh ++ zw_ex tt ke be ++ zw_tx tt kt bt ++ zw_rh tt kr br) H → va_D A (zw_x9 kx kv kd ke kt kr ++ zw_co tt kv bv ++ zw_co tt kd bd ++ zw_hi tt kx bh ++ zw_ex tt ke be ++ zw_tx tt kt bt ++ zw_rh tt kr br) → va_S A s.heap H locs → decode cX9_round pc = .ok (.ireturn, 1) → W p l e (headSpec wsX9_round { frames := 6, cells := 0, slots := 0, locals := 145 }).room s m args below meth c H locs 0 0 (MQ below (zMi .int out.1 D (zw_x9 kx kv kd ke kt kr ++ zw_co tt kv out.2.1 ++ zw_co tt kd out.2.2.1 ++ zw_hi tt kx out.2.2.2 ++ zw_ex tt ke be ++ zw_tx tt kt bt ++ zw_rh tt kr br) A) args s 0 0 A) (F0 m pc ls [.int v]) := by
    intro v bv bd bh pc ls H locs he hn hP hD hS hd
    cases he
    exact W.zret hx hb hr hn (fun t ht hW => ⟨⟨_, (), rfl, ⟨rfl, hn⟩, by rw [ht]; exact hP, hD⟩, hS.F ht⟩) hS.2.2 hd
  generalize MQ below (zMi .int out.1 D (zw_x9 kx kv kd ke kt kr ++ zw_co tt kv out.2.1 ++ zw_co tt kd out.2.2.1 ++ zw_hi tt kx out.2.2.2 ++ zw_ex tt ke be ++ zw_tx tt kt bt ++ zw_rh tt kr br) A) args s 0 0 A = Q at hfin ⊢
  have hl := lv_entry ([.ref (kx 0), .int x1, .int x2, .int x3]) (n := 4) (Nat.le_of_ble_eq_true rfl)
  refine W.eq (g2 := F0 m 0 ((lg_sl ([.ref (kx 0), .int x1, .int x2, .int x3]) ++ List.replicate (4 - (lg_sl ([.ref (kx 0), .int x1, .int x2, .int x3])).length) Slot.unset).toArray) []) (by rw [ha]; exact lg_entry_eq _ _ _) ?_
  generalize (lg_sl ([.ref (kx 0), .int x1, .int x2, .int x3]) ++ List.replicate (4 - (lg_sl ([.ref (kx 0), .int x1, .int x2, .int x3])).length) Slot.unset).toArray = ls at hl ⊢
  have hl : lv_has ls 4 [(0, .ref (kx 0)), (1, .int x1), (2, .int x2), (3, .int x3)] := hl
  rw [f_X9_round] at h
  refine lv_aload_n hx hb dX9_round_0 rfl (lv_at hl 0 rfl) ?_
  refine lv_aload_n hx hb dX9_round_1 rfl (lv_at hl 0 rfl) ?_
  obtain ⟨y1, gy1, h⟩ := zb_some h
  have hFc := z_free0 hD hS hA
  refine z_callmr (q := kd 0) (wc := (zw_x9 kx kv kd ke kt kr ++ zw_co tt kv bv ++ zw_co tt kd bd ++ zw_hi tt kx bh ++ zw_ex tt ke be ++ zw_tx tt kt bt ++ zw_rh tt kr br)) (w1 := (zw_x9 kx kv kd ke kt kr ++ zw_co tt kv bv ++ zw_co tt kd y1 ++ zw_hi tt kx bh ++ zw_ex tt ke be ++ zw_tx tt kt bt ++ zw_rh tt kr br)) (va_runV (As := []) (rest := [.ref (kx 0)]) ⟨hx, hb, hml, hown, hts⟩ (c_X9_newDraft l D tt kx kv kd ke kt kr _ bv bd bh be bt br y1 gy1) (cwV 0 hts gX9_round_X9_newDraft rfl rfl rfl (by decide +kernel) ⟨Nat.le_of_ble_eq_true rfl, Nat.le_of_ble_eq_true rfl⟩) (z_preVm hK hP hD (ci := 9) (q0 := 0) rfl rfl) rfl rfl hl.1 rfl (lv_room (Nat.le_of_ble_eq_true rfl)) dX9_round_2 ⟨Nat.zero_le _, Nat.zero_le _⟩) hS hFc (fun H locs hP1 hD1 hk1 hS => ?_)
  have hP := hP1
  have hD := hD1.weaken (fun _ q _ h => hFc q.1 h)
  refine lv_iload_n hx hb dX9_round_5 rfl (lv_at hl 1 rfl) ?_
  refine lv_iload_n hx hb dX9_round_6 rfl (lv_at hl 2 rfl) ?_
  refine lv_iload_n hx hb dX9_round_7 rfl (lv_at hl 3 rfl) ?_
  obtain ⟨y2, gy2, h⟩ := zb_some h
  have hpm : List.Perm (zw_x9 kx kv kd ke kt kr ++ zw_co tt kv bv ++ zw_co tt kd y1 ++ zw_hi tt kx bh ++ zw_ex tt ke be ++ zw_tx tt kt bt ++ zw_rh tt kr br) ((zw_co tt kd y1) ++ (zw_x9 kx kv kd ke kt kr ++ zw_co tt kv bv ++ zw_hi tt kx bh ++ zw_ex tt ke be ++ zw_tx tt kt bt ++ zw_rh tt kr br)) := z_pm (fun _ x => by simp only [List.count_append, List.count_nil] <;> omega)
  have hPc := z_takeP hpm hP
  have hDc := z_takeD hpm hD
  have hFc := z_free0 hDc hS hA
  refine z_callmi (wc := (zw_co tt kd y1)) (w1 := (zw_co tt kd y2.2)) (va_runV (As := [.int x1, .int x2, .int x3]) (rest := [.ref (kx 0)]) ⟨hx, hb, hml, hown, hts⟩ (c_X2_beginRound l D tt kd _ y1 x1 x2 x3 y2 gy2) (cwV 3 hts gX9_round_X2_beginRound rfl rfl rfl (by decide +kernel) ⟨Nat.le_of_ble_eq_true rfl, Nat.le_of_ble_eq_true rfl⟩) (z_preVm hK hPc hDc (ci := 2) (q0 := 0) rfl rfl) rfl rfl hl.1 rfl (lv_room (Nat.le_of_ble_eq_true rfl)) dX9_round_8 ⟨Nat.zero_le _, Nat.zero_le _⟩) hS hFc (fun H locs ny2 hP1 hD1 hk1 hS => ?_)
  have hpm2 : List.Perm (zw_x9 kx kv kd ke kt kr ++ zw_co tt kv bv ++ zw_co tt kd y2.2 ++ zw_hi tt kx bh ++ zw_ex tt ke be ++ zw_tx tt kt bt ++ zw_rh tt kr br) ((zw_co tt kd y2.2) ++ (zw_x9 kx kv kd ke kt kr ++ zw_co tt kv bv ++ zw_hi tt kx bh ++ zw_ex tt ke be ++ zw_tx tt kt bt ++ zw_rh tt kr br)) := z_pm (fun _ x => by simp only [List.count_append, List.count_nil] <;> omega)
  obtain ⟨hP, hD⟩ := z_joinB hpm hpm2 hP hD hk1 hFc hP1 hD1
  clear hpm hpm2
  have hP : va_P D vwCl (zw_x9 kx kv kd ke kt kr ++ zw_co tt kv bv ++ zw_co tt kd y2.2 ++ zw_hi tt kx bh ++ zw_ex tt ke be ++ zw_tx tt kt bt ++ zw_rh tt kr br) H := hP
  have hD : va_D A (zw_x9 kx kv kd ke kt kr ++ zw_co tt kv bv ++ zw_co tt kd y2.2 ++ zw_hi tt kx bh ++ zw_ex tt ke be ++ zw_tx tt kt bt ++ zw_rh tt kr br) := hD
  obtain ⟨y3, gy3, h⟩ := zb_some h
  have hFc := z_free0 hD hS hA
  refine z_callmi (wc := (zw_x9 kx kv kd ke kt kr ++ zw_co tt kv bv ++ zw_co tt kd y2.2 ++ zw_hi tt kx bh ++ zw_ex tt ke be ++ zw_tx tt kt bt ++ zw_rh tt kr br)) (w1 := (zw_x9 kx kv kd ke kt kr ++ zw_co tt kv y3.2.1 ++ zw_co tt kd y2.2 ++ zw_hi tt kx y3.2.2 ++ zw_ex tt ke be ++ zw_tx tt kt bt ++ zw_rh tt kr br)) (va_runV (As := [.int y2.1]) (rest := []) ⟨hx, hb, hml, hown, hts⟩ (c_X9_accepted l D tt kx kv kd ke kt kr _ bv y2.2 bh be bt br y2.1 y3 gy3) (cwV 1 hts gX9_round_X9_accepted rfl rfl rfl (by decide +kernel) ⟨Nat.le_of_ble_eq_true rfl, Nat.le_of_ble_eq_true rfl⟩) (z_preVm hK hP hD (ci := 9) (q0 := 0) rfl rfl) rfl rfl hl.1 rfl (lv_room (Nat.le_of_ble_eq_true rfl)) dX9_round_11 ⟨Nat.zero_le _, Nat.zero_le _⟩) hS hFc (fun H locs ny3 hP1 hD1 hk1 hS => ?_)
  have hP := hP1
  have hD := hD1.weaken (fun _ q _ h => hFc q.1 h)
  exact hfin _ _ _ _ _ _ _ _ h rfl hP hD hS dX9_round_14
set_option maxHeartbeats 4000000 in
set_option maxRecDepth 100000 in
theorem c_X9_takeUp (l : Launch) (D : va_G) (tt : Nat → ClassId) (kx : Nat → Nat) (kv : Nat → Nat) (kd : Nat → Nat) (ke : Nat → Nat) (kt : Nat → Nat) (kr : Nat → Nat) (sz : Nat) (bv : zV) (bd : zV) (bh : zH) (be : zV) (bt : zV) (br : zV) (x1 : Int32) (x2 : Int32) (out : Int32 × zV × zV × zH) (h : f_X9_takeUp bv bd bh be bt br x1 x2 = some out) : Met l yX9_takeUp wsX9_takeUp { frames := 6, cells := 0, slots := 0, locals := 145 } (zPm [.ref (kx 0), .int x1, .int x2] D tt (zw_x9 kx kv kd ke kt kr ++ zw_co tt kv bv ++ zw_co tt kd bd ++ zw_hi tt kx bh ++ zw_ex tt ke be ++ zw_tx tt kt bt ++ zw_rh tt kr br) sz) (zMi .int out.1 D (zw_x9 kx kv kd ke kt kr ++ zw_co tt kv out.2.1 ++ zw_co tt kd out.2.2.1 ++ zw_hi tt kx out.2.2.2 ++ zw_ex tt ke be ++ zw_tx tt kt bt ++ zw_rh tt kr br) (va_A (zw_x9 kx kv kd ke kt kr ++ zw_co tt kv bv ++ zw_co tt kd bd ++ zw_hi tt kx bh ++ zw_ex tt ke be ++ zw_tx tt kt bt ++ zw_rh tt kr br) sz)) 0 0 (va_A (zw_x9 kx kv kd ke kt kr ++ zw_co tt kv bv ++ zw_co tt kd bd ++ zw_hi tt kx bh ++ zw_ex tt ke be ++ zw_tx tt kt bt ++ zw_rh tt kr br) sz) := by
  refine Met.ofW (cc := cX9_takeUp) (maxL := 3) (ret := (some .int)) (by decide) rfl ?_
  intro p e s m args below meth c s₁ B hml hv
  obtain ⟨ha, hsz, hP, hK, hD0⟩ := hv
  have hx := B.exec
  have hb := B.bytes
  have hr := B.returns
  have hts := atoms_spec (ws := wsX9_takeUp) B.pre
  have hown : s.vm.findClass RX9 = some m.cls := findClass_of_methodNamed B.named
  have hlocks := B.notSynchronized
  subst hsz
  have hD := hD0.self (sz := s.heap.size)
  generalize hAe : va_A (zw_x9 kx kv kd ke kt kr ++ zw_co tt kv bv ++ zw_co tt kd bd ++ zw_hi tt kx bh ++ zw_ex tt ke be ++ zw_tx tt kt bt ++ zw_rh tt kr br) s.heap.size = A at hD ⊢
  have hA : ∀ q : Nat, s.heap.size ≤ q → A q := fun q h => by rw [← hAe]; exact Or.inr h
  have hS : va_S A s.heap s.heap [] := va_S.rf
  have hfin : ∀ (v : Int32) (bv : zV) (bd : zV) (bh : zH) (pc : Nat) (ls : Array Slot) (H : Heap) (locs : List Loc), some (v, bv, bd, bh) = some out → narrow .int (.int v) = .int v → va_P D vwCl (zw_x9 kx kv kd ke kt kr ++ zw_co tt kv bv ++ zw_co tt kd bd ++ zw_hi tt kx bh ++ zw_ex tt ke be ++ zw_tx tt kt bt ++ zw_rh tt kr br) H → va_D A (zw_x9 kx kv kd ke kt kr ++ zw_co tt kv bv ++ zw_co tt kd bd ++ zw_hi tt kx bh ++ zw_ex tt ke be ++ zw_tx tt kt bt ++ zw_rh tt kr br) → va_S A s.heap H locs → decode cX9_takeUp pc = .ok (.ireturn, 1) → W p l e (headSpec wsX9_takeUp { frames := 6, cells := 0, slots := 0, locals := 145 }).room s m args below meth c H locs 0 0 (MQ below (zMi .int out.1 D (zw_x9 kx kv kd ke kt kr ++ zw_co tt kv out.2.1 ++ zw_co tt kd out.2.2.1 ++ zw_hi tt kx out.2.2.2 ++ zw_ex tt ke be ++ zw_tx tt kt bt ++ zw_rh tt kr br) A) args s 0 0 A) (F0 m pc ls [.int v]) := by
    intro v bv bd bh pc ls H locs he hn hP hD hS hd
    cases he
    exact W.zret hx hb hr hn (fun t ht hW => ⟨⟨_, (), rfl, ⟨rfl, hn⟩, by rw [ht]; exact hP, hD⟩, hS.F ht⟩) hS.2.2 hd
  generalize MQ below (zMi .int out.1 D (zw_x9 kx kv kd ke kt kr ++ zw_co tt kv out.2.1 ++ zw_co tt kd out.2.2.1 ++ zw_hi tt kx out.2.2.2 ++ zw_ex tt ke be ++ zw_tx tt kt bt ++ zw_rh tt kr br) A) args s 0 0 A = Q at hfin ⊢
  have hl := lv_entry ([.ref (kx 0), .int x1, .int x2]) (n := 3) (Nat.le_of_ble_eq_true rfl)
  refine W.eq (g2 := F0 m 0 ((lg_sl ([.ref (kx 0), .int x1, .int x2]) ++ List.replicate (3 - (lg_sl ([.ref (kx 0), .int x1, .int x2])).length) Slot.unset).toArray) []) (by rw [ha]; exact lg_entry_eq _ _ _) ?_
  generalize (lg_sl ([.ref (kx 0), .int x1, .int x2]) ++ List.replicate (3 - (lg_sl ([.ref (kx 0), .int x1, .int x2])).length) Slot.unset).toArray = ls at hl ⊢
  have hl : lv_has ls 3 [(0, .ref (kx 0)), (1, .int x1), (2, .int x2)] := hl
  rw [f_X9_takeUp] at h
  refine lv_aload_n hx hb dX9_takeUp_0 rfl (lv_at hl 0 rfl) ?_
  refine lv_aload_n hx hb dX9_takeUp_1 rfl (lv_at hl 0 rfl) ?_
  obtain ⟨y1, gy1, h⟩ := zb_some h
  have hFc := z_free0 hD hS hA
  refine z_callmr (q := kd 0) (wc := (zw_x9 kx kv kd ke kt kr ++ zw_co tt kv bv ++ zw_co tt kd bd ++ zw_hi tt kx bh ++ zw_ex tt ke be ++ zw_tx tt kt bt ++ zw_rh tt kr br)) (w1 := (zw_x9 kx kv kd ke kt kr ++ zw_co tt kv bv ++ zw_co tt kd y1 ++ zw_hi tt kx bh ++ zw_ex tt ke be ++ zw_tx tt kt bt ++ zw_rh tt kr br)) (va_runV (As := []) (rest := [.ref (kx 0)]) ⟨hx, hb, hml, hown, hts⟩ (c_X9_newDraft l D tt kx kv kd ke kt kr _ bv bd bh be bt br y1 gy1) (cwV 0 hts gX9_takeUp_X9_newDraft rfl rfl rfl (by decide +kernel) ⟨Nat.le_of_ble_eq_true rfl, Nat.le_of_ble_eq_true rfl⟩) (z_preVm hK hP hD (ci := 9) (q0 := 0) rfl rfl) rfl rfl hl.1 rfl (lv_room (Nat.le_of_ble_eq_true rfl)) dX9_takeUp_2 ⟨Nat.zero_le _, Nat.zero_le _⟩) hS hFc (fun H locs hP1 hD1 hk1 hS => ?_)
  have hP := hP1
  have hD := hD1.weaken (fun _ q _ h => hFc q.1 h)
  refine lv_iload_n hx hb dX9_takeUp_5 rfl (lv_at hl 1 rfl) ?_
  refine lv_iload_n hx hb dX9_takeUp_6 rfl (lv_at hl 2 rfl) ?_
  obtain ⟨y2, gy2, h⟩ := zb_some h
  have hpm : List.Perm (zw_x9 kx kv kd ke kt kr ++ zw_co tt kv bv ++ zw_co tt kd y1 ++ zw_hi tt kx bh ++ zw_ex tt ke be ++ zw_tx tt kt bt ++ zw_rh tt kr br) ((zw_co tt kd y1) ++ (zw_x9 kx kv kd ke kt kr ++ zw_co tt kv bv ++ zw_hi tt kx bh ++ zw_ex tt ke be ++ zw_tx tt kt bt ++ zw_rh tt kr br)) := z_pm (fun _ x => by simp only [List.count_append, List.count_nil] <;> omega)
  have hPc := z_takeP hpm hP
  have hDc := z_takeD hpm hD
  have hFc := z_free0 hDc hS hA
  refine z_callmi (wc := (zw_co tt kd y1)) (w1 := (zw_co tt kd y2.2)) (va_runV (As := [.int x1, .int x2]) (rest := [.ref (kx 0)]) ⟨hx, hb, hml, hown, hts⟩ (c_X2_takeUpShares l D tt kd _ y1 x1 x2 y2 gy2) (cwV 2 hts gX9_takeUp_X2_takeUpShares rfl rfl rfl (by decide +kernel) ⟨Nat.le_of_ble_eq_true rfl, Nat.le_of_ble_eq_true rfl⟩) (z_preVm hK hPc hDc (ci := 2) (q0 := 0) rfl rfl) rfl rfl hl.1 rfl (lv_room (Nat.le_of_ble_eq_true rfl)) dX9_takeUp_7 ⟨Nat.zero_le _, Nat.zero_le _⟩) hS hFc (fun H locs ny2 hP1 hD1 hk1 hS => ?_)
  have hpm2 : List.Perm (zw_x9 kx kv kd ke kt kr ++ zw_co tt kv bv ++ zw_co tt kd y2.2 ++ zw_hi tt kx bh ++ zw_ex tt ke be ++ zw_tx tt kt bt ++ zw_rh tt kr br) ((zw_co tt kd y2.2) ++ (zw_x9 kx kv kd ke kt kr ++ zw_co tt kv bv ++ zw_hi tt kx bh ++ zw_ex tt ke be ++ zw_tx tt kt bt ++ zw_rh tt kr br)) := z_pm (fun _ x => by simp only [List.count_append, List.count_nil] <;> omega)
  obtain ⟨hP, hD⟩ := z_joinB hpm hpm2 hP hD hk1 hFc hP1 hD1
  clear hpm hpm2
  have hP : va_P D vwCl (zw_x9 kx kv kd ke kt kr ++ zw_co tt kv bv ++ zw_co tt kd y2.2 ++ zw_hi tt kx bh ++ zw_ex tt ke be ++ zw_tx tt kt bt ++ zw_rh tt kr br) H := hP
  have hD : va_D A (zw_x9 kx kv kd ke kt kr ++ zw_co tt kv bv ++ zw_co tt kd y2.2 ++ zw_hi tt kx bh ++ zw_ex tt ke be ++ zw_tx tt kt bt ++ zw_rh tt kr br) := hD
  obtain ⟨y3, gy3, h⟩ := zb_some h
  have hFc := z_free0 hD hS hA
  refine z_callmi (wc := (zw_x9 kx kv kd ke kt kr ++ zw_co tt kv bv ++ zw_co tt kd y2.2 ++ zw_hi tt kx bh ++ zw_ex tt ke be ++ zw_tx tt kt bt ++ zw_rh tt kr br)) (w1 := (zw_x9 kx kv kd ke kt kr ++ zw_co tt kv y3.2.1 ++ zw_co tt kd y2.2 ++ zw_hi tt kx y3.2.2 ++ zw_ex tt ke be ++ zw_tx tt kt bt ++ zw_rh tt kr br)) (va_runV (As := [.int y2.1]) (rest := []) ⟨hx, hb, hml, hown, hts⟩ (c_X9_accepted l D tt kx kv kd ke kt kr _ bv y2.2 bh be bt br y2.1 y3 gy3) (cwV 1 hts gX9_takeUp_X9_accepted rfl rfl rfl (by decide +kernel) ⟨Nat.le_of_ble_eq_true rfl, Nat.le_of_ble_eq_true rfl⟩) (z_preVm hK hP hD (ci := 9) (q0 := 0) rfl rfl) rfl rfl hl.1 rfl (lv_room (Nat.le_of_ble_eq_true rfl)) dX9_takeUp_10 ⟨Nat.zero_le _, Nat.zero_le _⟩) hS hFc (fun H locs ny3 hP1 hD1 hk1 hS => ?_)
  have hP := hP1
  have hD := hD1.weaken (fun _ q _ h => hFc q.1 h)
  exact hfin _ _ _ _ _ _ _ _ h rfl hP hD hS dX9_takeUp_13
set_option maxHeartbeats 4000000 in
set_option maxRecDepth 100000 in
theorem c_X9_close (l : Launch) (D : va_G) (tt : Nat → ClassId) (kx : Nat → Nat) (kv : Nat → Nat) (kd : Nat → Nat) (ke : Nat → Nat) (kt : Nat → Nat) (kr : Nat → Nat) (sz : Nat) (bv : zV) (bd : zV) (bh : zH) (be : zV) (bt : zV) (br : zV)  (out : Int32 × zV × zV × zH) (h : f_X9_close bv bd bh be bt br = some out) : Met l yX9_close wsX9_close { frames := 6, cells := 0, slots := 0, locals := 145 } (zPm [.ref (kx 0)] D tt (zw_x9 kx kv kd ke kt kr ++ zw_co tt kv bv ++ zw_co tt kd bd ++ zw_hi tt kx bh ++ zw_ex tt ke be ++ zw_tx tt kt bt ++ zw_rh tt kr br) sz) (zMi .int out.1 D (zw_x9 kx kv kd ke kt kr ++ zw_co tt kv out.2.1 ++ zw_co tt kd out.2.2.1 ++ zw_hi tt kx out.2.2.2 ++ zw_ex tt ke be ++ zw_tx tt kt bt ++ zw_rh tt kr br) (va_A (zw_x9 kx kv kd ke kt kr ++ zw_co tt kv bv ++ zw_co tt kd bd ++ zw_hi tt kx bh ++ zw_ex tt ke be ++ zw_tx tt kt bt ++ zw_rh tt kr br) sz)) 0 0 (va_A (zw_x9 kx kv kd ke kt kr ++ zw_co tt kv bv ++ zw_co tt kd bd ++ zw_hi tt kx bh ++ zw_ex tt ke be ++ zw_tx tt kt bt ++ zw_rh tt kr br) sz) := by
  refine Met.ofW (cc := cX9_close) (maxL := 1) (ret := (some .int)) (by decide) rfl ?_
  intro p e s m args below meth c s₁ B hml hv
  obtain ⟨ha, hsz, hP, hK, hD0⟩ := hv
  have hx := B.exec
  have hb := B.bytes
  have hr := B.returns
  have hts := atoms_spec (ws := wsX9_close) B.pre
  have hown : s.vm.findClass RX9 = some m.cls := findClass_of_methodNamed B.named
  have hlocks := B.notSynchronized
  subst hsz
  have hD := hD0.self (sz := s.heap.size)
  generalize hAe : va_A (zw_x9 kx kv kd ke kt kr ++ zw_co tt kv bv ++ zw_co tt kd bd ++ zw_hi tt kx bh ++ zw_ex tt ke be ++ zw_tx tt kt bt ++ zw_rh tt kr br) s.heap.size = A at hD ⊢
  have hA : ∀ q : Nat, s.heap.size ≤ q → A q := fun q h => by rw [← hAe]; exact Or.inr h
  have hS : va_S A s.heap s.heap [] := va_S.rf
  have hfin : ∀ (v : Int32) (bv : zV) (bd : zV) (bh : zH) (pc : Nat) (ls : Array Slot) (H : Heap) (locs : List Loc), some (v, bv, bd, bh) = some out → narrow .int (.int v) = .int v → va_P D vwCl (zw_x9 kx kv kd ke kt kr ++ zw_co tt kv bv ++ zw_co tt kd bd ++ zw_hi tt kx bh ++ zw_ex tt ke be ++ zw_tx tt kt bt ++ zw_rh tt kr br) H → va_D A (zw_x9 kx kv kd ke kt kr ++ zw_co tt kv bv ++ zw_co tt kd bd ++ zw_hi tt kx bh ++ zw_ex tt ke be ++ zw_tx tt kt bt ++ zw_rh tt kr br) → va_S A s.heap H locs → decode cX9_close pc = .ok (.ireturn, 1) → W p l e (headSpec wsX9_close { frames := 6, cells := 0, slots := 0, locals := 145 }).room s m args below meth c H locs 0 0 (MQ below (zMi .int out.1 D (zw_x9 kx kv kd ke kt kr ++ zw_co tt kv out.2.1 ++ zw_co tt kd out.2.2.1 ++ zw_hi tt kx out.2.2.2 ++ zw_ex tt ke be ++ zw_tx tt kt bt ++ zw_rh tt kr br) A) args s 0 0 A) (F0 m pc ls [.int v]) := by
    intro v bv bd bh pc ls H locs he hn hP hD hS hd
    cases he
    exact W.zret hx hb hr hn (fun t ht hW => ⟨⟨_, (), rfl, ⟨rfl, hn⟩, by rw [ht]; exact hP, hD⟩, hS.F ht⟩) hS.2.2 hd
  generalize MQ below (zMi .int out.1 D (zw_x9 kx kv kd ke kt kr ++ zw_co tt kv out.2.1 ++ zw_co tt kd out.2.2.1 ++ zw_hi tt kx out.2.2.2 ++ zw_ex tt ke be ++ zw_tx tt kt bt ++ zw_rh tt kr br) A) args s 0 0 A = Q at hfin ⊢
  have hl := lv_entry ([.ref (kx 0)]) (n := 1) (Nat.le_of_ble_eq_true rfl)
  refine W.eq (g2 := F0 m 0 ((lg_sl ([.ref (kx 0)]) ++ List.replicate (1 - (lg_sl ([.ref (kx 0)])).length) Slot.unset).toArray) []) (by rw [ha]; exact lg_entry_eq _ _ _) ?_
  generalize (lg_sl ([.ref (kx 0)]) ++ List.replicate (1 - (lg_sl ([.ref (kx 0)])).length) Slot.unset).toArray = ls at hl ⊢
  have hl : lv_has ls 1 [(0, .ref (kx 0))] := hl
  rw [f_X9_close] at h
  refine lv_aload_n hx hb dX9_close_0 rfl (lv_at hl 0 rfl) ?_
  refine lv_aload_n hx hb dX9_close_1 rfl (lv_at hl 0 rfl) ?_
  obtain ⟨y1, gy1, h⟩ := zb_some h
  have hFc := z_free0 hD hS hA
  refine z_callmr (q := kd 0) (wc := (zw_x9 kx kv kd ke kt kr ++ zw_co tt kv bv ++ zw_co tt kd bd ++ zw_hi tt kx bh ++ zw_ex tt ke be ++ zw_tx tt kt bt ++ zw_rh tt kr br)) (w1 := (zw_x9 kx kv kd ke kt kr ++ zw_co tt kv bv ++ zw_co tt kd y1 ++ zw_hi tt kx bh ++ zw_ex tt ke be ++ zw_tx tt kt bt ++ zw_rh tt kr br)) (va_runV (As := []) (rest := [.ref (kx 0)]) ⟨hx, hb, hml, hown, hts⟩ (c_X9_newDraft l D tt kx kv kd ke kt kr _ bv bd bh be bt br y1 gy1) (cwV 0 hts gX9_close_X9_newDraft rfl rfl rfl (by decide +kernel) ⟨Nat.le_of_ble_eq_true rfl, Nat.le_of_ble_eq_true rfl⟩) (z_preVm hK hP hD (ci := 9) (q0 := 0) rfl rfl) rfl rfl hl.1 rfl (lv_room (Nat.le_of_ble_eq_true rfl)) dX9_close_2 ⟨Nat.zero_le _, Nat.zero_le _⟩) hS hFc (fun H locs hP1 hD1 hk1 hS => ?_)
  have hP := hP1
  have hD := hD1.weaken (fun _ q _ h => hFc q.1 h)
  obtain ⟨y2, gy2, h⟩ := zb_some h
  have hpm : List.Perm (zw_x9 kx kv kd ke kt kr ++ zw_co tt kv bv ++ zw_co tt kd y1 ++ zw_hi tt kx bh ++ zw_ex tt ke be ++ zw_tx tt kt bt ++ zw_rh tt kr br) ((zw_co tt kd y1) ++ (zw_x9 kx kv kd ke kt kr ++ zw_co tt kv bv ++ zw_hi tt kx bh ++ zw_ex tt ke be ++ zw_tx tt kt bt ++ zw_rh tt kr br)) := z_pm (fun _ x => by simp only [List.count_append, List.count_nil] <;> omega)
  have hPc := z_takeP hpm hP
  have hDc := z_takeD hpm hD
  have hFc := z_free0 hDc hS hA
  refine z_callmi (wc := (zw_co tt kd y1)) (w1 := (zw_co tt kd y2.2)) (va_runV (As := []) (rest := [.ref (kx 0)]) ⟨hx, hb, hml, hown, hts⟩ (c_X2_closeRound l D tt kd _ y1 y2 gy2) (cwV 0 hts gX9_close_X2_closeRound rfl rfl rfl (by decide +kernel) ⟨Nat.le_of_ble_eq_true rfl, Nat.le_of_ble_eq_true rfl⟩) (z_preVm hK hPc hDc (ci := 2) (q0 := 0) rfl rfl) rfl rfl hl.1 rfl (lv_room (Nat.le_of_ble_eq_true rfl)) dX9_close_5 ⟨Nat.zero_le _, Nat.zero_le _⟩) hS hFc (fun H locs ny2 hP1 hD1 hk1 hS => ?_)
  have hpm2 : List.Perm (zw_x9 kx kv kd ke kt kr ++ zw_co tt kv bv ++ zw_co tt kd y2.2 ++ zw_hi tt kx bh ++ zw_ex tt ke be ++ zw_tx tt kt bt ++ zw_rh tt kr br) ((zw_co tt kd y2.2) ++ (zw_x9 kx kv kd ke kt kr ++ zw_co tt kv bv ++ zw_hi tt kx bh ++ zw_ex tt ke be ++ zw_tx tt kt bt ++ zw_rh tt kr br)) := z_pm (fun _ x => by simp only [List.count_append, List.count_nil] <;> omega)
  obtain ⟨hP, hD⟩ := z_joinB hpm hpm2 hP hD hk1 hFc hP1 hD1
  clear hpm hpm2
  have hP : va_P D vwCl (zw_x9 kx kv kd ke kt kr ++ zw_co tt kv bv ++ zw_co tt kd y2.2 ++ zw_hi tt kx bh ++ zw_ex tt ke be ++ zw_tx tt kt bt ++ zw_rh tt kr br) H := hP
  have hD : va_D A (zw_x9 kx kv kd ke kt kr ++ zw_co tt kv bv ++ zw_co tt kd y2.2 ++ zw_hi tt kx bh ++ zw_ex tt ke be ++ zw_tx tt kt bt ++ zw_rh tt kr br) := hD
  obtain ⟨y3, gy3, h⟩ := zb_some h
  have hFc := z_free0 hD hS hA
  refine z_callmi (wc := (zw_x9 kx kv kd ke kt kr ++ zw_co tt kv bv ++ zw_co tt kd y2.2 ++ zw_hi tt kx bh ++ zw_ex tt ke be ++ zw_tx tt kt bt ++ zw_rh tt kr br)) (w1 := (zw_x9 kx kv kd ke kt kr ++ zw_co tt kv y3.2.1 ++ zw_co tt kd y2.2 ++ zw_hi tt kx y3.2.2 ++ zw_ex tt ke be ++ zw_tx tt kt bt ++ zw_rh tt kr br)) (va_runV (As := [.int y2.1]) (rest := []) ⟨hx, hb, hml, hown, hts⟩ (c_X9_accepted l D tt kx kv kd ke kt kr _ bv y2.2 bh be bt br y2.1 y3 gy3) (cwV 1 hts gX9_close_X9_accepted rfl rfl rfl (by decide +kernel) ⟨Nat.le_of_ble_eq_true rfl, Nat.le_of_ble_eq_true rfl⟩) (z_preVm hK hP hD (ci := 9) (q0 := 0) rfl rfl) rfl rfl hl.1 rfl (lv_room (Nat.le_of_ble_eq_true rfl)) dX9_close_8 ⟨Nat.zero_le _, Nat.zero_le _⟩) hS hFc (fun H locs ny3 hP1 hD1 hk1 hS => ?_)
  have hP := hP1
  have hD := hD1.weaken (fun _ q _ h => hFc q.1 h)
  exact hfin _ _ _ _ _ _ _ _ h rfl hP hD hS dX9_close_11
set_option maxHeartbeats 4000000 in
set_option maxRecDepth 100000 in
theorem c_X9_roundOf (l : Launch) (D : va_G) (tt : Nat → ClassId) (kx : Nat → Nat) (kv : Nat → Nat) (kd : Nat → Nat) (ke : Nat → Nat) (kt : Nat → Nat) (kr : Nat → Nat) (bv : zV) (bd : zV) (bh : zH) (be : zV) (bt : zV) (br : zV) (x1 : Int32) (x2 : Int32) (out : Int32) (h : f_X9_roundOf bv bd bh be bt br x1 x2 = some out) : Met l yX9_roundOf wsX9_roundOf { frames := 3, cells := 0, slots := 0, locals := 65 } (zPr [.ref (kx 0), .int x1, .int x2] D tt (zw_x9 kx kv kd ke kt kr ++ zw_co tt kv bv ++ zw_co tt kd bd ++ zw_hi tt kx bh ++ zw_ex tt ke be ++ zw_tx tt kt bt ++ zw_rh tt kr br)) (zQr .int out) 0 0 (fun _ => False) := by
  refine Met.ofW (cc := cX9_roundOf) (maxL := 3) (ret := (some .int)) (by decide) rfl ?_
  intro p e s m args below meth c s₁ B hml hv
  obtain ⟨ha, hP, hK⟩ := hv
  have hx := B.exec
  have hb := B.bytes
  have hr := B.returns
  have hts := atoms_spec (ws := wsX9_roundOf) B.pre
  have hown : s.vm.findClass RX9 = some m.cls := findClass_of_methodNamed B.named
  have hlocks := B.notSynchronized
  have hi9 : ∀ w ∈ u_ws RX9 TX9 6, w ∈ wsX9_roundOf := fun _ h => List.mem_cons_of_mem _ (List.mem_append_left _ (List.mem_append_left _ (List.mem_append_right _ h)))
  have fl10 := hts (.fieldLink RX9 10 "CapStacks" "company" "LCapStacks$Company;") (by decide +kernel)
  have hfin : ∀ (v : Int32) (pc : Nat) (ls : Array Slot), some v = some out → narrow .int (.int v) = .int v → decode cX9_roundOf pc = .ok (.ireturn, 1) → W p l e (headSpec wsX9_roundOf { frames := 3, cells := 0, slots := 0, locals := 65 }).room s m args below meth c s.heap [] 0 0 (MQ below (zQr .int out) args s 0 0 (fun _ => False)) (F0 m pc ls [.int v]) := by
    intro v pc ls he hn hd
    cases he
    exact W.zret hx hb hr hn (fun t ht hW => ⟨rfl, hn, ht⟩) (fun _ h => by cases h) hd
  generalize MQ below (zQr .int out) args s 0 0 (fun _ => False) = Q at hfin ⊢
  have hl := lv_entry ([.ref (kx 0), .int x1, .int x2]) (n := 3) (Nat.le_of_ble_eq_true rfl)
  refine W.eq (g2 := F0 m 0 ((lg_sl ([.ref (kx 0), .int x1, .int x2]) ++ List.replicate (3 - (lg_sl ([.ref (kx 0), .int x1, .int x2])).length) Slot.unset).toArray) []) (by rw [ha]; exact lg_entry_eq _ _ _) ?_
  generalize (lg_sl ([.ref (kx 0), .int x1, .int x2]) ++ List.replicate (3 - (lg_sl ([.ref (kx 0), .int x1, .int x2])).length) Slot.unset).toArray = ls at hl ⊢
  have hl : lv_has ls 3 [(0, .ref (kx 0)), (1, .int x1), (2, .int x2)] := hl
  rw [f_X9_roundOf] at h
  refine lv_aload_n hx hb dX9_roundOf_0 rfl (lv_at hl 0 rfl) ?_
  refine va_get (D := D) (ci := 9) (v := .ref (kv 0)) (C := RX9) (T := TX9) (N := 6) hx hb hts hi9 hown hK.1 hP 0 rfl rfl 0 (by decide) fl10 (fun _ h9 => h9) rfl dX9_roundOf_1 ?_
  refine lv_iload_n hx hb dX9_roundOf_4 rfl (lv_at hl 1 rfl) ?_
  refine lv_iload_n hx hb dX9_roundOf_5 rfl (lv_at hl 2 rfl) ?_
  obtain ⟨y1, gy1, h⟩ := zb_some h
  have hpm : List.Perm (zw_x9 kx kv kd ke kt kr ++ zw_co tt kv bv ++ zw_co tt kd bd ++ zw_hi tt kx bh ++ zw_ex tt ke be ++ zw_tx tt kt bt ++ zw_rh tt kr br) ((zw_co tt kv bv) ++ (zw_x9 kx kv kd ke kt kr ++ zw_co tt kd bd ++ zw_hi tt kx bh ++ zw_ex tt ke be ++ zw_tx tt kt bt ++ zw_rh tt kr br)) := z_pm (fun _ x => by simp only [List.count_append, List.count_nil] <;> omega)
  refine z_callr (va_runV (As := [.int x1, .int x2]) (rest := []) ⟨hx, hb, hml, hown, hts⟩ (c_X2_aboutRound l D tt kv bv x1 x2 y1 gy1) (cwV 2 hts gX9_roundOf_X2_aboutRound rfl rfl rfl (by decide +kernel) ⟨Nat.le_of_ble_eq_true rfl, Nat.le_of_ble_eq_true rfl⟩) (z_preVr hK (z_takeP hpm hP) (ci := 2) (q0 := 0) rfl rfl) rfl rfl hl.1 rfl (lv_room (Nat.le_of_ble_eq_true rfl)) dX9_roundOf_6 ⟨Nat.zero_le _, Nat.zero_le _⟩) (fun ny1 => ?_)
  exact hfin _ _ _ h rfl dX9_roundOf_9
set_option maxHeartbeats 4000000 in
set_option maxRecDepth 100000 in
theorem c_X9_classOf (l : Launch) (D : va_G) (tt : Nat → ClassId) (kx : Nat → Nat) (kv : Nat → Nat) (kd : Nat → Nat) (ke : Nat → Nat) (kt : Nat → Nat) (kr : Nat → Nat) (bv : zV) (bd : zV) (bh : zH) (be : zV) (bt : zV) (br : zV) (x1 : Int32) (x2 : Int32) (out : Int32) (h : f_X9_classOf bv bd bh be bt br x1 x2 = some out) : Met l yX9_classOf wsX9_classOf { frames := 3, cells := 0, slots := 0, locals := 65 } (zPr [.ref (kx 0), .int x1, .int x2] D tt (zw_x9 kx kv kd ke kt kr ++ zw_co tt kv bv ++ zw_co tt kd bd ++ zw_hi tt kx bh ++ zw_ex tt ke be ++ zw_tx tt kt bt ++ zw_rh tt kr br)) (zQr .int out) 0 0 (fun _ => False) := by
  refine Met.ofW (cc := cX9_classOf) (maxL := 3) (ret := (some .int)) (by decide) rfl ?_
  intro p e s m args below meth c s₁ B hml hv
  obtain ⟨ha, hP, hK⟩ := hv
  have hx := B.exec
  have hb := B.bytes
  have hr := B.returns
  have hts := atoms_spec (ws := wsX9_classOf) B.pre
  have hown : s.vm.findClass RX9 = some m.cls := findClass_of_methodNamed B.named
  have hlocks := B.notSynchronized
  have hi9 : ∀ w ∈ u_ws RX9 TX9 6, w ∈ wsX9_classOf := fun _ h => List.mem_cons_of_mem _ (List.mem_append_left _ (List.mem_append_left _ (List.mem_append_left _ (List.mem_append_right _ h))))
  have fl10 := hts (.fieldLink RX9 10 "CapStacks" "company" "LCapStacks$Company;") (by decide +kernel)
  have hfin : ∀ (v : Int32) (pc : Nat) (ls : Array Slot), some v = some out → narrow .int (.int v) = .int v → decode cX9_classOf pc = .ok (.ireturn, 1) → W p l e (headSpec wsX9_classOf { frames := 3, cells := 0, slots := 0, locals := 65 }).room s m args below meth c s.heap [] 0 0 (MQ below (zQr .int out) args s 0 0 (fun _ => False)) (F0 m pc ls [.int v]) := by
    intro v pc ls he hn hd
    cases he
    exact W.zret hx hb hr hn (fun t ht hW => ⟨rfl, hn, ht⟩) (fun _ h => by cases h) hd
  generalize MQ below (zQr .int out) args s 0 0 (fun _ => False) = Q at hfin ⊢
  have hl := lv_entry ([.ref (kx 0), .int x1, .int x2]) (n := 3) (Nat.le_of_ble_eq_true rfl)
  refine W.eq (g2 := F0 m 0 ((lg_sl ([.ref (kx 0), .int x1, .int x2]) ++ List.replicate (3 - (lg_sl ([.ref (kx 0), .int x1, .int x2])).length) Slot.unset).toArray) []) (by rw [ha]; exact lg_entry_eq _ _ _) ?_
  generalize (lg_sl ([.ref (kx 0), .int x1, .int x2]) ++ List.replicate (3 - (lg_sl ([.ref (kx 0), .int x1, .int x2])).length) Slot.unset).toArray = ls at hl ⊢
  have hl : lv_has ls 3 [(0, .ref (kx 0)), (1, .int x1), (2, .int x2)] := hl
  rw [f_X9_classOf] at h
  refine lv_aload_n hx hb dX9_classOf_0 rfl (lv_at hl 0 rfl) ?_
  refine va_get (D := D) (ci := 9) (v := .ref (kv 0)) (C := RX9) (T := TX9) (N := 6) hx hb hts hi9 hown hK.1 hP 0 rfl rfl 0 (by decide) fl10 (fun _ h9 => h9) rfl dX9_classOf_1 ?_
  refine lv_iload_n hx hb dX9_classOf_4 rfl (lv_at hl 1 rfl) ?_
  refine lv_iload_n hx hb dX9_classOf_5 rfl (lv_at hl 2 rfl) ?_
  obtain ⟨y1, gy1, h⟩ := zb_some h
  have hpm : List.Perm (zw_x9 kx kv kd ke kt kr ++ zw_co tt kv bv ++ zw_co tt kd bd ++ zw_hi tt kx bh ++ zw_ex tt ke be ++ zw_tx tt kt bt ++ zw_rh tt kr br) ((zw_co tt kv bv) ++ (zw_x9 kx kv kd ke kt kr ++ zw_co tt kd bd ++ zw_hi tt kx bh ++ zw_ex tt ke be ++ zw_tx tt kt bt ++ zw_rh tt kr br)) := z_pm (fun _ x => by simp only [List.count_append, List.count_nil] <;> omega)
  refine z_callr (va_runV (As := [.int x1, .int x2]) (rest := []) ⟨hx, hb, hml, hown, hts⟩ (c_X2_aboutClass l D tt kv bv x1 x2 y1 gy1) (cwV 2 hts gX9_classOf_X2_aboutClass rfl rfl rfl (by decide +kernel) ⟨Nat.le_of_ble_eq_true rfl, Nat.le_of_ble_eq_true rfl⟩) (z_preVr hK (z_takeP hpm hP) (ci := 2) (q0 := 0) rfl rfl) rfl rfl hl.1 rfl (lv_room (Nat.le_of_ble_eq_true rfl)) dX9_classOf_6 ⟨Nat.zero_le _, Nat.zero_le _⟩) (fun ny1 => ?_)
  exact hfin _ _ _ h rfl dX9_classOf_9
set_option maxHeartbeats 4000000 in
set_option maxRecDepth 100000 in
theorem c_X9_certificateOf (l : Launch) (D : va_G) (tt : Nat → ClassId) (kx : Nat → Nat) (kv : Nat → Nat) (kd : Nat → Nat) (ke : Nat → Nat) (kt : Nat → Nat) (kr : Nat → Nat) (bv : zV) (bd : zV) (bh : zH) (be : zV) (bt : zV) (br : zV) (x1 : Int32) (x2 : Int32) (out : Int32) (h : f_X9_certificateOf bv bd bh be bt br x1 x2 = some out) : Met l yX9_certificateOf wsX9_certificateOf { frames := 3, cells := 0, slots := 0, locals := 65 } (zPr [.ref (kx 0), .int x1, .int x2] D tt (zw_x9 kx kv kd ke kt kr ++ zw_co tt kv bv ++ zw_co tt kd bd ++ zw_hi tt kx bh ++ zw_ex tt ke be ++ zw_tx tt kt bt ++ zw_rh tt kr br)) (zQr .int out) 0 0 (fun _ => False) := by
  refine Met.ofW (cc := cX9_certificateOf) (maxL := 3) (ret := (some .int)) (by decide) rfl ?_
  intro p e s m args below meth c s₁ B hml hv
  obtain ⟨ha, hP, hK⟩ := hv
  have hx := B.exec
  have hb := B.bytes
  have hr := B.returns
  have hts := atoms_spec (ws := wsX9_certificateOf) B.pre
  have hown : s.vm.findClass RX9 = some m.cls := findClass_of_methodNamed B.named
  have hlocks := B.notSynchronized
  have hi9 : ∀ w ∈ u_ws RX9 TX9 6, w ∈ wsX9_certificateOf := fun _ h => List.mem_cons_of_mem _ (List.mem_append_left _ (List.mem_append_left _ (List.mem_append_right _ h)))
  have fl10 := hts (.fieldLink RX9 10 "CapStacks" "company" "LCapStacks$Company;") (by decide +kernel)
  have hfin : ∀ (v : Int32) (pc : Nat) (ls : Array Slot), some v = some out → narrow .int (.int v) = .int v → decode cX9_certificateOf pc = .ok (.ireturn, 1) → W p l e (headSpec wsX9_certificateOf { frames := 3, cells := 0, slots := 0, locals := 65 }).room s m args below meth c s.heap [] 0 0 (MQ below (zQr .int out) args s 0 0 (fun _ => False)) (F0 m pc ls [.int v]) := by
    intro v pc ls he hn hd
    cases he
    exact W.zret hx hb hr hn (fun t ht hW => ⟨rfl, hn, ht⟩) (fun _ h => by cases h) hd
  generalize MQ below (zQr .int out) args s 0 0 (fun _ => False) = Q at hfin ⊢
  have hl := lv_entry ([.ref (kx 0), .int x1, .int x2]) (n := 3) (Nat.le_of_ble_eq_true rfl)
  refine W.eq (g2 := F0 m 0 ((lg_sl ([.ref (kx 0), .int x1, .int x2]) ++ List.replicate (3 - (lg_sl ([.ref (kx 0), .int x1, .int x2])).length) Slot.unset).toArray) []) (by rw [ha]; exact lg_entry_eq _ _ _) ?_
  generalize (lg_sl ([.ref (kx 0), .int x1, .int x2]) ++ List.replicate (3 - (lg_sl ([.ref (kx 0), .int x1, .int x2])).length) Slot.unset).toArray = ls at hl ⊢
  have hl : lv_has ls 3 [(0, .ref (kx 0)), (1, .int x1), (2, .int x2)] := hl
  rw [f_X9_certificateOf] at h
  refine lv_aload_n hx hb dX9_certificateOf_0 rfl (lv_at hl 0 rfl) ?_
  refine va_get (D := D) (ci := 9) (v := .ref (kv 0)) (C := RX9) (T := TX9) (N := 6) hx hb hts hi9 hown hK.1 hP 0 rfl rfl 0 (by decide) fl10 (fun _ h9 => h9) rfl dX9_certificateOf_1 ?_
  refine lv_iload_n hx hb dX9_certificateOf_4 rfl (lv_at hl 1 rfl) ?_
  refine lv_iload_n hx hb dX9_certificateOf_5 rfl (lv_at hl 2 rfl) ?_
  obtain ⟨y1, gy1, h⟩ := zb_some h
  have hpm : List.Perm (zw_x9 kx kv kd ke kt kr ++ zw_co tt kv bv ++ zw_co tt kd bd ++ zw_hi tt kx bh ++ zw_ex tt ke be ++ zw_tx tt kt bt ++ zw_rh tt kr br) ((zw_co tt kv bv) ++ (zw_x9 kx kv kd ke kt kr ++ zw_co tt kd bd ++ zw_hi tt kx bh ++ zw_ex tt ke be ++ zw_tx tt kt bt ++ zw_rh tt kr br)) := z_pm (fun _ x => by simp only [List.count_append, List.count_nil] <;> omega)
  refine z_callr (va_runV (As := [.int x1, .int x2]) (rest := []) ⟨hx, hb, hml, hown, hts⟩ (c_X2_aboutCertificate l D tt kv bv x1 x2 y1 gy1) (cwV 2 hts gX9_certificateOf_X2_aboutCertificate rfl rfl rfl (by decide +kernel) ⟨Nat.le_of_ble_eq_true rfl, Nat.le_of_ble_eq_true rfl⟩) (z_preVr hK (z_takeP hpm hP) (ci := 2) (q0 := 0) rfl rfl) rfl rfl hl.1 rfl (lv_room (Nat.le_of_ble_eq_true rfl)) dX9_certificateOf_6 ⟨Nat.zero_le _, Nat.zero_le _⟩) (fun ny1 => ?_)
  exact hfin _ _ _ h rfl dX9_certificateOf_9
set_option maxHeartbeats 4000000 in
set_option maxRecDepth 100000 in
theorem c_X9_grantOf (l : Launch) (D : va_G) (tt : Nat → ClassId) (kx : Nat → Nat) (kv : Nat → Nat) (kd : Nat → Nat) (ke : Nat → Nat) (kt : Nat → Nat) (kr : Nat → Nat) (bv : zV) (bd : zV) (bh : zH) (be : zV) (bt : zV) (br : zV) (x1 : Int32) (x2 : Int32) (out : Int32) (h : f_X9_grantOf bv bd bh be bt br x1 x2 = some out) : Met l yX9_grantOf wsX9_grantOf { frames := 3, cells := 0, slots := 0, locals := 68 } (zPr [.ref (kx 0), .int x1, .int x2] D tt (zw_x9 kx kv kd ke kt kr ++ zw_co tt kv bv ++ zw_co tt kd bd ++ zw_hi tt kx bh ++ zw_ex tt ke be ++ zw_tx tt kt bt ++ zw_rh tt kr br)) (zQr .int out) 0 0 (fun _ => False) := by
  refine Met.ofW (cc := cX9_grantOf) (maxL := 3) (ret := (some .int)) (by decide) rfl ?_
  intro p e s m args below meth c s₁ B hml hv
  obtain ⟨ha, hP, hK⟩ := hv
  have hx := B.exec
  have hb := B.bytes
  have hr := B.returns
  have hts := atoms_spec (ws := wsX9_grantOf) B.pre
  have hown : s.vm.findClass RX9 = some m.cls := findClass_of_methodNamed B.named
  have hlocks := B.notSynchronized
  have hi9 : ∀ w ∈ u_ws RX9 TX9 6, w ∈ wsX9_grantOf := fun _ h => List.mem_cons_of_mem _ (List.mem_append_left _ (List.mem_append_left _ (List.mem_append_right _ h)))
  have fl10 := hts (.fieldLink RX9 10 "CapStacks" "company" "LCapStacks$Company;") (by decide +kernel)
  have hfin : ∀ (v : Int32) (pc : Nat) (ls : Array Slot), some v = some out → narrow .int (.int v) = .int v → decode cX9_grantOf pc = .ok (.ireturn, 1) → W p l e (headSpec wsX9_grantOf { frames := 3, cells := 0, slots := 0, locals := 68 }).room s m args below meth c s.heap [] 0 0 (MQ below (zQr .int out) args s 0 0 (fun _ => False)) (F0 m pc ls [.int v]) := by
    intro v pc ls he hn hd
    cases he
    exact W.zret hx hb hr hn (fun t ht hW => ⟨rfl, hn, ht⟩) (fun _ h => by cases h) hd
  generalize MQ below (zQr .int out) args s 0 0 (fun _ => False) = Q at hfin ⊢
  have hl := lv_entry ([.ref (kx 0), .int x1, .int x2]) (n := 3) (Nat.le_of_ble_eq_true rfl)
  refine W.eq (g2 := F0 m 0 ((lg_sl ([.ref (kx 0), .int x1, .int x2]) ++ List.replicate (3 - (lg_sl ([.ref (kx 0), .int x1, .int x2])).length) Slot.unset).toArray) []) (by rw [ha]; exact lg_entry_eq _ _ _) ?_
  generalize (lg_sl ([.ref (kx 0), .int x1, .int x2]) ++ List.replicate (3 - (lg_sl ([.ref (kx 0), .int x1, .int x2])).length) Slot.unset).toArray = ls at hl ⊢
  have hl : lv_has ls 3 [(0, .ref (kx 0)), (1, .int x1), (2, .int x2)] := hl
  rw [f_X9_grantOf] at h
  refine lv_aload_n hx hb dX9_grantOf_0 rfl (lv_at hl 0 rfl) ?_
  refine va_get (D := D) (ci := 9) (v := .ref (kv 0)) (C := RX9) (T := TX9) (N := 6) hx hb hts hi9 hown hK.1 hP 0 rfl rfl 0 (by decide) fl10 (fun _ h9 => h9) rfl dX9_grantOf_1 ?_
  refine lv_iload_n hx hb dX9_grantOf_4 rfl (lv_at hl 1 rfl) ?_
  refine lv_iload_n hx hb dX9_grantOf_5 rfl (lv_at hl 2 rfl) ?_
  obtain ⟨y1, gy1, h⟩ := zb_some h
  have hpm : List.Perm (zw_x9 kx kv kd ke kt kr ++ zw_co tt kv bv ++ zw_co tt kd bd ++ zw_hi tt kx bh ++ zw_ex tt ke be ++ zw_tx tt kt bt ++ zw_rh tt kr br) ((zw_co tt kv bv) ++ (zw_x9 kx kv kd ke kt kr ++ zw_co tt kd bd ++ zw_hi tt kx bh ++ zw_ex tt ke be ++ zw_tx tt kt bt ++ zw_rh tt kr br)) := z_pm (fun _ x => by simp only [List.count_append, List.count_nil] <;> omega)
  refine z_callr (va_runV (As := [.int x1, .int x2]) (rest := []) ⟨hx, hb, hml, hown, hts⟩ (c_X2_aboutGrant l D tt kv bv x1 x2 y1 gy1) (cwV 2 hts gX9_grantOf_X2_aboutGrant rfl rfl rfl (by decide +kernel) ⟨Nat.le_of_ble_eq_true rfl, Nat.le_of_ble_eq_true rfl⟩) (z_preVr hK (z_takeP hpm hP) (ci := 2) (q0 := 0) rfl rfl) rfl rfl hl.1 rfl (lv_room (Nat.le_of_ble_eq_true rfl)) dX9_grantOf_6 ⟨Nat.zero_le _, Nat.zero_le _⟩) (fun ny1 => ?_)
  exact hfin _ _ _ h rfl dX9_grantOf_9
set_option maxHeartbeats 4000000 in
set_option maxRecDepth 100000 in
theorem c_X9_holderOf (l : Launch) (D : va_G) (tt : Nat → ClassId) (kx : Nat → Nat) (kv : Nat → Nat) (kd : Nat → Nat) (ke : Nat → Nat) (kt : Nat → Nat) (kr : Nat → Nat) (bv : zV) (bd : zV) (bh : zH) (be : zV) (bt : zV) (br : zV) (x1 : Int32) (x2 : Int32) (out : Int32) (h : f_X9_holderOf bv bd bh be bt br x1 x2 = some out) : Met l yX9_holderOf wsX9_holderOf { frames := 4, cells := 0, slots := 0, locals := 91 } (zPr [.ref (kx 0), .int x1, .int x2] D tt (zw_x9 kx kv kd ke kt kr ++ zw_co tt kv bv ++ zw_co tt kd bd ++ zw_hi tt kx bh ++ zw_ex tt ke be ++ zw_tx tt kt bt ++ zw_rh tt kr br)) (zQr .int out) 0 0 (fun _ => False) := by
  refine Met.ofW (cc := cX9_holderOf) (maxL := 3) (ret := (some .int)) (by decide) rfl ?_
  intro p e s m args below meth c s₁ B hml hv
  obtain ⟨ha, hP, hK⟩ := hv
  have hx := B.exec
  have hb := B.bytes
  have hr := B.returns
  have hts := atoms_spec (ws := wsX9_holderOf) B.pre
  have hown : s.vm.findClass RX9 = some m.cls := findClass_of_methodNamed B.named
  have hlocks := B.notSynchronized
  have hi9 : ∀ w ∈ u_ws RX9 TX9 6, w ∈ wsX9_holderOf := fun _ h => List.mem_cons_of_mem _ (List.mem_append_left _ (List.mem_append_left _ (List.mem_append_left _ (List.mem_append_left _ (List.mem_append_right _ h)))))
  have fl10 := hts (.fieldLink RX9 10 "CapStacks" "company" "LCapStacks$Company;") (by decide +kernel)
  have hfin : ∀ (v : Int32) (pc : Nat) (ls : Array Slot), some v = some out → narrow .int (.int v) = .int v → decode cX9_holderOf pc = .ok (.ireturn, 1) → W p l e (headSpec wsX9_holderOf { frames := 4, cells := 0, slots := 0, locals := 91 }).room s m args below meth c s.heap [] 0 0 (MQ below (zQr .int out) args s 0 0 (fun _ => False)) (F0 m pc ls [.int v]) := by
    intro v pc ls he hn hd
    cases he
    exact W.zret hx hb hr hn (fun t ht hW => ⟨rfl, hn, ht⟩) (fun _ h => by cases h) hd
  generalize MQ below (zQr .int out) args s 0 0 (fun _ => False) = Q at hfin ⊢
  have hl := lv_entry ([.ref (kx 0), .int x1, .int x2]) (n := 3) (Nat.le_of_ble_eq_true rfl)
  refine W.eq (g2 := F0 m 0 ((lg_sl ([.ref (kx 0), .int x1, .int x2]) ++ List.replicate (3 - (lg_sl ([.ref (kx 0), .int x1, .int x2])).length) Slot.unset).toArray) []) (by rw [ha]; exact lg_entry_eq _ _ _) ?_
  generalize (lg_sl ([.ref (kx 0), .int x1, .int x2]) ++ List.replicate (3 - (lg_sl ([.ref (kx 0), .int x1, .int x2])).length) Slot.unset).toArray = ls at hl ⊢
  have hl : lv_has ls 3 [(0, .ref (kx 0)), (1, .int x1), (2, .int x2)] := hl
  rw [f_X9_holderOf] at h
  refine lv_aload_n hx hb dX9_holderOf_0 rfl (lv_at hl 0 rfl) ?_
  refine va_get (D := D) (ci := 9) (v := .ref (kv 0)) (C := RX9) (T := TX9) (N := 6) hx hb hts hi9 hown hK.1 hP 0 rfl rfl 0 (by decide) fl10 (fun _ h9 => h9) rfl dX9_holderOf_1 ?_
  refine lv_iload_n hx hb dX9_holderOf_4 rfl (lv_at hl 1 rfl) ?_
  refine lv_iload_n hx hb dX9_holderOf_5 rfl (lv_at hl 2 rfl) ?_
  obtain ⟨y1, gy1, h⟩ := zb_some h
  have hpm : List.Perm (zw_x9 kx kv kd ke kt kr ++ zw_co tt kv bv ++ zw_co tt kd bd ++ zw_hi tt kx bh ++ zw_ex tt ke be ++ zw_tx tt kt bt ++ zw_rh tt kr br) ((zw_co tt kv bv) ++ (zw_x9 kx kv kd ke kt kr ++ zw_co tt kd bd ++ zw_hi tt kx bh ++ zw_ex tt ke be ++ zw_tx tt kt bt ++ zw_rh tt kr br)) := z_pm (fun _ x => by simp only [List.count_append, List.count_nil] <;> omega)
  refine z_callr (va_runV (As := [.int x1, .int x2]) (rest := []) ⟨hx, hb, hml, hown, hts⟩ (c_X2_aboutHolder l D tt kv bv x1 x2 y1 gy1) (cwV 2 hts gX9_holderOf_X2_aboutHolder rfl rfl rfl (by decide +kernel) ⟨Nat.le_of_ble_eq_true rfl, Nat.le_of_ble_eq_true rfl⟩) (z_preVr hK (z_takeP hpm hP) (ci := 2) (q0 := 0) rfl rfl) rfl rfl hl.1 rfl (lv_room (Nat.le_of_ble_eq_true rfl)) dX9_holderOf_6 ⟨Nat.zero_le _, Nat.zero_le _⟩) (fun ny1 => ?_)
  exact hfin _ _ _ h rfl dX9_holderOf_9
set_option maxHeartbeats 4000000 in
set_option maxRecDepth 100000 in
theorem c_X9_count (l : Launch) (D : va_G) (tt : Nat → ClassId) (kx : Nat → Nat) (kv : Nat → Nat) (kd : Nat → Nat) (ke : Nat → Nat) (kt : Nat → Nat) (kr : Nat → Nat) (bv : zV) (bd : zV) (bh : zH) (be : zV) (bt : zV) (br : zV) (x1 : Int32) (out : Int32) (h : f_X9_count bv bd bh be bt br x1 = some out) : Met l yX9_count wsX9_count { frames := 3, cells := 0, slots := 0, locals := 66 } (zPr [.ref (kx 0), .int x1] D tt (zw_x9 kx kv kd ke kt kr ++ zw_co tt kv bv ++ zw_co tt kd bd ++ zw_hi tt kx bh ++ zw_ex tt ke be ++ zw_tx tt kt bt ++ zw_rh tt kr br)) (zQr .int out) 0 0 (fun _ => False) := by
  refine Met.ofW (cc := cX9_count) (maxL := 2) (ret := (some .int)) (by decide) rfl ?_
  intro p e s m args below meth c s₁ B hml hv
  obtain ⟨ha, hP, hK⟩ := hv
  have hx := B.exec
  have hb := B.bytes
  have hr := B.returns
  have hts := atoms_spec (ws := wsX9_count) B.pre
  have hown : s.vm.findClass RX9 = some m.cls := findClass_of_methodNamed B.named
  have hlocks := B.notSynchronized
  have hi5 : ∀ w ∈ u_ws RX5 TX5 2, w ∈ wsX9_count := fun _ h => List.mem_cons_of_mem _ (List.mem_append_left _ (List.mem_append_left _ (List.mem_append_left _ (List.mem_append_left _ (List.mem_append_left _ (List.mem_append_left _ (List.mem_append_right _ h)))))))
  have hi8 : ∀ w ∈ u_ws RX8 TX8 4, w ∈ wsX9_count := fun _ h => List.mem_cons_of_mem _ (List.mem_append_left _ (List.mem_append_left _ (List.mem_append_left _ (List.mem_append_left _ (List.mem_append_left _ (List.mem_append_right _ h))))))
  have hi9 : ∀ w ∈ u_ws RX9 TX9 6, w ∈ wsX9_count := fun _ h => List.mem_cons_of_mem _ (List.mem_append_left _ (List.mem_append_left _ (List.mem_append_left _ (List.mem_append_left _ (List.mem_append_left _ (List.mem_append_left _ (List.mem_append_left _ (List.mem_append_right _ h))))))))
  have fl10 := hts (.fieldLink RX9 10 "CapStacks" "company" "LCapStacks$Company;") (by decide +kernel)
  have fl110 := hts (.fieldLink RX9 110 "CapStacks$History" "size" "I") (by decide +kernel)
  have fl114 := hts (.fieldLink RX9 114 "CapStacks$Text" "length" "I") (by decide +kernel)
  have fl22 := hts (.fieldLink RX9 22 "CapStacks" "history" "LCapStacks$History;") (by decide +kernel)
  have fl36 := hts (.fieldLink RX9 36 "CapStacks" "text" "LCapStacks$Text;") (by decide +kernel)
  have hfin : ∀ (v : Int32) (pc : Nat) (ls : Array Slot), some v = some out → narrow .int (.int v) = .int v → decode cX9_count pc = .ok (.ireturn, 1) → W p l e (headSpec wsX9_count { frames := 3, cells := 0, slots := 0, locals := 66 }).room s m args below meth c s.heap [] 0 0 (MQ below (zQr .int out) args s 0 0 (fun _ => False)) (F0 m pc ls [.int v]) := by
    intro v pc ls he hn hd
    cases he
    exact W.zret hx hb hr hn (fun t ht hW => ⟨rfl, hn, ht⟩) (fun _ h => by cases h) hd
  generalize MQ below (zQr .int out) args s 0 0 (fun _ => False) = Q at hfin ⊢
  have hl := lv_entry ([.ref (kx 0), .int x1]) (n := 2) (Nat.le_of_ble_eq_true rfl)
  refine W.eq (g2 := F0 m 0 ((lg_sl ([.ref (kx 0), .int x1]) ++ List.replicate (2 - (lg_sl ([.ref (kx 0), .int x1])).length) Slot.unset).toArray) []) (by rw [ha]; exact lg_entry_eq _ _ _) ?_
  generalize (lg_sl ([.ref (kx 0), .int x1]) ++ List.replicate (2 - (lg_sl ([.ref (kx 0), .int x1])).length) Slot.unset).toArray = ls at hl ⊢
  have hl : lv_has ls 2 [(0, .ref (kx 0)), (1, .int x1)] := hl
  rw [f_X9_count] at h
  refine lv_iload_n hx hb dX9_count_0 rfl (lv_at hl 1 rfl) ?_
  refine lv_bipush (v := 11) hx hb dX9_count_1 (by decide) ?_
  refine lv_icmp_ne (tgt := 14) hx hb dX9_count_3 (by decide) (fun k1 => ?_) (fun k1 => ?_)
  rotate_left
  · replace h := z_pos k1 h
    refine lv_aload_n hx hb dX9_count_6 rfl (lv_at hl 0 rfl) ?_
    refine va_get (D := D) (ci := 9) (v := .ref (kx 1)) (C := RX9) (T := TX9) (N := 6) hx hb hts hi9 hown hK.1 hP 0 rfl rfl 2 (by decide) fl22 (fun _ h9 => h9) rfl dX9_count_7 ?_
    refine va_get (D := D) (ci := 5) (v := .int bh.1) (C := RX5) (T := TX5) (N := 2) hx hb hts hi5 hown hK.1 hP 49 rfl rfl 0 (by decide) fl110 (fun _ h9 => h9) rfl dX9_count_10 ?_
    exact hfin _ _ _ h rfl dX9_count_13
  replace h := z_neg k1 h
  refine lv_iload_n hx hb dX9_count_14 rfl (lv_at hl 1 rfl) ?_
  refine lv_bipush (v := 12) hx hb dX9_count_15 (by decide) ?_
  refine lv_icmp_ne (tgt := 28) hx hb dX9_count_17 (by decide) (fun k2 => ?_) (fun k2 => ?_)
  rotate_left
  · replace h := z_pos k2 h
    refine lv_aload_n hx hb dX9_count_20 rfl (lv_at hl 0 rfl) ?_
    refine va_get (D := D) (ci := 9) (v := .ref (kt 0)) (C := RX9) (T := TX9) (N := 6) hx hb hts hi9 hown hK.1 hP 0 rfl rfl 4 (by decide) fl36 (fun _ h9 => h9) rfl dX9_count_21 ?_
    refine va_get (D := D) (ci := 8) (v := .int (bt 0 0)) (C := RX8) (T := TX8) (N := 4) hx hb hts hi8 hown hK.1 hP 154 rfl rfl 0 (by decide) fl114 (fun _ h9 => h9) rfl dX9_count_24 ?_
    exact hfin _ _ _ h rfl dX9_count_27
  replace h := z_neg k2 h
  refine lv_aload_n hx hb dX9_count_28 rfl (lv_at hl 0 rfl) ?_
  refine va_get (D := D) (ci := 9) (v := .ref (kv 0)) (C := RX9) (T := TX9) (N := 6) hx hb hts hi9 hown hK.1 hP 0 rfl rfl 0 (by decide) fl10 (fun _ h9 => h9) rfl dX9_count_29 ?_
  refine lv_iload_n hx hb dX9_count_32 rfl (lv_at hl 1 rfl) ?_
  obtain ⟨y3, gy3, h⟩ := zb_some h
  have hpm : List.Perm (zw_x9 kx kv kd ke kt kr ++ zw_co tt kv bv ++ zw_co tt kd bd ++ zw_hi tt kx bh ++ zw_ex tt ke be ++ zw_tx tt kt bt ++ zw_rh tt kr br) ((zw_co tt kv bv) ++ (zw_x9 kx kv kd ke kt kr ++ zw_co tt kd bd ++ zw_hi tt kx bh ++ zw_ex tt ke be ++ zw_tx tt kt bt ++ zw_rh tt kr br)) := z_pm (fun _ x => by simp only [List.count_append, List.count_nil] <;> omega)
  refine z_callr (va_runV (As := [.int x1]) (rest := []) ⟨hx, hb, hml, hown, hts⟩ (c_X2_aboutAll l D tt kv bv x1 y3 gy3) (cwV 1 hts gX9_count_X2_aboutAll rfl rfl rfl (by decide +kernel) ⟨Nat.le_of_ble_eq_true rfl, Nat.le_of_ble_eq_true rfl⟩) (z_preVr hK (z_takeP hpm hP) (ci := 2) (q0 := 0) rfl rfl) rfl rfl hl.1 rfl (lv_room (Nat.le_of_ble_eq_true rfl)) dX9_count_33 ⟨Nat.zero_le _, Nat.zero_le _⟩) (fun ny3 => ?_)
  exact hfin _ _ _ h rfl dX9_count_36
set_option maxHeartbeats 4000000 in
set_option maxRecDepth 100000 in
theorem c_X9_converts (l : Launch) (D : va_G) (tt : Nat → ClassId) (kx : Nat → Nat) (kv : Nat → Nat) (kd : Nat → Nat) (ke : Nat → Nat) (kt : Nat → Nat) (kr : Nat → Nat) (sz : Nat) (bv : zV) (bd : zV) (bh : zH) (be : zV) (bt : zV) (br : zV) (x1 : Int32) (out : Int32 × zV) (h : f_X9_converts bv bd bh be bt br x1 = some out) : Met l yX9_converts wsX9_converts { frames := 6, cells := 0, slots := 0, locals := 145 } (zPm [.ref (kx 0), .int x1] D tt (zw_x9 kx kv kd ke kt kr ++ zw_co tt kv bv ++ zw_co tt kd bd ++ zw_hi tt kx bh ++ zw_ex tt ke be ++ zw_tx tt kt bt ++ zw_rh tt kr br) sz) (zMi .int out.1 D (zw_x9 kx kv kd ke kt kr ++ zw_co tt kv bv ++ zw_co tt kd bd ++ zw_hi tt kx bh ++ zw_ex tt ke out.2 ++ zw_tx tt kt bt ++ zw_rh tt kr br) (va_A (zw_x9 kx kv kd ke kt kr ++ zw_co tt kv bv ++ zw_co tt kd bd ++ zw_hi tt kx bh ++ zw_ex tt ke be ++ zw_tx tt kt bt ++ zw_rh tt kr br) sz)) 0 0 (va_A (zw_x9 kx kv kd ke kt kr ++ zw_co tt kv bv ++ zw_co tt kd bd ++ zw_hi tt kx bh ++ zw_ex tt ke be ++ zw_tx tt kt bt ++ zw_rh tt kr br) sz) := by
  refine Met.ofW (cc := cX9_converts) (maxL := 2) (ret := (some .int)) (by decide) rfl ?_
  intro p e s m args below meth c s₁ B hml hv
  obtain ⟨ha, hsz, hP, hK, hD0⟩ := hv
  have hx := B.exec
  have hb := B.bytes
  have hr := B.returns
  have hts := atoms_spec (ws := wsX9_converts) B.pre
  have hown : s.vm.findClass RX9 = some m.cls := findClass_of_methodNamed B.named
  have hlocks := B.notSynchronized
  have hi3 : ∀ w ∈ u_ws RX3 TX3 8, w ∈ wsX9_converts := fun _ h => List.mem_cons_of_mem _ (List.mem_append_left _ (List.mem_append_left _ (List.mem_append_left _ (List.mem_append_right _ h))))
  have hi9 : ∀ w ∈ u_ws RX9 TX9 6, w ∈ wsX9_converts := fun _ h => List.mem_cons_of_mem _ (List.mem_append_left _ (List.mem_append_left _ (List.mem_append_left _ (List.mem_append_left _ (List.mem_append_right _ h)))))
  have fl10 := hts (.fieldLink RX9 10 "CapStacks" "company" "LCapStacks$Company;") (by decide +kernel)
  have fl129 := hts (.fieldLink RX9 129 "CapStacks$Exit" "converting" "I") (by decide +kernel)
  have fl29 := hts (.fieldLink RX9 29 "CapStacks" "exit" "LCapStacks$Exit;") (by decide +kernel)
  have lc120 := hts (.constant RX9 120 9999999) (by decide +kernel)
  subst hsz
  have hD := hD0.self (sz := s.heap.size)
  generalize hAe : va_A (zw_x9 kx kv kd ke kt kr ++ zw_co tt kv bv ++ zw_co tt kd bd ++ zw_hi tt kx bh ++ zw_ex tt ke be ++ zw_tx tt kt bt ++ zw_rh tt kr br) s.heap.size = A at hD ⊢
  have hA : ∀ q : Nat, s.heap.size ≤ q → A q := fun q h => by rw [← hAe]; exact Or.inr h
  have hS : va_S A s.heap s.heap [] := va_S.rf
  have hfin : ∀ (v : Int32) (be : zV) (pc : Nat) (ls : Array Slot) (H : Heap) (locs : List Loc), some (v, be) = some out → narrow .int (.int v) = .int v → va_P D vwCl (zw_x9 kx kv kd ke kt kr ++ zw_co tt kv bv ++ zw_co tt kd bd ++ zw_hi tt kx bh ++ zw_ex tt ke be ++ zw_tx tt kt bt ++ zw_rh tt kr br) H → va_D A (zw_x9 kx kv kd ke kt kr ++ zw_co tt kv bv ++ zw_co tt kd bd ++ zw_hi tt kx bh ++ zw_ex tt ke be ++ zw_tx tt kt bt ++ zw_rh tt kr br) → va_S A s.heap H locs → decode cX9_converts pc = .ok (.ireturn, 1) → W p l e (headSpec wsX9_converts { frames := 6, cells := 0, slots := 0, locals := 145 }).room s m args below meth c H locs 0 0 (MQ below (zMi .int out.1 D (zw_x9 kx kv kd ke kt kr ++ zw_co tt kv bv ++ zw_co tt kd bd ++ zw_hi tt kx bh ++ zw_ex tt ke out.2 ++ zw_tx tt kt bt ++ zw_rh tt kr br) A) args s 0 0 A) (F0 m pc ls [.int v]) := by
    intro v be pc ls H locs he hn hP hD hS hd
    cases he
    exact W.zret hx hb hr hn (fun t ht hW => ⟨⟨_, (), rfl, ⟨rfl, hn⟩, by rw [ht]; exact hP, hD⟩, hS.F ht⟩) hS.2.2 hd
  generalize MQ below (zMi .int out.1 D (zw_x9 kx kv kd ke kt kr ++ zw_co tt kv bv ++ zw_co tt kd bd ++ zw_hi tt kx bh ++ zw_ex tt ke out.2 ++ zw_tx tt kt bt ++ zw_rh tt kr br) A) args s 0 0 A = Q at hfin ⊢
  have hl := lv_entry ([.ref (kx 0), .int x1]) (n := 2) (Nat.le_of_ble_eq_true rfl)
  refine W.eq (g2 := F0 m 0 ((lg_sl ([.ref (kx 0), .int x1]) ++ List.replicate (2 - (lg_sl ([.ref (kx 0), .int x1])).length) Slot.unset).toArray) []) (by rw [ha]; exact lg_entry_eq _ _ _) ?_
  generalize (lg_sl ([.ref (kx 0), .int x1]) ++ List.replicate (2 - (lg_sl ([.ref (kx 0), .int x1])).length) Slot.unset).toArray = ls at hl ⊢
  have hl : lv_has ls 2 [(0, .ref (kx 0)), (1, .int x1)] := hl
  rw [f_X9_converts] at h
  refine lv_iload_n hx hb dX9_converts_0 rfl (lv_at hl 1 rfl) ?_
  refine lv_iconst (v := 0) hx hb dX9_converts_1 (by decide) ?_
  refine lv_ldc hx hb hown lc120 dX9_converts_2 ?_
  obtain ⟨y1, gy1, h⟩ := zb_some h
  refine z_callr (va_runS (As := [.int x1, .int 0, .int 9999999]) (rest := []) ⟨hx, hb, hml, hown, hts⟩ (c_X9_within l D tt x1 0 9999999 y1 gy1) (va_cwS 3 hts gX9_converts_X9_within rfl rfl rfl (by decide +kernel) ⟨Nat.le_of_ble_eq_true rfl, Nat.le_of_ble_eq_true rfl⟩) (z_preSr hK (hP.sub (ws' := ([] : va_W)) [] rfl)) rfl rfl hl.1 rfl (lv_room (Nat.le_of_ble_eq_true rfl)) dX9_converts_4 ⟨Nat.zero_le _, Nat.zero_le _⟩) (fun ny1 => ?_)
  refine lv_if_ne (tgt := 12) hx hb dX9_converts_7 (by decide) (fun k2 => ?_) (fun k2 => ?_)
  rotate_left
  · replace h := z_pos k2 h
    refine lv_iconst (v := (-1)) hx hb dX9_converts_10 (by decide) ?_
    exact hfin _ _ _ _ _ _ h rfl hP hD hS dX9_converts_11
  replace h := z_neg k2 h
  refine lv_aload_n hx hb dX9_converts_12 rfl (lv_at hl 0 rfl) ?_
  refine va_get (D := D) (ci := 9) (v := .ref (ke 0)) (C := RX9) (T := TX9) (N := 6) hx hb hts hi9 hown hK.1 hP 0 rfl rfl 3 (by decide) fl29 (fun _ h9 => h9) rfl dX9_converts_13 ?_
  refine lv_aload_n hx hb dX9_converts_16 rfl (lv_at hl 0 rfl) ?_
  refine va_get (D := D) (ci := 9) (v := .ref (kv 0)) (C := RX9) (T := TX9) (N := 6) hx hb hts hi9 hown hK.1 hP 0 rfl rfl 0 (by decide) fl10 (fun _ h9 => h9) rfl dX9_converts_17 ?_
  refine lv_iload_n hx hb dX9_converts_20 rfl (lv_at hl 1 rfl) ?_
  obtain ⟨y3, gy3, h⟩ := zb_some h
  have hpm : List.Perm (zw_x9 kx kv kd ke kt kr ++ zw_co tt kv bv ++ zw_co tt kd bd ++ zw_hi tt kx bh ++ zw_ex tt ke be ++ zw_tx tt kt bt ++ zw_rh tt kr br) ((zw_ex tt ke be ++ zw_co tt kv bv) ++ (zw_x9 kx kv kd ke kt kr ++ zw_co tt kd bd ++ zw_hi tt kx bh ++ zw_tx tt kt bt ++ zw_rh tt kr br)) := z_pm (fun _ x => by simp only [List.count_append, List.count_nil] <;> omega)
  have hPc := z_takeP hpm hP
  have hDc := z_takeD hpm hD
  have hFc := z_free0 hDc hS hA
  refine z_callmv (wc := (zw_ex tt ke be ++ zw_co tt kv bv)) (w1 := (zw_ex tt ke y3 ++ zw_co tt kv bv)) (va_runV (As := [.ref (kv 0), .int x1]) (rest := []) ⟨hx, hb, hml, hown, hts⟩ (c_X3_reckon l D tt ke kv _ be bv x1 y3 gy3) (cwV 2 hts gX9_converts_X3_reckon rfl rfl rfl (by decide +kernel) ⟨Nat.le_of_ble_eq_true rfl, Nat.le_of_ble_eq_true rfl⟩) (z_preVm hK hPc hDc (ci := 3) (q0 := 0) rfl rfl) rfl rfl hl.1 rfl (lv_room (Nat.le_of_ble_eq_true rfl)) dX9_converts_21 ⟨Nat.zero_le _, Nat.zero_le _⟩) hS hFc (fun H locs hP1 hD1 hk1 hS => ?_)
  have hpm2 : List.Perm (zw_x9 kx kv kd ke kt kr ++ zw_co tt kv bv ++ zw_co tt kd bd ++ zw_hi tt kx bh ++ zw_ex tt ke y3 ++ zw_tx tt kt bt ++ zw_rh tt kr br) ((zw_ex tt ke y3 ++ zw_co tt kv bv) ++ (zw_x9 kx kv kd ke kt kr ++ zw_co tt kd bd ++ zw_hi tt kx bh ++ zw_tx tt kt bt ++ zw_rh tt kr br)) := z_pm (fun _ x => by simp only [List.count_append, List.count_nil] <;> omega)
  obtain ⟨hP, hD⟩ := z_joinB hpm hpm2 hP hD hk1 hFc hP1 hD1
  clear hpm hpm2
  have hP : va_P D vwCl (zw_x9 kx kv kd ke kt kr ++ zw_co tt kv bv ++ zw_co tt kd bd ++ zw_hi tt kx bh ++ zw_ex tt ke y3 ++ zw_tx tt kt bt ++ zw_rh tt kr br) H := hP
  have hD : va_D A (zw_x9 kx kv kd ke kt kr ++ zw_co tt kv bv ++ zw_co tt kd bd ++ zw_hi tt kx bh ++ zw_ex tt ke y3 ++ zw_tx tt kt bt ++ zw_rh tt kr br) := hD
  refine lv_aload_n hx hb dX9_converts_24 rfl (lv_at hl 0 rfl) ?_
  refine va_get (D := D) (ci := 9) (v := .ref (ke 0)) (C := RX9) (T := TX9) (N := 6) hx hb hts hi9 hown hK.1 hP 0 rfl rfl 3 (by decide) fl29 (fun _ h9 => h9) rfl dX9_converts_25 ?_
  refine va_get (D := D) (ci := 3) (v := .int (y3 0 0)) (C := RX3) (T := TX3) (N := 8) hx hb hts hi3 hown hK.1 hP 147 rfl rfl 0 (by decide) fl129 (fun _ h9 => h9) rfl dX9_converts_28 ?_
  exact hfin _ _ _ _ _ _ h rfl hP hD hS dX9_converts_31
set_option maxHeartbeats 4000000 in
set_option maxRecDepth 100000 in
theorem c_X9_classGets (l : Launch) (D : va_G) (tt : Nat → ClassId) (kx : Nat → Nat) (kv : Nat → Nat) (kd : Nat → Nat) (ke : Nat → Nat) (kt : Nat → Nat) (kr : Nat → Nat) (sz : Nat) (bv : zV) (bd : zV) (bh : zH) (be : zV) (bt : zV) (br : zV) (x1 : Int32) (x2 : Int32) (out : Int32 × zV) (h : f_X9_classGets bv bd bh be bt br x1 x2 = some out) : Met l yX9_classGets wsX9_classGets { frames := 6, cells := 0, slots := 0, locals := 145 } (zPm [.ref (kx 0), .int x1, .int x2] D tt (zw_x9 kx kv kd ke kt kr ++ zw_co tt kv bv ++ zw_co tt kd bd ++ zw_hi tt kx bh ++ zw_ex tt ke be ++ zw_tx tt kt bt ++ zw_rh tt kr br) sz) (zMi .int out.1 D (zw_x9 kx kv kd ke kt kr ++ zw_co tt kv bv ++ zw_co tt kd bd ++ zw_hi tt kx bh ++ zw_ex tt ke out.2 ++ zw_tx tt kt bt ++ zw_rh tt kr br) (va_A (zw_x9 kx kv kd ke kt kr ++ zw_co tt kv bv ++ zw_co tt kd bd ++ zw_hi tt kx bh ++ zw_ex tt ke be ++ zw_tx tt kt bt ++ zw_rh tt kr br) sz)) 0 0 (va_A (zw_x9 kx kv kd ke kt kr ++ zw_co tt kv bv ++ zw_co tt kd bd ++ zw_hi tt kx bh ++ zw_ex tt ke be ++ zw_tx tt kt bt ++ zw_rh tt kr br) sz) := by
  refine Met.ofW (cc := cX9_classGets) (maxL := 3) (ret := (some .int)) (by decide) rfl ?_
  intro p e s m args below meth c s₁ B hml hv
  obtain ⟨ha, hsz, hP, hK, hD0⟩ := hv
  have hx := B.exec
  have hb := B.bytes
  have hr := B.returns
  have hts := atoms_spec (ws := wsX9_classGets) B.pre
  have hown : s.vm.findClass RX9 = some m.cls := findClass_of_methodNamed B.named
  have hlocks := B.notSynchronized
  have hi3 : ∀ w ∈ u_ws RX3 TX3 8, w ∈ wsX9_classGets := fun _ h => List.mem_cons_of_mem _ (List.mem_append_left _ (List.mem_append_left _ (List.mem_append_left _ (List.mem_append_right _ h))))
  have hi9 : ∀ w ∈ u_ws RX9 TX9 6, w ∈ wsX9_classGets := fun _ h => List.mem_cons_of_mem _ (List.mem_append_left _ (List.mem_append_left _ (List.mem_append_left _ (List.mem_append_left _ (List.mem_append_right _ h)))))
  have fl10 := hts (.fieldLink RX9 10 "CapStacks" "company" "LCapStacks$Company;") (by decide +kernel)
  have fl136 := hts (.fieldLink RX9 136 "CapStacks$Exit" "gain" "[I") (by decide +kernel)
  have fl29 := hts (.fieldLink RX9 29 "CapStacks" "exit" "LCapStacks$Exit;") (by decide +kernel)
  have lc120 := hts (.constant RX9 120 9999999) (by decide +kernel)
  subst hsz
  have hD := hD0.self (sz := s.heap.size)
  generalize hAe : va_A (zw_x9 kx kv kd ke kt kr ++ zw_co tt kv bv ++ zw_co tt kd bd ++ zw_hi tt kx bh ++ zw_ex tt ke be ++ zw_tx tt kt bt ++ zw_rh tt kr br) s.heap.size = A at hD ⊢
  have hA : ∀ q : Nat, s.heap.size ≤ q → A q := fun q h => by rw [← hAe]; exact Or.inr h
  have hS : va_S A s.heap s.heap [] := va_S.rf
  have hfin : ∀ (v : Int32) (be : zV) (pc : Nat) (ls : Array Slot) (H : Heap) (locs : List Loc), some (v, be) = some out → narrow .int (.int v) = .int v → va_P D vwCl (zw_x9 kx kv kd ke kt kr ++ zw_co tt kv bv ++ zw_co tt kd bd ++ zw_hi tt kx bh ++ zw_ex tt ke be ++ zw_tx tt kt bt ++ zw_rh tt kr br) H → va_D A (zw_x9 kx kv kd ke kt kr ++ zw_co tt kv bv ++ zw_co tt kd bd ++ zw_hi tt kx bh ++ zw_ex tt ke be ++ zw_tx tt kt bt ++ zw_rh tt kr br) → va_S A s.heap H locs → decode cX9_classGets pc = .ok (.ireturn, 1) → W p l e (headSpec wsX9_classGets { frames := 6, cells := 0, slots := 0, locals := 145 }).room s m args below meth c H locs 0 0 (MQ below (zMi .int out.1 D (zw_x9 kx kv kd ke kt kr ++ zw_co tt kv bv ++ zw_co tt kd bd ++ zw_hi tt kx bh ++ zw_ex tt ke out.2 ++ zw_tx tt kt bt ++ zw_rh tt kr br) A) args s 0 0 A) (F0 m pc ls [.int v]) := by
    intro v be pc ls H locs he hn hP hD hS hd
    cases he
    exact W.zret hx hb hr hn (fun t ht hW => ⟨⟨_, (), rfl, ⟨rfl, hn⟩, by rw [ht]; exact hP, hD⟩, hS.F ht⟩) hS.2.2 hd
  generalize MQ below (zMi .int out.1 D (zw_x9 kx kv kd ke kt kr ++ zw_co tt kv bv ++ zw_co tt kd bd ++ zw_hi tt kx bh ++ zw_ex tt ke out.2 ++ zw_tx tt kt bt ++ zw_rh tt kr br) A) args s 0 0 A = Q at hfin ⊢
  have hl := lv_entry ([.ref (kx 0), .int x1, .int x2]) (n := 3) (Nat.le_of_ble_eq_true rfl)
  refine W.eq (g2 := F0 m 0 ((lg_sl ([.ref (kx 0), .int x1, .int x2]) ++ List.replicate (3 - (lg_sl ([.ref (kx 0), .int x1, .int x2])).length) Slot.unset).toArray) []) (by rw [ha]; exact lg_entry_eq _ _ _) ?_
  generalize (lg_sl ([.ref (kx 0), .int x1, .int x2]) ++ List.replicate (3 - (lg_sl ([.ref (kx 0), .int x1, .int x2])).length) Slot.unset).toArray = ls at hl ⊢
  have hl : lv_has ls 3 [(0, .ref (kx 0)), (1, .int x1), (2, .int x2)] := hl
  rw [f_X9_classGets] at h
  refine lv_iload_n hx hb dX9_classGets_0 rfl (lv_at hl 1 rfl) ?_
  refine lv_iconst (v := 0) hx hb dX9_classGets_1 (by decide) ?_
  refine lv_ldc hx hb hown lc120 dX9_classGets_2 ?_
  obtain ⟨y1, gy1, h⟩ := zb_some h
  refine z_callr (va_runS (As := [.int x1, .int 0, .int 9999999]) (rest := []) ⟨hx, hb, hml, hown, hts⟩ (c_X9_within l D tt x1 0 9999999 y1 gy1) (va_cwS 3 hts gX9_classGets_X9_within rfl rfl rfl (by decide +kernel) ⟨Nat.le_of_ble_eq_true rfl, Nat.le_of_ble_eq_true rfl⟩) (z_preSr hK (hP.sub (ws' := ([] : va_W)) [] rfl)) rfl rfl hl.1 rfl (lv_room (Nat.le_of_ble_eq_true rfl)) dX9_classGets_4 ⟨Nat.zero_le _, Nat.zero_le _⟩) (fun ny1 => ?_)
  refine lv_if_eq (tgt := 21) hx hb dX9_classGets_7 (by decide) (fun k2 => ?_) (fun k2 => ?_)
  · replace h := z_pos k2 h
    refine lv_iconst (v := (-1)) hx hb dX9_classGets_21 (by decide) ?_
    exact hfin _ _ _ _ _ _ h rfl hP hD hS dX9_classGets_22
  replace h := z_neg k2 h
  refine lv_aload_n hx hb dX9_classGets_10 rfl (lv_at hl 0 rfl) ?_
  refine va_get (D := D) (ci := 9) (v := .ref (kv 0)) (C := RX9) (T := TX9) (N := 6) hx hb hts hi9 hown hK.1 hP 0 rfl rfl 0 (by decide) fl10 (fun _ h9 => h9) rfl dX9_classGets_11 ?_
  refine lv_iload_n hx hb dX9_classGets_14 rfl (lv_at hl 2 rfl) ?_
  obtain ⟨y3, gy3, h⟩ := zb_some h
  have hpm : List.Perm (zw_x9 kx kv kd ke kt kr ++ zw_co tt kv bv ++ zw_co tt kd bd ++ zw_hi tt kx bh ++ zw_ex tt ke be ++ zw_tx tt kt bt ++ zw_rh tt kr br) ((zw_co tt kv bv) ++ (zw_x9 kx kv kd ke kt kr ++ zw_co tt kd bd ++ zw_hi tt kx bh ++ zw_ex tt ke be ++ zw_tx tt kt bt ++ zw_rh tt kr br)) := z_pm (fun _ x => by simp only [List.count_append, List.count_nil] <;> omega)
  refine z_callr (va_runV (As := [.int x2]) (rest := []) ⟨hx, hb, hml, hown, hts⟩ (c_X2_hasClass l D tt kv bv x2 y3 gy3) (cwV 1 hts gX9_classGets_X2_hasClass rfl rfl rfl (by decide +kernel) ⟨Nat.le_of_ble_eq_true rfl, Nat.le_of_ble_eq_true rfl⟩) (z_preVr hK (z_takeP hpm hP) (ci := 2) (q0 := 0) rfl rfl) rfl rfl hl.1 rfl (lv_room (Nat.le_of_ble_eq_true rfl)) dX9_classGets_15 ⟨Nat.zero_le _, Nat.zero_le _⟩) (fun ny3 => ?_)
  refine lv_if_ne (tgt := 23) hx hb dX9_classGets_18 (by decide) (fun k4 => ?_) (fun k4 => ?_)
  rotate_left
  · replace h := z_pos k4 h
    refine lv_iconst (v := (-1)) hx hb dX9_classGets_21 (by decide) ?_
    exact hfin _ _ _ _ _ _ h rfl hP hD hS dX9_classGets_22
  replace h := z_neg k4 h
  refine lv_aload_n hx hb dX9_classGets_23 rfl (lv_at hl 0 rfl) ?_
  refine va_get (D := D) (ci := 9) (v := .ref (ke 0)) (C := RX9) (T := TX9) (N := 6) hx hb hts hi9 hown hK.1 hP 0 rfl rfl 3 (by decide) fl29 (fun _ h9 => h9) rfl dX9_classGets_24 ?_
  refine lv_aload_n hx hb dX9_classGets_27 rfl (lv_at hl 0 rfl) ?_
  refine va_get (D := D) (ci := 9) (v := .ref (kv 0)) (C := RX9) (T := TX9) (N := 6) hx hb hts hi9 hown hK.1 hP 0 rfl rfl 0 (by decide) fl10 (fun _ h9 => h9) rfl dX9_classGets_28 ?_
  refine lv_iload_n hx hb dX9_classGets_31 rfl (lv_at hl 1 rfl) ?_
  obtain ⟨y5, gy5, h⟩ := zb_some h
  have hpm : List.Perm (zw_x9 kx kv kd ke kt kr ++ zw_co tt kv bv ++ zw_co tt kd bd ++ zw_hi tt kx bh ++ zw_ex tt ke be ++ zw_tx tt kt bt ++ zw_rh tt kr br) ((zw_ex tt ke be ++ zw_co tt kv bv) ++ (zw_x9 kx kv kd ke kt kr ++ zw_co tt kd bd ++ zw_hi tt kx bh ++ zw_tx tt kt bt ++ zw_rh tt kr br)) := z_pm (fun _ x => by simp only [List.count_append, List.count_nil] <;> omega)
  have hPc := z_takeP hpm hP
  have hDc := z_takeD hpm hD
  have hFc := z_free0 hDc hS hA
  refine z_callmv (wc := (zw_ex tt ke be ++ zw_co tt kv bv)) (w1 := (zw_ex tt ke y5 ++ zw_co tt kv bv)) (va_runV (As := [.ref (kv 0), .int x1]) (rest := []) ⟨hx, hb, hml, hown, hts⟩ (c_X3_reckon l D tt ke kv _ be bv x1 y5 gy5) (cwV 2 hts gX9_classGets_X3_reckon rfl rfl rfl (by decide +kernel) ⟨Nat.le_of_ble_eq_true rfl, Nat.le_of_ble_eq_true rfl⟩) (z_preVm hK hPc hDc (ci := 3) (q0 := 0) rfl rfl) rfl rfl hl.1 rfl (lv_room (Nat.le_of_ble_eq_true rfl)) dX9_classGets_32 ⟨Nat.zero_le _, Nat.zero_le _⟩) hS hFc (fun H locs hP1 hD1 hk1 hS => ?_)
  have hpm2 : List.Perm (zw_x9 kx kv kd ke kt kr ++ zw_co tt kv bv ++ zw_co tt kd bd ++ zw_hi tt kx bh ++ zw_ex tt ke y5 ++ zw_tx tt kt bt ++ zw_rh tt kr br) ((zw_ex tt ke y5 ++ zw_co tt kv bv) ++ (zw_x9 kx kv kd ke kt kr ++ zw_co tt kd bd ++ zw_hi tt kx bh ++ zw_tx tt kt bt ++ zw_rh tt kr br)) := z_pm (fun _ x => by simp only [List.count_append, List.count_nil] <;> omega)
  obtain ⟨hP, hD⟩ := z_joinB hpm hpm2 hP hD hk1 hFc hP1 hD1
  clear hpm hpm2
  have hP : va_P D vwCl (zw_x9 kx kv kd ke kt kr ++ zw_co tt kv bv ++ zw_co tt kd bd ++ zw_hi tt kx bh ++ zw_ex tt ke y5 ++ zw_tx tt kt bt ++ zw_rh tt kr br) H := hP
  have hD : va_D A (zw_x9 kx kv kd ke kt kr ++ zw_co tt kv bv ++ zw_co tt kd bd ++ zw_hi tt kx bh ++ zw_ex tt ke y5 ++ zw_tx tt kt bt ++ zw_rh tt kr br) := hD
  refine lv_aload_n hx hb dX9_classGets_35 rfl (lv_at hl 0 rfl) ?_
  refine va_get (D := D) (ci := 9) (v := .ref (ke 0)) (C := RX9) (T := TX9) (N := 6) hx hb hts hi9 hown hK.1 hP 0 rfl rfl 3 (by decide) fl29 (fun _ h9 => h9) rfl dX9_classGets_36 ?_
  refine va_get (D := D) (ci := 3) (v := .ref (ke 1)) (C := RX3) (T := TX3) (N := 8) hx hb hts hi3 hown hK.1 hP 147 rfl rfl 1 (by decide) fl136 (fun _ h9 => h9) rfl dX9_classGets_39 ?_
  refine lv_iload_n hx hb dX9_classGets_42 rfl (lv_at hl 2 rfl) ?_
  obtain ⟨q6, h⟩ := zA_some h
  refine va_iald hx hb hK.1 hP 148 0 rfl rfl q6 dX9_classGets_43 ?_
  exact hfin _ _ _ _ _ _ h rfl hP hD hS dX9_classGets_44
set_option maxHeartbeats 4000000 in
set_option maxRecDepth 100000 in
theorem c_X9_holderGets (l : Launch) (D : va_G) (tt : Nat → ClassId) (kx : Nat → Nat) (kv : Nat → Nat) (kd : Nat → Nat) (ke : Nat → Nat) (kt : Nat → Nat) (kr : Nat → Nat) (sz : Nat) (bv : zV) (bd : zV) (bh : zH) (be : zV) (bt : zV) (br : zV) (x1 : Int32) (x2 : Int32) (out : Int32 × zV) (h : f_X9_holderGets bv bd bh be bt br x1 x2 = some out) : Met l yX9_holderGets wsX9_holderGets { frames := 6, cells := 0, slots := 0, locals := 145 } (zPm [.ref (kx 0), .int x1, .int x2] D tt (zw_x9 kx kv kd ke kt kr ++ zw_co tt kv bv ++ zw_co tt kd bd ++ zw_hi tt kx bh ++ zw_ex tt ke be ++ zw_tx tt kt bt ++ zw_rh tt kr br) sz) (zMi .int out.1 D (zw_x9 kx kv kd ke kt kr ++ zw_co tt kv bv ++ zw_co tt kd bd ++ zw_hi tt kx bh ++ zw_ex tt ke out.2 ++ zw_tx tt kt bt ++ zw_rh tt kr br) (va_A (zw_x9 kx kv kd ke kt kr ++ zw_co tt kv bv ++ zw_co tt kd bd ++ zw_hi tt kx bh ++ zw_ex tt ke be ++ zw_tx tt kt bt ++ zw_rh tt kr br) sz)) 0 0 (va_A (zw_x9 kx kv kd ke kt kr ++ zw_co tt kv bv ++ zw_co tt kd bd ++ zw_hi tt kx bh ++ zw_ex tt ke be ++ zw_tx tt kt bt ++ zw_rh tt kr br) sz) := by
  refine Met.ofW (cc := cX9_holderGets) (maxL := 3) (ret := (some .int)) (by decide) rfl ?_
  intro p e s m args below meth c s₁ B hml hv
  obtain ⟨ha, hsz, hP, hK, hD0⟩ := hv
  have hx := B.exec
  have hb := B.bytes
  have hr := B.returns
  have hts := atoms_spec (ws := wsX9_holderGets) B.pre
  have hown : s.vm.findClass RX9 = some m.cls := findClass_of_methodNamed B.named
  have hlocks := B.notSynchronized
  have hi9 : ∀ w ∈ u_ws RX9 TX9 6, w ∈ wsX9_holderGets := fun _ h => List.mem_cons_of_mem _ (List.mem_append_left _ (List.mem_append_left _ (List.mem_append_left _ (List.mem_append_left _ (List.mem_append_right _ h)))))
  have fl10 := hts (.fieldLink RX9 10 "CapStacks" "company" "LCapStacks$Company;") (by decide +kernel)
  have fl29 := hts (.fieldLink RX9 29 "CapStacks" "exit" "LCapStacks$Exit;") (by decide +kernel)
  have lc120 := hts (.constant RX9 120 9999999) (by decide +kernel)
  subst hsz
  have hD := hD0.self (sz := s.heap.size)
  generalize hAe : va_A (zw_x9 kx kv kd ke kt kr ++ zw_co tt kv bv ++ zw_co tt kd bd ++ zw_hi tt kx bh ++ zw_ex tt ke be ++ zw_tx tt kt bt ++ zw_rh tt kr br) s.heap.size = A at hD ⊢
  have hA : ∀ q : Nat, s.heap.size ≤ q → A q := fun q h => by rw [← hAe]; exact Or.inr h
  have hS : va_S A s.heap s.heap [] := va_S.rf
  have hfin : ∀ (v : Int32) (be : zV) (pc : Nat) (ls : Array Slot) (H : Heap) (locs : List Loc), some (v, be) = some out → narrow .int (.int v) = .int v → va_P D vwCl (zw_x9 kx kv kd ke kt kr ++ zw_co tt kv bv ++ zw_co tt kd bd ++ zw_hi tt kx bh ++ zw_ex tt ke be ++ zw_tx tt kt bt ++ zw_rh tt kr br) H → va_D A (zw_x9 kx kv kd ke kt kr ++ zw_co tt kv bv ++ zw_co tt kd bd ++ zw_hi tt kx bh ++ zw_ex tt ke be ++ zw_tx tt kt bt ++ zw_rh tt kr br) → va_S A s.heap H locs → decode cX9_holderGets pc = .ok (.ireturn, 1) → W p l e (headSpec wsX9_holderGets { frames := 6, cells := 0, slots := 0, locals := 145 }).room s m args below meth c H locs 0 0 (MQ below (zMi .int out.1 D (zw_x9 kx kv kd ke kt kr ++ zw_co tt kv bv ++ zw_co tt kd bd ++ zw_hi tt kx bh ++ zw_ex tt ke out.2 ++ zw_tx tt kt bt ++ zw_rh tt kr br) A) args s 0 0 A) (F0 m pc ls [.int v]) := by
    intro v be pc ls H locs he hn hP hD hS hd
    cases he
    exact W.zret hx hb hr hn (fun t ht hW => ⟨⟨_, (), rfl, ⟨rfl, hn⟩, by rw [ht]; exact hP, hD⟩, hS.F ht⟩) hS.2.2 hd
  generalize MQ below (zMi .int out.1 D (zw_x9 kx kv kd ke kt kr ++ zw_co tt kv bv ++ zw_co tt kd bd ++ zw_hi tt kx bh ++ zw_ex tt ke out.2 ++ zw_tx tt kt bt ++ zw_rh tt kr br) A) args s 0 0 A = Q at hfin ⊢
  have hl := lv_entry ([.ref (kx 0), .int x1, .int x2]) (n := 3) (Nat.le_of_ble_eq_true rfl)
  refine W.eq (g2 := F0 m 0 ((lg_sl ([.ref (kx 0), .int x1, .int x2]) ++ List.replicate (3 - (lg_sl ([.ref (kx 0), .int x1, .int x2])).length) Slot.unset).toArray) []) (by rw [ha]; exact lg_entry_eq _ _ _) ?_
  generalize (lg_sl ([.ref (kx 0), .int x1, .int x2]) ++ List.replicate (3 - (lg_sl ([.ref (kx 0), .int x1, .int x2])).length) Slot.unset).toArray = ls at hl ⊢
  have hl : lv_has ls 3 [(0, .ref (kx 0)), (1, .int x1), (2, .int x2)] := hl
  rw [f_X9_holderGets] at h
  refine lv_iload_n hx hb dX9_holderGets_0 rfl (lv_at hl 1 rfl) ?_
  refine lv_iconst (v := 0) hx hb dX9_holderGets_1 (by decide) ?_
  refine lv_ldc hx hb hown lc120 dX9_holderGets_2 ?_
  obtain ⟨y1, gy1, h⟩ := zb_some h
  refine z_callr (va_runS (As := [.int x1, .int 0, .int 9999999]) (rest := []) ⟨hx, hb, hml, hown, hts⟩ (c_X9_within l D tt x1 0 9999999 y1 gy1) (va_cwS 3 hts gX9_holderGets_X9_within rfl rfl rfl (by decide +kernel) ⟨Nat.le_of_ble_eq_true rfl, Nat.le_of_ble_eq_true rfl⟩) (z_preSr hK (hP.sub (ws' := ([] : va_W)) [] rfl)) rfl rfl hl.1 rfl (lv_room (Nat.le_of_ble_eq_true rfl)) dX9_holderGets_4 ⟨Nat.zero_le _, Nat.zero_le _⟩) (fun ny1 => ?_)
  refine lv_if_eq (tgt := 21) hx hb dX9_holderGets_7 (by decide) (fun k2 => ?_) (fun k2 => ?_)
  · replace h := z_pos k2 h
    refine lv_iconst (v := (-1)) hx hb dX9_holderGets_21 (by decide) ?_
    exact hfin _ _ _ _ _ _ h rfl hP hD hS dX9_holderGets_22
  replace h := z_neg k2 h
  refine lv_aload_n hx hb dX9_holderGets_10 rfl (lv_at hl 0 rfl) ?_
  refine va_get (D := D) (ci := 9) (v := .ref (kv 0)) (C := RX9) (T := TX9) (N := 6) hx hb hts hi9 hown hK.1 hP 0 rfl rfl 0 (by decide) fl10 (fun _ h9 => h9) rfl dX9_holderGets_11 ?_
  refine lv_iload_n hx hb dX9_holderGets_14 rfl (lv_at hl 2 rfl) ?_
  obtain ⟨y3, gy3, h⟩ := zb_some h
  have hpm : List.Perm (zw_x9 kx kv kd ke kt kr ++ zw_co tt kv bv ++ zw_co tt kd bd ++ zw_hi tt kx bh ++ zw_ex tt ke be ++ zw_tx tt kt bt ++ zw_rh tt kr br) ((zw_co tt kv bv) ++ (zw_x9 kx kv kd ke kt kr ++ zw_co tt kd bd ++ zw_hi tt kx bh ++ zw_ex tt ke be ++ zw_tx tt kt bt ++ zw_rh tt kr br)) := z_pm (fun _ x => by simp only [List.count_append, List.count_nil] <;> omega)
  refine z_callr (va_runV (As := [.int x2]) (rest := []) ⟨hx, hb, hml, hown, hts⟩ (c_X2_hasHolder l D tt kv bv x2 y3 gy3) (cwV 1 hts gX9_holderGets_X2_hasHolder rfl rfl rfl (by decide +kernel) ⟨Nat.le_of_ble_eq_true rfl, Nat.le_of_ble_eq_true rfl⟩) (z_preVr hK (z_takeP hpm hP) (ci := 2) (q0 := 0) rfl rfl) rfl rfl hl.1 rfl (lv_room (Nat.le_of_ble_eq_true rfl)) dX9_holderGets_15 ⟨Nat.zero_le _, Nat.zero_le _⟩) (fun ny3 => ?_)
  refine lv_if_ne (tgt := 23) hx hb dX9_holderGets_18 (by decide) (fun k4 => ?_) (fun k4 => ?_)
  rotate_left
  · replace h := z_pos k4 h
    refine lv_iconst (v := (-1)) hx hb dX9_holderGets_21 (by decide) ?_
    exact hfin _ _ _ _ _ _ h rfl hP hD hS dX9_holderGets_22
  replace h := z_neg k4 h
  refine lv_aload_n hx hb dX9_holderGets_23 rfl (lv_at hl 0 rfl) ?_
  refine va_get (D := D) (ci := 9) (v := .ref (ke 0)) (C := RX9) (T := TX9) (N := 6) hx hb hts hi9 hown hK.1 hP 0 rfl rfl 3 (by decide) fl29 (fun _ h9 => h9) rfl dX9_holderGets_24 ?_
  refine lv_aload_n hx hb dX9_holderGets_27 rfl (lv_at hl 0 rfl) ?_
  refine va_get (D := D) (ci := 9) (v := .ref (kv 0)) (C := RX9) (T := TX9) (N := 6) hx hb hts hi9 hown hK.1 hP 0 rfl rfl 0 (by decide) fl10 (fun _ h9 => h9) rfl dX9_holderGets_28 ?_
  refine lv_iload_n hx hb dX9_holderGets_31 rfl (lv_at hl 1 rfl) ?_
  obtain ⟨y5, gy5, h⟩ := zb_some h
  have hpm : List.Perm (zw_x9 kx kv kd ke kt kr ++ zw_co tt kv bv ++ zw_co tt kd bd ++ zw_hi tt kx bh ++ zw_ex tt ke be ++ zw_tx tt kt bt ++ zw_rh tt kr br) ((zw_ex tt ke be ++ zw_co tt kv bv) ++ (zw_x9 kx kv kd ke kt kr ++ zw_co tt kd bd ++ zw_hi tt kx bh ++ zw_tx tt kt bt ++ zw_rh tt kr br)) := z_pm (fun _ x => by simp only [List.count_append, List.count_nil] <;> omega)
  have hPc := z_takeP hpm hP
  have hDc := z_takeD hpm hD
  have hFc := z_free0 hDc hS hA
  refine z_callmv (wc := (zw_ex tt ke be ++ zw_co tt kv bv)) (w1 := (zw_ex tt ke y5 ++ zw_co tt kv bv)) (va_runV (As := [.ref (kv 0), .int x1]) (rest := []) ⟨hx, hb, hml, hown, hts⟩ (c_X3_reckon l D tt ke kv _ be bv x1 y5 gy5) (cwV 2 hts gX9_holderGets_X3_reckon rfl rfl rfl (by decide +kernel) ⟨Nat.le_of_ble_eq_true rfl, Nat.le_of_ble_eq_true rfl⟩) (z_preVm hK hPc hDc (ci := 3) (q0 := 0) rfl rfl) rfl rfl hl.1 rfl (lv_room (Nat.le_of_ble_eq_true rfl)) dX9_holderGets_32 ⟨Nat.zero_le _, Nat.zero_le _⟩) hS hFc (fun H locs hP1 hD1 hk1 hS => ?_)
  have hpm2 : List.Perm (zw_x9 kx kv kd ke kt kr ++ zw_co tt kv bv ++ zw_co tt kd bd ++ zw_hi tt kx bh ++ zw_ex tt ke y5 ++ zw_tx tt kt bt ++ zw_rh tt kr br) ((zw_ex tt ke y5 ++ zw_co tt kv bv) ++ (zw_x9 kx kv kd ke kt kr ++ zw_co tt kd bd ++ zw_hi tt kx bh ++ zw_tx tt kt bt ++ zw_rh tt kr br)) := z_pm (fun _ x => by simp only [List.count_append, List.count_nil] <;> omega)
  obtain ⟨hP, hD⟩ := z_joinB hpm hpm2 hP hD hk1 hFc hP1 hD1
  clear hpm hpm2
  have hP : va_P D vwCl (zw_x9 kx kv kd ke kt kr ++ zw_co tt kv bv ++ zw_co tt kd bd ++ zw_hi tt kx bh ++ zw_ex tt ke y5 ++ zw_tx tt kt bt ++ zw_rh tt kr br) H := hP
  have hD : va_D A (zw_x9 kx kv kd ke kt kr ++ zw_co tt kv bv ++ zw_co tt kd bd ++ zw_hi tt kx bh ++ zw_ex tt ke y5 ++ zw_tx tt kt bt ++ zw_rh tt kr br) := hD
  refine lv_aload_n hx hb dX9_holderGets_35 rfl (lv_at hl 0 rfl) ?_
  refine va_get (D := D) (ci := 9) (v := .ref (ke 0)) (C := RX9) (T := TX9) (N := 6) hx hb hts hi9 hown hK.1 hP 0 rfl rfl 3 (by decide) fl29 (fun _ h9 => h9) rfl dX9_holderGets_36 ?_
  refine lv_aload_n hx hb dX9_holderGets_39 rfl (lv_at hl 0 rfl) ?_
  refine va_get (D := D) (ci := 9) (v := .ref (kv 0)) (C := RX9) (T := TX9) (N := 6) hx hb hts hi9 hown hK.1 hP 0 rfl rfl 0 (by decide) fl10 (fun _ h9 => h9) rfl dX9_holderGets_40 ?_
  refine lv_iload_n hx hb dX9_holderGets_43 rfl (lv_at hl 2 rfl) ?_
  obtain ⟨y6, gy6, h⟩ := zb_some h
  have hpm : List.Perm (zw_x9 kx kv kd ke kt kr ++ zw_co tt kv bv ++ zw_co tt kd bd ++ zw_hi tt kx bh ++ zw_ex tt ke y5 ++ zw_tx tt kt bt ++ zw_rh tt kr br) ((zw_ex tt ke y5 ++ zw_co tt kv bv) ++ (zw_x9 kx kv kd ke kt kr ++ zw_co tt kd bd ++ zw_hi tt kx bh ++ zw_tx tt kt bt ++ zw_rh tt kr br)) := z_pm (fun _ x => by simp only [List.count_append, List.count_nil] <;> omega)
  refine z_callr (va_runV (As := [.ref (kv 0), .int x2]) (rest := []) ⟨hx, hb, hml, hown, hts⟩ (c_X3_gainOfHolder l D tt ke kv y5 bv x2 y6 gy6) (cwV 2 hts gX9_holderGets_X3_gainOfHolder rfl rfl rfl (by decide +kernel) ⟨Nat.le_of_ble_eq_true rfl, Nat.le_of_ble_eq_true rfl⟩) (z_preVr hK (z_takeP hpm hP) (ci := 3) (q0 := 0) rfl rfl) rfl rfl hl.1 rfl (lv_room (Nat.le_of_ble_eq_true rfl)) dX9_holderGets_44 ⟨Nat.zero_le _, Nat.zero_le _⟩) (fun ny6 => ?_)
  exact hfin _ _ _ _ _ _ h rfl hP hD hS dX9_holderGets_47
set_option maxHeartbeats 4000000 in
set_option maxRecDepth 100000 in
theorem c_X9_byGain (l : Launch) (D : va_G) (tt : Nat → ClassId) (kx : Nat → Nat) (kv : Nat → Nat) (kd : Nat → Nat) (ke : Nat → Nat) (kt : Nat → Nat) (kr : Nat → Nat) (sz : Nat) (bv : zV) (bd : zV) (bh : zH) (be : zV) (bt : zV) (br : zV) (x1 : Int32) (x2 : Int32) (out : Int32 × zV) (h : f_X9_byGain bv bd bh be bt br x1 x2 = some out) : Met l yX9_byGain wsX9_byGain { frames := 6, cells := 0, slots := 0, locals := 145 } (zPm [.ref (kx 0), .int x1, .int x2] D tt (zw_x9 kx kv kd ke kt kr ++ zw_co tt kv bv ++ zw_co tt kd bd ++ zw_hi tt kx bh ++ zw_ex tt ke be ++ zw_tx tt kt bt ++ zw_rh tt kr br) sz) (zMi .int out.1 D (zw_x9 kx kv kd ke kt kr ++ zw_co tt kv bv ++ zw_co tt kd bd ++ zw_hi tt kx bh ++ zw_ex tt ke out.2 ++ zw_tx tt kt bt ++ zw_rh tt kr br) (va_A (zw_x9 kx kv kd ke kt kr ++ zw_co tt kv bv ++ zw_co tt kd bd ++ zw_hi tt kx bh ++ zw_ex tt ke be ++ zw_tx tt kt bt ++ zw_rh tt kr br) sz)) 0 0 (va_A (zw_x9 kx kv kd ke kt kr ++ zw_co tt kv bv ++ zw_co tt kd bd ++ zw_hi tt kx bh ++ zw_ex tt ke be ++ zw_tx tt kt bt ++ zw_rh tt kr br) sz) := by
  refine Met.ofW (cc := cX9_byGain) (maxL := 3) (ret := (some .int)) (by decide) rfl ?_
  intro p e s m args below meth c s₁ B hml hv
  obtain ⟨ha, hsz, hP, hK, hD0⟩ := hv
  have hx := B.exec
  have hb := B.bytes
  have hr := B.returns
  have hts := atoms_spec (ws := wsX9_byGain) B.pre
  have hown : s.vm.findClass RX9 = some m.cls := findClass_of_methodNamed B.named
  have hlocks := B.notSynchronized
  have hi1 : ∀ w ∈ u_ws RX1 TX1 6, w ∈ wsX9_byGain := fun _ h => List.mem_cons_of_mem _ (List.mem_append_left _ (List.mem_append_left _ (List.mem_append_right _ h)))
  have hi2 : ∀ w ∈ u_ws RX2 TX2 11, w ∈ wsX9_byGain := fun _ h => List.mem_cons_of_mem _ (List.mem_append_left _ (List.mem_append_left _ (List.mem_append_left _ (List.mem_append_right _ h))))
  have hi9 : ∀ w ∈ u_ws RX9 TX9 6, w ∈ wsX9_byGain := fun _ h => List.mem_cons_of_mem _ (List.mem_append_left _ (List.mem_append_left _ (List.mem_append_left _ (List.mem_append_left _ (List.mem_append_right _ h)))))
  have fl10 := hts (.fieldLink RX9 10 "CapStacks" "company" "LCapStacks$Company;") (by decide +kernel)
  have fl147 := hts (.fieldLink RX9 147 "CapStacks$Company" "classes" "LCapStacks$Classes;") (by decide +kernel)
  have fl151 := hts (.fieldLink RX9 151 "CapStacks$Classes" "size" "I") (by decide +kernel)
  have fl29 := hts (.fieldLink RX9 29 "CapStacks" "exit" "LCapStacks$Exit;") (by decide +kernel)
  have lc120 := hts (.constant RX9 120 9999999) (by decide +kernel)
  subst hsz
  have hD := hD0.self (sz := s.heap.size)
  generalize hAe : va_A (zw_x9 kx kv kd ke kt kr ++ zw_co tt kv bv ++ zw_co tt kd bd ++ zw_hi tt kx bh ++ zw_ex tt ke be ++ zw_tx tt kt bt ++ zw_rh tt kr br) s.heap.size = A at hD ⊢
  have hA : ∀ q : Nat, s.heap.size ≤ q → A q := fun q h => by rw [← hAe]; exact Or.inr h
  have hS : va_S A s.heap s.heap [] := va_S.rf
  have hfin : ∀ (v : Int32) (be : zV) (pc : Nat) (ls : Array Slot) (H : Heap) (locs : List Loc), some (v, be) = some out → narrow .int (.int v) = .int v → va_P D vwCl (zw_x9 kx kv kd ke kt kr ++ zw_co tt kv bv ++ zw_co tt kd bd ++ zw_hi tt kx bh ++ zw_ex tt ke be ++ zw_tx tt kt bt ++ zw_rh tt kr br) H → va_D A (zw_x9 kx kv kd ke kt kr ++ zw_co tt kv bv ++ zw_co tt kd bd ++ zw_hi tt kx bh ++ zw_ex tt ke be ++ zw_tx tt kt bt ++ zw_rh tt kr br) → va_S A s.heap H locs → decode cX9_byGain pc = .ok (.ireturn, 1) → W p l e (headSpec wsX9_byGain { frames := 6, cells := 0, slots := 0, locals := 145 }).room s m args below meth c H locs 0 0 (MQ below (zMi .int out.1 D (zw_x9 kx kv kd ke kt kr ++ zw_co tt kv bv ++ zw_co tt kd bd ++ zw_hi tt kx bh ++ zw_ex tt ke out.2 ++ zw_tx tt kt bt ++ zw_rh tt kr br) A) args s 0 0 A) (F0 m pc ls [.int v]) := by
    intro v be pc ls H locs he hn hP hD hS hd
    cases he
    exact W.zret hx hb hr hn (fun t ht hW => ⟨⟨_, (), rfl, ⟨rfl, hn⟩, by rw [ht]; exact hP, hD⟩, hS.F ht⟩) hS.2.2 hd
  generalize MQ below (zMi .int out.1 D (zw_x9 kx kv kd ke kt kr ++ zw_co tt kv bv ++ zw_co tt kd bd ++ zw_hi tt kx bh ++ zw_ex tt ke out.2 ++ zw_tx tt kt bt ++ zw_rh tt kr br) A) args s 0 0 A = Q at hfin ⊢
  have hl := lv_entry ([.ref (kx 0), .int x1, .int x2]) (n := 3) (Nat.le_of_ble_eq_true rfl)
  refine W.eq (g2 := F0 m 0 ((lg_sl ([.ref (kx 0), .int x1, .int x2]) ++ List.replicate (3 - (lg_sl ([.ref (kx 0), .int x1, .int x2])).length) Slot.unset).toArray) []) (by rw [ha]; exact lg_entry_eq _ _ _) ?_
  generalize (lg_sl ([.ref (kx 0), .int x1, .int x2]) ++ List.replicate (3 - (lg_sl ([.ref (kx 0), .int x1, .int x2])).length) Slot.unset).toArray = ls at hl ⊢
  have hl : lv_has ls 3 [(0, .ref (kx 0)), (1, .int x1), (2, .int x2)] := hl
  rw [f_X9_byGain] at h
  refine lv_iload_n hx hb dX9_byGain_0 rfl (lv_at hl 1 rfl) ?_
  refine lv_iconst (v := 0) hx hb dX9_byGain_1 (by decide) ?_
  refine lv_ldc hx hb hown lc120 dX9_byGain_2 ?_
  obtain ⟨y1, gy1, h⟩ := zb_some h
  refine z_callr (va_runS (As := [.int x1, .int 0, .int 9999999]) (rest := []) ⟨hx, hb, hml, hown, hts⟩ (c_X9_within l D tt x1 0 9999999 y1 gy1) (va_cwS 3 hts gX9_byGain_X9_within rfl rfl rfl (by decide +kernel) ⟨Nat.le_of_ble_eq_true rfl, Nat.le_of_ble_eq_true rfl⟩) (z_preSr hK (hP.sub (ws' := ([] : va_W)) [] rfl)) rfl rfl hl.1 rfl (lv_room (Nat.le_of_ble_eq_true rfl)) dX9_byGain_4 ⟨Nat.zero_le _, Nat.zero_le _⟩) (fun ny1 => ?_)
  refine lv_if_eq (tgt := 14) hx hb dX9_byGain_7 (by decide) (fun k2 => ?_) (fun k2 => ?_)
  · replace h := z_pos k2 h
    refine lv_iconst (v := (-1)) hx hb dX9_byGain_14 (by decide) ?_
    exact hfin _ _ _ _ _ _ h rfl hP hD hS dX9_byGain_15
  replace h := z_neg k2 h
  refine lv_iload_n hx hb dX9_byGain_10 rfl (lv_at hl 2 rfl) ?_
  refine lv_if_ge (tgt := 16) hx hb dX9_byGain_11 (by decide) (fun k3 => ?_) (fun k3 => ?_)
  rotate_left
  · replace h := z_neg k3 h
    refine lv_iconst (v := (-1)) hx hb dX9_byGain_14 (by decide) ?_
    exact hfin _ _ _ _ _ _ h rfl hP hD hS dX9_byGain_15
  replace h := z_pos k3 h
  refine lv_iload_n hx hb dX9_byGain_16 rfl (lv_at hl 2 rfl) ?_
  refine lv_aload_n hx hb dX9_byGain_17 rfl (lv_at hl 0 rfl) ?_
  refine va_get (D := D) (ci := 9) (v := .ref (kv 0)) (C := RX9) (T := TX9) (N := 6) hx hb hts hi9 hown hK.1 hP 0 rfl rfl 0 (by decide) fl10 (fun _ h9 => h9) rfl dX9_byGain_18 ?_
  refine va_get (D := D) (ci := 2) (v := .ref (kv 1)) (C := RX2) (T := TX2) (N := 11) hx hb hts hi2 hown hK.1 hP 1 rfl rfl 0 (by decide) fl147 (fun _ h9 => h9) rfl dX9_byGain_21 ?_
  refine va_get (D := D) (ci := 1) (v := .int (bv 0 0)) (C := RX1) (T := TX1) (N := 6) hx hb hts hi1 hown hK.1 hP 2 rfl rfl 0 (by decide) fl151 (fun _ h9 => h9) rfl dX9_byGain_24 ?_
  refine lv_icmp_lt (tgt := 33) hx hb dX9_byGain_27 (by decide) (fun k4 => ?_) (fun k4 => ?_)
  rotate_left
  · replace h := z_neg k4 h
    refine lv_bipush (v := (-4)) hx hb dX9_byGain_30 (by decide) ?_
    exact hfin _ _ _ _ _ _ h rfl hP hD hS dX9_byGain_32
  replace h := z_pos k4 h
  refine lv_aload_n hx hb dX9_byGain_33 rfl (lv_at hl 0 rfl) ?_
  refine va_get (D := D) (ci := 9) (v := .ref (ke 0)) (C := RX9) (T := TX9) (N := 6) hx hb hts hi9 hown hK.1 hP 0 rfl rfl 3 (by decide) fl29 (fun _ h9 => h9) rfl dX9_byGain_34 ?_
  refine lv_aload_n hx hb dX9_byGain_37 rfl (lv_at hl 0 rfl) ?_
  refine va_get (D := D) (ci := 9) (v := .ref (kv 0)) (C := RX9) (T := TX9) (N := 6) hx hb hts hi9 hown hK.1 hP 0 rfl rfl 0 (by decide) fl10 (fun _ h9 => h9) rfl dX9_byGain_38 ?_
  refine lv_iload_n hx hb dX9_byGain_41 rfl (lv_at hl 1 rfl) ?_
  obtain ⟨y5, gy5, h⟩ := zb_some h
  have hpm : List.Perm (zw_x9 kx kv kd ke kt kr ++ zw_co tt kv bv ++ zw_co tt kd bd ++ zw_hi tt kx bh ++ zw_ex tt ke be ++ zw_tx tt kt bt ++ zw_rh tt kr br) ((zw_ex tt ke be ++ zw_co tt kv bv) ++ (zw_x9 kx kv kd ke kt kr ++ zw_co tt kd bd ++ zw_hi tt kx bh ++ zw_tx tt kt bt ++ zw_rh tt kr br)) := z_pm (fun _ x => by simp only [List.count_append, List.count_nil] <;> omega)
  have hPc := z_takeP hpm hP
  have hDc := z_takeD hpm hD
  have hFc := z_free0 hDc hS hA
  refine z_callmv (wc := (zw_ex tt ke be ++ zw_co tt kv bv)) (w1 := (zw_ex tt ke y5 ++ zw_co tt kv bv)) (va_runV (As := [.ref (kv 0), .int x1]) (rest := []) ⟨hx, hb, hml, hown, hts⟩ (c_X3_reckon l D tt ke kv _ be bv x1 y5 gy5) (cwV 2 hts gX9_byGain_X3_reckon rfl rfl rfl (by decide +kernel) ⟨Nat.le_of_ble_eq_true rfl, Nat.le_of_ble_eq_true rfl⟩) (z_preVm hK hPc hDc (ci := 3) (q0 := 0) rfl rfl) rfl rfl hl.1 rfl (lv_room (Nat.le_of_ble_eq_true rfl)) dX9_byGain_42 ⟨Nat.zero_le _, Nat.zero_le _⟩) hS hFc (fun H locs hP1 hD1 hk1 hS => ?_)
  have hpm2 : List.Perm (zw_x9 kx kv kd ke kt kr ++ zw_co tt kv bv ++ zw_co tt kd bd ++ zw_hi tt kx bh ++ zw_ex tt ke y5 ++ zw_tx tt kt bt ++ zw_rh tt kr br) ((zw_ex tt ke y5 ++ zw_co tt kv bv) ++ (zw_x9 kx kv kd ke kt kr ++ zw_co tt kd bd ++ zw_hi tt kx bh ++ zw_tx tt kt bt ++ zw_rh tt kr br)) := z_pm (fun _ x => by simp only [List.count_append, List.count_nil] <;> omega)
  obtain ⟨hP, hD⟩ := z_joinB hpm hpm2 hP hD hk1 hFc hP1 hD1
  clear hpm hpm2
  have hP : va_P D vwCl (zw_x9 kx kv kd ke kt kr ++ zw_co tt kv bv ++ zw_co tt kd bd ++ zw_hi tt kx bh ++ zw_ex tt ke y5 ++ zw_tx tt kt bt ++ zw_rh tt kr br) H := hP
  have hD : va_D A (zw_x9 kx kv kd ke kt kr ++ zw_co tt kv bv ++ zw_co tt kd bd ++ zw_hi tt kx bh ++ zw_ex tt ke y5 ++ zw_tx tt kt bt ++ zw_rh tt kr br) := hD
  refine lv_aload_n hx hb dX9_byGain_45 rfl (lv_at hl 0 rfl) ?_
  refine va_get (D := D) (ci := 9) (v := .ref (ke 0)) (C := RX9) (T := TX9) (N := 6) hx hb hts hi9 hown hK.1 hP 0 rfl rfl 3 (by decide) fl29 (fun _ h9 => h9) rfl dX9_byGain_46 ?_
  refine lv_iload_n hx hb dX9_byGain_49 rfl (lv_at hl 2 rfl) ?_
  obtain ⟨y6, gy6, h⟩ := zb_some h
  have hpm : List.Perm (zw_x9 kx kv kd ke kt kr ++ zw_co tt kv bv ++ zw_co tt kd bd ++ zw_hi tt kx bh ++ zw_ex tt ke y5 ++ zw_tx tt kt bt ++ zw_rh tt kr br) ((zw_ex tt ke y5) ++ (zw_x9 kx kv kd ke kt kr ++ zw_co tt kv bv ++ zw_co tt kd bd ++ zw_hi tt kx bh ++ zw_tx tt kt bt ++ zw_rh tt kr br)) := z_pm (fun _ x => by simp only [List.count_append, List.count_nil] <;> omega)
  refine z_callr (va_runV (As := [.int x2]) (rest := []) ⟨hx, hb, hml, hown, hts⟩ (c_X3_classAt l D tt ke y5 x2 y6 gy6) (cwV 1 hts gX9_byGain_X3_classAt rfl rfl rfl (by decide +kernel) ⟨Nat.le_of_ble_eq_true rfl, Nat.le_of_ble_eq_true rfl⟩) (z_preVr hK (z_takeP hpm hP) (ci := 3) (q0 := 0) rfl rfl) rfl rfl hl.1 rfl (lv_room (Nat.le_of_ble_eq_true rfl)) dX9_byGain_50 ⟨Nat.zero_le _, Nat.zero_le _⟩) (fun ny6 => ?_)
  exact hfin _ _ _ _ _ _ h rfl hP hD hS dX9_byGain_53
set_option maxHeartbeats 4000000 in
set_option maxRecDepth 100000 in
theorem c_X9_undo (l : Launch) (D : va_G) (tt : Nat → ClassId) (kx : Nat → Nat) (kv : Nat → Nat) (kd : Nat → Nat) (ke : Nat → Nat) (kt : Nat → Nat) (kr : Nat → Nat) (sz : Nat) (bv : zV) (bd : zV) (bh : zH) (be : zV) (bt : zV) (br : zV)  (out : Int32 × zV × zH) (h : f_X9_undo bv bd bh be bt br = some out) : Met l yX9_undo wsX9_undo { frames := 5, cells := 0, slots := 0, locals := 124 } (zPm [.ref (kx 0)] D tt (zw_x9 kx kv kd ke kt kr ++ zw_co tt kv bv ++ zw_co tt kd bd ++ zw_hi tt kx bh ++ zw_ex tt ke be ++ zw_tx tt kt bt ++ zw_rh tt kr br) sz) (zMi .int out.1 D (zw_x9 kx kv kd ke kt kr ++ zw_co tt kv out.2.1 ++ zw_co tt kd bd ++ zw_hi tt kx out.2.2 ++ zw_ex tt ke be ++ zw_tx tt kt bt ++ zw_rh tt kr br) (va_A (zw_x9 kx kv kd ke kt kr ++ zw_co tt kv bv ++ zw_co tt kd bd ++ zw_hi tt kx bh ++ zw_ex tt ke be ++ zw_tx tt kt bt ++ zw_rh tt kr br) sz)) 0 0 (va_A (zw_x9 kx kv kd ke kt kr ++ zw_co tt kv bv ++ zw_co tt kd bd ++ zw_hi tt kx bh ++ zw_ex tt ke be ++ zw_tx tt kt bt ++ zw_rh tt kr br) sz) := by
  refine Met.ofW (cc := cX9_undo) (maxL := 1) (ret := (some .int)) (by decide) rfl ?_
  intro p e s m args below meth c s₁ B hml hv
  obtain ⟨ha, hsz, hP, hK, hD0⟩ := hv
  have hx := B.exec
  have hb := B.bytes
  have hr := B.returns
  have hts := atoms_spec (ws := wsX9_undo) B.pre
  have hown : s.vm.findClass RX9 = some m.cls := findClass_of_methodNamed B.named
  have hlocks := B.notSynchronized
  have hi5 : ∀ w ∈ u_ws RX5 TX5 2, w ∈ wsX9_undo := fun _ h => List.mem_cons_of_mem _ (List.mem_append_left _ (List.mem_append_left _ (List.mem_append_left _ (List.mem_append_left _ (List.mem_append_left _ (List.mem_append_right _ h))))))
  have hi9 : ∀ w ∈ u_ws RX9 TX9 6, w ∈ wsX9_undo := fun _ h => List.mem_cons_of_mem _ (List.mem_append_left _ (List.mem_append_left _ (List.mem_append_left _ (List.mem_append_left _ (List.mem_append_left _ (List.mem_append_left _ (List.mem_append_right _ h)))))))
  have fl10 := hts (.fieldLink RX9 10 "CapStacks" "company" "LCapStacks$Company;") (by decide +kernel)
  have fl110 := hts (.fieldLink RX9 110 "CapStacks$History" "size" "I") (by decide +kernel)
  have fl22 := hts (.fieldLink RX9 22 "CapStacks" "history" "LCapStacks$History;") (by decide +kernel)
  subst hsz
  have hD := hD0.self (sz := s.heap.size)
  generalize hAe : va_A (zw_x9 kx kv kd ke kt kr ++ zw_co tt kv bv ++ zw_co tt kd bd ++ zw_hi tt kx bh ++ zw_ex tt ke be ++ zw_tx tt kt bt ++ zw_rh tt kr br) s.heap.size = A at hD ⊢
  have hA : ∀ q : Nat, s.heap.size ≤ q → A q := fun q h => by rw [← hAe]; exact Or.inr h
  have hS : va_S A s.heap s.heap [] := va_S.rf
  have hfin : ∀ (v : Int32) (bv : zV) (bh : zH) (pc : Nat) (ls : Array Slot) (H : Heap) (locs : List Loc), some (v, bv, bh) = some out → narrow .int (.int v) = .int v → va_P D vwCl (zw_x9 kx kv kd ke kt kr ++ zw_co tt kv bv ++ zw_co tt kd bd ++ zw_hi tt kx bh ++ zw_ex tt ke be ++ zw_tx tt kt bt ++ zw_rh tt kr br) H → va_D A (zw_x9 kx kv kd ke kt kr ++ zw_co tt kv bv ++ zw_co tt kd bd ++ zw_hi tt kx bh ++ zw_ex tt ke be ++ zw_tx tt kt bt ++ zw_rh tt kr br) → va_S A s.heap H locs → decode cX9_undo pc = .ok (.ireturn, 1) → W p l e (headSpec wsX9_undo { frames := 5, cells := 0, slots := 0, locals := 124 }).room s m args below meth c H locs 0 0 (MQ below (zMi .int out.1 D (zw_x9 kx kv kd ke kt kr ++ zw_co tt kv out.2.1 ++ zw_co tt kd bd ++ zw_hi tt kx out.2.2 ++ zw_ex tt ke be ++ zw_tx tt kt bt ++ zw_rh tt kr br) A) args s 0 0 A) (F0 m pc ls [.int v]) := by
    intro v bv bh pc ls H locs he hn hP hD hS hd
    cases he
    exact W.zret hx hb hr hn (fun t ht hW => ⟨⟨_, (), rfl, ⟨rfl, hn⟩, by rw [ht]; exact hP, hD⟩, hS.F ht⟩) hS.2.2 hd
  generalize MQ below (zMi .int out.1 D (zw_x9 kx kv kd ke kt kr ++ zw_co tt kv out.2.1 ++ zw_co tt kd bd ++ zw_hi tt kx out.2.2 ++ zw_ex tt ke be ++ zw_tx tt kt bt ++ zw_rh tt kr br) A) args s 0 0 A = Q at hfin ⊢
  have hl := lv_entry ([.ref (kx 0)]) (n := 1) (Nat.le_of_ble_eq_true rfl)
  refine W.eq (g2 := F0 m 0 ((lg_sl ([.ref (kx 0)]) ++ List.replicate (1 - (lg_sl ([.ref (kx 0)])).length) Slot.unset).toArray) []) (by rw [ha]; exact lg_entry_eq _ _ _) ?_
  generalize (lg_sl ([.ref (kx 0)]) ++ List.replicate (1 - (lg_sl ([.ref (kx 0)])).length) Slot.unset).toArray = ls at hl ⊢
  have hl : lv_has ls 1 [(0, .ref (kx 0))] := hl
  rw [f_X9_undo] at h
  refine lv_aload_n hx hb dX9_undo_0 rfl (lv_at hl 0 rfl) ?_
  refine va_get (D := D) (ci := 9) (v := .ref (kx 1)) (C := RX9) (T := TX9) (N := 6) hx hb hts hi9 hown hK.1 hP 0 rfl rfl 2 (by decide) fl22 (fun _ h9 => h9) rfl dX9_undo_1 ?_
  refine va_get (D := D) (ci := 5) (v := .int bh.1) (C := RX5) (T := TX5) (N := 2) hx hb hts hi5 hown hK.1 hP 49 rfl rfl 0 (by decide) fl110 (fun _ h9 => h9) rfl dX9_undo_4 ?_
  refine lv_if_ne (tgt := 13) hx hb dX9_undo_7 (by decide) (fun k1 => ?_) (fun k1 => ?_)
  rotate_left
  · replace h := z_pos k1 h
    refine lv_bipush (v := (-2)) hx hb dX9_undo_10 (by decide) ?_
    exact hfin _ _ _ _ _ _ _ h rfl hP hD hS dX9_undo_12
  replace h := z_neg k1 h
  refine lv_aload_n hx hb dX9_undo_13 rfl (lv_at hl 0 rfl) ?_
  refine va_get (D := D) (ci := 9) (v := .ref (kx 1)) (C := RX9) (T := TX9) (N := 6) hx hb hts hi9 hown hK.1 hP 0 rfl rfl 2 (by decide) fl22 (fun _ h9 => h9) rfl dX9_undo_14 ?_
  refine lv_aload_n hx hb dX9_undo_17 rfl (lv_at hl 0 rfl) ?_
  refine va_get (D := D) (ci := 9) (v := .ref (kv 0)) (C := RX9) (T := TX9) (N := 6) hx hb hts hi9 hown hK.1 hP 0 rfl rfl 0 (by decide) fl10 (fun _ h9 => h9) rfl dX9_undo_18 ?_
  obtain ⟨y2, gy2, h⟩ := zb_some h
  have hpm : List.Perm (zw_x9 kx kv kd ke kt kr ++ zw_co tt kv bv ++ zw_co tt kd bd ++ zw_hi tt kx bh ++ zw_ex tt ke be ++ zw_tx tt kt bt ++ zw_rh tt kr br) ((zw_hi tt kx bh ++ zw_co tt kv bv) ++ (zw_x9 kx kv kd ke kt kr ++ zw_co tt kd bd ++ zw_ex tt ke be ++ zw_tx tt kt bt ++ zw_rh tt kr br)) := z_pm (fun _ x => by simp only [List.count_append, List.count_nil] <;> omega)
  have hPc := z_takeP hpm hP
  have hDc := z_takeD hpm hD
  have hFc := z_free0 hDc hS hA
  refine z_callmv (wc := (zw_hi tt kx bh ++ zw_co tt kv bv)) (w1 := (zw_hi tt kx y2.1 ++ zw_co tt kv y2.2)) (va_runV (As := [.ref (kv 0)]) (rest := []) ⟨hx, hb, hml, hown, hts⟩ (c_X5_restore l D tt kx kv _ bh bv y2 gy2) (cwV 1 hts gX9_undo_X5_restore rfl rfl rfl (by decide +kernel) ⟨Nat.le_of_ble_eq_true rfl, Nat.le_of_ble_eq_true rfl⟩) (z_preVm hK hPc hDc (ci := 5) (q0 := 0) rfl rfl) rfl rfl hl.1 rfl (lv_room (Nat.le_of_ble_eq_true rfl)) dX9_undo_21 ⟨Nat.zero_le _, Nat.zero_le _⟩) hS hFc (fun H locs hP1 hD1 hk1 hS => ?_)
  have hpm2 : List.Perm (zw_x9 kx kv kd ke kt kr ++ zw_co tt kv y2.2 ++ zw_co tt kd bd ++ zw_hi tt kx y2.1 ++ zw_ex tt ke be ++ zw_tx tt kt bt ++ zw_rh tt kr br) ((zw_hi tt kx y2.1 ++ zw_co tt kv y2.2) ++ (zw_x9 kx kv kd ke kt kr ++ zw_co tt kd bd ++ zw_ex tt ke be ++ zw_tx tt kt bt ++ zw_rh tt kr br)) := z_pm (fun _ x => by simp only [List.count_append, List.count_nil] <;> omega)
  obtain ⟨hP, hD⟩ := z_joinB hpm hpm2 hP hD hk1 hFc hP1 hD1
  clear hpm hpm2
  have hP : va_P D vwCl (zw_x9 kx kv kd ke kt kr ++ zw_co tt kv y2.2 ++ zw_co tt kd bd ++ zw_hi tt kx y2.1 ++ zw_ex tt ke be ++ zw_tx tt kt bt ++ zw_rh tt kr br) H := hP
  have hD : va_D A (zw_x9 kx kv kd ke kt kr ++ zw_co tt kv y2.2 ++ zw_co tt kd bd ++ zw_hi tt kx y2.1 ++ zw_ex tt ke be ++ zw_tx tt kt bt ++ zw_rh tt kr br) := hD
  refine lv_aload_n hx hb dX9_undo_24 rfl (lv_at hl 0 rfl) ?_
  refine va_get (D := D) (ci := 9) (v := .ref (kx 1)) (C := RX9) (T := TX9) (N := 6) hx hb hts hi9 hown hK.1 hP 0 rfl rfl 2 (by decide) fl22 (fun _ h9 => h9) rfl dX9_undo_25 ?_
  refine va_get (D := D) (ci := 5) (v := .int y2.1.1) (C := RX5) (T := TX5) (N := 2) hx hb hts hi5 hown hK.1 hP 49 rfl rfl 0 (by decide) fl110 (fun _ h9 => h9) rfl dX9_undo_28 ?_
  exact hfin _ _ _ _ _ _ _ h rfl hP hD hS dX9_undo_31
set_option maxHeartbeats 4000000 in
set_option maxRecDepth 100000 in
theorem c_X9_type (l : Launch) (D : va_G) (tt : Nat → ClassId) (kx : Nat → Nat) (kv : Nat → Nat) (kd : Nat → Nat) (ke : Nat → Nat) (kt : Nat → Nat) (kr : Nat → Nat) (sz : Nat) (bv : zV) (bd : zV) (bh : zH) (be : zV) (bt : zV) (br : zV) (x1 : Int32) (out : Int32 × zV) (h : f_X9_type bv bd bh be bt br x1 = some out) : Met l yX9_type wsX9_type { frames := 2, cells := 0, slots := 0, locals := 43 } (zPm [.ref (kx 0), .int x1] D tt (zw_x9 kx kv kd ke kt kr ++ zw_co tt kv bv ++ zw_co tt kd bd ++ zw_hi tt kx bh ++ zw_ex tt ke be ++ zw_tx tt kt bt ++ zw_rh tt kr br) sz) (zMi .int out.1 D (zw_x9 kx kv kd ke kt kr ++ zw_co tt kv bv ++ zw_co tt kd bd ++ zw_hi tt kx bh ++ zw_ex tt ke be ++ zw_tx tt kt out.2 ++ zw_rh tt kr br) (va_A (zw_x9 kx kv kd ke kt kr ++ zw_co tt kv bv ++ zw_co tt kd bd ++ zw_hi tt kx bh ++ zw_ex tt ke be ++ zw_tx tt kt bt ++ zw_rh tt kr br) sz)) 0 0 (va_A (zw_x9 kx kv kd ke kt kr ++ zw_co tt kv bv ++ zw_co tt kd bd ++ zw_hi tt kx bh ++ zw_ex tt ke be ++ zw_tx tt kt bt ++ zw_rh tt kr br) sz) := by
  refine Met.ofW (cc := cX9_type) (maxL := 2) (ret := (some .int)) (by decide) rfl ?_
  intro p e s m args below meth c s₁ B hml hv
  obtain ⟨ha, hsz, hP, hK, hD0⟩ := hv
  have hx := B.exec
  have hb := B.bytes
  have hr := B.returns
  have hts := atoms_spec (ws := wsX9_type) B.pre
  have hown : s.vm.findClass RX9 = some m.cls := findClass_of_methodNamed B.named
  have hlocks := B.notSynchronized
  have hi9 : ∀ w ∈ u_ws RX9 TX9 6, w ∈ wsX9_type := fun _ h => List.mem_cons_of_mem _ (List.mem_append_left _ (List.mem_append_right _ h))
  have fl36 := hts (.fieldLink RX9 36 "CapStacks" "text" "LCapStacks$Text;") (by decide +kernel)
  subst hsz
  have hD := hD0.self (sz := s.heap.size)
  generalize hAe : va_A (zw_x9 kx kv kd ke kt kr ++ zw_co tt kv bv ++ zw_co tt kd bd ++ zw_hi tt kx bh ++ zw_ex tt ke be ++ zw_tx tt kt bt ++ zw_rh tt kr br) s.heap.size = A at hD ⊢
  have hA : ∀ q : Nat, s.heap.size ≤ q → A q := fun q h => by rw [← hAe]; exact Or.inr h
  have hS : va_S A s.heap s.heap [] := va_S.rf
  have hfin : ∀ (v : Int32) (bt : zV) (pc : Nat) (ls : Array Slot) (H : Heap) (locs : List Loc), some (v, bt) = some out → narrow .int (.int v) = .int v → va_P D vwCl (zw_x9 kx kv kd ke kt kr ++ zw_co tt kv bv ++ zw_co tt kd bd ++ zw_hi tt kx bh ++ zw_ex tt ke be ++ zw_tx tt kt bt ++ zw_rh tt kr br) H → va_D A (zw_x9 kx kv kd ke kt kr ++ zw_co tt kv bv ++ zw_co tt kd bd ++ zw_hi tt kx bh ++ zw_ex tt ke be ++ zw_tx tt kt bt ++ zw_rh tt kr br) → va_S A s.heap H locs → decode cX9_type pc = .ok (.ireturn, 1) → W p l e (headSpec wsX9_type { frames := 2, cells := 0, slots := 0, locals := 43 }).room s m args below meth c H locs 0 0 (MQ below (zMi .int out.1 D (zw_x9 kx kv kd ke kt kr ++ zw_co tt kv bv ++ zw_co tt kd bd ++ zw_hi tt kx bh ++ zw_ex tt ke be ++ zw_tx tt kt out.2 ++ zw_rh tt kr br) A) args s 0 0 A) (F0 m pc ls [.int v]) := by
    intro v bt pc ls H locs he hn hP hD hS hd
    cases he
    exact W.zret hx hb hr hn (fun t ht hW => ⟨⟨_, (), rfl, ⟨rfl, hn⟩, by rw [ht]; exact hP, hD⟩, hS.F ht⟩) hS.2.2 hd
  generalize MQ below (zMi .int out.1 D (zw_x9 kx kv kd ke kt kr ++ zw_co tt kv bv ++ zw_co tt kd bd ++ zw_hi tt kx bh ++ zw_ex tt ke be ++ zw_tx tt kt out.2 ++ zw_rh tt kr br) A) args s 0 0 A = Q at hfin ⊢
  have hl := lv_entry ([.ref (kx 0), .int x1]) (n := 2) (Nat.le_of_ble_eq_true rfl)
  refine W.eq (g2 := F0 m 0 ((lg_sl ([.ref (kx 0), .int x1]) ++ List.replicate (2 - (lg_sl ([.ref (kx 0), .int x1])).length) Slot.unset).toArray) []) (by rw [ha]; exact lg_entry_eq _ _ _) ?_
  generalize (lg_sl ([.ref (kx 0), .int x1]) ++ List.replicate (2 - (lg_sl ([.ref (kx 0), .int x1])).length) Slot.unset).toArray = ls at hl ⊢
  have hl : lv_has ls 2 [(0, .ref (kx 0)), (1, .int x1)] := hl
  rw [f_X9_type] at h
  refine lv_aload_n hx hb dX9_type_0 rfl (lv_at hl 0 rfl) ?_
  refine va_get (D := D) (ci := 9) (v := .ref (kt 0)) (C := RX9) (T := TX9) (N := 6) hx hb hts hi9 hown hK.1 hP 0 rfl rfl 4 (by decide) fl36 (fun _ h9 => h9) rfl dX9_type_1 ?_
  refine lv_iload_n hx hb dX9_type_4 rfl (lv_at hl 1 rfl) ?_
  obtain ⟨y1, gy1, h⟩ := zb_some h
  have hpm : List.Perm (zw_x9 kx kv kd ke kt kr ++ zw_co tt kv bv ++ zw_co tt kd bd ++ zw_hi tt kx bh ++ zw_ex tt ke be ++ zw_tx tt kt bt ++ zw_rh tt kr br) ((zw_tx tt kt bt) ++ (zw_x9 kx kv kd ke kt kr ++ zw_co tt kv bv ++ zw_co tt kd bd ++ zw_hi tt kx bh ++ zw_ex tt ke be ++ zw_rh tt kr br)) := z_pm (fun _ x => by simp only [List.count_append, List.count_nil] <;> omega)
  have hPc := z_takeP hpm hP
  have hDc := z_takeD hpm hD
  have hFc := z_free0 hDc hS hA
  refine z_callmi (wc := (zw_tx tt kt bt)) (w1 := (zw_tx tt kt y1.2)) (va_runV (As := [.int x1]) (rest := []) ⟨hx, hb, hml, hown, hts⟩ (c_X8_append l D tt kt _ bt x1 y1 gy1) (cwV 1 hts gX9_type_X8_append rfl rfl rfl (by decide +kernel) ⟨Nat.le_of_ble_eq_true rfl, Nat.le_of_ble_eq_true rfl⟩) (z_preVm hK hPc hDc (ci := 8) (q0 := 0) rfl rfl) rfl rfl hl.1 rfl (lv_room (Nat.le_of_ble_eq_true rfl)) dX9_type_5 ⟨Nat.zero_le _, Nat.zero_le _⟩) hS hFc (fun H locs ny1 hP1 hD1 hk1 hS => ?_)
  have hpm2 : List.Perm (zw_x9 kx kv kd ke kt kr ++ zw_co tt kv bv ++ zw_co tt kd bd ++ zw_hi tt kx bh ++ zw_ex tt ke be ++ zw_tx tt kt y1.2 ++ zw_rh tt kr br) ((zw_tx tt kt y1.2) ++ (zw_x9 kx kv kd ke kt kr ++ zw_co tt kv bv ++ zw_co tt kd bd ++ zw_hi tt kx bh ++ zw_ex tt ke be ++ zw_rh tt kr br)) := z_pm (fun _ x => by simp only [List.count_append, List.count_nil] <;> omega)
  obtain ⟨hP, hD⟩ := z_joinB hpm hpm2 hP hD hk1 hFc hP1 hD1
  clear hpm hpm2
  have hP : va_P D vwCl (zw_x9 kx kv kd ke kt kr ++ zw_co tt kv bv ++ zw_co tt kd bd ++ zw_hi tt kx bh ++ zw_ex tt ke be ++ zw_tx tt kt y1.2 ++ zw_rh tt kr br) H := hP
  have hD : va_D A (zw_x9 kx kv kd ke kt kr ++ zw_co tt kv bv ++ zw_co tt kd bd ++ zw_hi tt kx bh ++ zw_ex tt ke be ++ zw_tx tt kt y1.2 ++ zw_rh tt kr br) := hD
  exact hfin _ _ _ _ _ _ h rfl hP hD hS dX9_type_8
set_option maxHeartbeats 4000000 in
set_option maxRecDepth 100000 in
theorem c_X9_clearText (l : Launch) (D : va_G) (tt : Nat → ClassId) (kx : Nat → Nat) (kv : Nat → Nat) (kd : Nat → Nat) (ke : Nat → Nat) (kt : Nat → Nat) (kr : Nat → Nat) (sz : Nat) (bv : zV) (bd : zV) (bh : zH) (be : zV) (bt : zV) (br : zV)  (out : Int32 × zV) (h : f_X9_clearText bv bd bh be bt br = some out) : Met l yX9_clearText wsX9_clearText { frames := 0, cells := 0, slots := 0, locals := 0 } (zPm [.ref (kx 0)] D tt (zw_x9 kx kv kd ke kt kr ++ zw_co tt kv bv ++ zw_co tt kd bd ++ zw_hi tt kx bh ++ zw_ex tt ke be ++ zw_tx tt kt bt ++ zw_rh tt kr br) sz) (zMi .int out.1 D (zw_x9 kx kv kd ke kt kr ++ zw_co tt kv bv ++ zw_co tt kd bd ++ zw_hi tt kx bh ++ zw_ex tt ke be ++ zw_tx tt kt out.2 ++ zw_rh tt kr br) (va_A (zw_x9 kx kv kd ke kt kr ++ zw_co tt kv bv ++ zw_co tt kd bd ++ zw_hi tt kx bh ++ zw_ex tt ke be ++ zw_tx tt kt bt ++ zw_rh tt kr br) sz)) 0 0 (va_A (zw_x9 kx kv kd ke kt kr ++ zw_co tt kv bv ++ zw_co tt kd bd ++ zw_hi tt kx bh ++ zw_ex tt ke be ++ zw_tx tt kt bt ++ zw_rh tt kr br) sz) := by
  refine Met.ofW (cc := cX9_clearText) (maxL := 2) (ret := (some .int)) (by decide) rfl ?_
  intro p e s m args below meth c s₁ B hml hv
  obtain ⟨ha, hsz, hP, hK, hD0⟩ := hv
  have hx := B.exec
  have hb := B.bytes
  have hr := B.returns
  have hts := atoms_spec (ws := wsX9_clearText) B.pre
  have hown : s.vm.findClass RX9 = some m.cls := findClass_of_methodNamed B.named
  have hlocks := B.notSynchronized
  have hi8 : ∀ w ∈ u_ws RX8 TX8 4, w ∈ wsX9_clearText := fun _ h => List.mem_cons_of_mem _ (List.mem_append_right _ h)
  have hi9 : ∀ w ∈ u_ws RX9 TX9 6, w ∈ wsX9_clearText := fun _ h => List.mem_cons_of_mem _ (List.mem_append_left _ (List.mem_append_right _ h))
  have fl114 := hts (.fieldLink RX9 114 "CapStacks$Text" "length" "I") (by decide +kernel)
  have fl36 := hts (.fieldLink RX9 36 "CapStacks" "text" "LCapStacks$Text;") (by decide +kernel)
  subst hsz
  have hD := hD0.self (sz := s.heap.size)
  generalize hAe : va_A (zw_x9 kx kv kd ke kt kr ++ zw_co tt kv bv ++ zw_co tt kd bd ++ zw_hi tt kx bh ++ zw_ex tt ke be ++ zw_tx tt kt bt ++ zw_rh tt kr br) s.heap.size = A at hD ⊢
  have hA : ∀ q : Nat, s.heap.size ≤ q → A q := fun q h => by rw [← hAe]; exact Or.inr h
  have hS : va_S A s.heap s.heap [] := va_S.rf
  have hfin : ∀ (v : Int32) (bt : zV) (pc : Nat) (ls : Array Slot) (H : Heap) (locs : List Loc), some (v, bt) = some out → narrow .int (.int v) = .int v → va_P D vwCl (zw_x9 kx kv kd ke kt kr ++ zw_co tt kv bv ++ zw_co tt kd bd ++ zw_hi tt kx bh ++ zw_ex tt ke be ++ zw_tx tt kt bt ++ zw_rh tt kr br) H → va_D A (zw_x9 kx kv kd ke kt kr ++ zw_co tt kv bv ++ zw_co tt kd bd ++ zw_hi tt kx bh ++ zw_ex tt ke be ++ zw_tx tt kt bt ++ zw_rh tt kr br) → va_S A s.heap H locs → decode cX9_clearText pc = .ok (.ireturn, 1) → W p l e (headSpec wsX9_clearText { frames := 0, cells := 0, slots := 0, locals := 0 }).room s m args below meth c H locs 0 0 (MQ below (zMi .int out.1 D (zw_x9 kx kv kd ke kt kr ++ zw_co tt kv bv ++ zw_co tt kd bd ++ zw_hi tt kx bh ++ zw_ex tt ke be ++ zw_tx tt kt out.2 ++ zw_rh tt kr br) A) args s 0 0 A) (F0 m pc ls [.int v]) := by
    intro v bt pc ls H locs he hn hP hD hS hd
    cases he
    exact W.zret hx hb hr hn (fun t ht hW => ⟨⟨_, (), rfl, ⟨rfl, hn⟩, by rw [ht]; exact hP, hD⟩, hS.F ht⟩) hS.2.2 hd
  generalize MQ below (zMi .int out.1 D (zw_x9 kx kv kd ke kt kr ++ zw_co tt kv bv ++ zw_co tt kd bd ++ zw_hi tt kx bh ++ zw_ex tt ke be ++ zw_tx tt kt out.2 ++ zw_rh tt kr br) A) args s 0 0 A = Q at hfin ⊢
  have hl := lv_entry ([.ref (kx 0)]) (n := 2) (Nat.le_of_ble_eq_true rfl)
  refine W.eq (g2 := F0 m 0 ((lg_sl ([.ref (kx 0)]) ++ List.replicate (2 - (lg_sl ([.ref (kx 0)])).length) Slot.unset).toArray) []) (by rw [ha]; exact lg_entry_eq _ _ _) ?_
  generalize (lg_sl ([.ref (kx 0)]) ++ List.replicate (2 - (lg_sl ([.ref (kx 0)])).length) Slot.unset).toArray = ls at hl ⊢
  have hl : lv_has ls 2 [(0, .ref (kx 0))] := hl
  rw [f_X9_clearText] at h
  refine lv_aload_n hx hb dX9_clearText_0 rfl (lv_at hl 0 rfl) ?_
  refine va_get (D := D) (ci := 9) (v := .ref (kt 0)) (C := RX9) (T := TX9) (N := 6) hx hb hts hi9 hown hK.1 hP 0 rfl rfl 4 (by decide) fl36 (fun _ h9 => h9) rfl dX9_clearText_1 ?_
  refine va_get (D := D) (ci := 8) (v := .int (bt 0 0)) (C := RX8) (T := TX8) (N := 4) hx hb hts hi8 hown hK.1 hP 154 rfl rfl 0 (by decide) fl114 (fun _ h9 => h9) rfl dX9_clearText_4 ?_
  refine lv_istore_n (lv' := [(1, .int (bt 0 0)), (0, .ref (kx 0))]) hx hb dX9_clearText_7 rfl hl (by decide) rfl (fun ls hl => ?_)
  refine lv_aload_n hx hb dX9_clearText_8 rfl (lv_at hl 1 rfl) ?_
  refine va_get (D := D) (ci := 9) (v := .ref (kt 0)) (C := RX9) (T := TX9) (N := 6) hx hb hts hi9 hown hK.1 hP 0 rfl rfl 4 (by decide) fl36 (fun _ h9 => h9) rfl dX9_clearText_9 ?_
  refine lv_iconst (v := 0) hx hb dX9_clearText_12 (by decide) ?_
  refine va_put (D := D) (ci := 8) (v := .int 0) (ty := .int) (C := RX8) (T := TX8) (N := 4) hx hb hts hi8 tyX8 tyX8_ok nmX8 hown hK.1 hP hD hS 154 rfl rfl 0 (by decide) fl114 (fun _ h9 => h9) rfl (by decide +kernel) rfl rfl (Nat.le_of_ble_eq_true rfl) dX9_clearText_13 (fun H locs hP hD hS => ?_)
  have hP : va_P D vwCl (zw_x9 kx kv kd ke kt kr ++ zw_co tt kv bv ++ zw_co tt kd bd ++ zw_hi tt kx bh ++ zw_ex tt ke be ++ zw_tx tt kt (zu bt 0 (zu (bt 0) 0 0)) ++ zw_rh tt kr br) H := hP
  have hD : va_D A (zw_x9 kx kv kd ke kt kr ++ zw_co tt kv bv ++ zw_co tt kd bd ++ zw_hi tt kx bh ++ zw_ex tt ke be ++ zw_tx tt kt (zu bt 0 (zu (bt 0) 0 0)) ++ zw_rh tt kr br) := hD
  refine lv_iload_n hx hb dX9_clearText_16 rfl (lv_at hl 0 rfl) ?_
  exact hfin _ _ _ _ _ _ h rfl hP hD hS dX9_clearText_17
set_option maxHeartbeats 4000000 in
set_option maxRecDepth 100000 in
theorem c_X9_fault (l : Launch) (D : va_G) (tt : Nat → ClassId) (gs : zGs) (kx : Nat → Nat) (kv : Nat → Nat) (kd : Nat → Nat) (ke : Nat → Nat) (kt : Nat → Nat) (kr : Nat → Nat) (sz : Nat) (bv : zV) (bd : zV) (bh : zH) (be : zV) (bt : zV) (br : zV) (x1 : Int32) (out : Int32 × zV × zV × zV) (h : f_X9_fault bv bd bh be bt br x1 = some out) : Met l yX9_fault wsX9_fault { frames := 8, cells := 0, slots := 0, locals := 191 } (zPg [.ref (kx 0), .int x1] D tt (zw_x9 kx kv kd ke kt kr ++ zw_co tt kv bv ++ zw_co tt kd bd ++ zw_hi tt kx bh ++ zw_ex tt ke be ++ zw_tx tt kt bt ++ zw_rh tt kr br) sz gs) (zMi .int out.1 D (zw_x9 kx kv kd ke kt kr ++ zw_co tt kv bv ++ zw_co tt kd out.2.1 ++ zw_hi tt kx bh ++ zw_ex tt ke be ++ zw_tx tt kt out.2.2.1 ++ zw_rh tt kr out.2.2.2) (va_A (zw_x9 kx kv kd ke kt kr ++ zw_co tt kv bv ++ zw_co tt kd bd ++ zw_hi tt kx bh ++ zw_ex tt ke be ++ zw_tx tt kt bt ++ zw_rh tt kr br) sz)) 0 0 (va_A (zw_x9 kx kv kd ke kt kr ++ zw_co tt kv bv ++ zw_co tt kd bd ++ zw_hi tt kx bh ++ zw_ex tt ke be ++ zw_tx tt kt bt ++ zw_rh tt kr br) sz) := by
  refine Met.ofW (cc := cX9_fault) (maxL := 2) (ret := (some .int)) (by decide) rfl ?_
  intro p e s m args below meth c s₁ B hml hv
  obtain ⟨ha, hsz, hP, hK, hD0, hG⟩ := hv
  have hx := B.exec
  have hb := B.bytes
  have hr := B.returns
  have hts := atoms_spec (ws := wsX9_fault) B.pre
  have hown : s.vm.findClass RX9 = some m.cls := findClass_of_methodNamed B.named
  have hlocks := B.notSynchronized
  have hi9 : ∀ w ∈ u_ws RX9 TX9 6, w ∈ wsX9_fault := fun _ h => List.mem_cons_of_mem _ (List.mem_append_left _ (List.mem_append_left _ (List.mem_append_left _ (List.mem_append_left _ (List.mem_append_left _ (List.mem_append_left _ (List.mem_append_left _ (List.mem_append_right _ h))))))))
  have fl36 := hts (.fieldLink RX9 36 "CapStacks" "text" "LCapStacks$Text;") (by decide +kernel)
  have fl43 := hts (.fieldLink RX9 43 "CapStacks" "rehearsal" "LCapStacks$Rehearsal;") (by decide +kernel)
  subst hsz
  have hD := hD0.self (sz := s.heap.size)
  generalize hAe : va_A (zw_x9 kx kv kd ke kt kr ++ zw_co tt kv bv ++ zw_co tt kd bd ++ zw_hi tt kx bh ++ zw_ex tt ke be ++ zw_tx tt kt bt ++ zw_rh tt kr br) s.heap.size = A at hD hG ⊢
  have hA : ∀ q : Nat, s.heap.size ≤ q → A q := fun q h => by rw [← hAe]; exact Or.inr h
  have hS : va_S A s.heap s.heap [] := va_S.rf
  have hfin : ∀ (v : Int32) (bd : zV) (bt : zV) (br : zV) (pc : Nat) (ls : Array Slot) (H : Heap) (locs : List Loc), some (v, bd, bt, br) = some out → narrow .int (.int v) = .int v → va_P D vwCl (zw_x9 kx kv kd ke kt kr ++ zw_co tt kv bv ++ zw_co tt kd bd ++ zw_hi tt kx bh ++ zw_ex tt ke be ++ zw_tx tt kt bt ++ zw_rh tt kr br) H → va_D A (zw_x9 kx kv kd ke kt kr ++ zw_co tt kv bv ++ zw_co tt kd bd ++ zw_hi tt kx bh ++ zw_ex tt ke be ++ zw_tx tt kt bt ++ zw_rh tt kr br) → va_S A s.heap H locs → decode cX9_fault pc = .ok (.ireturn, 1) → W p l e (headSpec wsX9_fault { frames := 8, cells := 0, slots := 0, locals := 191 }).room s m args below meth c H locs 0 0 (MQ below (zMi .int out.1 D (zw_x9 kx kv kd ke kt kr ++ zw_co tt kv bv ++ zw_co tt kd out.2.1 ++ zw_hi tt kx bh ++ zw_ex tt ke be ++ zw_tx tt kt out.2.2.1 ++ zw_rh tt kr out.2.2.2) A) args s 0 0 A) (F0 m pc ls [.int v]) := by
    intro v bd bt br pc ls H locs he hn hP hD hS hd
    cases he
    exact W.zret hx hb hr hn (fun t ht hW => ⟨⟨_, (), rfl, ⟨rfl, hn⟩, by rw [ht]; exact hP, hD⟩, hS.F ht⟩) hS.2.2 hd
  generalize MQ below (zMi .int out.1 D (zw_x9 kx kv kd ke kt kr ++ zw_co tt kv bv ++ zw_co tt kd out.2.1 ++ zw_hi tt kx bh ++ zw_ex tt ke be ++ zw_tx tt kt out.2.2.1 ++ zw_rh tt kr out.2.2.2) A) args s 0 0 A = Q at hfin ⊢
  have hl := lv_entry ([.ref (kx 0), .int x1]) (n := 2) (Nat.le_of_ble_eq_true rfl)
  refine W.eq (g2 := F0 m 0 ((lg_sl ([.ref (kx 0), .int x1]) ++ List.replicate (2 - (lg_sl ([.ref (kx 0), .int x1])).length) Slot.unset).toArray) []) (by rw [ha]; exact lg_entry_eq _ _ _) ?_
  generalize (lg_sl ([.ref (kx 0), .int x1]) ++ List.replicate (2 - (lg_sl ([.ref (kx 0), .int x1])).length) Slot.unset).toArray = ls at hl ⊢
  have hl : lv_has ls 2 [(0, .ref (kx 0)), (1, .int x1)] := hl
  rw [f_X9_fault] at h
  refine lv_iload_n hx hb dX9_fault_0 rfl (lv_at hl 1 rfl) ?_
  refine lv_iconst (v := 0) hx hb dX9_fault_1 (by decide) ?_
  refine lv_iconst (v := 2) hx hb dX9_fault_2 (by decide) ?_
  obtain ⟨y1, gy1, h⟩ := zb_some h
  refine z_callr (va_runS (As := [.int x1, .int 0, .int 2]) (rest := []) ⟨hx, hb, hml, hown, hts⟩ (c_X9_within l D tt x1 0 2 y1 gy1) (va_cwS 3 hts gX9_fault_X9_within rfl rfl rfl (by decide +kernel) ⟨Nat.le_of_ble_eq_true rfl, Nat.le_of_ble_eq_true rfl⟩) (z_preSr hK (hP.sub (ws' := ([] : va_W)) [] rfl)) rfl rfl hl.1 rfl (lv_room (Nat.le_of_ble_eq_true rfl)) dX9_fault_3 ⟨Nat.zero_le _, Nat.zero_le _⟩) (fun ny1 => ?_)
  refine lv_if_ne (tgt := 11) hx hb dX9_fault_6 (by decide) (fun k2 => ?_) (fun k2 => ?_)
  rotate_left
  · replace h := z_pos k2 h
    refine lv_iconst (v := (-1)) hx hb dX9_fault_9 (by decide) ?_
    exact hfin _ _ _ _ _ _ _ _ h rfl hP hD hS dX9_fault_10
  replace h := z_neg k2 h
  refine lv_aload_n hx hb dX9_fault_11 rfl (lv_at hl 0 rfl) ?_
  refine va_get (D := D) (ci := 9) (v := .ref (kr 0)) (C := RX9) (T := TX9) (N := 6) hx hb hts hi9 hown hK.1 hP 0 rfl rfl 5 (by decide) fl43 (fun _ h9 => h9) rfl dX9_fault_12 ?_
  refine lv_aload_n hx hb dX9_fault_15 rfl (lv_at hl 0 rfl) ?_
  refine va_get (D := D) (ci := 9) (v := .ref (kt 0)) (C := RX9) (T := TX9) (N := 6) hx hb hts hi9 hown hK.1 hP 0 rfl rfl 4 (by decide) fl36 (fun _ h9 => h9) rfl dX9_fault_16 ?_
  refine lv_aload_n hx hb dX9_fault_19 rfl (lv_at hl 0 rfl) ?_
  obtain ⟨y3, gy3, h⟩ := zb_some h
  have hFc := z_free0 hD hS hA
  refine z_callmr (q := kd 0) (wc := (zw_x9 kx kv kd ke kt kr ++ zw_co tt kv bv ++ zw_co tt kd bd ++ zw_hi tt kx bh ++ zw_ex tt ke be ++ zw_tx tt kt bt ++ zw_rh tt kr br)) (w1 := (zw_x9 kx kv kd ke kt kr ++ zw_co tt kv bv ++ zw_co tt kd y3 ++ zw_hi tt kx bh ++ zw_ex tt ke be ++ zw_tx tt kt bt ++ zw_rh tt kr br)) (va_runV (As := []) (rest := [.ref (kt 0), .ref (kr 0)]) ⟨hx, hb, hml, hown, hts⟩ (c_X9_newDraft l D tt kx kv kd ke kt kr _ bv bd bh be bt br y3 gy3) (cwV 0 hts gX9_fault_X9_newDraft rfl rfl rfl (by decide +kernel) ⟨Nat.le_of_ble_eq_true rfl, Nat.le_of_ble_eq_true rfl⟩) (z_preVm hK hP hD (ci := 9) (q0 := 0) rfl rfl) rfl rfl hl.1 rfl (lv_room (Nat.le_of_ble_eq_true rfl)) dX9_fault_20 ⟨Nat.zero_le _, Nat.zero_le _⟩) hS hFc (fun H locs hP1 hD1 hk1 hS => ?_)
  have hP := hP1
  have hD := hD1.weaken (fun _ q _ h => hFc q.1 h)
  obtain ⟨y4, gy4, h⟩ := zb_some h
  have hpm : List.Perm (zw_x9 kx kv kd ke kt kr ++ zw_co tt kv bv ++ zw_co tt kd y3 ++ zw_hi tt kx bh ++ zw_ex tt ke be ++ zw_tx tt kt bt ++ zw_rh tt kr br) ((zw_rh tt kr br ++ zw_tx tt kt bt ++ zw_co tt kd y3) ++ (zw_x9 kx kv kd ke kt kr ++ zw_co tt kv bv ++ zw_hi tt kx bh ++ zw_ex tt ke be)) := z_pm (fun _ x => by simp only [List.count_append, List.count_nil] <;> omega)
  have hPc := z_takeP hpm hP
  have hDc := z_takeD hpm hD
  have hFc := z_free0 hDc hS hA
  refine z_callmv (wc := (zw_rh tt kr br ++ zw_tx tt kt bt ++ zw_co tt kd y3)) (w1 := (zw_rh tt kr y4.1 ++ zw_tx tt kt y4.2.1 ++ zw_co tt kd y4.2.2)) (va_runV (As := [.ref (kt 0), .ref (kd 0)]) (rest := []) ⟨hx, hb, hml, hown, hts⟩ (c_X6_run l D tt gs kr kt kd _ br bt y3 y4 gy4) (cwV 2 hts gX9_fault_X6_run rfl rfl rfl (by decide +kernel) ⟨Nat.le_of_ble_eq_true rfl, Nat.le_of_ble_eq_true rfl⟩) (z_preVg hK hPc hDc hG hS hFc (ci := 6) (q0 := 0) rfl rfl) rfl rfl hl.1 rfl (lv_room (Nat.le_of_ble_eq_true rfl)) dX9_fault_23 ⟨Nat.zero_le _, Nat.zero_le _⟩) hS hFc (fun H locs hP1 hD1 hk1 hS => ?_)
  have hpm2 : List.Perm (zw_x9 kx kv kd ke kt kr ++ zw_co tt kv bv ++ zw_co tt kd y4.2.2 ++ zw_hi tt kx bh ++ zw_ex tt ke be ++ zw_tx tt kt y4.2.1 ++ zw_rh tt kr y4.1) ((zw_rh tt kr y4.1 ++ zw_tx tt kt y4.2.1 ++ zw_co tt kd y4.2.2) ++ (zw_x9 kx kv kd ke kt kr ++ zw_co tt kv bv ++ zw_hi tt kx bh ++ zw_ex tt ke be)) := z_pm (fun _ x => by simp only [List.count_append, List.count_nil] <;> omega)
  obtain ⟨hP, hD⟩ := z_joinB hpm hpm2 hP hD hk1 hFc hP1 hD1
  clear hpm hpm2
  have hP : va_P D vwCl (zw_x9 kx kv kd ke kt kr ++ zw_co tt kv bv ++ zw_co tt kd y4.2.2 ++ zw_hi tt kx bh ++ zw_ex tt ke be ++ zw_tx tt kt y4.2.1 ++ zw_rh tt kr y4.1) H := hP
  have hD : va_D A (zw_x9 kx kv kd ke kt kr ++ zw_co tt kv bv ++ zw_co tt kd y4.2.2 ++ zw_hi tt kx bh ++ zw_ex tt ke be ++ zw_tx tt kt y4.2.1 ++ zw_rh tt kr y4.1) := hD
  refine lv_aload_n hx hb dX9_fault_26 rfl (lv_at hl 0 rfl) ?_
  refine va_get (D := D) (ci := 9) (v := .ref (kr 0)) (C := RX9) (T := TX9) (N := 6) hx hb hts hi9 hown hK.1 hP 0 rfl rfl 5 (by decide) fl43 (fun _ h9 => h9) rfl dX9_fault_27 ?_
  refine lv_iload_n hx hb dX9_fault_30 rfl (lv_at hl 1 rfl) ?_
  obtain ⟨y5, gy5, h⟩ := zb_some h
  have hpm : List.Perm (zw_x9 kx kv kd ke kt kr ++ zw_co tt kv bv ++ zw_co tt kd y4.2.2 ++ zw_hi tt kx bh ++ zw_ex tt ke be ++ zw_tx tt kt y4.2.1 ++ zw_rh tt kr y4.1) ((zw_rh tt kr y4.1) ++ (zw_x9 kx kv kd ke kt kr ++ zw_co tt kv bv ++ zw_co tt kd y4.2.2 ++ zw_hi tt kx bh ++ zw_ex tt ke be ++ zw_tx tt kt y4.2.1)) := z_pm (fun _ x => by simp only [List.count_append, List.count_nil] <;> omega)
  refine z_callr (va_runV (As := [.int x1]) (rest := []) ⟨hx, hb, hml, hown, hts⟩ (c_X6_about l D tt kr y4.1 x1 y5 gy5) (cwV 1 hts gX9_fault_X6_about rfl rfl rfl (by decide +kernel) ⟨Nat.le_of_ble_eq_true rfl, Nat.le_of_ble_eq_true rfl⟩) (z_preVr hK (z_takeP hpm hP) (ci := 6) (q0 := 0) rfl rfl) rfl rfl hl.1 rfl (lv_room (Nat.le_of_ble_eq_true rfl)) dX9_fault_31 ⟨Nat.zero_le _, Nat.zero_le _⟩) (fun ny5 => ?_)
  exact hfin _ _ _ _ _ _ _ _ h rfl hP hD hS dX9_fault_34
set_option maxHeartbeats 4000000 in
set_option maxRecDepth 100000 in
theorem c_X9_play (l : Launch) (D : va_G) (tt : Nat → ClassId) (gs : zGs) (kx : Nat → Nat) (kv : Nat → Nat) (kd : Nat → Nat) (ke : Nat → Nat) (kt : Nat → Nat) (kr : Nat → Nat) (sz : Nat) (bv : zV) (bd : zV) (bh : zH) (be : zV) (bt : zV) (br : zV)  (out : Int32 × zV × zV × zH × zV × zV) (h : f_X9_play bv bd bh be bt br = some out) : Met l yX9_play wsX9_play { frames := 8, cells := 0, slots := 0, locals := 191 } (zPg [.ref (kx 0)] D tt (zw_x9 kx kv kd ke kt kr ++ zw_co tt kv bv ++ zw_co tt kd bd ++ zw_hi tt kx bh ++ zw_ex tt ke be ++ zw_tx tt kt bt ++ zw_rh tt kr br) sz gs) (zMi .int out.1 D (zw_x9 kx kv kd ke kt kr ++ zw_co tt kv out.2.1 ++ zw_co tt kd out.2.2.1 ++ zw_hi tt kx out.2.2.2.1 ++ zw_ex tt ke be ++ zw_tx tt kt out.2.2.2.2.1 ++ zw_rh tt kr out.2.2.2.2.2) (va_A (zw_x9 kx kv kd ke kt kr ++ zw_co tt kv bv ++ zw_co tt kd bd ++ zw_hi tt kx bh ++ zw_ex tt ke be ++ zw_tx tt kt bt ++ zw_rh tt kr br) sz)) 0 0 (va_A (zw_x9 kx kv kd ke kt kr ++ zw_co tt kv bv ++ zw_co tt kd bd ++ zw_hi tt kx bh ++ zw_ex tt ke be ++ zw_tx tt kt bt ++ zw_rh tt kr br) sz) := by
  refine Met.ofW (cc := cX9_play) (maxL := 1) (ret := (some .int)) (by decide) rfl ?_
  intro p e s m args below meth c s₁ B hml hv
  obtain ⟨ha, hsz, hP, hK, hD0, hG⟩ := hv
  have hx := B.exec
  have hb := B.bytes
  have hr := B.returns
  have hts := atoms_spec (ws := wsX9_play) B.pre
  have hown : s.vm.findClass RX9 = some m.cls := findClass_of_methodNamed B.named
  have hlocks := B.notSynchronized
  have hi6 : ∀ w ∈ u_ws RX6 TX6 4, w ∈ wsX9_play := fun _ h => List.mem_cons_of_mem _ (List.mem_append_left _ (List.mem_append_left _ (List.mem_append_left _ (List.mem_append_left _ (List.mem_append_left _ (List.mem_append_left _ (List.mem_append_left _ (List.mem_append_right _ h))))))))
  have hi9 : ∀ w ∈ u_ws RX9 TX9 6, w ∈ wsX9_play := fun _ h => List.mem_cons_of_mem _ (List.mem_append_left _ (List.mem_append_left _ (List.mem_append_left _ (List.mem_append_left _ (List.mem_append_left _ (List.mem_append_left _ (List.mem_append_left _ (List.mem_append_left _ (List.mem_append_right _ h)))))))))
  have fl175 := hts (.fieldLink RX9 175 "CapStacks$Rehearsal" "done" "I") (by decide +kernel)
  have fl36 := hts (.fieldLink RX9 36 "CapStacks" "text" "LCapStacks$Text;") (by decide +kernel)
  have fl43 := hts (.fieldLink RX9 43 "CapStacks" "rehearsal" "LCapStacks$Rehearsal;") (by decide +kernel)
  subst hsz
  have hD := hD0.self (sz := s.heap.size)
  generalize hAe : va_A (zw_x9 kx kv kd ke kt kr ++ zw_co tt kv bv ++ zw_co tt kd bd ++ zw_hi tt kx bh ++ zw_ex tt ke be ++ zw_tx tt kt bt ++ zw_rh tt kr br) s.heap.size = A at hD hG ⊢
  have hA : ∀ q : Nat, s.heap.size ≤ q → A q := fun q h => by rw [← hAe]; exact Or.inr h
  have hS : va_S A s.heap s.heap [] := va_S.rf
  have hfin : ∀ (v : Int32) (bv : zV) (bd : zV) (bh : zH) (bt : zV) (br : zV) (pc : Nat) (ls : Array Slot) (H : Heap) (locs : List Loc), some (v, bv, bd, bh, bt, br) = some out → narrow .int (.int v) = .int v → va_P D vwCl (zw_x9 kx kv kd ke kt kr ++ zw_co tt kv bv ++ zw_co tt kd bd ++ zw_hi tt kx bh ++ zw_ex tt ke be ++ zw_tx tt kt bt ++ zw_rh tt kr br) H → va_D A (zw_x9 kx kv kd ke kt kr ++ zw_co tt kv bv ++ zw_co tt kd bd ++ zw_hi tt kx bh ++ zw_ex tt ke be ++ zw_tx tt kt bt ++ zw_rh tt kr br) → va_S A s.heap H locs → decode cX9_play pc = .ok (.ireturn, 1) → W p l e (headSpec wsX9_play { frames := 8, cells := 0, slots := 0, locals := 191 }).room s m args below meth c H locs 0 0 (MQ below (zMi .int out.1 D (zw_x9 kx kv kd ke kt kr ++ zw_co tt kv out.2.1 ++ zw_co tt kd out.2.2.1 ++ zw_hi tt kx out.2.2.2.1 ++ zw_ex tt ke be ++ zw_tx tt kt out.2.2.2.2.1 ++ zw_rh tt kr out.2.2.2.2.2) A) args s 0 0 A) (F0 m pc ls [.int v]) := by
    intro v bv bd bh bt br pc ls H locs he hn hP hD hS hd
    cases he
    exact W.zret hx hb hr hn (fun t ht hW => ⟨⟨_, (), rfl, ⟨rfl, hn⟩, by rw [ht]; exact hP, hD⟩, hS.F ht⟩) hS.2.2 hd
  generalize MQ below (zMi .int out.1 D (zw_x9 kx kv kd ke kt kr ++ zw_co tt kv out.2.1 ++ zw_co tt kd out.2.2.1 ++ zw_hi tt kx out.2.2.2.1 ++ zw_ex tt ke be ++ zw_tx tt kt out.2.2.2.2.1 ++ zw_rh tt kr out.2.2.2.2.2) A) args s 0 0 A = Q at hfin ⊢
  have hl := lv_entry ([.ref (kx 0)]) (n := 1) (Nat.le_of_ble_eq_true rfl)
  refine W.eq (g2 := F0 m 0 ((lg_sl ([.ref (kx 0)]) ++ List.replicate (1 - (lg_sl ([.ref (kx 0)])).length) Slot.unset).toArray) []) (by rw [ha]; exact lg_entry_eq _ _ _) ?_
  generalize (lg_sl ([.ref (kx 0)]) ++ List.replicate (1 - (lg_sl ([.ref (kx 0)])).length) Slot.unset).toArray = ls at hl ⊢
  have hl : lv_has ls 1 [(0, .ref (kx 0))] := hl
  rw [f_X9_play] at h
  refine lv_aload_n hx hb dX9_play_0 rfl (lv_at hl 0 rfl) ?_
  refine va_get (D := D) (ci := 9) (v := .ref (kr 0)) (C := RX9) (T := TX9) (N := 6) hx hb hts hi9 hown hK.1 hP 0 rfl rfl 5 (by decide) fl43 (fun _ h9 => h9) rfl dX9_play_1 ?_
  refine lv_aload_n hx hb dX9_play_4 rfl (lv_at hl 0 rfl) ?_
  refine va_get (D := D) (ci := 9) (v := .ref (kt 0)) (C := RX9) (T := TX9) (N := 6) hx hb hts hi9 hown hK.1 hP 0 rfl rfl 4 (by decide) fl36 (fun _ h9 => h9) rfl dX9_play_5 ?_
  refine lv_aload_n hx hb dX9_play_8 rfl (lv_at hl 0 rfl) ?_
  obtain ⟨y1, gy1, h⟩ := zb_some h
  have hFc := z_free0 hD hS hA
  refine z_callmr (q := kd 0) (wc := (zw_x9 kx kv kd ke kt kr ++ zw_co tt kv bv ++ zw_co tt kd bd ++ zw_hi tt kx bh ++ zw_ex tt ke be ++ zw_tx tt kt bt ++ zw_rh tt kr br)) (w1 := (zw_x9 kx kv kd ke kt kr ++ zw_co tt kv bv ++ zw_co tt kd y1 ++ zw_hi tt kx bh ++ zw_ex tt ke be ++ zw_tx tt kt bt ++ zw_rh tt kr br)) (va_runV (As := []) (rest := [.ref (kt 0), .ref (kr 0)]) ⟨hx, hb, hml, hown, hts⟩ (c_X9_newDraft l D tt kx kv kd ke kt kr _ bv bd bh be bt br y1 gy1) (cwV 0 hts gX9_play_X9_newDraft rfl rfl rfl (by decide +kernel) ⟨Nat.le_of_ble_eq_true rfl, Nat.le_of_ble_eq_true rfl⟩) (z_preVm hK hP hD (ci := 9) (q0 := 0) rfl rfl) rfl rfl hl.1 rfl (lv_room (Nat.le_of_ble_eq_true rfl)) dX9_play_9 ⟨Nat.zero_le _, Nat.zero_le _⟩) hS hFc (fun H locs hP1 hD1 hk1 hS => ?_)
  have hP := hP1
  have hD := hD1.weaken (fun _ q _ h => hFc q.1 h)
  obtain ⟨y2, gy2, h⟩ := zb_some h
  have hpm : List.Perm (zw_x9 kx kv kd ke kt kr ++ zw_co tt kv bv ++ zw_co tt kd y1 ++ zw_hi tt kx bh ++ zw_ex tt ke be ++ zw_tx tt kt bt ++ zw_rh tt kr br) ((zw_rh tt kr br ++ zw_tx tt kt bt ++ zw_co tt kd y1) ++ (zw_x9 kx kv kd ke kt kr ++ zw_co tt kv bv ++ zw_hi tt kx bh ++ zw_ex tt ke be)) := z_pm (fun _ x => by simp only [List.count_append, List.count_nil] <;> omega)
  have hPc := z_takeP hpm hP
  have hDc := z_takeD hpm hD
  have hFc := z_free0 hDc hS hA
  refine z_callmv (wc := (zw_rh tt kr br ++ zw_tx tt kt bt ++ zw_co tt kd y1)) (w1 := (zw_rh tt kr y2.1 ++ zw_tx tt kt y2.2.1 ++ zw_co tt kd y2.2.2)) (va_runV (As := [.ref (kt 0), .ref (kd 0)]) (rest := []) ⟨hx, hb, hml, hown, hts⟩ (c_X6_run l D tt gs kr kt kd _ br bt y1 y2 gy2) (cwV 2 hts gX9_play_X6_run rfl rfl rfl (by decide +kernel) ⟨Nat.le_of_ble_eq_true rfl, Nat.le_of_ble_eq_true rfl⟩) (z_preVg hK hPc hDc hG hS hFc (ci := 6) (q0 := 0) rfl rfl) rfl rfl hl.1 rfl (lv_room (Nat.le_of_ble_eq_true rfl)) dX9_play_12 ⟨Nat.zero_le _, Nat.zero_le _⟩) hS hFc (fun H locs hP1 hD1 hk1 hS => ?_)
  have hpm2 : List.Perm (zw_x9 kx kv kd ke kt kr ++ zw_co tt kv bv ++ zw_co tt kd y2.2.2 ++ zw_hi tt kx bh ++ zw_ex tt ke be ++ zw_tx tt kt y2.2.1 ++ zw_rh tt kr y2.1) ((zw_rh tt kr y2.1 ++ zw_tx tt kt y2.2.1 ++ zw_co tt kd y2.2.2) ++ (zw_x9 kx kv kd ke kt kr ++ zw_co tt kv bv ++ zw_hi tt kx bh ++ zw_ex tt ke be)) := z_pm (fun _ x => by simp only [List.count_append, List.count_nil] <;> omega)
  obtain ⟨hP, hD⟩ := z_joinB hpm hpm2 hP hD hk1 hFc hP1 hD1
  clear hpm hpm2
  have hP : va_P D vwCl (zw_x9 kx kv kd ke kt kr ++ zw_co tt kv bv ++ zw_co tt kd y2.2.2 ++ zw_hi tt kx bh ++ zw_ex tt ke be ++ zw_tx tt kt y2.2.1 ++ zw_rh tt kr y2.1) H := hP
  have hD : va_D A (zw_x9 kx kv kd ke kt kr ++ zw_co tt kv bv ++ zw_co tt kd y2.2.2 ++ zw_hi tt kx bh ++ zw_ex tt ke be ++ zw_tx tt kt y2.2.1 ++ zw_rh tt kr y2.1) := hD
  refine lv_aload_n hx hb dX9_play_15 rfl (lv_at hl 0 rfl) ?_
  refine lv_aload_n hx hb dX9_play_16 rfl (lv_at hl 0 rfl) ?_
  refine va_get (D := D) (ci := 9) (v := .ref (kr 0)) (C := RX9) (T := TX9) (N := 6) hx hb hts hi9 hown hK.1 hP 0 rfl rfl 5 (by decide) fl43 (fun _ h9 => h9) rfl dX9_play_17 ?_
  obtain ⟨y3, gy3, h⟩ := zb_some h
  have hpm : List.Perm (zw_x9 kx kv kd ke kt kr ++ zw_co tt kv bv ++ zw_co tt kd y2.2.2 ++ zw_hi tt kx bh ++ zw_ex tt ke be ++ zw_tx tt kt y2.2.1 ++ zw_rh tt kr y2.1) ((zw_rh tt kr y2.1) ++ (zw_x9 kx kv kd ke kt kr ++ zw_co tt kv bv ++ zw_co tt kd y2.2.2 ++ zw_hi tt kx bh ++ zw_ex tt ke be ++ zw_tx tt kt y2.2.1)) := z_pm (fun _ x => by simp only [List.count_append, List.count_nil] <;> omega)
  refine z_callr (va_runV (As := []) (rest := [.ref (kx 0)]) ⟨hx, hb, hml, hown, hts⟩ (c_X6_failed l D tt kr y2.1 y3 gy3) (cwV 0 hts gX9_play_X6_failed rfl rfl rfl (by decide +kernel) ⟨Nat.le_of_ble_eq_true rfl, Nat.le_of_ble_eq_true rfl⟩) (z_preVr hK (z_takeP hpm hP) (ci := 6) (q0 := 0) rfl rfl) rfl rfl hl.1 rfl (lv_room (Nat.le_of_ble_eq_true rfl)) dX9_play_20 ⟨Nat.zero_le _, Nat.zero_le _⟩) (fun ny3 => ?_)
  refine lv_if_eq (tgt := 31) hx hb dX9_play_23 (by decide) (fun k4 => ?_) (fun k4 => ?_)
  rotate_left
  · replace h := z_neg k4 h
    refine lv_bipush (v := (-2)) hx hb dX9_play_26 (by decide) ?_
    refine lv_goto (tgt := 38) hx hb dX9_play_28 (by decide) ?_
    obtain ⟨y6, gy6, h⟩ := zb_some h
    have hFc := z_free0 hD hS hA
    refine z_callmi (wc := (zw_x9 kx kv kd ke kt kr ++ zw_co tt kv bv ++ zw_co tt kd y2.2.2 ++ zw_hi tt kx bh ++ zw_ex tt ke be ++ zw_tx tt kt y2.2.1 ++ zw_rh tt kr y2.1)) (w1 := (zw_x9 kx kv kd ke kt kr ++ zw_co tt kv y6.2.1 ++ zw_co tt kd y2.2.2 ++ zw_hi tt kx y6.2.2 ++ zw_ex tt ke be ++ zw_tx tt kt y2.2.1 ++ zw_rh tt kr y2.1)) (va_runV (As := [.int (-2)]) (rest := []) ⟨hx, hb, hml, hown, hts⟩ (c_X9_accepted l D tt kx kv kd ke kt kr _ bv y2.2.2 bh be y2.2.1 y2.1 (-2) y6 gy6) (cwV 1 hts gX9_play_X9_accepted rfl rfl rfl (by decide +kernel) ⟨Nat.le_of_ble_eq_true rfl, Nat.le_of_ble_eq_true rfl⟩) (z_preVm hK hP hD (ci := 9) (q0 := 0) rfl rfl) rfl rfl hl.1 rfl (lv_room (Nat.le_of_ble_eq_true rfl)) dX9_play_38 ⟨Nat.zero_le _, Nat.zero_le _⟩) hS hFc (fun H locs ny6 hP1 hD1 hk1 hS => ?_)
    have hP := hP1
    have hD := hD1.weaken (fun _ q _ h => hFc q.1 h)
    exact hfin _ _ _ _ _ _ _ _ _ _ h rfl hP hD hS dX9_play_41
  replace h := z_pos k4 h
  refine lv_aload_n hx hb dX9_play_31 rfl (lv_at hl 0 rfl) ?_
  refine va_get (D := D) (ci := 9) (v := .ref (kr 0)) (C := RX9) (T := TX9) (N := 6) hx hb hts hi9 hown hK.1 hP 0 rfl rfl 5 (by decide) fl43 (fun _ h9 => h9) rfl dX9_play_32 ?_
  refine va_get (D := D) (ci := 6) (v := .int (y2.1 0 0)) (C := RX6) (T := TX6) (N := 4) hx hb hts hi6 hown hK.1 hP 157 rfl rfl 0 (by decide) fl175 (fun _ h9 => h9) rfl dX9_play_35 ?_
  obtain ⟨y5, gy5, h⟩ := zb_some h
  have hFc := z_free0 hD hS hA
  refine z_callmi (wc := (zw_x9 kx kv kd ke kt kr ++ zw_co tt kv bv ++ zw_co tt kd y2.2.2 ++ zw_hi tt kx bh ++ zw_ex tt ke be ++ zw_tx tt kt y2.2.1 ++ zw_rh tt kr y2.1)) (w1 := (zw_x9 kx kv kd ke kt kr ++ zw_co tt kv y5.2.1 ++ zw_co tt kd y2.2.2 ++ zw_hi tt kx y5.2.2 ++ zw_ex tt ke be ++ zw_tx tt kt y2.2.1 ++ zw_rh tt kr y2.1)) (va_runV (As := [.int (y2.1 0 0)]) (rest := []) ⟨hx, hb, hml, hown, hts⟩ (c_X9_accepted l D tt kx kv kd ke kt kr _ bv y2.2.2 bh be y2.2.1 y2.1 (y2.1 0 0) y5 gy5) (cwV 1 hts gX9_play_X9_accepted rfl rfl rfl (by decide +kernel) ⟨Nat.le_of_ble_eq_true rfl, Nat.le_of_ble_eq_true rfl⟩) (z_preVm hK hP hD (ci := 9) (q0 := 0) rfl rfl) rfl rfl hl.1 rfl (lv_room (Nat.le_of_ble_eq_true rfl)) dX9_play_38 ⟨Nat.zero_le _, Nat.zero_le _⟩) hS hFc (fun H locs ny5 hP1 hD1 hk1 hS => ?_)
  have hP := hP1
  have hD := hD1.weaken (fun _ q _ h => hFc q.1 h)
  exact hfin _ _ _ _ _ _ _ _ _ _ h rfl hP hD hS dX9_play_41
