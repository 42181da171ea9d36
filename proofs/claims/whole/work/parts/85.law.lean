/-! ===== the law: the calls, part 4 ===== -/
section ZLC
variable {p : Program} {l : Launch} {e : Env} {s : State} {m : MethodId} {below : List Frame} {meth : Method} {c : Code} {b L : Nat} {xs : Nat → Int32} {D : va_G} {tt : Nat → ClassId} {gs : zGs} {kx kv kd ke kt kr kw : Nat → Nat} {Q : State → Prop} {ls : Array Slot} {x3 : Int32} {bv bd be bt br bw : zV} {bh : zH} {bj : zJ} {H : Heap} {locs : List Loc}
set_option maxHeartbeats 4000000 in
set_option maxRecDepth 100000 in
theorem la_holderOf (hC : zLw p s m c b L xs D tt gs) (hst : zSt bv bh bt bw) (hP : va_P D vwCl ((zWX tt kx kv kd ke kt kr bv bd bh be bt br) ++ (zw_mo tt kw bw bj)) H) (hD : va_D (fun q : Nat => s.heap.size ≤ q) ((zWX tt kx kv kd ke kt kr bv bd bh be bt br) ++ (zw_mo tt kw bw bj))) (hS : va_S (fun q : Nat => s.heap.size ≤ q) s.heap H locs) (hl : lv_has ls 4 [(3, .int x3), (2, .ref (kw 0)), (1, .ref (kx 0)), (0, .ref b)]) (hin : ∀ k, k < 6 → vp_in (x3 + nI k) L) (hgo : zGo p l e s m below meth c b D tt kx kv kd ke kt kr kw ls Q) : W p l e room_1 s m #[Value.ref b] below meth c H locs 168 2957 Q (F0 m 714 ls []) := by
  obtain ⟨hx, hb, hml, hown, hts, hX, hbl, hK, hG⟩ := hC
  have hA : ∀ q : Nat, s.heap.size ≤ q → (fun q : Nat => s.heap.size ≤ q) q := fun _ h => h
  obtain ⟨r, e1, e2⟩ := an_holderOf (bd := bd) (be := be) (br := br) bj hst (xs (x3 + nI 1).toNatClampNeg) (xs (x3 + nI 2).toNatClampNeg)
  refine lv_aload_n hx hb dL_law_714 rfl (lv_at hl 2 rfl) ?_
  refine la_arg (k := 1) hx hb hX hbl hS hl (hin 1 (by decide)) (by decide) dL_law_715 dL_law_716 dL_law_717 dL_law_718 dL_law_719 ?_
  refine la_arg (k := 2) hx hb hX hbl hS hl (hin 2 (by decide)) (by decide) dL_law_720 dL_law_721 dL_law_722 dL_law_723 dL_law_724 ?_
  have hFx := z_free0 (z_takeD (wc := (zWX tt kx kv kd ke kt kr bv bd bh be bt br)) (List.Perm.refl _) hD) hS hA
  refine z_callr (va_runV (As := [.int (xs (x3 + nI 1).toNatClampNeg), .int (xs (x3 + nI 2).toNatClampNeg)]) (rest := []) ⟨hx, hb, hml, hown, hts⟩ (c_X9_holderOf l D tt kx kv kd ke kt kr  bv bd bh be bt br (xs (x3 + nI 1).toNatClampNeg) (xs (x3 + nI 2).toNatClampNeg) r e1) (cwV 2 hts gL_law_X9_holderOf rfl rfl rfl (by decide +kernel) ⟨Nat.le_of_ble_eq_true rfl, Nat.le_of_ble_eq_true rfl⟩) (z_preVr hK (z_takeP (wc := (zWX tt kx kv kd ke kt kr bv bd bh be bt br)) (List.Perm.refl _) hP) (ci := 9) (q0 := 0) rfl rfl) rfl rfl hl.1 rfl (lv_room (Nat.le_of_ble_eq_true rfl)) dL_law_725 ⟨Nat.le_of_ble_eq_true rfl, Nat.le_of_ble_eq_true rfl⟩) (fun _ => ?_)
  refine lv_aload_n hx hb dL_law_728 rfl (lv_at hl 1 rfl) ?_
  refine la_arg (k := 1) hx hb hX hbl hS hl (hin 1 (by decide)) (by decide) dL_law_729 dL_law_730 dL_law_731 dL_law_732 dL_law_733 ?_
  refine la_arg (k := 2) hx hb hX hbl hS hl (hin 2 (by decide)) (by decide) dL_law_734 dL_law_735 dL_law_736 dL_law_737 dL_law_738 ?_
  have hFm := z_free0 (z_takeD (wc := (zw_mo tt kw bw bj)) (wr := (zWX tt kx kv kd ke kt kr bv bd bh be bt br)) List.perm_append_comm hD) hS hA
  refine z_callr (va_runV (As := [.int (xs (x3 + nI 1).toNatClampNeg), .int (xs (x3 + nI 2).toNatClampNeg)]) (rest := [.int r]) ⟨hx, hb, hml, hown, hts⟩ (c_X10_holderOf l D tt kw  bw bj (xs (x3 + nI 1).toNatClampNeg) (xs (x3 + nI 2).toNatClampNeg) r e2) (cwV 2 hts gL_law_X10_holderOf rfl rfl rfl (by decide +kernel) ⟨Nat.le_of_ble_eq_true rfl, Nat.le_of_ble_eq_true rfl⟩) (z_preVr hK (z_takeP (wc := (zw_mo tt kw bw bj)) (wr := (zWX tt kx kv kd ke kt kr bv bd bh be bt br)) List.perm_append_comm hP) (ci := 10) (q0 := 0) rfl rfl) rfl rfl hl.1 rfl (lv_room (Nat.le_of_ble_eq_true rfl)) dL_law_739 ⟨Nat.le_of_ble_eq_true rfl, Nat.le_of_ble_eq_true rfl⟩) (fun _ => ?_)
  refine lv_icmp_eq (tgt := 977) hx hb dL_law_742 (by decide) (fun _ => ?_) (fun h9 => absurd rfl h9)
  exact hgo bv bd bh be bt br bw bj _ _ hst hP hD hS
set_option maxHeartbeats 4000000 in
set_option maxRecDepth 100000 in
theorem la_count (hC : zLw p s m c b L xs D tt gs) (hst : zSt bv bh bt bw) (hP : va_P D vwCl ((zWX tt kx kv kd ke kt kr bv bd bh be bt br) ++ (zw_mo tt kw bw bj)) H) (hD : va_D (fun q : Nat => s.heap.size ≤ q) ((zWX tt kx kv kd ke kt kr bv bd bh be bt br) ++ (zw_mo tt kw bw bj))) (hS : va_S (fun q : Nat => s.heap.size ≤ q) s.heap H locs) (hl : lv_has ls 4 [(3, .int x3), (2, .ref (kw 0)), (1, .ref (kx 0)), (0, .ref b)]) (hin : ∀ k, k < 6 → vp_in (x3 + nI k) L) (hgo : zGo p l e s m below meth c b D tt kx kv kd ke kt kr kw ls Q) : W p l e room_1 s m #[Value.ref b] below meth c H locs 168 2957 Q (F0 m 747 ls []) := by
  obtain ⟨hx, hb, hml, hown, hts, hX, hbl, hK, hG⟩ := hC
  have hA : ∀ q : Nat, s.heap.size ≤ q → (fun q : Nat => s.heap.size ≤ q) q := fun _ h => h
  obtain ⟨r, e1, e2⟩ := an_count (bd := bd) (be := be) (br := br) bj hst (xs (x3 + nI 1).toNatClampNeg)
  refine lv_aload_n hx hb dL_law_747 rfl (lv_at hl 2 rfl) ?_
  refine la_arg (k := 1) hx hb hX hbl hS hl (hin 1 (by decide)) (by decide) dL_law_748 dL_law_749 dL_law_750 dL_law_751 dL_law_752 ?_
  have hFx := z_free0 (z_takeD (wc := (zWX tt kx kv kd ke kt kr bv bd bh be bt br)) (List.Perm.refl _) hD) hS hA
  refine z_callr (va_runV (As := [.int (xs (x3 + nI 1).toNatClampNeg)]) (rest := []) ⟨hx, hb, hml, hown, hts⟩ (c_X9_count l D tt kx kv kd ke kt kr  bv bd bh be bt br (xs (x3 + nI 1).toNatClampNeg) r e1) (cwV 1 hts gL_law_X9_count rfl rfl rfl (by decide +kernel) ⟨Nat.le_of_ble_eq_true rfl, Nat.le_of_ble_eq_true rfl⟩) (z_preVr hK (z_takeP (wc := (zWX tt kx kv kd ke kt kr bv bd bh be bt br)) (List.Perm.refl _) hP) (ci := 9) (q0 := 0) rfl rfl) rfl rfl hl.1 rfl (lv_room (Nat.le_of_ble_eq_true rfl)) dL_law_753 ⟨Nat.le_of_ble_eq_true rfl, Nat.le_of_ble_eq_true rfl⟩) (fun _ => ?_)
  refine lv_aload_n hx hb dL_law_756 rfl (lv_at hl 1 rfl) ?_
  refine la_arg (k := 1) hx hb hX hbl hS hl (hin 1 (by decide)) (by decide) dL_law_757 dL_law_758 dL_law_759 dL_law_760 dL_law_761 ?_
  have hFm := z_free0 (z_takeD (wc := (zw_mo tt kw bw bj)) (wr := (zWX tt kx kv kd ke kt kr bv bd bh be bt br)) List.perm_append_comm hD) hS hA
  refine z_callr (va_runV (As := [.int (xs (x3 + nI 1).toNatClampNeg)]) (rest := [.int r]) ⟨hx, hb, hml, hown, hts⟩ (c_X10_count l D tt kw  bw bj (xs (x3 + nI 1).toNatClampNeg) r e2) (cwV 1 hts gL_law_X10_count rfl rfl rfl (by decide +kernel) ⟨Nat.le_of_ble_eq_true rfl, Nat.le_of_ble_eq_true rfl⟩) (z_preVr hK (z_takeP (wc := (zw_mo tt kw bw bj)) (wr := (zWX tt kx kv kd ke kt kr bv bd bh be bt br)) List.perm_append_comm hP) (ci := 10) (q0 := 0) rfl rfl) rfl rfl hl.1 rfl (lv_room (Nat.le_of_ble_eq_true rfl)) dL_law_762 ⟨Nat.le_of_ble_eq_true rfl, Nat.le_of_ble_eq_true rfl⟩) (fun _ => ?_)
  refine lv_icmp_eq (tgt := 977) hx hb dL_law_765 (by decide) (fun _ => ?_) (fun h9 => absurd rfl h9)
  exact hgo bv bd bh be bt br bw bj _ _ hst hP hD hS
set_option maxHeartbeats 4000000 in
set_option maxRecDepth 100000 in
theorem la_converts (hC : zLw p s m c b L xs D tt gs) (hst : zSt bv bh bt bw) (hP : va_P D vwCl ((zWX tt kx kv kd ke kt kr bv bd bh be bt br) ++ (zw_mo tt kw bw bj)) H) (hD : va_D (fun q : Nat => s.heap.size ≤ q) ((zWX tt kx kv kd ke kt kr bv bd bh be bt br) ++ (zw_mo tt kw bw bj))) (hS : va_S (fun q : Nat => s.heap.size ≤ q) s.heap H locs) (hl : lv_has ls 4 [(3, .int x3), (2, .ref (kw 0)), (1, .ref (kx 0)), (0, .ref b)]) (hin : ∀ k, k < 6 → vp_in (x3 + nI k) L) (hgo : zGo p l e s m below meth c b D tt kx kv kd ke kt kr kw ls Q) : W p l e room_1 s m #[Value.ref b] below meth c H locs 168 2957 Q (F0 m 770 ls []) := by
  obtain ⟨hx, hb, hml, hown, hts, hX, hbl, hK, hG⟩ := hC
  have hA : ∀ q : Nat, s.heap.size ≤ q → (fun q : Nat => s.heap.size ≤ q) q := fun _ h => h
  obtain ⟨r, be2, bj2, e1, e2⟩ := zo_converts (bd := bd) (be := be) (bt := bt) (br := br) (bh := bh) bj hst.1 (xs (x3 + nI 1).toNatClampNeg)
  refine lv_aload_n hx hb dL_law_770 rfl (lv_at hl 2 rfl) ?_
  refine la_arg (k := 1) hx hb hX hbl hS hl (hin 1 (by decide)) (by decide) dL_law_771 dL_law_772 dL_law_773 dL_law_774 dL_law_775 ?_
  have hFx := z_free0 (z_takeD (wc := (zWX tt kx kv kd ke kt kr bv bd bh be bt br)) (List.Perm.refl _) hD) hS hA
  refine z_callmi (wc := (zWX tt kx kv kd ke kt kr bv bd bh be bt br)) (w1 := (zWX tt kx kv kd ke kt kr bv bd bh be2 bt br)) (va_runV (As := [.int (xs (x3 + nI 1).toNatClampNeg)]) (rest := []) ⟨hx, hb, hml, hown, hts⟩ (c_X9_converts l D tt kx kv kd ke kt kr _ bv bd bh be bt br (xs (x3 + nI 1).toNatClampNeg) (r, be2) e1) (cwV 1 hts gL_law_X9_converts rfl rfl rfl (by decide +kernel) ⟨Nat.le_of_ble_eq_true rfl, Nat.le_of_ble_eq_true rfl⟩) (z_preVm hK (z_takeP (wc := (zWX tt kx kv kd ke kt kr bv bd bh be bt br)) (List.Perm.refl _) hP) (z_takeD (wc := (zWX tt kx kv kd ke kt kr bv bd bh be bt br)) (List.Perm.refl _) hD) (ci := 9) (q0 := 0) rfl rfl) rfl rfl hl.1 rfl (lv_room (Nat.le_of_ble_eq_true rfl)) dL_law_776 ⟨Nat.le_of_ble_eq_true rfl, Nat.le_of_ble_eq_true rfl⟩) hS hFx (fun H locs _ hP1 hD1 hk1 hS => ?_)
  obtain ⟨hP, hD⟩ := z_joinB (wc := (zWX tt kx kv kd ke kt kr bv bd bh be bt br)) (wr := (zw_mo tt kw bw bj)) (w1 := (zWX tt kx kv kd ke kt kr bv bd bh be2 bt br)) (List.Perm.refl _) (List.Perm.refl _) hP hD hk1 hFx hP1 hD1
  clear hP1 hD1 hk1 hFx
  refine lv_aload_n hx hb dL_law_779 rfl (lv_at hl 1 rfl) ?_
  refine la_arg (k := 1) hx hb hX hbl hS hl (hin 1 (by decide)) (by decide) dL_law_780 dL_law_781 dL_law_782 dL_law_783 dL_law_784 ?_
  have hFm := z_free0 (z_takeD (wc := (zw_mo tt kw bw bj)) (wr := (zWX tt kx kv kd ke kt kr bv bd bh be2 bt br)) List.perm_append_comm hD) hS hA
  refine z_callmi (wc := (zw_mo tt kw bw bj)) (w1 := (zw_mo tt kw bw bj2)) (va_runV (As := [.int (xs (x3 + nI 1).toNatClampNeg)]) (rest := [.int r]) ⟨hx, hb, hml, hown, hts⟩ (c_X10_converts l D tt kw _ bw bj (xs (x3 + nI 1).toNatClampNeg) (r, bj2) e2) (cwV 1 hts gL_law_X10_converts rfl rfl rfl (by decide +kernel) ⟨Nat.le_of_ble_eq_true rfl, Nat.le_of_ble_eq_true rfl⟩) (z_preVm hK (z_takeP (wc := (zw_mo tt kw bw bj)) (wr := (zWX tt kx kv kd ke kt kr bv bd bh be2 bt br)) List.perm_append_comm hP) (z_takeD (wc := (zw_mo tt kw bw bj)) (wr := (zWX tt kx kv kd ke kt kr bv bd bh be2 bt br)) List.perm_append_comm hD) (ci := 10) (q0 := 0) rfl rfl) rfl rfl hl.1 rfl (lv_room (Nat.le_of_ble_eq_true rfl)) dL_law_785 ⟨Nat.le_of_ble_eq_true rfl, Nat.le_of_ble_eq_true rfl⟩) hS hFm (fun H locs _ hP1 hD1 hk1 hS => ?_)
  obtain ⟨hP, hD⟩ := z_joinB (wc := (zw_mo tt kw bw bj)) (wr := (zWX tt kx kv kd ke kt kr bv bd bh be2 bt br)) (w1 := (zw_mo tt kw bw bj2)) (w2 := (zWX tt kx kv kd ke kt kr bv bd bh be2 bt br) ++ (zw_mo tt kw bw bj2)) List.perm_append_comm List.perm_append_comm hP hD hk1 hFm hP1 hD1
  refine lv_icmp_eq (tgt := 977) hx hb dL_law_788 (by decide) (fun _ => ?_) (fun h9 => absurd rfl h9)
  exact hgo bv bd bh be2 bt br bw bj2 _ _ hst hP hD hS
set_option maxHeartbeats 4000000 in
set_option maxRecDepth 100000 in
theorem la_classGets (hC : zLw p s m c b L xs D tt gs) (hst : zSt bv bh bt bw) (hP : va_P D vwCl ((zWX tt kx kv kd ke kt kr bv bd bh be bt br) ++ (zw_mo tt kw bw bj)) H) (hD : va_D (fun q : Nat => s.heap.size ≤ q) ((zWX tt kx kv kd ke kt kr bv bd bh be bt br) ++ (zw_mo tt kw bw bj))) (hS : va_S (fun q : Nat => s.heap.size ≤ q) s.heap H locs) (hl : lv_has ls 4 [(3, .int x3), (2, .ref (kw 0)), (1, .ref (kx 0)), (0, .ref b)]) (hin : ∀ k, k < 6 → vp_in (x3 + nI k) L) (hgo : zGo p l e s m below meth c b D tt kx kv kd ke kt kr kw ls Q) : W p l e room_1 s m #[Value.ref b] below meth c H locs 168 2957 Q (F0 m 793 ls []) := by
  obtain ⟨hx, hb, hml, hown, hts, hX, hbl, hK, hG⟩ := hC
  have hA : ∀ q : Nat, s.heap.size ≤ q → (fun q : Nat => s.heap.size ≤ q) q := fun _ h => h
  obtain ⟨r, be2, bj2, e1, e2⟩ := zo_classGets (bd := bd) (be := be) (bt := bt) (br := br) (bh := bh) bj hst.1 (xs (x3 + nI 1).toNatClampNeg) (xs (x3 + nI 2).toNatClampNeg)
  refine lv_aload_n hx hb dL_law_793 rfl (lv_at hl 2 rfl) ?_
  refine la_arg (k := 1) hx hb hX hbl hS hl (hin 1 (by decide)) (by decide) dL_law_794 dL_law_795 dL_law_796 dL_law_797 dL_law_798 ?_
  refine la_arg (k := 2) hx hb hX hbl hS hl (hin 2 (by decide)) (by decide) dL_law_799 dL_law_800 dL_law_801 dL_law_802 dL_law_803 ?_
  have hFx := z_free0 (z_takeD (wc := (zWX tt kx kv kd ke kt kr bv bd bh be bt br)) (List.Perm.refl _) hD) hS hA
  refine z_callmi (wc := (zWX tt kx kv kd ke kt kr bv bd bh be bt br)) (w1 := (zWX tt kx kv kd ke kt kr bv bd bh be2 bt br)) (va_runV (As := [.int (xs (x3 + nI 1).toNatClampNeg), .int (xs (x3 + nI 2).toNatClampNeg)]) (rest := []) ⟨hx, hb, hml, hown, hts⟩ (c_X9_classGets l D tt kx kv kd ke kt kr _ bv bd bh be bt br (xs (x3 + nI 1).toNatClampNeg) (xs (x3 + nI 2).toNatClampNeg) (r, be2) e1) (cwV 2 hts gL_law_X9_classGets rfl rfl rfl (by decide +kernel) ⟨Nat.le_of_ble_eq_true rfl, Nat.le_of_ble_eq_true rfl⟩) (z_preVm hK (z_takeP (wc := (zWX tt kx kv kd ke kt kr bv bd bh be bt br)) (List.Perm.refl _) hP) (z_takeD (wc := (zWX tt kx kv kd ke kt kr bv bd bh be bt br)) (List.Perm.refl _) hD) (ci := 9) (q0 := 0) rfl rfl) rfl rfl hl.1 rfl (lv_room (Nat.le_of_ble_eq_true rfl)) dL_law_804 ⟨Nat.le_of_ble_eq_true rfl, Nat.le_of_ble_eq_true rfl⟩) hS hFx (fun H locs _ hP1 hD1 hk1 hS => ?_)
  obtain ⟨hP, hD⟩ := z_joinB (wc := (zWX tt kx kv kd ke kt kr bv bd bh be bt br)) (wr := (zw_mo tt kw bw bj)) (w1 := (zWX tt kx kv kd ke kt kr bv bd bh be2 bt br)) (List.Perm.refl _) (List.Perm.refl _) hP hD hk1 hFx hP1 hD1
  clear hP1 hD1 hk1 hFx
  refine lv_aload_n hx hb dL_law_807 rfl (lv_at hl 1 rfl) ?_
  refine la_arg (k := 1) hx hb hX hbl hS hl (hin 1 (by decide)) (by decide) dL_law_808 dL_law_809 dL_law_810 dL_law_811 dL_law_812 ?_
  refine la_arg (k := 2) hx hb hX hbl hS hl (hin 2 (by decide)) (by decide) dL_law_813 dL_law_814 dL_law_815 dL_law_816 dL_law_817 ?_
  have hFm := z_free0 (z_takeD (wc := (zw_mo tt kw bw bj)) (wr := (zWX tt kx kv kd ke kt kr bv bd bh be2 bt br)) List.perm_append_comm hD) hS hA
  refine z_callmi (wc := (zw_mo tt kw bw bj)) (w1 := (zw_mo tt kw bw bj2)) (va_runV (As := [.int (xs (x3 + nI 1).toNatClampNeg), .int (xs (x3 + nI 2).toNatClampNeg)]) (rest := [.int r]) ⟨hx, hb, hml, hown, hts⟩ (c_X10_classGets l D tt kw _ bw bj (xs (x3 + nI 1).toNatClampNeg) (xs (x3 + nI 2).toNatClampNeg) (r, bj2) e2) (cwV 2 hts gL_law_X10_classGets rfl rfl rfl (by decide +kernel) ⟨Nat.le_of_ble_eq_true rfl, Nat.le_of_ble_eq_true rfl⟩) (z_preVm hK (z_takeP (wc := (zw_mo tt kw bw bj)) (wr := (zWX tt kx kv kd ke kt kr bv bd bh be2 bt br)) List.perm_append_comm hP) (z_takeD (wc := (zw_mo tt kw bw bj)) (wr := (zWX tt kx kv kd ke kt kr bv bd bh be2 bt br)) List.perm_append_comm hD) (ci := 10) (q0 := 0) rfl rfl) rfl rfl hl.1 rfl (lv_room (Nat.le_of_ble_eq_true rfl)) dL_law_818 ⟨Nat.le_of_ble_eq_true rfl, Nat.le_of_ble_eq_true rfl⟩) hS hFm (fun H locs _ hP1 hD1 hk1 hS => ?_)
  obtain ⟨hP, hD⟩ := z_joinB (wc := (zw_mo tt kw bw bj)) (wr := (zWX tt kx kv kd ke kt kr bv bd bh be2 bt br)) (w1 := (zw_mo tt kw bw bj2)) (w2 := (zWX tt kx kv kd ke kt kr bv bd bh be2 bt br) ++ (zw_mo tt kw bw bj2)) List.perm_append_comm List.perm_append_comm hP hD hk1 hFm hP1 hD1
  refine lv_icmp_eq (tgt := 977) hx hb dL_law_821 (by decide) (fun _ => ?_) (fun h9 => absurd rfl h9)
  exact hgo bv bd bh be2 bt br bw bj2 _ _ hst hP hD hS
set_option maxHeartbeats 4000000 in
set_option maxRecDepth 100000 in
theorem la_holderGets (hC : zLw p s m c b L xs D tt gs) (hst : zSt bv bh bt bw) (hP : va_P D vwCl ((zWX tt kx kv kd ke kt kr bv bd bh be bt br) ++ (zw_mo tt kw bw bj)) H) (hD : va_D (fun q : Nat => s.heap.size ≤ q) ((zWX tt kx kv kd ke kt kr bv bd bh be bt br) ++ (zw_mo tt kw bw bj))) (hS : va_S (fun q : Nat => s.heap.size ≤ q) s.heap H locs) (hl : lv_has ls 4 [(3, .int x3), (2, .ref (kw 0)), (1, .ref (kx 0)), (0, .ref b)]) (hin : ∀ k, k < 6 → vp_in (x3 + nI k) L) (hgo : zGo p l e s m below meth c b D tt kx kv kd ke kt kr kw ls Q) : W p l e room_1 s m #[Value.ref b] below meth c H locs 168 2957 Q (F0 m 826 ls []) := by
  obtain ⟨hx, hb, hml, hown, hts, hX, hbl, hK, hG⟩ := hC
  have hA : ∀ q : Nat, s.heap.size ≤ q → (fun q : Nat => s.heap.size ≤ q) q := fun _ h => h
  obtain ⟨r, be2, bj2, e1, e2⟩ := zo_holderGets (bd := bd) (be := be) (bt := bt) (br := br) (bh := bh) bj hst.1 (xs (x3 + nI 1).toNatClampNeg) (xs (x3 + nI 2).toNatClampNeg)
  refine lv_aload_n hx hb dL_law_826 rfl (lv_at hl 2 rfl) ?_
  refine la_arg (k := 1) hx hb hX hbl hS hl (hin 1 (by decide)) (by decide) dL_law_827 dL_law_828 dL_law_829 dL_law_830 dL_law_831 ?_
  refine la_arg (k := 2) hx hb hX hbl hS hl (hin 2 (by decide)) (by decide) dL_law_832 dL_law_833 dL_law_834 dL_law_835 dL_law_836 ?_
  have hFx := z_free0 (z_takeD (wc := (zWX tt kx kv kd ke kt kr bv bd bh be bt br)) (List.Perm.refl _) hD) hS hA
  refine z_callmi (wc := (zWX tt kx kv kd ke kt kr bv bd bh be bt br)) (w1 := (zWX tt kx kv kd ke kt kr bv bd bh be2 bt br)) (va_runV (As := [.int (xs (x3 + nI 1).toNatClampNeg), .int (xs (x3 + nI 2).toNatClampNeg)]) (rest := []) ⟨hx, hb, hml, hown, hts⟩ (c_X9_holderGets l D tt kx kv kd ke kt kr _ bv bd bh be bt br (xs (x3 + nI 1).toNatClampNeg) (xs (x3 + nI 2).toNatClampNeg) (r, be2) e1) (cwV 2 hts gL_law_X9_holderGets rfl rfl rfl (by decide +kernel) ⟨Nat.le_of_ble_eq_true rfl, Nat.le_of_ble_eq_true rfl⟩) (z_preVm hK (z_takeP (wc := (zWX tt kx kv kd ke kt kr bv bd bh be bt br)) (List.Perm.refl _) hP) (z_takeD (wc := (zWX tt kx kv kd ke kt kr bv bd bh be bt br)) (List.Perm.refl _) hD) (ci := 9) (q0 := 0) rfl rfl) rfl rfl hl.1 rfl (lv_room (Nat.le_of_ble_eq_true rfl)) dL_law_837 ⟨Nat.le_of_ble_eq_true rfl, Nat.le_of_ble_eq_true rfl⟩) hS hFx (fun H locs _ hP1 hD1 hk1 hS => ?_)
  obtain ⟨hP, hD⟩ := z_joinB (wc := (zWX tt kx kv kd ke kt kr bv bd bh be bt br)) (wr := (zw_mo tt kw bw bj)) (w1 := (zWX tt kx kv kd ke kt kr bv bd bh be2 bt br)) (List.Perm.refl _) (List.Perm.refl _) hP hD hk1 hFx hP1 hD1
  clear hP1 hD1 hk1 hFx
  refine lv_aload_n hx hb dL_law_840 rfl (lv_at hl 1 rfl) ?_
  refine la_arg (k := 1) hx hb hX hbl hS hl (hin 1 (by decide)) (by decide) dL_law_841 dL_law_842 dL_law_843 dL_law_844 dL_law_845 ?_
  refine la_arg (k := 2) hx hb hX hbl hS hl (hin 2 (by decide)) (by decide) dL_law_846 dL_law_847 dL_law_848 dL_law_849 dL_law_850 ?_
  have hFm := z_free0 (z_takeD (wc := (zw_mo tt kw bw bj)) (wr := (zWX tt kx kv kd ke kt kr bv bd bh be2 bt br)) List.perm_append_comm hD) hS hA
  refine z_callmi (wc := (zw_mo tt kw bw bj)) (w1 := (zw_mo tt kw bw bj2)) (va_runV (As := [.int (xs (x3 + nI 1).toNatClampNeg), .int (xs (x3 + nI 2).toNatClampNeg)]) (rest := [.int r]) ⟨hx, hb, hml, hown, hts⟩ (c_X10_holderGets l D tt kw _ bw bj (xs (x3 + nI 1).toNatClampNeg) (xs (x3 + nI 2).toNatClampNeg) (r, bj2) e2) (cwV 2 hts gL_law_X10_holderGets rfl rfl rfl (by decide +kernel) ⟨Nat.le_of_ble_eq_true rfl, Nat.le_of_ble_eq_true rfl⟩) (z_preVm hK (z_takeP (wc := (zw_mo tt kw bw bj)) (wr := (zWX tt kx kv kd ke kt kr bv bd bh be2 bt br)) List.perm_append_comm hP) (z_takeD (wc := (zw_mo tt kw bw bj)) (wr := (zWX tt kx kv kd ke kt kr bv bd bh be2 bt br)) List.perm_append_comm hD) (ci := 10) (q0 := 0) rfl rfl) rfl rfl hl.1 rfl (lv_room (Nat.le_of_ble_eq_true rfl)) dL_law_851 ⟨Nat.le_of_ble_eq_true rfl, Nat.le_of_ble_eq_true rfl⟩) hS hFm (fun H locs _ hP1 hD1 hk1 hS => ?_)
  obtain ⟨hP, hD⟩ := z_joinB (wc := (zw_mo tt kw bw bj)) (wr := (zWX tt kx kv kd ke kt kr bv bd bh be2 bt br)) (w1 := (zw_mo tt kw bw bj2)) (w2 := (zWX tt kx kv kd ke kt kr bv bd bh be2 bt br) ++ (zw_mo tt kw bw bj2)) List.perm_append_comm List.perm_append_comm hP hD hk1 hFm hP1 hD1
  refine lv_icmp_eq (tgt := 977) hx hb dL_law_854 (by decide) (fun _ => ?_) (fun h9 => absurd rfl h9)
  exact hgo bv bd bh be2 bt br bw bj2 _ _ hst hP hD hS
set_option maxHeartbeats 4000000 in
set_option maxRecDepth 100000 in
theorem la_byGain (hC : zLw p s m c b L xs D tt gs) (hst : zSt bv bh bt bw) (hP : va_P D vwCl ((zWX tt kx kv kd ke kt kr bv bd bh be bt br) ++ (zw_mo tt kw bw bj)) H) (hD : va_D (fun q : Nat => s.heap.size ≤ q) ((zWX tt kx kv kd ke kt kr bv bd bh be bt br) ++ (zw_mo tt kw bw bj))) (hS : va_S (fun q : Nat => s.heap.size ≤ q) s.heap H locs) (hl : lv_has ls 4 [(3, .int x3), (2, .ref (kw 0)), (1, .ref (kx 0)), (0, .ref b)]) (hin : ∀ k, k < 6 → vp_in (x3 + nI k) L) (hgo : zGo p l e s m below meth c b D tt kx kv kd ke kt kr kw ls Q) : W p l e room_1 s m #[Value.ref b] below meth c H locs 168 2957 Q (F0 m 859 ls []) := by
  obtain ⟨hx, hb, hml, hown, hts, hX, hbl, hK, hG⟩ := hC
  have hA : ∀ q : Nat, s.heap.size ≤ q → (fun q : Nat => s.heap.size ≤ q) q := fun _ h => h
  obtain ⟨r, be2, bj2, e1, e2⟩ := zo_byGain (bd := bd) (be := be) (bt := bt) (br := br) (bh := bh) bj hst.1 (xs (x3 + nI 1).toNatClampNeg) (xs (x3 + nI 2).toNatClampNeg)
  refine lv_aload_n hx hb dL_law_859 rfl (lv_at hl 2 rfl) ?_
  refine la_arg (k := 1) hx hb hX hbl hS hl (hin 1 (by decide)) (by decide) dL_law_860 dL_law_861 dL_law_862 dL_law_863 dL_law_864 ?_
  refine la_arg (k := 2) hx hb hX hbl hS hl (hin 2 (by decide)) (by decide) dL_law_865 dL_law_866 dL_law_867 dL_law_868 dL_law_869 ?_
  have hFx := z_free0 (z_takeD (wc := (zWX tt kx kv kd ke kt kr bv bd bh be bt br)) (List.Perm.refl _) hD) hS hA
  refine z_callmi (wc := (zWX tt kx kv kd ke kt kr bv bd bh be bt br)) (w1 := (zWX tt kx kv kd ke kt kr bv bd bh be2 bt br)) (va_runV (As := [.int (xs (x3 + nI 1).toNatClampNeg), .int (xs (x3 + nI 2).toNatClampNeg)]) (rest := []) ⟨hx, hb, hml, hown, hts⟩ (c_X9_byGain l D tt kx kv kd ke kt kr _ bv bd bh be bt br (xs (x3 + nI 1).toNatClampNeg) (xs (x3 + nI 2).toNatClampNeg) (r, be2) e1) (cwV 2 hts gL_law_X9_byGain rfl rfl rfl (by decide +kernel) ⟨Nat.le_of_ble_eq_true rfl, Nat.le_of_ble_eq_true rfl⟩) (z_preVm hK (z_takeP (wc := (zWX tt kx kv kd ke kt kr bv bd bh be bt br)) (List.Perm.refl _) hP) (z_takeD (wc := (zWX tt kx kv kd ke kt kr bv bd bh be bt br)) (List.Perm.refl _) hD) (ci := 9) (q0 := 0) rfl rfl) rfl rfl hl.1 rfl (lv_room (Nat.le_of_ble_eq_true rfl)) dL_law_870 ⟨Nat.le_of_ble_eq_true rfl, Nat.le_of_ble_eq_true rfl⟩) hS hFx (fun H locs _ hP1 hD1 hk1 hS => ?_)
  obtain ⟨hP, hD⟩ := z_joinB (wc := (zWX tt kx kv kd ke kt kr bv bd bh be bt br)) (wr := (zw_mo tt kw bw bj)) (w1 := (zWX tt kx kv kd ke kt kr bv bd bh be2 bt br)) (List.Perm.refl _) (List.Perm.refl _) hP hD hk1 hFx hP1 hD1
  clear hP1 hD1 hk1 hFx
  refine lv_aload_n hx hb dL_law_873 rfl (lv_at hl 1 rfl) ?_
  refine la_arg (k := 1) hx hb hX hbl hS hl (hin 1 (by decide)) (by decide) dL_law_874 dL_law_875 dL_law_876 dL_law_877 dL_law_878 ?_
  refine la_arg (k := 2) hx hb hX hbl hS hl (hin 2 (by decide)) (by decide) dL_law_879 dL_law_880 dL_law_881 dL_law_882 dL_law_883 ?_
  have hFm := z_free0 (z_takeD (wc := (zw_mo tt kw bw bj)) (wr := (zWX tt kx kv kd ke kt kr bv bd bh be2 bt br)) List.perm_append_comm hD) hS hA
  refine z_callmi (wc := (zw_mo tt kw bw bj)) (w1 := (zw_mo tt kw bw bj2)) (va_runV (As := [.int (xs (x3 + nI 1).toNatClampNeg), .int (xs (x3 + nI 2).toNatClampNeg)]) (rest := [.int r]) ⟨hx, hb, hml, hown, hts⟩ (c_X10_byGain l D tt kw _ bw bj (xs (x3 + nI 1).toNatClampNeg) (xs (x3 + nI 2).toNatClampNeg) (r, bj2) e2) (cwV 2 hts gL_law_X10_byGain rfl rfl rfl (by decide +kernel) ⟨Nat.le_of_ble_eq_true rfl, Nat.le_of_ble_eq_true rfl⟩) (z_preVm hK (z_takeP (wc := (zw_mo tt kw bw bj)) (wr := (zWX tt kx kv kd ke kt kr bv bd bh be2 bt br)) List.perm_append_comm hP) (z_takeD (wc := (zw_mo tt kw bw bj)) (wr := (zWX tt kx kv kd ke kt kr bv bd bh be2 bt br)) List.perm_append_comm hD) (ci := 10) (q0 := 0) rfl rfl) rfl rfl hl.1 rfl (lv_room (Nat.le_of_ble_eq_true rfl)) dL_law_884 ⟨Nat.le_of_ble_eq_true rfl, Nat.le_of_ble_eq_true rfl⟩) hS hFm (fun H locs _ hP1 hD1 hk1 hS => ?_)
  obtain ⟨hP, hD⟩ := z_joinB (wc := (zw_mo tt kw bw bj)) (wr := (zWX tt kx kv kd ke kt kr bv bd bh be2 bt br)) (w1 := (zw_mo tt kw bw bj2)) (w2 := (zWX tt kx kv kd ke kt kr bv bd bh be2 bt br) ++ (zw_mo tt kw bw bj2)) List.perm_append_comm List.perm_append_comm hP hD hk1 hFm hP1 hD1
  refine lv_icmp_eq (tgt := 977) hx hb dL_law_887 (by decide) (fun _ => ?_) (fun h9 => absurd rfl h9)
  exact hgo bv bd bh be2 bt br bw bj2 _ _ hst hP hD hS
end ZLC
