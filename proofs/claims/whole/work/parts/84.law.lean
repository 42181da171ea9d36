/-! ===== the law: the calls, part 3 ===== -/
section ZLC
variable {p : Program} {l : Launch} {e : Env} {s : State} {m : MethodId} {below : List Frame} {meth : Method} {c : Code} {b L : Nat} {xs : Nat → Int32} {D : va_G} {tt : Nat → ClassId} {gs : zGs} {kx kv kd ke kt kr kw : Nat → Nat} {Q : State → Prop} {ls : Array Slot} {x3 : Int32} {bv bd be bt br bw : zV} {bh : zH} {bj : zJ} {H : Heap} {locs : List Loc}
set_option maxHeartbeats 4000000 in
set_option maxRecDepth 100000 in
theorem la_takeUp (hC : zLw p s m c b L xs D tt gs) (hst : zSt bv bh bt bw) (hP : va_P D vwCl ((zWX tt kx kv kd ke kt kr bv bd bh be bt br) ++ (zw_mo tt kw bw bj)) H) (hD : va_D (fun q : Nat => s.heap.size ≤ q) ((zWX tt kx kv kd ke kt kr bv bd bh be bt br) ++ (zw_mo tt kw bw bj))) (hS : va_S (fun q : Nat => s.heap.size ≤ q) s.heap H locs) (hl : lv_has ls 4 [(3, .int x3), (2, .ref (kw 0)), (1, .ref (kx 0)), (0, .ref b)]) (hin : ∀ k, k < 6 → vp_in (x3 + nI k) L) (hgo : zGo p l e s m below meth c b D tt kx kv kd ke kt kr kw ls Q) : W p l e room_1 s m #[Value.ref b] below meth c H locs 168 2957 Q (F0 m 536 ls []) := by
  obtain ⟨hx, hb, hml, hown, hts, hX, hbl, hK, hG⟩ := hC
  have hA : ∀ q : Nat, s.heap.size ≤ q → (fun q : Nat => s.heap.size ≤ q) q := fun _ h => h
  obtain ⟨r, bv2, bd2, bh2, bw2, e1, e2, hst2⟩ := an_takeUp (bd := bd) (be := be) (br := br) bj hst (xs (x3 + nI 1).toNatClampNeg) (xs (x3 + nI 2).toNatClampNeg)
  refine lv_aload_n hx hb dL_law_536 rfl (lv_at hl 2 rfl) ?_
  refine la_arg (k := 1) hx hb hX hbl hS hl (hin 1 (by decide)) (by decide) dL_law_537 dL_law_538 dL_law_539 dL_law_540 dL_law_541 ?_
  refine la_arg (k := 2) hx hb hX hbl hS hl (hin 2 (by decide)) (by decide) dL_law_542 dL_law_543 dL_law_544 dL_law_545 dL_law_546 ?_
  have hFx := z_free0 (z_takeD (wc := (zWX tt kx kv kd ke kt kr bv bd bh be bt br)) (List.Perm.refl _) hD) hS hA
  refine z_callmi (wc := (zWX tt kx kv kd ke kt kr bv bd bh be bt br)) (w1 := (zWX tt kx kv kd ke kt kr bv2 bd2 bh2 be bt br)) (va_runV (As := [.int (xs (x3 + nI 1).toNatClampNeg), .int (xs (x3 + nI 2).toNatClampNeg)]) (rest := []) ⟨hx, hb, hml, hown, hts⟩ (c_X9_takeUp l D tt kx kv kd ke kt kr _ bv bd bh be bt br (xs (x3 + nI 1).toNatClampNeg) (xs (x3 + nI 2).toNatClampNeg) (r, bv2, bd2, bh2) e1) (cwV 2 hts gL_law_X9_takeUp rfl rfl rfl (by decide +kernel) ⟨Nat.le_of_ble_eq_true rfl, Nat.le_of_ble_eq_true rfl⟩) (z_preVm hK (z_takeP (wc := (zWX tt kx kv kd ke kt kr bv bd bh be bt br)) (List.Perm.refl _) hP) (z_takeD (wc := (zWX tt kx kv kd ke kt kr bv bd bh be bt br)) (List.Perm.refl _) hD) (ci := 9) (q0 := 0) rfl rfl) rfl rfl hl.1 rfl (lv_room (Nat.le_of_ble_eq_true rfl)) dL_law_547 ⟨Nat.le_of_ble_eq_true rfl, Nat.le_of_ble_eq_true rfl⟩) hS hFx (fun H locs _ hP1 hD1 hk1 hS => ?_)
  obtain ⟨hP, hD⟩ := z_joinB (wc := (zWX tt kx kv kd ke kt kr bv bd bh be bt br)) (wr := (zw_mo tt kw bw bj)) (w1 := (zWX tt kx kv kd ke kt kr bv2 bd2 bh2 be bt br)) (List.Perm.refl _) (List.Perm.refl _) hP hD hk1 hFx hP1 hD1
  clear hP1 hD1 hk1 hFx
  refine lv_aload_n hx hb dL_law_550 rfl (lv_at hl 1 rfl) ?_
  refine la_arg (k := 1) hx hb hX hbl hS hl (hin 1 (by decide)) (by decide) dL_law_551 dL_law_552 dL_law_553 dL_law_554 dL_law_555 ?_
  refine la_arg (k := 2) hx hb hX hbl hS hl (hin 2 (by decide)) (by decide) dL_law_556 dL_law_557 dL_law_558 dL_law_559 dL_law_560 ?_
  have hFm := z_free0 (z_takeD (wc := (zw_mo tt kw bw bj)) (wr := (zWX tt kx kv kd ke kt kr bv2 bd2 bh2 be bt br)) List.perm_append_comm hD) hS hA
  refine z_callmi (wc := (zw_mo tt kw bw bj)) (w1 := (zw_mo tt kw bw2 bj)) (va_runV (As := [.int (xs (x3 + nI 1).toNatClampNeg), .int (xs (x3 + nI 2).toNatClampNeg)]) (rest := [.int r]) ⟨hx, hb, hml, hown, hts⟩ (c_X10_takeUp l D tt kw _ bw bj (xs (x3 + nI 1).toNatClampNeg) (xs (x3 + nI 2).toNatClampNeg) (r, bw2) e2) (cwV 2 hts gL_law_X10_takeUp rfl rfl rfl (by decide +kernel) ⟨Nat.le_of_ble_eq_true rfl, Nat.le_of_ble_eq_true rfl⟩) (z_preVm hK (z_takeP (wc := (zw_mo tt kw bw bj)) (wr := (zWX tt kx kv kd ke kt kr bv2 bd2 bh2 be bt br)) List.perm_append_comm hP) (z_takeD (wc := (zw_mo tt kw bw bj)) (wr := (zWX tt kx kv kd ke kt kr bv2 bd2 bh2 be bt br)) List.perm_append_comm hD) (ci := 10) (q0 := 0) rfl rfl) rfl rfl hl.1 rfl (lv_room (Nat.le_of_ble_eq_true rfl)) dL_law_561 ⟨Nat.le_of_ble_eq_true rfl, Nat.le_of_ble_eq_true rfl⟩) hS hFm (fun H locs _ hP1 hD1 hk1 hS => ?_)
  obtain ⟨hP, hD⟩ := z_joinB (wc := (zw_mo tt kw bw bj)) (wr := (zWX tt kx kv kd ke kt kr bv2 bd2 bh2 be bt br)) (w1 := (zw_mo tt kw bw2 bj)) (w2 := (zWX tt kx kv kd ke kt kr bv2 bd2 bh2 be bt br) ++ (zw_mo tt kw bw2 bj)) List.perm_append_comm List.perm_append_comm hP hD hk1 hFm hP1 hD1
  refine lv_icmp_eq (tgt := 977) hx hb dL_law_564 (by decide) (fun _ => ?_) (fun h9 => absurd rfl h9)
  exact hgo bv2 bd2 bh2 be bt br bw2 bj _ _ hst2 hP hD hS
set_option maxHeartbeats 4000000 in
set_option maxRecDepth 100000 in
theorem la_close (hC : zLw p s m c b L xs D tt gs) (hst : zSt bv bh bt bw) (hP : va_P D vwCl ((zWX tt kx kv kd ke kt kr bv bd bh be bt br) ++ (zw_mo tt kw bw bj)) H) (hD : va_D (fun q : Nat => s.heap.size ≤ q) ((zWX tt kx kv kd ke kt kr bv bd bh be bt br) ++ (zw_mo tt kw bw bj))) (hS : va_S (fun q : Nat => s.heap.size ≤ q) s.heap H locs) (hl : lv_has ls 4 [(3, .int x3), (2, .ref (kw 0)), (1, .ref (kx 0)), (0, .ref b)]) (hin : ∀ k, k < 6 → vp_in (x3 + nI k) L) (hgo : zGo p l e s m below meth c b D tt kx kv kd ke kt kr kw ls Q) : W p l e room_1 s m #[Value.ref b] below meth c H locs 168 2957 Q (F0 m 569 ls []) := by
  obtain ⟨hx, hb, hml, hown, hts, hX, hbl, hK, hG⟩ := hC
  have hA : ∀ q : Nat, s.heap.size ≤ q → (fun q : Nat => s.heap.size ≤ q) q := fun _ h => h
  obtain ⟨r, bv2, bd2, bh2, bw2, e1, e2, hst2⟩ := an_close (bd := bd) (be := be) (br := br) bj hst 
  refine lv_aload_n hx hb dL_law_569 rfl (lv_at hl 2 rfl) ?_
  have hFx := z_free0 (z_takeD (wc := (zWX tt kx kv kd ke kt kr bv bd bh be bt br)) (List.Perm.refl _) hD) hS hA
  refine z_callmi (wc := (zWX tt kx kv kd ke kt kr bv bd bh be bt br)) (w1 := (zWX tt kx kv kd ke kt kr bv2 bd2 bh2 be bt br)) (va_runV (As := []) (rest := []) ⟨hx, hb, hml, hown, hts⟩ (c_X9_close l D tt kx kv kd ke kt kr _ bv bd bh be bt br  (r, bv2, bd2, bh2) e1) (cwV 0 hts gL_law_X9_close rfl rfl rfl (by decide +kernel) ⟨Nat.le_of_ble_eq_true rfl, Nat.le_of_ble_eq_true rfl⟩) (z_preVm hK (z_takeP (wc := (zWX tt kx kv kd ke kt kr bv bd bh be bt br)) (List.Perm.refl _) hP) (z_takeD (wc := (zWX tt kx kv kd ke kt kr bv bd bh be bt br)) (List.Perm.refl _) hD) (ci := 9) (q0 := 0) rfl rfl) rfl rfl hl.1 rfl (lv_room (Nat.le_of_ble_eq_true rfl)) dL_law_570 ⟨Nat.le_of_ble_eq_true rfl, Nat.le_of_ble_eq_true rfl⟩) hS hFx (fun H locs _ hP1 hD1 hk1 hS => ?_)
  obtain ⟨hP, hD⟩ := z_joinB (wc := (zWX tt kx kv kd ke kt kr bv bd bh be bt br)) (wr := (zw_mo tt kw bw bj)) (w1 := (zWX tt kx kv kd ke kt kr bv2 bd2 bh2 be bt br)) (List.Perm.refl _) (List.Perm.refl _) hP hD hk1 hFx hP1 hD1
  clear hP1 hD1 hk1 hFx
  refine lv_aload_n hx hb dL_law_573 rfl (lv_at hl 1 rfl) ?_
  have hFm := z_free0 (z_takeD (wc := (zw_mo tt kw bw bj)) (wr := (zWX tt kx kv kd ke kt kr bv2 bd2 bh2 be bt br)) List.perm_append_comm hD) hS hA
  refine z_callmi (wc := (zw_mo tt kw bw bj)) (w1 := (zw_mo tt kw bw2 bj)) (va_runV (As := []) (rest := [.int r]) ⟨hx, hb, hml, hown, hts⟩ (c_X10_close l D tt kw _ bw bj  (r, bw2) e2) (cwV 0 hts gL_law_X10_close rfl rfl rfl (by decide +kernel) ⟨Nat.le_of_ble_eq_true rfl, Nat.le_of_ble_eq_true rfl⟩) (z_preVm hK (z_takeP (wc := (zw_mo tt kw bw bj)) (wr := (zWX tt kx kv kd ke kt kr bv2 bd2 bh2 be bt br)) List.perm_append_comm hP) (z_takeD (wc := (zw_mo tt kw bw bj)) (wr := (zWX tt kx kv kd ke kt kr bv2 bd2 bh2 be bt br)) List.perm_append_comm hD) (ci := 10) (q0 := 0) rfl rfl) rfl rfl hl.1 rfl (lv_room (Nat.le_of_ble_eq_true rfl)) dL_law_574 ⟨Nat.le_of_ble_eq_true rfl, Nat.le_of_ble_eq_true rfl⟩) hS hFm (fun H locs _ hP1 hD1 hk1 hS => ?_)
  obtain ⟨hP, hD⟩ := z_joinB (wc := (zw_mo tt kw bw bj)) (wr := (zWX tt kx kv kd ke kt kr bv2 bd2 bh2 be bt br)) (w1 := (zw_mo tt kw bw2 bj)) (w2 := (zWX tt kx kv kd ke kt kr bv2 bd2 bh2 be bt br) ++ (zw_mo tt kw bw2 bj)) List.perm_append_comm List.perm_append_comm hP hD hk1 hFm hP1 hD1
  refine lv_icmp_eq (tgt := 977) hx hb dL_law_577 (by decide) (fun _ => ?_) (fun h9 => absurd rfl h9)
  exact hgo bv2 bd2 bh2 be bt br bw2 bj _ _ hst2 hP hD hS
set_option maxHeartbeats 4000000 in
set_option maxRecDepth 100000 in
theorem la_roundOf (hC : zLw p s m c b L xs D tt gs) (hst : zSt bv bh bt bw) (hP : va_P D vwCl ((zWX tt kx kv kd ke kt kr bv bd bh be bt br) ++ (zw_mo tt kw bw bj)) H) (hD : va_D (fun q : Nat => s.heap.size ≤ q) ((zWX tt kx kv kd ke kt kr bv bd bh be bt br) ++ (zw_mo tt kw bw bj))) (hS : va_S (fun q : Nat => s.heap.size ≤ q) s.heap H locs) (hl : lv_has ls 4 [(3, .int x3), (2, .ref (kw 0)), (1, .ref (kx 0)), (0, .ref b)]) (hin : ∀ k, k < 6 → vp_in (x3 + nI k) L) (hgo : zGo p l e s m below meth c b D tt kx kv kd ke kt kr kw ls Q) : W p l e room_1 s m #[Value.ref b] below meth c H locs 168 2957 Q (F0 m 582 ls []) := by
  obtain ⟨hx, hb, hml, hown, hts, hX, hbl, hK, hG⟩ := hC
  have hA : ∀ q : Nat, s.heap.size ≤ q → (fun q : Nat => s.heap.size ≤ q) q := fun _ h => h
  obtain ⟨r, e1, e2⟩ := an_roundOf (bd := bd) (be := be) (br := br) bj hst (xs (x3 + nI 1).toNatClampNeg) (xs (x3 + nI 2).toNatClampNeg)
  refine lv_aload_n hx hb dL_law_582 rfl (lv_at hl 2 rfl) ?_
  refine la_arg (k := 1) hx hb hX hbl hS hl (hin 1 (by decide)) (by decide) dL_law_583 dL_law_584 dL_law_585 dL_law_586 dL_law_587 ?_
  refine la_arg (k := 2) hx hb hX hbl hS hl (hin 2 (by decide)) (by decide) dL_law_588 dL_law_589 dL_law_590 dL_law_591 dL_law_592 ?_
  have hFx := z_free0 (z_takeD (wc := (zWX tt kx kv kd ke kt kr bv bd bh be bt br)) (List.Perm.refl _) hD) hS hA
  refine z_callr (va_runV (As := [.int (xs (x3 + nI 1).toNatClampNeg), .int (xs (x3 + nI 2).toNatClampNeg)]) (rest := []) ⟨hx, hb, hml, hown, hts⟩ (c_X9_roundOf l D tt kx kv kd ke kt kr  bv bd bh be bt br (xs (x3 + nI 1).toNatClampNeg) (xs (x3 + nI 2).toNatClampNeg) r e1) (cwV 2 hts gL_law_X9_roundOf rfl rfl rfl (by decide +kernel) ⟨Nat.le_of_ble_eq_true rfl, Nat.le_of_ble_eq_true rfl⟩) (z_preVr hK (z_takeP (wc := (zWX tt kx kv kd ke kt kr bv bd bh be bt br)) (List.Perm.refl _) hP) (ci := 9) (q0 := 0) rfl rfl) rfl rfl hl.1 rfl (lv_room (Nat.le_of_ble_eq_true rfl)) dL_law_593 ⟨Nat.le_of_ble_eq_true rfl, Nat.le_of_ble_eq_true rfl⟩) (fun _ => ?_)
  refine lv_aload_n hx hb dL_law_596 rfl (lv_at hl 1 rfl) ?_
  refine la_arg (k := 1) hx hb hX hbl hS hl (hin 1 (by decide)) (by decide) dL_law_597 dL_law_598 dL_law_599 dL_law_600 dL_law_601 ?_
  refine la_arg (k := 2) hx hb hX hbl hS hl (hin 2 (by decide)) (by decide) dL_law_602 dL_law_603 dL_law_604 dL_law_605 dL_law_606 ?_
  have hFm := z_free0 (z_takeD (wc := (zw_mo tt kw bw bj)) (wr := (zWX tt kx kv kd ke kt kr bv bd bh be bt br)) List.perm_append_comm hD) hS hA
  refine z_callr (va_runV (As := [.int (xs (x3 + nI 1).toNatClampNeg), .int (xs (x3 + nI 2).toNatClampNeg)]) (rest := [.int r]) ⟨hx, hb, hml, hown, hts⟩ (c_X10_roundOf l D tt kw  bw bj (xs (x3 + nI 1).toNatClampNeg) (xs (x3 + nI 2).toNatClampNeg) r e2) (cwV 2 hts gL_law_X10_roundOf rfl rfl rfl (by decide +kernel) ⟨Nat.le_of_ble_eq_true rfl, Nat.le_of_ble_eq_true rfl⟩) (z_preVr hK (z_takeP (wc := (zw_mo tt kw bw bj)) (wr := (zWX tt kx kv kd ke kt kr bv bd bh be bt br)) List.perm_append_comm hP) (ci := 10) (q0 := 0) rfl rfl) rfl rfl hl.1 rfl (lv_room (Nat.le_of_ble_eq_true rfl)) dL_law_607 ⟨Nat.le_of_ble_eq_true rfl, Nat.le_of_ble_eq_true rfl⟩) (fun _ => ?_)
  refine lv_icmp_eq (tgt := 977) hx hb dL_law_610 (by decide) (fun _ => ?_) (fun h9 => absurd rfl h9)
  exact hgo bv bd bh be bt br bw bj _ _ hst hP hD hS
set_option maxHeartbeats 4000000 in
set_option maxRecDepth 100000 in
theorem la_classOf (hC : zLw p s m c b L xs D tt gs) (hst : zSt bv bh bt bw) (hP : va_P D vwCl ((zWX tt kx kv kd ke kt kr bv bd bh be bt br) ++ (zw_mo tt kw bw bj)) H) (hD : va_D (fun q : Nat => s.heap.size ≤ q) ((zWX tt kx kv kd ke kt kr bv bd bh be bt br) ++ (zw_mo tt kw bw bj))) (hS : va_S (fun q : Nat => s.heap.size ≤ q) s.heap H locs) (hl : lv_has ls 4 [(3, .int x3), (2, .ref (kw 0)), (1, .ref (kx 0)), (0, .ref b)]) (hin : ∀ k, k < 6 → vp_in (x3 + nI k) L) (hgo : zGo p l e s m below meth c b D tt kx kv kd ke kt kr kw ls Q) : W p l e room_1 s m #[Value.ref b] below meth c H locs 168 2957 Q (F0 m 615 ls []) := by
  obtain ⟨hx, hb, hml, hown, hts, hX, hbl, hK, hG⟩ := hC
  have hA : ∀ q : Nat, s.heap.size ≤ q → (fun q : Nat => s.heap.size ≤ q) q := fun _ h => h
  obtain ⟨r, e1, e2⟩ := an_classOf (bd := bd) (be := be) (br := br) bj hst (xs (x3 + nI 1).toNatClampNeg) (xs (x3 + nI 2).toNatClampNeg)
  refine lv_aload_n hx hb dL_law_615 rfl (lv_at hl 2 rfl) ?_
  refine la_arg (k := 1) hx hb hX hbl hS hl (hin 1 (by decide)) (by decide) dL_law_616 dL_law_617 dL_law_618 dL_law_619 dL_law_620 ?_
  refine la_arg (k := 2) hx hb hX hbl hS hl (hin 2 (by decide)) (by decide) dL_law_621 dL_law_622 dL_law_623 dL_law_624 dL_law_625 ?_
  have hFx := z_free0 (z_takeD (wc := (zWX tt kx kv kd ke kt kr bv bd bh be bt br)) (List.Perm.refl _) hD) hS hA
  refine z_callr (va_runV (As := [.int (xs (x3 + nI 1).toNatClampNeg), .int (xs (x3 + nI 2).toNatClampNeg)]) (rest := []) ⟨hx, hb, hml, hown, hts⟩ (c_X9_classOf l D tt kx kv kd ke kt kr  bv bd bh be bt br (xs (x3 + nI 1).toNatClampNeg) (xs (x3 + nI 2).toNatClampNeg) r e1) (cwV 2 hts gL_law_X9_classOf rfl rfl rfl (by decide +kernel) ⟨Nat.le_of_ble_eq_true rfl, Nat.le_of_ble_eq_true rfl⟩) (z_preVr hK (z_takeP (wc := (zWX tt kx kv kd ke kt kr bv bd bh be bt br)) (List.Perm.refl _) hP) (ci := 9) (q0 := 0) rfl rfl) rfl rfl hl.1 rfl (lv_room (Nat.le_of_ble_eq_true rfl)) dL_law_626 ⟨Nat.le_of_ble_eq_true rfl, Nat.le_of_ble_eq_true rfl⟩) (fun _ => ?_)
  refine lv_aload_n hx hb dL_law_629 rfl (lv_at hl 1 rfl) ?_
  refine la_arg (k := 1) hx hb hX hbl hS hl (hin 1 (by decide)) (by decide) dL_law_630 dL_law_631 dL_law_632 dL_law_633 dL_law_634 ?_
  refine la_arg (k := 2) hx hb hX hbl hS hl (hin 2 (by decide)) (by decide) dL_law_635 dL_law_636 dL_law_637 dL_law_638 dL_law_639 ?_
  have hFm := z_free0 (z_takeD (wc := (zw_mo tt kw bw bj)) (wr := (zWX tt kx kv kd ke kt kr bv bd bh be bt br)) List.perm_append_comm hD) hS hA
  refine z_callr (va_runV (As := [.int (xs (x3 + nI 1).toNatClampNeg), .int (xs (x3 + nI 2).toNatClampNeg)]) (rest := [.int r]) ⟨hx, hb, hml, hown, hts⟩ (c_X10_classOf l D tt kw  bw bj (xs (x3 + nI 1).toNatClampNeg) (xs (x3 + nI 2).toNatClampNeg) r e2) (cwV 2 hts gL_law_X10_classOf rfl rfl rfl (by decide +kernel) ⟨Nat.le_of_ble_eq_true rfl, Nat.le_of_ble_eq_true rfl⟩) (z_preVr hK (z_takeP (wc := (zw_mo tt kw bw bj)) (wr := (zWX tt kx kv kd ke kt kr bv bd bh be bt br)) List.perm_append_comm hP) (ci := 10) (q0 := 0) rfl rfl) rfl rfl hl.1 rfl (lv_room (Nat.le_of_ble_eq_true rfl)) dL_law_640 ⟨Nat.le_of_ble_eq_true rfl, Nat.le_of_ble_eq_true rfl⟩) (fun _ => ?_)
  refine lv_icmp_eq (tgt := 977) hx hb dL_law_643 (by decide) (fun _ => ?_) (fun h9 => absurd rfl h9)
  exact hgo bv bd bh be bt br bw bj _ _ hst hP hD hS
set_option maxHeartbeats 4000000 in
set_option maxRecDepth 100000 in
theorem la_certificateOf (hC : zLw p s m c b L xs D tt gs) (hst : zSt bv bh bt bw) (hP : va_P D vwCl ((zWX tt kx kv kd ke kt kr bv bd bh be bt br) ++ (zw_mo tt kw bw bj)) H) (hD : va_D (fun q : Nat => s.heap.size ≤ q) ((zWX tt kx kv kd ke kt kr bv bd bh be bt br) ++ (zw_mo tt kw bw bj))) (hS : va_S (fun q : Nat => s.heap.size ≤ q) s.heap H locs) (hl : lv_has ls 4 [(3, .int x3), (2, .ref (kw 0)), (1, .ref (kx 0)), (0, .ref b)]) (hin : ∀ k, k < 6 → vp_in (x3 + nI k) L) (hgo : zGo p l e s m below meth c b D tt kx kv kd ke kt kr kw ls Q) : W p l e room_1 s m #[Value.ref b] below meth c H locs 168 2957 Q (F0 m 648 ls []) := by
  obtain ⟨hx, hb, hml, hown, hts, hX, hbl, hK, hG⟩ := hC
  have hA : ∀ q : Nat, s.heap.size ≤ q → (fun q : Nat => s.heap.size ≤ q) q := fun _ h => h
  obtain ⟨r, e1, e2⟩ := an_certificateOf (bd := bd) (be := be) (br := br) bj hst (xs (x3 + nI 1).toNatClampNeg) (xs (x3 + nI 2).toNatClampNeg)
  refine lv_aload_n hx hb dL_law_648 rfl (lv_at hl 2 rfl) ?_
  refine la_arg (k := 1) hx hb hX hbl hS hl (hin 1 (by decide)) (by decide) dL_law_649 dL_law_650 dL_law_651 dL_law_652 dL_law_653 ?_
  refine la_arg (k := 2) hx hb hX hbl hS hl (hin 2 (by decide)) (by decide) dL_law_654 dL_law_655 dL_law_656 dL_law_657 dL_law_658 ?_
  have hFx := z_free0 (z_takeD (wc := (zWX tt kx kv kd ke kt kr bv bd bh be bt br)) (List.Perm.refl _) hD) hS hA
  refine z_callr (va_runV (As := [.int (xs (x3 + nI 1).toNatClampNeg), .int (xs (x3 + nI 2).toNatClampNeg)]) (rest := []) ⟨hx, hb, hml, hown, hts⟩ (c_X9_certificateOf l D tt kx kv kd ke kt kr  bv bd bh be bt br (xs (x3 + nI 1).toNatClampNeg) (xs (x3 + nI 2).toNatClampNeg) r e1) (cwV 2 hts gL_law_X9_certificateOf rfl rfl rfl (by decide +kernel) ⟨Nat.le_of_ble_eq_true rfl, Nat.le_of_ble_eq_true rfl⟩) (z_preVr hK (z_takeP (wc := (zWX tt kx kv kd ke kt kr bv bd bh be bt br)) (List.Perm.refl _) hP) (ci := 9) (q0 := 0) rfl rfl) rfl rfl hl.1 rfl (lv_room (Nat.le_of_ble_eq_true rfl)) dL_law_659 ⟨Nat.le_of_ble_eq_true rfl, Nat.le_of_ble_eq_true rfl⟩) (fun _ => ?_)
  refine lv_aload_n hx hb dL_law_662 rfl (lv_at hl 1 rfl) ?_
  refine la_arg (k := 1) hx hb hX hbl hS hl (hin 1 (by decide)) (by decide) dL_law_663 dL_law_664 dL_law_665 dL_law_666 dL_law_667 ?_
  refine la_arg (k := 2) hx hb hX hbl hS hl (hin 2 (by decide)) (by decide) dL_law_668 dL_law_669 dL_law_670 dL_law_671 dL_law_672 ?_
  have hFm := z_free0 (z_takeD (wc := (zw_mo tt kw bw bj)) (wr := (zWX tt kx kv kd ke kt kr bv bd bh be bt br)) List.perm_append_comm hD) hS hA
  refine z_callr (va_runV (As := [.int (xs (x3 + nI 1).toNatClampNeg), .int (xs (x3 + nI 2).toNatClampNeg)]) (rest := [.int r]) ⟨hx, hb, hml, hown, hts⟩ (c_X10_certificateOf l D tt kw  bw bj (xs (x3 + nI 1).toNatClampNeg) (xs (x3 + nI 2).toNatClampNeg) r e2) (cwV 2 hts gL_law_X10_certificateOf rfl rfl rfl (by decide +kernel) ⟨Nat.le_of_ble_eq_true rfl, Nat.le_of_ble_eq_true rfl⟩) (z_preVr hK (z_takeP (wc := (zw_mo tt kw bw bj)) (wr := (zWX tt kx kv kd ke kt kr bv bd bh be bt br)) List.perm_append_comm hP) (ci := 10) (q0 := 0) rfl rfl) rfl rfl hl.1 rfl (lv_room (Nat.le_of_ble_eq_true rfl)) dL_law_673 ⟨Nat.le_of_ble_eq_true rfl, Nat.le_of_ble_eq_true rfl⟩) (fun _ => ?_)
  refine lv_icmp_eq (tgt := 977) hx hb dL_law_676 (by decide) (fun _ => ?_) (fun h9 => absurd rfl h9)
  exact hgo bv bd bh be bt br bw bj _ _ hst hP hD hS
set_option maxHeartbeats 4000000 in
set_option maxRecDepth 100000 in
theorem la_grantOf (hC : zLw p s m c b L xs D tt gs) (hst : zSt bv bh bt bw) (hP : va_P D vwCl ((zWX tt kx kv kd ke kt kr bv bd bh be bt br) ++ (zw_mo tt kw bw bj)) H) (hD : va_D (fun q : Nat => s.heap.size ≤ q) ((zWX tt kx kv kd ke kt kr bv bd bh be bt br) ++ (zw_mo tt kw bw bj))) (hS : va_S (fun q : Nat => s.heap.size ≤ q) s.heap H locs) (hl : lv_has ls 4 [(3, .int x3), (2, .ref (kw 0)), (1, .ref (kx 0)), (0, .ref b)]) (hin : ∀ k, k < 6 → vp_in (x3 + nI k) L) (hgo : zGo p l e s m below meth c b D tt kx kv kd ke kt kr kw ls Q) : W p l e room_1 s m #[Value.ref b] below meth c H locs 168 2957 Q (F0 m 681 ls []) := by
  obtain ⟨hx, hb, hml, hown, hts, hX, hbl, hK, hG⟩ := hC
  have hA : ∀ q : Nat, s.heap.size ≤ q → (fun q : Nat => s.heap.size ≤ q) q := fun _ h => h
  obtain ⟨r, e1, e2⟩ := an_grantOf (bd := bd) (be := be) (br := br) bj hst (xs (x3 + nI 1).toNatClampNeg) (xs (x3 + nI 2).toNatClampNeg)
  refine lv_aload_n hx hb dL_law_681 rfl (lv_at hl 2 rfl) ?_
  refine la_arg (k := 1) hx hb hX hbl hS hl (hin 1 (by decide)) (by decide) dL_law_682 dL_law_683 dL_law_684 dL_law_685 dL_law_686 ?_
  refine la_arg (k := 2) hx hb hX hbl hS hl (hin 2 (by decide)) (by decide) dL_law_687 dL_law_688 dL_law_689 dL_law_690 dL_law_691 ?_
  have hFx := z_free0 (z_takeD (wc := (zWX tt kx kv kd ke kt kr bv bd bh be bt br)) (List.Perm.refl _) hD) hS hA
  refine z_callr (va_runV (As := [.int (xs (x3 + nI 1).toNatClampNeg), .int (xs (x3 + nI 2).toNatClampNeg)]) (rest := []) ⟨hx, hb, hml, hown, hts⟩ (c_X9_grantOf l D tt kx kv kd ke kt kr  bv bd bh be bt br (xs (x3 + nI 1).toNatClampNeg) (xs (x3 + nI 2).toNatClampNeg) r e1) (cwV 2 hts gL_law_X9_grantOf rfl rfl rfl (by decide +kernel) ⟨Nat.le_of_ble_eq_true rfl, Nat.le_of_ble_eq_true rfl⟩) (z_preVr hK (z_takeP (wc := (zWX tt kx kv kd ke kt kr bv bd bh be bt br)) (List.Perm.refl _) hP) (ci := 9) (q0 := 0) rfl rfl) rfl rfl hl.1 rfl (lv_room (Nat.le_of_ble_eq_true rfl)) dL_law_692 ⟨Nat.le_of_ble_eq_true rfl, Nat.le_of_ble_eq_true rfl⟩) (fun _ => ?_)
  refine lv_aload_n hx hb dL_law_695 rfl (lv_at hl 1 rfl) ?_
  refine la_arg (k := 1) hx hb hX hbl hS hl (hin 1 (by decide)) (by decide) dL_law_696 dL_law_697 dL_law_698 dL_law_699 dL_law_700 ?_
  refine la_arg (k := 2) hx hb hX hbl hS hl (hin 2 (by decide)) (by decide) dL_law_701 dL_law_702 dL_law_703 dL_law_704 dL_law_705 ?_
  have hFm := z_free0 (z_takeD (wc := (zw_mo tt kw bw bj)) (wr := (zWX tt kx kv kd ke kt kr bv bd bh be bt br)) List.perm_append_comm hD) hS hA
  refine z_callr (va_runV (As := [.int (xs (x3 + nI 1).toNatClampNeg), .int (xs (x3 + nI 2).toNatClampNeg)]) (rest := [.int r]) ⟨hx, hb, hml, hown, hts⟩ (c_X10_grantOf l D tt kw  bw bj (xs (x3 + nI 1).toNatClampNeg) (xs (x3 + nI 2).toNatClampNeg) r e2) (cwV 2 hts gL_law_X10_grantOf rfl rfl rfl (by decide +kernel) ⟨Nat.le_of_ble_eq_true rfl, Nat.le_of_ble_eq_true rfl⟩) (z_preVr hK (z_takeP (wc := (zw_mo tt kw bw bj)) (wr := (zWX tt kx kv kd ke kt kr bv bd bh be bt br)) List.perm_append_comm hP) (ci := 10) (q0 := 0) rfl rfl) rfl rfl hl.1 rfl (lv_room (Nat.le_of_ble_eq_true rfl)) dL_law_706 ⟨Nat.le_of_ble_eq_true rfl, Nat.le_of_ble_eq_true rfl⟩) (fun _ => ?_)
  refine lv_icmp_eq (tgt := 977) hx hb dL_law_709 (by decide) (fun _ => ?_) (fun h9 => absurd rfl h9)
  exact hgo bv bd bh be bt br bw bj _ _ hst hP hD hS
end ZLC
