/-! ===== constructors ===== -/
theorem z_swapP {D : va_G} {cl : List vw_C} {a : Nat} {pre post : va_W} {e e' : va_E} {H : Heap} (hP : va_P D cl (pre ++ (a, e) :: post) H) (h : va_at D cl (a, e) H → va_at D cl (a, e') H) : va_P D cl (pre ++ (a, e') :: post) H := by
  intro k q hk
  by_cases h1 : k < pre.length
  · rw [List.getElem?_append_left h1] at hk
    exact hP k q (by rw [List.getElem?_append_left h1]; exact hk)
  · rw [List.getElem?_append_right (by omega)] at hk
    cases hn : k - pre.length with
    | zero =>
      rw [hn] at hk
      cases hk
      exact h (hP k (a, e) (by rw [List.getElem?_append_right (by omega), hn]; rfl))
    | succ n =>
      rw [hn] at hk
      exact hP k q (by rw [List.getElem?_append_right (by omega), hn]; exact hk)
theorem z_swapD {A : Nat → Prop} {a : Nat} {pre post : va_W} {e e' : va_E} (hD : va_D A (pre ++ (a, e) :: post)) : va_D A (pre ++ (a, e') :: post) := by
  have key : ∀ (k : Nat) (q : Nat × va_E), (pre ++ (a, e') :: post)[k]? = some q → ∃ q' : Nat × va_E, (pre ++ (a, e) :: post)[k]? = some q' ∧ q'.1 = q.1 := by
    intro k q hk
    by_cases h1 : k < pre.length
    · rw [List.getElem?_append_left h1] at hk ⊢
      exact ⟨q, hk, rfl⟩
    · rw [List.getElem?_append_right (by omega)] at hk ⊢
      cases hn : k - pre.length with
      | zero =>
        rw [hn] at hk
        cases hk
        exact ⟨(a, e), rfl, rfl⟩
      | succ n =>
        rw [hn] at hk
        exact ⟨q, hk, rfl⟩
  refine ⟨fun i j p q hp hq e1 => ?_, fun k q hk => ?_⟩
  · obtain ⟨p', h1, h2⟩ := key i p hp
    obtain ⟨q', h3, h4⟩ := key j q hq
    exact hD.1 i j p' q' h1 h3 (by rw [h2, h4]; exact e1)
  · obtain ⟨q', h1, h2⟩ := key k q hk
    rw [← h2]
    exact hD.2 k q' h1
theorem z_arr4 (cA : ClassId) {F G : Nat → Option Nat} (h : ∀ j, j < 4 → F j = G j) : vp_cell cA (4, .inr (.inr (.inr (.inr F)))) = vp_cell cA (4, .inr (.inr (.inr (.inr G)))) := by
  rw [vp_cell_q, vp_cell_q]
  unfold arrV
  congr 1
  congr 1
  funext j
  show va_rf (F j.val) = va_rf (G j.val)
  rw [h j.val j.isLt]
def zNv (D : va_G) (h0 i : Nat) (W : (Nat → Nat) → va_W) (A : Nat → Prop) : Array Value → State → Outcome → State → Prop := va_Qv (S := Nat → Nat) (fun kv => kv i = h0) (fun kv t => va_P D vwCl (W kv) t.heap ∧ va_D A (W kv)) A
theorem z_uniq {D : va_G} {tt : Nat → ClassId} {s : State} {cA cT : ClassId} {ty : FieldType} (hK : va_K D vwCl (zT tt ++ [(cA, ty)]) s) (t0 : Nat) (ht : (zT tt ++ [(cA, ty)])[t0]? = some (cT, ty)) (nm : String) (hp : ∀ c, va_RA s c ty → s.vm.findClass nm = some c) : cA = cT := by
  have h1 := hp _ (hK.2 t0 (cT, ty) ht).2
  have h2 := hp _ (hK.2 4 (cA, ty) rfl).2
  exact Option.some.inj (h2.symm.trans h1)

def zv0 : zV := zu (zu (fun _ _ => 0) 0 (zu (fun _ => 0) 0 1)) 5 (upd (fun _ => 0) (0 : Int32).toNatClampNeg 1)
def zNx (D : va_G) (tt : Nat → ClassId) (h0 : Nat) (A : Nat → Prop) : Array Value → State → Outcome → State → Prop := va_Qv (S := (Nat → Nat) × (Nat → Nat → Nat)) (fun u => u.1 1 = h0) (fun u t => va_P D vwCl (zw_hi tt u.1 (0, (fun _ => zv0), u.2)) t.heap ∧ va_D A (zw_hi tt u.1 (0, (fun _ => zv0), u.2))) A
abbrev zKs : Type := (Nat → Nat) × (Nat → Nat) × (Nat → Nat) × (Nat → Nat) × (Nat → Nat) × (Nat → Nat) × (Nat → Nat → Nat)
def zw_cs (tt : Nat → ClassId) (u : zKs) : va_W := zw_x9 u.1 u.2.1 u.2.2.1 u.2.2.2.1 u.2.2.2.2.1 u.2.2.2.2.2.1 ++ zw_co tt u.2.1 zv0 ++ zw_co tt u.2.2.1 zv0 ++ zw_hi tt u.1 (0, (fun _ => zv0), u.2.2.2.2.2.2) ++ zw_ex tt u.2.2.2.1 (fun _ _ => 0) ++ zw_tx tt u.2.2.2.2.1 (fun _ _ => 0) ++ zw_rh tt u.2.2.2.2.2.1 (fun _ _ => 0)
def zNo (D : va_G) (tt : Nat → ClassId) (h0 : Nat) (A : Nat → Prop) : Array Value → State → Outcome → State → Prop := va_Qv (S := zKs) (fun u => u.1 0 = h0) (fun u t => va_P D vwCl (zw_cs tt u) t.heap ∧ va_D A (zw_cs tt u)) A
def zw0 : zV := zu (fun _ _ => 0) 1 (upd (upd (fun _ => 0) (0 : Int32).toNatClampNeg 1) (32 : Int32).toNatClampNeg 1)
set_option maxHeartbeats 8000000 in
set_option maxRecDepth 100000 in
theorem c_X0_init (l : Launch) (D : va_G) (tt : Nat → ClassId) (h0 : Nat) (sz : Nat) : Met l yX0_init wsX0_init { frames := 1, cells := 4, slots := 96, locals := 12 } (zPm [.ref h0] D tt ([(h0, .inr (0, [.null, .null, .null, .null]))] : va_W) sz) (zNv D h0 2 (fun kv => zw_ce tt kv zv0) (va_A ([(h0, .inr (0, [.null, .null, .null, .null]))] : va_W) sz)) 4 96 (va_A ([(h0, .inr (0, [.null, .null, .null, .null]))] : va_W) sz) := by
  refine Met.ofW (cc := cX0_init) (maxL := 1) (ret := none) (by decide) rfl ?_
  intro p e s m args below meth c s₁ B hml hv
  obtain ⟨ha, hsz, hP, hK, hD0⟩ := hv
  have hx := B.exec
  have hb := B.bytes
  have hr := B.returns
  have hts := atoms_spec (ws := wsX0_init) B.pre
  have hown : s.vm.findClass RX0 = some m.cls := findClass_of_methodNamed B.named
  have hlocks := B.notSynchronized
  have hin : meth.name = "<init>" := (name_of_methodNamed B.named B.method).1
  have hi0 : ∀ w ∈ u_ws RX0 TX0 4, w ∈ wsX0_init := fun _ h => List.mem_cons_of_mem _ (List.mem_append_right _ h)
  have ac0 := hts (.arrayClass .int) (by decide +kernel)
  have fl15 := hts (.fieldLink RX0 15 "CapStacks$Certificates" "of" "[I") (by decide +kernel)
  have fl18 := hts (.fieldLink RX0 18 "CapStacks$Certificates" "shares" "[I") (by decide +kernel)
  have fl21 := hts (.fieldLink RX0 21 "CapStacks$Certificates" "made" "[I") (by decide +kernel)
  have fl9 := hts (.fieldLink RX0 9 "CapStacks$Certificates" "holder" "[I") (by decide +kernel)
  subst hsz
  have hD := hD0.self (sz := s.heap.size)
  generalize hAe : va_A ([(h0, .inr (0, [.null, .null, .null, .null]))] : va_W) s.heap.size = A at hD ⊢
  have hA : ∀ q : Nat, s.heap.size ≤ q → A q := fun q h => by rw [← hAe]; exact Or.inr h
  have hS : va_S A s.heap s.heap [] := va_S.rf
  have hl := lv_entry ([.ref h0]) (n := 1) (Nat.le_of_ble_eq_true rfl)
  refine W.eq (g2 := F0 m 0 ((lg_sl ([.ref h0]) ++ List.replicate (1 - (lg_sl ([.ref h0])).length) Slot.unset).toArray) []) (by rw [ha]; exact lg_entry_eq _ _ _) ?_
  generalize (lg_sl ([.ref h0]) ++ List.replicate (1 - (lg_sl ([.ref h0])).length) Slot.unset).toArray = ls at hl ⊢
  have hl : lv_has ls 1 [(0, .ref h0)] := hl
  refine lv_aload_n hx hb dX0_init_0 rfl (lv_at hl 0 rfl) ?_
  refine W.objInit hx hb hown (hts (.methodLink RX0 3 objectInit) (by decide +kernel)) (hts (.instanceMethod objectInit) (by decide +kernel)) (hts (.code objectInit ⟨#[0xb1]⟩ 1 none) (by decide +kernel)) rfl (by rw [hml]; exact hl.1) rfl dX0_init_1 (Nat.le_of_ble_eq_true rfl) (Nat.le_of_ble_eq_true rfl) ?_
  refine W.eq (g2 := F0 m 4 ls []) rfl ?_
  refine lv_aload_n hx hb dX0_init_4 rfl (lv_at hl 0 rfl) ?_
  refine lv_bipush (v := 24) hx hb dX0_init_5 (by decide) ?_
  refine va_newa (atype := .int) (ty := .int) (N' := 24) (a0 := (24, .inl (fun _ => 0))) hx hb ac0 rfl hK.1 hP hD hS hA (fun _ => rfl) (by decide) (by decide) (Nat.le_of_ble_eq_true rfl) (Nat.le_of_ble_eq_true rfl) (Nat.le_of_ble_eq_true rfl) dX0_init_7 (fun q1 cq1 H hK1 hP hD hS => ?_)
  obtain rfl : cq1 = tt 0 := z_uniq hK1 0 rfl _ (fun _ h => h)
  clear hK1
  have hP : va_P D vwCl (([(h0, .inr (0, [.null, .null, .null, .null]))] : va_W) ++ ([(q1, .inl (tt 0, 24, .inl (fun _ => 0)))] : va_W)) H := hP
  have hD : va_D A (([(h0, .inr (0, [.null, .null, .null, .null]))] : va_W) ++ ([(q1, .inl (tt 0, 24, .inl (fun _ => 0)))] : va_W)) := hD
  refine va_putF (D := D) (ci := 0) (v := .ref q1) (ty := .array .int) (C := RX0) (T := TX0) (N := 4) hx hb hts hi0 tyX0 tyX0_ok nmX0 hown hK.1 hP hD hS 0 rfl rfl 0 (by decide) fl9 (fun _ h9 => h9) rfl hin rfl (by decide +kernel) rfl rfl (Nat.le_of_ble_eq_true rfl) dX0_init_9 (fun H locs hP hD hS => ?_)
  have hP : va_P D vwCl (([(h0, .inr (0, [.ref q1, .null, .null, .null]))] : va_W) ++ ([(q1, .inl (tt 0, 24, .inl (fun _ => 0)))] : va_W)) H := hP
  have hD : va_D A (([(h0, .inr (0, [.ref q1, .null, .null, .null]))] : va_W) ++ ([(q1, .inl (tt 0, 24, .inl (fun _ => 0)))] : va_W)) := hD
  refine lv_aload_n hx hb dX0_init_12 rfl (lv_at hl 0 rfl) ?_
  refine lv_bipush (v := 24) hx hb dX0_init_13 (by decide) ?_
  refine va_newa (atype := .int) (ty := .int) (N' := 24) (a0 := (24, .inl (fun _ => 0))) hx hb ac0 rfl hK.1 hP hD hS hA (fun _ => rfl) (by decide) (by decide) (Nat.le_of_ble_eq_true rfl) (Nat.le_of_ble_eq_true rfl) (Nat.le_of_ble_eq_true rfl) dX0_init_15 (fun q2 cq2 H hK1 hP hD hS => ?_)
  obtain rfl : cq2 = tt 0 := z_uniq hK1 0 rfl _ (fun _ h => h)
  clear hK1
  have hP : va_P D vwCl (([(h0, .inr (0, [.ref q1, .null, .null, .null]))] : va_W) ++ ([(q1, .inl (tt 0, 24, .inl (fun _ => 0)))] : va_W) ++ ([(q2, .inl (tt 0, 24, .inl (fun _ => 0)))] : va_W)) H := hP
  have hD : va_D A (([(h0, .inr (0, [.ref q1, .null, .null, .null]))] : va_W) ++ ([(q1, .inl (tt 0, 24, .inl (fun _ => 0)))] : va_W) ++ ([(q2, .inl (tt 0, 24, .inl (fun _ => 0)))] : va_W)) := hD
  refine va_putF (D := D) (ci := 0) (v := .ref q2) (ty := .array .int) (C := RX0) (T := TX0) (N := 4) hx hb hts hi0 tyX0 tyX0_ok nmX0 hown hK.1 hP hD hS 0 rfl rfl 1 (by decide) fl15 (fun _ h9 => h9) rfl hin rfl (by decide +kernel) rfl rfl (Nat.le_of_ble_eq_true rfl) dX0_init_17 (fun H locs hP hD hS => ?_)
  have hP : va_P D vwCl (([(h0, .inr (0, [.ref q1, .ref q2, .null, .null]))] : va_W) ++ ([(q1, .inl (tt 0, 24, .inl (fun _ => 0)))] : va_W) ++ ([(q2, .inl (tt 0, 24, .inl (fun _ => 0)))] : va_W)) H := hP
  have hD : va_D A (([(h0, .inr (0, [.ref q1, .ref q2, .null, .null]))] : va_W) ++ ([(q1, .inl (tt 0, 24, .inl (fun _ => 0)))] : va_W) ++ ([(q2, .inl (tt 0, 24, .inl (fun _ => 0)))] : va_W)) := hD
  refine lv_aload_n hx hb dX0_init_20 rfl (lv_at hl 0 rfl) ?_
  refine lv_bipush (v := 24) hx hb dX0_init_21 (by decide) ?_
  refine va_newa (atype := .int) (ty := .int) (N' := 24) (a0 := (24, .inl (fun _ => 0))) hx hb ac0 rfl hK.1 hP hD hS hA (fun _ => rfl) (by decide) (by decide) (Nat.le_of_ble_eq_true rfl) (Nat.le_of_ble_eq_true rfl) (Nat.le_of_ble_eq_true rfl) dX0_init_23 (fun q3 cq3 H hK1 hP hD hS => ?_)
  obtain rfl : cq3 = tt 0 := z_uniq hK1 0 rfl _ (fun _ h => h)
  clear hK1
  have hP : va_P D vwCl (([(h0, .inr (0, [.ref q1, .ref q2, .null, .null]))] : va_W) ++ ([(q1, .inl (tt 0, 24, .inl (fun _ => 0)))] : va_W) ++ ([(q2, .inl (tt 0, 24, .inl (fun _ => 0)))] : va_W) ++ ([(q3, .inl (tt 0, 24, .inl (fun _ => 0)))] : va_W)) H := hP
  have hD : va_D A (([(h0, .inr (0, [.ref q1, .ref q2, .null, .null]))] : va_W) ++ ([(q1, .inl (tt 0, 24, .inl (fun _ => 0)))] : va_W) ++ ([(q2, .inl (tt 0, 24, .inl (fun _ => 0)))] : va_W) ++ ([(q3, .inl (tt 0, 24, .inl (fun _ => 0)))] : va_W)) := hD
  refine va_putF (D := D) (ci := 0) (v := .ref q3) (ty := .array .int) (C := RX0) (T := TX0) (N := 4) hx hb hts hi0 tyX0 tyX0_ok nmX0 hown hK.1 hP hD hS 0 rfl rfl 2 (by decide) fl18 (fun _ h9 => h9) rfl hin rfl (by decide +kernel) rfl rfl (Nat.le_of_ble_eq_true rfl) dX0_init_25 (fun H locs hP hD hS => ?_)
  have hP : va_P D vwCl (([(h0, .inr (0, [.ref q1, .ref q2, .ref q3, .null]))] : va_W) ++ ([(q1, .inl (tt 0, 24, .inl (fun _ => 0)))] : va_W) ++ ([(q2, .inl (tt 0, 24, .inl (fun _ => 0)))] : va_W) ++ ([(q3, .inl (tt 0, 24, .inl (fun _ => 0)))] : va_W)) H := hP
  have hD : va_D A (([(h0, .inr (0, [.ref q1, .ref q2, .ref q3, .null]))] : va_W) ++ ([(q1, .inl (tt 0, 24, .inl (fun _ => 0)))] : va_W) ++ ([(q2, .inl (tt 0, 24, .inl (fun _ => 0)))] : va_W) ++ ([(q3, .inl (tt 0, 24, .inl (fun _ => 0)))] : va_W)) := hD
  refine lv_aload_n hx hb dX0_init_28 rfl (lv_at hl 0 rfl) ?_
  refine lv_bipush (v := 24) hx hb dX0_init_29 (by decide) ?_
  refine va_newa (atype := .int) (ty := .int) (N' := 24) (a0 := (24, .inl (fun _ => 0))) hx hb ac0 rfl hK.1 hP hD hS hA (fun _ => rfl) (by decide) (by decide) (Nat.le_of_ble_eq_true rfl) (Nat.le_of_ble_eq_true rfl) (Nat.le_of_ble_eq_true rfl) dX0_init_31 (fun q4 cq4 H hK1 hP hD hS => ?_)
  obtain rfl : cq4 = tt 0 := z_uniq hK1 0 rfl _ (fun _ h => h)
  clear hK1
  have hP : va_P D vwCl (([(h0, .inr (0, [.ref q1, .ref q2, .ref q3, .null]))] : va_W) ++ ([(q1, .inl (tt 0, 24, .inl (fun _ => 0)))] : va_W) ++ ([(q2, .inl (tt 0, 24, .inl (fun _ => 0)))] : va_W) ++ ([(q3, .inl (tt 0, 24, .inl (fun _ => 0)))] : va_W) ++ ([(q4, .inl (tt 0, 24, .inl (fun _ => 0)))] : va_W)) H := hP
  have hD : va_D A (([(h0, .inr (0, [.ref q1, .ref q2, .ref q3, .null]))] : va_W) ++ ([(q1, .inl (tt 0, 24, .inl (fun _ => 0)))] : va_W) ++ ([(q2, .inl (tt 0, 24, .inl (fun _ => 0)))] : va_W) ++ ([(q3, .inl (tt 0, 24, .inl (fun _ => 0)))] : va_W) ++ ([(q4, .inl (tt 0, 24, .inl (fun _ => 0)))] : va_W)) := hD
  refine va_putF (D := D) (ci := 0) (v := .ref q4) (ty := .array .int) (C := RX0) (T := TX0) (N := 4) hx hb hts hi0 tyX0 tyX0_ok nmX0 hown hK.1 hP hD hS 0 rfl rfl 3 (by decide) fl21 (fun _ h9 => h9) rfl hin rfl (by decide +kernel) rfl rfl (Nat.le_of_ble_eq_true rfl) dX0_init_33 (fun H locs hP hD hS => ?_)
  have hP : va_P D vwCl (([(h0, .inr (0, [.ref q1, .ref q2, .ref q3, .ref q4]))] : va_W) ++ ([(q1, .inl (tt 0, 24, .inl (fun _ => 0)))] : va_W) ++ ([(q2, .inl (tt 0, 24, .inl (fun _ => 0)))] : va_W) ++ ([(q3, .inl (tt 0, 24, .inl (fun _ => 0)))] : va_W) ++ ([(q4, .inl (tt 0, 24, .inl (fun _ => 0)))] : va_W)) H := hP
  have hD : va_D A (([(h0, .inr (0, [.ref q1, .ref q2, .ref q3, .ref q4]))] : va_W) ++ ([(q1, .inl (tt 0, 24, .inl (fun _ => 0)))] : va_W) ++ ([(q2, .inl (tt 0, 24, .inl (fun _ => 0)))] : va_W) ++ ([(q3, .inl (tt 0, 24, .inl (fun _ => 0)))] : va_W) ++ ([(q4, .inl (tt 0, 24, .inl (fun _ => 0)))] : va_W)) := hD
  have hP9 := hP.sub (ws' := zw_ce tt (zu (zu (zu (zu (zu (fun _ => 0) 2 h0) 10 q1) 11 q2) 12 q3) 13 q4) zv0) [0, 1, 2, 3, 4] rfl
  have hD9 := hD.sub (ws' := zw_ce tt (zu (zu (zu (zu (zu (fun _ => 0) 2 h0) 10 q1) 11 q2) 12 q3) 13 q4) zv0) [0, 1, 2, 3, 4] (by decide) rfl
  exact W.vret hx hb hr (fun t ht hW => ⟨⟨(zu (zu (zu (zu (zu (fun _ => 0) 2 h0) 10 q1) 11 q2) 12 q3) 13 q4), rfl, rfl, by rw [ht]; exact hP9, hD9⟩, hS.F ht⟩) hS.2.2 dX0_init_36
set_option maxHeartbeats 8000000 in
set_option maxRecDepth 100000 in
theorem c_X1_init (l : Launch) (D : va_G) (tt : Nat → ClassId) (h0 : Nat) (sz : Nat) : Met l yX1_init wsX1_init { frames := 1, cells := 5, slots := 25, locals := 12 } (zPm [.ref h0] D tt ([(h0, .inr (1, [.int 0, .null, .null, .null, .null, .null]))] : va_W) sz) (zNv D h0 1 (fun kv => zw_cl tt kv zv0) (va_A ([(h0, .inr (1, [.int 0, .null, .null, .null, .null, .null]))] : va_W) sz)) 5 25 (va_A ([(h0, .inr (1, [.int 0, .null, .null, .null, .null, .null]))] : va_W) sz) := by
  refine Met.ofW (cc := cX1_init) (maxL := 1) (ret := none) (by decide) rfl ?_
  intro p e s m args below meth c s₁ B hml hv
  obtain ⟨ha, hsz, hP, hK, hD0⟩ := hv
  have hx := B.exec
  have hb := B.bytes
  have hr := B.returns
  have hts := atoms_spec (ws := wsX1_init) B.pre
  have hown : s.vm.findClass RX1 = some m.cls := findClass_of_methodNamed B.named
  have hlocks := B.notSynchronized
  have hin : meth.name = "<init>" := (name_of_methodNamed B.named B.method).1
  have hi1 : ∀ w ∈ u_ws RX1 TX1 6, w ∈ wsX1_init := fun _ h => List.mem_cons_of_mem _ (List.mem_append_right _ h)
  have ac0 := hts (.arrayClass .int) (by decide +kernel)
  have fl15 := hts (.fieldLink RX1 15 "CapStacks$Classes" "price" "[I") (by decide +kernel)
  have fl19 := hts (.fieldLink RX1 19 "CapStacks$Classes" "multiple" "[I") (by decide +kernel)
  have fl22 := hts (.fieldLink RX1 22 "CapStacks$Classes" "rank" "[I") (by decide +kernel)
  have fl25 := hts (.fieldLink RX1 25 "CapStacks$Classes" "kind" "[I") (by decide +kernel)
  have fl28 := hts (.fieldLink RX1 28 "CapStacks$Classes" "ratio" "[I") (by decide +kernel)
  have fl9 := hts (.fieldLink RX1 9 "CapStacks$Classes" "size" "I") (by decide +kernel)
  subst hsz
  have hD := hD0.self (sz := s.heap.size)
  generalize hAe : va_A ([(h0, .inr (1, [.int 0, .null, .null, .null, .null, .null]))] : va_W) s.heap.size = A at hD ⊢
  have hA : ∀ q : Nat, s.heap.size ≤ q → A q := fun q h => by rw [← hAe]; exact Or.inr h
  have hS : va_S A s.heap s.heap [] := va_S.rf
  have hl := lv_entry ([.ref h0]) (n := 1) (Nat.le_of_ble_eq_true rfl)
  refine W.eq (g2 := F0 m 0 ((lg_sl ([.ref h0]) ++ List.replicate (1 - (lg_sl ([.ref h0])).length) Slot.unset).toArray) []) (by rw [ha]; exact lg_entry_eq _ _ _) ?_
  generalize (lg_sl ([.ref h0]) ++ List.replicate (1 - (lg_sl ([.ref h0])).length) Slot.unset).toArray = ls at hl ⊢
  have hl : lv_has ls 1 [(0, .ref h0)] := hl
  refine lv_aload_n hx hb dX1_init_0 rfl (lv_at hl 0 rfl) ?_
  refine W.objInit hx hb hown (hts (.methodLink RX1 3 objectInit) (by decide +kernel)) (hts (.instanceMethod objectInit) (by decide +kernel)) (hts (.code objectInit ⟨#[0xb1]⟩ 1 none) (by decide +kernel)) rfl (by rw [hml]; exact hl.1) rfl dX1_init_1 (Nat.le_of_ble_eq_true rfl) (Nat.le_of_ble_eq_true rfl) ?_
  refine W.eq (g2 := F0 m 4 ls []) rfl ?_
  refine lv_aload_n hx hb dX1_init_4 rfl (lv_at hl 0 rfl) ?_
  refine lv_iconst (v := 1) hx hb dX1_init_5 (by decide) ?_
  refine va_put (D := D) (ci := 1) (v := .int 1) (ty := .int) (C := RX1) (T := TX1) (N := 6) hx hb hts hi1 tyX1 tyX1_ok nmX1 hown hK.1 hP hD hS 0 rfl rfl 0 (by decide) fl9 (fun _ h9 => h9) rfl (by decide +kernel) rfl rfl (Nat.le_of_ble_eq_true rfl) dX1_init_6 (fun H locs hP hD hS => ?_)
  have hP : va_P D vwCl ([(h0, .inr (1, [.int 1, .null, .null, .null, .null, .null]))] : va_W) H := hP
  have hD : va_D A ([(h0, .inr (1, [.int 1, .null, .null, .null, .null, .null]))] : va_W) := hD
  refine lv_aload_n hx hb dX1_init_9 rfl (lv_at hl 0 rfl) ?_
  refine lv_iconst (v := 5) hx hb dX1_init_10 (by decide) ?_
  refine va_newa (atype := .int) (ty := .int) (N' := 5) (a0 := (5, .inl (fun _ => 0))) hx hb ac0 rfl hK.1 hP hD hS hA (fun _ => rfl) (by decide) (by decide) (Nat.le_of_ble_eq_true rfl) (Nat.le_of_ble_eq_true rfl) (Nat.le_of_ble_eq_true rfl) dX1_init_11 (fun q1 cq1 H hK1 hP hD hS => ?_)
  obtain rfl : cq1 = tt 0 := z_uniq hK1 0 rfl _ (fun _ h => h)
  clear hK1
  have hP : va_P D vwCl (([(h0, .inr (1, [.int 1, .null, .null, .null, .null, .null]))] : va_W) ++ ([(q1, .inl (tt 0, 5, .inl (fun _ => 0)))] : va_W)) H := hP
  have hD : va_D A (([(h0, .inr (1, [.int 1, .null, .null, .null, .null, .null]))] : va_W) ++ ([(q1, .inl (tt 0, 5, .inl (fun _ => 0)))] : va_W)) := hD
  refine va_putF (D := D) (ci := 1) (v := .ref q1) (ty := .array .int) (C := RX1) (T := TX1) (N := 6) hx hb hts hi1 tyX1 tyX1_ok nmX1 hown hK.1 hP hD hS 0 rfl rfl 1 (by decide) fl15 (fun _ h9 => h9) rfl hin rfl (by decide +kernel) rfl rfl (Nat.le_of_ble_eq_true rfl) dX1_init_13 (fun H locs hP hD hS => ?_)
  have hP : va_P D vwCl (([(h0, .inr (1, [.int 1, .ref q1, .null, .null, .null, .null]))] : va_W) ++ ([(q1, .inl (tt 0, 5, .inl (fun _ => 0)))] : va_W)) H := hP
  have hD : va_D A (([(h0, .inr (1, [.int 1, .ref q1, .null, .null, .null, .null]))] : va_W) ++ ([(q1, .inl (tt 0, 5, .inl (fun _ => 0)))] : va_W)) := hD
  refine lv_aload_n hx hb dX1_init_16 rfl (lv_at hl 0 rfl) ?_
  refine lv_iconst (v := 5) hx hb dX1_init_17 (by decide) ?_
  refine va_newa (atype := .int) (ty := .int) (N' := 5) (a0 := (5, .inl (fun _ => 0))) hx hb ac0 rfl hK.1 hP hD hS hA (fun _ => rfl) (by decide) (by decide) (Nat.le_of_ble_eq_true rfl) (Nat.le_of_ble_eq_true rfl) (Nat.le_of_ble_eq_true rfl) dX1_init_18 (fun q2 cq2 H hK1 hP hD hS => ?_)
  obtain rfl : cq2 = tt 0 := z_uniq hK1 0 rfl _ (fun _ h => h)
  clear hK1
  have hP : va_P D vwCl (([(h0, .inr (1, [.int 1, .ref q1, .null, .null, .null, .null]))] : va_W) ++ ([(q1, .inl (tt 0, 5, .inl (fun _ => 0)))] : va_W) ++ ([(q2, .inl (tt 0, 5, .inl (fun _ => 0)))] : va_W)) H := hP
  have hD : va_D A (([(h0, .inr (1, [.int 1, .ref q1, .null, .null, .null, .null]))] : va_W) ++ ([(q1, .inl (tt 0, 5, .inl (fun _ => 0)))] : va_W) ++ ([(q2, .inl (tt 0, 5, .inl (fun _ => 0)))] : va_W)) := hD
  refine va_putF (D := D) (ci := 1) (v := .ref q2) (ty := .array .int) (C := RX1) (T := TX1) (N := 6) hx hb hts hi1 tyX1 tyX1_ok nmX1 hown hK.1 hP hD hS 0 rfl rfl 2 (by decide) fl19 (fun _ h9 => h9) rfl hin rfl (by decide +kernel) rfl rfl (Nat.le_of_ble_eq_true rfl) dX1_init_20 (fun H locs hP hD hS => ?_)
  have hP : va_P D vwCl (([(h0, .inr (1, [.int 1, .ref q1, .ref q2, .null, .null, .null]))] : va_W) ++ ([(q1, .inl (tt 0, 5, .inl (fun _ => 0)))] : va_W) ++ ([(q2, .inl (tt 0, 5, .inl (fun _ => 0)))] : va_W)) H := hP
  have hD : va_D A (([(h0, .inr (1, [.int 1, .ref q1, .ref q2, .null, .null, .null]))] : va_W) ++ ([(q1, .inl (tt 0, 5, .inl (fun _ => 0)))] : va_W) ++ ([(q2, .inl (tt 0, 5, .inl (fun _ => 0)))] : va_W)) := hD
  refine lv_aload_n hx hb dX1_init_23 rfl (lv_at hl 0 rfl) ?_
  refine lv_iconst (v := 5) hx hb dX1_init_24 (by decide) ?_
  refine va_newa (atype := .int) (ty := .int) (N' := 5) (a0 := (5, .inl (fun _ => 0))) hx hb ac0 rfl hK.1 hP hD hS hA (fun _ => rfl) (by decide) (by decide) (Nat.le_of_ble_eq_true rfl) (Nat.le_of_ble_eq_true rfl) (Nat.le_of_ble_eq_true rfl) dX1_init_25 (fun q3 cq3 H hK1 hP hD hS => ?_)
  obtain rfl : cq3 = tt 0 := z_uniq hK1 0 rfl _ (fun _ h => h)
  clear hK1
  have hP : va_P D vwCl (([(h0, .inr (1, [.int 1, .ref q1, .ref q2, .null, .null, .null]))] : va_W) ++ ([(q1, .inl (tt 0, 5, .inl (fun _ => 0)))] : va_W) ++ ([(q2, .inl (tt 0, 5, .inl (fun _ => 0)))] : va_W) ++ ([(q3, .inl (tt 0, 5, .inl (fun _ => 0)))] : va_W)) H := hP
  have hD : va_D A (([(h0, .inr (1, [.int 1, .ref q1, .ref q2, .null, .null, .null]))] : va_W) ++ ([(q1, .inl (tt 0, 5, .inl (fun _ => 0)))] : va_W) ++ ([(q2, .inl (tt 0, 5, .inl (fun _ => 0)))] : va_W) ++ ([(q3, .inl (tt 0, 5, .inl (fun _ => 0)))] : va_W)) := hD
  refine va_putF (D := D) (ci := 1) (v := .ref q3) (ty := .array .int) (C := RX1) (T := TX1) (N := 6) hx hb hts hi1 tyX1 tyX1_ok nmX1 hown hK.1 hP hD hS 0 rfl rfl 3 (by decide) fl22 (fun _ h9 => h9) rfl hin rfl (by decide +kernel) rfl rfl (Nat.le_of_ble_eq_true rfl) dX1_init_27 (fun H locs hP hD hS => ?_)
  have hP : va_P D vwCl (([(h0, .inr (1, [.int 1, .ref q1, .ref q2, .ref q3, .null, .null]))] : va_W) ++ ([(q1, .inl (tt 0, 5, .inl (fun _ => 0)))] : va_W) ++ ([(q2, .inl (tt 0, 5, .inl (fun _ => 0)))] : va_W) ++ ([(q3, .inl (tt 0, 5, .inl (fun _ => 0)))] : va_W)) H := hP
  have hD : va_D A (([(h0, .inr (1, [.int 1, .ref q1, .ref q2, .ref q3, .null, .null]))] : va_W) ++ ([(q1, .inl (tt 0, 5, .inl (fun _ => 0)))] : va_W) ++ ([(q2, .inl (tt 0, 5, .inl (fun _ => 0)))] : va_W) ++ ([(q3, .inl (tt 0, 5, .inl (fun _ => 0)))] : va_W)) := hD
  refine lv_aload_n hx hb dX1_init_30 rfl (lv_at hl 0 rfl) ?_
  refine lv_iconst (v := 5) hx hb dX1_init_31 (by decide) ?_
  refine va_newa (atype := .int) (ty := .int) (N' := 5) (a0 := (5, .inl (fun _ => 0))) hx hb ac0 rfl hK.1 hP hD hS hA (fun _ => rfl) (by decide) (by decide) (Nat.le_of_ble_eq_true rfl) (Nat.le_of_ble_eq_true rfl) (Nat.le_of_ble_eq_true rfl) dX1_init_32 (fun q4 cq4 H hK1 hP hD hS => ?_)
  obtain rfl : cq4 = tt 0 := z_uniq hK1 0 rfl _ (fun _ h => h)
  clear hK1
  have hP : va_P D vwCl (([(h0, .inr (1, [.int 1, .ref q1, .ref q2, .ref q3, .null, .null]))] : va_W) ++ ([(q1, .inl (tt 0, 5, .inl (fun _ => 0)))] : va_W) ++ ([(q2, .inl (tt 0, 5, .inl (fun _ => 0)))] : va_W) ++ ([(q3, .inl (tt 0, 5, .inl (fun _ => 0)))] : va_W) ++ ([(q4, .inl (tt 0, 5, .inl (fun _ => 0)))] : va_W)) H := hP
  have hD : va_D A (([(h0, .inr (1, [.int 1, .ref q1, .ref q2, .ref q3, .null, .null]))] : va_W) ++ ([(q1, .inl (tt 0, 5, .inl (fun _ => 0)))] : va_W) ++ ([(q2, .inl (tt 0, 5, .inl (fun _ => 0)))] : va_W) ++ ([(q3, .inl (tt 0, 5, .inl (fun _ => 0)))] : va_W) ++ ([(q4, .inl (tt 0, 5, .inl (fun _ => 0)))] : va_W)) := hD
  refine va_putF (D := D) (ci := 1) (v := .ref q4) (ty := .array .int) (C := RX1) (T := TX1) (N := 6) hx hb hts hi1 tyX1 tyX1_ok nmX1 hown hK.1 hP hD hS 0 rfl rfl 4 (by decide) fl25 (fun _ h9 => h9) rfl hin rfl (by decide +kernel) rfl rfl (Nat.le_of_ble_eq_true rfl) dX1_init_34 (fun H locs hP hD hS => ?_)
  have hP : va_P D vwCl (([(h0, .inr (1, [.int 1, .ref q1, .ref q2, .ref q3, .ref q4, .null]))] : va_W) ++ ([(q1, .inl (tt 0, 5, .inl (fun _ => 0)))] : va_W) ++ ([(q2, .inl (tt 0, 5, .inl (fun _ => 0)))] : va_W) ++ ([(q3, .inl (tt 0, 5, .inl (fun _ => 0)))] : va_W) ++ ([(q4, .inl (tt 0, 5, .inl (fun _ => 0)))] : va_W)) H := hP
  have hD : va_D A (([(h0, .inr (1, [.int 1, .ref q1, .ref q2, .ref q3, .ref q4, .null]))] : va_W) ++ ([(q1, .inl (tt 0, 5, .inl (fun _ => 0)))] : va_W) ++ ([(q2, .inl (tt 0, 5, .inl (fun _ => 0)))] : va_W) ++ ([(q3, .inl (tt 0, 5, .inl (fun _ => 0)))] : va_W) ++ ([(q4, .inl (tt 0, 5, .inl (fun _ => 0)))] : va_W)) := hD
  refine lv_aload_n hx hb dX1_init_37 rfl (lv_at hl 0 rfl) ?_
  refine lv_iconst (v := 5) hx hb dX1_init_38 (by decide) ?_
  refine va_newa (atype := .int) (ty := .int) (N' := 5) (a0 := (5, .inl (fun _ => 0))) hx hb ac0 rfl hK.1 hP hD hS hA (fun _ => rfl) (by decide) (by decide) (Nat.le_of_ble_eq_true rfl) (Nat.le_of_ble_eq_true rfl) (Nat.le_of_ble_eq_true rfl) dX1_init_39 (fun q5 cq5 H hK1 hP hD hS => ?_)
  obtain rfl : cq5 = tt 0 := z_uniq hK1 0 rfl _ (fun _ h => h)
  clear hK1
  have hP : va_P D vwCl (([(h0, .inr (1, [.int 1, .ref q1, .ref q2, .ref q3, .ref q4, .null]))] : va_W) ++ ([(q1, .inl (tt 0, 5, .inl (fun _ => 0)))] : va_W) ++ ([(q2, .inl (tt 0, 5, .inl (fun _ => 0)))] : va_W) ++ ([(q3, .inl (tt 0, 5, .inl (fun _ => 0)))] : va_W) ++ ([(q4, .inl (tt 0, 5, .inl (fun _ => 0)))] : va_W) ++ ([(q5, .inl (tt 0, 5, .inl (fun _ => 0)))] : va_W)) H := hP
  have hD : va_D A (([(h0, .inr (1, [.int 1, .ref q1, .ref q2, .ref q3, .ref q4, .null]))] : va_W) ++ ([(q1, .inl (tt 0, 5, .inl (fun _ => 0)))] : va_W) ++ ([(q2, .inl (tt 0, 5, .inl (fun _ => 0)))] : va_W) ++ ([(q3, .inl (tt 0, 5, .inl (fun _ => 0)))] : va_W) ++ ([(q4, .inl (tt 0, 5, .inl (fun _ => 0)))] : va_W) ++ ([(q5, .inl (tt 0, 5, .inl (fun _ => 0)))] : va_W)) := hD
  refine va_putF (D := D) (ci := 1) (v := .ref q5) (ty := .array .int) (C := RX1) (T := TX1) (N := 6) hx hb hts hi1 tyX1 tyX1_ok nmX1 hown hK.1 hP hD hS 0 rfl rfl 5 (by decide) fl28 (fun _ h9 => h9) rfl hin rfl (by decide +kernel) rfl rfl (Nat.le_of_ble_eq_true rfl) dX1_init_41 (fun H locs hP hD hS => ?_)
  have hP : va_P D vwCl (([(h0, .inr (1, [.int 1, .ref q1, .ref q2, .ref q3, .ref q4, .ref q5]))] : va_W) ++ ([(q1, .inl (tt 0, 5, .inl (fun _ => 0)))] : va_W) ++ ([(q2, .inl (tt 0, 5, .inl (fun _ => 0)))] : va_W) ++ ([(q3, .inl (tt 0, 5, .inl (fun _ => 0)))] : va_W) ++ ([(q4, .inl (tt 0, 5, .inl (fun _ => 0)))] : va_W) ++ ([(q5, .inl (tt 0, 5, .inl (fun _ => 0)))] : va_W)) H := hP
  have hD : va_D A (([(h0, .inr (1, [.int 1, .ref q1, .ref q2, .ref q3, .ref q4, .ref q5]))] : va_W) ++ ([(q1, .inl (tt 0, 5, .inl (fun _ => 0)))] : va_W) ++ ([(q2, .inl (tt 0, 5, .inl (fun _ => 0)))] : va_W) ++ ([(q3, .inl (tt 0, 5, .inl (fun _ => 0)))] : va_W) ++ ([(q4, .inl (tt 0, 5, .inl (fun _ => 0)))] : va_W) ++ ([(q5, .inl (tt 0, 5, .inl (fun _ => 0)))] : va_W)) := hD
  refine lv_aload_n hx hb dX1_init_44 rfl (lv_at hl 0 rfl) ?_
  refine va_get (D := D) (ci := 1) (v := .ref q5) (C := RX1) (T := TX1) (N := 6) hx hb hts hi1 hown hK.1 hP 0 rfl rfl 5 (by decide) fl28 (fun _ h9 => h9) rfl dX1_init_45 ?_
  refine lv_iconst (v := 0) hx hb dX1_init_48 (by decide) ?_
  refine lv_iconst (v := 1) hx hb dX1_init_49 (by decide) ?_
  refine va_iast hx hb hK.1 hP hD hS 5 0 rfl rfl (vp_in_lit 0 5 rfl) dX1_init_50 (fun H locs hP hD hS => ?_)
  have hP : va_P D vwCl (([(h0, .inr (1, [.int 1, .ref q1, .ref q2, .ref q3, .ref q4, .ref q5]))] : va_W) ++ ([(q1, .inl (tt 0, 5, .inl (fun _ => 0)))] : va_W) ++ ([(q2, .inl (tt 0, 5, .inl (fun _ => 0)))] : va_W) ++ ([(q3, .inl (tt 0, 5, .inl (fun _ => 0)))] : va_W) ++ ([(q4, .inl (tt 0, 5, .inl (fun _ => 0)))] : va_W) ++ ([(q5, .inl (tt 0, 5, .inl (upd (fun _ => 0) (0 : Int32).toNatClampNeg 1)))] : va_W)) H := hP
  have hD : va_D A (([(h0, .inr (1, [.int 1, .ref q1, .ref q2, .ref q3, .ref q4, .ref q5]))] : va_W) ++ ([(q1, .inl (tt 0, 5, .inl (fun _ => 0)))] : va_W) ++ ([(q2, .inl (tt 0, 5, .inl (fun _ => 0)))] : va_W) ++ ([(q3, .inl (tt 0, 5, .inl (fun _ => 0)))] : va_W) ++ ([(q4, .inl (tt 0, 5, .inl (fun _ => 0)))] : va_W) ++ ([(q5, .inl (tt 0, 5, .inl (upd (fun _ => 0) (0 : Int32).toNatClampNeg 1)))] : va_W)) := hD
  have hP9 := hP.sub (ws' := zw_cl tt (zu (zu (zu (zu (zu (zu (fun _ => 0) 1 h0) 5 q1) 6 q2) 7 q3) 8 q4) 9 q5) zv0) [0, 1, 2, 3, 4, 5] rfl
  have hD9 := hD.sub (ws' := zw_cl tt (zu (zu (zu (zu (zu (zu (fun _ => 0) 1 h0) 5 q1) 6 q2) 7 q3) 8 q4) 9 q5) zv0) [0, 1, 2, 3, 4, 5] (by decide) rfl
  exact W.vret hx hb hr (fun t ht hW => ⟨⟨(zu (zu (zu (zu (zu (zu (fun _ => 0) 1 h0) 5 q1) 6 q2) 7 q3) 8 q4) 9 q5), rfl, rfl, by rw [ht]; exact hP9, hD9⟩, hS.F ht⟩) hS.2.2 dX1_init_51
set_option maxHeartbeats 8000000 in
set_option maxRecDepth 100000 in
theorem c_X4_init (l : Launch) (D : va_G) (tt : Nat → ClassId) (h0 : Nat) (sz : Nat) : Met l yX4_init wsX4_init { frames := 1, cells := 7, slots := 56, locals := 12 } (zPm [.ref h0] D tt ([(h0, .inr (4, [.int 0, .null, .null, .null, .null, .null, .null, .null]))] : va_W) sz) (zNv D h0 3 (fun kv => zw_gr tt kv zv0) (va_A ([(h0, .inr (4, [.int 0, .null, .null, .null, .null, .null, .null, .null]))] : va_W) sz)) 7 56 (va_A ([(h0, .inr (4, [.int 0, .null, .null, .null, .null, .null, .null, .null]))] : va_W) sz) := by
  refine Met.ofW (cc := cX4_init) (maxL := 1) (ret := none) (by decide) rfl ?_
  intro p e s m args below meth c s₁ B hml hv
  obtain ⟨ha, hsz, hP, hK, hD0⟩ := hv
  have hx := B.exec
  have hb := B.bytes
  have hr := B.returns
  have hts := atoms_spec (ws := wsX4_init) B.pre
  have hown : s.vm.findClass RX4 = some m.cls := findClass_of_methodNamed B.named
  have hlocks := B.notSynchronized
  have hin : meth.name = "<init>" := (name_of_methodNamed B.named B.method).1
  have hi4 : ∀ w ∈ u_ws RX4 TX4 8, w ∈ wsX4_init := fun _ h => List.mem_cons_of_mem _ (List.mem_append_right _ h)
  have ac0 := hts (.arrayClass .int) (by decide +kernel)
  have fl15 := hts (.fieldLink RX4 15 "CapStacks$Grants" "shares" "[I") (by decide +kernel)
  have fl18 := hts (.fieldLink RX4 18 "CapStacks$Grants" "strike" "[I") (by decide +kernel)
  have fl21 := hts (.fieldLink RX4 21 "CapStacks$Grants" "cliff" "[I") (by decide +kernel)
  have fl24 := hts (.fieldLink RX4 24 "CapStacks$Grants" "term" "[I") (by decide +kernel)
  have fl27 := hts (.fieldLink RX4 27 "CapStacks$Grants" "made" "[I") (by decide +kernel)
  have fl30 := hts (.fieldLink RX4 30 "CapStacks$Grants" "taken" "[I") (by decide +kernel)
  have fl9 := hts (.fieldLink RX4 9 "CapStacks$Grants" "holder" "[I") (by decide +kernel)
  subst hsz
  have hD := hD0.self (sz := s.heap.size)
  generalize hAe : va_A ([(h0, .inr (4, [.int 0, .null, .null, .null, .null, .null, .null, .null]))] : va_W) s.heap.size = A at hD ⊢
  have hA : ∀ q : Nat, s.heap.size ≤ q → A q := fun q h => by rw [← hAe]; exact Or.inr h
  have hS : va_S A s.heap s.heap [] := va_S.rf
  have hl := lv_entry ([.ref h0]) (n := 1) (Nat.le_of_ble_eq_true rfl)
  refine W.eq (g2 := F0 m 0 ((lg_sl ([.ref h0]) ++ List.replicate (1 - (lg_sl ([.ref h0])).length) Slot.unset).toArray) []) (by rw [ha]; exact lg_entry_eq _ _ _) ?_
  generalize (lg_sl ([.ref h0]) ++ List.replicate (1 - (lg_sl ([.ref h0])).length) Slot.unset).toArray = ls at hl ⊢
  have hl : lv_has ls 1 [(0, .ref h0)] := hl
  refine lv_aload_n hx hb dX4_init_0 rfl (lv_at hl 0 rfl) ?_
  refine W.objInit hx hb hown (hts (.methodLink RX4 3 objectInit) (by decide +kernel)) (hts (.instanceMethod objectInit) (by decide +kernel)) (hts (.code objectInit ⟨#[0xb1]⟩ 1 none) (by decide +kernel)) rfl (by rw [hml]; exact hl.1) rfl dX4_init_1 (Nat.le_of_ble_eq_true rfl) (Nat.le_of_ble_eq_true rfl) ?_
  refine W.eq (g2 := F0 m 4 ls []) rfl ?_
  refine lv_aload_n hx hb dX4_init_4 rfl (lv_at hl 0 rfl) ?_
  refine lv_bipush (v := 8) hx hb dX4_init_5 (by decide) ?_
  refine va_newa (atype := .int) (ty := .int) (N' := 8) (a0 := (8, .inl (fun _ => 0))) hx hb ac0 rfl hK.1 hP hD hS hA (fun _ => rfl) (by decide) (by decide) (Nat.le_of_ble_eq_true rfl) (Nat.le_of_ble_eq_true rfl) (Nat.le_of_ble_eq_true rfl) dX4_init_7 (fun q1 cq1 H hK1 hP hD hS => ?_)
  obtain rfl : cq1 = tt 0 := z_uniq hK1 0 rfl _ (fun _ h => h)
  clear hK1
  have hP : va_P D vwCl (([(h0, .inr (4, [.int 0, .null, .null, .null, .null, .null, .null, .null]))] : va_W) ++ ([(q1, .inl (tt 0, 8, .inl (fun _ => 0)))] : va_W)) H := hP
  have hD : va_D A (([(h0, .inr (4, [.int 0, .null, .null, .null, .null, .null, .null, .null]))] : va_W) ++ ([(q1, .inl (tt 0, 8, .inl (fun _ => 0)))] : va_W)) := hD
  refine va_putF (D := D) (ci := 4) (v := .ref q1) (ty := .array .int) (C := RX4) (T := TX4) (N := 8) hx hb hts hi4 tyX4 tyX4_ok nmX4 hown hK.1 hP hD hS 0 rfl rfl 1 (by decide) fl9 (fun _ h9 => h9) rfl hin rfl (by decide +kernel) rfl rfl (Nat.le_of_ble_eq_true rfl) dX4_init_9 (fun H locs hP hD hS => ?_)
  have hP : va_P D vwCl (([(h0, .inr (4, [.int 0, .ref q1, .null, .null, .null, .null, .null, .null]))] : va_W) ++ ([(q1, .inl (tt 0, 8, .inl (fun _ => 0)))] : va_W)) H := hP
  have hD : va_D A (([(h0, .inr (4, [.int 0, .ref q1, .null, .null, .null, .null, .null, .null]))] : va_W) ++ ([(q1, .inl (tt 0, 8, .inl (fun _ => 0)))] : va_W)) := hD
  refine lv_aload_n hx hb dX4_init_12 rfl (lv_at hl 0 rfl) ?_
  refine lv_bipush (v := 8) hx hb dX4_init_13 (by decide) ?_
  refine va_newa (atype := .int) (ty := .int) (N' := 8) (a0 := (8, .inl (fun _ => 0))) hx hb ac0 rfl hK.1 hP hD hS hA (fun _ => rfl) (by decide) (by decide) (Nat.le_of_ble_eq_true rfl) (Nat.le_of_ble_eq_true rfl) (Nat.le_of_ble_eq_true rfl) dX4_init_15 (fun q2 cq2 H hK1 hP hD hS => ?_)
  obtain rfl : cq2 = tt 0 := z_uniq hK1 0 rfl _ (fun _ h => h)
  clear hK1
  have hP : va_P D vwCl (([(h0, .inr (4, [.int 0, .ref q1, .null, .null, .null, .null, .null, .null]))] : va_W) ++ ([(q1, .inl (tt 0, 8, .inl (fun _ => 0)))] : va_W) ++ ([(q2, .inl (tt 0, 8, .inl (fun _ => 0)))] : va_W)) H := hP
  have hD : va_D A (([(h0, .inr (4, [.int 0, .ref q1, .null, .null, .null, .null, .null, .null]))] : va_W) ++ ([(q1, .inl (tt 0, 8, .inl (fun _ => 0)))] : va_W) ++ ([(q2, .inl (tt 0, 8, .inl (fun _ => 0)))] : va_W)) := hD
  refine va_putF (D := D) (ci := 4) (v := .ref q2) (ty := .array .int) (C := RX4) (T := TX4) (N := 8) hx hb hts hi4 tyX4 tyX4_ok nmX4 hown hK.1 hP hD hS 0 rfl rfl 2 (by decide) fl15 (fun _ h9 => h9) rfl hin rfl (by decide +kernel) rfl rfl (Nat.le_of_ble_eq_true rfl) dX4_init_17 (fun H locs hP hD hS => ?_)
  have hP : va_P D vwCl (([(h0, .inr (4, [.int 0, .ref q1, .ref q2, .null, .null, .null, .null, .null]))] : va_W) ++ ([(q1, .inl (tt 0, 8, .inl (fun _ => 0)))] : va_W) ++ ([(q2, .inl (tt 0, 8, .inl (fun _ => 0)))] : va_W)) H := hP
  have hD : va_D A (([(h0, .inr (4, [.int 0, .ref q1, .ref q2, .null, .null, .null, .null, .null]))] : va_W) ++ ([(q1, .inl (tt 0, 8, .inl (fun _ => 0)))] : va_W) ++ ([(q2, .inl (tt 0, 8, .inl (fun _ => 0)))] : va_W)) := hD
  refine lv_aload_n hx hb dX4_init_20 rfl (lv_at hl 0 rfl) ?_
  refine lv_bipush (v := 8) hx hb dX4_init_21 (by decide) ?_
  refine va_newa (atype := .int) (ty := .int) (N' := 8) (a0 := (8, .inl (fun _ => 0))) hx hb ac0 rfl hK.1 hP hD hS hA (fun _ => rfl) (by decide) (by decide) (Nat.le_of_ble_eq_true rfl) (Nat.le_of_ble_eq_true rfl) (Nat.le_of_ble_eq_true rfl) dX4_init_23 (fun q3 cq3 H hK1 hP hD hS => ?_)
  obtain rfl : cq3 = tt 0 := z_uniq hK1 0 rfl _ (fun _ h => h)
  clear hK1
  have hP : va_P D vwCl (([(h0, .inr (4, [.int 0, .ref q1, .ref q2, .null, .null, .null, .null, .null]))] : va_W) ++ ([(q1, .inl (tt 0, 8, .inl (fun _ => 0)))] : va_W) ++ ([(q2, .inl (tt 0, 8, .inl (fun _ => 0)))] : va_W) ++ ([(q3, .inl (tt 0, 8, .inl (fun _ => 0)))] : va_W)) H := hP
  have hD : va_D A (([(h0, .inr (4, [.int 0, .ref q1, .ref q2, .null, .null, .null, .null, .null]))] : va_W) ++ ([(q1, .inl (tt 0, 8, .inl (fun _ => 0)))] : va_W) ++ ([(q2, .inl (tt 0, 8, .inl (fun _ => 0)))] : va_W) ++ ([(q3, .inl (tt 0, 8, .inl (fun _ => 0)))] : va_W)) := hD
  refine va_putF (D := D) (ci := 4) (v := .ref q3) (ty := .array .int) (C := RX4) (T := TX4) (N := 8) hx hb hts hi4 tyX4 tyX4_ok nmX4 hown hK.1 hP hD hS 0 rfl rfl 3 (by decide) fl18 (fun _ h9 => h9) rfl hin rfl (by decide +kernel) rfl rfl (Nat.le_of_ble_eq_true rfl) dX4_init_25 (fun H locs hP hD hS => ?_)
  have hP : va_P D vwCl (([(h0, .inr (4, [.int 0, .ref q1, .ref q2, .ref q3, .null, .null, .null, .null]))] : va_W) ++ ([(q1, .inl (tt 0, 8, .inl (fun _ => 0)))] : va_W) ++ ([(q2, .inl (tt 0, 8, .inl (fun _ => 0)))] : va_W) ++ ([(q3, .inl (tt 0, 8, .inl (fun _ => 0)))] : va_W)) H := hP
  have hD : va_D A (([(h0, .inr (4, [.int 0, .ref q1, .ref q2, .ref q3, .null, .null, .null, .null]))] : va_W) ++ ([(q1, .inl (tt 0, 8, .inl (fun _ => 0)))] : va_W) ++ ([(q2, .inl (tt 0, 8, .inl (fun _ => 0)))] : va_W) ++ ([(q3, .inl (tt 0, 8, .inl (fun _ => 0)))] : va_W)) := hD
  refine lv_aload_n hx hb dX4_init_28 rfl (lv_at hl 0 rfl) ?_
  refine lv_bipush (v := 8) hx hb dX4_init_29 (by decide) ?_
  refine va_newa (atype := .int) (ty := .int) (N' := 8) (a0 := (8, .inl (fun _ => 0))) hx hb ac0 rfl hK.1 hP hD hS hA (fun _ => rfl) (by decide) (by decide) (Nat.le_of_ble_eq_true rfl) (Nat.le_of_ble_eq_true rfl) (Nat.le_of_ble_eq_true rfl) dX4_init_31 (fun q4 cq4 H hK1 hP hD hS => ?_)
  obtain rfl : cq4 = tt 0 := z_uniq hK1 0 rfl _ (fun _ h => h)
  clear hK1
  have hP : va_P D vwCl (([(h0, .inr (4, [.int 0, .ref q1, .ref q2, .ref q3, .null, .null, .null, .null]))] : va_W) ++ ([(q1, .inl (tt 0, 8, .inl (fun _ => 0)))] : va_W) ++ ([(q2, .inl (tt 0, 8, .inl (fun _ => 0)))] : va_W) ++ ([(q3, .inl (tt 0, 8, .inl (fun _ => 0)))] : va_W) ++ ([(q4, .inl (tt 0, 8, .inl (fun _ => 0)))] : va_W)) H := hP
  have hD : va_D A (([(h0, .inr (4, [.int 0, .ref q1, .ref q2, .ref q3, .null, .null, .null, .null]))] : va_W) ++ ([(q1, .inl (tt 0, 8, .inl (fun _ => 0)))] : va_W) ++ ([(q2, .inl (tt 0, 8, .inl (fun _ => 0)))] : va_W) ++ ([(q3, .inl (tt 0, 8, .inl (fun _ => 0)))] : va_W) ++ ([(q4, .inl (tt 0, 8, .inl (fun _ => 0)))] : va_W)) := hD
  refine va_putF (D := D) (ci := 4) (v := .ref q4) (ty := .array .int) (C := RX4) (T := TX4) (N := 8) hx hb hts hi4 tyX4 tyX4_ok nmX4 hown hK.1 hP hD hS 0 rfl rfl 4 (by decide) fl21 (fun _ h9 => h9) rfl hin rfl (by decide +kernel) rfl rfl (Nat.le_of_ble_eq_true rfl) dX4_init_33 (fun H locs hP hD hS => ?_)
  have hP : va_P D vwCl (([(h0, .inr (4, [.int 0, .ref q1, .ref q2, .ref q3, .ref q4, .null, .null, .null]))] : va_W) ++ ([(q1, .inl (tt 0, 8, .inl (fun _ => 0)))] : va_W) ++ ([(q2, .inl (tt 0, 8, .inl (fun _ => 0)))] : va_W) ++ ([(q3, .inl (tt 0, 8, .inl (fun _ => 0)))] : va_W) ++ ([(q4, .inl (tt 0, 8, .inl (fun _ => 0)))] : va_W)) H := hP
  have hD : va_D A (([(h0, .inr (4, [.int 0, .ref q1, .ref q2, .ref q3, .ref q4, .null, .null, .null]))] : va_W) ++ ([(q1, .inl (tt 0, 8, .inl (fun _ => 0)))] : va_W) ++ ([(q2, .inl (tt 0, 8, .inl (fun _ => 0)))] : va_W) ++ ([(q3, .inl (tt 0, 8, .inl (fun _ => 0)))] : va_W) ++ ([(q4, .inl (tt 0, 8, .inl (fun _ => 0)))] : va_W)) := hD
  refine lv_aload_n hx hb dX4_init_36 rfl (lv_at hl 0 rfl) ?_
  refine lv_bipush (v := 8) hx hb dX4_init_37 (by decide) ?_
  refine va_newa (atype := .int) (ty := .int) (N' := 8) (a0 := (8, .inl (fun _ => 0))) hx hb ac0 rfl hK.1 hP hD hS hA (fun _ => rfl) (by decide) (by decide) (Nat.le_of_ble_eq_true rfl) (Nat.le_of_ble_eq_true rfl) (Nat.le_of_ble_eq_true rfl) dX4_init_39 (fun q5 cq5 H hK1 hP hD hS => ?_)
  obtain rfl : cq5 = tt 0 := z_uniq hK1 0 rfl _ (fun _ h => h)
  clear hK1
  have hP : va_P D vwCl (([(h0, .inr (4, [.int 0, .ref q1, .ref q2, .ref q3, .ref q4, .null, .null, .null]))] : va_W) ++ ([(q1, .inl (tt 0, 8, .inl (fun _ => 0)))] : va_W) ++ ([(q2, .inl (tt 0, 8, .inl (fun _ => 0)))] : va_W) ++ ([(q3, .inl (tt 0, 8, .inl (fun _ => 0)))] : va_W) ++ ([(q4, .inl (tt 0, 8, .inl (fun _ => 0)))] : va_W) ++ ([(q5, .inl (tt 0, 8, .inl (fun _ => 0)))] : va_W)) H := hP
  have hD : va_D A (([(h0, .inr (4, [.int 0, .ref q1, .ref q2, .ref q3, .ref q4, .null, .null, .null]))] : va_W) ++ ([(q1, .inl (tt 0, 8, .inl (fun _ => 0)))] : va_W) ++ ([(q2, .inl (tt 0, 8, .inl (fun _ => 0)))] : va_W) ++ ([(q3, .inl (tt 0, 8, .inl (fun _ => 0)))] : va_W) ++ ([(q4, .inl (tt 0, 8, .inl (fun _ => 0)))] : va_W) ++ ([(q5, .inl (tt 0, 8, .inl (fun _ => 0)))] : va_W)) := hD
  refine va_putF (D := D) (ci := 4) (v := .ref q5) (ty := .array .int) (C := RX4) (T := TX4) (N := 8) hx hb hts hi4 tyX4 tyX4_ok nmX4 hown hK.1 hP hD hS 0 rfl rfl 5 (by decide) fl24 (fun _ h9 => h9) rfl hin rfl (by decide +kernel) rfl rfl (Nat.le_of_ble_eq_true rfl) dX4_init_41 (fun H locs hP hD hS => ?_)
  have hP : va_P D vwCl (([(h0, .inr (4, [.int 0, .ref q1, .ref q2, .ref q3, .ref q4, .ref q5, .null, .null]))] : va_W) ++ ([(q1, .inl (tt 0, 8, .inl (fun _ => 0)))] : va_W) ++ ([(q2, .inl (tt 0, 8, .inl (fun _ => 0)))] : va_W) ++ ([(q3, .inl (tt 0, 8, .inl (fun _ => 0)))] : va_W) ++ ([(q4, .inl (tt 0, 8, .inl (fun _ => 0)))] : va_W) ++ ([(q5, .inl (tt 0, 8, .inl (fun _ => 0)))] : va_W)) H := hP
  have hD : va_D A (([(h0, .inr (4, [.int 0, .ref q1, .ref q2, .ref q3, .ref q4, .ref q5, .null, .null]))] : va_W) ++ ([(q1, .inl (tt 0, 8, .inl (fun _ => 0)))] : va_W) ++ ([(q2, .inl (tt 0, 8, .inl (fun _ => 0)))] : va_W) ++ ([(q3, .inl (tt 0, 8, .inl (fun _ => 0)))] : va_W) ++ ([(q4, .inl (tt 0, 8, .inl (fun _ => 0)))] : va_W) ++ ([(q5, .inl (tt 0, 8, .inl (fun _ => 0)))] : va_W)) := hD
  refine lv_aload_n hx hb dX4_init_44 rfl (lv_at hl 0 rfl) ?_
  refine lv_bipush (v := 8) hx hb dX4_init_45 (by decide) ?_
  refine va_newa (atype := .int) (ty := .int) (N' := 8) (a0 := (8, .inl (fun _ => 0))) hx hb ac0 rfl hK.1 hP hD hS hA (fun _ => rfl) (by decide) (by decide) (Nat.le_of_ble_eq_true rfl) (Nat.le_of_ble_eq_true rfl) (Nat.le_of_ble_eq_true rfl) dX4_init_47 (fun q6 cq6 H hK1 hP hD hS => ?_)
  obtain rfl : cq6 = tt 0 := z_uniq hK1 0 rfl _ (fun _ h => h)
  clear hK1
  have hP : va_P D vwCl (([(h0, .inr (4, [.int 0, .ref q1, .ref q2, .ref q3, .ref q4, .ref q5, .null, .null]))] : va_W) ++ ([(q1, .inl (tt 0, 8, .inl (fun _ => 0)))] : va_W) ++ ([(q2, .inl (tt 0, 8, .inl (fun _ => 0)))] : va_W) ++ ([(q3, .inl (tt 0, 8, .inl (fun _ => 0)))] : va_W) ++ ([(q4, .inl (tt 0, 8, .inl (fun _ => 0)))] : va_W) ++ ([(q5, .inl (tt 0, 8, .inl (fun _ => 0)))] : va_W) ++ ([(q6, .inl (tt 0, 8, .inl (fun _ => 0)))] : va_W)) H := hP
  have hD : va_D A (([(h0, .inr (4, [.int 0, .ref q1, .ref q2, .ref q3, .ref q4, .ref q5, .null, .null]))] : va_W) ++ ([(q1, .inl (tt 0, 8, .inl (fun _ => 0)))] : va_W) ++ ([(q2, .inl (tt 0, 8, .inl (fun _ => 0)))] : va_W) ++ ([(q3, .inl (tt 0, 8, .inl (fun _ => 0)))] : va_W) ++ ([(q4, .inl (tt 0, 8, .inl (fun _ => 0)))] : va_W) ++ ([(q5, .inl (tt 0, 8, .inl (fun _ => 0)))] : va_W) ++ ([(q6, .inl (tt 0, 8, .inl (fun _ => 0)))] : va_W)) := hD
  refine va_putF (D := D) (ci := 4) (v := .ref q6) (ty := .array .int) (C := RX4) (T := TX4) (N := 8) hx hb hts hi4 tyX4 tyX4_ok nmX4 hown hK.1 hP hD hS 0 rfl rfl 6 (by decide) fl27 (fun _ h9 => h9) rfl hin rfl (by decide +kernel) rfl rfl (Nat.le_of_ble_eq_true rfl) dX4_init_49 (fun H locs hP hD hS => ?_)
  have hP : va_P D vwCl (([(h0, .inr (4, [.int 0, .ref q1, .ref q2, .ref q3, .ref q4, .ref q5, .ref q6, .null]))] : va_W) ++ ([(q1, .inl (tt 0, 8, .inl (fun _ => 0)))] : va_W) ++ ([(q2, .inl (tt 0, 8, .inl (fun _ => 0)))] : va_W) ++ ([(q3, .inl (tt 0, 8, .inl (fun _ => 0)))] : va_W) ++ ([(q4, .inl (tt 0, 8, .inl (fun _ => 0)))] : va_W) ++ ([(q5, .inl (tt 0, 8, .inl (fun _ => 0)))] : va_W) ++ ([(q6, .inl (tt 0, 8, .inl (fun _ => 0)))] : va_W)) H := hP
  have hD : va_D A (([(h0, .inr (4, [.int 0, .ref q1, .ref q2, .ref q3, .ref q4, .ref q5, .ref q6, .null]))] : va_W) ++ ([(q1, .inl (tt 0, 8, .inl (fun _ => 0)))] : va_W) ++ ([(q2, .inl (tt 0, 8, .inl (fun _ => 0)))] : va_W) ++ ([(q3, .inl (tt 0, 8, .inl (fun _ => 0)))] : va_W) ++ ([(q4, .inl (tt 0, 8, .inl (fun _ => 0)))] : va_W) ++ ([(q5, .inl (tt 0, 8, .inl (fun _ => 0)))] : va_W) ++ ([(q6, .inl (tt 0, 8, .inl (fun _ => 0)))] : va_W)) := hD
  refine lv_aload_n hx hb dX4_init_52 rfl (lv_at hl 0 rfl) ?_
  refine lv_bipush (v := 8) hx hb dX4_init_53 (by decide) ?_
  refine va_newa (atype := .int) (ty := .int) (N' := 8) (a0 := (8, .inl (fun _ => 0))) hx hb ac0 rfl hK.1 hP hD hS hA (fun _ => rfl) (by decide) (by decide) (Nat.le_of_ble_eq_true rfl) (Nat.le_of_ble_eq_true rfl) (Nat.le_of_ble_eq_true rfl) dX4_init_55 (fun q7 cq7 H hK1 hP hD hS => ?_)
  obtain rfl : cq7 = tt 0 := z_uniq hK1 0 rfl _ (fun _ h => h)
  clear hK1
  have hP : va_P D vwCl (([(h0, .inr (4, [.int 0, .ref q1, .ref q2, .ref q3, .ref q4, .ref q5, .ref q6, .null]))] : va_W) ++ ([(q1, .inl (tt 0, 8, .inl (fun _ => 0)))] : va_W) ++ ([(q2, .inl (tt 0, 8, .inl (fun _ => 0)))] : va_W) ++ ([(q3, .inl (tt 0, 8, .inl (fun _ => 0)))] : va_W) ++ ([(q4, .inl (tt 0, 8, .inl (fun _ => 0)))] : va_W) ++ ([(q5, .inl (tt 0, 8, .inl (fun _ => 0)))] : va_W) ++ ([(q6, .inl (tt 0, 8, .inl (fun _ => 0)))] : va_W) ++ ([(q7, .inl (tt 0, 8, .inl (fun _ => 0)))] : va_W)) H := hP
  have hD : va_D A (([(h0, .inr (4, [.int 0, .ref q1, .ref q2, .ref q3, .ref q4, .ref q5, .ref q6, .null]))] : va_W) ++ ([(q1, .inl (tt 0, 8, .inl (fun _ => 0)))] : va_W) ++ ([(q2, .inl (tt 0, 8, .inl (fun _ => 0)))] : va_W) ++ ([(q3, .inl (tt 0, 8, .inl (fun _ => 0)))] : va_W) ++ ([(q4, .inl (tt 0, 8, .inl (fun _ => 0)))] : va_W) ++ ([(q5, .inl (tt 0, 8, .inl (fun _ => 0)))] : va_W) ++ ([(q6, .inl (tt 0, 8, .inl (fun _ => 0)))] : va_W) ++ ([(q7, .inl (tt 0, 8, .inl (fun _ => 0)))] : va_W)) := hD
  refine va_putF (D := D) (ci := 4) (v := .ref q7) (ty := .array .int) (C := RX4) (T := TX4) (N := 8) hx hb hts hi4 tyX4 tyX4_ok nmX4 hown hK.1 hP hD hS 0 rfl rfl 7 (by decide) fl30 (fun _ h9 => h9) rfl hin rfl (by decide +kernel) rfl rfl (Nat.le_of_ble_eq_true rfl) dX4_init_57 (fun H locs hP hD hS => ?_)
  have hP : va_P D vwCl (([(h0, .inr (4, [.int 0, .ref q1, .ref q2, .ref q3, .ref q4, .ref q5, .ref q6, .ref q7]))] : va_W) ++ ([(q1, .inl (tt 0, 8, .inl (fun _ => 0)))] : va_W) ++ ([(q2, .inl (tt 0, 8, .inl (fun _ => 0)))] : va_W) ++ ([(q3, .inl (tt 0, 8, .inl (fun _ => 0)))] : va_W) ++ ([(q4, .inl (tt 0, 8, .inl (fun _ => 0)))] : va_W) ++ ([(q5, .inl (tt 0, 8, .inl (fun _ => 0)))] : va_W) ++ ([(q6, .inl (tt 0, 8, .inl (fun _ => 0)))] : va_W) ++ ([(q7, .inl (tt 0, 8, .inl (fun _ => 0)))] : va_W)) H := hP
  have hD : va_D A (([(h0, .inr (4, [.int 0, .ref q1, .ref q2, .ref q3, .ref q4, .ref q5, .ref q6, .ref q7]))] : va_W) ++ ([(q1, .inl (tt 0, 8, .inl (fun _ => 0)))] : va_W) ++ ([(q2, .inl (tt 0, 8, .inl (fun _ => 0)))] : va_W) ++ ([(q3, .inl (tt 0, 8, .inl (fun _ => 0)))] : va_W) ++ ([(q4, .inl (tt 0, 8, .inl (fun _ => 0)))] : va_W) ++ ([(q5, .inl (tt 0, 8, .inl (fun _ => 0)))] : va_W) ++ ([(q6, .inl (tt 0, 8, .inl (fun _ => 0)))] : va_W) ++ ([(q7, .inl (tt 0, 8, .inl (fun _ => 0)))] : va_W)) := hD
  have hP9 := hP.sub (ws' := zw_gr tt (zu (zu (zu (zu (zu (zu (zu (zu (fun _ => 0) 3 h0) 14 q1) 15 q2) 16 q3) 17 q4) 18 q5) 19 q6) 20 q7) zv0) [0, 1, 2, 3, 4, 5, 6, 7] rfl
  have hD9 := hD.sub (ws' := zw_gr tt (zu (zu (zu (zu (zu (zu (zu (zu (fun _ => 0) 3 h0) 14 q1) 15 q2) 16 q3) 17 q4) 18 q5) 19 q6) 20 q7) zv0) [0, 1, 2, 3, 4, 5, 6, 7] (by decide) rfl
  exact W.vret hx hb hr (fun t ht hW => ⟨⟨(zu (zu (zu (zu (zu (zu (zu (zu (fun _ => 0) 3 h0) 14 q1) 15 q2) 16 q3) 17 q4) 18 q5) 19 q6) 20 q7), rfl, rfl, by rw [ht]; exact hP9, hD9⟩, hS.F ht⟩) hS.2.2 dX4_init_60
set_option maxHeartbeats 8000000 in
set_option maxRecDepth 100000 in
theorem c_X7_init (l : Launch) (D : va_G) (tt : Nat → ClassId) (h0 : Nat) (sz : Nat) : Met l yX7_init wsX7_init { frames := 1, cells := 2, slots := 16, locals := 12 } (zPm [.ref h0] D tt ([(h0, .inr (7, [.int 0, .int 0, .int 0, .int 0, .null, .null]))] : va_W) sz) (zNv D h0 4 (fun kv => zw_ro tt kv zv0) (va_A ([(h0, .inr (7, [.int 0, .int 0, .int 0, .int 0, .null, .null]))] : va_W) sz)) 2 16 (va_A ([(h0, .inr (7, [.int 0, .int 0, .int 0, .int 0, .null, .null]))] : va_W) sz) := by
  refine Met.ofW (cc := cX7_init) (maxL := 1) (ret := none) (by decide) rfl ?_
  intro p e s m args below meth c s₁ B hml hv
  obtain ⟨ha, hsz, hP, hK, hD0⟩ := hv
  have hx := B.exec
  have hb := B.bytes
  have hr := B.returns
  have hts := atoms_spec (ws := wsX7_init) B.pre
  have hown : s.vm.findClass RX7 = some m.cls := findClass_of_methodNamed B.named
  have hlocks := B.notSynchronized
  have hin : meth.name = "<init>" := (name_of_methodNamed B.named B.method).1
  have hi7 : ∀ w ∈ u_ws RX7 TX7 6, w ∈ wsX7_init := fun _ h => List.mem_cons_of_mem _ (List.mem_append_right _ h)
  have ac0 := hts (.arrayClass .int) (by decide +kernel)
  have fl15 := hts (.fieldLink RX7 15 "CapStacks$Round" "takenUp" "[I") (by decide +kernel)
  have fl9 := hts (.fieldLink RX7 9 "CapStacks$Round" "right" "[I") (by decide +kernel)
  subst hsz
  have hD := hD0.self (sz := s.heap.size)
  generalize hAe : va_A ([(h0, .inr (7, [.int 0, .int 0, .int 0, .int 0, .null, .null]))] : va_W) s.heap.size = A at hD ⊢
  have hA : ∀ q : Nat, s.heap.size ≤ q → A q := fun q h => by rw [← hAe]; exact Or.inr h
  have hS : va_S A s.heap s.heap [] := va_S.rf
  have hl := lv_entry ([.ref h0]) (n := 1) (Nat.le_of_ble_eq_true rfl)
  refine W.eq (g2 := F0 m 0 ((lg_sl ([.ref h0]) ++ List.replicate (1 - (lg_sl ([.ref h0])).length) Slot.unset).toArray) []) (by rw [ha]; exact lg_entry_eq _ _ _) ?_
  generalize (lg_sl ([.ref h0]) ++ List.replicate (1 - (lg_sl ([.ref h0])).length) Slot.unset).toArray = ls at hl ⊢
  have hl : lv_has ls 1 [(0, .ref h0)] := hl
  refine lv_aload_n hx hb dX7_init_0 rfl (lv_at hl 0 rfl) ?_
  refine W.objInit hx hb hown (hts (.methodLink RX7 3 objectInit) (by decide +kernel)) (hts (.instanceMethod objectInit) (by decide +kernel)) (hts (.code objectInit ⟨#[0xb1]⟩ 1 none) (by decide +kernel)) rfl (by rw [hml]; exact hl.1) rfl dX7_init_1 (Nat.le_of_ble_eq_true rfl) (Nat.le_of_ble_eq_true rfl) ?_
  refine W.eq (g2 := F0 m 4 ls []) rfl ?_
  refine lv_aload_n hx hb dX7_init_4 rfl (lv_at hl 0 rfl) ?_
  refine lv_bipush (v := 8) hx hb dX7_init_5 (by decide) ?_
  refine va_newa (atype := .int) (ty := .int) (N' := 8) (a0 := (8, .inl (fun _ => 0))) hx hb ac0 rfl hK.1 hP hD hS hA (fun _ => rfl) (by decide) (by decide) (Nat.le_of_ble_eq_true rfl) (Nat.le_of_ble_eq_true rfl) (Nat.le_of_ble_eq_true rfl) dX7_init_7 (fun q1 cq1 H hK1 hP hD hS => ?_)
  obtain rfl : cq1 = tt 0 := z_uniq hK1 0 rfl _ (fun _ h => h)
  clear hK1
  have hP : va_P D vwCl (([(h0, .inr (7, [.int 0, .int 0, .int 0, .int 0, .null, .null]))] : va_W) ++ ([(q1, .inl (tt 0, 8, .inl (fun _ => 0)))] : va_W)) H := hP
  have hD : va_D A (([(h0, .inr (7, [.int 0, .int 0, .int 0, .int 0, .null, .null]))] : va_W) ++ ([(q1, .inl (tt 0, 8, .inl (fun _ => 0)))] : va_W)) := hD
  refine va_putF (D := D) (ci := 7) (v := .ref q1) (ty := .array .int) (C := RX7) (T := TX7) (N := 6) hx hb hts hi7 tyX7 tyX7_ok nmX7 hown hK.1 hP hD hS 0 rfl rfl 4 (by decide) fl9 (fun _ h9 => h9) rfl hin rfl (by decide +kernel) rfl rfl (Nat.le_of_ble_eq_true rfl) dX7_init_9 (fun H locs hP hD hS => ?_)
  have hP : va_P D vwCl (([(h0, .inr (7, [.int 0, .int 0, .int 0, .int 0, .ref q1, .null]))] : va_W) ++ ([(q1, .inl (tt 0, 8, .inl (fun _ => 0)))] : va_W)) H := hP
  have hD : va_D A (([(h0, .inr (7, [.int 0, .int 0, .int 0, .int 0, .ref q1, .null]))] : va_W) ++ ([(q1, .inl (tt 0, 8, .inl (fun _ => 0)))] : va_W)) := hD
  refine lv_aload_n hx hb dX7_init_12 rfl (lv_at hl 0 rfl) ?_
  refine lv_bipush (v := 8) hx hb dX7_init_13 (by decide) ?_
  refine va_newa (atype := .int) (ty := .int) (N' := 8) (a0 := (8, .inl (fun _ => 0))) hx hb ac0 rfl hK.1 hP hD hS hA (fun _ => rfl) (by decide) (by decide) (Nat.le_of_ble_eq_true rfl) (Nat.le_of_ble_eq_true rfl) (Nat.le_of_ble_eq_true rfl) dX7_init_15 (fun q2 cq2 H hK1 hP hD hS => ?_)
  obtain rfl : cq2 = tt 0 := z_uniq hK1 0 rfl _ (fun _ h => h)
  clear hK1
  have hP : va_P D vwCl (([(h0, .inr (7, [.int 0, .int 0, .int 0, .int 0, .ref q1, .null]))] : va_W) ++ ([(q1, .inl (tt 0, 8, .inl (fun _ => 0)))] : va_W) ++ ([(q2, .inl (tt 0, 8, .inl (fun _ => 0)))] : va_W)) H := hP
  have hD : va_D A (([(h0, .inr (7, [.int 0, .int 0, .int 0, .int 0, .ref q1, .null]))] : va_W) ++ ([(q1, .inl (tt 0, 8, .inl (fun _ => 0)))] : va_W) ++ ([(q2, .inl (tt 0, 8, .inl (fun _ => 0)))] : va_W)) := hD
  refine va_putF (D := D) (ci := 7) (v := .ref q2) (ty := .array .int) (C := RX7) (T := TX7) (N := 6) hx hb hts hi7 tyX7 tyX7_ok nmX7 hown hK.1 hP hD hS 0 rfl rfl 5 (by decide) fl15 (fun _ h9 => h9) rfl hin rfl (by decide +kernel) rfl rfl (Nat.le_of_ble_eq_true rfl) dX7_init_17 (fun H locs hP hD hS => ?_)
  have hP : va_P D vwCl (([(h0, .inr (7, [.int 0, .int 0, .int 0, .int 0, .ref q1, .ref q2]))] : va_W) ++ ([(q1, .inl (tt 0, 8, .inl (fun _ => 0)))] : va_W) ++ ([(q2, .inl (tt 0, 8, .inl (fun _ => 0)))] : va_W)) H := hP
  have hD : va_D A (([(h0, .inr (7, [.int 0, .int 0, .int 0, .int 0, .ref q1, .ref q2]))] : va_W) ++ ([(q1, .inl (tt 0, 8, .inl (fun _ => 0)))] : va_W) ++ ([(q2, .inl (tt 0, 8, .inl (fun _ => 0)))] : va_W)) := hD
  have hP9 := hP.sub (ws' := zw_ro tt (zu (zu (zu (fun _ => 0) 4 h0) 21 q1) 22 q2) zv0) [0, 1, 2] rfl
  have hD9 := hD.sub (ws' := zw_ro tt (zu (zu (zu (fun _ => 0) 4 h0) 21 q1) 22 q2) zv0) [0, 1, 2] (by decide) rfl
  exact W.vret hx hb hr (fun t ht hW => ⟨⟨(zu (zu (zu (fun _ => 0) 4 h0) 21 q1) 22 q2), rfl, rfl, by rw [ht]; exact hP9, hD9⟩, hS.F ht⟩) hS.2.2 dX7_init_20
set_option maxHeartbeats 8000000 in
set_option maxRecDepth 100000 in
theorem c_X3_init (l : Launch) (D : va_G) (tt : Nat → ClassId) (h0 : Nat) (sz : Nat) : Met l yX3_init wsX3_init { frames := 1, cells := 6, slots := 30, locals := 12 } (zPm [.ref h0] D tt ([(h0, .inr (3, [.int 0, .null, .int 0, .null, .null, .null, .null, .null]))] : va_W) sz) (zNv D h0 0 (fun kv => zw_ex tt kv (fun _ _ => 0)) (va_A ([(h0, .inr (3, [.int 0, .null, .int 0, .null, .null, .null, .null, .null]))] : va_W) sz)) 6 30 (va_A ([(h0, .inr (3, [.int 0, .null, .int 0, .null, .null, .null, .null, .null]))] : va_W) sz) := by
  refine Met.ofW (cc := cX3_init) (maxL := 1) (ret := none) (by decide) rfl ?_
  intro p e s m args below meth c s₁ B hml hv
  obtain ⟨ha, hsz, hP, hK, hD0⟩ := hv
  have hx := B.exec
  have hb := B.bytes
  have hr := B.returns
  have hts := atoms_spec (ws := wsX3_init) B.pre
  have hown : s.vm.findClass RX3 = some m.cls := findClass_of_methodNamed B.named
  have hlocks := B.notSynchronized
  have hin : meth.name = "<init>" := (name_of_methodNamed B.named B.method).1
  have hi3 : ∀ w ∈ u_ws RX3 TX3 8, w ∈ wsX3_init := fun _ h => List.mem_cons_of_mem _ (List.mem_append_right _ h)
  have ac0 := hts (.arrayClass .int) (by decide +kernel)
  have fl15 := hts (.fieldLink RX3 15 "CapStacks$Exit" "shares" "[I") (by decide +kernel)
  have fl18 := hts (.fieldLink RX3 18 "CapStacks$Exit" "preference" "[I") (by decide +kernel)
  have fl21 := hts (.fieldLink RX3 21 "CapStacks$Exit" "common" "[I") (by decide +kernel)
  have fl24 := hts (.fieldLink RX3 24 "CapStacks$Exit" "rank" "[I") (by decide +kernel)
  have fl27 := hts (.fieldLink RX3 27 "CapStacks$Exit" "kind" "[I") (by decide +kernel)
  have fl9 := hts (.fieldLink RX3 9 "CapStacks$Exit" "gain" "[I") (by decide +kernel)
  subst hsz
  have hD := hD0.self (sz := s.heap.size)
  generalize hAe : va_A ([(h0, .inr (3, [.int 0, .null, .int 0, .null, .null, .null, .null, .null]))] : va_W) s.heap.size = A at hD ⊢
  have hA : ∀ q : Nat, s.heap.size ≤ q → A q := fun q h => by rw [← hAe]; exact Or.inr h
  have hS : va_S A s.heap s.heap [] := va_S.rf
  have hl := lv_entry ([.ref h0]) (n := 1) (Nat.le_of_ble_eq_true rfl)
  refine W.eq (g2 := F0 m 0 ((lg_sl ([.ref h0]) ++ List.replicate (1 - (lg_sl ([.ref h0])).length) Slot.unset).toArray) []) (by rw [ha]; exact lg_entry_eq _ _ _) ?_
  generalize (lg_sl ([.ref h0]) ++ List.replicate (1 - (lg_sl ([.ref h0])).length) Slot.unset).toArray = ls at hl ⊢
  have hl : lv_has ls 1 [(0, .ref h0)] := hl
  refine lv_aload_n hx hb dX3_init_0 rfl (lv_at hl 0 rfl) ?_
  refine W.objInit hx hb hown (hts (.methodLink RX3 3 objectInit) (by decide +kernel)) (hts (.instanceMethod objectInit) (by decide +kernel)) (hts (.code objectInit ⟨#[0xb1]⟩ 1 none) (by decide +kernel)) rfl (by rw [hml]; exact hl.1) rfl dX3_init_1 (Nat.le_of_ble_eq_true rfl) (Nat.le_of_ble_eq_true rfl) ?_
  refine W.eq (g2 := F0 m 4 ls []) rfl ?_
  refine lv_aload_n hx hb dX3_init_4 rfl (lv_at hl 0 rfl) ?_
  refine lv_iconst (v := 5) hx hb dX3_init_5 (by decide) ?_
  refine va_newa (atype := .int) (ty := .int) (N' := 5) (a0 := (5, .inl (fun _ => 0))) hx hb ac0 rfl hK.1 hP hD hS hA (fun _ => rfl) (by decide) (by decide) (Nat.le_of_ble_eq_true rfl) (Nat.le_of_ble_eq_true rfl) (Nat.le_of_ble_eq_true rfl) dX3_init_6 (fun q1 cq1 H hK1 hP hD hS => ?_)
  obtain rfl : cq1 = tt 0 := z_uniq hK1 0 rfl _ (fun _ h => h)
  clear hK1
  have hP : va_P D vwCl (([(h0, .inr (3, [.int 0, .null, .int 0, .null, .null, .null, .null, .null]))] : va_W) ++ ([(q1, .inl (tt 0, 5, .inl (fun _ => 0)))] : va_W)) H := hP
  have hD : va_D A (([(h0, .inr (3, [.int 0, .null, .int 0, .null, .null, .null, .null, .null]))] : va_W) ++ ([(q1, .inl (tt 0, 5, .inl (fun _ => 0)))] : va_W)) := hD
  refine va_putF (D := D) (ci := 3) (v := .ref q1) (ty := .array .int) (C := RX3) (T := TX3) (N := 8) hx hb hts hi3 tyX3 tyX3_ok nmX3 hown hK.1 hP hD hS 0 rfl rfl 1 (by decide) fl9 (fun _ h9 => h9) rfl hin rfl (by decide +kernel) rfl rfl (Nat.le_of_ble_eq_true rfl) dX3_init_8 (fun H locs hP hD hS => ?_)
  have hP : va_P D vwCl (([(h0, .inr (3, [.int 0, .ref q1, .int 0, .null, .null, .null, .null, .null]))] : va_W) ++ ([(q1, .inl (tt 0, 5, .inl (fun _ => 0)))] : va_W)) H := hP
  have hD : va_D A (([(h0, .inr (3, [.int 0, .ref q1, .int 0, .null, .null, .null, .null, .null]))] : va_W) ++ ([(q1, .inl (tt 0, 5, .inl (fun _ => 0)))] : va_W)) := hD
  refine lv_aload_n hx hb dX3_init_11 rfl (lv_at hl 0 rfl) ?_
  refine lv_iconst (v := 5) hx hb dX3_init_12 (by decide) ?_
  refine va_newa (atype := .int) (ty := .int) (N' := 5) (a0 := (5, .inl (fun _ => 0))) hx hb ac0 rfl hK.1 hP hD hS hA (fun _ => rfl) (by decide) (by decide) (Nat.le_of_ble_eq_true rfl) (Nat.le_of_ble_eq_true rfl) (Nat.le_of_ble_eq_true rfl) dX3_init_13 (fun q2 cq2 H hK1 hP hD hS => ?_)
  obtain rfl : cq2 = tt 0 := z_uniq hK1 0 rfl _ (fun _ h => h)
  clear hK1
  have hP : va_P D vwCl (([(h0, .inr (3, [.int 0, .ref q1, .int 0, .null, .null, .null, .null, .null]))] : va_W) ++ ([(q1, .inl (tt 0, 5, .inl (fun _ => 0)))] : va_W) ++ ([(q2, .inl (tt 0, 5, .inl (fun _ => 0)))] : va_W)) H := hP
  have hD : va_D A (([(h0, .inr (3, [.int 0, .ref q1, .int 0, .null, .null, .null, .null, .null]))] : va_W) ++ ([(q1, .inl (tt 0, 5, .inl (fun _ => 0)))] : va_W) ++ ([(q2, .inl (tt 0, 5, .inl (fun _ => 0)))] : va_W)) := hD
  refine va_putF (D := D) (ci := 3) (v := .ref q2) (ty := .array .int) (C := RX3) (T := TX3) (N := 8) hx hb hts hi3 tyX3 tyX3_ok nmX3 hown hK.1 hP hD hS 0 rfl rfl 3 (by decide) fl15 (fun _ h9 => h9) rfl hin rfl (by decide +kernel) rfl rfl (Nat.le_of_ble_eq_true rfl) dX3_init_15 (fun H locs hP hD hS => ?_)
  have hP : va_P D vwCl (([(h0, .inr (3, [.int 0, .ref q1, .int 0, .ref q2, .null, .null, .null, .null]))] : va_W) ++ ([(q1, .inl (tt 0, 5, .inl (fun _ => 0)))] : va_W) ++ ([(q2, .inl (tt 0, 5, .inl (fun _ => 0)))] : va_W)) H := hP
  have hD : va_D A (([(h0, .inr (3, [.int 0, .ref q1, .int 0, .ref q2, .null, .null, .null, .null]))] : va_W) ++ ([(q1, .inl (tt 0, 5, .inl (fun _ => 0)))] : va_W) ++ ([(q2, .inl (tt 0, 5, .inl (fun _ => 0)))] : va_W)) := hD
  refine lv_aload_n hx hb dX3_init_18 rfl (lv_at hl 0 rfl) ?_
  refine lv_iconst (v := 5) hx hb dX3_init_19 (by decide) ?_
  refine va_newa (atype := .int) (ty := .int) (N' := 5) (a0 := (5, .inl (fun _ => 0))) hx hb ac0 rfl hK.1 hP hD hS hA (fun _ => rfl) (by decide) (by decide) (Nat.le_of_ble_eq_true rfl) (Nat.le_of_ble_eq_true rfl) (Nat.le_of_ble_eq_true rfl) dX3_init_20 (fun q3 cq3 H hK1 hP hD hS => ?_)
  obtain rfl : cq3 = tt 0 := z_uniq hK1 0 rfl _ (fun _ h => h)
  clear hK1
  have hP : va_P D vwCl (([(h0, .inr (3, [.int 0, .ref q1, .int 0, .ref q2, .null, .null, .null, .null]))] : va_W) ++ ([(q1, .inl (tt 0, 5, .inl (fun _ => 0)))] : va_W) ++ ([(q2, .inl (tt 0, 5, .inl (fun _ => 0)))] : va_W) ++ ([(q3, .inl (tt 0, 5, .inl (fun _ => 0)))] : va_W)) H := hP
  have hD : va_D A (([(h0, .inr (3, [.int 0, .ref q1, .int 0, .ref q2, .null, .null, .null, .null]))] : va_W) ++ ([(q1, .inl (tt 0, 5, .inl (fun _ => 0)))] : va_W) ++ ([(q2, .inl (tt 0, 5, .inl (fun _ => 0)))] : va_W) ++ ([(q3, .inl (tt 0, 5, .inl (fun _ => 0)))] : va_W)) := hD
  refine va_putF (D := D) (ci := 3) (v := .ref q3) (ty := .array .int) (C := RX3) (T := TX3) (N := 8) hx hb hts hi3 tyX3 tyX3_ok nmX3 hown hK.1 hP hD hS 0 rfl rfl 4 (by decide) fl18 (fun _ h9 => h9) rfl hin rfl (by decide +kernel) rfl rfl (Nat.le_of_ble_eq_true rfl) dX3_init_22 (fun H locs hP hD hS => ?_)
  have hP : va_P D vwCl (([(h0, .inr (3, [.int 0, .ref q1, .int 0, .ref q2, .ref q3, .null, .null, .null]))] : va_W) ++ ([(q1, .inl (tt 0, 5, .inl (fun _ => 0)))] : va_W) ++ ([(q2, .inl (tt 0, 5, .inl (fun _ => 0)))] : va_W) ++ ([(q3, .inl (tt 0, 5, .inl (fun _ => 0)))] : va_W)) H := hP
  have hD : va_D A (([(h0, .inr (3, [.int 0, .ref q1, .int 0, .ref q2, .ref q3, .null, .null, .null]))] : va_W) ++ ([(q1, .inl (tt 0, 5, .inl (fun _ => 0)))] : va_W) ++ ([(q2, .inl (tt 0, 5, .inl (fun _ => 0)))] : va_W) ++ ([(q3, .inl (tt 0, 5, .inl (fun _ => 0)))] : va_W)) := hD
  refine lv_aload_n hx hb dX3_init_25 rfl (lv_at hl 0 rfl) ?_
  refine lv_iconst (v := 5) hx hb dX3_init_26 (by decide) ?_
  refine va_newa (atype := .int) (ty := .int) (N' := 5) (a0 := (5, .inl (fun _ => 0))) hx hb ac0 rfl hK.1 hP hD hS hA (fun _ => rfl) (by decide) (by decide) (Nat.le_of_ble_eq_true rfl) (Nat.le_of_ble_eq_true rfl) (Nat.le_of_ble_eq_true rfl) dX3_init_27 (fun q4 cq4 H hK1 hP hD hS => ?_)
  obtain rfl : cq4 = tt 0 := z_uniq hK1 0 rfl _ (fun _ h => h)
  clear hK1
  have hP : va_P D vwCl (([(h0, .inr (3, [.int 0, .ref q1, .int 0, .ref q2, .ref q3, .null, .null, .null]))] : va_W) ++ ([(q1, .inl (tt 0, 5, .inl (fun _ => 0)))] : va_W) ++ ([(q2, .inl (tt 0, 5, .inl (fun _ => 0)))] : va_W) ++ ([(q3, .inl (tt 0, 5, .inl (fun _ => 0)))] : va_W) ++ ([(q4, .inl (tt 0, 5, .inl (fun _ => 0)))] : va_W)) H := hP
  have hD : va_D A (([(h0, .inr (3, [.int 0, .ref q1, .int 0, .ref q2, .ref q3, .null, .null, .null]))] : va_W) ++ ([(q1, .inl (tt 0, 5, .inl (fun _ => 0)))] : va_W) ++ ([(q2, .inl (tt 0, 5, .inl (fun _ => 0)))] : va_W) ++ ([(q3, .inl (tt 0, 5, .inl (fun _ => 0)))] : va_W) ++ ([(q4, .inl (tt 0, 5, .inl (fun _ => 0)))] : va_W)) := hD
  refine va_putF (D := D) (ci := 3) (v := .ref q4) (ty := .array .int) (C := RX3) (T := TX3) (N := 8) hx hb hts hi3 tyX3 tyX3_ok nmX3 hown hK.1 hP hD hS 0 rfl rfl 5 (by decide) fl21 (fun _ h9 => h9) rfl hin rfl (by decide +kernel) rfl rfl (Nat.le_of_ble_eq_true rfl) dX3_init_29 (fun H locs hP hD hS => ?_)
  have hP : va_P D vwCl (([(h0, .inr (3, [.int 0, .ref q1, .int 0, .ref q2, .ref q3, .ref q4, .null, .null]))] : va_W) ++ ([(q1, .inl (tt 0, 5, .inl (fun _ => 0)))] : va_W) ++ ([(q2, .inl (tt 0, 5, .inl (fun _ => 0)))] : va_W) ++ ([(q3, .inl (tt 0, 5, .inl (fun _ => 0)))] : va_W) ++ ([(q4, .inl (tt 0, 5, .inl (fun _ => 0)))] : va_W)) H := hP
  have hD : va_D A (([(h0, .inr (3, [.int 0, .ref q1, .int 0, .ref q2, .ref q3, .ref q4, .null, .null]))] : va_W) ++ ([(q1, .inl (tt 0, 5, .inl (fun _ => 0)))] : va_W) ++ ([(q2, .inl (tt 0, 5, .inl (fun _ => 0)))] : va_W) ++ ([(q3, .inl (tt 0, 5, .inl (fun _ => 0)))] : va_W) ++ ([(q4, .inl (tt 0, 5, .inl (fun _ => 0)))] : va_W)) := hD
  refine lv_aload_n hx hb dX3_init_32 rfl (lv_at hl 0 rfl) ?_
  refine lv_iconst (v := 5) hx hb dX3_init_33 (by decide) ?_
  refine va_newa (atype := .int) (ty := .int) (N' := 5) (a0 := (5, .inl (fun _ => 0))) hx hb ac0 rfl hK.1 hP hD hS hA (fun _ => rfl) (by decide) (by decide) (Nat.le_of_ble_eq_true rfl) (Nat.le_of_ble_eq_true rfl) (Nat.le_of_ble_eq_true rfl) dX3_init_34 (fun q5 cq5 H hK1 hP hD hS => ?_)
  obtain rfl : cq5 = tt 0 := z_uniq hK1 0 rfl _ (fun _ h => h)
  clear hK1
  have hP : va_P D vwCl (([(h0, .inr (3, [.int 0, .ref q1, .int 0, .ref q2, .ref q3, .ref q4, .null, .null]))] : va_W) ++ ([(q1, .inl (tt 0, 5, .inl (fun _ => 0)))] : va_W) ++ ([(q2, .inl (tt 0, 5, .inl (fun _ => 0)))] : va_W) ++ ([(q3, .inl (tt 0, 5, .inl (fun _ => 0)))] : va_W) ++ ([(q4, .inl (tt 0, 5, .inl (fun _ => 0)))] : va_W) ++ ([(q5, .inl (tt 0, 5, .inl (fun _ => 0)))] : va_W)) H := hP
  have hD : va_D A (([(h0, .inr (3, [.int 0, .ref q1, .int 0, .ref q2, .ref q3, .ref q4, .null, .null]))] : va_W) ++ ([(q1, .inl (tt 0, 5, .inl (fun _ => 0)))] : va_W) ++ ([(q2, .inl (tt 0, 5, .inl (fun _ => 0)))] : va_W) ++ ([(q3, .inl (tt 0, 5, .inl (fun _ => 0)))] : va_W) ++ ([(q4, .inl (tt 0, 5, .inl (fun _ => 0)))] : va_W) ++ ([(q5, .inl (tt 0, 5, .inl (fun _ => 0)))] : va_W)) := hD
  refine va_putF (D := D) (ci := 3) (v := .ref q5) (ty := .array .int) (C := RX3) (T := TX3) (N := 8) hx hb hts hi3 tyX3 tyX3_ok nmX3 hown hK.1 hP hD hS 0 rfl rfl 6 (by decide) fl24 (fun _ h9 => h9) rfl hin rfl (by decide +kernel) rfl rfl (Nat.le_of_ble_eq_true rfl) dX3_init_36 (fun H locs hP hD hS => ?_)
  have hP : va_P D vwCl (([(h0, .inr (3, [.int 0, .ref q1, .int 0, .ref q2, .ref q3, .ref q4, .ref q5, .null]))] : va_W) ++ ([(q1, .inl (tt 0, 5, .inl (fun _ => 0)))] : va_W) ++ ([(q2, .inl (tt 0, 5, .inl (fun _ => 0)))] : va_W) ++ ([(q3, .inl (tt 0, 5, .inl (fun _ => 0)))] : va_W) ++ ([(q4, .inl (tt 0, 5, .inl (fun _ => 0)))] : va_W) ++ ([(q5, .inl (tt 0, 5, .inl (fun _ => 0)))] : va_W)) H := hP
  have hD : va_D A (([(h0, .inr (3, [.int 0, .ref q1, .int 0, .ref q2, .ref q3, .ref q4, .ref q5, .null]))] : va_W) ++ ([(q1, .inl (tt 0, 5, .inl (fun _ => 0)))] : va_W) ++ ([(q2, .inl (tt 0, 5, .inl (fun _ => 0)))] : va_W) ++ ([(q3, .inl (tt 0, 5, .inl (fun _ => 0)))] : va_W) ++ ([(q4, .inl (tt 0, 5, .inl (fun _ => 0)))] : va_W) ++ ([(q5, .inl (tt 0, 5, .inl (fun _ => 0)))] : va_W)) := hD
  refine lv_aload_n hx hb dX3_init_39 rfl (lv_at hl 0 rfl) ?_
  refine lv_iconst (v := 5) hx hb dX3_init_40 (by decide) ?_
  refine va_newa (atype := .int) (ty := .int) (N' := 5) (a0 := (5, .inl (fun _ => 0))) hx hb ac0 rfl hK.1 hP hD hS hA (fun _ => rfl) (by decide) (by decide) (Nat.le_of_ble_eq_true rfl) (Nat.le_of_ble_eq_true rfl) (Nat.le_of_ble_eq_true rfl) dX3_init_41 (fun q6 cq6 H hK1 hP hD hS => ?_)
  obtain rfl : cq6 = tt 0 := z_uniq hK1 0 rfl _ (fun _ h => h)
  clear hK1
  have hP : va_P D vwCl (([(h0, .inr (3, [.int 0, .ref q1, .int 0, .ref q2, .ref q3, .ref q4, .ref q5, .null]))] : va_W) ++ ([(q1, .inl (tt 0, 5, .inl (fun _ => 0)))] : va_W) ++ ([(q2, .inl (tt 0, 5, .inl (fun _ => 0)))] : va_W) ++ ([(q3, .inl (tt 0, 5, .inl (fun _ => 0)))] : va_W) ++ ([(q4, .inl (tt 0, 5, .inl (fun _ => 0)))] : va_W) ++ ([(q5, .inl (tt 0, 5, .inl (fun _ => 0)))] : va_W) ++ ([(q6, .inl (tt 0, 5, .inl (fun _ => 0)))] : va_W)) H := hP
  have hD : va_D A (([(h0, .inr (3, [.int 0, .ref q1, .int 0, .ref q2, .ref q3, .ref q4, .ref q5, .null]))] : va_W) ++ ([(q1, .inl (tt 0, 5, .inl (fun _ => 0)))] : va_W) ++ ([(q2, .inl (tt 0, 5, .inl (fun _ => 0)))] : va_W) ++ ([(q3, .inl (tt 0, 5, .inl (fun _ => 0)))] : va_W) ++ ([(q4, .inl (tt 0, 5, .inl (fun _ => 0)))] : va_W) ++ ([(q5, .inl (tt 0, 5, .inl (fun _ => 0)))] : va_W) ++ ([(q6, .inl (tt 0, 5, .inl (fun _ => 0)))] : va_W)) := hD
  refine va_putF (D := D) (ci := 3) (v := .ref q6) (ty := .array .int) (C := RX3) (T := TX3) (N := 8) hx hb hts hi3 tyX3 tyX3_ok nmX3 hown hK.1 hP hD hS 0 rfl rfl 7 (by decide) fl27 (fun _ h9 => h9) rfl hin rfl (by decide +kernel) rfl rfl (Nat.le_of_ble_eq_true rfl) dX3_init_43 (fun H locs hP hD hS => ?_)
  have hP : va_P D vwCl (([(h0, .inr (3, [.int 0, .ref q1, .int 0, .ref q2, .ref q3, .ref q4, .ref q5, .ref q6]))] : va_W) ++ ([(q1, .inl (tt 0, 5, .inl (fun _ => 0)))] : va_W) ++ ([(q2, .inl (tt 0, 5, .inl (fun _ => 0)))] : va_W) ++ ([(q3, .inl (tt 0, 5, .inl (fun _ => 0)))] : va_W) ++ ([(q4, .inl (tt 0, 5, .inl (fun _ => 0)))] : va_W) ++ ([(q5, .inl (tt 0, 5, .inl (fun _ => 0)))] : va_W) ++ ([(q6, .inl (tt 0, 5, .inl (fun _ => 0)))] : va_W)) H := hP
  have hD : va_D A (([(h0, .inr (3, [.int 0, .ref q1, .int 0, .ref q2, .ref q3, .ref q4, .ref q5, .ref q6]))] : va_W) ++ ([(q1, .inl (tt 0, 5, .inl (fun _ => 0)))] : va_W) ++ ([(q2, .inl (tt 0, 5, .inl (fun _ => 0)))] : va_W) ++ ([(q3, .inl (tt 0, 5, .inl (fun _ => 0)))] : va_W) ++ ([(q4, .inl (tt 0, 5, .inl (fun _ => 0)))] : va_W) ++ ([(q5, .inl (tt 0, 5, .inl (fun _ => 0)))] : va_W) ++ ([(q6, .inl (tt 0, 5, .inl (fun _ => 0)))] : va_W)) := hD
  have hP9 := hP.sub (ws' := zw_ex tt (zu (zu (zu (zu (zu (zu (zu (fun _ => 0) 0 h0) 1 q1) 2 q2) 3 q3) 4 q4) 5 q5) 6 q6) (fun _ _ => 0)) [0, 1, 2, 3, 4, 5, 6] rfl
  have hD9 := hD.sub (ws' := zw_ex tt (zu (zu (zu (zu (zu (zu (zu (fun _ => 0) 0 h0) 1 q1) 2 q2) 3 q3) 4 q4) 5 q5) 6 q6) (fun _ _ => 0)) [0, 1, 2, 3, 4, 5, 6] (by decide) rfl
  exact W.vret hx hb hr (fun t ht hW => ⟨⟨(zu (zu (zu (zu (zu (zu (zu (fun _ => 0) 0 h0) 1 q1) 2 q2) 3 q3) 4 q4) 5 q5) 6 q6), rfl, rfl, by rw [ht]; exact hP9, hD9⟩, hS.F ht⟩) hS.2.2 dX3_init_46
set_option maxHeartbeats 8000000 in
set_option maxRecDepth 100000 in
theorem c_X8_init (l : Launch) (D : va_G) (tt : Nat → ClassId) (h0 : Nat) (sz : Nat) : Met l yX8_init wsX8_init { frames := 1, cells := 2, slots := 85, locals := 12 } (zPm [.ref h0] D tt ([(h0, .inr (8, [.int 0, .int 0, .null, .null]))] : va_W) sz) (zNv D h0 0 (fun kv => zw_tx tt kv (fun _ _ => 0)) (va_A ([(h0, .inr (8, [.int 0, .int 0, .null, .null]))] : va_W) sz)) 2 85 (va_A ([(h0, .inr (8, [.int 0, .int 0, .null, .null]))] : va_W) sz) := by
  refine Met.ofW (cc := cX8_init) (maxL := 1) (ret := none) (by decide) rfl ?_
  intro p e s m args below meth c s₁ B hml hv
  obtain ⟨ha, hsz, hP, hK, hD0⟩ := hv
  have hx := B.exec
  have hb := B.bytes
  have hr := B.returns
  have hts := atoms_spec (ws := wsX8_init) B.pre
  have hown : s.vm.findClass RX8 = some m.cls := findClass_of_methodNamed B.named
  have hlocks := B.notSynchronized
  have hin : meth.name = "<init>" := (name_of_methodNamed B.named B.method).1
  have hi8 : ∀ w ∈ u_ws RX8 TX8 4, w ∈ wsX8_init := fun _ h => List.mem_cons_of_mem _ (List.mem_append_right _ h)
  have ac0 := hts (.arrayClass .int) (by decide +kernel)
  have ac2 := hts (.arrayClass .char) (by decide +kernel)
  have fl15 := hts (.fieldLink RX8 15 "CapStacks$Text" "letters" "[C") (by decide +kernel)
  have fl9 := hts (.fieldLink RX8 9 "CapStacks$Text" "numbers" "[I") (by decide +kernel)
  subst hsz
  have hD := hD0.self (sz := s.heap.size)
  generalize hAe : va_A ([(h0, .inr (8, [.int 0, .int 0, .null, .null]))] : va_W) s.heap.size = A at hD ⊢
  have hA : ∀ q : Nat, s.heap.size ≤ q → A q := fun q h => by rw [← hAe]; exact Or.inr h
  have hS : va_S A s.heap s.heap [] := va_S.rf
  have hl := lv_entry ([.ref h0]) (n := 1) (Nat.le_of_ble_eq_true rfl)
  refine W.eq (g2 := F0 m 0 ((lg_sl ([.ref h0]) ++ List.replicate (1 - (lg_sl ([.ref h0])).length) Slot.unset).toArray) []) (by rw [ha]; exact lg_entry_eq _ _ _) ?_
  generalize (lg_sl ([.ref h0]) ++ List.replicate (1 - (lg_sl ([.ref h0])).length) Slot.unset).toArray = ls at hl ⊢
  have hl : lv_has ls 1 [(0, .ref h0)] := hl
  refine lv_aload_n hx hb dX8_init_0 rfl (lv_at hl 0 rfl) ?_
  refine W.objInit hx hb hown (hts (.methodLink RX8 3 objectInit) (by decide +kernel)) (hts (.instanceMethod objectInit) (by decide +kernel)) (hts (.code objectInit ⟨#[0xb1]⟩ 1 none) (by decide +kernel)) rfl (by rw [hml]; exact hl.1) rfl dX8_init_1 (Nat.le_of_ble_eq_true rfl) (Nat.le_of_ble_eq_true rfl) ?_
  refine W.eq (g2 := F0 m 4 ls []) rfl ?_
  refine lv_aload_n hx hb dX8_init_4 rfl (lv_at hl 0 rfl) ?_
  refine lv_iconst (v := 5) hx hb dX8_init_5 (by decide) ?_
  refine va_newa (atype := .int) (ty := .int) (N' := 5) (a0 := (5, .inl (fun _ => 0))) hx hb ac0 rfl hK.1 hP hD hS hA (fun _ => rfl) (by decide) (by decide) (Nat.le_of_ble_eq_true rfl) (Nat.le_of_ble_eq_true rfl) (Nat.le_of_ble_eq_true rfl) dX8_init_6 (fun q1 cq1 H hK1 hP hD hS => ?_)
  obtain rfl : cq1 = tt 0 := z_uniq hK1 0 rfl _ (fun _ h => h)
  clear hK1
  have hP : va_P D vwCl (([(h0, .inr (8, [.int 0, .int 0, .null, .null]))] : va_W) ++ ([(q1, .inl (tt 0, 5, .inl (fun _ => 0)))] : va_W)) H := hP
  have hD : va_D A (([(h0, .inr (8, [.int 0, .int 0, .null, .null]))] : va_W) ++ ([(q1, .inl (tt 0, 5, .inl (fun _ => 0)))] : va_W)) := hD
  refine va_putF (D := D) (ci := 8) (v := .ref q1) (ty := .array .int) (C := RX8) (T := TX8) (N := 4) hx hb hts hi8 tyX8 tyX8_ok nmX8 hown hK.1 hP hD hS 0 rfl rfl 2 (by decide) fl9 (fun _ h9 => h9) rfl hin rfl (by decide +kernel) rfl rfl (Nat.le_of_ble_eq_true rfl) dX8_init_8 (fun H locs hP hD hS => ?_)
  have hP : va_P D vwCl (([(h0, .inr (8, [.int 0, .int 0, .ref q1, .null]))] : va_W) ++ ([(q1, .inl (tt 0, 5, .inl (fun _ => 0)))] : va_W)) H := hP
  have hD : va_D A (([(h0, .inr (8, [.int 0, .int 0, .ref q1, .null]))] : va_W) ++ ([(q1, .inl (tt 0, 5, .inl (fun _ => 0)))] : va_W)) := hD
  refine lv_aload_n hx hb dX8_init_11 rfl (lv_at hl 0 rfl) ?_
  refine lv_bipush (v := 80) hx hb dX8_init_12 (by decide) ?_
  refine va_newa (atype := .char) (ty := .char) (N' := 80) (a0 := (80, .inl (fun _ => 0))) hx hb ac2 rfl hK.1 hP hD hS hA (fun _ => rfl) (by decide) (by decide) (Nat.le_of_ble_eq_true rfl) (Nat.le_of_ble_eq_true rfl) (Nat.le_of_ble_eq_true rfl) dX8_init_14 (fun q2 cq2 H hK1 hP hD hS => ?_)
  obtain rfl : cq2 = tt 2 := z_uniq hK1 2 rfl _ (fun _ h => h)
  clear hK1
  have hP : va_P D vwCl (([(h0, .inr (8, [.int 0, .int 0, .ref q1, .null]))] : va_W) ++ ([(q1, .inl (tt 0, 5, .inl (fun _ => 0)))] : va_W) ++ ([(q2, .inl (tt 2, 80, .inl (fun _ => 0)))] : va_W)) H := hP
  have hD : va_D A (([(h0, .inr (8, [.int 0, .int 0, .ref q1, .null]))] : va_W) ++ ([(q1, .inl (tt 0, 5, .inl (fun _ => 0)))] : va_W) ++ ([(q2, .inl (tt 2, 80, .inl (fun _ => 0)))] : va_W)) := hD
  refine va_putF (D := D) (ci := 8) (v := .ref q2) (ty := .array .char) (C := RX8) (T := TX8) (N := 4) hx hb hts hi8 tyX8 tyX8_ok nmX8 hown hK.1 hP hD hS 0 rfl rfl 3 (by decide) fl15 (fun _ h9 => h9) rfl hin rfl (by decide +kernel) rfl rfl (Nat.le_of_ble_eq_true rfl) dX8_init_16 (fun H locs hP hD hS => ?_)
  have hP : va_P D vwCl (([(h0, .inr (8, [.int 0, .int 0, .ref q1, .ref q2]))] : va_W) ++ ([(q1, .inl (tt 0, 5, .inl (fun _ => 0)))] : va_W) ++ ([(q2, .inl (tt 2, 80, .inl (fun _ => 0)))] : va_W)) H := hP
  have hD : va_D A (([(h0, .inr (8, [.int 0, .int 0, .ref q1, .ref q2]))] : va_W) ++ ([(q1, .inl (tt 0, 5, .inl (fun _ => 0)))] : va_W) ++ ([(q2, .inl (tt 2, 80, .inl (fun _ => 0)))] : va_W)) := hD
  have hP9 := hP.sub (ws' := zw_tx tt (zu (zu (zu (fun _ => 0) 0 h0) 1 q1) 2 q2) (fun _ _ => 0)) [0, 1, 2] rfl
  have hD9 := hD.sub (ws' := zw_tx tt (zu (zu (zu (fun _ => 0) 0 h0) 1 q1) 2 q2) (fun _ _ => 0)) [0, 1, 2] (by decide) rfl
  exact W.vret hx hb hr (fun t ht hW => ⟨⟨(zu (zu (zu (fun _ => 0) 0 h0) 1 q1) 2 q2), rfl, rfl, by rw [ht]; exact hP9, hD9⟩, hS.F ht⟩) hS.2.2 dX8_init_19
set_option maxHeartbeats 8000000 in
set_option maxRecDepth 100000 in
theorem c_X6_init (l : Launch) (D : va_G) (tt : Nat → ClassId) (h0 : Nat) (sz : Nat) : Met l yX6_init wsX6_init { frames := 1, cells := 0, slots := 0, locals := 12 } (zPm [.ref h0] D tt ([(h0, .inr (6, [.int 0, .int 0, .int 0, .int 0]))] : va_W) sz) (zNv D h0 0 (fun kv => zw_rh tt kv (fun _ _ => 0)) (va_A ([(h0, .inr (6, [.int 0, .int 0, .int 0, .int 0]))] : va_W) sz)) 0 0 (va_A ([(h0, .inr (6, [.int 0, .int 0, .int 0, .int 0]))] : va_W) sz) := by
  refine Met.ofW (cc := cX6_init) (maxL := 1) (ret := none) (by decide) rfl ?_
  intro p e s m args below meth c s₁ B hml hv
  obtain ⟨ha, hsz, hP, hK, hD0⟩ := hv
  have hx := B.exec
  have hb := B.bytes
  have hr := B.returns
  have hts := atoms_spec (ws := wsX6_init) B.pre
  have hown : s.vm.findClass RX6 = some m.cls := findClass_of_methodNamed B.named
  have hlocks := B.notSynchronized
  have hin : meth.name = "<init>" := (name_of_methodNamed B.named B.method).1
  subst hsz
  have hD := hD0.self (sz := s.heap.size)
  generalize hAe : va_A ([(h0, .inr (6, [.int 0, .int 0, .int 0, .int 0]))] : va_W) s.heap.size = A at hD ⊢
  have hA : ∀ q : Nat, s.heap.size ≤ q → A q := fun q h => by rw [← hAe]; exact Or.inr h
  have hS : va_S A s.heap s.heap [] := va_S.rf
  have hl := lv_entry ([.ref h0]) (n := 1) (Nat.le_of_ble_eq_true rfl)
  refine W.eq (g2 := F0 m 0 ((lg_sl ([.ref h0]) ++ List.replicate (1 - (lg_sl ([.ref h0])).length) Slot.unset).toArray) []) (by rw [ha]; exact lg_entry_eq _ _ _) ?_
  generalize (lg_sl ([.ref h0]) ++ List.replicate (1 - (lg_sl ([.ref h0])).length) Slot.unset).toArray = ls at hl ⊢
  have hl : lv_has ls 1 [(0, .ref h0)] := hl
  refine lv_aload_n hx hb dX6_init_0 rfl (lv_at hl 0 rfl) ?_
  refine W.objInit hx hb hown (hts (.methodLink RX6 3 objectInit) (by decide +kernel)) (hts (.instanceMethod objectInit) (by decide +kernel)) (hts (.code objectInit ⟨#[0xb1]⟩ 1 none) (by decide +kernel)) rfl (by rw [hml]; exact hl.1) rfl dX6_init_1 (Nat.le_of_ble_eq_true rfl) (Nat.le_of_ble_eq_true rfl) ?_
  refine W.eq (g2 := F0 m 4 ls []) rfl ?_
  have hP9 := hP.sub (ws' := zw_rh tt (zu (fun _ => 0) 0 h0) (fun _ _ => 0)) [0] rfl
  have hD9 := hD.sub (ws' := zw_rh tt (zu (fun _ => 0) 0 h0) (fun _ _ => 0)) [0] (by decide) rfl
  exact W.vret hx hb hr (fun t ht hW => ⟨⟨(zu (fun _ => 0) 0 h0), rfl, rfl, by rw [ht]; exact hP9, hD9⟩, hS.F ht⟩) hS.2.2 dX6_init_4
set_option maxHeartbeats 8000000 in
set_option maxRecDepth 100000 in
theorem c_X10_init (l : Launch) (D : va_G) (tt : Nat → ClassId) (h0 : Nat) (sz : Nat) : Met l yX10_init wsX10_init { frames := 1, cells := 9, slots := 1383, locals := 12 } (zPm [.ref h0] D tt ([(h0, .inr (10, [.null, .null, .null, .int 0, .null, .int 0, .null, .null, .null, .null, .int 0, .int 0, .int 0, .int 0, .null]))] : va_W) sz) (zNv D h0 0 (fun kv => zw_mo tt kv zw0 (fun _ _ => 0)) (va_A ([(h0, .inr (10, [.null, .null, .null, .int 0, .null, .int 0, .null, .null, .null, .null, .int 0, .int 0, .int 0, .int 0, .null]))] : va_W) sz)) 9 1383 (va_A ([(h0, .inr (10, [.null, .null, .null, .int 0, .null, .int 0, .null, .null, .null, .null, .int 0, .int 0, .int 0, .int 0, .null]))] : va_W) sz) := by
  refine Met.ofW (cc := cX10_init) (maxL := 1) (ret := none) (by decide) rfl ?_
  intro p e s m args below meth c s₁ B hml hv
  obtain ⟨ha, hsz, hP, hK, hD0⟩ := hv
  have hx := B.exec
  have hb := B.bytes
  have hr := B.returns
  have hts := atoms_spec (ws := wsX10_init) B.pre
  have hown : s.vm.findClass RX10 = some m.cls := findClass_of_methodNamed B.named
  have hlocks := B.notSynchronized
  have hin : meth.name = "<init>" := (name_of_methodNamed B.named B.method).1
  have hi10 : ∀ w ∈ u_ws RX10 TX10 15, w ∈ wsX10_init := fun _ h => List.mem_cons_of_mem _ (List.mem_append_right _ h)
  have ac0 := hts (.arrayClass .int) (by decide +kernel)
  have ac1 := hts (.arrayClass .long) (by decide +kernel)
  have fl13 := hts (.fieldLink RX10 13 "CapStacksModel" "begun" "[I") (by decide +kernel)
  have fl16 := hts (.fieldLink RX10 16 "CapStacksModel" "past" "[I") (by decide +kernel)
  have fl19 := hts (.fieldLink RX10 19 "CapStacksModel" "text" "[I") (by decide +kernel)
  have fl22 := hts (.fieldLink RX10 22 "CapStacksModel" "gets" "[J") (by decide +kernel)
  have fl26 := hts (.fieldLink RX10 26 "CapStacksModel" "shared" "[J") (by decide +kernel)
  have fl29 := hts (.fieldLink RX10 29 "CapStacksModel" "claims" "[J") (by decide +kernel)
  have fl32 := hts (.fieldLink RX10 32 "CapStacksModel" "commons" "[J") (by decide +kernel)
  have fl35 := hts (.fieldLink RX10 35 "CapStacksModel" "numbers" "[I") (by decide +kernel)
  have fl7 := hts (.fieldLink RX10 7 "CapStacksModel" "s" "[I") (by decide +kernel)
  subst hsz
  have hD := hD0.self (sz := s.heap.size)
  generalize hAe : va_A ([(h0, .inr (10, [.null, .null, .null, .int 0, .null, .int 0, .null, .null, .null, .null, .int 0, .int 0, .int 0, .int 0, .null]))] : va_W) s.heap.size = A at hD ⊢
  have hA : ∀ q : Nat, s.heap.size ≤ q → A q := fun q h => by rw [← hAe]; exact Or.inr h
  have hS : va_S A s.heap s.heap [] := va_S.rf
  have hl := lv_entry ([.ref h0]) (n := 1) (Nat.le_of_ble_eq_true rfl)
  refine W.eq (g2 := F0 m 0 ((lg_sl ([.ref h0]) ++ List.replicate (1 - (lg_sl ([.ref h0])).length) Slot.unset).toArray) []) (by rw [ha]; exact lg_entry_eq _ _ _) ?_
  generalize (lg_sl ([.ref h0]) ++ List.replicate (1 - (lg_sl ([.ref h0])).length) Slot.unset).toArray = ls at hl ⊢
  have hl : lv_has ls 1 [(0, .ref h0)] := hl
  refine lv_aload_n hx hb dX10_init_0 rfl (lv_at hl 0 rfl) ?_
  refine W.objInit hx hb hown (hts (.methodLink RX10 1 objectInit) (by decide +kernel)) (hts (.instanceMethod objectInit) (by decide +kernel)) (hts (.code objectInit ⟨#[0xb1]⟩ 1 none) (by decide +kernel)) rfl (by rw [hml]; exact hl.1) rfl dX10_init_1 (Nat.le_of_ble_eq_true rfl) (Nat.le_of_ble_eq_true rfl) ?_
  refine W.eq (g2 := F0 m 4 ls []) rfl ?_
  refine lv_aload_n hx hb dX10_init_4 rfl (lv_at hl 0 rfl) ?_
  refine lv_sipush (v := 213) hx hb dX10_init_5 (by decide) ?_
  refine va_newa (atype := .int) (ty := .int) (N' := 213) (a0 := (213, .inl (fun _ => 0))) hx hb ac0 rfl hK.1 hP hD hS hA (fun _ => rfl) (by decide) (by decide) (Nat.le_of_ble_eq_true rfl) (Nat.le_of_ble_eq_true rfl) (Nat.le_of_ble_eq_true rfl) dX10_init_8 (fun q1 cq1 H hK1 hP hD hS => ?_)
  obtain rfl : cq1 = tt 0 := z_uniq hK1 0 rfl _ (fun _ h => h)
  clear hK1
  have hP : va_P D vwCl (([(h0, .inr (10, [.null, .null, .null, .int 0, .null, .int 0, .null, .null, .null, .null, .int 0, .int 0, .int 0, .int 0, .null]))] : va_W) ++ ([(q1, .inl (tt 0, 213, .inl (fun _ => 0)))] : va_W)) H := hP
  have hD : va_D A (([(h0, .inr (10, [.null, .null, .null, .int 0, .null, .int 0, .null, .null, .null, .null, .int 0, .int 0, .int 0, .int 0, .null]))] : va_W) ++ ([(q1, .inl (tt 0, 213, .inl (fun _ => 0)))] : va_W)) := hD
  refine va_putF (D := D) (ci := 10) (v := .ref q1) (ty := .array .int) (C := RX10) (T := TX10) (N := 15) hx hb hts hi10 tyX10 tyX10_ok nmX10 hown hK.1 hP hD hS 0 rfl rfl 0 (by decide) fl7 (fun _ h9 => h9) rfl hin rfl (by decide +kernel) rfl rfl (Nat.le_of_ble_eq_true rfl) dX10_init_10 (fun H locs hP hD hS => ?_)
  have hP : va_P D vwCl (([(h0, .inr (10, [.ref q1, .null, .null, .int 0, .null, .int 0, .null, .null, .null, .null, .int 0, .int 0, .int 0, .int 0, .null]))] : va_W) ++ ([(q1, .inl (tt 0, 213, .inl (fun _ => 0)))] : va_W)) H := hP
  have hD : va_D A (([(h0, .inr (10, [.ref q1, .null, .null, .int 0, .null, .int 0, .null, .null, .null, .null, .int 0, .int 0, .int 0, .int 0, .null]))] : va_W) ++ ([(q1, .inl (tt 0, 213, .inl (fun _ => 0)))] : va_W)) := hD
  refine lv_aload_n hx hb dX10_init_13 rfl (lv_at hl 0 rfl) ?_
  refine lv_sipush (v := 213) hx hb dX10_init_14 (by decide) ?_
  refine va_newa (atype := .int) (ty := .int) (N' := 213) (a0 := (213, .inl (fun _ => 0))) hx hb ac0 rfl hK.1 hP hD hS hA (fun _ => rfl) (by decide) (by decide) (Nat.le_of_ble_eq_true rfl) (Nat.le_of_ble_eq_true rfl) (Nat.le_of_ble_eq_true rfl) dX10_init_17 (fun q2 cq2 H hK1 hP hD hS => ?_)
  obtain rfl : cq2 = tt 0 := z_uniq hK1 0 rfl _ (fun _ h => h)
  clear hK1
  have hP : va_P D vwCl (([(h0, .inr (10, [.ref q1, .null, .null, .int 0, .null, .int 0, .null, .null, .null, .null, .int 0, .int 0, .int 0, .int 0, .null]))] : va_W) ++ ([(q1, .inl (tt 0, 213, .inl (fun _ => 0)))] : va_W) ++ ([(q2, .inl (tt 0, 213, .inl (fun _ => 0)))] : va_W)) H := hP
  have hD : va_D A (([(h0, .inr (10, [.ref q1, .null, .null, .int 0, .null, .int 0, .null, .null, .null, .null, .int 0, .int 0, .int 0, .int 0, .null]))] : va_W) ++ ([(q1, .inl (tt 0, 213, .inl (fun _ => 0)))] : va_W) ++ ([(q2, .inl (tt 0, 213, .inl (fun _ => 0)))] : va_W)) := hD
  refine va_putF (D := D) (ci := 10) (v := .ref q2) (ty := .array .int) (C := RX10) (T := TX10) (N := 15) hx hb hts hi10 tyX10 tyX10_ok nmX10 hown hK.1 hP hD hS 0 rfl rfl 1 (by decide) fl13 (fun _ h9 => h9) rfl hin rfl (by decide +kernel) rfl rfl (Nat.le_of_ble_eq_true rfl) dX10_init_19 (fun H locs hP hD hS => ?_)
  have hP : va_P D vwCl (([(h0, .inr (10, [.ref q1, .ref q2, .null, .int 0, .null, .int 0, .null, .null, .null, .null, .int 0, .int 0, .int 0, .int 0, .null]))] : va_W) ++ ([(q1, .inl (tt 0, 213, .inl (fun _ => 0)))] : va_W) ++ ([(q2, .inl (tt 0, 213, .inl (fun _ => 0)))] : va_W)) H := hP
  have hD : va_D A (([(h0, .inr (10, [.ref q1, .ref q2, .null, .int 0, .null, .int 0, .null, .null, .null, .null, .int 0, .int 0, .int 0, .int 0, .null]))] : va_W) ++ ([(q1, .inl (tt 0, 213, .inl (fun _ => 0)))] : va_W) ++ ([(q2, .inl (tt 0, 213, .inl (fun _ => 0)))] : va_W)) := hD
  refine lv_aload_n hx hb dX10_init_22 rfl (lv_at hl 0 rfl) ?_
  refine lv_sipush (v := 852) hx hb dX10_init_23 (by decide) ?_
  refine va_newa (atype := .int) (ty := .int) (N' := 852) (a0 := (852, .inl (fun _ => 0))) hx hb ac0 rfl hK.1 hP hD hS hA (fun _ => rfl) (by decide) (by decide) (Nat.le_of_ble_eq_true rfl) (Nat.le_of_ble_eq_true rfl) (Nat.le_of_ble_eq_true rfl) dX10_init_26 (fun q3 cq3 H hK1 hP hD hS => ?_)
  obtain rfl : cq3 = tt 0 := z_uniq hK1 0 rfl _ (fun _ h => h)
  clear hK1
  have hP : va_P D vwCl (([(h0, .inr (10, [.ref q1, .ref q2, .null, .int 0, .null, .int 0, .null, .null, .null, .null, .int 0, .int 0, .int 0, .int 0, .null]))] : va_W) ++ ([(q1, .inl (tt 0, 213, .inl (fun _ => 0)))] : va_W) ++ ([(q2, .inl (tt 0, 213, .inl (fun _ => 0)))] : va_W) ++ ([(q3, .inl (tt 0, 852, .inl (fun _ => 0)))] : va_W)) H := hP
  have hD : va_D A (([(h0, .inr (10, [.ref q1, .ref q2, .null, .int 0, .null, .int 0, .null, .null, .null, .null, .int 0, .int 0, .int 0, .int 0, .null]))] : va_W) ++ ([(q1, .inl (tt 0, 213, .inl (fun _ => 0)))] : va_W) ++ ([(q2, .inl (tt 0, 213, .inl (fun _ => 0)))] : va_W) ++ ([(q3, .inl (tt 0, 852, .inl (fun _ => 0)))] : va_W)) := hD
  refine va_putF (D := D) (ci := 10) (v := .ref q3) (ty := .array .int) (C := RX10) (T := TX10) (N := 15) hx hb hts hi10 tyX10 tyX10_ok nmX10 hown hK.1 hP hD hS 0 rfl rfl 2 (by decide) fl16 (fun _ h9 => h9) rfl hin rfl (by decide +kernel) rfl rfl (Nat.le_of_ble_eq_true rfl) dX10_init_28 (fun H locs hP hD hS => ?_)
  have hP : va_P D vwCl (([(h0, .inr (10, [.ref q1, .ref q2, .ref q3, .int 0, .null, .int 0, .null, .null, .null, .null, .int 0, .int 0, .int 0, .int 0, .null]))] : va_W) ++ ([(q1, .inl (tt 0, 213, .inl (fun _ => 0)))] : va_W) ++ ([(q2, .inl (tt 0, 213, .inl (fun _ => 0)))] : va_W) ++ ([(q3, .inl (tt 0, 852, .inl (fun _ => 0)))] : va_W)) H := hP
  have hD : va_D A (([(h0, .inr (10, [.ref q1, .ref q2, .ref q3, .int 0, .null, .int 0, .null, .null, .null, .null, .int 0, .int 0, .int 0, .int 0, .null]))] : va_W) ++ ([(q1, .inl (tt 0, 213, .inl (fun _ => 0)))] : va_W) ++ ([(q2, .inl (tt 0, 213, .inl (fun _ => 0)))] : va_W) ++ ([(q3, .inl (tt 0, 852, .inl (fun _ => 0)))] : va_W)) := hD
  refine lv_aload_n hx hb dX10_init_31 rfl (lv_at hl 0 rfl) ?_
  refine lv_bipush (v := 80) hx hb dX10_init_32 (by decide) ?_
  refine va_newa (atype := .int) (ty := .int) (N' := 80) (a0 := (80, .inl (fun _ => 0))) hx hb ac0 rfl hK.1 hP hD hS hA (fun _ => rfl) (by decide) (by decide) (Nat.le_of_ble_eq_true rfl) (Nat.le_of_ble_eq_true rfl) (Nat.le_of_ble_eq_true rfl) dX10_init_34 (fun q4 cq4 H hK1 hP hD hS => ?_)
  obtain rfl : cq4 = tt 0 := z_uniq hK1 0 rfl _ (fun _ h => h)
  clear hK1
  have hP : va_P D vwCl (([(h0, .inr (10, [.ref q1, .ref q2, .ref q3, .int 0, .null, .int 0, .null, .null, .null, .null, .int 0, .int 0, .int 0, .int 0, .null]))] : va_W) ++ ([(q1, .inl (tt 0, 213, .inl (fun _ => 0)))] : va_W) ++ ([(q2, .inl (tt 0, 213, .inl (fun _ => 0)))] : va_W) ++ ([(q3, .inl (tt 0, 852, .inl (fun _ => 0)))] : va_W) ++ ([(q4, .inl (tt 0, 80, .inl (fun _ => 0)))] : va_W)) H := hP
  have hD : va_D A (([(h0, .inr (10, [.ref q1, .ref q2, .ref q3, .int 0, .null, .int 0, .null, .null, .null, .null, .int 0, .int 0, .int 0, .int 0, .null]))] : va_W) ++ ([(q1, .inl (tt 0, 213, .inl (fun _ => 0)))] : va_W) ++ ([(q2, .inl (tt 0, 213, .inl (fun _ => 0)))] : va_W) ++ ([(q3, .inl (tt 0, 852, .inl (fun _ => 0)))] : va_W) ++ ([(q4, .inl (tt 0, 80, .inl (fun _ => 0)))] : va_W)) := hD
  refine va_putF (D := D) (ci := 10) (v := .ref q4) (ty := .array .int) (C := RX10) (T := TX10) (N := 15) hx hb hts hi10 tyX10 tyX10_ok nmX10 hown hK.1 hP hD hS 0 rfl rfl 4 (by decide) fl19 (fun _ h9 => h9) rfl hin rfl (by decide +kernel) rfl rfl (Nat.le_of_ble_eq_true rfl) dX10_init_36 (fun H locs hP hD hS => ?_)
  have hP : va_P D vwCl (([(h0, .inr (10, [.ref q1, .ref q2, .ref q3, .int 0, .ref q4, .int 0, .null, .null, .null, .null, .int 0, .int 0, .int 0, .int 0, .null]))] : va_W) ++ ([(q1, .inl (tt 0, 213, .inl (fun _ => 0)))] : va_W) ++ ([(q2, .inl (tt 0, 213, .inl (fun _ => 0)))] : va_W) ++ ([(q3, .inl (tt 0, 852, .inl (fun _ => 0)))] : va_W) ++ ([(q4, .inl (tt 0, 80, .inl (fun _ => 0)))] : va_W)) H := hP
  have hD : va_D A (([(h0, .inr (10, [.ref q1, .ref q2, .ref q3, .int 0, .ref q4, .int 0, .null, .null, .null, .null, .int 0, .int 0, .int 0, .int 0, .null]))] : va_W) ++ ([(q1, .inl (tt 0, 213, .inl (fun _ => 0)))] : va_W) ++ ([(q2, .inl (tt 0, 213, .inl (fun _ => 0)))] : va_W) ++ ([(q3, .inl (tt 0, 852, .inl (fun _ => 0)))] : va_W) ++ ([(q4, .inl (tt 0, 80, .inl (fun _ => 0)))] : va_W)) := hD
  refine lv_aload_n hx hb dX10_init_39 rfl (lv_at hl 0 rfl) ?_
  refine lv_iconst (v := 5) hx hb dX10_init_40 (by decide) ?_
  refine va_newa (atype := .long) (ty := .long) (N' := 5) (a0 := (5, .inr (.inl (fun _ => 0)))) hx hb ac1 rfl hK.1 hP hD hS hA (fun _ => rfl) (by decide) (by decide) (Nat.le_of_ble_eq_true rfl) (Nat.le_of_ble_eq_true rfl) (Nat.le_of_ble_eq_true rfl) dX10_init_41 (fun q5 cq5 H hK1 hP hD hS => ?_)
  obtain rfl : cq5 = tt 1 := z_uniq hK1 1 rfl _ (fun _ h => h)
  clear hK1
  have hP : va_P D vwCl (([(h0, .inr (10, [.ref q1, .ref q2, .ref q3, .int 0, .ref q4, .int 0, .null, .null, .null, .null, .int 0, .int 0, .int 0, .int 0, .null]))] : va_W) ++ ([(q1, .inl (tt 0, 213, .inl (fun _ => 0)))] : va_W) ++ ([(q2, .inl (tt 0, 213, .inl (fun _ => 0)))] : va_W) ++ ([(q3, .inl (tt 0, 852, .inl (fun _ => 0)))] : va_W) ++ ([(q4, .inl (tt 0, 80, .inl (fun _ => 0)))] : va_W) ++ ([(q5, .inl (tt 1, 5, .inr (.inl (fun _ => 0))))] : va_W)) H := hP
  have hD : va_D A (([(h0, .inr (10, [.ref q1, .ref q2, .ref q3, .int 0, .ref q4, .int 0, .null, .null, .null, .null, .int 0, .int 0, .int 0, .int 0, .null]))] : va_W) ++ ([(q1, .inl (tt 0, 213, .inl (fun _ => 0)))] : va_W) ++ ([(q2, .inl (tt 0, 213, .inl (fun _ => 0)))] : va_W) ++ ([(q3, .inl (tt 0, 852, .inl (fun _ => 0)))] : va_W) ++ ([(q4, .inl (tt 0, 80, .inl (fun _ => 0)))] : va_W) ++ ([(q5, .inl (tt 1, 5, .inr (.inl (fun _ => 0))))] : va_W)) := hD
  refine va_putF (D := D) (ci := 10) (v := .ref q5) (ty := .array .long) (C := RX10) (T := TX10) (N := 15) hx hb hts hi10 tyX10 tyX10_ok nmX10 hown hK.1 hP hD hS 0 rfl rfl 6 (by decide) fl22 (fun _ h9 => h9) rfl hin rfl (by decide +kernel) rfl rfl (Nat.le_of_ble_eq_true rfl) dX10_init_43 (fun H locs hP hD hS => ?_)
  have hP : va_P D vwCl (([(h0, .inr (10, [.ref q1, .ref q2, .ref q3, .int 0, .ref q4, .int 0, .ref q5, .null, .null, .null, .int 0, .int 0, .int 0, .int 0, .null]))] : va_W) ++ ([(q1, .inl (tt 0, 213, .inl (fun _ => 0)))] : va_W) ++ ([(q2, .inl (tt 0, 213, .inl (fun _ => 0)))] : va_W) ++ ([(q3, .inl (tt 0, 852, .inl (fun _ => 0)))] : va_W) ++ ([(q4, .inl (tt 0, 80, .inl (fun _ => 0)))] : va_W) ++ ([(q5, .inl (tt 1, 5, .inr (.inl (fun _ => 0))))] : va_W)) H := hP
  have hD : va_D A (([(h0, .inr (10, [.ref q1, .ref q2, .ref q3, .int 0, .ref q4, .int 0, .ref q5, .null, .null, .null, .int 0, .int 0, .int 0, .int 0, .null]))] : va_W) ++ ([(q1, .inl (tt 0, 213, .inl (fun _ => 0)))] : va_W) ++ ([(q2, .inl (tt 0, 213, .inl (fun _ => 0)))] : va_W) ++ ([(q3, .inl (tt 0, 852, .inl (fun _ => 0)))] : va_W) ++ ([(q4, .inl (tt 0, 80, .inl (fun _ => 0)))] : va_W) ++ ([(q5, .inl (tt 1, 5, .inr (.inl (fun _ => 0))))] : va_W)) := hD
  refine lv_aload_n hx hb dX10_init_46 rfl (lv_at hl 0 rfl) ?_
  refine lv_iconst (v := 5) hx hb dX10_init_47 (by decide) ?_
  refine va_newa (atype := .long) (ty := .long) (N' := 5) (a0 := (5, .inr (.inl (fun _ => 0)))) hx hb ac1 rfl hK.1 hP hD hS hA (fun _ => rfl) (by decide) (by decide) (Nat.le_of_ble_eq_true rfl) (Nat.le_of_ble_eq_true rfl) (Nat.le_of_ble_eq_true rfl) dX10_init_48 (fun q6 cq6 H hK1 hP hD hS => ?_)
  obtain rfl : cq6 = tt 1 := z_uniq hK1 1 rfl _ (fun _ h => h)
  clear hK1
  have hP : va_P D vwCl (([(h0, .inr (10, [.ref q1, .ref q2, .ref q3, .int 0, .ref q4, .int 0, .ref q5, .null, .null, .null, .int 0, .int 0, .int 0, .int 0, .null]))] : va_W) ++ ([(q1, .inl (tt 0, 213, .inl (fun _ => 0)))] : va_W) ++ ([(q2, .inl (tt 0, 213, .inl (fun _ => 0)))] : va_W) ++ ([(q3, .inl (tt 0, 852, .inl (fun _ => 0)))] : va_W) ++ ([(q4, .inl (tt 0, 80, .inl (fun _ => 0)))] : va_W) ++ ([(q5, .inl (tt 1, 5, .inr (.inl (fun _ => 0))))] : va_W) ++ ([(q6, .inl (tt 1, 5, .inr (.inl (fun _ => 0))))] : va_W)) H := hP
  have hD : va_D A (([(h0, .inr (10, [.ref q1, .ref q2, .ref q3, .int 0, .ref q4, .int 0, .ref q5, .null, .null, .null, .int 0, .int 0, .int 0, .int 0, .null]))] : va_W) ++ ([(q1, .inl (tt 0, 213, .inl (fun _ => 0)))] : va_W) ++ ([(q2, .inl (tt 0, 213, .inl (fun _ => 0)))] : va_W) ++ ([(q3, .inl (tt 0, 852, .inl (fun _ => 0)))] : va_W) ++ ([(q4, .inl (tt 0, 80, .inl (fun _ => 0)))] : va_W) ++ ([(q5, .inl (tt 1, 5, .inr (.inl (fun _ => 0))))] : va_W) ++ ([(q6, .inl (tt 1, 5, .inr (.inl (fun _ => 0))))] : va_W)) := hD
  refine va_putF (D := D) (ci := 10) (v := .ref q6) (ty := .array .long) (C := RX10) (T := TX10) (N := 15) hx hb hts hi10 tyX10 tyX10_ok nmX10 hown hK.1 hP hD hS 0 rfl rfl 7 (by decide) fl26 (fun _ h9 => h9) rfl hin rfl (by decide +kernel) rfl rfl (Nat.le_of_ble_eq_true rfl) dX10_init_50 (fun H locs hP hD hS => ?_)
  have hP : va_P D vwCl (([(h0, .inr (10, [.ref q1, .ref q2, .ref q3, .int 0, .ref q4, .int 0, .ref q5, .ref q6, .null, .null, .int 0, .int 0, .int 0, .int 0, .null]))] : va_W) ++ ([(q1, .inl (tt 0, 213, .inl (fun _ => 0)))] : va_W) ++ ([(q2, .inl (tt 0, 213, .inl (fun _ => 0)))] : va_W) ++ ([(q3, .inl (tt 0, 852, .inl (fun _ => 0)))] : va_W) ++ ([(q4, .inl (tt 0, 80, .inl (fun _ => 0)))] : va_W) ++ ([(q5, .inl (tt 1, 5, .inr (.inl (fun _ => 0))))] : va_W) ++ ([(q6, .inl (tt 1, 5, .inr (.inl (fun _ => 0))))] : va_W)) H := hP
  have hD : va_D A (([(h0, .inr (10, [.ref q1, .ref q2, .ref q3, .int 0, .ref q4, .int 0, .ref q5, .ref q6, .null, .null, .int 0, .int 0, .int 0, .int 0, .null]))] : va_W) ++ ([(q1, .inl (tt 0, 213, .inl (fun _ => 0)))] : va_W) ++ ([(q2, .inl (tt 0, 213, .inl (fun _ => 0)))] : va_W) ++ ([(q3, .inl (tt 0, 852, .inl (fun _ => 0)))] : va_W) ++ ([(q4, .inl (tt 0, 80, .inl (fun _ => 0)))] : va_W) ++ ([(q5, .inl (tt 1, 5, .inr (.inl (fun _ => 0))))] : va_W) ++ ([(q6, .inl (tt 1, 5, .inr (.inl (fun _ => 0))))] : va_W)) := hD
  refine lv_aload_n hx hb dX10_init_53 rfl (lv_at hl 0 rfl) ?_
  refine lv_iconst (v := 5) hx hb dX10_init_54 (by decide) ?_
  refine va_newa (atype := .long) (ty := .long) (N' := 5) (a0 := (5, .inr (.inl (fun _ => 0)))) hx hb ac1 rfl hK.1 hP hD hS hA (fun _ => rfl) (by decide) (by decide) (Nat.le_of_ble_eq_true rfl) (Nat.le_of_ble_eq_true rfl) (Nat.le_of_ble_eq_true rfl) dX10_init_55 (fun q7 cq7 H hK1 hP hD hS => ?_)
  obtain rfl : cq7 = tt 1 := z_uniq hK1 1 rfl _ (fun _ h => h)
  clear hK1
  have hP : va_P D vwCl (([(h0, .inr (10, [.ref q1, .ref q2, .ref q3, .int 0, .ref q4, .int 0, .ref q5, .ref q6, .null, .null, .int 0, .int 0, .int 0, .int 0, .null]))] : va_W) ++ ([(q1, .inl (tt 0, 213, .inl (fun _ => 0)))] : va_W) ++ ([(q2, .inl (tt 0, 213, .inl (fun _ => 0)))] : va_W) ++ ([(q3, .inl (tt 0, 852, .inl (fun _ => 0)))] : va_W) ++ ([(q4, .inl (tt 0, 80, .inl (fun _ => 0)))] : va_W) ++ ([(q5, .inl (tt 1, 5, .inr (.inl (fun _ => 0))))] : va_W) ++ ([(q6, .inl (tt 1, 5, .inr (.inl (fun _ => 0))))] : va_W) ++ ([(q7, .inl (tt 1, 5, .inr (.inl (fun _ => 0))))] : va_W)) H := hP
  have hD : va_D A (([(h0, .inr (10, [.ref q1, .ref q2, .ref q3, .int 0, .ref q4, .int 0, .ref q5, .ref q6, .null, .null, .int 0, .int 0, .int 0, .int 0, .null]))] : va_W) ++ ([(q1, .inl (tt 0, 213, .inl (fun _ => 0)))] : va_W) ++ ([(q2, .inl (tt 0, 213, .inl (fun _ => 0)))] : va_W) ++ ([(q3, .inl (tt 0, 852, .inl (fun _ => 0)))] : va_W) ++ ([(q4, .inl (tt 0, 80, .inl (fun _ => 0)))] : va_W) ++ ([(q5, .inl (tt 1, 5, .inr (.inl (fun _ => 0))))] : va_W) ++ ([(q6, .inl (tt 1, 5, .inr (.inl (fun _ => 0))))] : va_W) ++ ([(q7, .inl (tt 1, 5, .inr (.inl (fun _ => 0))))] : va_W)) := hD
  refine va_putF (D := D) (ci := 10) (v := .ref q7) (ty := .array .long) (C := RX10) (T := TX10) (N := 15) hx hb hts hi10 tyX10 tyX10_ok nmX10 hown hK.1 hP hD hS 0 rfl rfl 8 (by decide) fl29 (fun _ h9 => h9) rfl hin rfl (by decide +kernel) rfl rfl (Nat.le_of_ble_eq_true rfl) dX10_init_57 (fun H locs hP hD hS => ?_)
  have hP : va_P D vwCl (([(h0, .inr (10, [.ref q1, .ref q2, .ref q3, .int 0, .ref q4, .int 0, .ref q5, .ref q6, .ref q7, .null, .int 0, .int 0, .int 0, .int 0, .null]))] : va_W) ++ ([(q1, .inl (tt 0, 213, .inl (fun _ => 0)))] : va_W) ++ ([(q2, .inl (tt 0, 213, .inl (fun _ => 0)))] : va_W) ++ ([(q3, .inl (tt 0, 852, .inl (fun _ => 0)))] : va_W) ++ ([(q4, .inl (tt 0, 80, .inl (fun _ => 0)))] : va_W) ++ ([(q5, .inl (tt 1, 5, .inr (.inl (fun _ => 0))))] : va_W) ++ ([(q6, .inl (tt 1, 5, .inr (.inl (fun _ => 0))))] : va_W) ++ ([(q7, .inl (tt 1, 5, .inr (.inl (fun _ => 0))))] : va_W)) H := hP
  have hD : va_D A (([(h0, .inr (10, [.ref q1, .ref q2, .ref q3, .int 0, .ref q4, .int 0, .ref q5, .ref q6, .ref q7, .null, .int 0, .int 0, .int 0, .int 0, .null]))] : va_W) ++ ([(q1, .inl (tt 0, 213, .inl (fun _ => 0)))] : va_W) ++ ([(q2, .inl (tt 0, 213, .inl (fun _ => 0)))] : va_W) ++ ([(q3, .inl (tt 0, 852, .inl (fun _ => 0)))] : va_W) ++ ([(q4, .inl (tt 0, 80, .inl (fun _ => 0)))] : va_W) ++ ([(q5, .inl (tt 1, 5, .inr (.inl (fun _ => 0))))] : va_W) ++ ([(q6, .inl (tt 1, 5, .inr (.inl (fun _ => 0))))] : va_W) ++ ([(q7, .inl (tt 1, 5, .inr (.inl (fun _ => 0))))] : va_W)) := hD
  refine lv_aload_n hx hb dX10_init_60 rfl (lv_at hl 0 rfl) ?_
  refine lv_iconst (v := 5) hx hb dX10_init_61 (by decide) ?_
  refine va_newa (atype := .long) (ty := .long) (N' := 5) (a0 := (5, .inr (.inl (fun _ => 0)))) hx hb ac1 rfl hK.1 hP hD hS hA (fun _ => rfl) (by decide) (by decide) (Nat.le_of_ble_eq_true rfl) (Nat.le_of_ble_eq_true rfl) (Nat.le_of_ble_eq_true rfl) dX10_init_62 (fun q8 cq8 H hK1 hP hD hS => ?_)
  obtain rfl : cq8 = tt 1 := z_uniq hK1 1 rfl _ (fun _ h => h)
  clear hK1
  have hP : va_P D vwCl (([(h0, .inr (10, [.ref q1, .ref q2, .ref q3, .int 0, .ref q4, .int 0, .ref q5, .ref q6, .ref q7, .null, .int 0, .int 0, .int 0, .int 0, .null]))] : va_W) ++ ([(q1, .inl (tt 0, 213, .inl (fun _ => 0)))] : va_W) ++ ([(q2, .inl (tt 0, 213, .inl (fun _ => 0)))] : va_W) ++ ([(q3, .inl (tt 0, 852, .inl (fun _ => 0)))] : va_W) ++ ([(q4, .inl (tt 0, 80, .inl (fun _ => 0)))] : va_W) ++ ([(q5, .inl (tt 1, 5, .inr (.inl (fun _ => 0))))] : va_W) ++ ([(q6, .inl (tt 1, 5, .inr (.inl (fun _ => 0))))] : va_W) ++ ([(q7, .inl (tt 1, 5, .inr (.inl (fun _ => 0))))] : va_W) ++ ([(q8, .inl (tt 1, 5, .inr (.inl (fun _ => 0))))] : va_W)) H := hP
  have hD : va_D A (([(h0, .inr (10, [.ref q1, .ref q2, .ref q3, .int 0, .ref q4, .int 0, .ref q5, .ref q6, .ref q7, .null, .int 0, .int 0, .int 0, .int 0, .null]))] : va_W) ++ ([(q1, .inl (tt 0, 213, .inl (fun _ => 0)))] : va_W) ++ ([(q2, .inl (tt 0, 213, .inl (fun _ => 0)))] : va_W) ++ ([(q3, .inl (tt 0, 852, .inl (fun _ => 0)))] : va_W) ++ ([(q4, .inl (tt 0, 80, .inl (fun _ => 0)))] : va_W) ++ ([(q5, .inl (tt 1, 5, .inr (.inl (fun _ => 0))))] : va_W) ++ ([(q6, .inl (tt 1, 5, .inr (.inl (fun _ => 0))))] : va_W) ++ ([(q7, .inl (tt 1, 5, .inr (.inl (fun _ => 0))))] : va_W) ++ ([(q8, .inl (tt 1, 5, .inr (.inl (fun _ => 0))))] : va_W)) := hD
  refine va_putF (D := D) (ci := 10) (v := .ref q8) (ty := .array .long) (C := RX10) (T := TX10) (N := 15) hx hb hts hi10 tyX10 tyX10_ok nmX10 hown hK.1 hP hD hS 0 rfl rfl 9 (by decide) fl32 (fun _ h9 => h9) rfl hin rfl (by decide +kernel) rfl rfl (Nat.le_of_ble_eq_true rfl) dX10_init_64 (fun H locs hP hD hS => ?_)
  have hP : va_P D vwCl (([(h0, .inr (10, [.ref q1, .ref q2, .ref q3, .int 0, .ref q4, .int 0, .ref q5, .ref q6, .ref q7, .ref q8, .int 0, .int 0, .int 0, .int 0, .null]))] : va_W) ++ ([(q1, .inl (tt 0, 213, .inl (fun _ => 0)))] : va_W) ++ ([(q2, .inl (tt 0, 213, .inl (fun _ => 0)))] : va_W) ++ ([(q3, .inl (tt 0, 852, .inl (fun _ => 0)))] : va_W) ++ ([(q4, .inl (tt 0, 80, .inl (fun _ => 0)))] : va_W) ++ ([(q5, .inl (tt 1, 5, .inr (.inl (fun _ => 0))))] : va_W) ++ ([(q6, .inl (tt 1, 5, .inr (.inl (fun _ => 0))))] : va_W) ++ ([(q7, .inl (tt 1, 5, .inr (.inl (fun _ => 0))))] : va_W) ++ ([(q8, .inl (tt 1, 5, .inr (.inl (fun _ => 0))))] : va_W)) H := hP
  have hD : va_D A (([(h0, .inr (10, [.ref q1, .ref q2, .ref q3, .int 0, .ref q4, .int 0, .ref q5, .ref q6, .ref q7, .ref q8, .int 0, .int 0, .int 0, .int 0, .null]))] : va_W) ++ ([(q1, .inl (tt 0, 213, .inl (fun _ => 0)))] : va_W) ++ ([(q2, .inl (tt 0, 213, .inl (fun _ => 0)))] : va_W) ++ ([(q3, .inl (tt 0, 852, .inl (fun _ => 0)))] : va_W) ++ ([(q4, .inl (tt 0, 80, .inl (fun _ => 0)))] : va_W) ++ ([(q5, .inl (tt 1, 5, .inr (.inl (fun _ => 0))))] : va_W) ++ ([(q6, .inl (tt 1, 5, .inr (.inl (fun _ => 0))))] : va_W) ++ ([(q7, .inl (tt 1, 5, .inr (.inl (fun _ => 0))))] : va_W) ++ ([(q8, .inl (tt 1, 5, .inr (.inl (fun _ => 0))))] : va_W)) := hD
  refine lv_aload_n hx hb dX10_init_67 rfl (lv_at hl 0 rfl) ?_
  refine lv_iconst (v := 5) hx hb dX10_init_68 (by decide) ?_
  refine va_newa (atype := .int) (ty := .int) (N' := 5) (a0 := (5, .inl (fun _ => 0))) hx hb ac0 rfl hK.1 hP hD hS hA (fun _ => rfl) (by decide) (by decide) (Nat.le_of_ble_eq_true rfl) (Nat.le_of_ble_eq_true rfl) (Nat.le_of_ble_eq_true rfl) dX10_init_69 (fun q9 cq9 H hK1 hP hD hS => ?_)
  obtain rfl : cq9 = tt 0 := z_uniq hK1 0 rfl _ (fun _ h => h)
  clear hK1
  have hP : va_P D vwCl (([(h0, .inr (10, [.ref q1, .ref q2, .ref q3, .int 0, .ref q4, .int 0, .ref q5, .ref q6, .ref q7, .ref q8, .int 0, .int 0, .int 0, .int 0, .null]))] : va_W) ++ ([(q1, .inl (tt 0, 213, .inl (fun _ => 0)))] : va_W) ++ ([(q2, .inl (tt 0, 213, .inl (fun _ => 0)))] : va_W) ++ ([(q3, .inl (tt 0, 852, .inl (fun _ => 0)))] : va_W) ++ ([(q4, .inl (tt 0, 80, .inl (fun _ => 0)))] : va_W) ++ ([(q5, .inl (tt 1, 5, .inr (.inl (fun _ => 0))))] : va_W) ++ ([(q6, .inl (tt 1, 5, .inr (.inl (fun _ => 0))))] : va_W) ++ ([(q7, .inl (tt 1, 5, .inr (.inl (fun _ => 0))))] : va_W) ++ ([(q8, .inl (tt 1, 5, .inr (.inl (fun _ => 0))))] : va_W) ++ ([(q9, .inl (tt 0, 5, .inl (fun _ => 0)))] : va_W)) H := hP
  have hD : va_D A (([(h0, .inr (10, [.ref q1, .ref q2, .ref q3, .int 0, .ref q4, .int 0, .ref q5, .ref q6, .ref q7, .ref q8, .int 0, .int 0, .int 0, .int 0, .null]))] : va_W) ++ ([(q1, .inl (tt 0, 213, .inl (fun _ => 0)))] : va_W) ++ ([(q2, .inl (tt 0, 213, .inl (fun _ => 0)))] : va_W) ++ ([(q3, .inl (tt 0, 852, .inl (fun _ => 0)))] : va_W) ++ ([(q4, .inl (tt 0, 80, .inl (fun _ => 0)))] : va_W) ++ ([(q5, .inl (tt 1, 5, .inr (.inl (fun _ => 0))))] : va_W) ++ ([(q6, .inl (tt 1, 5, .inr (.inl (fun _ => 0))))] : va_W) ++ ([(q7, .inl (tt 1, 5, .inr (.inl (fun _ => 0))))] : va_W) ++ ([(q8, .inl (tt 1, 5, .inr (.inl (fun _ => 0))))] : va_W) ++ ([(q9, .inl (tt 0, 5, .inl (fun _ => 0)))] : va_W)) := hD
  refine va_putF (D := D) (ci := 10) (v := .ref q9) (ty := .array .int) (C := RX10) (T := TX10) (N := 15) hx hb hts hi10 tyX10 tyX10_ok nmX10 hown hK.1 hP hD hS 0 rfl rfl 14 (by decide) fl35 (fun _ h9 => h9) rfl hin rfl (by decide +kernel) rfl rfl (Nat.le_of_ble_eq_true rfl) dX10_init_71 (fun H locs hP hD hS => ?_)
  have hP : va_P D vwCl (([(h0, .inr (10, [.ref q1, .ref q2, .ref q3, .int 0, .ref q4, .int 0, .ref q5, .ref q6, .ref q7, .ref q8, .int 0, .int 0, .int 0, .int 0, .ref q9]))] : va_W) ++ ([(q1, .inl (tt 0, 213, .inl (fun _ => 0)))] : va_W) ++ ([(q2, .inl (tt 0, 213, .inl (fun _ => 0)))] : va_W) ++ ([(q3, .inl (tt 0, 852, .inl (fun _ => 0)))] : va_W) ++ ([(q4, .inl (tt 0, 80, .inl (fun _ => 0)))] : va_W) ++ ([(q5, .inl (tt 1, 5, .inr (.inl (fun _ => 0))))] : va_W) ++ ([(q6, .inl (tt 1, 5, .inr (.inl (fun _ => 0))))] : va_W) ++ ([(q7, .inl (tt 1, 5, .inr (.inl (fun _ => 0))))] : va_W) ++ ([(q8, .inl (tt 1, 5, .inr (.inl (fun _ => 0))))] : va_W) ++ ([(q9, .inl (tt 0, 5, .inl (fun _ => 0)))] : va_W)) H := hP
  have hD : va_D A (([(h0, .inr (10, [.ref q1, .ref q2, .ref q3, .int 0, .ref q4, .int 0, .ref q5, .ref q6, .ref q7, .ref q8, .int 0, .int 0, .int 0, .int 0, .ref q9]))] : va_W) ++ ([(q1, .inl (tt 0, 213, .inl (fun _ => 0)))] : va_W) ++ ([(q2, .inl (tt 0, 213, .inl (fun _ => 0)))] : va_W) ++ ([(q3, .inl (tt 0, 852, .inl (fun _ => 0)))] : va_W) ++ ([(q4, .inl (tt 0, 80, .inl (fun _ => 0)))] : va_W) ++ ([(q5, .inl (tt 1, 5, .inr (.inl (fun _ => 0))))] : va_W) ++ ([(q6, .inl (tt 1, 5, .inr (.inl (fun _ => 0))))] : va_W) ++ ([(q7, .inl (tt 1, 5, .inr (.inl (fun _ => 0))))] : va_W) ++ ([(q8, .inl (tt 1, 5, .inr (.inl (fun _ => 0))))] : va_W) ++ ([(q9, .inl (tt 0, 5, .inl (fun _ => 0)))] : va_W)) := hD
  refine lv_aload_n hx hb dX10_init_74 rfl (lv_at hl 0 rfl) ?_
  refine va_get (D := D) (ci := 10) (v := .ref q1) (C := RX10) (T := TX10) (N := 15) hx hb hts hi10 hown hK.1 hP 0 rfl rfl 0 (by decide) fl7 (fun _ h9 => h9) rfl dX10_init_75 ?_
  refine lv_iconst (v := 0) hx hb dX10_init_78 (by decide) ?_
  refine lv_iconst (v := 1) hx hb dX10_init_79 (by decide) ?_
  refine va_iast hx hb hK.1 hP hD hS 1 0 rfl rfl (vp_in_lit 0 213 rfl) dX10_init_80 (fun H locs hP hD hS => ?_)
  have hP : va_P D vwCl (([(h0, .inr (10, [.ref q1, .ref q2, .ref q3, .int 0, .ref q4, .int 0, .ref q5, .ref q6, .ref q7, .ref q8, .int 0, .int 0, .int 0, .int 0, .ref q9]))] : va_W) ++ ([(q1, .inl (tt 0, 213, .inl (upd (fun _ => 0) (0 : Int32).toNatClampNeg 1)))] : va_W) ++ ([(q2, .inl (tt 0, 213, .inl (fun _ => 0)))] : va_W) ++ ([(q3, .inl (tt 0, 852, .inl (fun _ => 0)))] : va_W) ++ ([(q4, .inl (tt 0, 80, .inl (fun _ => 0)))] : va_W) ++ ([(q5, .inl (tt 1, 5, .inr (.inl (fun _ => 0))))] : va_W) ++ ([(q6, .inl (tt 1, 5, .inr (.inl (fun _ => 0))))] : va_W) ++ ([(q7, .inl (tt 1, 5, .inr (.inl (fun _ => 0))))] : va_W) ++ ([(q8, .inl (tt 1, 5, .inr (.inl (fun _ => 0))))] : va_W) ++ ([(q9, .inl (tt 0, 5, .inl (fun _ => 0)))] : va_W)) H := hP
  have hD : va_D A (([(h0, .inr (10, [.ref q1, .ref q2, .ref q3, .int 0, .ref q4, .int 0, .ref q5, .ref q6, .ref q7, .ref q8, .int 0, .int 0, .int 0, .int 0, .ref q9]))] : va_W) ++ ([(q1, .inl (tt 0, 213, .inl (upd (fun _ => 0) (0 : Int32).toNatClampNeg 1)))] : va_W) ++ ([(q2, .inl (tt 0, 213, .inl (fun _ => 0)))] : va_W) ++ ([(q3, .inl (tt 0, 852, .inl (fun _ => 0)))] : va_W) ++ ([(q4, .inl (tt 0, 80, .inl (fun _ => 0)))] : va_W) ++ ([(q5, .inl (tt 1, 5, .inr (.inl (fun _ => 0))))] : va_W) ++ ([(q6, .inl (tt 1, 5, .inr (.inl (fun _ => 0))))] : va_W) ++ ([(q7, .inl (tt 1, 5, .inr (.inl (fun _ => 0))))] : va_W) ++ ([(q8, .inl (tt 1, 5, .inr (.inl (fun _ => 0))))] : va_W) ++ ([(q9, .inl (tt 0, 5, .inl (fun _ => 0)))] : va_W)) := hD
  refine lv_aload_n hx hb dX10_init_81 rfl (lv_at hl 0 rfl) ?_
  refine va_get (D := D) (ci := 10) (v := .ref q1) (C := RX10) (T := TX10) (N := 15) hx hb hts hi10 hown hK.1 hP 0 rfl rfl 0 (by decide) fl7 (fun _ h9 => h9) rfl dX10_init_82 ?_
  refine lv_bipush (v := 32) hx hb dX10_init_85 (by decide) ?_
  refine lv_iconst (v := 1) hx hb dX10_init_87 (by decide) ?_
  refine va_iast hx hb hK.1 hP hD hS 1 0 rfl rfl (vp_in_lit 32 213 rfl) dX10_init_88 (fun H locs hP hD hS => ?_)
  have hP : va_P D vwCl (([(h0, .inr (10, [.ref q1, .ref q2, .ref q3, .int 0, .ref q4, .int 0, .ref q5, .ref q6, .ref q7, .ref q8, .int 0, .int 0, .int 0, .int 0, .ref q9]))] : va_W) ++ ([(q1, .inl (tt 0, 213, .inl (upd (upd (fun _ => 0) (0 : Int32).toNatClampNeg 1) (32 : Int32).toNatClampNeg 1)))] : va_W) ++ ([(q2, .inl (tt 0, 213, .inl (fun _ => 0)))] : va_W) ++ ([(q3, .inl (tt 0, 852, .inl (fun _ => 0)))] : va_W) ++ ([(q4, .inl (tt 0, 80, .inl (fun _ => 0)))] : va_W) ++ ([(q5, .inl (tt 1, 5, .inr (.inl (fun _ => 0))))] : va_W) ++ ([(q6, .inl (tt 1, 5, .inr (.inl (fun _ => 0))))] : va_W) ++ ([(q7, .inl (tt 1, 5, .inr (.inl (fun _ => 0))))] : va_W) ++ ([(q8, .inl (tt 1, 5, .inr (.inl (fun _ => 0))))] : va_W) ++ ([(q9, .inl (tt 0, 5, .inl (fun _ => 0)))] : va_W)) H := hP
  have hD : va_D A (([(h0, .inr (10, [.ref q1, .ref q2, .ref q3, .int 0, .ref q4, .int 0, .ref q5, .ref q6, .ref q7, .ref q8, .int 0, .int 0, .int 0, .int 0, .ref q9]))] : va_W) ++ ([(q1, .inl (tt 0, 213, .inl (upd (upd (fun _ => 0) (0 : Int32).toNatClampNeg 1) (32 : Int32).toNatClampNeg 1)))] : va_W) ++ ([(q2, .inl (tt 0, 213, .inl (fun _ => 0)))] : va_W) ++ ([(q3, .inl (tt 0, 852, .inl (fun _ => 0)))] : va_W) ++ ([(q4, .inl (tt 0, 80, .inl (fun _ => 0)))] : va_W) ++ ([(q5, .inl (tt 1, 5, .inr (.inl (fun _ => 0))))] : va_W) ++ ([(q6, .inl (tt 1, 5, .inr (.inl (fun _ => 0))))] : va_W) ++ ([(q7, .inl (tt 1, 5, .inr (.inl (fun _ => 0))))] : va_W) ++ ([(q8, .inl (tt 1, 5, .inr (.inl (fun _ => 0))))] : va_W) ++ ([(q9, .inl (tt 0, 5, .inl (fun _ => 0)))] : va_W)) := hD
  have hP9 := hP.sub (ws' := zw_mo tt (zu (zu (zu (zu (zu (zu (zu (zu (zu (zu (fun _ => 0) 0 h0) 1 q1) 2 q2) 3 q3) 4 q4) 6 q5) 7 q6) 8 q7) 9 q8) 5 q9) zw0 (fun _ _ => 0)) [0, 1, 2, 3, 4, 9, 5, 6, 7, 8] rfl
  have hD9 := hD.sub (ws' := zw_mo tt (zu (zu (zu (zu (zu (zu (zu (zu (zu (zu (fun _ => 0) 0 h0) 1 q1) 2 q2) 3 q3) 4 q4) 6 q5) 7 q6) 8 q7) 9 q8) 5 q9) zw0 (fun _ _ => 0)) [0, 1, 2, 3, 4, 9, 5, 6, 7, 8] (by decide) rfl
  exact W.vret hx hb hr (fun t ht hW => ⟨⟨(zu (zu (zu (zu (zu (zu (zu (zu (zu (zu (fun _ => 0) 0 h0) 1 q1) 2 q2) 3 q3) 4 q4) 6 q5) 7 q6) 8 q7) 9 q8) 5 q9), rfl, rfl, by rw [ht]; exact hP9, hD9⟩, hS.F ht⟩) hS.2.2 dX10_init_89
