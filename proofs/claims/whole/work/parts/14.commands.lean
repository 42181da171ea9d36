/-! ===== contracts: commands ===== -/
def zQa (q : Nat) : Array Value → State → Outcome → State → Prop := fun _ st oc t => oc = .returned (some (.ref q)) ∧ t.heap = st.heap
section ZCA
variable {p : Program} {l : Launch} {e : Env} {R : Room} {s : State} {m : MethodId} {args : Array Value} {below : List Frame} {meth : Method} {c : Code} {H : Heap} {locs : List Loc} {cells slots : Nat} {Q : State → Prop}
variable {pc : Nat} {ls : Array Slot} {rest st0 : List Value} {a : Array Value}
theorem z_callra {q : Nat} (hr : va_Run p l e R s m args below meth c H locs cells slots 0 0 (F0 m pc ls st0) rest (zQa q a) (fun _ => False))
    (kk : W p l e R s m args below meth c H locs cells slots Q (F0 m (pc + 3) ls (.ref q :: rest))) : W p l e R s m args below meth c H locs cells slots Q (F0 m pc ls st0) := by
  intro T hT X
  obtain ⟨v, st₀, t, T', L, h0, X', hL, e1, -, ⟨hv, hh⟩, st⟩ := hr T hT X
  cases hv
  obtain ⟨t2, a1, b1⟩ := kk T' (by rw [e1, hh, h0]) (Stand.forget X' (fun q h => (hL q h).elim))
  exact ⟨t2, st t2 a1, b1⟩
end ZCA
set_option maxHeartbeats 4000000 in
theorem c_X8_wordOf (l : Launch) (gs : zGs) (i : Nat) (hi : i < 7) : Met l yX8_wordOf wsX8_wordOf { frames := 0, cells := 0, slots := 0, locals := 0 } (zPs [.int (nI i)] gs) (zQa (gs.1 i)) 0 0 (fun _ => False) := by
  refine Met.ofW (cc := cX8_wordOf) (maxL := 1) (ret := (some (.object "java/lang/String"))) (by decide) rfl ?_
  intro p e s m args below meth c s₁ B hml hv
  obtain ⟨ha, hG⟩ := hv
  have hx := B.exec
  have hb := B.bytes
  have hr := B.returns
  have hown : s.vm.findClass RX8 = some m.cls := findClass_of_methodNamed B.named
  have hlocks := B.notSynchronized
  have hl := lv_entry ([.int (nI i)]) (n := 1) (Nat.le_of_ble_eq_true rfl)
  subst ha
  rw [lg_entry_eq]
  generalize (lg_sl ([.int (nI i)]) ++ List.replicate (1 - (lg_sl ([.int (nI i)])).length) Slot.unset).toArray = ls at hl ⊢
  have hl : lv_has ls 1 [(0, .int (nI i))] := hl
  have hfin : ∀ (q : Nat) (pc : Nat) (ls : Array Slot), q = gs.1 i → decode cX8_wordOf pc = .ok (.areturn, 1) → W p l e (headSpec wsX8_wordOf { frames := 0, cells := 0, slots := 0, locals := 0 }).room s m #[.int (nI i)] below meth c s.heap [] 0 0 (MQ below (zQa (gs.1 i)) #[.int (nI i)] s 0 0 (fun _ => False)) (F0 m pc ls [.ref q]) := by
    intro q pc ls he hd
    subst he
    exact W.aret (v := .ref (gs.1 i)) hx hb hr (Or.inl ⟨_, rfl⟩) (Or.inr ⟨_, rfl⟩) (fun t ht hW => ⟨rfl, ht⟩) (fun _ h => by cases h) hd
  refine lv_iload_n hx hb dX8_wordOf_0 rfl (lv_at hl 0 rfl) ?_
  match i, hi with
  | 0, _ =>
    refine lv_tableIn (off := 39) (tgt := 40) hx hb dX8_wordOf_1 (by decide) (by decide) (by decide) (by decide) ?_
    refine va_ldcS hx hb hown (hG.1 0 (by decide)) dX8_wordOf_40 ?_
    exact hfin _ _ _ rfl dX8_wordOf_42
  | 1, _ =>
    refine lv_tableIn (off := 42) (tgt := 43) hx hb dX8_wordOf_1 (by decide) (by decide) (by decide) (by decide) ?_
    refine va_ldcS hx hb hown (hG.1 1 (by decide)) dX8_wordOf_43 ?_
    exact hfin _ _ _ rfl dX8_wordOf_45
  | 2, _ =>
    refine lv_tableIn (off := 45) (tgt := 46) hx hb dX8_wordOf_1 (by decide) (by decide) (by decide) (by decide) ?_
    refine va_ldcS hx hb hown (hG.1 2 (by decide)) dX8_wordOf_46 ?_
    exact hfin _ _ _ rfl dX8_wordOf_48
  | 3, _ =>
    refine lv_tableIn (off := 48) (tgt := 49) hx hb dX8_wordOf_1 (by decide) (by decide) (by decide) (by decide) ?_
    refine va_ldcS hx hb hown (hG.1 3 (by decide)) dX8_wordOf_49 ?_
    exact hfin _ _ _ rfl dX8_wordOf_51
  | 4, _ =>
    refine lv_tableIn (off := 51) (tgt := 52) hx hb dX8_wordOf_1 (by decide) (by decide) (by decide) (by decide) ?_
    refine va_ldcS hx hb hown (hG.1 4 (by decide)) dX8_wordOf_52 ?_
    exact hfin _ _ _ rfl dX8_wordOf_54
  | 5, _ =>
    refine lv_tableIn (off := 54) (tgt := 55) hx hb dX8_wordOf_1 (by decide) (by decide) (by decide) (by decide) ?_
    refine va_ldcS hx hb hown (hG.1 5 (by decide)) dX8_wordOf_55 ?_
    exact hfin _ _ _ rfl dX8_wordOf_57
  | 6, _ =>
    refine lv_tableOut (tgt := 58) hx hb dX8_wordOf_1 (by decide) (by decide) ?_
    refine va_ldcS hx hb hown (hG.1 6 (by decide)) dX8_wordOf_58 ?_
    exact hfin _ _ _ rfl dX8_wordOf_60
  | j + 7, h => exact absurd h (by omega)
set_option maxHeartbeats 4000000 in
set_option maxRecDepth 100000 in
theorem c_X8_behindWord (l : Launch) (D : va_G) (tt : Nat → ClassId) (gs : zGs) (kt : Nat → Nat) (bt : zV) (x1 : Int32) (i : Nat) (hi : i < 7) (out : Int32) (h : f_X8_behindWord bt x1 i = some out) : Met l yX8_behindWord wsX8_behindWord { frames := 4, cells := 0, slots := 0, locals := 85 } (zPh [.ref (kt 0), .int x1, .ref (gs.1 i)] D tt (zw_tx tt kt bt) gs) (zQr .int out) 0 0 (fun _ => False) := by
  refine Met.ofW (cc := cX8_behindWord) (maxL := 4) (ret := (some .int)) (by decide) rfl ?_
  intro p e s m args below meth c s₁ B hml hv
  obtain ⟨ha, hP, hK, hG⟩ := hv
  have hx := B.exec
  have hb := B.bytes
  have hr := B.returns
  have hts := atoms_spec (ws := wsX8_behindWord) B.pre
  have hown : s.vm.findClass RX8 = some m.cls := findClass_of_methodNamed B.named
  have hlocks := B.notSynchronized
  have h5 := zLen_ok i hi
  have hS : va_S (fun _ => False) s.heap s.heap [] := va_S.rf
  have hfin : ∀ (v : Int32) (pc : Nat) (ls : Array Slot), some v = some out → decode cX8_behindWord pc = .ok (.ireturn, 1) → W p l e (headSpec wsX8_behindWord { frames := 4, cells := 0, slots := 0, locals := 85 }).room s m args below meth c s.heap [] 0 0 (MQ below (zQr .int out) args s 0 0 (fun _ => False)) (F0 m pc ls [.int v]) := by
    intro v pc ls he hd
    cases he
    exact W.zret hx hb hr rfl (fun t ht hW => ⟨rfl, rfl, ht⟩) (fun _ h => by cases h) hd
  generalize MQ below (zQr .int out) args s 0 0 (fun _ => False) = Q at hfin ⊢
  have b2 : ∀ (n j : Nat) (ls : Array Slot), j ≤ 5 → lv_has ls 4 [(0, .ref (kt 0)), (1, .int x1), (2, .ref (gs.1 i)), (3, .int (nI j))] → f_X8_behindWord_b2 bt x1 i n j = some out → W p l e (headSpec wsX8_behindWord { frames := 4, cells := 0, slots := 0, locals := 85 }).room s m args below meth c s.heap [] 0 0 Q (F0 m 2 ls []) := by
    intro n
    induction n with
    | zero =>
      intro j ls hj hl h
      cases h
    | succ n ih =>
      intro j ls hj hl h
      rw [f_X8_behindWord_b2] at h
      refine lv_iload_n hx hb dX8_behindWord_2 rfl (lv_at hl 3 rfl) ?_
      refine lv_aload_n hx hb dX8_behindWord_3 rfl (lv_at hl 2 rfl) ?_
      refine z_callr (va_runV (As := []) (rest := [.int (nI j)]) ⟨hx, hb, hml, hown, hts⟩ (c_J0_length l gs i hi) (cwV 0 hts gX8_behindWord_J0_length_8abf5 rfl rfl rfl (by decide +kernel) ⟨Nat.le_of_ble_eq_true rfl, Nat.le_of_ble_eq_true rfl⟩) (z_preVs hi hG hS) rfl rfl hl.1 rfl (lv_room (Nat.le_of_ble_eq_true rfl)) dX8_behindWord_4 ⟨Nat.zero_le _, Nat.zero_le _⟩) (fun _ => ?_)
      refine lv_icmp_ge (tgt := 33) hx hb dX8_behindWord_7 (by decide) (fun k => ?_) (fun k => ?_)
      · have k2 : zLen.getD i 0 ≤ j := (nI_leI (by omega) (by omega)).mp k
        replace h := z_pos k2 h
        refine lv_iload_n hx hb dX8_behindWord_33 rfl (lv_at hl 1 rfl) ?_
        refine lv_aload_n hx hb dX8_behindWord_34 rfl (lv_at hl 2 rfl) ?_
        refine z_callr (va_runV (As := []) (rest := [.int x1]) ⟨hx, hb, hml, hown, hts⟩ (c_J0_length l gs i hi) (cwV 0 hts gX8_behindWord_J0_length_8abf5 rfl rfl rfl (by decide +kernel) ⟨Nat.le_of_ble_eq_true rfl, Nat.le_of_ble_eq_true rfl⟩) (z_preVs hi hG hS) rfl rfl hl.1 rfl (lv_room (Nat.le_of_ble_eq_true rfl)) dX8_behindWord_35 ⟨Nat.zero_le _, Nat.zero_le _⟩) (fun _ => ?_)
        refine lv_iadd hx hb dX8_behindWord_38 ?_
        exact hfin _ _ _ h dX8_behindWord_39
      · have k2 : ¬ zLen.getD i 0 ≤ j := fun q => k ((nI_leI (by omega) (by omega)).mpr q)
        replace h := z_neg k2 h
        refine lv_aload_n hx hb dX8_behindWord_10 rfl (lv_at hl 0 rfl) ?_
        refine lv_iload_n hx hb dX8_behindWord_11 rfl (lv_at hl 1 rfl) ?_
        refine lv_iload_n hx hb dX8_behindWord_12 rfl (lv_at hl 3 rfl) ?_
        refine lv_iadd hx hb dX8_behindWord_13 ?_
        refine lv_aload_n hx hb dX8_behindWord_14 rfl (lv_at hl 2 rfl) ?_
        refine lv_iload_n hx hb dX8_behindWord_15 rfl (lv_at hl 3 rfl) ?_
        refine z_callr (va_runV (As := [.int (nI j)]) (rest := [.int (x1 + nI j), .ref (kt 0)]) ⟨hx, hb, hml, hown, hts⟩ (c_J0_charAt l gs i j hi (by omega)) (cwV 1 hts gX8_behindWord_J0_charAt_5068e rfl rfl rfl (by decide +kernel) ⟨Nat.le_of_ble_eq_true rfl, Nat.le_of_ble_eq_true rfl⟩) (z_preVs hi hG hS) rfl rfl hl.1 rfl (lv_room (Nat.le_of_ble_eq_true rfl)) dX8_behindWord_16 ⟨Nat.zero_le _, Nat.zero_le _⟩) (fun _ => ?_)
        obtain ⟨y, gy, h⟩ := zb_some h
        refine z_callr (va_runV (As := [.int (x1 + nI j), .int (zCh i j)]) (rest := []) ⟨hx, hb, hml, hown, hts⟩ (c_X8_stands l D tt kt bt (x1 + nI j) (zCh i j) y gy) (cwV 2 hts gX8_behindWord_X8_stands rfl rfl rfl (by decide +kernel) ⟨Nat.le_of_ble_eq_true rfl, Nat.le_of_ble_eq_true rfl⟩) (z_preVr hK hP (ci := 8) (q0 := 0) rfl rfl) rfl rfl hl.1 rfl (lv_room (Nat.le_of_ble_eq_true rfl)) dX8_behindWord_19 ⟨Nat.zero_le _, Nat.zero_le _⟩) (fun _ => ?_)
        refine lv_if_ne (tgt := 27) hx hb dX8_behindWord_22 (by decide) (fun k3 => ?_) (fun k3 => ?_)
        · replace h := z_neg k3 h
          refine lv_iinc (v := nI (j + 1)) (lv' := [(3, .int (nI (j + 1))), (0, .ref (kt 0)), (1, .int x1), (2, .ref (gs.1 i))]) hx hb dX8_behindWord_27 hl (k := 3) rfl (by rw [nI_succ]; rfl) (by decide) rfl (fun ls hl => ?_)
          refine lv_goto (tgt := 2) hx hb dX8_behindWord_30 (by decide) ?_
          exact ih (j + 1) _ (by omega) (lv_sub hl [1, 2, 3, 0] rfl) h
        · replace h := z_pos k3 h
          refine lv_iconst (v := -1) hx hb dX8_behindWord_25 (by decide) ?_
          exact hfin _ _ _ h dX8_behindWord_26
  have hl := lv_entry ([.ref (kt 0), .int x1, .ref (gs.1 i)]) (n := 4) (Nat.le_of_ble_eq_true rfl)
  subst ha
  rw [lg_entry_eq]
  generalize (lg_sl ([.ref (kt 0), .int x1, .ref (gs.1 i)]) ++ List.replicate (4 - (lg_sl ([.ref (kt 0), .int x1, .ref (gs.1 i)])).length) Slot.unset).toArray = ls at hl ⊢
  have hl : lv_has ls 4 [(0, .ref (kt 0)), (1, .int x1), (2, .ref (gs.1 i))] := hl
  refine lv_iconst (v := 0) hx hb dX8_behindWord_0 (by decide) ?_
  refine lv_istore_n (lv' := [(3, .int 0), (0, .ref (kt 0)), (1, .int x1), (2, .ref (gs.1 i))]) hx hb dX8_behindWord_1 rfl hl (by decide) rfl (fun ls hl => ?_)
  exact b2 10 0 _ (by omega) (lv_sub hl [1, 2, 3, 0] rfl) h
set_option maxHeartbeats 4000000 in
set_option maxRecDepth 100000 in
theorem c_X8_readCommand (l : Launch) (D : va_G) (tt : Nat → ClassId) (gs : zGs) (kt : Nat → Nat) (sz : Nat) (bt : zV) (x1 : Int32) (out : Int32 × zV) (h : f_X8_readCommand bt x1 = some out) : Met l yX8_readCommand wsX8_readCommand { frames := 6, cells := 0, slots := 0, locals := 143 } (zPg [.ref (kt 0), .int x1] D tt (zw_tx tt kt bt) sz gs) (zMi .int out.1 D (zw_tx tt kt out.2) (va_A (zw_tx tt kt bt) sz)) 0 0 (va_A (zw_tx tt kt bt) sz) := by
  refine Met.ofW (cc := cX8_readCommand) (maxL := 4) (ret := (some .int)) (by decide) rfl ?_
  intro p e s m args below meth c s₁ B hml hv
  obtain ⟨ha, hsz, hP, hK, hD0, hG⟩ := hv
  have hx := B.exec
  have hb := B.bytes
  have hr := B.returns
  have hts := atoms_spec (ws := wsX8_readCommand) B.pre
  have hown : s.vm.findClass RX8 = some m.cls := findClass_of_methodNamed B.named
  have hlocks := B.notSynchronized
  have hi8 : ∀ w ∈ u_ws RX8 TX8 4, w ∈ wsX8_readCommand := fun _ h => List.mem_cons_of_mem _ (List.mem_append_right _ h)
  have fl35 := hts (.fieldLink RX8 35 "CapStacks$Text" "verb" "I") (by decide +kernel)
  subst hsz
  have hD := hD0.self (sz := s.heap.size)
  generalize hAe : va_A (zw_tx tt kt bt) s.heap.size = A at hD hG ⊢
  have hA : ∀ q : Nat, s.heap.size ≤ q → A q := fun q h => by rw [← hAe]; exact Or.inr h
  have hS : va_S A s.heap s.heap [] := va_S.rf
  have hfin : ∀ (v : Int32) (bt : zV) (pc : Nat) (ls : Array Slot) (H : Heap) (locs : List Loc), some (v, bt) = some out → va_P D vwCl (zw_tx tt kt bt) H → va_D A (zw_tx tt kt bt) → va_S A s.heap H locs → decode cX8_readCommand pc = .ok (.ireturn, 1) → W p l e (headSpec wsX8_readCommand { frames := 6, cells := 0, slots := 0, locals := 143 }).room s m args below meth c H locs 0 0 (MQ below (zMi .int out.1 D (zw_tx tt kt out.2) A) args s 0 0 A) (F0 m pc ls [.int v]) := by
    intro v bt pc ls H locs he hP hD hS hd
    cases he
    exact W.zret (v := v) hx hb hr rfl (fun t ht hW => ⟨⟨_, (), rfl, ⟨rfl, rfl⟩, by rw [ht]; exact hP, hD⟩, hS.F ht⟩) hS.2.2 hd
  generalize MQ below (zMi .int out.1 D (zw_tx tt kt out.2) A) args s 0 0 A = Q at hfin ⊢
  have b2 : ∀ (n : Nat) (bt : zV) (i : Nat) (H : Heap) (locs : List Loc) (ls : Array Slot), i ≤ 7 → va_P D vwCl (zw_tx tt kt bt) H → va_D A (zw_tx tt kt bt) → va_S A s.heap H locs → lv_has ls 4 [(0, .ref (kt 0)), (1, .int x1), (2, .int (nI i))] → f_X8_readCommand_b2 x1 n bt i = some out → W p l e (headSpec wsX8_readCommand { frames := 6, cells := 0, slots := 0, locals := 143 }).room s m args below meth c H locs 0 0 Q (F0 m 2 ls []) := by
    intro n
    induction n with
    | zero =>
      intro bt i H locs ls hi hP hD hS hl h
      cases h
    | succ n ih =>
      intro bt i H locs ls hi hP hD hS hl h
      rw [f_X8_readCommand_b2] at h
      refine lv_iload_n hx hb dX8_readCommand_2 rfl (lv_at hl 2 rfl) ?_
      refine lv_bipush (v := 6) hx hb dX8_readCommand_3 (by decide) ?_
      refine lv_icmp_gt (tgt := 45) hx hb dX8_readCommand_5 (by decide) (fun k => ?_) (fun k => ?_)
      · have k2 : 6 < i := (nI_ltI (a := 6) (b := i) (by omega) (by omega)).mp k
        replace h := z_pos k2 h
        refine lv_iconst (v := -1) hx hb dX8_readCommand_45 (by decide) ?_
        exact hfin _ _ _ _ _ _ h hP hD hS dX8_readCommand_46
      have k2 : ¬ 6 < i := fun q => k ((nI_ltI (a := 6) (b := i) (by omega) (by omega)).mpr q)
      replace h := z_neg k2 h
      have hi7 : i < 7 := by omega
      refine lv_aload_n hx hb dX8_readCommand_8 rfl (lv_at hl 0 rfl) ?_
      refine lv_iload_n hx hb dX8_readCommand_9 rfl (lv_at hl 1 rfl) ?_
      refine lv_iload_n hx hb dX8_readCommand_10 rfl (lv_at hl 2 rfl) ?_
      refine z_callra (va_runS (As := [.int (nI i)]) (rest := [.int x1, .ref (kt 0)]) ⟨hx, hb, hml, hown, hts⟩ (c_X8_wordOf l gs i hi7) (va_cwS 1 hts gX8_readCommand_X8_wordOf rfl rfl rfl (by decide +kernel) ⟨Nat.le_of_ble_eq_true rfl, Nat.le_of_ble_eq_true rfl⟩) (z_preSs hG hS) rfl rfl hl.1 rfl (lv_room (Nat.le_of_ble_eq_true rfl)) dX8_readCommand_11 ⟨Nat.zero_le _, Nat.zero_le _⟩) ?_
      obtain ⟨y, gy, h⟩ := zb_some h
      refine z_callr (va_runV (As := [.int x1, .ref (gs.1 i)]) (rest := []) ⟨hx, hb, hml, hown, hts⟩ (c_X8_behindWord l D tt gs kt bt x1 i hi7 y gy) (cwV 2 hts gX8_readCommand_X8_behindWord rfl rfl rfl (by decide +kernel) ⟨Nat.le_of_ble_eq_true rfl, Nat.le_of_ble_eq_true rfl⟩) (z_preVh hK hP hG hS (ci := 8) (q0 := 0) rfl rfl) rfl rfl hl.1 rfl (lv_room (Nat.le_of_ble_eq_true rfl)) dX8_readCommand_14 ⟨Nat.zero_le _, Nat.zero_le _⟩) (fun _ => ?_)
      refine lv_istore_n (lv' := [(3, .int y), (0, .ref (kt 0)), (1, .int x1), (2, .int (nI i))]) hx hb dX8_readCommand_17 rfl hl (by decide) rfl (fun ls hl => ?_)
      refine lv_iload_n hx hb dX8_readCommand_18 rfl (lv_at hl 0 rfl) ?_
      refine lv_iconst (v := -1) hx hb dX8_readCommand_19 (by decide) ?_
      refine lv_icmp_eq (tgt := 39) hx hb dX8_readCommand_20 (by decide) (fun k3 => ?_) (fun k3 => ?_)
      · replace h := z_pos k3 h
        refine lv_iinc (v := nI (i + 1)) (lv' := [(2, .int (nI (i + 1))), (3, .int y), (0, .ref (kt 0)), (1, .int x1)]) hx hb dX8_readCommand_39 hl (k := 3) rfl (by rw [nI_succ]; rfl) (by decide) rfl (fun ls hl => ?_)
        refine lv_goto (tgt := 2) hx hb dX8_readCommand_42 (by decide) ?_
        exact ih bt (i + 1) _ _ _ (by omega) hP hD hS (lv_sub hl [2, 3, 0] rfl) h
      replace h := z_neg k3 h
      refine lv_aload_n hx hb dX8_readCommand_23 rfl (lv_at hl 1 rfl) ?_
      refine lv_iload_n hx hb dX8_readCommand_24 rfl (lv_at hl 3 rfl) ?_
      refine va_put (D := D) (ci := 8) (v := .int (nI i)) (ty := .int) (C := RX8) (T := TX8) (N := 4) hx hb hts hi8 tyX8 tyX8_ok nmX8 hown hK.1 hP hD hS 0 rfl rfl 1 (by decide) fl35 (fun _ h9 => h9) rfl (by decide +kernel) rfl rfl (Nat.le_of_ble_eq_true rfl) dX8_readCommand_25 (fun H locs hP hD hS => ?_)
      have hP : va_P D vwCl (zw_tx tt kt (zu bt 0 (zu (bt 0) 1 (nI i)))) H := hP
      have hD : va_D A (zw_tx tt kt (zu bt 0 (zu (bt 0) 1 (nI i)))) := hD
      refine lv_aload_n hx hb dX8_readCommand_28 rfl (lv_at hl 1 rfl) ?_
      refine lv_iload_n hx hb dX8_readCommand_29 rfl (lv_at hl 0 rfl) ?_
      refine va_getsN hx hb hG.2.2.2.2.2.1 hS hown (va_Nw.use rfl hG.2.2.2.2.2.2.2) (fun _ h9 => h9) dX8_readCommand_30 ?_
      refine lv_iload_n hx hb dX8_readCommand_33 rfl (lv_at hl 3 rfl) ?_
      refine va_ti (v := .int (zNum i)) hx hb hG.2.2.2.2.2.2.1 hS (vp_in_nI hi7 (by omega)) (by rw [nI_clamp (by omega)]) dX8_readCommand_34 ?_
      obtain ⟨z, gz, h⟩ := zb_some h
      have hFc := z_free0 hD hS hA
      refine z_callmi (wc := (zw_tx tt kt (zu bt 0 (zu (bt 0) 1 (nI i))))) (w1 := (zw_tx tt kt z.2)) (va_runV (As := [.int y, .int (zNum i)]) (rest := []) ⟨hx, hb, hml, hown, hts⟩ (c_X8_readNumbers l D tt kt _ (zu bt 0 (zu (bt 0) 1 (nI i))) y (zNum i) z gz) (cwV 2 hts gX8_readCommand_X8_readNumbers rfl rfl rfl (by decide +kernel) ⟨Nat.le_of_ble_eq_true rfl, Nat.le_of_ble_eq_true rfl⟩) (z_preVm hK hP hD (ci := 8) (q0 := 0) rfl rfl) rfl rfl hl.1 rfl (lv_room (Nat.le_of_ble_eq_true rfl)) dX8_readCommand_35 ⟨Nat.zero_le _, Nat.zero_le _⟩) hS hFc (fun H locs nz hP1 hD1 hk1 hS => ?_)
      have hP := hP1
      have hD := hD1.weaken (fun _ q _ h => hFc q.1 h)
      exact hfin _ _ _ _ _ _ h hP hD hS dX8_readCommand_38
  have hl := lv_entry ([.ref (kt 0), .int x1]) (n := 4) (Nat.le_of_ble_eq_true rfl)
  subst ha
  rw [lg_entry_eq]
  generalize (lg_sl ([.ref (kt 0), .int x1]) ++ List.replicate (4 - (lg_sl ([.ref (kt 0), .int x1])).length) Slot.unset).toArray = ls at hl ⊢
  have hl : lv_has ls 4 [(0, .ref (kt 0)), (1, .int x1)] := hl
  refine lv_iconst (v := 0) hx hb dX8_readCommand_0 (by decide) ?_
  refine lv_istore_n (lv' := [(2, .int 0), (0, .ref (kt 0)), (1, .int x1)]) hx hb dX8_readCommand_1 rfl hl (by decide) rfl (fun ls hl => ?_)
  exact b2 10 bt 0 _ _ _ (by omega) hP hD hS (lv_sub hl [1, 2, 0] rfl) h
set_option maxHeartbeats 4000000 in
set_option maxRecDepth 100000 in
theorem c_X6_perform (l : Launch) (D : va_G) (tt : Nat → ClassId) (kt : Nat → Nat) (kv : Nat → Nat) (sz : Nat) (bt : zV) (bv : zV) (x0 : Int32) (out : Int32 × zV) (h : f_X6_perform bt bv x0 = some out) : Met l yX6_perform wsX6_perform { frames := 4, cells := 0, slots := 0, locals := 90 } (zPm [.int x0, .ref (kt 1), .ref (kv 0)] D tt (zw_tn tt kt bt ++ zw_co tt kv bv) sz) (zMi .int out.1 D (zw_tn tt kt bt ++ zw_co tt kv out.2) (va_A (zw_tn tt kt bt ++ zw_co tt kv bv) sz)) 0 0 (va_A (zw_tn tt kt bt ++ zw_co tt kv bv) sz) := by
  refine Met.ofW (cc := cX6_perform) (maxL := 3) (ret := (some .int)) (by decide) rfl ?_
  intro p e s m args below meth c s₁ B hml hv
  obtain ⟨ha, hsz, hP, hK, hD0⟩ := hv
  have hx := B.exec
  have hb := B.bytes
  have hr := B.returns
  have hts := atoms_spec (ws := wsX6_perform) B.pre
  have hown : s.vm.findClass RX6 = some m.cls := findClass_of_methodNamed B.named
  have hlocks := B.notSynchronized
  subst hsz
  have hD := hD0.self (sz := s.heap.size)
  generalize hAe : va_A (zw_tn tt kt bt ++ zw_co tt kv bv) s.heap.size = A at hD ⊢
  have hA : ∀ q : Nat, s.heap.size ≤ q → A q := fun q h => by rw [← hAe]; exact Or.inr h
  have hS : va_S A s.heap s.heap [] := va_S.rf
  have hfin : ∀ (v : Int32) (bv : zV) (pc : Nat) (ls : Array Slot) (H : Heap) (locs : List Loc), some (v, bv) = some out → narrow .int (.int v) = .int v → va_P D vwCl (zw_tn tt kt bt ++ zw_co tt kv bv) H → va_D A (zw_tn tt kt bt ++ zw_co tt kv bv) → va_S A s.heap H locs → decode cX6_perform pc = .ok (.ireturn, 1) → W p l e (headSpec wsX6_perform { frames := 4, cells := 0, slots := 0, locals := 90 }).room s m args below meth c H locs 0 0 (MQ below (zMi .int out.1 D (zw_tn tt kt bt ++ zw_co tt kv out.2) A) args s 0 0 A) (F0 m pc ls [.int v]) := by
    intro v bv pc ls H locs he hn hP hD hS hd
    cases he
    exact W.zret hx hb hr hn (fun t ht hW => ⟨⟨_, (), rfl, ⟨rfl, hn⟩, by rw [ht]; exact hP, hD⟩, hS.F ht⟩) hS.2.2 hd
  generalize MQ below (zMi .int out.1 D (zw_tn tt kt bt ++ zw_co tt kv out.2) A) args s 0 0 A = Q at hfin ⊢
  have hl := lv_entry ([.int x0, .ref (kt 1), .ref (kv 0)]) (n := 3) (Nat.le_of_ble_eq_true rfl)
  refine W.eq (g2 := F0 m 0 ((lg_sl ([.int x0, .ref (kt 1), .ref (kv 0)]) ++ List.replicate (3 - (lg_sl ([.int x0, .ref (kt 1), .ref (kv 0)])).length) Slot.unset).toArray) []) (by rw [ha]; exact lg_entry_eq _ _ _) ?_
  generalize (lg_sl ([.int x0, .ref (kt 1), .ref (kv 0)]) ++ List.replicate (3 - (lg_sl ([.int x0, .ref (kt 1), .ref (kv 0)])).length) Slot.unset).toArray = ls at hl ⊢
  have hl : lv_has ls 3 [(0, .int x0), (1, .ref (kt 1)), (2, .ref (kv 0))] := hl
  rw [f_X6_perform] at h
  refine lv_aload_n hx hb dX6_perform_0 rfl (lv_at hl 1 rfl) ?_
  refine va_alen (v := 5) hx hb hK.1 hP 0 0 rfl rfl rfl dX6_perform_1 ?_
  refine lv_iconst (v := 5) hx hb dX6_perform_2 (by decide) ?_
  refine lv_icmp_ge (tgt := 8) hx hb dX6_perform_3 (by decide) (fun k1 => ?_) (fun k1 => ?_)
  rotate_left
  · replace h := z_neg k1 h
    refine lv_iconst (v := (-1)) hx hb dX6_perform_6 (by decide) ?_
    exact hfin _ _ _ _ _ _ h rfl hP hD hS dX6_perform_7
  replace h := z_pos k1 h
  refine lv_iload_n hx hb dX6_perform_8 rfl (lv_at hl 0 rfl) ?_
  by_cases k2 : x0 = 0
  · replace h := z_pos k2 h
    rw [k2]
    refine lv_tableIn (off := 39) (tgt := 48) hx hb dX6_perform_9 (by decide) (by decide) (by decide) (by decide) ?_
    refine lv_aload_n hx hb dX6_perform_48 rfl (lv_at hl 2 rfl) ?_
    refine lv_aload_n hx hb dX6_perform_49 rfl (lv_at hl 1 rfl) ?_
    refine lv_iconst (v := 0) hx hb dX6_perform_50 (by decide) ?_
    refine va_iald hx hb hK.1 hP 0 0 rfl rfl (vp_in_lit 0 5 rfl) dX6_perform_51 ?_
    refine lv_aload_n hx hb dX6_perform_52 rfl (lv_at hl 1 rfl) ?_
    refine lv_iconst (v := 1) hx hb dX6_perform_53 (by decide) ?_
    refine va_iald hx hb hK.1 hP 0 0 rfl rfl (vp_in_lit 1 5 rfl) dX6_perform_54 ?_
    refine lv_aload_n hx hb dX6_perform_55 rfl (lv_at hl 1 rfl) ?_
    refine lv_iconst (v := 2) hx hb dX6_perform_56 (by decide) ?_
    refine va_iald hx hb hK.1 hP 0 0 rfl rfl (vp_in_lit 2 5 rfl) dX6_perform_57 ?_
    obtain ⟨y3, gy3, h⟩ := zb_some h
    have hpm : List.Perm (zw_tn tt kt bt ++ zw_co tt kv bv) ((zw_co tt kv bv) ++ (zw_tn tt kt bt)) := z_pm (fun _ x => by simp only [List.count_append, List.count_nil] <;> omega)
    have hPc := z_takeP hpm hP
    have hDc := z_takeD hpm hD
    have hFc := z_free0 hDc hS hA
    refine z_callmi (wc := (zw_co tt kv bv)) (w1 := (zw_co tt kv y3.2)) (va_runV (As := [.int ((bt 1) (0 : Int32).toNatClampNeg), .int ((bt 1) (1 : Int32).toNatClampNeg), .int ((bt 1) (2 : Int32).toNatClampNeg)]) (rest := []) ⟨hx, hb, hml, hown, hts⟩ (c_X2_issueShares l D tt kv _ bv ((bt 1) (0 : Int32).toNatClampNeg) ((bt 1) (1 : Int32).toNatClampNeg) ((bt 1) (2 : Int32).toNatClampNeg) y3 gy3) (cwV 3 hts gX6_perform_X2_issueShares rfl rfl rfl (by decide +kernel) ⟨Nat.le_of_ble_eq_true rfl, Nat.le_of_ble_eq_true rfl⟩) (z_preVm hK hPc hDc (ci := 2) (q0 := 0) rfl rfl) rfl rfl hl.1 rfl (lv_room (Nat.le_of_ble_eq_true rfl)) dX6_perform_58 ⟨Nat.zero_le _, Nat.zero_le _⟩) hS hFc (fun H locs ny3 hP1 hD1 hk1 hS => ?_)
    have hpm2 : List.Perm (zw_tn tt kt bt ++ zw_co tt kv y3.2) ((zw_co tt kv y3.2) ++ (zw_tn tt kt bt)) := z_pm (fun _ x => by simp only [List.count_append, List.count_nil] <;> omega)
    obtain ⟨hP, hD⟩ := z_joinB hpm hpm2 hP hD hk1 hFc hP1 hD1
    clear hpm hpm2
    have hP : va_P D vwCl (zw_tn tt kt bt ++ zw_co tt kv y3.2) H := hP
    have hD : va_D A (zw_tn tt kt bt ++ zw_co tt kv y3.2) := hD
    exact hfin _ _ _ _ _ _ h rfl hP hD hS dX6_perform_61
  replace h := z_neg k2 h
  by_cases k4 : x0 = 1
  · replace h := z_pos k4 h
    rw [k4]
    refine lv_tableIn (off := 53) (tgt := 62) hx hb dX6_perform_9 (by decide) (by decide) (by decide) (by decide) ?_
    refine lv_aload_n hx hb dX6_perform_62 rfl (lv_at hl 2 rfl) ?_
    refine lv_aload_n hx hb dX6_perform_63 rfl (lv_at hl 1 rfl) ?_
    refine lv_iconst (v := 0) hx hb dX6_perform_64 (by decide) ?_
    refine va_iald hx hb hK.1 hP 0 0 rfl rfl (vp_in_lit 0 5 rfl) dX6_perform_65 ?_
    refine lv_aload_n hx hb dX6_perform_66 rfl (lv_at hl 1 rfl) ?_
    refine lv_iconst (v := 1) hx hb dX6_perform_67 (by decide) ?_
    refine va_iald hx hb hK.1 hP 0 0 rfl rfl (vp_in_lit 1 5 rfl) dX6_perform_68 ?_
    refine lv_aload_n hx hb dX6_perform_69 rfl (lv_at hl 1 rfl) ?_
    refine lv_iconst (v := 2) hx hb dX6_perform_70 (by decide) ?_
    refine va_iald hx hb hK.1 hP 0 0 rfl rfl (vp_in_lit 2 5 rfl) dX6_perform_71 ?_
    obtain ⟨y5, gy5, h⟩ := zb_some h
    have hpm : List.Perm (zw_tn tt kt bt ++ zw_co tt kv bv) ((zw_co tt kv bv) ++ (zw_tn tt kt bt)) := z_pm (fun _ x => by simp only [List.count_append, List.count_nil] <;> omega)
    have hPc := z_takeP hpm hP
    have hDc := z_takeD hpm hD
    have hFc := z_free0 hDc hS hA
    refine z_callmi (wc := (zw_co tt kv bv)) (w1 := (zw_co tt kv y5.2)) (va_runV (As := [.int ((bt 1) (0 : Int32).toNatClampNeg), .int ((bt 1) (1 : Int32).toNatClampNeg), .int ((bt 1) (2 : Int32).toNatClampNeg)]) (rest := []) ⟨hx, hb, hml, hown, hts⟩ (c_X2_splitCertificate l D tt kv _ bv ((bt 1) (0 : Int32).toNatClampNeg) ((bt 1) (1 : Int32).toNatClampNeg) ((bt 1) (2 : Int32).toNatClampNeg) y5 gy5) (cwV 3 hts gX6_perform_X2_splitCertificate rfl rfl rfl (by decide +kernel) ⟨Nat.le_of_ble_eq_true rfl, Nat.le_of_ble_eq_true rfl⟩) (z_preVm hK hPc hDc (ci := 2) (q0 := 0) rfl rfl) rfl rfl hl.1 rfl (lv_room (Nat.le_of_ble_eq_true rfl)) dX6_perform_72 ⟨Nat.zero_le _, Nat.zero_le _⟩) hS hFc (fun H locs ny5 hP1 hD1 hk1 hS => ?_)
    have hpm2 : List.Perm (zw_tn tt kt bt ++ zw_co tt kv y5.2) ((zw_co tt kv y5.2) ++ (zw_tn tt kt bt)) := z_pm (fun _ x => by simp only [List.count_append, List.count_nil] <;> omega)
    obtain ⟨hP, hD⟩ := z_joinB hpm hpm2 hP hD hk1 hFc hP1 hD1
    clear hpm hpm2
    have hP : va_P D vwCl (zw_tn tt kt bt ++ zw_co tt kv y5.2) H := hP
    have hD : va_D A (zw_tn tt kt bt ++ zw_co tt kv y5.2) := hD
    exact hfin _ _ _ _ _ _ h rfl hP hD hS dX6_perform_75
  replace h := z_neg k4 h
  by_cases k6 : x0 = 2
  · replace h := z_pos k6 h
    rw [k6]
    refine lv_tableIn (off := 67) (tgt := 76) hx hb dX6_perform_9 (by decide) (by decide) (by decide) (by decide) ?_
    refine lv_aload_n hx hb dX6_perform_76 rfl (lv_at hl 2 rfl) ?_
    refine lv_aload_n hx hb dX6_perform_77 rfl (lv_at hl 1 rfl) ?_
    refine lv_iconst (v := 0) hx hb dX6_perform_78 (by decide) ?_
    refine va_iald hx hb hK.1 hP 0 0 rfl rfl (vp_in_lit 0 5 rfl) dX6_perform_79 ?_
    refine lv_aload_n hx hb dX6_perform_80 rfl (lv_at hl 1 rfl) ?_
    refine lv_iconst (v := 1) hx hb dX6_perform_81 (by decide) ?_
    refine va_iald hx hb hK.1 hP 0 0 rfl rfl (vp_in_lit 1 5 rfl) dX6_perform_82 ?_
    obtain ⟨y7, gy7, h⟩ := zb_some h
    have hpm : List.Perm (zw_tn tt kt bt ++ zw_co tt kv bv) ((zw_co tt kv bv) ++ (zw_tn tt kt bt)) := z_pm (fun _ x => by simp only [List.count_append, List.count_nil] <;> omega)
    have hPc := z_takeP hpm hP
    have hDc := z_takeD hpm hD
    have hFc := z_free0 hDc hS hA
    refine z_callmi (wc := (zw_co tt kv bv)) (w1 := (zw_co tt kv y7.2)) (va_runV (As := [.int ((bt 1) (0 : Int32).toNatClampNeg), .int ((bt 1) (1 : Int32).toNatClampNeg)]) (rest := []) ⟨hx, hb, hml, hown, hts⟩ (c_X2_buySharesBack l D tt kv _ bv ((bt 1) (0 : Int32).toNatClampNeg) ((bt 1) (1 : Int32).toNatClampNeg) y7 gy7) (cwV 2 hts gX6_perform_X2_buySharesBack rfl rfl rfl (by decide +kernel) ⟨Nat.le_of_ble_eq_true rfl, Nat.le_of_ble_eq_true rfl⟩) (z_preVm hK hPc hDc (ci := 2) (q0 := 0) rfl rfl) rfl rfl hl.1 rfl (lv_room (Nat.le_of_ble_eq_true rfl)) dX6_perform_83 ⟨Nat.zero_le _, Nat.zero_le _⟩) hS hFc (fun H locs ny7 hP1 hD1 hk1 hS => ?_)
    have hpm2 : List.Perm (zw_tn tt kt bt ++ zw_co tt kv y7.2) ((zw_co tt kv y7.2) ++ (zw_tn tt kt bt)) := z_pm (fun _ x => by simp only [List.count_append, List.count_nil] <;> omega)
    obtain ⟨hP, hD⟩ := z_joinB hpm hpm2 hP hD hk1 hFc hP1 hD1
    clear hpm hpm2
    have hP : va_P D vwCl (zw_tn tt kt bt ++ zw_co tt kv y7.2) H := hP
    have hD : va_D A (zw_tn tt kt bt ++ zw_co tt kv y7.2) := hD
    exact hfin _ _ _ _ _ _ h rfl hP hD hS dX6_perform_86
  replace h := z_neg k6 h
  by_cases k8 : x0 = 3
  · replace h := z_pos k8 h
    rw [k8]
    refine lv_tableIn (off := 78) (tgt := 87) hx hb dX6_perform_9 (by decide) (by decide) (by decide) (by decide) ?_
    refine lv_aload_n hx hb dX6_perform_87 rfl (lv_at hl 2 rfl) ?_
    refine lv_aload_n hx hb dX6_perform_88 rfl (lv_at hl 1 rfl) ?_
    refine lv_iconst (v := 0) hx hb dX6_perform_89 (by decide) ?_
    refine va_iald hx hb hK.1 hP 0 0 rfl rfl (vp_in_lit 0 5 rfl) dX6_perform_90 ?_
    refine lv_aload_n hx hb dX6_perform_91 rfl (lv_at hl 1 rfl) ?_
    refine lv_iconst (v := 1) hx hb dX6_perform_92 (by decide) ?_
    refine va_iald hx hb hK.1 hP 0 0 rfl rfl (vp_in_lit 1 5 rfl) dX6_perform_93 ?_
    refine lv_aload_n hx hb dX6_perform_94 rfl (lv_at hl 1 rfl) ?_
    refine lv_iconst (v := 2) hx hb dX6_perform_95 (by decide) ?_
    refine va_iald hx hb hK.1 hP 0 0 rfl rfl (vp_in_lit 2 5 rfl) dX6_perform_96 ?_
    refine lv_aload_n hx hb dX6_perform_97 rfl (lv_at hl 1 rfl) ?_
    refine lv_iconst (v := 3) hx hb dX6_perform_98 (by decide) ?_
    refine va_iald hx hb hK.1 hP 0 0 rfl rfl (vp_in_lit 3 5 rfl) dX6_perform_99 ?_
    refine lv_aload_n hx hb dX6_perform_100 rfl (lv_at hl 1 rfl) ?_
    refine lv_iconst (v := 4) hx hb dX6_perform_101 (by decide) ?_
    refine va_iald hx hb hK.1 hP 0 0 rfl rfl (vp_in_lit 4 5 rfl) dX6_perform_102 ?_
    obtain ⟨y9, gy9, h⟩ := zb_some h
    have hpm : List.Perm (zw_tn tt kt bt ++ zw_co tt kv bv) ((zw_co tt kv bv) ++ (zw_tn tt kt bt)) := z_pm (fun _ x => by simp only [List.count_append, List.count_nil] <;> omega)
    have hPc := z_takeP hpm hP
    have hDc := z_takeD hpm hD
    have hFc := z_free0 hDc hS hA
    refine z_callmi (wc := (zw_co tt kv bv)) (w1 := (zw_co tt kv y9.2)) (va_runV (As := [.int ((bt 1) (0 : Int32).toNatClampNeg), .int ((bt 1) (1 : Int32).toNatClampNeg), .int ((bt 1) (2 : Int32).toNatClampNeg), .int ((bt 1) (3 : Int32).toNatClampNeg), .int ((bt 1) (4 : Int32).toNatClampNeg)]) (rest := []) ⟨hx, hb, hml, hown, hts⟩ (c_X2_addGrant l D tt kv _ bv ((bt 1) (0 : Int32).toNatClampNeg) ((bt 1) (1 : Int32).toNatClampNeg) ((bt 1) (2 : Int32).toNatClampNeg) ((bt 1) (3 : Int32).toNatClampNeg) ((bt 1) (4 : Int32).toNatClampNeg) y9 gy9) (cwV 5 hts gX6_perform_X2_addGrant rfl rfl rfl (by decide +kernel) ⟨Nat.le_of_ble_eq_true rfl, Nat.le_of_ble_eq_true rfl⟩) (z_preVm hK hPc hDc (ci := 2) (q0 := 0) rfl rfl) rfl rfl hl.1 rfl (lv_room (Nat.le_of_ble_eq_true rfl)) dX6_perform_103 ⟨Nat.zero_le _, Nat.zero_le _⟩) hS hFc (fun H locs ny9 hP1 hD1 hk1 hS => ?_)
    have hpm2 : List.Perm (zw_tn tt kt bt ++ zw_co tt kv y9.2) ((zw_co tt kv y9.2) ++ (zw_tn tt kt bt)) := z_pm (fun _ x => by simp only [List.count_append, List.count_nil] <;> omega)
    obtain ⟨hP, hD⟩ := z_joinB hpm hpm2 hP hD hk1 hFc hP1 hD1
    clear hpm hpm2
    have hP : va_P D vwCl (zw_tn tt kt bt ++ zw_co tt kv y9.2) H := hP
    have hD : va_D A (zw_tn tt kt bt ++ zw_co tt kv y9.2) := hD
    exact hfin _ _ _ _ _ _ h rfl hP hD hS dX6_perform_106
  replace h := z_neg k8 h
  by_cases k10 : x0 = 4
  · replace h := z_pos k10 h
    rw [k10]
    refine lv_tableIn (off := 98) (tgt := 107) hx hb dX6_perform_9 (by decide) (by decide) (by decide) (by decide) ?_
    refine lv_aload_n hx hb dX6_perform_107 rfl (lv_at hl 2 rfl) ?_
    refine lv_aload_n hx hb dX6_perform_108 rfl (lv_at hl 1 rfl) ?_
    refine lv_iconst (v := 0) hx hb dX6_perform_109 (by decide) ?_
    refine va_iald hx hb hK.1 hP 0 0 rfl rfl (vp_in_lit 0 5 rfl) dX6_perform_110 ?_
    refine lv_aload_n hx hb dX6_perform_111 rfl (lv_at hl 1 rfl) ?_
    refine lv_iconst (v := 1) hx hb dX6_perform_112 (by decide) ?_
    refine va_iald hx hb hK.1 hP 0 0 rfl rfl (vp_in_lit 1 5 rfl) dX6_perform_113 ?_
    obtain ⟨y11, gy11, h⟩ := zb_some h
    have hpm : List.Perm (zw_tn tt kt bt ++ zw_co tt kv bv) ((zw_co tt kv bv) ++ (zw_tn tt kt bt)) := z_pm (fun _ x => by simp only [List.count_append, List.count_nil] <;> omega)
    have hPc := z_takeP hpm hP
    have hDc := z_takeD hpm hD
    have hFc := z_free0 hDc hS hA
    refine z_callmi (wc := (zw_co tt kv bv)) (w1 := (zw_co tt kv y11.2)) (va_runV (As := [.int ((bt 1) (0 : Int32).toNatClampNeg), .int ((bt 1) (1 : Int32).toNatClampNeg)]) (rest := []) ⟨hx, hb, hml, hown, hts⟩ (c_X2_takeOptions l D tt kv _ bv ((bt 1) (0 : Int32).toNatClampNeg) ((bt 1) (1 : Int32).toNatClampNeg) y11 gy11) (cwV 2 hts gX6_perform_X2_takeOptions rfl rfl rfl (by decide +kernel) ⟨Nat.le_of_ble_eq_true rfl, Nat.le_of_ble_eq_true rfl⟩) (z_preVm hK hPc hDc (ci := 2) (q0 := 0) rfl rfl) rfl rfl hl.1 rfl (lv_room (Nat.le_of_ble_eq_true rfl)) dX6_perform_114 ⟨Nat.zero_le _, Nat.zero_le _⟩) hS hFc (fun H locs ny11 hP1 hD1 hk1 hS => ?_)
    have hpm2 : List.Perm (zw_tn tt kt bt ++ zw_co tt kv y11.2) ((zw_co tt kv y11.2) ++ (zw_tn tt kt bt)) := z_pm (fun _ x => by simp only [List.count_append, List.count_nil] <;> omega)
    obtain ⟨hP, hD⟩ := z_joinB hpm hpm2 hP hD hk1 hFc hP1 hD1
    clear hpm hpm2
    have hP : va_P D vwCl (zw_tn tt kt bt ++ zw_co tt kv y11.2) H := hP
    have hD : va_D A (zw_tn tt kt bt ++ zw_co tt kv y11.2) := hD
    exact hfin _ _ _ _ _ _ h rfl hP hD hS dX6_perform_117
  replace h := z_neg k10 h
  by_cases k12 : x0 = 5
  · replace h := z_pos k12 h
    rw [k12]
    refine lv_tableIn (off := 109) (tgt := 118) hx hb dX6_perform_9 (by decide) (by decide) (by decide) (by decide) ?_
    refine lv_aload_n hx hb dX6_perform_118 rfl (lv_at hl 2 rfl) ?_
    refine lv_aload_n hx hb dX6_perform_119 rfl (lv_at hl 1 rfl) ?_
    refine lv_iconst (v := 0) hx hb dX6_perform_120 (by decide) ?_
    refine va_iald hx hb hK.1 hP 0 0 rfl rfl (vp_in_lit 0 5 rfl) dX6_perform_121 ?_
    obtain ⟨y13, gy13, h⟩ := zb_some h
    have hpm : List.Perm (zw_tn tt kt bt ++ zw_co tt kv bv) ((zw_co tt kv bv) ++ (zw_tn tt kt bt)) := z_pm (fun _ x => by simp only [List.count_append, List.count_nil] <;> omega)
    have hPc := z_takeP hpm hP
    have hDc := z_takeD hpm hD
    have hFc := z_free0 hDc hS hA
    refine z_callmi (wc := (zw_co tt kv bv)) (w1 := (zw_co tt kv y13.2)) (va_runV (As := [.int ((bt 1) (0 : Int32).toNatClampNeg)]) (rest := []) ⟨hx, hb, hml, hown, hts⟩ (c_X2_letLeave l D tt kv _ bv ((bt 1) (0 : Int32).toNatClampNeg) y13 gy13) (cwV 1 hts gX6_perform_X2_letLeave rfl rfl rfl (by decide +kernel) ⟨Nat.le_of_ble_eq_true rfl, Nat.le_of_ble_eq_true rfl⟩) (z_preVm hK hPc hDc (ci := 2) (q0 := 0) rfl rfl) rfl rfl hl.1 rfl (lv_room (Nat.le_of_ble_eq_true rfl)) dX6_perform_122 ⟨Nat.zero_le _, Nat.zero_le _⟩) hS hFc (fun H locs ny13 hP1 hD1 hk1 hS => ?_)
    have hpm2 : List.Perm (zw_tn tt kt bt ++ zw_co tt kv y13.2) ((zw_co tt kv y13.2) ++ (zw_tn tt kt bt)) := z_pm (fun _ x => by simp only [List.count_append, List.count_nil] <;> omega)
    obtain ⟨hP, hD⟩ := z_joinB hpm hpm2 hP hD hk1 hFc hP1 hD1
    clear hpm hpm2
    have hP : va_P D vwCl (zw_tn tt kt bt ++ zw_co tt kv y13.2) H := hP
    have hD : va_D A (zw_tn tt kt bt ++ zw_co tt kv y13.2) := hD
    exact hfin _ _ _ _ _ _ h rfl hP hD hS dX6_perform_125
  replace h := z_neg k12 h
  have ek2 : Int32.toInt x0 ≠ 0 := fun e => k2 (Int32.toInt_inj.mp (e.trans (by decide)))
  have ek4 : Int32.toInt x0 ≠ 1 := fun e => k4 (Int32.toInt_inj.mp (e.trans (by decide)))
  have ek6 : Int32.toInt x0 ≠ 2 := fun e => k6 (Int32.toInt_inj.mp (e.trans (by decide)))
  have ek8 : Int32.toInt x0 ≠ 3 := fun e => k8 (Int32.toInt_inj.mp (e.trans (by decide)))
  have ek10 : Int32.toInt x0 ≠ 4 := fun e => k10 (Int32.toInt_inj.mp (e.trans (by decide)))
  have ek12 : Int32.toInt x0 ≠ 5 := fun e => k12 (Int32.toInt_inj.mp (e.trans (by decide)))
  refine lv_tableOut (tgt := 126) hx hb dX6_perform_9 (by omega) (by decide) ?_
  refine lv_aload_n hx hb dX6_perform_126 rfl (lv_at hl 2 rfl) ?_
  refine lv_aload_n hx hb dX6_perform_127 rfl (lv_at hl 1 rfl) ?_
  refine lv_iconst (v := 0) hx hb dX6_perform_128 (by decide) ?_
  refine va_iald hx hb hK.1 hP 0 0 rfl rfl (vp_in_lit 0 5 rfl) dX6_perform_129 ?_
  obtain ⟨y14, gy14, h⟩ := zb_some h
  have hpm : List.Perm (zw_tn tt kt bt ++ zw_co tt kv bv) ((zw_co tt kv bv) ++ (zw_tn tt kt bt)) := z_pm (fun _ x => by simp only [List.count_append, List.count_nil] <;> omega)
  have hPc := z_takeP hpm hP
  have hDc := z_takeD hpm hD
  have hFc := z_free0 hDc hS hA
  refine z_callmi (wc := (zw_co tt kv bv)) (w1 := (zw_co tt kv y14.2)) (va_runV (As := [.int ((bt 1) (0 : Int32).toNatClampNeg)]) (rest := []) ⟨hx, hb, hml, hown, hts⟩ (c_X2_passMonths l D tt kv _ bv ((bt 1) (0 : Int32).toNatClampNeg) y14 gy14) (cwV 1 hts gX6_perform_X2_passMonths rfl rfl rfl (by decide +kernel) ⟨Nat.le_of_ble_eq_true rfl, Nat.le_of_ble_eq_true rfl⟩) (z_preVm hK hPc hDc (ci := 2) (q0 := 0) rfl rfl) rfl rfl hl.1 rfl (lv_room (Nat.le_of_ble_eq_true rfl)) dX6_perform_130 ⟨Nat.zero_le _, Nat.zero_le _⟩) hS hFc (fun H locs ny14 hP1 hD1 hk1 hS => ?_)
  have hpm2 : List.Perm (zw_tn tt kt bt ++ zw_co tt kv y14.2) ((zw_co tt kv y14.2) ++ (zw_tn tt kt bt)) := z_pm (fun _ x => by simp only [List.count_append, List.count_nil] <;> omega)
  obtain ⟨hP, hD⟩ := z_joinB hpm hpm2 hP hD hk1 hFc hP1 hD1
  clear hpm hpm2
  have hP : va_P D vwCl (zw_tn tt kt bt ++ zw_co tt kv y14.2) H := hP
  have hD : va_D A (zw_tn tt kt bt ++ zw_co tt kv y14.2) := hD
  exact hfin _ _ _ _ _ _ h rfl hP hD hS dX6_perform_133
set_option maxHeartbeats 4000000 in
set_option maxRecDepth 100000 in
theorem c_X6_run (l : Launch) (D : va_G) (tt : Nat → ClassId) (gs : zGs) (kr : Nat → Nat) (kt : Nat → Nat) (kv : Nat → Nat) (sz : Nat) (br : zV) (bt : zV) (bv : zV)  (out : zV × zV × zV) (h : f_X6_run br bt bv = some out) : Met l yX6_run wsX6_run { frames := 7, cells := 0, slots := 0, locals := 166 } (zPg [.ref (kr 0), .ref (kt 0), .ref (kv 0)] D tt (zw_rh tt kr br ++ zw_tx tt kt bt ++ zw_co tt kv bv) sz gs) (zMv D (zw_rh tt kr out.1 ++ zw_tx tt kt out.2.1 ++ zw_co tt kv out.2.2) (va_A (zw_rh tt kr br ++ zw_tx tt kt bt ++ zw_co tt kv bv) sz)) 0 0 (va_A (zw_rh tt kr br ++ zw_tx tt kt bt ++ zw_co tt kv bv) sz) := by
  refine Met.ofW (cc := cX6_run) (maxL := 6) (ret := none) (by decide) rfl ?_
  intro p e s m args below meth c s₁ B hml hv
  obtain ⟨ha, hsz, hP, hK, hD0, hG⟩ := hv
  have hx := B.exec
  have hb := B.bytes
  have hr := B.returns
  have hts := atoms_spec (ws := wsX6_run) B.pre
  have hown : s.vm.findClass RX6 = some m.cls := findClass_of_methodNamed B.named
  have hlocks := B.notSynchronized
  have hi6 : ∀ w ∈ u_ws RX6 TX6 4, w ∈ wsX6_run := fun _ h => List.mem_cons_of_mem _ (List.mem_append_left _ (List.mem_append_left _ (List.mem_append_left _ (List.mem_append_left _ (List.mem_append_left _ (List.mem_append_left _ (List.mem_append_right _ h)))))))
  have hi8 : ∀ w ∈ u_ws RX8 TX8 4, w ∈ wsX6_run := fun _ h => List.mem_cons_of_mem _ (List.mem_append_left _ (List.mem_append_left _ (List.mem_append_left _ (List.mem_append_left _ (List.mem_append_left _ (List.mem_append_right _ h))))))
  have fl15 := hts (.fieldLink RX6 15 "CapStacks$Rehearsal" "position" "I") (by decide +kernel)
  have fl18 := hts (.fieldLink RX6 18 "CapStacks$Rehearsal" "reason" "I") (by decide +kernel)
  have fl21 := hts (.fieldLink RX6 21 "CapStacks$Rehearsal" "cause" "I") (by decide +kernel)
  have fl24 := hts (.fieldLink RX6 24 "CapStacks$Text" "length" "I") (by decide +kernel)
  have fl33 := hts (.fieldLink RX6 33 "CapStacks$Text" "verb" "I") (by decide +kernel)
  have fl36 := hts (.fieldLink RX6 36 "CapStacks$Text" "numbers" "[I") (by decide +kernel)
  have fl9 := hts (.fieldLink RX6 9 "CapStacks$Rehearsal" "done" "I") (by decide +kernel)
  subst hsz
  have hD := hD0.self (sz := s.heap.size)
  generalize hAe : va_A (zw_rh tt kr br ++ zw_tx tt kt bt ++ zw_co tt kv bv) s.heap.size = A at hD hG ⊢
  have hA : ∀ q : Nat, s.heap.size ≤ q → A q := fun q h => by rw [← hAe]; exact Or.inr h
  have hS : va_S A s.heap s.heap [] := va_S.rf
  have hfin : ∀ (br : zV) (bt : zV) (bv : zV) (pc : Nat) (ls : Array Slot) (H : Heap) (locs : List Loc), some (br, bt, bv) = some out → va_P D vwCl (zw_rh tt kr br ++ zw_tx tt kt bt ++ zw_co tt kv bv) H → va_D A (zw_rh tt kr br ++ zw_tx tt kt bt ++ zw_co tt kv bv) → va_S A s.heap H locs → decode cX6_run pc = .ok (.return_, 1) → W p l e (headSpec wsX6_run { frames := 7, cells := 0, slots := 0, locals := 166 }).room s m args below meth c H locs 0 0 (MQ below (zMv D (zw_rh tt kr out.1 ++ zw_tx tt kt out.2.1 ++ zw_co tt kv out.2.2) A) args s 0 0 A) (F0 m pc ls []) := by
    intro br bt bv pc ls H locs he hP hD hS hd
    cases he
    exact W.vret hx hb hr (fun t ht hW => ⟨⟨(), rfl, trivial, by rw [ht]; exact hP, hD⟩, hS.F ht⟩) hS.2.2 hd
  generalize MQ below (zMv D (zw_rh tt kr out.1 ++ zw_tx tt kt out.2.1 ++ zw_co tt kv out.2.2) A) args s 0 0 A = Q at hfin ⊢
  have b22 : ∀ n : Nat, ∀ (br : zV) (bt : zV) (bv : zV) (x3 : Int32) (H : Heap) (locs : List Loc) (ls : Array Slot), va_P D vwCl (zw_rh tt kr br ++ zw_tx tt kt bt ++ zw_co tt kv bv) H → va_D A (zw_rh tt kr br ++ zw_tx tt kt bt ++ zw_co tt kv bv) → va_S A s.heap H locs → lv_has ls 6 [(0, .ref (kr 0)), (1, .ref (kt 0)), (2, .ref (kv 0)), (3, .int x3)] → f_X6_run_b22 n br bt bv x3 = some out → W p l e (headSpec wsX6_run { frames := 7, cells := 0, slots := 0, locals := 166 }).room s m args below meth c H locs 0 0 Q (F0 m 22 ls []) := by
    intro n
    induction n with
    | zero =>
      intro br bt bv x3 H locs ls hP hD hS hl h
      cases h
    | succ n ih =>
      intro br bt bv x3 H locs ls hP hD hS hl h
      rw [f_X6_run_b22] at h
      refine lv_iload_n hx hb dX6_run_22 rfl (lv_at hl 3 rfl) ?_
      refine lv_bipush (v := 80) hx hb dX6_run_23 (by decide) ?_
      refine lv_icmp_ge (tgt := 114) hx hb dX6_run_25 (by decide) (fun k1 => ?_) (fun k1 => ?_)
      · replace h := z_pos k1 h
        exact hfin _ _ _ _ _ _ _ h hP hD hS dX6_run_114
      replace h := z_neg k1 h
      refine lv_aload_n hx hb dX6_run_28 rfl (lv_at hl 0 rfl) ?_
      refine va_get (D := D) (ci := 6) (v := .int (br 0 1)) (C := RX6) (T := TX6) (N := 4) hx hb hts hi6 hown hK.1 hP 0 rfl rfl 1 (by decide) fl15 (fun _ h9 => h9) rfl dX6_run_29 ?_
      refine lv_aload_n hx hb dX6_run_32 rfl (lv_at hl 1 rfl) ?_
      refine va_get (D := D) (ci := 8) (v := .int (bt 0 0)) (C := RX8) (T := TX8) (N := 4) hx hb hts hi8 hown hK.1 hP 1 rfl rfl 0 (by decide) fl24 (fun _ h9 => h9) rfl dX6_run_33 ?_
      refine lv_icmp_ge (tgt := 114) hx hb dX6_run_36 (by decide) (fun k2 => ?_) (fun k2 => ?_)
      · replace h := z_pos k2 h
        exact hfin _ _ _ _ _ _ _ h hP hD hS dX6_run_114
      replace h := z_neg k2 h
      refine lv_aload_n hx hb dX6_run_39 rfl (lv_at hl 1 rfl) ?_
      refine lv_aload_n hx hb dX6_run_40 rfl (lv_at hl 0 rfl) ?_
      refine va_get (D := D) (ci := 6) (v := .int (br 0 1)) (C := RX6) (T := TX6) (N := 4) hx hb hts hi6 hown hK.1 hP 0 rfl rfl 1 (by decide) fl15 (fun _ h9 => h9) rfl dX6_run_41 ?_
      obtain ⟨y3, gy3, h⟩ := zb_some h
      have hpm : List.Perm (zw_rh tt kr br ++ zw_tx tt kt bt ++ zw_co tt kv bv) ((zw_tx tt kt bt) ++ (zw_rh tt kr br ++ zw_co tt kv bv)) := z_pm (fun _ x => by simp only [List.count_append, List.count_nil] <;> omega)
      have hPc := z_takeP hpm hP
      have hDc := z_takeD hpm hD
      have hFc := z_free0 hDc hS hA
      refine z_callmi (wc := (zw_tx tt kt bt)) (w1 := (zw_tx tt kt y3.2)) (va_runV (As := [.int (br 0 1)]) (rest := []) ⟨hx, hb, hml, hown, hts⟩ (c_X8_readCommand l D tt gs kt _ bt (br 0 1) y3 gy3) (cwV 1 hts gX6_run_X8_readCommand rfl rfl rfl (by decide +kernel) ⟨Nat.le_of_ble_eq_true rfl, Nat.le_of_ble_eq_true rfl⟩) (z_preVg hK hPc hDc hG hS hFc (ci := 8) (q0 := 0) rfl rfl) rfl rfl hl.1 rfl (lv_room (Nat.le_of_ble_eq_true rfl)) dX6_run_44 ⟨Nat.zero_le _, Nat.zero_le _⟩) hS hFc (fun H locs ny3 hP1 hD1 hk1 hS => ?_)
      have hpm2 : List.Perm (zw_rh tt kr br ++ zw_tx tt kt y3.2 ++ zw_co tt kv bv) ((zw_tx tt kt y3.2) ++ (zw_rh tt kr br ++ zw_co tt kv bv)) := z_pm (fun _ x => by simp only [List.count_append, List.count_nil] <;> omega)
      obtain ⟨hP, hD⟩ := z_joinB hpm hpm2 hP hD hk1 hFc hP1 hD1
      clear hpm hpm2
      have hP : va_P D vwCl (zw_rh tt kr br ++ zw_tx tt kt y3.2 ++ zw_co tt kv bv) H := hP
      have hD : va_D A (zw_rh tt kr br ++ zw_tx tt kt y3.2 ++ zw_co tt kv bv) := hD
      refine lv_istore (lv' := [(4, .int y3.1), (0, .ref (kr 0)), (1, .ref (kt 0)), (2, .ref (kv 0)), (3, .int x3)]) hx hb dX6_run_47 hl (by decide) rfl (fun ls hl => ?_)
      refine lv_iload hx hb dX6_run_49 (lv_at hl 0 rfl) ?_
      refine lv_iconst (v := (-1)) hx hb dX6_run_51 (by decide) ?_
      refine lv_icmp_ne (tgt := 61) hx hb dX6_run_52 (by decide) (fun k4 => ?_) (fun k4 => ?_)
      rotate_left
      · replace h := z_pos k4 h
        refine lv_aload_n hx hb dX6_run_55 rfl (lv_at hl 1 rfl) ?_
        refine lv_iconst (v := 1) hx hb dX6_run_56 (by decide) ?_
        refine va_put (D := D) (ci := 6) (v := .int 1) (ty := .int) (C := RX6) (T := TX6) (N := 4) hx hb hts hi6 tyX6 tyX6_ok nmX6 hown hK.1 hP hD hS 0 rfl rfl 2 (by decide) fl18 (fun _ h9 => h9) rfl (by decide +kernel) rfl rfl (Nat.le_of_ble_eq_true rfl) dX6_run_57 (fun H locs hP hD hS => ?_)
        have hP : va_P D vwCl (zw_rh tt kr (zu br 0 (zu (br 0) 2 1)) ++ zw_tx tt kt y3.2 ++ zw_co tt kv bv) H := hP
        have hD : va_D A (zw_rh tt kr (zu br 0 (zu (br 0) 2 1)) ++ zw_tx tt kt y3.2 ++ zw_co tt kv bv) := hD
        exact hfin _ _ _ _ _ _ _ h hP hD hS dX6_run_60
      replace h := z_neg k4 h
      refine lv_aload_n hx hb dX6_run_61 rfl (lv_at hl 2 rfl) ?_
      refine va_get (D := D) (ci := 8) (v := .int (y3.2 0 1)) (C := RX8) (T := TX8) (N := 4) hx hb hts hi8 hown hK.1 hP 1 rfl rfl 1 (by decide) fl33 (fun _ h9 => h9) rfl dX6_run_62 ?_
      refine lv_aload_n hx hb dX6_run_65 rfl (lv_at hl 2 rfl) ?_
      refine va_get (D := D) (ci := 8) (v := .ref (kt 1)) (C := RX8) (T := TX8) (N := 4) hx hb hts hi8 hown hK.1 hP 1 rfl rfl 2 (by decide) fl36 (fun _ h9 => h9) rfl dX6_run_66 ?_
      refine lv_aload_n hx hb dX6_run_69 rfl (lv_at hl 3 rfl) ?_
      obtain ⟨y5, gy5, h⟩ := zb_some h
      have hpm : List.Perm (zw_rh tt kr br ++ (zw_t0 tt kt y3.2 ++ (zw_tn tt kt y3.2 ++ (zw_t2 tt kt y3.2))) ++ zw_co tt kv bv) ((zw_tn tt kt y3.2 ++ zw_co tt kv bv) ++ (zw_rh tt kr br ++ zw_t0 tt kt y3.2 ++ zw_t2 tt kt y3.2)) := z_pm (fun _ x => by simp only [List.count_append, List.count_nil] <;> omega)
      have hPc := z_takeP hpm hP
      have hDc := z_takeD hpm hD
      have hFc := z_free0 hDc hS hA
      refine z_callmi (wc := (zw_tn tt kt y3.2 ++ zw_co tt kv bv)) (w1 := (zw_tn tt kt y3.2 ++ zw_co tt kv y5.2)) (va_runS (As := [.int (y3.2 0 1), .ref (kt 1), .ref (kv 0)]) (rest := []) ⟨hx, hb, hml, hown, hts⟩ (c_X6_perform l D tt kt kv _ y3.2 bv (y3.2 0 1) y5 gy5) (va_cwS 3 hts gX6_run_X6_perform rfl rfl rfl (by decide +kernel) ⟨Nat.le_of_ble_eq_true rfl, Nat.le_of_ble_eq_true rfl⟩) (z_preSm hK hPc hDc) rfl rfl hl.1 rfl (lv_room (Nat.le_of_ble_eq_true rfl)) dX6_run_70 ⟨Nat.zero_le _, Nat.zero_le _⟩) hS hFc (fun H locs ny5 hP1 hD1 hk1 hS => ?_)
      have hpm2 : List.Perm (zw_rh tt kr br ++ (zw_t0 tt kt y3.2 ++ (zw_tn tt kt y3.2 ++ (zw_t2 tt kt y3.2))) ++ zw_co tt kv y5.2) ((zw_tn tt kt y3.2 ++ zw_co tt kv y5.2) ++ (zw_rh tt kr br ++ zw_t0 tt kt y3.2 ++ zw_t2 tt kt y3.2)) := z_pm (fun _ x => by simp only [List.count_append, List.count_nil] <;> omega)
      obtain ⟨hP, hD⟩ := z_joinB hpm hpm2 hP hD hk1 hFc hP1 hD1
      clear hpm hpm2
      have hP : va_P D vwCl (zw_rh tt kr br ++ zw_tx tt kt y3.2 ++ zw_co tt kv y5.2) H := hP
      have hD : va_D A (zw_rh tt kr br ++ zw_tx tt kt y3.2 ++ zw_co tt kv y5.2) := hD
      refine lv_istore (lv' := [(5, .int y5.1), (4, .int y3.1), (0, .ref (kr 0)), (1, .ref (kt 0)), (2, .ref (kv 0)), (3, .int x3)]) hx hb dX6_run_73 hl (by decide) rfl (fun ls hl => ?_)
      refine lv_iload hx hb dX6_run_75 (lv_at hl 0 rfl) ?_
      refine lv_if_ge (tgt := 92) hx hb dX6_run_77 (by decide) (fun k6 => ?_) (fun k6 => ?_)
      rotate_left
      · replace h := z_neg k6 h
        refine lv_aload_n hx hb dX6_run_80 rfl (lv_at hl 2 rfl) ?_
        refine lv_iconst (v := 2) hx hb dX6_run_81 (by decide) ?_
        refine va_put (D := D) (ci := 6) (v := .int 2) (ty := .int) (C := RX6) (T := TX6) (N := 4) hx hb hts hi6 tyX6 tyX6_ok nmX6 hown hK.1 hP hD hS 0 rfl rfl 2 (by decide) fl18 (fun _ h9 => h9) rfl (by decide +kernel) rfl rfl (Nat.le_of_ble_eq_true rfl) dX6_run_82 (fun H locs hP hD hS => ?_)
        have hP : va_P D vwCl (zw_rh tt kr (zu br 0 (zu (br 0) 2 2)) ++ zw_tx tt kt y3.2 ++ zw_co tt kv y5.2) H := hP
        have hD : va_D A (zw_rh tt kr (zu br 0 (zu (br 0) 2 2)) ++ zw_tx tt kt y3.2 ++ zw_co tt kv y5.2) := hD
        refine lv_aload_n hx hb dX6_run_85 rfl (lv_at hl 2 rfl) ?_
        refine lv_iload hx hb dX6_run_86 (lv_at hl 0 rfl) ?_
        refine va_put (D := D) (ci := 6) (v := .int y5.1) (ty := .int) (C := RX6) (T := TX6) (N := 4) hx hb hts hi6 tyX6 tyX6_ok nmX6 hown hK.1 hP hD hS 0 rfl rfl 3 (by decide) fl21 (fun _ h9 => h9) rfl (by decide +kernel) rfl rfl (Nat.le_of_ble_eq_true rfl) dX6_run_88 (fun H locs hP hD hS => ?_)
        have hP : va_P D vwCl (zw_rh tt kr (zu br 0 (zu (zu (br 0) 2 2) 3 y5.1)) ++ zw_tx tt kt y3.2 ++ zw_co tt kv y5.2) H := hP
        have hD : va_D A (zw_rh tt kr (zu br 0 (zu (zu (br 0) 2 2) 3 y5.1)) ++ zw_tx tt kt y3.2 ++ zw_co tt kv y5.2) := hD
        exact hfin _ _ _ _ _ _ _ h hP hD hS dX6_run_91
      replace h := z_pos k6 h
      refine lv_aload_n hx hb dX6_run_92 rfl (lv_at hl 2 rfl) ?_
      refine lv_dup hx hb dX6_run_93 rfl ?_
      refine va_get (D := D) (ci := 6) (v := .int (br 0 0)) (C := RX6) (T := TX6) (N := 4) hx hb hts hi6 hown hK.1 hP 0 rfl rfl 0 (by decide) fl9 (fun _ h9 => h9) rfl dX6_run_94 ?_
      refine lv_iconst (v := 1) hx hb dX6_run_97 (by decide) ?_
      refine lv_iadd hx hb dX6_run_98 ?_
      refine va_put (D := D) (ci := 6) (v := .int ((br 0 0) + 1)) (ty := .int) (C := RX6) (T := TX6) (N := 4) hx hb hts hi6 tyX6 tyX6_ok nmX6 hown hK.1 hP hD hS 0 rfl rfl 0 (by decide) fl9 (fun _ h9 => h9) rfl (by decide +kernel) rfl rfl (Nat.le_of_ble_eq_true rfl) dX6_run_99 (fun H locs hP hD hS => ?_)
      have hP : va_P D vwCl (zw_rh tt kr (zu br 0 (zu (br 0) 0 ((br 0 0) + 1))) ++ zw_tx tt kt y3.2 ++ zw_co tt kv y5.2) H := hP
      have hD : va_D A (zw_rh tt kr (zu br 0 (zu (br 0) 0 ((br 0 0) + 1))) ++ zw_tx tt kt y3.2 ++ zw_co tt kv y5.2) := hD
      refine lv_aload_n hx hb dX6_run_102 rfl (lv_at hl 2 rfl) ?_
      refine lv_iload hx hb dX6_run_103 (lv_at hl 1 rfl) ?_
      refine va_put (D := D) (ci := 6) (v := .int y3.1) (ty := .int) (C := RX6) (T := TX6) (N := 4) hx hb hts hi6 tyX6 tyX6_ok nmX6 hown hK.1 hP hD hS 0 rfl rfl 1 (by decide) fl15 (fun _ h9 => h9) rfl (by decide +kernel) rfl rfl (Nat.le_of_ble_eq_true rfl) dX6_run_105 (fun H locs hP hD hS => ?_)
      have hP : va_P D vwCl (zw_rh tt kr (zu br 0 (zu (zu (br 0) 0 ((br 0 0) + 1)) 1 y3.1)) ++ zw_tx tt kt y3.2 ++ zw_co tt kv y5.2) H := hP
      have hD : va_D A (zw_rh tt kr (zu br 0 (zu (zu (br 0) 0 ((br 0 0) + 1)) 1 y3.1)) ++ zw_tx tt kt y3.2 ++ zw_co tt kv y5.2) := hD
      refine lv_iinc (v := (x3 + 1)) (lv' := [(3, .int (x3 + 1)), (5, .int y5.1), (4, .int y3.1), (0, .ref (kr 0)), (1, .ref (kt 0)), (2, .ref (kv 0))]) hx hb dX6_run_108 hl (k := 5) rfl rfl (by decide) rfl (fun ls hl => ?_)
      refine lv_goto (tgt := 22) hx hb dX6_run_111 (by decide) ?_
      exact ih (zu br 0 (zu (zu (br 0) 0 ((br 0 0) + 1)) 1 y3.1)) y3.2 y5.2 (x3 + 1) _ _ _ hP hD hS (lv_sub hl [3, 4, 5, 0] rfl) h
  have hl := lv_entry ([.ref (kr 0), .ref (kt 0), .ref (kv 0)]) (n := 6) (Nat.le_of_ble_eq_true rfl)
  refine W.eq (g2 := F0 m 0 ((lg_sl ([.ref (kr 0), .ref (kt 0), .ref (kv 0)]) ++ List.replicate (6 - (lg_sl ([.ref (kr 0), .ref (kt 0), .ref (kv 0)])).length) Slot.unset).toArray) []) (by rw [ha]; exact lg_entry_eq _ _ _) ?_
  generalize (lg_sl ([.ref (kr 0), .ref (kt 0), .ref (kv 0)]) ++ List.replicate (6 - (lg_sl ([.ref (kr 0), .ref (kt 0), .ref (kv 0)])).length) Slot.unset).toArray = ls at hl ⊢
  have hl : lv_has ls 6 [(0, .ref (kr 0)), (1, .ref (kt 0)), (2, .ref (kv 0))] := hl
  rw [f_X6_run] at h
  refine lv_aload_n hx hb dX6_run_0 rfl (lv_at hl 0 rfl) ?_
  refine lv_iconst (v := 0) hx hb dX6_run_1 (by decide) ?_
  refine va_put (D := D) (ci := 6) (v := .int 0) (ty := .int) (C := RX6) (T := TX6) (N := 4) hx hb hts hi6 tyX6 tyX6_ok nmX6 hown hK.1 hP hD hS 0 rfl rfl 0 (by decide) fl9 (fun _ h9 => h9) rfl (by decide +kernel) rfl rfl (Nat.le_of_ble_eq_true rfl) dX6_run_2 (fun H locs hP hD hS => ?_)
  have hP : va_P D vwCl (zw_rh tt kr (zu br 0 (zu (br 0) 0 0)) ++ zw_tx tt kt bt ++ zw_co tt kv bv) H := hP
  have hD : va_D A (zw_rh tt kr (zu br 0 (zu (br 0) 0 0)) ++ zw_tx tt kt bt ++ zw_co tt kv bv) := hD
  refine lv_aload_n hx hb dX6_run_5 rfl (lv_at hl 0 rfl) ?_
  refine lv_iconst (v := 0) hx hb dX6_run_6 (by decide) ?_
  refine va_put (D := D) (ci := 6) (v := .int 0) (ty := .int) (C := RX6) (T := TX6) (N := 4) hx hb hts hi6 tyX6 tyX6_ok nmX6 hown hK.1 hP hD hS 0 rfl rfl 1 (by decide) fl15 (fun _ h9 => h9) rfl (by decide +kernel) rfl rfl (Nat.le_of_ble_eq_true rfl) dX6_run_7 (fun H locs hP hD hS => ?_)
  have hP : va_P D vwCl (zw_rh tt kr (zu br 0 (zu (zu (br 0) 0 0) 1 0)) ++ zw_tx tt kt bt ++ zw_co tt kv bv) H := hP
  have hD : va_D A (zw_rh tt kr (zu br 0 (zu (zu (br 0) 0 0) 1 0)) ++ zw_tx tt kt bt ++ zw_co tt kv bv) := hD
  refine lv_aload_n hx hb dX6_run_10 rfl (lv_at hl 0 rfl) ?_
  refine lv_iconst (v := 0) hx hb dX6_run_11 (by decide) ?_
  refine va_put (D := D) (ci := 6) (v := .int 0) (ty := .int) (C := RX6) (T := TX6) (N := 4) hx hb hts hi6 tyX6 tyX6_ok nmX6 hown hK.1 hP hD hS 0 rfl rfl 2 (by decide) fl18 (fun _ h9 => h9) rfl (by decide +kernel) rfl rfl (Nat.le_of_ble_eq_true rfl) dX6_run_12 (fun H locs hP hD hS => ?_)
  have hP : va_P D vwCl (zw_rh tt kr (zu br 0 (zu (zu (zu (br 0) 0 0) 1 0) 2 0)) ++ zw_tx tt kt bt ++ zw_co tt kv bv) H := hP
  have hD : va_D A (zw_rh tt kr (zu br 0 (zu (zu (zu (br 0) 0 0) 1 0) 2 0)) ++ zw_tx tt kt bt ++ zw_co tt kv bv) := hD
  refine lv_aload_n hx hb dX6_run_15 rfl (lv_at hl 0 rfl) ?_
  refine lv_iconst (v := 0) hx hb dX6_run_16 (by decide) ?_
  refine va_put (D := D) (ci := 6) (v := .int 0) (ty := .int) (C := RX6) (T := TX6) (N := 4) hx hb hts hi6 tyX6 tyX6_ok nmX6 hown hK.1 hP hD hS 0 rfl rfl 3 (by decide) fl21 (fun _ h9 => h9) rfl (by decide +kernel) rfl rfl (Nat.le_of_ble_eq_true rfl) dX6_run_17 (fun H locs hP hD hS => ?_)
  have hP : va_P D vwCl (zw_rh tt kr (zu br 0 (zu (zu (zu (zu (br 0) 0 0) 1 0) 2 0) 3 0)) ++ zw_tx tt kt bt ++ zw_co tt kv bv) H := hP
  have hD : va_D A (zw_rh tt kr (zu br 0 (zu (zu (zu (zu (br 0) 0 0) 1 0) 2 0) 3 0)) ++ zw_tx tt kt bt ++ zw_co tt kv bv) := hD
  refine lv_iconst (v := 0) hx hb dX6_run_20 (by decide) ?_
  refine lv_istore_n (lv' := [(3, .int 0), (0, .ref (kr 0)), (1, .ref (kt 0)), (2, .ref (kv 0))]) hx hb dX6_run_21 rfl hl (by decide) rfl (fun ls hl => ?_)
  exact b22 1000 (zu br 0 (zu (zu (zu (zu (br 0) 0 0) 1 0) 2 0) 3 0)) bt bv 0 _ _ _ hP hD hS (lv_sub hl [1, 2, 3, 0] rfl) h
set_option maxHeartbeats 4000000 in
set_option maxRecDepth 100000 in
theorem c_X6_failed (l : Launch) (D : va_G) (tt : Nat → ClassId) (kr : Nat → Nat) (br : zV)  (out : Int32) (h : f_X6_failed br = some out) : Met l yX6_failed wsX6_failed { frames := 0, cells := 0, slots := 0, locals := 0 } (zPr [.ref (kr 0)] D tt (zw_rh tt kr br)) (zQr .boolean out) 0 0 (fun _ => False) := by
  refine Met.ofW (cc := cX6_failed) (maxL := 1) (ret := (some .boolean)) (by decide) rfl ?_
  intro p e s m args below meth c s₁ B hml hv
  obtain ⟨ha, hP, hK⟩ := hv
  have hx := B.exec
  have hb := B.bytes
  have hr := B.returns
  have hts := atoms_spec (ws := wsX6_failed) B.pre
  have hown : s.vm.findClass RX6 = some m.cls := findClass_of_methodNamed B.named
  have hlocks := B.notSynchronized
  have hi6 : ∀ w ∈ u_ws RX6 TX6 4, w ∈ wsX6_failed := fun _ h => List.mem_cons_of_mem _ (List.mem_append_right _ h)
  have fl18 := hts (.fieldLink RX6 18 "CapStacks$Rehearsal" "reason" "I") (by decide +kernel)
  have hfin : ∀ (v : Int32) (pc : Nat) (ls : Array Slot), some v = some out → narrow .boolean (.int v) = .int v → decode cX6_failed pc = .ok (.ireturn, 1) → W p l e (headSpec wsX6_failed { frames := 0, cells := 0, slots := 0, locals := 0 }).room s m args below meth c s.heap [] 0 0 (MQ below (zQr .boolean out) args s 0 0 (fun _ => False)) (F0 m pc ls [.int v]) := by
    intro v pc ls he hn hd
    cases he
    exact W.zret hx hb hr hn (fun t ht hW => ⟨rfl, hn, ht⟩) (fun _ h => by cases h) hd
  generalize MQ below (zQr .boolean out) args s 0 0 (fun _ => False) = Q at hfin ⊢
  have hl := lv_entry ([.ref (kr 0)]) (n := 1) (Nat.le_of_ble_eq_true rfl)
  refine W.eq (g2 := F0 m 0 ((lg_sl ([.ref (kr 0)]) ++ List.replicate (1 - (lg_sl ([.ref (kr 0)])).length) Slot.unset).toArray) []) (by rw [ha]; exact lg_entry_eq _ _ _) ?_
  generalize (lg_sl ([.ref (kr 0)]) ++ List.replicate (1 - (lg_sl ([.ref (kr 0)])).length) Slot.unset).toArray = ls at hl ⊢
  have hl : lv_has ls 1 [(0, .ref (kr 0))] := hl
  rw [f_X6_failed] at h
  refine lv_aload_n hx hb dX6_failed_0 rfl (lv_at hl 0 rfl) ?_
  refine va_get (D := D) (ci := 6) (v := .int (br 0 2)) (C := RX6) (T := TX6) (N := 4) hx hb hts hi6 hown hK.1 hP 0 rfl rfl 2 (by decide) fl18 (fun _ h9 => h9) rfl dX6_failed_1 ?_
  refine lv_if_eq (tgt := 11) hx hb dX6_failed_4 (by decide) (fun k1 => ?_) (fun k1 => ?_)
  · replace h := z_pos k1 h
    refine lv_iconst (v := 0) hx hb dX6_failed_11 (by decide) ?_
    exact hfin _ _ _ h rfl dX6_failed_12
  replace h := z_neg k1 h
  refine lv_iconst (v := 1) hx hb dX6_failed_7 (by decide) ?_
  refine lv_goto (tgt := 12) hx hb dX6_failed_8 (by decide) ?_
  exact hfin _ _ _ h rfl dX6_failed_12
set_option maxHeartbeats 4000000 in
set_option maxRecDepth 100000 in
theorem c_X6_about (l : Launch) (D : va_G) (tt : Nat → ClassId) (kr : Nat → Nat) (br : zV) (x1 : Int32) (out : Int32) (h : f_X6_about br x1 = some out) : Met l yX6_about wsX6_about { frames := 1, cells := 0, slots := 0, locals := 20 } (zPr [.ref (kr 0), .int x1] D tt (zw_rh tt kr br)) (zQr .int out) 0 0 (fun _ => False) := by
  refine Met.ofW (cc := cX6_about) (maxL := 2) (ret := (some .int)) (by decide) rfl ?_
  intro p e s m args below meth c s₁ B hml hv
  obtain ⟨ha, hP, hK⟩ := hv
  have hx := B.exec
  have hb := B.bytes
  have hr := B.returns
  have hts := atoms_spec (ws := wsX6_about) B.pre
  have hown : s.vm.findClass RX6 = some m.cls := findClass_of_methodNamed B.named
  have hlocks := B.notSynchronized
  have hi6 : ∀ w ∈ u_ws RX6 TX6 4, w ∈ wsX6_about := fun _ h => List.mem_cons_of_mem _ (List.mem_append_right _ h)
  have fl15 := hts (.fieldLink RX6 15 "CapStacks$Rehearsal" "position" "I") (by decide +kernel)
  have fl18 := hts (.fieldLink RX6 18 "CapStacks$Rehearsal" "reason" "I") (by decide +kernel)
  have fl21 := hts (.fieldLink RX6 21 "CapStacks$Rehearsal" "cause" "I") (by decide +kernel)
  have hfin : ∀ (v : Int32) (pc : Nat) (ls : Array Slot), some v = some out → narrow .int (.int v) = .int v → decode cX6_about pc = .ok (.ireturn, 1) → W p l e (headSpec wsX6_about { frames := 1, cells := 0, slots := 0, locals := 20 }).room s m args below meth c s.heap [] 0 0 (MQ below (zQr .int out) args s 0 0 (fun _ => False)) (F0 m pc ls [.int v]) := by
    intro v pc ls he hn hd
    cases he
    exact W.zret hx hb hr hn (fun t ht hW => ⟨rfl, hn, ht⟩) (fun _ h => by cases h) hd
  generalize MQ below (zQr .int out) args s 0 0 (fun _ => False) = Q at hfin ⊢
  have b23 : ∀ (x1 : Int32) (ls : Array Slot), lv_has ls 2 [(0, .ref (kr 0)), (1, .int x1)] → f_X6_about_b23 br x1 = some out → W p l e (headSpec wsX6_about { frames := 1, cells := 0, slots := 0, locals := 20 }).room s m args below meth c s.heap [] 0 0 Q (F0 m 23 ls []) := by
    intro x1 ls hl h
    rw [f_X6_about_b23] at h
    refine lv_iload_n hx hb dX6_about_23 rfl (lv_at hl 1 rfl) ?_
    by_cases k1 : x1 = 0
    · replace h := z_pos k1 h
      rw [k1]
      refine lv_lookup (off := 28) (tgt := 52) hx hb dX6_about_24 (by decide) (by decide) (by decide) ?_
      refine lv_aload_n hx hb dX6_about_52 rfl (lv_at hl 0 rfl) ?_
      refine va_get (D := D) (ci := 6) (v := .int (br 0 1)) (C := RX6) (T := TX6) (N := 4) hx hb hts hi6 hown hK.1 hP 0 rfl rfl 1 (by decide) fl15 (fun _ h9 => h9) rfl dX6_about_53 ?_
      exact hfin _ _ _ h rfl dX6_about_56
    replace h := z_neg k1 h
    by_cases k2 : x1 = 1
    · replace h := z_pos k2 h
      rw [k2]
      refine lv_lookup (off := 33) (tgt := 57) hx hb dX6_about_24 (by decide) (by decide) (by decide) ?_
      refine lv_aload_n hx hb dX6_about_57 rfl (lv_at hl 0 rfl) ?_
      refine va_get (D := D) (ci := 6) (v := .int (br 0 2)) (C := RX6) (T := TX6) (N := 4) hx hb hts hi6 hown hK.1 hP 0 rfl rfl 2 (by decide) fl18 (fun _ h9 => h9) rfl dX6_about_58 ?_
      exact hfin _ _ _ h rfl dX6_about_61
    replace h := z_neg k2 h
    refine lv_lookup (off := 38) (tgt := 62) hx hb dX6_about_24 (by decide) (by rw [lv_osw k1 (by decide)]; rw [lv_osw k2 (by decide)]; rfl) (by decide) ?_
    refine lv_aload_n hx hb dX6_about_62 rfl (lv_at hl 0 rfl) ?_
    refine va_get (D := D) (ci := 6) (v := .int (br 0 3)) (C := RX6) (T := TX6) (N := 4) hx hb hts hi6 hown hK.1 hP 0 rfl rfl 3 (by decide) fl21 (fun _ h9 => h9) rfl dX6_about_63 ?_
    exact hfin _ _ _ h rfl dX6_about_66
  have hl := lv_entry ([.ref (kr 0), .int x1]) (n := 2) (Nat.le_of_ble_eq_true rfl)
  refine W.eq (g2 := F0 m 0 ((lg_sl ([.ref (kr 0), .int x1]) ++ List.replicate (2 - (lg_sl ([.ref (kr 0), .int x1])).length) Slot.unset).toArray) []) (by rw [ha]; exact lg_entry_eq _ _ _) ?_
  generalize (lg_sl ([.ref (kr 0), .int x1]) ++ List.replicate (2 - (lg_sl ([.ref (kr 0), .int x1])).length) Slot.unset).toArray = ls at hl ⊢
  have hl : lv_has ls 2 [(0, .ref (kr 0)), (1, .int x1)] := hl
  rw [f_X6_about] at h
  refine lv_aload_n hx hb dX6_about_0 rfl (lv_at hl 0 rfl) ?_
  obtain ⟨y3, gy3, h⟩ := zb_some h
  refine z_callr (va_runV (As := []) (rest := []) ⟨hx, hb, hml, hown, hts⟩ (c_X6_failed l D tt kr br y3 gy3) (cwV 0 hts gX6_about_X6_failed rfl rfl rfl (by decide +kernel) ⟨Nat.le_of_ble_eq_true rfl, Nat.le_of_ble_eq_true rfl⟩) (z_preVr hK hP (ci := 6) (q0 := 0) rfl rfl) rfl rfl hl.1 rfl (lv_room (Nat.le_of_ble_eq_true rfl)) dX6_about_1 ⟨Nat.zero_le _, Nat.zero_le _⟩) (fun ny3 => ?_)
  refine lv_if_eq (tgt := 20) hx hb dX6_about_4 (by decide) (fun k4 => ?_) (fun k4 => ?_)
  · replace h := z_pos k4 h
    refine lv_bipush (v := (-4)) hx hb dX6_about_20 (by decide) ?_
    exact hfin _ _ _ h rfl dX6_about_22
  replace h := z_neg k4 h
  refine lv_iload_n hx hb dX6_about_7 rfl (lv_at hl 1 rfl) ?_
  refine lv_iconst (v := 2) hx hb dX6_about_8 (by decide) ?_
  refine lv_icmp_ne (tgt := 23) hx hb dX6_about_9 (by decide) (fun k5 => ?_) (fun k5 => ?_)
  · replace h := z_neg k5 h
    exact b23 x1 _ (lv_sub hl [0, 1] rfl) h
  replace h := z_pos k5 h
  refine lv_aload_n hx hb dX6_about_12 rfl (lv_at hl 0 rfl) ?_
  refine va_get (D := D) (ci := 6) (v := .int (br 0 2)) (C := RX6) (T := TX6) (N := 4) hx hb hts hi6 hown hK.1 hP 0 rfl rfl 2 (by decide) fl18 (fun _ h9 => h9) rfl dX6_about_13 ?_
  refine lv_iconst (v := 1) hx hb dX6_about_16 (by decide) ?_
  refine lv_icmp_ne (tgt := 23) hx hb dX6_about_17 (by decide) (fun k6 => ?_) (fun k6 => ?_)
  · replace h := z_neg k6 h
    exact b23 x1 _ (lv_sub hl [0, 1] rfl) h
  replace h := z_pos k6 h
  refine lv_bipush (v := (-4)) hx hb dX6_about_20 (by decide) ?_
  exact hfin _ _ _ h rfl dX6_about_22
