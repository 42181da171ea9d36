/-! ===== contracts: 13.text ===== -/
/-! ===== strings and statics that nobody writes ===== -/
def zWn : Nat → Nat := fun i => [65, 67, 69, 71, 73, 75, 77].getD i 0
def zWt : Nat → String := fun i => ["issue", "split", "back", "grant", "take", "leave", "pass"].getD i ""
/-- where the words lie, their rows, the row of numbers, the formatter -/
abbrev zGs : Type := (Nat → Nat) × (Nat → Nat) × Nat × Value
def zG (gs : zGs) (A : Nat → Prop) (U : State) (H : Heap) : Prop :=
  (∀ i, i < 7 → vk_R RX8 (zWn i) (zWt i) (gs.1 i) U) ∧ vk_S 7 zLen zByt gs.1 gs.2.1 A U H ∧ va_Z "java/lang/String" "COMPACT_STRINGS" "Z" (.int 1) A U H ∧ va_Z "jdk/internal/util/Preconditions" "SIOOBE_FORMATTER" "Ljava/util/function/BiFunction;" gs.2.2.2 A U H ∧ (gs.2.2.2 = .null ∨ ∃ t, gs.2.2.2 = .ref t) ∧ va_Z "CapStacks" "NUMBERS_OF" "[I" (.ref gs.2.2.1) A U H ∧ va_T .int gs.2.2.1 7 (fun j => .int (zNum j)) A U H ∧ va_Nw (.fieldLinkNest RX8 38 "CapStacks" "NUMBERS_OF" "[I" "CapStacks") U
theorem zG.same {gs : zGs} {A : Nat → Prop} {u U : State} {H : Heap} (hv : u.vm = U.vm) (h : zG gs A u H) : zG gs A U H := by
  have ha : u.vm.Alike U.vm := by rw [← hv]; exact Vm.Alike.refl u.vm
  obtain ⟨h1, h2, h3, h4, h5, h6, h7, h8⟩ := h
  exact ⟨fun i hi => vk_R.same hv.symm (h1 i hi), h2.moved ha, h3.moved ha, h4.moved ha, h5, h6.moved ha, h7.moved ha, va_Nw.same rfl hv h8⟩
theorem zG.step {gs : zGs} {A B : Nat → Prop} {s U : State} {H : Heap} {locs : List Loc} (h : zG gs A s s.heap) (hS : va_S A s.heap H locs) (hU : U.heap = H) (hW : s.WarmedH U.vm) (hAB : ∀ q, B q → A q) : zG gs B U U.heap := by
  have ha := hW.alike
  obtain ⟨h1, h2, h3, h4, h5, h6, h7, h8⟩ := h
  rw [hU]
  exact ⟨fun i hi => vk_R.warm hW (h1 i hi), ((h2.kept hS.2.1).moved ha).narrow hAB, ((h3.kept hS.2.1).moved ha).narrow hAB, ((h4.kept hS.2.1).moved ha).narrow hAB, h5, ((h6.kept hS.2.1).moved ha).narrow hAB, ((h7.kept hS.2.1).moved ha).narrow hAB, va_Nw.warmF hW h8⟩
def zPs (av : List Value) (gs : zGs) : Array Value → State → Prop := va_Pc av (fun U => zG gs (fun _ => False) U U.heap)
theorem zPs_blind {av : List Value} {gs : zGs} : FrameBlind (zPs av gs) := fun _ _ _ _ q => ⟨q.1, zG.same rfl q.2⟩
def zQv : Array Value → State → Outcome → State → Prop := fun _ st oc t => oc = .returned none ∧ t.heap = st.heap
theorem z_preSs {gs : zGs} {A : Nat → Prop} {s : State} {H : Heap} {locs : List Loc} {As : List Value} (hG : zG gs A s s.heap) (hS : va_S A s.heap H locs) : PreS s H (zPs As gs) As :=
  ⟨zPs_blind, fun U hU hW => ⟨rfl, zG.step hG hS hU hW (fun _ h => h.elim)⟩⟩
theorem z_preVs {gs : zGs} {A : Nat → Prop} {s : State} {H : Heap} {locs : List Loc} {As : List Value} {i : Nat} (hi : i < 7) (hG : zG gs A s s.heap) (hS : va_S A s.heap H locs) : PreV s H "java/lang/String" (gs.1 i) (zPs (.ref (gs.1 i) :: As) gs) As :=
  ⟨zPs_blind, vk_recv hG.2.1 hi hS, fun U hU hW => ⟨rfl, zG.step hG hS hU hW (fun _ h => h.elim)⟩⟩
section ZCV
variable {p : Program} {l : Launch} {e : Env} {R : Room} {s : State} {m : MethodId} {args : Array Value} {below : List Frame} {meth : Method} {c : Code} {H : Heap} {locs : List Loc} {cells slots : Nat} {Q : State → Prop}
variable {pc : Nat} {ls : Array Slot} {rest st0 : List Value} {a : Array Value}
theorem z_callrv (hr : va_Run p l e R s m args below meth c H locs cells slots 0 0 (F0 m pc ls st0) rest (zQv a) (fun _ => False))
    (kk : W p l e R s m args below meth c H locs cells slots Q (F0 m (pc + 3) ls rest)) : W p l e R s m args below meth c H locs cells slots Q (F0 m pc ls st0) := by
  intro T hT X
  obtain ⟨v, st₀, t, T', L, h0, X', hL, e1, -, ⟨hv, hh⟩, st⟩ := hr T hT X
  cases hv
  obtain ⟨t2, a1, b1⟩ := kk T' (by rw [e1, hh, h0]) (Stand.forget X' (fun q h => (hL q h).elim))
  exact ⟨t2, st t2 a1, b1⟩
end ZCV
set_option maxHeartbeats 4000000 in
theorem c_J3_checkIndex (l : Launch) (gs : zGs) (x n : Int32) (vz : Value) (hvz : vz = .null ∨ ∃ t, vz = .ref t) (h1 : ¬ x < 0) (h2 : x < n) : Met l yJ3_checkIndex_8e157 wsJ3_checkIndex_8e157 { frames := 0, cells := 0, slots := 0, locals := 0 } (zPs [.int x, .int n, vz] gs) (zQr .int x) 0 0 (fun _ => False) := by
  refine Met.ofW (cc := cJ3_checkIndex_8e157) (maxL := 3) (ret := (some .int)) (by decide) rfl ?_
  intro p e s m args below meth c s₁ B hml hv
  obtain ⟨ha, hG⟩ := hv
  have hx := B.exec
  have hb := B.bytes
  have hr := B.returns
  have hlocks := B.notSynchronized
  have hl : ∃ ls, entryFrame m args 3 = F0 m 0 ls [] ∧ lv_has ls 3 [(0, .int x), (1, .int n)] := by
    rcases hvz with rfl | ⟨t, rfl⟩
    · have hl := lv_entry ([.int x, .int n, .null]) (n := 3) (Nat.le_of_ble_eq_true rfl)
      exact ⟨_, by rw [ha]; exact lg_entry_eq _ _ _, lv_sub hl [0, 1] rfl⟩
    · have hl := lv_entry ([.int x, .int n, .ref t]) (n := 3) (Nat.le_of_ble_eq_true rfl)
      exact ⟨_, by rw [ha]; exact lg_entry_eq _ _ _, lv_sub hl [0, 1] rfl⟩
  obtain ⟨ls, he, hl⟩ := hl
  rw [he]
  refine lv_iload_n hx hb dJ3_checkIndex_8e157_0 rfl (lv_at hl 0 rfl) ?_
  refine lv_if_lt (tgt := 9) hx hb dJ3_checkIndex_8e157_1 (by decide) (fun k => absurd k h1) (fun k => ?_)
  refine lv_iload_n hx hb dJ3_checkIndex_8e157_4 rfl (lv_at hl 0 rfl) ?_
  refine lv_iload_n hx hb dJ3_checkIndex_8e157_5 rfl (lv_at hl 1 rfl) ?_
  refine lv_icmp_lt (tgt := 16) hx hb dJ3_checkIndex_8e157_6 (by decide) (fun k => ?_) (fun k => absurd h2 k)
  refine lv_iload_n hx hb dJ3_checkIndex_8e157_16 rfl (lv_at hl 0 rfl) ?_
  exact W.zret (v := x) hx hb hr rfl (fun t ht hW => ⟨rfl, rfl, ht⟩) (fun _ h => by cases h) dJ3_checkIndex_8e157_17
set_option maxHeartbeats 4000000 in
theorem c_J0_checkIndex (l : Launch) (gs : zGs) (x n : Int32) (h1 : ¬ x < 0) (h2 : x < n) : Met l yJ0_checkIndex_df160 wsJ0_checkIndex_df160 { frames := 1, cells := 0, slots := 0, locals := 22 } (zPs [.int x, .int n] gs) zQv 0 0 (fun _ => False) := by
  refine Met.ofW (cc := cJ0_checkIndex_df160) (maxL := 2) (ret := none) (by decide) rfl ?_
  intro p e s m args below meth c s₁ B hml hv
  obtain ⟨ha, hG⟩ := hv
  have hx := B.exec
  have hb := B.bytes
  have hr := B.returns
  have hts := atoms_spec (ws := wsJ0_checkIndex_df160) B.pre
  have hown : s.vm.findClass RJ0 = some m.cls := findClass_of_methodNamed B.named
  have hlocks := B.notSynchronized
  have hS : va_S (fun _ => False) s.heap s.heap [] := va_S.rf
  have hl := lv_entry ([.int x, .int n]) (n := 2) (Nat.le_of_ble_eq_true rfl)
  subst ha
  rw [lg_entry_eq]
  generalize (lg_sl ([.int x, .int n]) ++ List.replicate (2 - (lg_sl ([.int x, .int n])).length) Slot.unset).toArray = ls at hl ⊢
  have hl : lv_has ls 2 [(0, .int x), (1, .int n)] := hl
  refine lv_iload_n hx hb dJ0_checkIndex_df160_0 rfl (lv_at hl 0 rfl) ?_
  refine lv_iload_n hx hb dJ0_checkIndex_df160_1 rfl (lv_at hl 1 rfl) ?_
  refine va_gets hx hb hG.2.2.2.1 hS hown (hts (.fieldLink RJ0 1053 "jdk/internal/util/Preconditions" "SIOOBE_FORMATTER" "Ljava/util/function/BiFunction;") (by decide +kernel)) (fun _ h9 => h9) dJ0_checkIndex_df160_2 ?_
  refine z_callr (va_runS (As := [.int x, .int n, gs.2.2.2]) (rest := []) ⟨hx, hb, hml, hown, hts⟩ (c_J3_checkIndex l gs x n gs.2.2.2 hG.2.2.2.2.1 h1 h2) (va_cwS 3 hts gJ0_checkIndex_df160_J3_checkIndex_8e157 rfl rfl rfl (by decide +kernel) ⟨Nat.le_of_ble_eq_true rfl, Nat.le_of_ble_eq_true rfl⟩) (z_preSs hG hS) rfl rfl hl.1 rfl (lv_room (Nat.le_of_ble_eq_true rfl)) dJ0_checkIndex_df160_5 ⟨Nat.zero_le _, Nat.zero_le _⟩) (fun _ => ?_)
  refine lv_pop hx hb dJ0_checkIndex_df160_8 rfl ?_
  exact W.vret hx hb hr (fun t ht hW => ⟨rfl, ht⟩) (fun _ h => by cases h) dJ0_checkIndex_df160_9
theorem zCh_ok : ∀ i, i < 7 → ∀ j, j < 5 → (((zCh i j) &&& 255).toUInt32 % 65536).toInt32 = zCh i j ∧ narrow .char (.int (zCh i j)) = .int (zCh i j) := by decide
theorem zLen_ok : ∀ i, i < 7 → zLen.getD i 0 ≤ 5 := by decide
set_option maxHeartbeats 4000000 in
theorem c_J1_charAt (l : Launch) (gs : zGs) (i j : Nat) (hi : i < 7) (hj : j < zLen.getD i 0) : Met l yJ1_charAt_3b067 wsJ1_charAt_3b067 { frames := 2, cells := 0, slots := 0, locals := 43 } (zPs [.ref (gs.2.1 i), .int (nI j)] gs) (zQr .char (zCh i j)) 0 0 (fun _ => False) := by
  refine Met.ofW (cc := cJ1_charAt_3b067) (maxL := 2) (ret := (some .char)) (by decide) rfl ?_
  intro p e s m args below meth c s₁ B hml hv
  obtain ⟨ha, hG⟩ := hv
  have hx := B.exec
  have hb := B.bytes
  have hr := B.returns
  have hts := atoms_spec (ws := wsJ1_charAt_3b067) B.pre
  have hown : s.vm.findClass RJ1 = some m.cls := findClass_of_methodNamed B.named
  have hlocks := B.notSynchronized
  have hS : va_S (fun _ => False) s.heap s.heap [] := va_S.rf
  have h5 := zLen_ok i hi
  have hT := (hG.2.1.1 i hi).2.2.2
  have hl := lv_entry ([.ref (gs.2.1 i), .int (nI j)]) (n := 2) (Nat.le_of_ble_eq_true rfl)
  subst ha
  rw [lg_entry_eq]
  generalize (lg_sl ([.ref (gs.2.1 i), .int (nI j)]) ++ List.replicate (2 - (lg_sl ([.ref (gs.2.1 i), .int (nI j)])).length) Slot.unset).toArray = ls at hl ⊢
  have hl : lv_has ls 2 [(0, .ref (gs.2.1 i)), (1, .int (nI j))] := hl
  refine lv_iload_n hx hb dJ1_charAt_3b067_0 rfl (lv_at hl 1 rfl) ?_
  refine lv_aload_n hx hb dJ1_charAt_3b067_1 rfl (lv_at hl 0 rfl) ?_
  refine va_tlen (v := nI (zLen.getD i 0)) hx hb hT hS rfl dJ1_charAt_3b067_2 ?_
  refine z_callrv (va_runS (As := [.int (nI j), .int (nI (zLen.getD i 0))]) (rest := []) ⟨hx, hb, hml, hown, hts⟩ (c_J0_checkIndex l gs (nI j) (nI (zLen.getD i 0)) (nI_pos (by omega)) (nI_lt hj (by omega))) (va_cwS 2 hts gJ1_charAt_3b067_J0_checkIndex_df160 rfl rfl rfl (by decide +kernel) ⟨Nat.le_of_ble_eq_true rfl, Nat.le_of_ble_eq_true rfl⟩) (z_preSs hG hS) rfl rfl hl.1 rfl (lv_room (Nat.le_of_ble_eq_true rfl)) dJ1_charAt_3b067_3 ⟨Nat.zero_le _, Nat.zero_le _⟩) ?_
  refine lv_aload_n hx hb dJ1_charAt_3b067_6 rfl (lv_at hl 0 rfl) ?_
  refine lv_iload_n hx hb dJ1_charAt_3b067_7 rfl (lv_at hl 1 rfl) ?_
  refine va_tb (v := .int (zCh i j)) hx hb hT hS (vp_in_nI hj (by omega)) (by rw [nI_clamp (by omega)]; rfl) dJ1_charAt_3b067_8 ?_
  refine lv_sipush (v := 255) hx hb dJ1_charAt_3b067_9 (by decide) ?_
  refine lv_iand hx hb dJ1_charAt_3b067_12 ?_
  refine lv_i2c (v := zCh i j) hx hb dJ1_charAt_3b067_13 (zCh_ok i hi j (by omega)).1 ?_
  exact W.zret (v := zCh i j) hx hb hr (zCh_ok i hi j (by omega)).2 (fun t ht hW => ⟨rfl, (zCh_ok i hi j (by omega)).2, ht⟩) (fun _ h => by cases h) dJ1_charAt_3b067_14
set_option maxHeartbeats 4000000 in
theorem c_J0_coder (l : Launch) (gs : zGs) (i : Nat) (hi : i < 7) : Met l yJ0_coder_7d493 wsJ0_coder_7d493 { frames := 0, cells := 0, slots := 0, locals := 0 } (zPs [.ref (gs.1 i)] gs) (zQr .byte 0) 0 0 (fun _ => False) := by
  refine Met.ofW (cc := cJ0_coder_7d493) (maxL := 1) (ret := (some .byte)) (by decide) rfl ?_
  intro p e s m args below meth c s₁ B hml hv
  obtain ⟨ha, hG⟩ := hv
  have hx := B.exec
  have hb := B.bytes
  have hr := B.returns
  have hts := atoms_spec (ws := wsJ0_coder_7d493) B.pre
  have hown : s.vm.findClass RJ0 = some m.cls := findClass_of_methodNamed B.named
  have hlocks := B.notSynchronized
  have hS : va_S (fun _ => False) s.heap s.heap [] := va_S.rf
  have hl := lv_entry ([.ref (gs.1 i)]) (n := 1) (Nat.le_of_ble_eq_true rfl)
  subst ha
  rw [lg_entry_eq]
  generalize (lg_sl ([.ref (gs.1 i)]) ++ List.replicate (1 - (lg_sl ([.ref (gs.1 i)])).length) Slot.unset).toArray = ls at hl ⊢
  have hl : lv_has ls 1 [(0, .ref (gs.1 i))] := hl
  refine va_gets hx hb hG.2.2.1 hS hown (hts (.fieldLink RJ0 38 "java/lang/String" "COMPACT_STRINGS" "Z") (by decide +kernel)) (fun _ h9 => h9) dJ0_coder_7d493_0 ?_
  refine lv_if_eq (tgt := 13) hx hb dJ0_coder_7d493_3 (by decide) (fun k => absurd k (by decide)) (fun k => ?_)
  refine lv_aload_n hx hb dJ0_coder_7d493_6 rfl (lv_at hl 0 rfl) ?_
  refine vk_getf hx hb (hG.2.1.1 i hi).2.1 hS hown (hts (.fieldLink RJ0 15 "java/lang/String" "coder" "B") (by decide +kernel)) (fun _ h9 => h9) dJ0_coder_7d493_7 ?_
  refine lv_goto (tgt := 14) hx hb dJ0_coder_7d493_10 (by decide) ?_
  exact W.zret (v := 0) hx hb hr rfl (fun t ht hW => ⟨rfl, rfl, ht⟩) (fun _ h => by cases h) dJ0_coder_7d493_14
set_option maxHeartbeats 4000000 in
theorem c_J0_isLatin1 (l : Launch) (gs : zGs) (i : Nat) (hi : i < 7) : Met l yJ0_isLatin1_aae02 wsJ0_isLatin1_aae02 { frames := 0, cells := 0, slots := 0, locals := 0 } (zPs [.ref (gs.1 i)] gs) (zQr .boolean 1) 0 0 (fun _ => False) := by
  refine Met.ofW (cc := cJ0_isLatin1_aae02) (maxL := 1) (ret := (some .boolean)) (by decide) rfl ?_
  intro p e s m args below meth c s₁ B hml hv
  obtain ⟨ha, hG⟩ := hv
  have hx := B.exec
  have hb := B.bytes
  have hr := B.returns
  have hts := atoms_spec (ws := wsJ0_isLatin1_aae02) B.pre
  have hown : s.vm.findClass RJ0 = some m.cls := findClass_of_methodNamed B.named
  have hlocks := B.notSynchronized
  have hS : va_S (fun _ => False) s.heap s.heap [] := va_S.rf
  have hl := lv_entry ([.ref (gs.1 i)]) (n := 1) (Nat.le_of_ble_eq_true rfl)
  subst ha
  rw [lg_entry_eq]
  generalize (lg_sl ([.ref (gs.1 i)]) ++ List.replicate (1 - (lg_sl ([.ref (gs.1 i)])).length) Slot.unset).toArray = ls at hl ⊢
  have hl : lv_has ls 1 [(0, .ref (gs.1 i))] := hl
  refine va_gets hx hb hG.2.2.1 hS hown (hts (.fieldLink RJ0 38 "java/lang/String" "COMPACT_STRINGS" "Z") (by decide +kernel)) (fun _ h9 => h9) dJ0_isLatin1_aae02_0 ?_
  refine lv_if_eq (tgt := 17) hx hb dJ0_isLatin1_aae02_3 (by decide) (fun k => absurd k (by decide)) (fun k => ?_)
  refine lv_aload_n hx hb dJ0_isLatin1_aae02_6 rfl (lv_at hl 0 rfl) ?_
  refine vk_getf hx hb (hG.2.1.1 i hi).2.1 hS hown (hts (.fieldLink RJ0 15 "java/lang/String" "coder" "B") (by decide +kernel)) (fun _ h9 => h9) dJ0_isLatin1_aae02_7 ?_
  refine lv_if_ne (tgt := 17) hx hb dJ0_isLatin1_aae02_10 (by decide) (fun k => absurd rfl k) (fun k => ?_)
  refine lv_iconst (v := 1) hx hb dJ0_isLatin1_aae02_13 (by decide) ?_
  refine lv_goto (tgt := 18) hx hb dJ0_isLatin1_aae02_14 (by decide) ?_
  exact W.zret (v := 1) hx hb hr rfl (fun t ht hW => ⟨rfl, rfl, ht⟩) (fun _ h => by cases h) dJ0_isLatin1_aae02_18
theorem z_shr0 (n : Nat) : nI n >>> ((0 : Int32) &&& 31) = nI n := sb_shr0 _
set_option maxHeartbeats 4000000 in
theorem c_J0_length (l : Launch) (gs : zGs) (i : Nat) (hi : i < 7) : Met l yJ0_length_8abf5 wsJ0_length_8abf5 { frames := 1, cells := 0, slots := 0, locals := 20 } (zPs [.ref (gs.1 i)] gs) (zQr .int (nI (zLen.getD i 0))) 0 0 (fun _ => False) := by
  refine Met.ofW (cc := cJ0_length_8abf5) (maxL := 1) (ret := (some .int)) (by decide) rfl ?_
  intro p e s m args below meth c s₁ B hml hv
  obtain ⟨ha, hG⟩ := hv
  have hx := B.exec
  have hb := B.bytes
  have hr := B.returns
  have hts := atoms_spec (ws := wsJ0_length_8abf5) B.pre
  have hown : s.vm.findClass RJ0 = some m.cls := findClass_of_methodNamed B.named
  have hlocks := B.notSynchronized
  have hS : va_S (fun _ => False) s.heap s.heap [] := va_S.rf
  have hl := lv_entry ([.ref (gs.1 i)]) (n := 1) (Nat.le_of_ble_eq_true rfl)
  subst ha
  rw [lg_entry_eq]
  generalize (lg_sl ([.ref (gs.1 i)]) ++ List.replicate (1 - (lg_sl ([.ref (gs.1 i)])).length) Slot.unset).toArray = ls at hl ⊢
  have hl : lv_has ls 1 [(0, .ref (gs.1 i))] := hl
  refine lv_aload_n hx hb dJ0_length_8abf5_0 rfl (lv_at hl 0 rfl) ?_
  refine vk_getf hx hb (hG.2.1.1 i hi).2.2.1 hS hown (hts (.fieldLink RJ0 9 "java/lang/String" "value" "[B") (by decide +kernel)) (fun _ h9 => h9) dJ0_length_8abf5_1 ?_
  refine va_tlen (v := nI (zLen.getD i 0)) hx hb (hG.2.1.1 i hi).2.2.2 hS rfl dJ0_length_8abf5_4 ?_
  refine lv_aload_n hx hb dJ0_length_8abf5_5 rfl (lv_at hl 0 rfl) ?_
  refine z_callr (va_runV (As := []) (rest := [.int (nI (zLen.getD i 0))]) ⟨hx, hb, hml, hown, hts⟩ (c_J0_coder l gs i hi) (cwV 0 hts gJ0_length_8abf5_J0_coder_7d493 rfl rfl rfl (by decide +kernel) ⟨Nat.le_of_ble_eq_true rfl, Nat.le_of_ble_eq_true rfl⟩) (z_preVs hi hG hS) rfl rfl hl.1 rfl (lv_room (Nat.le_of_ble_eq_true rfl)) dJ0_length_8abf5_6 ⟨Nat.zero_le _, Nat.zero_le _⟩) (fun _ => ?_)
  refine lv_ishr hx hb dJ0_length_8abf5_9 ?_
  rw [z_shr0]
  exact W.zret (v := nI (zLen.getD i 0)) hx hb hr rfl (fun t ht hW => ⟨rfl, rfl, ht⟩) (fun _ h => by cases h) dJ0_length_8abf5_10
set_option maxHeartbeats 4000000 in
theorem c_J0_charAt (l : Launch) (gs : zGs) (i j : Nat) (hi : i < 7) (hj : j < zLen.getD i 0) : Met l yJ0_charAt_5068e wsJ0_charAt_5068e { frames := 3, cells := 0, slots := 0, locals := 64 } (zPs [.ref (gs.1 i), .int (nI j)] gs) (zQr .char (zCh i j)) 0 0 (fun _ => False) := by
  refine Met.ofW (cc := cJ0_charAt_5068e) (maxL := 2) (ret := (some .char)) (by decide) rfl ?_
  intro p e s m args below meth c s₁ B hml hv
  obtain ⟨ha, hG⟩ := hv
  have hx := B.exec
  have hb := B.bytes
  have hr := B.returns
  have hts := atoms_spec (ws := wsJ0_charAt_5068e) B.pre
  have hown : s.vm.findClass RJ0 = some m.cls := findClass_of_methodNamed B.named
  have hlocks := B.notSynchronized
  have hS : va_S (fun _ => False) s.heap s.heap [] := va_S.rf
  have h5 := zLen_ok i hi
  have hl := lv_entry ([.ref (gs.1 i), .int (nI j)]) (n := 2) (Nat.le_of_ble_eq_true rfl)
  subst ha
  rw [lg_entry_eq]
  generalize (lg_sl ([.ref (gs.1 i), .int (nI j)]) ++ List.replicate (2 - (lg_sl ([.ref (gs.1 i), .int (nI j)])).length) Slot.unset).toArray = ls at hl ⊢
  have hl : lv_has ls 2 [(0, .ref (gs.1 i)), (1, .int (nI j))] := hl
  refine lv_aload_n hx hb dJ0_charAt_5068e_0 rfl (lv_at hl 0 rfl) ?_
  refine z_callr (va_runV (As := []) (rest := []) ⟨hx, hb, hml, hown, hts⟩ (c_J0_isLatin1 l gs i hi) (cwV 0 hts gJ0_charAt_5068e_J0_isLatin1_aae02 rfl rfl rfl (by decide +kernel) ⟨Nat.le_of_ble_eq_true rfl, Nat.le_of_ble_eq_true rfl⟩) (z_preVs hi hG hS) rfl rfl hl.1 rfl (lv_room (Nat.le_of_ble_eq_true rfl)) dJ0_charAt_5068e_1 ⟨Nat.zero_le _, Nat.zero_le _⟩) (fun _ => ?_)
  refine lv_if_eq (tgt := 16) hx hb dJ0_charAt_5068e_4 (by decide) (fun k => absurd k (by decide)) (fun k => ?_)
  refine lv_aload_n hx hb dJ0_charAt_5068e_7 rfl (lv_at hl 0 rfl) ?_
  refine vk_getf hx hb (hG.2.1.1 i hi).2.2.1 hS hown (hts (.fieldLink RJ0 9 "java/lang/String" "value" "[B") (by decide +kernel)) (fun _ h9 => h9) dJ0_charAt_5068e_8 ?_
  refine lv_iload_n hx hb dJ0_charAt_5068e_11 rfl (lv_at hl 1 rfl) ?_
  refine z_callr (va_runS (As := [.ref (gs.2.1 i), .int (nI j)]) (rest := []) ⟨hx, hb, hml, hown, hts⟩ (c_J1_charAt l gs i j hi hj) (va_cwS 2 hts gJ0_charAt_5068e_J1_charAt_3b067 rfl rfl rfl (by decide +kernel) ⟨Nat.le_of_ble_eq_true rfl, Nat.le_of_ble_eq_true rfl⟩) (z_preSs hG hS) rfl rfl hl.1 rfl (lv_room (Nat.le_of_ble_eq_true rfl)) dJ0_charAt_5068e_12 ⟨Nat.zero_le _, Nat.zero_le _⟩) (fun nz => ?_)
  exact W.zret (v := zCh i j) hx hb hr nz (fun t ht hW => ⟨rfl, nz, ht⟩) (fun _ h => by cases h) dJ0_charAt_5068e_15
/-- the start of a method that writes and reads words -/
def zPg (av : List Value) (D : va_G) (tt : Nat → ClassId) (ws : va_W) (sz : Nat) (gs : zGs) : Array Value → State → Prop := va_Pc av (fun U => U.heap.size = sz ∧ va_P D vwCl ws U.heap ∧ zK D tt U ∧ va_D (fun _ => True) ws ∧ zG gs (va_A ws sz) U U.heap)
theorem zPg_blind {av : List Value} {D : va_G} {tt : Nat → ClassId} {ws : va_W} {sz : Nat} {gs : zGs} : FrameBlind (zPg av D tt ws sz gs) := fun _ _ _ _ q => ⟨q.1, q.2.1, q.2.2.1, zK.same rfl q.2.2.2.1, q.2.2.2.2.1, zG.same rfl q.2.2.2.2.2⟩
theorem z_preVg {A : Nat → Prop} {gs : zGs} {s : State} {H : Heap} {locs : List Loc} {D : va_G} {tt : Nat → ClassId} {ws : va_W} {b : Nat} {q : vw_C} {As : List Value} {ci q0 : Nat} {fs : List Value} (hK : zK D tt s) (hP : va_P D vwCl ws H) (hD : va_D A ws) (hG : zG gs A s s.heap) (hS : va_S A s.heap H locs) (hF : ∀ q, va_A ws H.size q → A q) (hc : vwCl[ci]? = some q) (he : ws[q0]? = some (b, .inr (ci, fs))) : PreV s H q.1 b (zPg (.ref b :: As) D tt ws H.size gs) As :=
  ⟨zPg_blind, va_recv hK.1 hP hc he, fun U hU hW => ⟨rfl, by rw [hU], by rw [hU]; exact hP, zK.warm hW hK, hD.weaken (fun _ _ _ _ => trivial), zG.step hG hS hU hW hF⟩⟩
/-- the start of a method that reads cells and words -/
def zPh (av : List Value) (D : va_G) (tt : Nat → ClassId) (ws : va_W) (gs : zGs) : Array Value → State → Prop := va_Pc av (fun U => va_P D vwCl ws U.heap ∧ zK D tt U ∧ zG gs (fun _ => False) U U.heap)
theorem zPh_blind {av : List Value} {D : va_G} {tt : Nat → ClassId} {ws : va_W} {gs : zGs} : FrameBlind (zPh av D tt ws gs) := fun _ _ _ _ q => ⟨q.1, q.2.1, zK.same rfl q.2.2.1, zG.same rfl q.2.2.2⟩
theorem z_preVh {A : Nat → Prop} {gs : zGs} {s : State} {H : Heap} {locs : List Loc} {D : va_G} {tt : Nat → ClassId} {ws : va_W} {b : Nat} {q : vw_C} {As : List Value} {ci q0 : Nat} {fs : List Value} (hK : zK D tt s) (hP : va_P D vwCl ws H) (hG : zG gs A s s.heap) (hS : va_S A s.heap H locs) (hc : vwCl[ci]? = some q) (he : ws[q0]? = some (b, .inr (ci, fs))) : PreV s H q.1 b (zPh (.ref b :: As) D tt ws gs) As :=
  ⟨zPh_blind, va_recv hK.1 hP hc he, fun U hU hW => ⟨rfl, by rw [hU]; exact hP, zK.warm hW hK, zG.step hG hS hU hW (fun _ h => h.elim)⟩⟩
set_option maxHeartbeats 4000000 in
set_option maxRecDepth 100000 in
theorem c_X8_append (l : Launch) (D : va_G) (tt : Nat → ClassId) (kt : Nat → Nat) (sz : Nat) (bt : zV) (x1 : Int32) (out : Int32 × zV) (h : f_X8_append bt x1 = some out) : Met l yX8_append wsX8_append { frames := 1, cells := 0, slots := 0, locals := 22 } (zPm [.ref (kt 0), .int x1] D tt (zw_tx tt kt bt) sz) (zMi .int out.1 D (zw_tx tt kt out.2) (va_A (zw_tx tt kt bt) sz)) 0 0 (va_A (zw_tx tt kt bt) sz) := by
  refine Met.ofW (cc := cX8_append) (maxL := 2) (ret := (some .int)) (by decide) rfl ?_
  intro p e s m args below meth c s₁ B hml hv
  obtain ⟨ha, hsz, hP, hK, hD0⟩ := hv
  have hx := B.exec
  have hb := B.bytes
  have hr := B.returns
  have hts := atoms_spec (ws := wsX8_append) B.pre
  have hown : s.vm.findClass RX8 = some m.cls := findClass_of_methodNamed B.named
  have hlocks := B.notSynchronized
  have hi8 : ∀ w ∈ u_ws RX8 TX8 4, w ∈ wsX8_append := fun _ h => List.mem_cons_of_mem _ (List.mem_append_right _ h)
  have fl15 := hts (.fieldLink RX8 15 "CapStacks$Text" "letters" "[C") (by decide +kernel)
  have fl23 := hts (.fieldLink RX8 23 "CapStacks$Text" "length" "I") (by decide +kernel)
  have iniX9 := hts (.initialized RX9) (by decide +kernel)
  have st_X9_within := hts (.static yX9_within) (by decide +kernel)
  have nw19 : va_Nw (.methodLinkNest RX8 19 yX9_within "CapStacks") s := hK.2.1 (RX8, 19, yX9_within, "CapStacks") (List.mem_of_getElem? (i := 18) rfl)
  subst hsz
  have hD := hD0.self (sz := s.heap.size)
  generalize hAe : va_A (zw_tx tt kt bt) s.heap.size = A at hD ⊢
  have hA : ∀ q : Nat, s.heap.size ≤ q → A q := fun q h => by rw [← hAe]; exact Or.inr h
  have hS : va_S A s.heap s.heap [] := va_S.rf
  have hfin : ∀ (v : Int32) (bt : zV) (pc : Nat) (ls : Array Slot) (H : Heap) (locs : List Loc), some (v, bt) = some out → narrow .int (.int v) = .int v → va_P D vwCl (zw_tx tt kt bt) H → va_D A (zw_tx tt kt bt) → va_S A s.heap H locs → decode cX8_append pc = .ok (.ireturn, 1) → W p l e (headSpec wsX8_append { frames := 1, cells := 0, slots := 0, locals := 22 }).room s m args below meth c H locs 0 0 (MQ below (zMi .int out.1 D (zw_tx tt kt out.2) A) args s 0 0 A) (F0 m pc ls [.int v]) := by
    intro v bt pc ls H locs he hn hP hD hS hd
    cases he
    exact W.zret hx hb hr hn (fun t ht hW => ⟨⟨_, (), rfl, ⟨rfl, hn⟩, by rw [ht]; exact hP, hD⟩, hS.F ht⟩) hS.2.2 hd
  generalize MQ below (zMi .int out.1 D (zw_tx tt kt out.2) A) args s 0 0 A = Q at hfin ⊢
  have hl := lv_entry ([.ref (kt 0), .int x1]) (n := 2) (Nat.le_of_ble_eq_true rfl)
  refine W.eq (g2 := F0 m 0 ((lg_sl ([.ref (kt 0), .int x1]) ++ List.replicate (2 - (lg_sl ([.ref (kt 0), .int x1])).length) Slot.unset).toArray) []) (by rw [ha]; exact lg_entry_eq _ _ _) ?_
  generalize (lg_sl ([.ref (kt 0), .int x1]) ++ List.replicate (2 - (lg_sl ([.ref (kt 0), .int x1])).length) Slot.unset).toArray = ls at hl ⊢
  have hl : lv_has ls 2 [(0, .ref (kt 0)), (1, .int x1)] := hl
  rw [f_X8_append] at h
  refine lv_iload_n hx hb dX8_append_0 rfl (lv_at hl 1 rfl) ?_
  refine lv_bipush (v := 32) hx hb dX8_append_1 (by decide) ?_
  refine lv_bipush (v := 126) hx hb dX8_append_3 (by decide) ?_
  obtain ⟨y1, gy1, h⟩ := zb_some h
  refine z_callr (va_runSN (As := [.int x1, .int 32, .int 126]) (rest := []) ⟨hx, hb, hml, hown, hts⟩ (c_X9_within l D tt x1 32 126 y1 gy1) ⟨va_cnB (host := "CapStacks") 3 hts gX8_append_X9_within_n19 rfl rfl rfl nw19 iniX9 (by decide +kernel) ⟨Nat.le_of_ble_eq_true rfl, Nat.le_of_ble_eq_true rfl⟩, st_X9_within, trivial⟩ (z_preSr hK (hP.sub (ws' := ([] : va_W)) [] rfl)) rfl rfl hl.1 rfl (lv_room (Nat.le_of_ble_eq_true rfl)) dX8_append_5 ⟨Nat.zero_le _, Nat.zero_le _⟩) (fun ny1 => ?_)
  refine lv_if_ne (tgt := 13) hx hb dX8_append_8 (by decide) (fun k2 => ?_) (fun k2 => ?_)
  rotate_left
  · replace h := z_pos k2 h
    refine lv_iconst (v := (-1)) hx hb dX8_append_11 (by decide) ?_
    exact hfin _ _ _ _ _ _ h rfl hP hD hS dX8_append_12
  replace h := z_neg k2 h
  refine lv_aload_n hx hb dX8_append_13 rfl (lv_at hl 0 rfl) ?_
  refine va_get (D := D) (ci := 8) (v := .int (bt 0 0)) (C := RX8) (T := TX8) (N := 4) hx hb hts hi8 hown hK.1 hP 0 rfl rfl 0 (by decide) fl23 (fun _ h9 => h9) rfl dX8_append_14 ?_
  refine lv_bipush (v := 80) hx hb dX8_append_17 (by decide) ?_
  refine lv_icmp_lt (tgt := 25) hx hb dX8_append_19 (by decide) (fun k3 => ?_) (fun k3 => ?_)
  rotate_left
  · replace h := z_neg k3 h
    refine lv_bipush (v := (-3)) hx hb dX8_append_22 (by decide) ?_
    exact hfin _ _ _ _ _ _ h rfl hP hD hS dX8_append_24
  replace h := z_pos k3 h
  refine lv_aload_n hx hb dX8_append_25 rfl (lv_at hl 0 rfl) ?_
  refine va_get (D := D) (ci := 8) (v := .ref (kt 2)) (C := RX8) (T := TX8) (N := 4) hx hb hts hi8 hown hK.1 hP 0 rfl rfl 3 (by decide) fl15 (fun _ h9 => h9) rfl dX8_append_26 ?_
  refine lv_aload_n hx hb dX8_append_29 rfl (lv_at hl 0 rfl) ?_
  refine va_get (D := D) (ci := 8) (v := .int (bt 0 0)) (C := RX8) (T := TX8) (N := 4) hx hb hts hi8 hown hK.1 hP 0 rfl rfl 0 (by decide) fl23 (fun _ h9 => h9) rfl dX8_append_30 ?_
  refine lv_iload_n hx hb dX8_append_33 rfl (lv_at hl 1 rfl) ?_
  refine lv_i2c hx hb dX8_append_34 rfl ?_
  obtain ⟨q4, h⟩ := zA_some h
  refine va_cast hx hb hK.1 hP hD hS 2 2 rfl rfl q4 dX8_append_35 (fun H locs hP hD hS => ?_)
  have hP : va_P D vwCl (zw_tx tt kt (zu bt 2 (upd (bt 2) (bt 0 0).toNatClampNeg (vp_nar .char ((Int32.toUInt32 x1 % 65536).toInt32))))) H := hP
  have hD : va_D A (zw_tx tt kt (zu bt 2 (upd (bt 2) (bt 0 0).toNatClampNeg (vp_nar .char ((Int32.toUInt32 x1 % 65536).toInt32))))) := hD
  refine lv_aload_n hx hb dX8_append_36 rfl (lv_at hl 0 rfl) ?_
  refine lv_dup hx hb dX8_append_37 rfl ?_
  refine va_get (D := D) (ci := 8) (v := .int (bt 0 0)) (C := RX8) (T := TX8) (N := 4) hx hb hts hi8 hown hK.1 hP 0 rfl rfl 0 (by decide) fl23 (fun _ h9 => h9) rfl dX8_append_38 ?_
  refine lv_iconst (v := 1) hx hb dX8_append_41 (by decide) ?_
  refine lv_iadd hx hb dX8_append_42 ?_
  refine va_put (D := D) (ci := 8) (v := .int ((bt 0 0) + 1)) (ty := .int) (C := RX8) (T := TX8) (N := 4) hx hb hts hi8 tyX8 tyX8_ok nmX8 hown hK.1 hP hD hS 0 rfl rfl 0 (by decide) fl23 (fun _ h9 => h9) rfl (by decide +kernel) rfl rfl (Nat.le_of_ble_eq_true rfl) dX8_append_43 (fun H locs hP hD hS => ?_)
  have hP : va_P D vwCl (zw_tx tt kt (zu (zu bt 0 (zu (bt 0) 0 ((bt 0 0) + 1))) 2 (upd (bt 2) (bt 0 0).toNatClampNeg (vp_nar .char ((Int32.toUInt32 x1 % 65536).toInt32))))) H := hP
  have hD : va_D A (zw_tx tt kt (zu (zu bt 0 (zu (bt 0) 0 ((bt 0 0) + 1))) 2 (upd (bt 2) (bt 0 0).toNatClampNeg (vp_nar .char ((Int32.toUInt32 x1 % 65536).toInt32))))) := hD
  refine lv_aload_n hx hb dX8_append_46 rfl (lv_at hl 0 rfl) ?_
  refine va_get (D := D) (ci := 8) (v := .int ((bt 0 0) + 1)) (C := RX8) (T := TX8) (N := 4) hx hb hts hi8 hown hK.1 hP 0 rfl rfl 0 (by decide) fl23 (fun _ h9 => h9) rfl dX8_append_47 ?_
  exact hfin _ _ _ _ _ _ h rfl hP hD hS dX8_append_50
set_option maxHeartbeats 4000000 in
set_option maxRecDepth 100000 in
theorem c_X8_stands (l : Launch) (D : va_G) (tt : Nat → ClassId) (kt : Nat → Nat) (bt : zV) (x1 : Int32) (x2 : Int32) (out : Int32) (h : f_X8_stands bt x1 x2 = some out) : Met l yX8_stands wsX8_stands { frames := 1, cells := 0, slots := 0, locals := 22 } (zPr [.ref (kt 0), .int x1, .int x2] D tt (zw_tx tt kt bt)) (zQr .boolean out) 0 0 (fun _ => False) := by
  refine Met.ofW (cc := cX8_stands) (maxL := 3) (ret := (some .boolean)) (by decide) rfl ?_
  intro p e s m args below meth c s₁ B hml hv
  obtain ⟨ha, hP, hK⟩ := hv
  have hx := B.exec
  have hb := B.bytes
  have hr := B.returns
  have hts := atoms_spec (ws := wsX8_stands) B.pre
  have hown : s.vm.findClass RX8 = some m.cls := findClass_of_methodNamed B.named
  have hlocks := B.notSynchronized
  have hi8 : ∀ w ∈ u_ws RX8 TX8 4, w ∈ wsX8_stands := fun _ h => List.mem_cons_of_mem _ (List.mem_append_right _ h)
  have fl15 := hts (.fieldLink RX8 15 "CapStacks$Text" "letters" "[C") (by decide +kernel)
  have fl23 := hts (.fieldLink RX8 23 "CapStacks$Text" "length" "I") (by decide +kernel)
  have iniX9 := hts (.initialized RX9) (by decide +kernel)
  have st_X9_within := hts (.static yX9_within) (by decide +kernel)
  have nw19 : va_Nw (.methodLinkNest RX8 19 yX9_within "CapStacks") s := hK.2.1 (RX8, 19, yX9_within, "CapStacks") (List.mem_of_getElem? (i := 18) rfl)
  have hfin : ∀ (v : Int32) (pc : Nat) (ls : Array Slot), some v = some out → narrow .boolean (.int v) = .int v → decode cX8_stands pc = .ok (.ireturn, 1) → W p l e (headSpec wsX8_stands { frames := 1, cells := 0, slots := 0, locals := 22 }).room s m args below meth c s.heap [] 0 0 (MQ below (zQr .boolean out) args s 0 0 (fun _ => False)) (F0 m pc ls [.int v]) := by
    intro v pc ls he hn hd
    cases he
    exact W.zret hx hb hr hn (fun t ht hW => ⟨rfl, hn, ht⟩) (fun _ h => by cases h) hd
  generalize MQ below (zQr .boolean out) args s 0 0 (fun _ => False) = Q at hfin ⊢
  have hl := lv_entry ([.ref (kt 0), .int x1, .int x2]) (n := 3) (Nat.le_of_ble_eq_true rfl)
  refine W.eq (g2 := F0 m 0 ((lg_sl ([.ref (kt 0), .int x1, .int x2]) ++ List.replicate (3 - (lg_sl ([.ref (kt 0), .int x1, .int x2])).length) Slot.unset).toArray) []) (by rw [ha]; exact lg_entry_eq _ _ _) ?_
  generalize (lg_sl ([.ref (kt 0), .int x1, .int x2]) ++ List.replicate (3 - (lg_sl ([.ref (kt 0), .int x1, .int x2])).length) Slot.unset).toArray = ls at hl ⊢
  have hl : lv_has ls 3 [(0, .ref (kt 0)), (1, .int x1), (2, .int x2)] := hl
  rw [f_X8_stands] at h
  refine lv_iload_n hx hb dX8_stands_0 rfl (lv_at hl 1 rfl) ?_
  refine lv_iconst (v := 0) hx hb dX8_stands_1 (by decide) ?_
  refine lv_aload_n hx hb dX8_stands_2 rfl (lv_at hl 0 rfl) ?_
  refine va_get (D := D) (ci := 8) (v := .int (bt 0 0)) (C := RX8) (T := TX8) (N := 4) hx hb hts hi8 hown hK.1 hP 0 rfl rfl 0 (by decide) fl23 (fun _ h9 => h9) rfl dX8_stands_3 ?_
  refine lv_iconst (v := 1) hx hb dX8_stands_6 (by decide) ?_
  refine lv_isub hx hb dX8_stands_7 ?_
  obtain ⟨y1, gy1, h⟩ := zb_some h
  refine z_callr (va_runSN (As := [.int x1, .int 0, .int ((bt 0 0) - 1)]) (rest := []) ⟨hx, hb, hml, hown, hts⟩ (c_X9_within l D tt x1 0 ((bt 0 0) - 1) y1 gy1) ⟨va_cnB (host := "CapStacks") 3 hts gX8_stands_X9_within_n19 rfl rfl rfl nw19 iniX9 (by decide +kernel) ⟨Nat.le_of_ble_eq_true rfl, Nat.le_of_ble_eq_true rfl⟩, st_X9_within, trivial⟩ (z_preSr hK (hP.sub (ws' := ([] : va_W)) [] rfl)) rfl rfl hl.1 rfl (lv_room (Nat.le_of_ble_eq_true rfl)) dX8_stands_8 ⟨Nat.zero_le _, Nat.zero_le _⟩) (fun ny1 => ?_)
  refine lv_if_eq (tgt := 28) hx hb dX8_stands_11 (by decide) (fun k2 => ?_) (fun k2 => ?_)
  · replace h := z_pos k2 h
    refine lv_iconst (v := 0) hx hb dX8_stands_28 (by decide) ?_
    exact hfin _ _ _ h rfl dX8_stands_29
  replace h := z_neg k2 h
  refine lv_aload_n hx hb dX8_stands_14 rfl (lv_at hl 0 rfl) ?_
  refine va_get (D := D) (ci := 8) (v := .ref (kt 2)) (C := RX8) (T := TX8) (N := 4) hx hb hts hi8 hown hK.1 hP 0 rfl rfl 3 (by decide) fl15 (fun _ h9 => h9) rfl dX8_stands_15 ?_
  refine lv_iload_n hx hb dX8_stands_18 rfl (lv_at hl 1 rfl) ?_
  obtain ⟨q3, h⟩ := zA_some h
  refine va_cald hx hb hK.1 hP 2 2 rfl rfl q3 dX8_stands_19 ?_
  refine lv_iload_n hx hb dX8_stands_20 rfl (lv_at hl 2 rfl) ?_
  refine lv_icmp_ne (tgt := 28) hx hb dX8_stands_21 (by decide) (fun k4 => ?_) (fun k4 => ?_)
  · replace h := z_neg k4 h
    refine lv_iconst (v := 0) hx hb dX8_stands_28 (by decide) ?_
    exact hfin _ _ _ h rfl dX8_stands_29
  replace h := z_pos k4 h
  refine lv_iconst (v := 1) hx hb dX8_stands_24 (by decide) ?_
  refine lv_goto (tgt := 29) hx hb dX8_stands_25 (by decide) ?_
  exact hfin _ _ _ h rfl dX8_stands_29
set_option maxHeartbeats 4000000 in
set_option maxRecDepth 100000 in
theorem c_X8_digitsAt (l : Launch) (D : va_G) (tt : Nat → ClassId) (kt : Nat → Nat) (bt : zV) (x1 : Int32) (out : Int32) (h : f_X8_digitsAt bt x1 = some out) : Met l yX8_digitsAt wsX8_digitsAt { frames := 1, cells := 0, slots := 0, locals := 22 } (zPr [.ref (kt 0), .int x1] D tt (zw_tx tt kt bt)) (zQr .int out) 0 0 (fun _ => False) := by
  refine Met.ofW (cc := cX8_digitsAt) (maxL := 4) (ret := (some .int)) (by decide) rfl ?_
  intro p e s m args below meth c s₁ B hml hv
  obtain ⟨ha, hP, hK⟩ := hv
  have hx := B.exec
  have hb := B.bytes
  have hr := B.returns
  have hts := atoms_spec (ws := wsX8_digitsAt) B.pre
  have hown : s.vm.findClass RX8 = some m.cls := findClass_of_methodNamed B.named
  have hlocks := B.notSynchronized
  have hi8 : ∀ w ∈ u_ws RX8 TX8 4, w ∈ wsX8_digitsAt := fun _ h => List.mem_cons_of_mem _ (List.mem_append_right _ h)
  have fl15 := hts (.fieldLink RX8 15 "CapStacks$Text" "letters" "[C") (by decide +kernel)
  have fl23 := hts (.fieldLink RX8 23 "CapStacks$Text" "length" "I") (by decide +kernel)
  have iniX9 := hts (.initialized RX9) (by decide +kernel)
  have st_X9_within := hts (.static yX9_within) (by decide +kernel)
  have nw19 : va_Nw (.methodLinkNest RX8 19 yX9_within "CapStacks") s := hK.2.1 (RX8, 19, yX9_within, "CapStacks") (List.mem_of_getElem? (i := 18) rfl)
  have hfin : ∀ (v : Int32) (pc : Nat) (ls : Array Slot), some v = some out → narrow .int (.int v) = .int v → decode cX8_digitsAt pc = .ok (.ireturn, 1) → W p l e (headSpec wsX8_digitsAt { frames := 1, cells := 0, slots := 0, locals := 22 }).room s m args below meth c s.heap [] 0 0 (MQ below (zQr .int out) args s 0 0 (fun _ => False)) (F0 m pc ls [.int v]) := by
    intro v pc ls he hn hd
    cases he
    exact W.zret hx hb hr hn (fun t ht hW => ⟨rfl, hn, ht⟩) (fun _ h => by cases h) hd
  generalize MQ below (zQr .int out) args s 0 0 (fun _ => False) = Q at hfin ⊢
  have b4 : ∀ n : Nat, ∀ (x2 : Int32) (x3 : Int32) (ls : Array Slot), lv_has ls 4 [(0, .ref (kt 0)), (2, .int x2), (3, .int x3)] → f_X8_digitsAt_b4 bt n x2 x3 = some out → W p l e (headSpec wsX8_digitsAt { frames := 1, cells := 0, slots := 0, locals := 22 }).room s m args below meth c s.heap [] 0 0 Q (F0 m 4 ls []) := by
    intro n
    induction n with
    | zero =>
      intro x2 x3 ls hl h
      cases h
    | succ n ih =>
      intro x2 x3 ls hl h
      rw [f_X8_digitsAt_b4] at h
      refine lv_iload_n hx hb dX8_digitsAt_4 rfl (lv_at hl 2 rfl) ?_
      refine lv_aload_n hx hb dX8_digitsAt_5 rfl (lv_at hl 0 rfl) ?_
      refine va_get (D := D) (ci := 8) (v := .int (bt 0 0)) (C := RX8) (T := TX8) (N := 4) hx hb hts hi8 hown hK.1 hP 0 rfl rfl 0 (by decide) fl23 (fun _ h9 => h9) rfl dX8_digitsAt_6 ?_
      refine lv_icmp_ge (tgt := 40) hx hb dX8_digitsAt_9 (by decide) (fun k1 => ?_) (fun k1 => ?_)
      · replace h := z_pos k1 h
        refine lv_iload_n hx hb dX8_digitsAt_40 rfl (lv_at hl 1 rfl) ?_
        exact hfin _ _ _ h rfl dX8_digitsAt_41
      replace h := z_neg k1 h
      refine lv_aload_n hx hb dX8_digitsAt_12 rfl (lv_at hl 0 rfl) ?_
      refine va_get (D := D) (ci := 8) (v := .ref (kt 2)) (C := RX8) (T := TX8) (N := 4) hx hb hts hi8 hown hK.1 hP 0 rfl rfl 3 (by decide) fl15 (fun _ h9 => h9) rfl dX8_digitsAt_13 ?_
      refine lv_iload_n hx hb dX8_digitsAt_16 rfl (lv_at hl 2 rfl) ?_
      obtain ⟨q2, h⟩ := zA_some h
      refine va_cald hx hb hK.1 hP 2 2 rfl rfl q2 dX8_digitsAt_17 ?_
      refine lv_bipush (v := 48) hx hb dX8_digitsAt_18 (by decide) ?_
      refine lv_bipush (v := 57) hx hb dX8_digitsAt_20 (by decide) ?_
      obtain ⟨y3, gy3, h⟩ := zb_some h
      refine z_callr (va_runSN (As := [.int ((bt 2) x3.toNatClampNeg), .int 48, .int 57]) (rest := []) ⟨hx, hb, hml, hown, hts⟩ (c_X9_within l D tt ((bt 2) x3.toNatClampNeg) 48 57 y3 gy3) ⟨va_cnB (host := "CapStacks") 3 hts gX8_digitsAt_X9_within_n19 rfl rfl rfl nw19 iniX9 (by decide +kernel) ⟨Nat.le_of_ble_eq_true rfl, Nat.le_of_ble_eq_true rfl⟩, st_X9_within, trivial⟩ (z_preSr hK (hP.sub (ws' := ([] : va_W)) [] rfl)) rfl rfl hl.1 rfl (lv_room (Nat.le_of_ble_eq_true rfl)) dX8_digitsAt_22 ⟨Nat.zero_le _, Nat.zero_le _⟩) (fun ny3 => ?_)
      refine lv_if_ne (tgt := 31) hx hb dX8_digitsAt_25 (by decide) (fun k4 => ?_) (fun k4 => ?_)
      rotate_left
      · replace h := z_pos k4 h
        refine lv_goto (tgt := 40) hx hb dX8_digitsAt_28 (by decide) ?_
        refine lv_iload_n hx hb dX8_digitsAt_40 rfl (lv_at hl 1 rfl) ?_
        exact hfin _ _ _ h rfl dX8_digitsAt_41
      replace h := z_neg k4 h
      refine lv_iinc (v := (x2 + 1)) (lv' := [(2, .int (x2 + 1)), (0, .ref (kt 0)), (3, .int x3)]) hx hb dX8_digitsAt_31 hl (k := 1) rfl rfl (by decide) rfl (fun ls hl => ?_)
      refine lv_iinc (v := (x3 + 1)) (lv' := [(3, .int (x3 + 1)), (2, .int (x2 + 1)), (0, .ref (kt 0))]) hx hb dX8_digitsAt_34 hl (k := 2) rfl rfl (by decide) rfl (fun ls hl => ?_)
      refine lv_goto (tgt := 4) hx hb dX8_digitsAt_37 (by decide) ?_
      exact ih (x2 + 1) (x3 + 1) _ (lv_sub hl [2, 1, 0] rfl) h
  have hl := lv_entry ([.ref (kt 0), .int x1]) (n := 4) (Nat.le_of_ble_eq_true rfl)
  refine W.eq (g2 := F0 m 0 ((lg_sl ([.ref (kt 0), .int x1]) ++ List.replicate (4 - (lg_sl ([.ref (kt 0), .int x1])).length) Slot.unset).toArray) []) (by rw [ha]; exact lg_entry_eq _ _ _) ?_
  generalize (lg_sl ([.ref (kt 0), .int x1]) ++ List.replicate (4 - (lg_sl ([.ref (kt 0), .int x1])).length) Slot.unset).toArray = ls at hl ⊢
  have hl : lv_has ls 4 [(0, .ref (kt 0)), (1, .int x1)] := hl
  rw [f_X8_digitsAt] at h
  refine lv_iconst (v := 0) hx hb dX8_digitsAt_0 (by decide) ?_
  refine lv_istore_n (lv' := [(2, .int 0), (0, .ref (kt 0)), (1, .int x1)]) hx hb dX8_digitsAt_1 rfl hl (by decide) rfl (fun ls hl => ?_)
  refine lv_iload_n hx hb dX8_digitsAt_2 rfl (lv_at hl 2 rfl) ?_
  refine lv_istore_n (lv' := [(3, .int x1), (2, .int 0), (0, .ref (kt 0)), (1, .int x1)]) hx hb dX8_digitsAt_3 rfl hl (by decide) rfl (fun ls hl => ?_)
  exact b4 1000 0 x1 _ (lv_sub hl [2, 1, 0] rfl) h
set_option maxHeartbeats 4000000 in
set_option maxRecDepth 100000 in
theorem c_X8_numberAt (l : Launch) (D : va_G) (tt : Nat → ClassId) (kt : Nat → Nat) (bt : zV) (x1 : Int32) (x2 : Int32) (out : Int32) (h : f_X8_numberAt bt x1 x2 = some out) : Met l yX8_numberAt wsX8_numberAt { frames := 0, cells := 0, slots := 0, locals := 0 } (zPr [.ref (kt 0), .int x1, .int x2] D tt (zw_tx tt kt bt)) (zQr .int out) 0 0 (fun _ => False) := by
  refine Met.ofW (cc := cX8_numberAt) (maxL := 5) (ret := (some .int)) (by decide) rfl ?_
  intro p e s m args below meth c s₁ B hml hv
  obtain ⟨ha, hP, hK⟩ := hv
  have hx := B.exec
  have hb := B.bytes
  have hr := B.returns
  have hts := atoms_spec (ws := wsX8_numberAt) B.pre
  have hown : s.vm.findClass RX8 = some m.cls := findClass_of_methodNamed B.named
  have hlocks := B.notSynchronized
  have hi8 : ∀ w ∈ u_ws RX8 TX8 4, w ∈ wsX8_numberAt := fun _ h => List.mem_cons_of_mem _ (List.mem_append_right _ h)
  have fl15 := hts (.fieldLink RX8 15 "CapStacks$Text" "letters" "[C") (by decide +kernel)
  have hfin : ∀ (v : Int32) (pc : Nat) (ls : Array Slot), some v = some out → narrow .int (.int v) = .int v → decode cX8_numberAt pc = .ok (.ireturn, 1) → W p l e (headSpec wsX8_numberAt { frames := 0, cells := 0, slots := 0, locals := 0 }).room s m args below meth c s.heap [] 0 0 (MQ below (zQr .int out) args s 0 0 (fun _ => False)) (F0 m pc ls [.int v]) := by
    intro v pc ls he hn hd
    cases he
    exact W.zret hx hb hr hn (fun t ht hW => ⟨rfl, hn, ht⟩) (fun _ h => by cases h) hd
  generalize MQ below (zQr .int out) args s 0 0 (fun _ => False) = Q at hfin ⊢
  have b5 : ∀ n : Nat, ∀ (x1 : Int32) (x2 : Int32) (x3 : Int32) (x4 : Int32) (ls : Array Slot), lv_has ls 5 [(0, .ref (kt 0)), (1, .int x1), (2, .int x2), (3, .int x3), (4, .int x4)] → f_X8_numberAt_b5 bt n x1 x2 x3 x4 = some out → W p l e (headSpec wsX8_numberAt { frames := 0, cells := 0, slots := 0, locals := 0 }).room s m args below meth c s.heap [] 0 0 Q (F0 m 5 ls []) := by
    intro n
    induction n with
    | zero =>
      intro x1 x2 x3 x4 ls hl h
      cases h
    | succ n ih =>
      intro x1 x2 x3 x4 ls hl h
      rw [f_X8_numberAt_b5] at h
      refine lv_iload hx hb dX8_numberAt_5 (lv_at hl 4 rfl) ?_
      refine lv_iload_n hx hb dX8_numberAt_7 rfl (lv_at hl 1 rfl) ?_
      refine lv_iload_n hx hb dX8_numberAt_8 rfl (lv_at hl 2 rfl) ?_
      refine lv_iadd hx hb dX8_numberAt_9 ?_
      refine lv_icmp_ge (tgt := 35) hx hb dX8_numberAt_10 (by decide) (fun k1 => ?_) (fun k1 => ?_)
      · replace h := z_pos k1 h
        refine lv_iload_n hx hb dX8_numberAt_35 rfl (lv_at hl 3 rfl) ?_
        exact hfin _ _ _ h rfl dX8_numberAt_36
      replace h := z_neg k1 h
      refine lv_iload_n hx hb dX8_numberAt_13 rfl (lv_at hl 3 rfl) ?_
      refine lv_bipush (v := 10) hx hb dX8_numberAt_14 (by decide) ?_
      refine lv_imul hx hb dX8_numberAt_16 ?_
      refine lv_aload_n hx hb dX8_numberAt_17 rfl (lv_at hl 0 rfl) ?_
      refine va_get (D := D) (ci := 8) (v := .ref (kt 2)) (C := RX8) (T := TX8) (N := 4) hx hb hts hi8 hown hK.1 hP 0 rfl rfl 3 (by decide) fl15 (fun _ h9 => h9) rfl dX8_numberAt_18 ?_
      refine lv_iload hx hb dX8_numberAt_21 (lv_at hl 4 rfl) ?_
      obtain ⟨q2, h⟩ := zA_some h
      refine va_cald hx hb hK.1 hP 2 2 rfl rfl q2 dX8_numberAt_23 ?_
      refine lv_bipush (v := 48) hx hb dX8_numberAt_24 (by decide) ?_
      refine lv_isub hx hb dX8_numberAt_26 ?_
      refine lv_iadd hx hb dX8_numberAt_27 ?_
      refine lv_istore_n (lv' := [(3, .int ((x3 * 10) + (((bt 2) x4.toNatClampNeg) - 48))), (0, .ref (kt 0)), (1, .int x1), (2, .int x2), (4, .int x4)]) hx hb dX8_numberAt_28 rfl hl (by decide) rfl (fun ls hl => ?_)
      refine lv_iinc (v := (x4 + 1)) (lv' := [(4, .int (x4 + 1)), (3, .int ((x3 * 10) + (((bt 2) x4.toNatClampNeg) - 48))), (0, .ref (kt 0)), (1, .int x1), (2, .int x2)]) hx hb dX8_numberAt_29 hl (k := 4) rfl rfl (by decide) rfl (fun ls hl => ?_)
      refine lv_goto (tgt := 5) hx hb dX8_numberAt_32 (by decide) ?_
      exact ih x1 x2 ((x3 * 10) + (((bt 2) x4.toNatClampNeg) - 48)) (x4 + 1) _ (lv_sub hl [2, 3, 4, 1, 0] rfl) h
  have hl := lv_entry ([.ref (kt 0), .int x1, .int x2]) (n := 5) (Nat.le_of_ble_eq_true rfl)
  refine W.eq (g2 := F0 m 0 ((lg_sl ([.ref (kt 0), .int x1, .int x2]) ++ List.replicate (5 - (lg_sl ([.ref (kt 0), .int x1, .int x2])).length) Slot.unset).toArray) []) (by rw [ha]; exact lg_entry_eq _ _ _) ?_
  generalize (lg_sl ([.ref (kt 0), .int x1, .int x2]) ++ List.replicate (5 - (lg_sl ([.ref (kt 0), .int x1, .int x2])).length) Slot.unset).toArray = ls at hl ⊢
  have hl : lv_has ls 5 [(0, .ref (kt 0)), (1, .int x1), (2, .int x2)] := hl
  rw [f_X8_numberAt] at h
  refine lv_iconst (v := 0) hx hb dX8_numberAt_0 (by decide) ?_
  refine lv_istore_n (lv' := [(3, .int 0), (0, .ref (kt 0)), (1, .int x1), (2, .int x2)]) hx hb dX8_numberAt_1 rfl hl (by decide) rfl (fun ls hl => ?_)
  refine lv_iload_n hx hb dX8_numberAt_2 rfl (lv_at hl 2 rfl) ?_
  refine lv_istore (lv' := [(4, .int x1), (3, .int 0), (0, .ref (kt 0)), (1, .int x1), (2, .int x2)]) hx hb dX8_numberAt_3 hl (by decide) rfl (fun ls hl => ?_)
  exact b5 1000 x1 x2 0 x1 _ (lv_sub hl [2, 3, 4, 1, 0] rfl) h
set_option maxHeartbeats 4000000 in
set_option maxRecDepth 100000 in
theorem c_X8_readNumbers (l : Launch) (D : va_G) (tt : Nat → ClassId) (kt : Nat → Nat) (sz : Nat) (bt : zV) (x1 : Int32) (x2 : Int32) (out : Int32 × zV) (h : f_X8_readNumbers bt x1 x2 = some out) : Met l yX8_readNumbers wsX8_readNumbers { frames := 2, cells := 0, slots := 0, locals := 45 } (zPm [.ref (kt 0), .int x1, .int x2] D tt (zw_tx tt kt bt) sz) (zMi .int out.1 D (zw_tx tt kt out.2) (va_A (zw_tx tt kt bt) sz)) 0 0 (va_A (zw_tx tt kt bt) sz) := by
  refine Met.ofW (cc := cX8_readNumbers) (maxL := 6) (ret := (some .int)) (by decide) rfl ?_
  intro p e s m args below meth c s₁ B hml hv
  obtain ⟨ha, hsz, hP, hK, hD0⟩ := hv
  have hx := B.exec
  have hb := B.bytes
  have hr := B.returns
  have hts := atoms_spec (ws := wsX8_readNumbers) B.pre
  have hown : s.vm.findClass RX8 = some m.cls := findClass_of_methodNamed B.named
  have hlocks := B.notSynchronized
  have hi8 : ∀ w ∈ u_ws RX8 TX8 4, w ∈ wsX8_readNumbers := fun _ h => List.mem_cons_of_mem _ (List.mem_append_right _ h)
  have fl9 := hts (.fieldLink RX8 9 "CapStacks$Text" "numbers" "[I") (by decide +kernel)
  have iniX9 := hts (.initialized RX9) (by decide +kernel)
  have st_X9_within := hts (.static yX9_within) (by decide +kernel)
  have nw19 : va_Nw (.methodLinkNest RX8 19 yX9_within "CapStacks") s := hK.2.1 (RX8, 19, yX9_within, "CapStacks") (List.mem_of_getElem? (i := 18) rfl)
  subst hsz
  have hD := hD0.self (sz := s.heap.size)
  generalize hAe : va_A (zw_tx tt kt bt) s.heap.size = A at hD ⊢
  have hA : ∀ q : Nat, s.heap.size ≤ q → A q := fun q h => by rw [← hAe]; exact Or.inr h
  have hS : va_S A s.heap s.heap [] := va_S.rf
  have hfin : ∀ (v : Int32) (bt : zV) (pc : Nat) (ls : Array Slot) (H : Heap) (locs : List Loc), some (v, bt) = some out → narrow .int (.int v) = .int v → va_P D vwCl (zw_tx tt kt bt) H → va_D A (zw_tx tt kt bt) → va_S A s.heap H locs → decode cX8_readNumbers pc = .ok (.ireturn, 1) → W p l e (headSpec wsX8_readNumbers { frames := 2, cells := 0, slots := 0, locals := 45 }).room s m args below meth c H locs 0 0 (MQ below (zMi .int out.1 D (zw_tx tt kt out.2) A) args s 0 0 A) (F0 m pc ls [.int v]) := by
    intro v bt pc ls H locs he hn hP hD hS hd
    cases he
    exact W.zret hx hb hr hn (fun t ht hW => ⟨⟨_, (), rfl, ⟨rfl, hn⟩, by rw [ht]; exact hP, hD⟩, hS.F ht⟩) hS.2.2 hd
  generalize MQ below (zMi .int out.1 D (zw_tx tt kt out.2) A) args s 0 0 A = Q at hfin ⊢
  have b5 : ∀ n : Nat, ∀ (bt : zV) (x2 : Int32) (x3 : Int32) (x4 : Int32) (H : Heap) (locs : List Loc) (ls : Array Slot), va_P D vwCl (zw_tx tt kt bt) H → va_D A (zw_tx tt kt bt) → va_S A s.heap H locs → lv_has ls 6 [(0, .ref (kt 0)), (2, .int x2), (3, .int x3), (4, .int x4)] → f_X8_readNumbers_b5 n bt x2 x3 x4 = some out → W p l e (headSpec wsX8_readNumbers { frames := 2, cells := 0, slots := 0, locals := 45 }).room s m args below meth c H locs 0 0 Q (F0 m 5 ls []) := by
    intro n
    induction n with
    | zero =>
      intro bt x2 x3 x4 H locs ls hP hD hS hl h
      cases h
    | succ n ih =>
      intro bt x2 x3 x4 H locs ls hP hD hS hl h
      rw [f_X8_readNumbers_b5] at h
      refine lv_iload hx hb dX8_readNumbers_5 (lv_at hl 3 rfl) ?_
      refine lv_iload_n hx hb dX8_readNumbers_7 rfl (lv_at hl 1 rfl) ?_
      refine lv_icmp_ge (tgt := 73) hx hb dX8_readNumbers_8 (by decide) (fun k1 => ?_) (fun k1 => ?_)
      · replace h := z_pos k1 h
        refine lv_aload_n hx hb dX8_readNumbers_73 rfl (lv_at hl 0 rfl) ?_
        refine lv_iload_n hx hb dX8_readNumbers_74 rfl (lv_at hl 2 rfl) ?_
        refine lv_bipush (v := 59) hx hb dX8_readNumbers_75 (by decide) ?_
        obtain ⟨y2, gy2, h⟩ := zb_some h
        refine z_callr (va_runV (As := [.int x3, .int 59]) (rest := []) ⟨hx, hb, hml, hown, hts⟩ (c_X8_stands l D tt kt bt x3 59 y2 gy2) (cwV 2 hts gX8_readNumbers_X8_stands rfl rfl rfl (by decide +kernel) ⟨Nat.le_of_ble_eq_true rfl, Nat.le_of_ble_eq_true rfl⟩) (z_preVr hK hP (ci := 8) (q0 := 0) rfl rfl) rfl rfl hl.1 rfl (lv_room (Nat.le_of_ble_eq_true rfl)) dX8_readNumbers_77 ⟨Nat.zero_le _, Nat.zero_le _⟩) (fun ny2 => ?_)
        refine lv_if_eq (tgt := 89) hx hb dX8_readNumbers_80 (by decide) (fun k3 => ?_) (fun k3 => ?_)
        · replace h := z_pos k3 h
          refine lv_iconst (v := (-1)) hx hb dX8_readNumbers_89 (by decide) ?_
          exact hfin _ _ _ _ _ _ h rfl hP hD hS dX8_readNumbers_90
        replace h := z_neg k3 h
        refine lv_iload_n hx hb dX8_readNumbers_83 rfl (lv_at hl 2 rfl) ?_
        refine lv_iconst (v := 1) hx hb dX8_readNumbers_84 (by decide) ?_
        refine lv_iadd hx hb dX8_readNumbers_85 ?_
        refine lv_goto (tgt := 90) hx hb dX8_readNumbers_86 (by decide) ?_
        exact hfin _ _ _ _ _ _ h rfl hP hD hS dX8_readNumbers_90
      replace h := z_neg k1 h
      refine lv_aload_n hx hb dX8_readNumbers_11 rfl (lv_at hl 0 rfl) ?_
      refine lv_iload_n hx hb dX8_readNumbers_12 rfl (lv_at hl 2 rfl) ?_
      refine lv_bipush (v := 32) hx hb dX8_readNumbers_13 (by decide) ?_
      obtain ⟨y4, gy4, h⟩ := zb_some h
      refine z_callr (va_runV (As := [.int x3, .int 32]) (rest := []) ⟨hx, hb, hml, hown, hts⟩ (c_X8_stands l D tt kt bt x3 32 y4 gy4) (cwV 2 hts gX8_readNumbers_X8_stands rfl rfl rfl (by decide +kernel) ⟨Nat.le_of_ble_eq_true rfl, Nat.le_of_ble_eq_true rfl⟩) (z_preVr hK hP (ci := 8) (q0 := 0) rfl rfl) rfl rfl hl.1 rfl (lv_room (Nat.le_of_ble_eq_true rfl)) dX8_readNumbers_15 ⟨Nat.zero_le _, Nat.zero_le _⟩) (fun ny4 => ?_)
      refine lv_if_ne (tgt := 23) hx hb dX8_readNumbers_18 (by decide) (fun k5 => ?_) (fun k5 => ?_)
      rotate_left
      · replace h := z_pos k5 h
        refine lv_iconst (v := (-1)) hx hb dX8_readNumbers_21 (by decide) ?_
        exact hfin _ _ _ _ _ _ h rfl hP hD hS dX8_readNumbers_22
      replace h := z_neg k5 h
      refine lv_aload_n hx hb dX8_readNumbers_23 rfl (lv_at hl 0 rfl) ?_
      refine lv_iload_n hx hb dX8_readNumbers_24 rfl (lv_at hl 2 rfl) ?_
      refine lv_iconst (v := 1) hx hb dX8_readNumbers_25 (by decide) ?_
      refine lv_iadd hx hb dX8_readNumbers_26 ?_
      obtain ⟨y6, gy6, h⟩ := zb_some h
      refine z_callr (va_runV (As := [.int (x3 + 1)]) (rest := []) ⟨hx, hb, hml, hown, hts⟩ (c_X8_digitsAt l D tt kt bt (x3 + 1) y6 gy6) (cwV 1 hts gX8_readNumbers_X8_digitsAt rfl rfl rfl (by decide +kernel) ⟨Nat.le_of_ble_eq_true rfl, Nat.le_of_ble_eq_true rfl⟩) (z_preVr hK hP (ci := 8) (q0 := 0) rfl rfl) rfl rfl hl.1 rfl (lv_room (Nat.le_of_ble_eq_true rfl)) dX8_readNumbers_27 ⟨Nat.zero_le _, Nat.zero_le _⟩) (fun ny6 => ?_)
      refine lv_istore (lv' := [(5, .int y6), (0, .ref (kt 0)), (2, .int x2), (3, .int x3), (4, .int x4)]) hx hb dX8_readNumbers_30 hl (by decide) rfl (fun ls hl => ?_)
      refine lv_iload hx hb dX8_readNumbers_32 (lv_at hl 0 rfl) ?_
      refine lv_iconst (v := 1) hx hb dX8_readNumbers_34 (by decide) ?_
      refine lv_iconst (v := 4) hx hb dX8_readNumbers_35 (by decide) ?_
      obtain ⟨y7, gy7, h⟩ := zb_some h
      refine z_callr (va_runSN (As := [.int y6, .int 1, .int 4]) (rest := []) ⟨hx, hb, hml, hown, hts⟩ (c_X9_within l D tt y6 1 4 y7 gy7) ⟨va_cnB (host := "CapStacks") 3 hts gX8_readNumbers_X9_within_n19 rfl rfl rfl nw19 iniX9 (by decide +kernel) ⟨Nat.le_of_ble_eq_true rfl, Nat.le_of_ble_eq_true rfl⟩, st_X9_within, trivial⟩ (z_preSr hK (hP.sub (ws' := ([] : va_W)) [] rfl)) rfl rfl hl.1 rfl (lv_room (Nat.le_of_ble_eq_true rfl)) dX8_readNumbers_36 ⟨Nat.zero_le _, Nat.zero_le _⟩) (fun ny7 => ?_)
      refine lv_if_ne (tgt := 44) hx hb dX8_readNumbers_39 (by decide) (fun k8 => ?_) (fun k8 => ?_)
      rotate_left
      · replace h := z_pos k8 h
        refine lv_iconst (v := (-1)) hx hb dX8_readNumbers_42 (by decide) ?_
        exact hfin _ _ _ _ _ _ h rfl hP hD hS dX8_readNumbers_43
      replace h := z_neg k8 h
      refine lv_aload_n hx hb dX8_readNumbers_44 rfl (lv_at hl 1 rfl) ?_
      refine va_get (D := D) (ci := 8) (v := .ref (kt 1)) (C := RX8) (T := TX8) (N := 4) hx hb hts hi8 hown hK.1 hP 0 rfl rfl 2 (by decide) fl9 (fun _ h9 => h9) rfl dX8_readNumbers_45 ?_
      refine lv_iload hx hb dX8_readNumbers_48 (lv_at hl 4 rfl) ?_
      refine lv_aload_n hx hb dX8_readNumbers_50 rfl (lv_at hl 1 rfl) ?_
      refine lv_iload_n hx hb dX8_readNumbers_51 rfl (lv_at hl 3 rfl) ?_
      refine lv_iconst (v := 1) hx hb dX8_readNumbers_52 (by decide) ?_
      refine lv_iadd hx hb dX8_readNumbers_53 ?_
      refine lv_iload hx hb dX8_readNumbers_54 (lv_at hl 0 rfl) ?_
      obtain ⟨y9, gy9, h⟩ := zb_some h
      refine z_callr (va_runV (As := [.int (x3 + 1), .int y6]) (rest := [.int x4, .ref (kt 1)]) ⟨hx, hb, hml, hown, hts⟩ (c_X8_numberAt l D tt kt bt (x3 + 1) y6 y9 gy9) (cwV 2 hts gX8_readNumbers_X8_numberAt rfl rfl rfl (by decide +kernel) ⟨Nat.le_of_ble_eq_true rfl, Nat.le_of_ble_eq_true rfl⟩) (z_preVr hK hP (ci := 8) (q0 := 0) rfl rfl) rfl rfl hl.1 rfl (lv_room (Nat.le_of_ble_eq_true rfl)) dX8_readNumbers_56 ⟨Nat.zero_le _, Nat.zero_le _⟩) (fun ny9 => ?_)
      obtain ⟨q10, h⟩ := zA_some h
      refine va_iast hx hb hK.1 hP hD hS 1 0 rfl rfl q10 dX8_readNumbers_59 (fun H locs hP hD hS => ?_)
      have hP : va_P D vwCl (zw_tx tt kt (zu bt 1 (upd (bt 1) x4.toNatClampNeg y9))) H := hP
      have hD : va_D A (zw_tx tt kt (zu bt 1 (upd (bt 1) x4.toNatClampNeg y9))) := hD
      refine lv_iload_n hx hb dX8_readNumbers_60 rfl (lv_at hl 3 rfl) ?_
      refine lv_iconst (v := 1) hx hb dX8_readNumbers_61 (by decide) ?_
      refine lv_iload hx hb dX8_readNumbers_62 (lv_at hl 0 rfl) ?_
      refine lv_iadd hx hb dX8_readNumbers_64 ?_
      refine lv_iadd hx hb dX8_readNumbers_65 ?_
      refine lv_istore_n (lv' := [(3, .int (x3 + (1 + y6))), (5, .int y6), (0, .ref (kt 0)), (2, .int x2), (4, .int x4)]) hx hb dX8_readNumbers_66 rfl hl (by decide) rfl (fun ls hl => ?_)
      refine lv_iinc (v := (x4 + 1)) (lv' := [(4, .int (x4 + 1)), (3, .int (x3 + (1 + y6))), (5, .int y6), (0, .ref (kt 0)), (2, .int x2)]) hx hb dX8_readNumbers_67 hl (k := 4) rfl rfl (by decide) rfl (fun ls hl => ?_)
      refine lv_goto (tgt := 5) hx hb dX8_readNumbers_70 (by decide) ?_
      exact ih (zu bt 1 (upd (bt 1) x4.toNatClampNeg y9)) x2 (x3 + (1 + y6)) (x4 + 1) _ _ _ hP hD hS (lv_sub hl [3, 4, 1, 0] rfl) h
  have hl := lv_entry ([.ref (kt 0), .int x1, .int x2]) (n := 6) (Nat.le_of_ble_eq_true rfl)
  refine W.eq (g2 := F0 m 0 ((lg_sl ([.ref (kt 0), .int x1, .int x2]) ++ List.replicate (6 - (lg_sl ([.ref (kt 0), .int x1, .int x2])).length) Slot.unset).toArray) []) (by rw [ha]; exact lg_entry_eq _ _ _) ?_
  generalize (lg_sl ([.ref (kt 0), .int x1, .int x2]) ++ List.replicate (6 - (lg_sl ([.ref (kt 0), .int x1, .int x2])).length) Slot.unset).toArray = ls at hl ⊢
  have hl : lv_has ls 6 [(0, .ref (kt 0)), (1, .int x1), (2, .int x2)] := hl
  rw [f_X8_readNumbers] at h
  refine lv_iload_n hx hb dX8_readNumbers_0 rfl (lv_at hl 1 rfl) ?_
  refine lv_istore_n (lv' := [(3, .int x1), (0, .ref (kt 0)), (1, .int x1), (2, .int x2)]) hx hb dX8_readNumbers_1 rfl hl (by decide) rfl (fun ls hl => ?_)
  refine lv_iconst (v := 0) hx hb dX8_readNumbers_2 (by decide) ?_
  refine lv_istore (lv' := [(4, .int 0), (3, .int x1), (0, .ref (kt 0)), (1, .int x1), (2, .int x2)]) hx hb dX8_readNumbers_3 hl (by decide) rfl (fun ls hl => ?_)
  exact b5 1000 bt x2 x1 0 _ _ _ hP hD hS (lv_sub hl [2, 4, 1, 0] rfl) h
