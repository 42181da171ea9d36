/-! ===== contracts: 25.model5 ===== -/
set_option maxHeartbeats 4000000 in
set_option maxRecDepth 100000 in
theorem c_X10_paysOut (l : Launch) (D : va_G) (tt : Nat → ClassId) (kw : Nat → Nat) (sz : Nat) (bw : zV) (bj : zJ) (x1 : Int64) (x3 : Int32) (out : zJ) (h : f_X10_paysOut bw bj x1 x3 = some out) : Met l yX10_paysOut wsX10_paysOut { frames := 3, cells := 0, slots := 0, locals := 74 } (zPm [.ref (kw 0), .long x1, .int x3] D tt (zw_mo tt kw bw bj) sz) (zMv D (zw_mo tt kw bw out) (va_A (zw_mo tt kw bw bj) sz)) 0 0 (va_A (zw_mo tt kw bw bj) sz) := by
  refine Met.ofW (cc := cX10_paysOut) (maxL := 9) (ret := none) (by decide) rfl ?_
  intro p e s m args below meth c s₁ B hml hv
  obtain ⟨ha, hsz, hP, hK, hD0⟩ := hv
  have hx := B.exec
  have hb := B.bytes
  have hr := B.returns
  have hts := atoms_spec (ws := wsX10_paysOut) B.pre
  have hown : s.vm.findClass RX10 = some m.cls := findClass_of_methodNamed B.named
  have hlocks := B.notSynchronized
  have hi10 : ∀ w ∈ u_ws RX10 TX10 15, w ∈ wsX10_paysOut := fun _ h => List.mem_cons_of_mem _ (List.mem_append_right _ h)
  have fl22 := hts (.fieldLink RX10 22 "CapStacksModel" "gets" "[J") (by decide +kernel)
  have fl26 := hts (.fieldLink RX10 26 "CapStacksModel" "shared" "[J") (by decide +kernel)
  have fl29 := hts (.fieldLink RX10 29 "CapStacksModel" "claims" "[J") (by decide +kernel)
  have fl7 := hts (.fieldLink RX10 7 "CapStacksModel" "s" "[I") (by decide +kernel)
  subst hsz
  have hD := hD0.self (sz := s.heap.size)
  generalize hAe : va_A (zw_mo tt kw bw bj) s.heap.size = A at hD ⊢
  have hA : ∀ q : Nat, s.heap.size ≤ q → A q := fun q h => by rw [← hAe]; exact Or.inr h
  have hS : va_S A s.heap s.heap [] := va_S.rf
  have hfin : ∀ (bj : zJ) (pc : Nat) (ls : Array Slot) (H : Heap) (locs : List Loc), some bj = some out → va_P D vwCl (zw_mo tt kw bw bj) H → va_D A (zw_mo tt kw bw bj) → va_S A s.heap H locs → decode cX10_paysOut pc = .ok (.return_, 1) → W p l e (headSpec wsX10_paysOut { frames := 3, cells := 0, slots := 0, locals := 74 }).room s m args below meth c H locs 0 0 (MQ below (zMv D (zw_mo tt kw bw out) A) args s 0 0 A) (F0 m pc ls []) := by
    intro bj pc ls H locs he hP hD hS hd
    cases he
    exact W.vret hx hb hr (fun t ht hW => ⟨⟨(), rfl, trivial, by rw [ht]; exact hP, hD⟩, hS.F ht⟩) hS.2.2 hd
  generalize MQ below (zMv D (zw_mo tt kw bw out) A) args s 0 0 A = Q at hfin ⊢
  have b172 : ∀ n : Nat, ∀ (bj : zJ) (x8 : Int32) (H : Heap) (locs : List Loc) (ls : Array Slot), va_P D vwCl (zw_mo tt kw bw bj) H → va_D A (zw_mo tt kw bw bj) → va_S A s.heap H locs → lv_has ls 9 [(0, .ref (kw 0)), (8, .int x8)] → f_X10_paysOut_b172 bw n bj x8 = some out → W p l e (headSpec wsX10_paysOut { frames := 3, cells := 0, slots := 0, locals := 74 }).room s m args below meth c H locs 0 0 Q (F0 m 172 ls []) := by
    intro n
    induction n with
    | zero =>
      intro bj x8 H locs ls hP hD hS hl h
      cases h
    | succ n ih =>
      intro bj x8 H locs ls hP hD hS hl h
      rw [f_X10_paysOut_b172] at h
      refine lv_iload hx hb dX10_paysOut_172 (lv_at hl 1 rfl) ?_
      refine lv_aload_n hx hb dX10_paysOut_174 rfl (lv_at hl 0 rfl) ?_
      refine va_get (D := D) (ci := 10) (v := .ref (kw 1)) (C := RX10) (T := TX10) (N := 15) hx hb hts hi10 hown hK.1 hP 0 rfl rfl 0 (by decide) fl7 (fun _ h9 => h9) rfl dX10_paysOut_175 ?_
      refine lv_iconst (v := 0) hx hb dX10_paysOut_178 (by decide) ?_
      refine va_iald hx hb hK.1 hP 1 0 rfl rfl (vp_in_lit 0 213 rfl) dX10_paysOut_179 ?_
      refine lv_icmp_ge (tgt := 206) hx hb dX10_paysOut_180 (by decide) (fun k1 => ?_) (fun k1 => ?_)
      · replace h := z_pos k1 h
        exact hfin _ _ _ _ _ h hP hD hS dX10_paysOut_206
      replace h := z_neg k1 h
      refine lv_aload_n hx hb dX10_paysOut_183 rfl (lv_at hl 0 rfl) ?_
      refine va_get (D := D) (ci := 10) (v := .ref (kw 6)) (C := RX10) (T := TX10) (N := 15) hx hb hts hi10 hown hK.1 hP 0 rfl rfl 6 (by decide) fl22 (fun _ h9 => h9) rfl dX10_paysOut_184 ?_
      refine lv_iload hx hb dX10_paysOut_187 (lv_at hl 1 rfl) ?_
      refine lv_dup2_11 hx hb dX10_paysOut_189 rfl rfl ?_
      obtain ⟨q2, h⟩ := zA_some h
      refine va_lald hx hb hK.1 hP 6 1 rfl rfl q2 dX10_paysOut_190 ?_
      refine lv_aload_n hx hb dX10_paysOut_191 rfl (lv_at hl 0 rfl) ?_
      refine va_get (D := D) (ci := 10) (v := .ref (kw 7)) (C := RX10) (T := TX10) (N := 15) hx hb hts hi10 hown hK.1 hP 0 rfl rfl 7 (by decide) fl26 (fun _ h9 => h9) rfl dX10_paysOut_192 ?_
      refine lv_iload hx hb dX10_paysOut_195 (lv_at hl 1 rfl) ?_
      refine va_lald hx hb hK.1 hP 7 1 rfl rfl q2 dX10_paysOut_197 ?_
      refine lv_ladd hx hb dX10_paysOut_198 ?_
      refine va_last hx hb hK.1 hP hD hS 6 1 rfl rfl q2 dX10_paysOut_199 (fun H locs hP hD hS => ?_)
      obtain ⟨a3, ea3, h⟩ := zl_some h
      have hP : va_P D vwCl (zw_mo tt kw bw (zu bj 0 a3)) H := by rw [ea3]; exact hP
      have hD : va_D A (zw_mo tt kw bw (zu bj 0 a3)) := by rw [ea3]; exact hD
      clear ea3
      refine lv_iinc (v := (x8 + 1)) (lv' := [(8, .int (x8 + 1)), (0, .ref (kw 0))]) hx hb dX10_paysOut_200 hl (k := 1) rfl rfl (by decide) rfl (fun ls hl => ?_)
      refine lv_goto (tgt := 172) hx hb dX10_paysOut_203 (by decide) ?_
      exact ih (zu bj 0 a3) (x8 + 1) _ _ _ hP hD hS (lv_sub hl [1, 0] rfl) h
  have b110 : ∀ n : Nat, ∀ (bj : zJ) (x3 : Int32) (x4 : Int64) (x6 : Int32) (x7 : Int32) (H : Heap) (locs : List Loc) (ls : Array Slot), va_P D vwCl (zw_mo tt kw bw bj) H → va_D A (zw_mo tt kw bw bj) → va_S A s.heap H locs → lv_has ls 9 [(0, .ref (kw 0)), (3, .int x3), (4, .long x4), (6, .int x6), (7, .int x7)] → f_X10_paysOut_b110 bw n bj x3 x4 x6 x7 = some out → W p l e (headSpec wsX10_paysOut { frames := 3, cells := 0, slots := 0, locals := 74 }).room s m args below meth c H locs 0 0 Q (F0 m 110 ls []) := by
    intro n
    induction n with
    | zero =>
      intro bj x3 x4 x6 x7 H locs ls hP hD hS hl h
      cases h
    | succ n ih =>
      intro bj x3 x4 x6 x7 H locs ls hP hD hS hl h
      rw [f_X10_paysOut_b110] at h
      refine lv_iload hx hb dX10_paysOut_110 (lv_at hl 4 rfl) ?_
      refine lv_if_lt (tgt := 169) hx hb dX10_paysOut_112 (by decide) (fun k4 => ?_) (fun k4 => ?_)
      · replace h := z_pos k4 h
        refine lv_iconst (v := 0) hx hb dX10_paysOut_169 (by decide) ?_
        refine lv_istore (lv' := [(8, .int 0), (0, .ref (kw 0)), (3, .int x3), (4, .long x4), (6, .int x6), (7, .int x7)]) hx hb dX10_paysOut_170 hl (by decide) rfl (fun ls hl => ?_)
        exact b172 1000 bj 0 _ _ _ hP hD hS (lv_sub hl [1, 0] rfl) h
      replace h := z_neg k4 h
      refine lv_aload_n hx hb dX10_paysOut_115 rfl (lv_at hl 0 rfl) ?_
      refine va_get (D := D) (ci := 10) (v := .ref (kw 6)) (C := RX10) (T := TX10) (N := 15) hx hb hts hi10 hown hK.1 hP 0 rfl rfl 6 (by decide) fl22 (fun _ h9 => h9) rfl dX10_paysOut_116 ?_
      refine lv_iload hx hb dX10_paysOut_119 (lv_at hl 4 rfl) ?_
      refine lv_dup2_11 hx hb dX10_paysOut_121 rfl rfl ?_
      obtain ⟨q5, h⟩ := zA_some h
      refine va_lald hx hb hK.1 hP 6 1 rfl rfl q5 dX10_paysOut_122 ?_
      refine lv_aload_n hx hb dX10_paysOut_123 rfl (lv_at hl 0 rfl) ?_
      refine va_get (D := D) (ci := 10) (v := .ref (kw 8)) (C := RX10) (T := TX10) (N := 15) hx hb hts hi10 hown hK.1 hP 0 rfl rfl 8 (by decide) fl29 (fun _ h9 => h9) rfl dX10_paysOut_124 ?_
      refine lv_iload hx hb dX10_paysOut_127 (lv_at hl 4 rfl) ?_
      refine va_lald hx hb hK.1 hP 8 1 rfl rfl q5 dX10_paysOut_129 ?_
      refine lv_ladd hx hb dX10_paysOut_130 ?_
      refine va_last hx hb hK.1 hP hD hS 6 1 rfl rfl q5 dX10_paysOut_131 (fun H locs hP hD hS => ?_)
      obtain ⟨a6, ea6, h⟩ := zl_some h
      have hP : va_P D vwCl (zw_mo tt kw bw (zu bj 0 a6)) H := by rw [ea6]; exact hP
      have hD : va_D A (zw_mo tt kw bw (zu bj 0 a6)) := by rw [ea6]; exact hD
      clear ea6
      refine lv_lload hx hb dX10_paysOut_132 (lv_at hl 2 rfl) ?_
      refine lv_aload_n hx hb dX10_paysOut_134 rfl (lv_at hl 0 rfl) ?_
      refine va_get (D := D) (ci := 10) (v := .ref (kw 8)) (C := RX10) (T := TX10) (N := 15) hx hb hts hi10 hown hK.1 hP 0 rfl rfl 8 (by decide) fl29 (fun _ h9 => h9) rfl dX10_paysOut_135 ?_
      refine lv_iload hx hb dX10_paysOut_138 (lv_at hl 4 rfl) ?_
      refine va_lald hx hb hK.1 hP 8 1 rfl rfl q5 dX10_paysOut_140 ?_
      refine lv_lsub hx hb dX10_paysOut_141 ?_
      refine lv_lstore (lv' := [(4, .long (x4 - ((bj 2) x7.toNatClampNeg))), (0, .ref (kw 0)), (3, .int x3), (6, .int x6), (7, .int x7)]) hx hb dX10_paysOut_142 hl (by decide) rfl (fun ls hl => ?_)
      refine lv_iload hx hb dX10_paysOut_144 (lv_at hl 3 rfl) ?_
      refine lv_iconst (v := 1) hx hb dX10_paysOut_146 (by decide) ?_
      refine lv_iload hx hb dX10_paysOut_147 (lv_at hl 4 rfl) ?_
      refine lv_ishl hx hb dX10_paysOut_149 ?_
      refine lv_iconst (v := (-1)) hx hb dX10_paysOut_150 (by decide) ?_
      refine lv_ixor hx hb dX10_paysOut_151 ?_
      refine lv_iand hx hb dX10_paysOut_152 ?_
      refine lv_istore (lv' := [(6, .int (x6 &&& ((1 <<< (x7 &&& 31)) ^^^ (-1)))), (4, .long (x4 - ((bj 2) x7.toNatClampNeg))), (0, .ref (kw 0)), (3, .int x3), (7, .int x7)]) hx hb dX10_paysOut_153 hl (by decide) rfl (fun ls hl => ?_)
      refine lv_aload_n hx hb dX10_paysOut_155 rfl (lv_at hl 2 rfl) ?_
      refine lv_lload hx hb dX10_paysOut_156 (lv_at hl 1 rfl) ?_
      refine lv_iload hx hb dX10_paysOut_158 (lv_at hl 0 rfl) ?_
      refine lv_iload_n hx hb dX10_paysOut_160 rfl (lv_at hl 3 rfl) ?_
      obtain ⟨y7, gy7, h⟩ := zb_some h
      have hFc := z_free0 hD hS hA
      refine z_callmi (wc := (zw_mo tt kw bw (zu bj 0 a6))) (w1 := (zw_mo tt kw bw y7.2)) (va_runV (As := [.long (x4 - ((bj 2) x7.toNatClampNeg)), .int (x6 &&& ((1 <<< (x7 &&& 31)) ^^^ (-1))), .int x3]) (rest := []) ⟨hx, hb, hml, hown, hts⟩ (c_X10_shares l D tt kw _ bw (zu bj 0 a6) (x4 - ((bj 2) x7.toNatClampNeg)) (x6 &&& ((1 <<< (x7 &&& 31)) ^^^ (-1))) x3 y7 gy7) (cwV 3 hts gX10_paysOut_X10_shares rfl rfl rfl (by decide +kernel) ⟨Nat.le_of_ble_eq_true rfl, Nat.le_of_ble_eq_true rfl⟩) (z_preVm hK hP hD (ci := 10) (q0 := 0) rfl rfl) rfl rfl hl.1 rfl (lv_room (Nat.le_of_ble_eq_true rfl)) dX10_paysOut_161 ⟨Nat.zero_le _, Nat.zero_le _⟩) hS hFc (fun H locs ny7 hP1 hD1 hk1 hS => ?_)
      have hP := hP1
      have hD := hD1.weaken (fun _ q _ h => hFc q.1 h)
      refine lv_istore (lv' := [(7, .int y7.1), (6, .int (x6 &&& ((1 <<< (x7 &&& 31)) ^^^ (-1)))), (4, .long (x4 - ((bj 2) x7.toNatClampNeg))), (0, .ref (kw 0)), (3, .int x3)]) hx hb dX10_paysOut_164 hl (by decide) rfl (fun ls hl => ?_)
      refine lv_goto (tgt := 110) hx hb dX10_paysOut_166 (by decide) ?_
      exact ih y7.2 x3 (x4 - ((bj 2) x7.toNatClampNeg)) (x6 &&& ((1 <<< (x7 &&& 31)) ^^^ (-1))) y7.1 _ _ _ hP hD hS (lv_sub hl [3, 4, 2, 1, 0] rfl) h
  have b45 : ∀ n : Nat, ∀ (bj : zJ) (x3 : Int32) (x4 : Int64) (x6 : Int32) (x7 : Int32) (H : Heap) (locs : List Loc) (ls : Array Slot), va_P D vwCl (zw_mo tt kw bw bj) H → va_D A (zw_mo tt kw bw bj) → va_S A s.heap H locs → lv_has ls 9 [(0, .ref (kw 0)), (3, .int x3), (4, .long x4), (6, .int x6), (7, .int x7)] → f_X10_paysOut_b45 bw n bj x3 x4 x6 x7 = some out → W p l e (headSpec wsX10_paysOut { frames := 3, cells := 0, slots := 0, locals := 74 }).room s m args below meth c H locs 0 0 Q (F0 m 45 ls []) := by
    intro n
    induction n with
    | zero =>
      intro bj x3 x4 x6 x7 H locs ls hP hD hS hl h
      cases h
    | succ n ih =>
      intro bj x3 x4 x6 x7 H locs ls hP hD hS hl h
      rw [f_X10_paysOut_b45] at h
      refine lv_iload hx hb dX10_paysOut_45 (lv_at hl 4 rfl) ?_
      refine lv_aload_n hx hb dX10_paysOut_47 rfl (lv_at hl 0 rfl) ?_
      refine va_get (D := D) (ci := 10) (v := .ref (kw 1)) (C := RX10) (T := TX10) (N := 15) hx hb hts hi10 hown hK.1 hP 0 rfl rfl 0 (by decide) fl7 (fun _ h9 => h9) rfl dX10_paysOut_48 ?_
      refine lv_iconst (v := 0) hx hb dX10_paysOut_51 (by decide) ?_
      refine va_iald hx hb hK.1 hP 1 0 rfl rfl (vp_in_lit 0 213 rfl) dX10_paysOut_52 ?_
      refine lv_icmp_ge (tgt := 99) hx hb dX10_paysOut_53 (by decide) (fun k8 => ?_) (fun k8 => ?_)
      · replace h := z_pos k8 h
        refine lv_aload_n hx hb dX10_paysOut_99 rfl (lv_at hl 0 rfl) ?_
        refine lv_lload hx hb dX10_paysOut_100 (lv_at hl 2 rfl) ?_
        refine lv_iload hx hb dX10_paysOut_102 (lv_at hl 3 rfl) ?_
        refine lv_iload_n hx hb dX10_paysOut_104 rfl (lv_at hl 1 rfl) ?_
        obtain ⟨y9, gy9, h⟩ := zb_some h
        have hFc := z_free0 hD hS hA
        refine z_callmi (wc := (zw_mo tt kw bw bj)) (w1 := (zw_mo tt kw bw y9.2)) (va_runV (As := [.long x4, .int x6, .int x3]) (rest := []) ⟨hx, hb, hml, hown, hts⟩ (c_X10_shares l D tt kw _ bw bj x4 x6 x3 y9 gy9) (cwV 3 hts gX10_paysOut_X10_shares rfl rfl rfl (by decide +kernel) ⟨Nat.le_of_ble_eq_true rfl, Nat.le_of_ble_eq_true rfl⟩) (z_preVm hK hP hD (ci := 10) (q0 := 0) rfl rfl) rfl rfl hl.1 rfl (lv_room (Nat.le_of_ble_eq_true rfl)) dX10_paysOut_105 ⟨Nat.zero_le _, Nat.zero_le _⟩) hS hFc (fun H locs ny9 hP1 hD1 hk1 hS => ?_)
        have hP := hP1
        have hD := hD1.weaken (fun _ q _ h => hFc q.1 h)
        refine lv_istore (lv' := [(7, .int y9.1), (0, .ref (kw 0)), (3, .int x3), (4, .long x4), (6, .int x6)]) hx hb dX10_paysOut_108 hl (by decide) rfl (fun ls hl => ?_)
        exact b110 1000 y9.2 x3 x4 x6 y9.1 _ _ _ hP hD hS (lv_sub hl [1, 2, 3, 4, 0] rfl) h
      replace h := z_neg k8 h
      refine lv_iload hx hb dX10_paysOut_56 (lv_at hl 3 rfl) ?_
      refine lv_iload hx hb dX10_paysOut_58 (lv_at hl 4 rfl) ?_
      refine lv_if_eq (tgt := 82) hx hb dX10_paysOut_60 (by decide) (fun k10 => ?_) (fun k10 => ?_)
      · replace h := z_pos k10 h
        refine lv_iconst (v := 1) hx hb dX10_paysOut_82 (by decide) ?_
        refine lv_iload hx hb dX10_paysOut_83 (lv_at hl 4 rfl) ?_
        refine lv_ishl hx hb dX10_paysOut_85 ?_
        refine lv_goto (tgt := 90) hx hb dX10_paysOut_86 (by decide) ?_
        refine lv_ior hx hb dX10_paysOut_90 ?_
        refine lv_istore (lv' := [(6, .int (x6 ||| (1 <<< (x7 &&& 31)))), (0, .ref (kw 0)), (3, .int x3), (4, .long x4), (7, .int x7)]) hx hb dX10_paysOut_91 hl (by decide) rfl (fun ls hl => ?_)
        refine lv_iinc (v := (x7 + 1)) (lv' := [(7, .int (x7 + 1)), (6, .int (x6 ||| (1 <<< (x7 &&& 31)))), (0, .ref (kw 0)), (3, .int x3), (4, .long x4)]) hx hb dX10_paysOut_93 hl (k := 4) rfl rfl (by decide) rfl (fun ls hl => ?_)
        refine lv_goto (tgt := 45) hx hb dX10_paysOut_96 (by decide) ?_
        exact ih bj x3 x4 (x6 ||| (1 <<< (x7 &&& 31))) (x7 + 1) _ _ _ hP hD hS (lv_sub hl [2, 3, 4, 1, 0] rfl) h
      replace h := z_neg k10 h
      refine lv_iload_n hx hb dX10_paysOut_63 rfl (lv_at hl 1 rfl) ?_
      refine lv_iload hx hb dX10_paysOut_64 (lv_at hl 4 rfl) ?_
      obtain ⟨y11, gy11, h⟩ := zb_some h
      refine z_callr (va_runS (As := [.int x3, .int x7]) (rest := [.int x6]) ⟨hx, hb, hml, hown, hts⟩ (c_X10_has l D tt x3 x7 y11 gy11) (va_cwS 2 hts gX10_paysOut_X10_has rfl rfl rfl (by decide +kernel) ⟨Nat.le_of_ble_eq_true rfl, Nat.le_of_ble_eq_true rfl⟩) (z_preSr hK (hP.sub (ws' := ([] : va_W)) [] rfl)) rfl rfl hl.1 rfl (lv_room (Nat.le_of_ble_eq_true rfl)) dX10_paysOut_66 ⟨Nat.zero_le _, Nat.zero_le _⟩) (fun ny11 => ?_)
      refine lv_if_ne (tgt := 82) hx hb dX10_paysOut_69 (by decide) (fun k12 => ?_) (fun k12 => ?_)
      · replace h := z_neg k12 h
        refine lv_iconst (v := 1) hx hb dX10_paysOut_82 (by decide) ?_
        refine lv_iload hx hb dX10_paysOut_83 (lv_at hl 4 rfl) ?_
        refine lv_ishl hx hb dX10_paysOut_85 ?_
        refine lv_goto (tgt := 90) hx hb dX10_paysOut_86 (by decide) ?_
        refine lv_ior hx hb dX10_paysOut_90 ?_
        refine lv_istore (lv' := [(6, .int (x6 ||| (1 <<< (x7 &&& 31)))), (0, .ref (kw 0)), (3, .int x3), (4, .long x4), (7, .int x7)]) hx hb dX10_paysOut_91 hl (by decide) rfl (fun ls hl => ?_)
        refine lv_iinc (v := (x7 + 1)) (lv' := [(7, .int (x7 + 1)), (6, .int (x6 ||| (1 <<< (x7 &&& 31)))), (0, .ref (kw 0)), (3, .int x3), (4, .long x4)]) hx hb dX10_paysOut_93 hl (k := 4) rfl rfl (by decide) rfl (fun ls hl => ?_)
        refine lv_goto (tgt := 45) hx hb dX10_paysOut_96 (by decide) ?_
        exact ih bj x3 x4 (x6 ||| (1 <<< (x7 &&& 31))) (x7 + 1) _ _ _ hP hD hS (lv_sub hl [2, 3, 4, 1, 0] rfl) h
      replace h := z_pos k12 h
      refine lv_aload_n hx hb dX10_paysOut_72 rfl (lv_at hl 0 rfl) ?_
      refine lv_iload hx hb dX10_paysOut_73 (lv_at hl 4 rfl) ?_
      refine lv_iconst (v := 3) hx hb dX10_paysOut_75 (by decide) ?_
      obtain ⟨y13, gy13, h⟩ := zb_some h
      refine z_callr (va_runV (As := [.int x7, .int 3]) (rest := [.int x6]) ⟨hx, hb, hml, hown, hts⟩ (c_X10_ofClass l D tt kw bw bj x7 3 y13 gy13) (cwV 2 hts gX10_paysOut_X10_ofClass rfl rfl rfl (by decide +kernel) ⟨Nat.le_of_ble_eq_true rfl, Nat.le_of_ble_eq_true rfl⟩) (z_preVr hK hP (ci := 10) (q0 := 0) rfl rfl) rfl rfl hl.1 rfl (lv_room (Nat.le_of_ble_eq_true rfl)) dX10_paysOut_76 ⟨Nat.zero_le _, Nat.zero_le _⟩) (fun ny13 => ?_)
      refine lv_if_le (tgt := 89) hx hb dX10_paysOut_79 (by decide) (fun k14 => ?_) (fun k14 => ?_)
      · replace h := z_pos k14 h
        refine lv_iconst (v := 0) hx hb dX10_paysOut_89 (by decide) ?_
        refine lv_ior hx hb dX10_paysOut_90 ?_
        refine lv_istore (lv' := [(6, .int (x6 ||| 0)), (0, .ref (kw 0)), (3, .int x3), (4, .long x4), (7, .int x7)]) hx hb dX10_paysOut_91 hl (by decide) rfl (fun ls hl => ?_)
        refine lv_iinc (v := (x7 + 1)) (lv' := [(7, .int (x7 + 1)), (6, .int (x6 ||| 0)), (0, .ref (kw 0)), (3, .int x3), (4, .long x4)]) hx hb dX10_paysOut_93 hl (k := 4) rfl rfl (by decide) rfl (fun ls hl => ?_)
        refine lv_goto (tgt := 45) hx hb dX10_paysOut_96 (by decide) ?_
        exact ih bj x3 x4 (x6 ||| 0) (x7 + 1) _ _ _ hP hD hS (lv_sub hl [2, 3, 4, 1, 0] rfl) h
      replace h := z_neg k14 h
      refine lv_iconst (v := 1) hx hb dX10_paysOut_82 (by decide) ?_
      refine lv_iload hx hb dX10_paysOut_83 (lv_at hl 4 rfl) ?_
      refine lv_ishl hx hb dX10_paysOut_85 ?_
      refine lv_goto (tgt := 90) hx hb dX10_paysOut_86 (by decide) ?_
      refine lv_ior hx hb dX10_paysOut_90 ?_
      refine lv_istore (lv' := [(6, .int (x6 ||| (1 <<< (x7 &&& 31)))), (0, .ref (kw 0)), (3, .int x3), (4, .long x4), (7, .int x7)]) hx hb dX10_paysOut_91 hl (by decide) rfl (fun ls hl => ?_)
      refine lv_iinc (v := (x7 + 1)) (lv' := [(7, .int (x7 + 1)), (6, .int (x6 ||| (1 <<< (x7 &&& 31)))), (0, .ref (kw 0)), (3, .int x3), (4, .long x4)]) hx hb dX10_paysOut_93 hl (k := 4) rfl rfl (by decide) rfl (fun ls hl => ?_)
      refine lv_goto (tgt := 45) hx hb dX10_paysOut_96 (by decide) ?_
      exact ih bj x3 x4 (x6 ||| (1 <<< (x7 &&& 31))) (x7 + 1) _ _ _ hP hD hS (lv_sub hl [2, 3, 4, 1, 0] rfl) h
  have b3 : ∀ n : Nat, ∀ (bj : zJ) (x1 : Int64) (x3 : Int32) (x4 : Int32) (H : Heap) (locs : List Loc) (ls : Array Slot), va_P D vwCl (zw_mo tt kw bw bj) H → va_D A (zw_mo tt kw bw bj) → va_S A s.heap H locs → lv_has ls 9 [(0, .ref (kw 0)), (1, .long x1), (3, .int x3), (4, .int x4)] → f_X10_paysOut_b3 bw n bj x1 x3 x4 = some out → W p l e (headSpec wsX10_paysOut { frames := 3, cells := 0, slots := 0, locals := 74 }).room s m args below meth c H locs 0 0 Q (F0 m 3 ls []) := by
    intro n
    induction n with
    | zero =>
      intro bj x1 x3 x4 H locs ls hP hD hS hl h
      cases h
    | succ n ih =>
      intro bj x1 x3 x4 H locs ls hP hD hS hl h
      rw [f_X10_paysOut_b3] at h
      refine lv_iload hx hb dX10_paysOut_3 (lv_at hl 3 rfl) ?_
      refine lv_iconst (v := 5) hx hb dX10_paysOut_5 (by decide) ?_
      refine lv_icmp_ge (tgt := 23) hx hb dX10_paysOut_6 (by decide) (fun k15 => ?_) (fun k15 => ?_)
      rotate_left
      · replace h := z_neg k15 h
        refine lv_aload_n hx hb dX10_paysOut_9 rfl (lv_at hl 0 rfl) ?_
        refine va_get (D := D) (ci := 10) (v := .ref (kw 6)) (C := RX10) (T := TX10) (N := 15) hx hb hts hi10 hown hK.1 hP 0 rfl rfl 6 (by decide) fl22 (fun _ h9 => h9) rfl dX10_paysOut_10 ?_
        refine lv_iload hx hb dX10_paysOut_13 (lv_at hl 3 rfl) ?_
        refine lv_lconst (v := 0) hx hb dX10_paysOut_15 (by decide) ?_
        obtain ⟨q18, h⟩ := zA_some h
        refine va_last hx hb hK.1 hP hD hS 6 1 rfl rfl q18 dX10_paysOut_16 (fun H locs hP hD hS => ?_)
        obtain ⟨a19, ea19, h⟩ := zl_some h
        have hP : va_P D vwCl (zw_mo tt kw bw (zu bj 0 a19)) H := by rw [ea19]; exact hP
        have hD : va_D A (zw_mo tt kw bw (zu bj 0 a19)) := by rw [ea19]; exact hD
        clear ea19
        refine lv_iinc (v := (x4 + 1)) (lv' := [(4, .int (x4 + 1)), (0, .ref (kw 0)), (1, .long x1), (3, .int x3)]) hx hb dX10_paysOut_17 hl (k := 3) rfl rfl (by decide) rfl (fun ls hl => ?_)
        refine lv_goto (tgt := 3) hx hb dX10_paysOut_20 (by decide) ?_
        exact ih (zu bj 0 a19) x1 x3 (x4 + 1) _ _ _ hP hD hS (lv_sub hl [1, 2, 3, 0] rfl) h
      replace h := z_pos k15 h
      refine lv_aload_n hx hb dX10_paysOut_23 rfl (lv_at hl 0 rfl) ?_
      refine lv_lload_n hx hb dX10_paysOut_24 rfl (lv_at hl 1 rfl) ?_
      refine lv_iload_n hx hb dX10_paysOut_25 rfl (lv_at hl 2 rfl) ?_
      obtain ⟨y16, gy16, h⟩ := zb_some h
      have hFc := z_free0 hD hS hA
      refine z_callml (wc := (zw_mo tt kw bw bj)) (w1 := (zw_mo tt kw bw y16.2)) (va_runV (As := [.long x1, .int x3]) (rest := []) ⟨hx, hb, hml, hown, hts⟩ (c_X10_paysClaims l D tt kw _ bw bj x1 x3 y16 gy16) (cwV 2 hts gX10_paysOut_X10_paysClaims rfl rfl rfl (by decide +kernel) ⟨Nat.le_of_ble_eq_true rfl, Nat.le_of_ble_eq_true rfl⟩) (z_preVm hK hP hD (ci := 10) (q0 := 0) rfl rfl) rfl rfl hl.1 rfl (lv_room (Nat.le_of_ble_eq_true rfl)) dX10_paysOut_26 ⟨Nat.zero_le _, Nat.zero_le _⟩) hS hFc (fun H locs hP1 hD1 hk1 hS => ?_)
      have hP := hP1
      have hD := hD1.weaken (fun _ q _ h => hFc q.1 h)
      refine lv_lstore (lv' := [(4, .long y16.1), (0, .ref (kw 0)), (1, .long x1), (3, .int x3)]) hx hb dX10_paysOut_29 hl (by decide) rfl (fun ls hl => ?_)
      refine lv_lload hx hb dX10_paysOut_31 (lv_at hl 0 rfl) ?_
      refine lv_lconst (v := 0) hx hb dX10_paysOut_33 (by decide) ?_
      refine W.lcmp hx hb dX10_paysOut_34 ?_
      refine lv_if_ge (tgt := 39) hx hb dX10_paysOut_35 (by decide) (fun k17 => ?_) (fun k17 => ?_)
      rotate_left
      · replace h := z_neg k17 h
        exact hfin _ _ _ _ _ h hP hD hS dX10_paysOut_38
      replace h := z_pos k17 h
      refine lv_iconst (v := 0) hx hb dX10_paysOut_39 (by decide) ?_
      refine lv_istore (lv' := [(6, .int 0), (4, .long y16.1), (0, .ref (kw 0)), (1, .long x1), (3, .int x3)]) hx hb dX10_paysOut_40 hl (by decide) rfl (fun ls hl => ?_)
      refine lv_iconst (v := 0) hx hb dX10_paysOut_42 (by decide) ?_
      refine lv_istore (lv' := [(7, .int 0), (6, .int 0), (4, .long y16.1), (0, .ref (kw 0)), (1, .long x1), (3, .int x3)]) hx hb dX10_paysOut_43 hl (by decide) rfl (fun ls hl => ?_)
      exact b45 1000 y16.2 x3 y16.1 0 0 _ _ _ hP hD hS (lv_sub hl [3, 5, 2, 1, 0] rfl) h
  have hl := lv_entry ([.ref (kw 0), .long x1, .int x3]) (n := 9) (Nat.le_of_ble_eq_true rfl)
  refine W.eq (g2 := F0 m 0 ((lg_sl ([.ref (kw 0), .long x1, .int x3]) ++ List.replicate (9 - (lg_sl ([.ref (kw 0), .long x1, .int x3])).length) Slot.unset).toArray) []) (by rw [ha]; exact lg_entry_eq _ _ _) ?_
  generalize (lg_sl ([.ref (kw 0), .long x1, .int x3]) ++ List.replicate (9 - (lg_sl ([.ref (kw 0), .long x1, .int x3])).length) Slot.unset).toArray = ls at hl ⊢
  have hl : lv_has ls 9 [(0, .ref (kw 0)), (1, .long x1), (3, .int x3)] := hl
  rw [f_X10_paysOut] at h
  refine lv_iconst (v := 0) hx hb dX10_paysOut_0 (by decide) ?_
  refine lv_istore (lv' := [(4, .int 0), (0, .ref (kw 0)), (1, .long x1), (3, .int x3)]) hx hb dX10_paysOut_1 hl (by decide) rfl (fun ls hl => ?_)
  exact b3 1000 bj x1 x3 0 _ _ _ hP hD hS (lv_sub hl [1, 2, 3, 0] rfl) h
set_option maxHeartbeats 4000000 in
set_option maxRecDepth 100000 in
theorem c_X10_nextToConvert (l : Launch) (D : va_G) (tt : Nat → ClassId) (kw : Nat → Nat) (sz : Nat) (bw : zV) (bj : zJ) (x1 : Int64) (x3 : Int32) (out : Int32 × zJ) (h : f_X10_nextToConvert bw bj x1 x3 = some out) : Met l yX10_nextToConvert wsX10_nextToConvert { frames := 4, cells := 0, slots := 0, locals := 102 } (zPm [.ref (kw 0), .long x1, .int x3] D tt (zw_mo tt kw bw bj) sz) (zMi .int out.1 D (zw_mo tt kw bw out.2) (va_A (zw_mo tt kw bw bj) sz)) 0 0 (va_A (zw_mo tt kw bw bj) sz) := by
  refine Met.ofW (cc := cX10_nextToConvert) (maxL := 7) (ret := (some .int)) (by decide) rfl ?_
  intro p e s m args below meth c s₁ B hml hv
  obtain ⟨ha, hsz, hP, hK, hD0⟩ := hv
  have hx := B.exec
  have hb := B.bytes
  have hr := B.returns
  have hts := atoms_spec (ws := wsX10_nextToConvert) B.pre
  have hown : s.vm.findClass RX10 = some m.cls := findClass_of_methodNamed B.named
  have hlocks := B.notSynchronized
  have hi10 : ∀ w ∈ u_ws RX10 TX10 15, w ∈ wsX10_nextToConvert := fun _ h => List.mem_cons_of_mem _ (List.mem_append_right _ h)
  have fl22 := hts (.fieldLink RX10 22 "CapStacksModel" "gets" "[J") (by decide +kernel)
  have fl32 := hts (.fieldLink RX10 32 "CapStacksModel" "commons" "[J") (by decide +kernel)
  have fl7 := hts (.fieldLink RX10 7 "CapStacksModel" "s" "[I") (by decide +kernel)
  subst hsz
  have hD := hD0.self (sz := s.heap.size)
  generalize hAe : va_A (zw_mo tt kw bw bj) s.heap.size = A at hD ⊢
  have hA : ∀ q : Nat, s.heap.size ≤ q → A q := fun q h => by rw [← hAe]; exact Or.inr h
  have hS : va_S A s.heap s.heap [] := va_S.rf
  have hfin : ∀ (v : Int32) (bj : zJ) (pc : Nat) (ls : Array Slot) (H : Heap) (locs : List Loc), some (v, bj) = some out → narrow .int (.int v) = .int v → va_P D vwCl (zw_mo tt kw bw bj) H → va_D A (zw_mo tt kw bw bj) → va_S A s.heap H locs → decode cX10_nextToConvert pc = .ok (.ireturn, 1) → W p l e (headSpec wsX10_nextToConvert { frames := 4, cells := 0, slots := 0, locals := 102 }).room s m args below meth c H locs 0 0 (MQ below (zMi .int out.1 D (zw_mo tt kw bw out.2) A) args s 0 0 A) (F0 m pc ls [.int v]) := by
    intro v bj pc ls H locs he hn hP hD hS hd
    cases he
    exact W.zret hx hb hr hn (fun t ht hW => ⟨⟨_, (), rfl, ⟨rfl, hn⟩, by rw [ht]; exact hP, hD⟩, hS.F ht⟩) hS.2.2 hd
  generalize MQ below (zMi .int out.1 D (zw_mo tt kw bw out.2) A) args s 0 0 A = Q at hfin ⊢
  have b3 : ∀ n : Nat, ∀ (bj : zJ) (x1 : Int64) (x3 : Int32) (x4 : Int32) (H : Heap) (locs : List Loc) (ls : Array Slot), va_P D vwCl (zw_mo tt kw bw bj) H → va_D A (zw_mo tt kw bw bj) → va_S A s.heap H locs → lv_has ls 7 [(0, .ref (kw 0)), (1, .long x1), (3, .int x3), (4, .int x4)] → f_X10_nextToConvert_b3 bw n bj x1 x3 x4 = some out → W p l e (headSpec wsX10_nextToConvert { frames := 4, cells := 0, slots := 0, locals := 102 }).room s m args below meth c H locs 0 0 Q (F0 m 3 ls []) := by
    intro n
    induction n with
    | zero =>
      intro bj x1 x3 x4 H locs ls hP hD hS hl h
      cases h
    | succ n ih =>
      intro bj x1 x3 x4 H locs ls hP hD hS hl h
      rw [f_X10_nextToConvert_b3] at h
      refine lv_iload hx hb dX10_nextToConvert_3 (lv_at hl 3 rfl) ?_
      refine lv_aload_n hx hb dX10_nextToConvert_5 rfl (lv_at hl 0 rfl) ?_
      refine va_get (D := D) (ci := 10) (v := .ref (kw 1)) (C := RX10) (T := TX10) (N := 15) hx hb hts hi10 hown hK.1 hP 0 rfl rfl 0 (by decide) fl7 (fun _ h9 => h9) rfl dX10_nextToConvert_6 ?_
      refine lv_iconst (v := 0) hx hb dX10_nextToConvert_9 (by decide) ?_
      refine va_iald hx hb hK.1 hP 1 0 rfl rfl (vp_in_lit 0 213 rfl) dX10_nextToConvert_10 ?_
      refine lv_icmp_ge (tgt := 83) hx hb dX10_nextToConvert_11 (by decide) (fun k1 => ?_) (fun k1 => ?_)
      · replace h := z_pos k1 h
        refine lv_iconst (v := (-1)) hx hb dX10_nextToConvert_83 (by decide) ?_
        exact hfin _ _ _ _ _ _ h rfl hP hD hS dX10_nextToConvert_84
      replace h := z_neg k1 h
      refine lv_iload_n hx hb dX10_nextToConvert_14 rfl (lv_at hl 2 rfl) ?_
      refine lv_iload hx hb dX10_nextToConvert_15 (lv_at hl 3 rfl) ?_
      obtain ⟨y2, gy2, h⟩ := zb_some h
      refine z_callr (va_runS (As := [.int x3, .int x4]) (rest := []) ⟨hx, hb, hml, hown, hts⟩ (c_X10_has l D tt x3 x4 y2 gy2) (va_cwS 2 hts gX10_nextToConvert_X10_has rfl rfl rfl (by decide +kernel) ⟨Nat.le_of_ble_eq_true rfl, Nat.le_of_ble_eq_true rfl⟩) (z_preSr hK (hP.sub (ws' := ([] : va_W)) [] rfl)) rfl rfl hl.1 rfl (lv_room (Nat.le_of_ble_eq_true rfl)) dX10_nextToConvert_17 ⟨Nat.zero_le _, Nat.zero_le _⟩) (fun ny2 => ?_)
      refine lv_if_ne (tgt := 77) hx hb dX10_nextToConvert_20 (by decide) (fun k3 => ?_) (fun k3 => ?_)
      · replace h := z_neg k3 h
        refine lv_iinc (v := (x4 + 1)) (lv' := [(4, .int (x4 + 1)), (0, .ref (kw 0)), (1, .long x1), (3, .int x3)]) hx hb dX10_nextToConvert_77 hl (k := 3) rfl rfl (by decide) rfl (fun ls hl => ?_)
        refine lv_goto (tgt := 3) hx hb dX10_nextToConvert_80 (by decide) ?_
        exact ih bj x1 x3 (x4 + 1) _ _ _ hP hD hS (lv_sub hl [1, 2, 3, 0] rfl) h
      replace h := z_pos k3 h
      refine lv_aload_n hx hb dX10_nextToConvert_23 rfl (lv_at hl 0 rfl) ?_
      refine va_get (D := D) (ci := 10) (v := .ref (kw 9)) (C := RX10) (T := TX10) (N := 15) hx hb hts hi10 hown hK.1 hP 0 rfl rfl 9 (by decide) fl32 (fun _ h9 => h9) rfl dX10_nextToConvert_24 ?_
      refine lv_iload hx hb dX10_nextToConvert_27 (lv_at hl 3 rfl) ?_
      obtain ⟨q4, h⟩ := zA_some h
      refine va_lald hx hb hK.1 hP 9 1 rfl rfl q4 dX10_nextToConvert_29 ?_
      refine lv_lconst (v := 0) hx hb dX10_nextToConvert_30 (by decide) ?_
      refine W.lcmp hx hb dX10_nextToConvert_31 ?_
      refine lv_if_le (tgt := 77) hx hb dX10_nextToConvert_32 (by decide) (fun k5 => ?_) (fun k5 => ?_)
      · replace h := z_pos k5 h
        refine lv_iinc (v := (x4 + 1)) (lv' := [(4, .int (x4 + 1)), (0, .ref (kw 0)), (1, .long x1), (3, .int x3)]) hx hb dX10_nextToConvert_77 hl (k := 3) rfl rfl (by decide) rfl (fun ls hl => ?_)
        refine lv_goto (tgt := 3) hx hb dX10_nextToConvert_80 (by decide) ?_
        exact ih bj x1 x3 (x4 + 1) _ _ _ hP hD hS (lv_sub hl [1, 2, 3, 0] rfl) h
      replace h := z_neg k5 h
      refine lv_aload_n hx hb dX10_nextToConvert_35 rfl (lv_at hl 0 rfl) ?_
      refine lv_lload_n hx hb dX10_nextToConvert_36 rfl (lv_at hl 1 rfl) ?_
      refine lv_iload_n hx hb dX10_nextToConvert_37 rfl (lv_at hl 2 rfl) ?_
      obtain ⟨y6, gy6, h⟩ := zb_some h
      have hFc := z_free0 hD hS hA
      refine z_callmv (wc := (zw_mo tt kw bw bj)) (w1 := (zw_mo tt kw bw y6)) (va_runV (As := [.long x1, .int x3]) (rest := []) ⟨hx, hb, hml, hown, hts⟩ (c_X10_paysOut l D tt kw _ bw bj x1 x3 y6 gy6) (cwV 2 hts gX10_nextToConvert_X10_paysOut rfl rfl rfl (by decide +kernel) ⟨Nat.le_of_ble_eq_true rfl, Nat.le_of_ble_eq_true rfl⟩) (z_preVm hK hP hD (ci := 10) (q0 := 0) rfl rfl) rfl rfl hl.1 rfl (lv_room (Nat.le_of_ble_eq_true rfl)) dX10_nextToConvert_38 ⟨Nat.zero_le _, Nat.zero_le _⟩) hS hFc (fun H locs hP1 hD1 hk1 hS => ?_)
      have hP := hP1
      have hD := hD1.weaken (fun _ q _ h => hFc q.1 h)
      refine lv_aload_n hx hb dX10_nextToConvert_41 rfl (lv_at hl 0 rfl) ?_
      refine va_get (D := D) (ci := 10) (v := .ref (kw 6)) (C := RX10) (T := TX10) (N := 15) hx hb hts hi10 hown hK.1 hP 0 rfl rfl 6 (by decide) fl22 (fun _ h9 => h9) rfl dX10_nextToConvert_42 ?_
      refine lv_iload hx hb dX10_nextToConvert_45 (lv_at hl 3 rfl) ?_
      refine va_lald hx hb hK.1 hP 6 1 rfl rfl q4 dX10_nextToConvert_47 ?_
      refine lv_lstore (lv' := [(5, .long ((y6 0) x4.toNatClampNeg)), (0, .ref (kw 0)), (1, .long x1), (3, .int x3), (4, .int x4)]) hx hb dX10_nextToConvert_48 hl (by decide) rfl (fun ls hl => ?_)
      refine lv_aload_n hx hb dX10_nextToConvert_50 rfl (lv_at hl 1 rfl) ?_
      refine lv_lload_n hx hb dX10_nextToConvert_51 rfl (lv_at hl 2 rfl) ?_
      refine lv_iload_n hx hb dX10_nextToConvert_52 rfl (lv_at hl 3 rfl) ?_
      refine lv_iconst (v := 1) hx hb dX10_nextToConvert_53 (by decide) ?_
      refine lv_iload hx hb dX10_nextToConvert_54 (lv_at hl 4 rfl) ?_
      refine lv_ishl hx hb dX10_nextToConvert_56 ?_
      refine lv_ior hx hb dX10_nextToConvert_57 ?_
      obtain ⟨y7, gy7, h⟩ := zb_some h
      have hFc := z_free0 hD hS hA
      refine z_callmv (wc := (zw_mo tt kw bw y6)) (w1 := (zw_mo tt kw bw y7)) (va_runV (As := [.long x1, .int (x3 ||| (1 <<< (x4 &&& 31)))]) (rest := []) ⟨hx, hb, hml, hown, hts⟩ (c_X10_paysOut l D tt kw _ bw y6 x1 (x3 ||| (1 <<< (x4 &&& 31))) y7 gy7) (cwV 2 hts gX10_nextToConvert_X10_paysOut rfl rfl rfl (by decide +kernel) ⟨Nat.le_of_ble_eq_true rfl, Nat.le_of_ble_eq_true rfl⟩) (z_preVm hK hP hD (ci := 10) (q0 := 0) rfl rfl) rfl rfl hl.1 rfl (lv_room (Nat.le_of_ble_eq_true rfl)) dX10_nextToConvert_58 ⟨Nat.zero_le _, Nat.zero_le _⟩) hS hFc (fun H locs hP1 hD1 hk1 hS => ?_)
      have hP := hP1
      have hD := hD1.weaken (fun _ q _ h => hFc q.1 h)
      refine lv_aload_n hx hb dX10_nextToConvert_61 rfl (lv_at hl 1 rfl) ?_
      refine va_get (D := D) (ci := 10) (v := .ref (kw 6)) (C := RX10) (T := TX10) (N := 15) hx hb hts hi10 hown hK.1 hP 0 rfl rfl 6 (by decide) fl22 (fun _ h9 => h9) rfl dX10_nextToConvert_62 ?_
      refine lv_iload hx hb dX10_nextToConvert_65 (lv_at hl 4 rfl) ?_
      refine va_lald hx hb hK.1 hP 6 1 rfl rfl q4 dX10_nextToConvert_67 ?_
      refine lv_lload hx hb dX10_nextToConvert_68 (lv_at hl 0 rfl) ?_
      refine W.lcmp hx hb dX10_nextToConvert_70 ?_
      refine lv_if_le (tgt := 77) hx hb dX10_nextToConvert_71 (by decide) (fun k8 => ?_) (fun k8 => ?_)
      rotate_left
      · replace h := z_neg k8 h
        refine lv_iload hx hb dX10_nextToConvert_74 (lv_at hl 4 rfl) ?_
        exact hfin _ _ _ _ _ _ h rfl hP hD hS dX10_nextToConvert_76
      replace h := z_pos k8 h
      refine lv_iinc (v := (x4 + 1)) (lv' := [(4, .int (x4 + 1)), (5, .long ((y6 0) x4.toNatClampNeg)), (0, .ref (kw 0)), (1, .long x1), (3, .int x3)]) hx hb dX10_nextToConvert_77 hl (k := 4) rfl rfl (by decide) rfl (fun ls hl => ?_)
      refine lv_goto (tgt := 3) hx hb dX10_nextToConvert_80 (by decide) ?_
      exact ih y7 x1 x3 (x4 + 1) _ _ _ hP hD hS (lv_sub hl [2, 3, 4, 0] rfl) h
  have hl := lv_entry ([.ref (kw 0), .long x1, .int x3]) (n := 7) (Nat.le_of_ble_eq_true rfl)
  refine W.eq (g2 := F0 m 0 ((lg_sl ([.ref (kw 0), .long x1, .int x3]) ++ List.replicate (7 - (lg_sl ([.ref (kw 0), .long x1, .int x3])).length) Slot.unset).toArray) []) (by rw [ha]; exact lg_entry_eq _ _ _) ?_
  generalize (lg_sl ([.ref (kw 0), .long x1, .int x3]) ++ List.replicate (7 - (lg_sl ([.ref (kw 0), .long x1, .int x3])).length) Slot.unset).toArray = ls at hl ⊢
  have hl : lv_has ls 7 [(0, .ref (kw 0)), (1, .long x1), (3, .int x3)] := hl
  rw [f_X10_nextToConvert] at h
  refine lv_iconst (v := 1) hx hb dX10_nextToConvert_0 (by decide) ?_
  refine lv_istore (lv' := [(4, .int 1), (0, .ref (kw 0)), (1, .long x1), (3, .int x3)]) hx hb dX10_nextToConvert_1 hl (by decide) rfl (fun ls hl => ?_)
  exact b3 1000 bj x1 x3 1 _ _ _ hP hD hS (lv_sub hl [1, 2, 3, 0] rfl) h
set_option maxHeartbeats 4000000 in
set_option maxRecDepth 100000 in
theorem c_X10_exits (l : Launch) (D : va_G) (tt : Nat → ClassId) (kw : Nat → Nat) (sz : Nat) (bw : zV) (bj : zJ) (x1 : Int32) (out : Int32 × zJ) (h : f_X10_exits bw bj x1 = some out) : Met l yX10_exits wsX10_exits { frames := 5, cells := 0, slots := 0, locals := 128 } (zPm [.ref (kw 0), .int x1] D tt (zw_mo tt kw bw bj) sz) (zMi .int out.1 D (zw_mo tt kw bw out.2) (va_A (zw_mo tt kw bw bj) sz)) 0 0 (va_A (zw_mo tt kw bw bj) sz) := by
  refine Met.ofW (cc := cX10_exits) (maxL := 4) (ret := (some .int)) (by decide) rfl ?_
  intro p e s m args below meth c s₁ B hml hv
  obtain ⟨ha, hsz, hP, hK, hD0⟩ := hv
  have hx := B.exec
  have hb := B.bytes
  have hr := B.returns
  have hts := atoms_spec (ws := wsX10_exits) B.pre
  have hown : s.vm.findClass RX10 = some m.cls := findClass_of_methodNamed B.named
  have hlocks := B.notSynchronized
  subst hsz
  have hD := hD0.self (sz := s.heap.size)
  generalize hAe : va_A (zw_mo tt kw bw bj) s.heap.size = A at hD ⊢
  have hA : ∀ q : Nat, s.heap.size ≤ q → A q := fun q h => by rw [← hAe]; exact Or.inr h
  have hS : va_S A s.heap s.heap [] := va_S.rf
  have hfin : ∀ (v : Int32) (bj : zJ) (pc : Nat) (ls : Array Slot) (H : Heap) (locs : List Loc), some (v, bj) = some out → narrow .int (.int v) = .int v → va_P D vwCl (zw_mo tt kw bw bj) H → va_D A (zw_mo tt kw bw bj) → va_S A s.heap H locs → decode cX10_exits pc = .ok (.ireturn, 1) → W p l e (headSpec wsX10_exits { frames := 5, cells := 0, slots := 0, locals := 128 }).room s m args below meth c H locs 0 0 (MQ below (zMi .int out.1 D (zw_mo tt kw bw out.2) A) args s 0 0 A) (F0 m pc ls [.int v]) := by
    intro v bj pc ls H locs he hn hP hD hS hd
    cases he
    exact W.zret hx hb hr hn (fun t ht hW => ⟨⟨_, (), rfl, ⟨rfl, hn⟩, by rw [ht]; exact hP, hD⟩, hS.F ht⟩) hS.2.2 hd
  generalize MQ below (zMi .int out.1 D (zw_mo tt kw bw out.2) A) args s 0 0 A = Q at hfin ⊢
  have b14 : ∀ n : Nat, ∀ (bj : zJ) (x1 : Int32) (x2 : Int32) (x3 : Int32) (H : Heap) (locs : List Loc) (ls : Array Slot), va_P D vwCl (zw_mo tt kw bw bj) H → va_D A (zw_mo tt kw bw bj) → va_S A s.heap H locs → lv_has ls 4 [(0, .ref (kw 0)), (1, .int x1), (2, .int x2), (3, .int x3)] → f_X10_exits_b14 bw n bj x1 x2 x3 = some out → W p l e (headSpec wsX10_exits { frames := 5, cells := 0, slots := 0, locals := 128 }).room s m args below meth c H locs 0 0 Q (F0 m 14 ls []) := by
    intro n
    induction n with
    | zero =>
      intro bj x1 x2 x3 H locs ls hP hD hS hl h
      cases h
    | succ n ih =>
      intro bj x1 x2 x3 H locs ls hP hD hS hl h
      rw [f_X10_exits_b14] at h
      refine lv_iload_n hx hb dX10_exits_14 rfl (lv_at hl 3 rfl) ?_
      refine lv_if_lt (tgt := 35) hx hb dX10_exits_15 (by decide) (fun k1 => ?_) (fun k1 => ?_)
      · replace h := z_pos k1 h
        refine lv_aload_n hx hb dX10_exits_35 rfl (lv_at hl 0 rfl) ?_
        refine lv_iload_n hx hb dX10_exits_36 rfl (lv_at hl 1 rfl) ?_
        refine lv_i2l hx hb dX10_exits_37 rfl ?_
        refine lv_iload_n hx hb dX10_exits_38 rfl (lv_at hl 2 rfl) ?_
        obtain ⟨y2, gy2, h⟩ := zb_some h
        have hFc := z_free0 hD hS hA
        refine z_callmv (wc := (zw_mo tt kw bw bj)) (w1 := (zw_mo tt kw bw y2)) (va_runV (As := [.long (Int32.toInt64 x1), .int x2]) (rest := []) ⟨hx, hb, hml, hown, hts⟩ (c_X10_paysOut l D tt kw _ bw bj (Int32.toInt64 x1) x2 y2 gy2) (cwV 2 hts gX10_exits_X10_paysOut rfl rfl rfl (by decide +kernel) ⟨Nat.le_of_ble_eq_true rfl, Nat.le_of_ble_eq_true rfl⟩) (z_preVm hK hP hD (ci := 10) (q0 := 0) rfl rfl) rfl rfl hl.1 rfl (lv_room (Nat.le_of_ble_eq_true rfl)) dX10_exits_39 ⟨Nat.zero_le _, Nat.zero_le _⟩) hS hFc (fun H locs hP1 hD1 hk1 hS => ?_)
        have hP := hP1
        have hD := hD1.weaken (fun _ q _ h => hFc q.1 h)
        refine lv_iload_n hx hb dX10_exits_42 rfl (lv_at hl 2 rfl) ?_
        exact hfin _ _ _ _ _ _ h rfl hP hD hS dX10_exits_43
      replace h := z_neg k1 h
      refine lv_iload_n hx hb dX10_exits_18 rfl (lv_at hl 2 rfl) ?_
      refine lv_iconst (v := 1) hx hb dX10_exits_19 (by decide) ?_
      refine lv_iload_n hx hb dX10_exits_20 rfl (lv_at hl 3 rfl) ?_
      refine lv_ishl hx hb dX10_exits_21 ?_
      refine lv_ior hx hb dX10_exits_22 ?_
      refine lv_istore_n (lv' := [(2, .int (x2 ||| (1 <<< (x3 &&& 31)))), (0, .ref (kw 0)), (1, .int x1), (3, .int x3)]) hx hb dX10_exits_23 rfl hl (by decide) rfl (fun ls hl => ?_)
      refine lv_aload_n hx hb dX10_exits_24 rfl (lv_at hl 1 rfl) ?_
      refine lv_iload_n hx hb dX10_exits_25 rfl (lv_at hl 2 rfl) ?_
      refine lv_i2l hx hb dX10_exits_26 rfl ?_
      refine lv_iload_n hx hb dX10_exits_27 rfl (lv_at hl 0 rfl) ?_
      obtain ⟨y3, gy3, h⟩ := zb_some h
      have hFc := z_free0 hD hS hA
      refine z_callmi (wc := (zw_mo tt kw bw bj)) (w1 := (zw_mo tt kw bw y3.2)) (va_runV (As := [.long (Int32.toInt64 x1), .int (x2 ||| (1 <<< (x3 &&& 31)))]) (rest := []) ⟨hx, hb, hml, hown, hts⟩ (c_X10_nextToConvert l D tt kw _ bw bj (Int32.toInt64 x1) (x2 ||| (1 <<< (x3 &&& 31))) y3 gy3) (cwV 2 hts gX10_exits_X10_nextToConvert rfl rfl rfl (by decide +kernel) ⟨Nat.le_of_ble_eq_true rfl, Nat.le_of_ble_eq_true rfl⟩) (z_preVm hK hP hD (ci := 10) (q0 := 0) rfl rfl) rfl rfl hl.1 rfl (lv_room (Nat.le_of_ble_eq_true rfl)) dX10_exits_28 ⟨Nat.zero_le _, Nat.zero_le _⟩) hS hFc (fun H locs ny3 hP1 hD1 hk1 hS => ?_)
      have hP := hP1
      have hD := hD1.weaken (fun _ q _ h => hFc q.1 h)
      refine lv_istore_n (lv' := [(3, .int y3.1), (2, .int (x2 ||| (1 <<< (x3 &&& 31)))), (0, .ref (kw 0)), (1, .int x1)]) hx hb dX10_exits_31 rfl hl (by decide) rfl (fun ls hl => ?_)
      refine lv_goto (tgt := 14) hx hb dX10_exits_32 (by decide) ?_
      exact ih y3.2 x1 (x2 ||| (1 <<< (x3 &&& 31))) y3.1 _ _ _ hP hD hS (lv_sub hl [2, 3, 1, 0] rfl) h
  have hl := lv_entry ([.ref (kw 0), .int x1]) (n := 4) (Nat.le_of_ble_eq_true rfl)
  refine W.eq (g2 := F0 m 0 ((lg_sl ([.ref (kw 0), .int x1]) ++ List.replicate (4 - (lg_sl ([.ref (kw 0), .int x1])).length) Slot.unset).toArray) []) (by rw [ha]; exact lg_entry_eq _ _ _) ?_
  generalize (lg_sl ([.ref (kw 0), .int x1]) ++ List.replicate (4 - (lg_sl ([.ref (kw 0), .int x1])).length) Slot.unset).toArray = ls at hl ⊢
  have hl : lv_has ls 4 [(0, .ref (kw 0)), (1, .int x1)] := hl
  rw [f_X10_exits] at h
  refine lv_aload_n hx hb dX10_exits_0 rfl (lv_at hl 0 rfl) ?_
  obtain ⟨y4, gy4, h⟩ := zb_some h
  have hFc := z_free0 hD hS hA
  refine z_callmv (wc := (zw_mo tt kw bw bj)) (w1 := (zw_mo tt kw bw y4)) (va_runV (As := []) (rest := []) ⟨hx, hb, hml, hown, hts⟩ (c_X10_layClasses l D tt kw _ bw bj y4 gy4) (cwV 0 hts gX10_exits_X10_layClasses rfl rfl rfl (by decide +kernel) ⟨Nat.le_of_ble_eq_true rfl, Nat.le_of_ble_eq_true rfl⟩) (z_preVm hK hP hD (ci := 10) (q0 := 0) rfl rfl) rfl rfl hl.1 rfl (lv_room (Nat.le_of_ble_eq_true rfl)) dX10_exits_1 ⟨Nat.zero_le _, Nat.zero_le _⟩) hS hFc (fun H locs hP1 hD1 hk1 hS => ?_)
  have hP := hP1
  have hD := hD1.weaken (fun _ q _ h => hFc q.1 h)
  refine lv_iconst (v := 0) hx hb dX10_exits_4 (by decide) ?_
  refine lv_istore_n (lv' := [(2, .int 0), (0, .ref (kw 0)), (1, .int x1)]) hx hb dX10_exits_5 rfl hl (by decide) rfl (fun ls hl => ?_)
  refine lv_aload_n hx hb dX10_exits_6 rfl (lv_at hl 1 rfl) ?_
  refine lv_iload_n hx hb dX10_exits_7 rfl (lv_at hl 2 rfl) ?_
  refine lv_i2l hx hb dX10_exits_8 rfl ?_
  refine lv_iload_n hx hb dX10_exits_9 rfl (lv_at hl 0 rfl) ?_
  obtain ⟨y5, gy5, h⟩ := zb_some h
  have hFc := z_free0 hD hS hA
  refine z_callmi (wc := (zw_mo tt kw bw y4)) (w1 := (zw_mo tt kw bw y5.2)) (va_runV (As := [.long (Int32.toInt64 x1), .int 0]) (rest := []) ⟨hx, hb, hml, hown, hts⟩ (c_X10_nextToConvert l D tt kw _ bw y4 (Int32.toInt64 x1) 0 y5 gy5) (cwV 2 hts gX10_exits_X10_nextToConvert rfl rfl rfl (by decide +kernel) ⟨Nat.le_of_ble_eq_true rfl, Nat.le_of_ble_eq_true rfl⟩) (z_preVm hK hP hD (ci := 10) (q0 := 0) rfl rfl) rfl rfl hl.1 rfl (lv_room (Nat.le_of_ble_eq_true rfl)) dX10_exits_10 ⟨Nat.zero_le _, Nat.zero_le _⟩) hS hFc (fun H locs ny5 hP1 hD1 hk1 hS => ?_)
  have hP := hP1
  have hD := hD1.weaken (fun _ q _ h => hFc q.1 h)
  refine lv_istore_n (lv' := [(3, .int y5.1), (2, .int 0), (0, .ref (kw 0)), (1, .int x1)]) hx hb dX10_exits_13 rfl hl (by decide) rfl (fun ls hl => ?_)
  exact b14 1000 y5.2 x1 0 y5.1 _ _ _ hP hD hS (lv_sub hl [2, 3, 1, 0] rfl) h
set_option maxHeartbeats 4000000 in
set_option maxRecDepth 100000 in
theorem c_X10_areProceeds (l : Launch) (D : va_G) (tt : Nat → ClassId)  (x0 : Int32) (out : Int32) (h : f_X10_areProceeds x0 = some out) : Met l yX10_areProceeds wsX10_areProceeds { frames := 1, cells := 0, slots := 0, locals := 22 } (zPr [.int x0] D tt ([] : va_W)) (zQr .boolean out) 0 0 (fun _ => False) := by
  refine Met.ofW (cc := cX10_areProceeds) (maxL := 1) (ret := (some .boolean)) (by decide) rfl ?_
  intro p e s m args below meth c s₁ B hml hv
  obtain ⟨ha, hP, hK⟩ := hv
  have hx := B.exec
  have hb := B.bytes
  have hr := B.returns
  have hts := atoms_spec (ws := wsX10_areProceeds) B.pre
  have hown : s.vm.findClass RX10 = some m.cls := findClass_of_methodNamed B.named
  have hlocks := B.notSynchronized
  have lc186 := hts (.constant RX10 186 9999999) (by decide +kernel)
  have hfin : ∀ (v : Int32) (pc : Nat) (ls : Array Slot), some v = some out → narrow .boolean (.int v) = .int v → decode cX10_areProceeds pc = .ok (.ireturn, 1) → W p l e (headSpec wsX10_areProceeds { frames := 1, cells := 0, slots := 0, locals := 22 }).room s m args below meth c s.heap [] 0 0 (MQ below (zQr .boolean out) args s 0 0 (fun _ => False)) (F0 m pc ls [.int v]) := by
    intro v pc ls he hn hd
    cases he
    exact W.zret hx hb hr hn (fun t ht hW => ⟨rfl, hn, ht⟩) (fun _ h => by cases h) hd
  generalize MQ below (zQr .boolean out) args s 0 0 (fun _ => False) = Q at hfin ⊢
  have hl := lv_entry ([.int x0]) (n := 1) (Nat.le_of_ble_eq_true rfl)
  refine W.eq (g2 := F0 m 0 ((lg_sl ([.int x0]) ++ List.replicate (1 - (lg_sl ([.int x0])).length) Slot.unset).toArray) []) (by rw [ha]; exact lg_entry_eq _ _ _) ?_
  generalize (lg_sl ([.int x0]) ++ List.replicate (1 - (lg_sl ([.int x0])).length) Slot.unset).toArray = ls at hl ⊢
  have hl : lv_has ls 1 [(0, .int x0)] := hl
  rw [f_X10_areProceeds] at h
  refine lv_iload_n hx hb dX10_areProceeds_0 rfl (lv_at hl 0 rfl) ?_
  refine lv_iconst (v := 0) hx hb dX10_areProceeds_1 (by decide) ?_
  refine lv_ldc hx hb hown lc186 dX10_areProceeds_2 ?_
  obtain ⟨y1, gy1, h⟩ := zb_some h
  refine z_callr (va_runS (As := [.int x0, .int 0, .int 9999999]) (rest := []) ⟨hx, hb, hml, hown, hts⟩ (c_X10_in l D tt x0 0 9999999 y1 gy1) (va_cwS 3 hts gX10_areProceeds_X10_in rfl rfl rfl (by decide +kernel) ⟨Nat.le_of_ble_eq_true rfl, Nat.le_of_ble_eq_true rfl⟩) (z_preSr hK (hP.sub (ws' := ([] : va_W)) [] rfl)) rfl rfl hl.1 rfl (lv_room (Nat.le_of_ble_eq_true rfl)) dX10_areProceeds_4 ⟨Nat.zero_le _, Nat.zero_le _⟩) (fun ny1 => ?_)
  exact hfin _ _ _ h ny1 dX10_areProceeds_7
set_option maxHeartbeats 4000000 in
set_option maxRecDepth 100000 in
theorem c_X10_converts (l : Launch) (D : va_G) (tt : Nat → ClassId) (kw : Nat → Nat) (sz : Nat) (bw : zV) (bj : zJ) (x1 : Int32) (out : Int32 × zJ) (h : f_X10_converts bw bj x1 = some out) : Met l yX10_converts wsX10_converts { frames := 6, cells := 0, slots := 0, locals := 151 } (zPm [.ref (kw 0), .int x1] D tt (zw_mo tt kw bw bj) sz) (zMi .int out.1 D (zw_mo tt kw bw out.2) (va_A (zw_mo tt kw bw bj) sz)) 0 0 (va_A (zw_mo tt kw bw bj) sz) := by
  refine Met.ofW (cc := cX10_converts) (maxL := 2) (ret := (some .int)) (by decide) rfl ?_
  intro p e s m args below meth c s₁ B hml hv
  obtain ⟨ha, hsz, hP, hK, hD0⟩ := hv
  have hx := B.exec
  have hb := B.bytes
  have hr := B.returns
  have hts := atoms_spec (ws := wsX10_converts) B.pre
  have hown : s.vm.findClass RX10 = some m.cls := findClass_of_methodNamed B.named
  have hlocks := B.notSynchronized
  subst hsz
  have hD := hD0.self (sz := s.heap.size)
  generalize hAe : va_A (zw_mo tt kw bw bj) s.heap.size = A at hD ⊢
  have hA : ∀ q : Nat, s.heap.size ≤ q → A q := fun q h => by rw [← hAe]; exact Or.inr h
  have hS : va_S A s.heap s.heap [] := va_S.rf
  have hfin : ∀ (v : Int32) (bj : zJ) (pc : Nat) (ls : Array Slot) (H : Heap) (locs : List Loc), some (v, bj) = some out → narrow .int (.int v) = .int v → va_P D vwCl (zw_mo tt kw bw bj) H → va_D A (zw_mo tt kw bw bj) → va_S A s.heap H locs → decode cX10_converts pc = .ok (.ireturn, 1) → W p l e (headSpec wsX10_converts { frames := 6, cells := 0, slots := 0, locals := 151 }).room s m args below meth c H locs 0 0 (MQ below (zMi .int out.1 D (zw_mo tt kw bw out.2) A) args s 0 0 A) (F0 m pc ls [.int v]) := by
    intro v bj pc ls H locs he hn hP hD hS hd
    cases he
    exact W.zret hx hb hr hn (fun t ht hW => ⟨⟨_, (), rfl, ⟨rfl, hn⟩, by rw [ht]; exact hP, hD⟩, hS.F ht⟩) hS.2.2 hd
  generalize MQ below (zMi .int out.1 D (zw_mo tt kw bw out.2) A) args s 0 0 A = Q at hfin ⊢
  have hl := lv_entry ([.ref (kw 0), .int x1]) (n := 2) (Nat.le_of_ble_eq_true rfl)
  refine W.eq (g2 := F0 m 0 ((lg_sl ([.ref (kw 0), .int x1]) ++ List.replicate (2 - (lg_sl ([.ref (kw 0), .int x1])).length) Slot.unset).toArray) []) (by rw [ha]; exact lg_entry_eq _ _ _) ?_
  generalize (lg_sl ([.ref (kw 0), .int x1]) ++ List.replicate (2 - (lg_sl ([.ref (kw 0), .int x1])).length) Slot.unset).toArray = ls at hl ⊢
  have hl : lv_has ls 2 [(0, .ref (kw 0)), (1, .int x1)] := hl
  rw [f_X10_converts] at h
  refine lv_iload_n hx hb dX10_converts_0 rfl (lv_at hl 1 rfl) ?_
  obtain ⟨y1, gy1, h⟩ := zb_some h
  refine z_callr (va_runS (As := [.int x1]) (rest := []) ⟨hx, hb, hml, hown, hts⟩ (c_X10_areProceeds l D tt x1 y1 gy1) (va_cwS 1 hts gX10_converts_X10_areProceeds rfl rfl rfl (by decide +kernel) ⟨Nat.le_of_ble_eq_true rfl, Nat.le_of_ble_eq_true rfl⟩) (z_preSr hK (hP.sub (ws' := ([] : va_W)) [] rfl)) rfl rfl hl.1 rfl (lv_room (Nat.le_of_ble_eq_true rfl)) dX10_converts_1 ⟨Nat.zero_le _, Nat.zero_le _⟩) (fun ny1 => ?_)
  refine lv_if_eq (tgt := 15) hx hb dX10_converts_4 (by decide) (fun k2 => ?_) (fun k2 => ?_)
  · replace h := z_pos k2 h
    refine lv_iconst (v := (-1)) hx hb dX10_converts_15 (by decide) ?_
    exact hfin _ _ _ _ _ _ h rfl hP hD hS dX10_converts_16
  replace h := z_neg k2 h
  refine lv_aload_n hx hb dX10_converts_7 rfl (lv_at hl 0 rfl) ?_
  refine lv_iload_n hx hb dX10_converts_8 rfl (lv_at hl 1 rfl) ?_
  obtain ⟨y3, gy3, h⟩ := zb_some h
  have hFc := z_free0 hD hS hA
  refine z_callmi (wc := (zw_mo tt kw bw bj)) (w1 := (zw_mo tt kw bw y3.2)) (va_runV (As := [.int x1]) (rest := []) ⟨hx, hb, hml, hown, hts⟩ (c_X10_exits l D tt kw _ bw bj x1 y3 gy3) (cwV 1 hts gX10_converts_X10_exits rfl rfl rfl (by decide +kernel) ⟨Nat.le_of_ble_eq_true rfl, Nat.le_of_ble_eq_true rfl⟩) (z_preVm hK hP hD (ci := 10) (q0 := 0) rfl rfl) rfl rfl hl.1 rfl (lv_room (Nat.le_of_ble_eq_true rfl)) dX10_converts_9 ⟨Nat.zero_le _, Nat.zero_le _⟩) hS hFc (fun H locs ny3 hP1 hD1 hk1 hS => ?_)
  have hP := hP1
  have hD := hD1.weaken (fun _ q _ h => hFc q.1 h)
  refine lv_goto (tgt := 16) hx hb dX10_converts_12 (by decide) ?_
  exact hfin _ _ _ _ _ _ h rfl hP hD hS dX10_converts_16
set_option maxHeartbeats 4000000 in
set_option maxRecDepth 100000 in
theorem c_X10_classGets (l : Launch) (D : va_G) (tt : Nat → ClassId) (kw : Nat → Nat) (sz : Nat) (bw : zV) (bj : zJ) (x1 : Int32) (x2 : Int32) (out : Int32 × zJ) (h : f_X10_classGets bw bj x1 x2 = some out) : Met l yX10_classGets wsX10_classGets { frames := 6, cells := 0, slots := 0, locals := 151 } (zPm [.ref (kw 0), .int x1, .int x2] D tt (zw_mo tt kw bw bj) sz) (zMi .int out.1 D (zw_mo tt kw bw out.2) (va_A (zw_mo tt kw bw bj) sz)) 0 0 (va_A (zw_mo tt kw bw bj) sz) := by
  refine Met.ofW (cc := cX10_classGets) (maxL := 4) (ret := (some .int)) (by decide) rfl ?_
  intro p e s m args below meth c s₁ B hml hv
  obtain ⟨ha, hsz, hP, hK, hD0⟩ := hv
  have hx := B.exec
  have hb := B.bytes
  have hr := B.returns
  have hts := atoms_spec (ws := wsX10_classGets) B.pre
  have hown : s.vm.findClass RX10 = some m.cls := findClass_of_methodNamed B.named
  have hlocks := B.notSynchronized
  have hi10 : ∀ w ∈ u_ws RX10 TX10 15, w ∈ wsX10_classGets := fun _ h => List.mem_cons_of_mem _ (List.mem_append_right _ h)
  have fl22 := hts (.fieldLink RX10 22 "CapStacksModel" "gets" "[J") (by decide +kernel)
  subst hsz
  have hD := hD0.self (sz := s.heap.size)
  generalize hAe : va_A (zw_mo tt kw bw bj) s.heap.size = A at hD ⊢
  have hA : ∀ q : Nat, s.heap.size ≤ q → A q := fun q h => by rw [← hAe]; exact Or.inr h
  have hS : va_S A s.heap s.heap [] := va_S.rf
  have hfin : ∀ (v : Int32) (bj : zJ) (pc : Nat) (ls : Array Slot) (H : Heap) (locs : List Loc), some (v, bj) = some out → narrow .int (.int v) = .int v → va_P D vwCl (zw_mo tt kw bw bj) H → va_D A (zw_mo tt kw bw bj) → va_S A s.heap H locs → decode cX10_classGets pc = .ok (.ireturn, 1) → W p l e (headSpec wsX10_classGets { frames := 6, cells := 0, slots := 0, locals := 151 }).room s m args below meth c H locs 0 0 (MQ below (zMi .int out.1 D (zw_mo tt kw bw out.2) A) args s 0 0 A) (F0 m pc ls [.int v]) := by
    intro v bj pc ls H locs he hn hP hD hS hd
    cases he
    exact W.zret hx hb hr hn (fun t ht hW => ⟨⟨_, (), rfl, ⟨rfl, hn⟩, by rw [ht]; exact hP, hD⟩, hS.F ht⟩) hS.2.2 hd
  generalize MQ below (zMi .int out.1 D (zw_mo tt kw bw out.2) A) args s 0 0 A = Q at hfin ⊢
  have hl := lv_entry ([.ref (kw 0), .int x1, .int x2]) (n := 4) (Nat.le_of_ble_eq_true rfl)
  refine W.eq (g2 := F0 m 0 ((lg_sl ([.ref (kw 0), .int x1, .int x2]) ++ List.replicate (4 - (lg_sl ([.ref (kw 0), .int x1, .int x2])).length) Slot.unset).toArray) []) (by rw [ha]; exact lg_entry_eq _ _ _) ?_
  generalize (lg_sl ([.ref (kw 0), .int x1, .int x2]) ++ List.replicate (4 - (lg_sl ([.ref (kw 0), .int x1, .int x2])).length) Slot.unset).toArray = ls at hl ⊢
  have hl : lv_has ls 4 [(0, .ref (kw 0)), (1, .int x1), (2, .int x2)] := hl
  rw [f_X10_classGets] at h
  refine lv_iload_n hx hb dX10_classGets_0 rfl (lv_at hl 1 rfl) ?_
  obtain ⟨y1, gy1, h⟩ := zb_some h
  refine z_callr (va_runS (As := [.int x1]) (rest := []) ⟨hx, hb, hml, hown, hts⟩ (c_X10_areProceeds l D tt x1 y1 gy1) (va_cwS 1 hts gX10_classGets_X10_areProceeds rfl rfl rfl (by decide +kernel) ⟨Nat.le_of_ble_eq_true rfl, Nat.le_of_ble_eq_true rfl⟩) (z_preSr hK (hP.sub (ws' := ([] : va_W)) [] rfl)) rfl rfl hl.1 rfl (lv_room (Nat.le_of_ble_eq_true rfl)) dX10_classGets_1 ⟨Nat.zero_le _, Nat.zero_le _⟩) (fun ny1 => ?_)
  refine lv_if_eq (tgt := 15) hx hb dX10_classGets_4 (by decide) (fun k2 => ?_) (fun k2 => ?_)
  · replace h := z_pos k2 h
    refine lv_iconst (v := (-1)) hx hb dX10_classGets_15 (by decide) ?_
    exact hfin _ _ _ _ _ _ h rfl hP hD hS dX10_classGets_16
  replace h := z_neg k2 h
  refine lv_aload_n hx hb dX10_classGets_7 rfl (lv_at hl 0 rfl) ?_
  refine lv_iload_n hx hb dX10_classGets_8 rfl (lv_at hl 2 rfl) ?_
  obtain ⟨y3, gy3, h⟩ := zb_some h
  refine z_callr (va_runV (As := [.int x2]) (rest := []) ⟨hx, hb, hml, hown, hts⟩ (c_X10_isClass l D tt kw bw bj x2 y3 gy3) (cwV 1 hts gX10_classGets_X10_isClass rfl rfl rfl (by decide +kernel) ⟨Nat.le_of_ble_eq_true rfl, Nat.le_of_ble_eq_true rfl⟩) (z_preVr hK hP (ci := 10) (q0 := 0) rfl rfl) rfl rfl hl.1 rfl (lv_room (Nat.le_of_ble_eq_true rfl)) dX10_classGets_9 ⟨Nat.zero_le _, Nat.zero_le _⟩) (fun ny3 => ?_)
  refine lv_if_ne (tgt := 17) hx hb dX10_classGets_12 (by decide) (fun k4 => ?_) (fun k4 => ?_)
  rotate_left
  · replace h := z_pos k4 h
    refine lv_iconst (v := (-1)) hx hb dX10_classGets_15 (by decide) ?_
    exact hfin _ _ _ _ _ _ h rfl hP hD hS dX10_classGets_16
  replace h := z_neg k4 h
  refine lv_aload_n hx hb dX10_classGets_17 rfl (lv_at hl 0 rfl) ?_
  refine lv_iload_n hx hb dX10_classGets_18 rfl (lv_at hl 1 rfl) ?_
  obtain ⟨y5, gy5, h⟩ := zb_some h
  have hFc := z_free0 hD hS hA
  refine z_callmi (wc := (zw_mo tt kw bw bj)) (w1 := (zw_mo tt kw bw y5.2)) (va_runV (As := [.int x1]) (rest := []) ⟨hx, hb, hml, hown, hts⟩ (c_X10_exits l D tt kw _ bw bj x1 y5 gy5) (cwV 1 hts gX10_classGets_X10_exits rfl rfl rfl (by decide +kernel) ⟨Nat.le_of_ble_eq_true rfl, Nat.le_of_ble_eq_true rfl⟩) (z_preVm hK hP hD (ci := 10) (q0 := 0) rfl rfl) rfl rfl hl.1 rfl (lv_room (Nat.le_of_ble_eq_true rfl)) dX10_classGets_19 ⟨Nat.zero_le _, Nat.zero_le _⟩) hS hFc (fun H locs ny5 hP1 hD1 hk1 hS => ?_)
  have hP := hP1
  have hD := hD1.weaken (fun _ q _ h => hFc q.1 h)
  refine lv_istore_n (lv' := [(3, .int y5.1), (0, .ref (kw 0)), (1, .int x1), (2, .int x2)]) hx hb dX10_classGets_22 rfl hl (by decide) rfl (fun ls hl => ?_)
  refine lv_iload_n hx hb dX10_classGets_23 rfl (lv_at hl 0 rfl) ?_
  refine lv_if_ge (tgt := 31) hx hb dX10_classGets_24 (by decide) (fun k6 => ?_) (fun k6 => ?_)
  rotate_left
  · replace h := z_neg k6 h
    refine lv_iconst (v := 0) hx hb dX10_classGets_27 (by decide) ?_
    refine lv_goto (tgt := 38) hx hb dX10_classGets_28 (by decide) ?_
    exact hfin _ _ _ _ _ _ h rfl hP hD hS dX10_classGets_38
  replace h := z_pos k6 h
  refine lv_aload_n hx hb dX10_classGets_31 rfl (lv_at hl 1 rfl) ?_
  refine va_get (D := D) (ci := 10) (v := .ref (kw 6)) (C := RX10) (T := TX10) (N := 15) hx hb hts hi10 hown hK.1 hP 0 rfl rfl 6 (by decide) fl22 (fun _ h9 => h9) rfl dX10_classGets_32 ?_
  refine lv_iload_n hx hb dX10_classGets_35 rfl (lv_at hl 3 rfl) ?_
  obtain ⟨q7, h⟩ := zA_some h
  refine va_lald hx hb hK.1 hP 6 1 rfl rfl q7 dX10_classGets_36 ?_
  refine lv_l2i hx hb dX10_classGets_37 rfl ?_
  exact hfin _ _ _ _ _ _ h rfl hP hD hS dX10_classGets_38
set_option maxHeartbeats 4000000 in
set_option maxRecDepth 100000 in
theorem c_X10_holderGets (l : Launch) (D : va_G) (tt : Nat → ClassId) (kw : Nat → Nat) (sz : Nat) (bw : zV) (bj : zJ) (x1 : Int32) (x2 : Int32) (out : Int32 × zJ) (h : f_X10_holderGets bw bj x1 x2 = some out) : Met l yX10_holderGets wsX10_holderGets { frames := 6, cells := 0, slots := 0, locals := 151 } (zPm [.ref (kw 0), .int x1, .int x2] D tt (zw_mo tt kw bw bj) sz) (zMi .int out.1 D (zw_mo tt kw bw out.2) (va_A (zw_mo tt kw bw bj) sz)) 0 0 (va_A (zw_mo tt kw bw bj) sz) := by
  refine Met.ofW (cc := cX10_holderGets) (maxL := 8) (ret := (some .int)) (by decide) rfl ?_
  intro p e s m args below meth c s₁ B hml hv
  obtain ⟨ha, hsz, hP, hK, hD0⟩ := hv
  have hx := B.exec
  have hb := B.bytes
  have hr := B.returns
  have hts := atoms_spec (ws := wsX10_holderGets) B.pre
  have hown : s.vm.findClass RX10 = some m.cls := findClass_of_methodNamed B.named
  have hlocks := B.notSynchronized
  have hi10 : ∀ w ∈ u_ws RX10 TX10 15, w ∈ wsX10_holderGets := fun _ h => List.mem_cons_of_mem _ (List.mem_append_right _ h)
  have fl22 := hts (.fieldLink RX10 22 "CapStacksModel" "gets" "[J") (by decide +kernel)
  have fl7 := hts (.fieldLink RX10 7 "CapStacksModel" "s" "[I") (by decide +kernel)
  subst hsz
  have hD := hD0.self (sz := s.heap.size)
  generalize hAe : va_A (zw_mo tt kw bw bj) s.heap.size = A at hD ⊢
  have hA : ∀ q : Nat, s.heap.size ≤ q → A q := fun q h => by rw [← hAe]; exact Or.inr h
  have hS : va_S A s.heap s.heap [] := va_S.rf
  have hfin : ∀ (v : Int32) (bj : zJ) (pc : Nat) (ls : Array Slot) (H : Heap) (locs : List Loc), some (v, bj) = some out → narrow .int (.int v) = .int v → va_P D vwCl (zw_mo tt kw bw bj) H → va_D A (zw_mo tt kw bw bj) → va_S A s.heap H locs → decode cX10_holderGets pc = .ok (.ireturn, 1) → W p l e (headSpec wsX10_holderGets { frames := 6, cells := 0, slots := 0, locals := 151 }).room s m args below meth c H locs 0 0 (MQ below (zMi .int out.1 D (zw_mo tt kw bw out.2) A) args s 0 0 A) (F0 m pc ls [.int v]) := by
    intro v bj pc ls H locs he hn hP hD hS hd
    cases he
    exact W.zret hx hb hr hn (fun t ht hW => ⟨⟨_, (), rfl, ⟨rfl, hn⟩, by rw [ht]; exact hP, hD⟩, hS.F ht⟩) hS.2.2 hd
  generalize MQ below (zMi .int out.1 D (zw_mo tt kw bw out.2) A) args s 0 0 A = Q at hfin ⊢
  have b29 : ∀ n : Nat, ∀ (bj : zJ) (x2 : Int32) (x3 : Int32) (x4 : Int64) (x6 : Int32) (H : Heap) (locs : List Loc) (ls : Array Slot), va_P D vwCl (zw_mo tt kw bw bj) H → va_D A (zw_mo tt kw bw bj) → va_S A s.heap H locs → lv_has ls 8 [(0, .ref (kw 0)), (2, .int x2), (3, .int x3), (4, .long x4), (6, .int x6)] → f_X10_holderGets_b29 bw n bj x2 x3 x4 x6 = some out → W p l e (headSpec wsX10_holderGets { frames := 6, cells := 0, slots := 0, locals := 151 }).room s m args below meth c H locs 0 0 Q (F0 m 29 ls []) := by
    intro n
    induction n with
    | zero =>
      intro bj x2 x3 x4 x6 H locs ls hP hD hS hl h
      cases h
    | succ n ih =>
      intro bj x2 x3 x4 x6 H locs ls hP hD hS hl h
      rw [f_X10_holderGets_b29] at h
      refine lv_iload hx hb dX10_holderGets_29 (lv_at hl 4 rfl) ?_
      refine lv_aload_n hx hb dX10_holderGets_31 rfl (lv_at hl 0 rfl) ?_
      refine va_get (D := D) (ci := 10) (v := .ref (kw 1)) (C := RX10) (T := TX10) (N := 15) hx hb hts hi10 hown hK.1 hP 0 rfl rfl 0 (by decide) fl7 (fun _ h9 => h9) rfl dX10_holderGets_32 ?_
      refine lv_iconst (v := 0) hx hb dX10_holderGets_35 (by decide) ?_
      refine va_iald hx hb hK.1 hP 1 0 rfl rfl (vp_in_lit 0 213 rfl) dX10_holderGets_36 ?_
      refine lv_icmp_ge (tgt := 93) hx hb dX10_holderGets_37 (by decide) (fun k1 => ?_) (fun k1 => ?_)
      · replace h := z_pos k1 h
        refine lv_lload hx hb dX10_holderGets_93 (lv_at hl 3 rfl) ?_
        refine lv_l2i hx hb dX10_holderGets_95 rfl ?_
        exact hfin _ _ _ _ _ _ h rfl hP hD hS dX10_holderGets_96
      replace h := z_neg k1 h
      refine lv_iload_n hx hb dX10_holderGets_40 rfl (lv_at hl 2 rfl) ?_
      refine lv_if_lt (tgt := 93) hx hb dX10_holderGets_41 (by decide) (fun k2 => ?_) (fun k2 => ?_)
      · replace h := z_pos k2 h
        refine lv_lload hx hb dX10_holderGets_93 (lv_at hl 3 rfl) ?_
        refine lv_l2i hx hb dX10_holderGets_95 rfl ?_
        exact hfin _ _ _ _ _ _ h rfl hP hD hS dX10_holderGets_96
      replace h := z_neg k2 h
      refine lv_aload_n hx hb dX10_holderGets_44 rfl (lv_at hl 0 rfl) ?_
      refine lv_iconst (v := (-1)) hx hb dX10_holderGets_45 (by decide) ?_
      refine lv_iload hx hb dX10_holderGets_46 (lv_at hl 4 rfl) ?_
      obtain ⟨y3, gy3, h⟩ := zb_some h
      refine z_callr (va_runV (As := [.int (-1), .int x6]) (rest := []) ⟨hx, hb, hml, hown, hts⟩ (c_X10_sharesOf l D tt kw bw bj (-1) x6 y3 gy3) (cwV 2 hts gX10_holderGets_X10_sharesOf rfl rfl rfl (by decide +kernel) ⟨Nat.le_of_ble_eq_true rfl, Nat.le_of_ble_eq_true rfl⟩) (z_preVr hK hP (ci := 10) (q0 := 0) rfl rfl) rfl rfl hl.1 rfl (lv_room (Nat.le_of_ble_eq_true rfl)) dX10_holderGets_48 ⟨Nat.zero_le _, Nat.zero_le _⟩) (fun ny3 => ?_)
      refine lv_istore (lv' := [(7, .int y3), (0, .ref (kw 0)), (2, .int x2), (3, .int x3), (4, .long x4), (6, .int x6)]) hx hb dX10_holderGets_51 hl (by decide) rfl (fun ls hl => ?_)
      refine lv_lload hx hb dX10_holderGets_53 (lv_at hl 4 rfl) ?_
      refine lv_iload hx hb dX10_holderGets_55 (lv_at hl 0 rfl) ?_
      refine lv_if_le (tgt := 83) hx hb dX10_holderGets_57 (by decide) (fun k4 => ?_) (fun k4 => ?_)
      · replace h := z_pos k4 h
        refine lv_lconst (v := 0) hx hb dX10_holderGets_83 (by decide) ?_
        refine lv_ladd hx hb dX10_holderGets_84 ?_
        refine lv_lstore (lv' := [(4, .long (x4 + (0 : Int64))), (7, .int y3), (0, .ref (kw 0)), (2, .int x2), (3, .int x3), (6, .int x6)]) hx hb dX10_holderGets_85 hl (by decide) rfl (fun ls hl => ?_)
        refine lv_iinc (v := (x6 + 1)) (lv' := [(6, .int (x6 + 1)), (4, .long (x4 + (0 : Int64))), (7, .int y3), (0, .ref (kw 0)), (2, .int x2), (3, .int x3)]) hx hb dX10_holderGets_87 hl (k := 5) rfl rfl (by decide) rfl (fun ls hl => ?_)
        refine lv_goto (tgt := 29) hx hb dX10_holderGets_90 (by decide) ?_
        exact ih bj x2 x3 (x4 + (0 : Int64)) (x6 + 1) _ _ _ hP hD hS (lv_sub hl [3, 4, 5, 1, 0] rfl) h
      replace h := z_neg k4 h
      refine lv_aload_n hx hb dX10_holderGets_60 rfl (lv_at hl 1 rfl) ?_
      refine va_get (D := D) (ci := 10) (v := .ref (kw 6)) (C := RX10) (T := TX10) (N := 15) hx hb hts hi10 hown hK.1 hP 0 rfl rfl 6 (by decide) fl22 (fun _ h9 => h9) rfl dX10_holderGets_61 ?_
      refine lv_iload hx hb dX10_holderGets_64 (lv_at hl 5 rfl) ?_
      obtain ⟨q5, h⟩ := zA_some h
      refine va_lald hx hb hK.1 hP 6 1 rfl rfl q5 dX10_holderGets_66 ?_
      refine lv_aload_n hx hb dX10_holderGets_67 rfl (lv_at hl 1 rfl) ?_
      refine lv_iload_n hx hb dX10_holderGets_68 rfl (lv_at hl 2 rfl) ?_
      refine lv_iload hx hb dX10_holderGets_69 (lv_at hl 5 rfl) ?_
      obtain ⟨y6, gy6, h⟩ := zb_some h
      refine z_callr (va_runV (As := [.int x2, .int x6]) (rest := [.long ((bj 0) x6.toNatClampNeg), .long x4]) ⟨hx, hb, hml, hown, hts⟩ (c_X10_sharesOf l D tt kw bw bj x2 x6 y6 gy6) (cwV 2 hts gX10_holderGets_X10_sharesOf rfl rfl rfl (by decide +kernel) ⟨Nat.le_of_ble_eq_true rfl, Nat.le_of_ble_eq_true rfl⟩) (z_preVr hK hP (ci := 10) (q0 := 0) rfl rfl) rfl rfl hl.1 rfl (lv_room (Nat.le_of_ble_eq_true rfl)) dX10_holderGets_71 ⟨Nat.zero_le _, Nat.zero_le _⟩) (fun ny6 => ?_)
      refine lv_i2l hx hb dX10_holderGets_74 rfl ?_
      refine lv_lmul hx hb dX10_holderGets_75 ?_
      refine lv_iload hx hb dX10_holderGets_76 (lv_at hl 0 rfl) ?_
      refine lv_i2l hx hb dX10_holderGets_78 rfl ?_
      obtain ⟨q7, h⟩ := zDl_some h
      refine lv_ldiv hx hb dX10_holderGets_79 q7 ?_
      refine lv_goto (tgt := 84) hx hb dX10_holderGets_80 (by decide) ?_
      refine lv_ladd hx hb dX10_holderGets_84 ?_
      refine lv_lstore (lv' := [(4, .long (x4 + ((((bj 0) x6.toNatClampNeg) * (Int32.toInt64 y6)) / (Int32.toInt64 y3)))), (7, .int y3), (0, .ref (kw 0)), (2, .int x2), (3, .int x3), (6, .int x6)]) hx hb dX10_holderGets_85 hl (by decide) rfl (fun ls hl => ?_)
      refine lv_iinc (v := (x6 + 1)) (lv' := [(6, .int (x6 + 1)), (4, .long (x4 + ((((bj 0) x6.toNatClampNeg) * (Int32.toInt64 y6)) / (Int32.toInt64 y3)))), (7, .int y3), (0, .ref (kw 0)), (2, .int x2), (3, .int x3)]) hx hb dX10_holderGets_87 hl (k := 5) rfl rfl (by decide) rfl (fun ls hl => ?_)
      refine lv_goto (tgt := 29) hx hb dX10_holderGets_90 (by decide) ?_
      exact ih bj x2 x3 (x4 + ((((bj 0) x6.toNatClampNeg) * (Int32.toInt64 y6)) / (Int32.toInt64 y3))) (x6 + 1) _ _ _ hP hD hS (lv_sub hl [3, 4, 5, 1, 0] rfl) h
  have hl := lv_entry ([.ref (kw 0), .int x1, .int x2]) (n := 8) (Nat.le_of_ble_eq_true rfl)
  refine W.eq (g2 := F0 m 0 ((lg_sl ([.ref (kw 0), .int x1, .int x2]) ++ List.replicate (8 - (lg_sl ([.ref (kw 0), .int x1, .int x2])).length) Slot.unset).toArray) []) (by rw [ha]; exact lg_entry_eq _ _ _) ?_
  generalize (lg_sl ([.ref (kw 0), .int x1, .int x2]) ++ List.replicate (8 - (lg_sl ([.ref (kw 0), .int x1, .int x2])).length) Slot.unset).toArray = ls at hl ⊢
  have hl : lv_has ls 8 [(0, .ref (kw 0)), (1, .int x1), (2, .int x2)] := hl
  rw [f_X10_holderGets] at h
  refine lv_iload_n hx hb dX10_holderGets_0 rfl (lv_at hl 1 rfl) ?_
  obtain ⟨y8, gy8, h⟩ := zb_some h
  refine z_callr (va_runS (As := [.int x1]) (rest := []) ⟨hx, hb, hml, hown, hts⟩ (c_X10_areProceeds l D tt x1 y8 gy8) (va_cwS 1 hts gX10_holderGets_X10_areProceeds rfl rfl rfl (by decide +kernel) ⟨Nat.le_of_ble_eq_true rfl, Nat.le_of_ble_eq_true rfl⟩) (z_preSr hK (hP.sub (ws' := ([] : va_W)) [] rfl)) rfl rfl hl.1 rfl (lv_room (Nat.le_of_ble_eq_true rfl)) dX10_holderGets_1 ⟨Nat.zero_le _, Nat.zero_le _⟩) (fun ny8 => ?_)
  refine lv_if_eq (tgt := 15) hx hb dX10_holderGets_4 (by decide) (fun k9 => ?_) (fun k9 => ?_)
  · replace h := z_pos k9 h
    refine lv_iconst (v := (-1)) hx hb dX10_holderGets_15 (by decide) ?_
    exact hfin _ _ _ _ _ _ h rfl hP hD hS dX10_holderGets_16
  replace h := z_neg k9 h
  refine lv_aload_n hx hb dX10_holderGets_7 rfl (lv_at hl 0 rfl) ?_
  refine lv_iload_n hx hb dX10_holderGets_8 rfl (lv_at hl 2 rfl) ?_
  obtain ⟨y10, gy10, h⟩ := zb_some h
  refine z_callr (va_runV (As := [.int x2]) (rest := []) ⟨hx, hb, hml, hown, hts⟩ (c_X10_isHolder l D tt kw bw bj x2 y10 gy10) (cwV 1 hts gX10_holderGets_X10_isHolder rfl rfl rfl (by decide +kernel) ⟨Nat.le_of_ble_eq_true rfl, Nat.le_of_ble_eq_true rfl⟩) (z_preVr hK hP (ci := 10) (q0 := 0) rfl rfl) rfl rfl hl.1 rfl (lv_room (Nat.le_of_ble_eq_true rfl)) dX10_holderGets_9 ⟨Nat.zero_le _, Nat.zero_le _⟩) (fun ny10 => ?_)
  refine lv_if_ne (tgt := 17) hx hb dX10_holderGets_12 (by decide) (fun k11 => ?_) (fun k11 => ?_)
  rotate_left
  · replace h := z_pos k11 h
    refine lv_iconst (v := (-1)) hx hb dX10_holderGets_15 (by decide) ?_
    exact hfin _ _ _ _ _ _ h rfl hP hD hS dX10_holderGets_16
  replace h := z_neg k11 h
  refine lv_aload_n hx hb dX10_holderGets_17 rfl (lv_at hl 0 rfl) ?_
  refine lv_iload_n hx hb dX10_holderGets_18 rfl (lv_at hl 1 rfl) ?_
  obtain ⟨y12, gy12, h⟩ := zb_some h
  have hFc := z_free0 hD hS hA
  refine z_callmi (wc := (zw_mo tt kw bw bj)) (w1 := (zw_mo tt kw bw y12.2)) (va_runV (As := [.int x1]) (rest := []) ⟨hx, hb, hml, hown, hts⟩ (c_X10_exits l D tt kw _ bw bj x1 y12 gy12) (cwV 1 hts gX10_holderGets_X10_exits rfl rfl rfl (by decide +kernel) ⟨Nat.le_of_ble_eq_true rfl, Nat.le_of_ble_eq_true rfl⟩) (z_preVm hK hP hD (ci := 10) (q0 := 0) rfl rfl) rfl rfl hl.1 rfl (lv_room (Nat.le_of_ble_eq_true rfl)) dX10_holderGets_19 ⟨Nat.zero_le _, Nat.zero_le _⟩) hS hFc (fun H locs ny12 hP1 hD1 hk1 hS => ?_)
  have hP := hP1
  have hD := hD1.weaken (fun _ q _ h => hFc q.1 h)
  refine lv_istore_n (lv' := [(3, .int y12.1), (0, .ref (kw 0)), (1, .int x1), (2, .int x2)]) hx hb dX10_holderGets_22 rfl hl (by decide) rfl (fun ls hl => ?_)
  refine lv_lconst (v := 0) hx hb dX10_holderGets_23 (by decide) ?_
  refine lv_lstore (lv' := [(4, .long (0 : Int64)), (3, .int y12.1), (0, .ref (kw 0)), (1, .int x1), (2, .int x2)]) hx hb dX10_holderGets_24 hl (by decide) rfl (fun ls hl => ?_)
  refine lv_iconst (v := 0) hx hb dX10_holderGets_26 (by decide) ?_
  refine lv_istore (lv' := [(6, .int 0), (4, .long (0 : Int64)), (3, .int y12.1), (0, .ref (kw 0)), (1, .int x1), (2, .int x2)]) hx hb dX10_holderGets_27 hl (by decide) rfl (fun ls hl => ?_)
  exact b29 1000 y12.2 x2 y12.1 (0 : Int64) 0 _ _ _ hP hD hS (lv_sub hl [3, 5, 2, 1, 0] rfl) h
set_option maxHeartbeats 4000000 in
set_option maxRecDepth 100000 in
theorem c_X10_byGain (l : Launch) (D : va_G) (tt : Nat → ClassId) (kw : Nat → Nat) (sz : Nat) (bw : zV) (bj : zJ) (x1 : Int32) (x2 : Int32) (out : Int32 × zJ) (h : f_X10_byGain bw bj x1 x2 = some out) : Met l yX10_byGain wsX10_byGain { frames := 6, cells := 0, slots := 0, locals := 151 } (zPm [.ref (kw 0), .int x1, .int x2] D tt (zw_mo tt kw bw bj) sz) (zMi .int out.1 D (zw_mo tt kw bw out.2) (va_A (zw_mo tt kw bw bj) sz)) 0 0 (va_A (zw_mo tt kw bw bj) sz) := by
  refine Met.ofW (cc := cX10_byGain) (maxL := 7) (ret := (some .int)) (by decide) rfl ?_
  intro p e s m args below meth c s₁ B hml hv
  obtain ⟨ha, hsz, hP, hK, hD0⟩ := hv
  have hx := B.exec
  have hb := B.bytes
  have hr := B.returns
  have hts := atoms_spec (ws := wsX10_byGain) B.pre
  have hown : s.vm.findClass RX10 = some m.cls := findClass_of_methodNamed B.named
  have hlocks := B.notSynchronized
  have hi10 : ∀ w ∈ u_ws RX10 TX10 15, w ∈ wsX10_byGain := fun _ h => List.mem_cons_of_mem _ (List.mem_append_right _ h)
  have fl22 := hts (.fieldLink RX10 22 "CapStacksModel" "gets" "[J") (by decide +kernel)
  have fl7 := hts (.fieldLink RX10 7 "CapStacksModel" "s" "[I") (by decide +kernel)
  subst hsz
  have hD := hD0.self (sz := s.heap.size)
  generalize hAe : va_A (zw_mo tt kw bw bj) s.heap.size = A at hD ⊢
  have hA : ∀ q : Nat, s.heap.size ≤ q → A q := fun q h => by rw [← hAe]; exact Or.inr h
  have hS : va_S A s.heap s.heap [] := va_S.rf
  have hfin : ∀ (v : Int32) (bj : zJ) (pc : Nat) (ls : Array Slot) (H : Heap) (locs : List Loc), some (v, bj) = some out → narrow .int (.int v) = .int v → va_P D vwCl (zw_mo tt kw bw bj) H → va_D A (zw_mo tt kw bw bj) → va_S A s.heap H locs → decode cX10_byGain pc = .ok (.ireturn, 1) → W p l e (headSpec wsX10_byGain { frames := 6, cells := 0, slots := 0, locals := 151 }).room s m args below meth c H locs 0 0 (MQ below (zMi .int out.1 D (zw_mo tt kw bw out.2) A) args s 0 0 A) (F0 m pc ls [.int v]) := by
    intro v bj pc ls H locs he hn hP hD hS hd
    cases he
    exact W.zret hx hb hr hn (fun t ht hW => ⟨⟨_, (), rfl, ⟨rfl, hn⟩, by rw [ht]; exact hP, hD⟩, hS.F ht⟩) hS.2.2 hd
  generalize MQ below (zMi .int out.1 D (zw_mo tt kw bw out.2) A) args s 0 0 A = Q at hfin ⊢
  have go : ∀ n : Nat, (∀ (bj : zJ) (x2 : Int32) (x3 : Int32) (x4 : Int32) (x5 : Int32) (x6 : Int32) (H : Heap) (locs : List Loc) (ls : Array Slot), va_P D vwCl (zw_mo tt kw bw bj) H → va_D A (zw_mo tt kw bw bj) → va_S A s.heap H locs → lv_has ls 7 [(0, .ref (kw 0)), (2, .int x2), (3, .int x3), (4, .int x4)] → f_X10_byGain_go bw n 0 bj x2 x3 x4 x5 x6 = some out → W p l e (headSpec wsX10_byGain { frames := 6, cells := 0, slots := 0, locals := 151 }).room s m args below meth c H locs 0 0 Q (F0 m 22 ls [])) ∧ (∀ (bj : zJ) (x2 : Int32) (x3 : Int32) (x4 : Int32) (x5 : Int32) (x6 : Int32) (H : Heap) (locs : List Loc) (ls : Array Slot), va_P D vwCl (zw_mo tt kw bw bj) H → va_D A (zw_mo tt kw bw bj) → va_S A s.heap H locs → lv_has ls 7 [(0, .ref (kw 0)), (2, .int x2), (3, .int x3), (4, .int x4), (5, .int x5), (6, .int x6)] → f_X10_byGain_go bw n 1 bj x2 x3 x4 x5 x6 = some out → W p l e (headSpec wsX10_byGain { frames := 6, cells := 0, slots := 0, locals := 151 }).room s m args below meth c H locs 0 0 Q (F0 m 43 ls [])) := by
    intro n
    induction n with
    | zero =>
      refine ⟨?_, ?_⟩
      · intro bj x2 x3 x4 x5 x6 H locs ls hP hD hS hl h
        cases h
      · intro bj x2 x3 x4 x5 x6 H locs ls hP hD hS hl h
        cases h
    | succ n ih =>
      refine ⟨?_, ?_⟩
      · intro bj x2 x3 x4 x5 x6 H locs ls hP hD hS hl h
        rw [f_X10_byGain_go] at h
        refine lv_iload hx hb dX10_byGain_22 (lv_at hl 3 rfl) ?_
        refine lv_aload_n hx hb dX10_byGain_24 rfl (lv_at hl 0 rfl) ?_
        refine va_get (D := D) (ci := 10) (v := .ref (kw 1)) (C := RX10) (T := TX10) (N := 15) hx hb hts hi10 hown hK.1 hP 0 rfl rfl 0 (by decide) fl7 (fun _ h9 => h9) rfl dX10_byGain_25 ?_
        refine lv_iconst (v := 0) hx hb dX10_byGain_28 (by decide) ?_
        refine va_iald hx hb hK.1 hP 1 0 rfl rfl (vp_in_lit 0 213 rfl) dX10_byGain_29 ?_
        refine lv_icmp_ge (tgt := 128) hx hb dX10_byGain_30 (by decide) (fun k8 => ?_) (fun k8 => ?_)
        · replace h := z_pos k8 h
          refine lv_bipush (v := (-4)) hx hb dX10_byGain_128 (by decide) ?_
          exact hfin _ _ _ _ _ _ h rfl hP hD hS dX10_byGain_130
        replace h := z_neg k8 h
        refine lv_iload_n hx hb dX10_byGain_33 rfl (lv_at hl 2 rfl) ?_
        refine lv_if_lt (tgt := 128) hx hb dX10_byGain_34 (by decide) (fun k9 => ?_) (fun k9 => ?_)
        · replace h := z_pos k9 h
          refine lv_bipush (v := (-4)) hx hb dX10_byGain_128 (by decide) ?_
          exact hfin _ _ _ _ _ _ h rfl hP hD hS dX10_byGain_130
        replace h := z_neg k9 h
        refine lv_iconst (v := 0) hx hb dX10_byGain_37 (by decide) ?_
        refine lv_istore (lv' := [(5, .int 0), (0, .ref (kw 0)), (2, .int x2), (3, .int x3), (4, .int x4)]) hx hb dX10_byGain_38 hl (by decide) rfl (fun ls hl => ?_)
        refine lv_iconst (v := 0) hx hb dX10_byGain_40 (by decide) ?_
        refine lv_istore (lv' := [(6, .int 0), (5, .int 0), (0, .ref (kw 0)), (2, .int x2), (3, .int x3), (4, .int x4)]) hx hb dX10_byGain_41 hl (by decide) rfl (fun ls hl => ?_)
        exact (ih).2 bj x2 x3 x4 0 0 _ _ _ hP hD hS (lv_sub hl [2, 3, 4, 5, 1, 0] rfl) h
      · intro bj x2 x3 x4 x5 x6 H locs ls hP hD hS hl h
        rw [f_X10_byGain_go] at h
        refine lv_iload hx hb dX10_byGain_43 (lv_at hl 5 rfl) ?_
        refine lv_aload_n hx hb dX10_byGain_45 rfl (lv_at hl 0 rfl) ?_
        refine va_get (D := D) (ci := 10) (v := .ref (kw 1)) (C := RX10) (T := TX10) (N := 15) hx hb hts hi10 hown hK.1 hP 0 rfl rfl 0 (by decide) fl7 (fun _ h9 => h9) rfl dX10_byGain_46 ?_
        refine lv_iconst (v := 0) hx hb dX10_byGain_49 (by decide) ?_
        refine va_iald hx hb hK.1 hP 1 0 rfl rfl (vp_in_lit 0 213 rfl) dX10_byGain_50 ?_
        refine lv_icmp_ge (tgt := 113) hx hb dX10_byGain_51 (by decide) (fun k1 => ?_) (fun k1 => ?_)
        · replace h := z_pos k1 h
          refine lv_iload hx hb dX10_byGain_113 (lv_at hl 4 rfl) ?_
          refine lv_iload_n hx hb dX10_byGain_115 rfl (lv_at hl 1 rfl) ?_
          refine lv_icmp_ne (tgt := 122) hx hb dX10_byGain_116 (by decide) (fun k2 => ?_) (fun k2 => ?_)
          rotate_left
          · replace h := z_pos k2 h
            refine lv_iload hx hb dX10_byGain_119 (lv_at hl 3 rfl) ?_
            exact hfin _ _ _ _ _ _ h rfl hP hD hS dX10_byGain_121
          replace h := z_neg k2 h
          refine lv_iinc (v := (x4 + 1)) (lv' := [(4, .int (x4 + 1)), (0, .ref (kw 0)), (2, .int x2), (3, .int x3), (5, .int x5), (6, .int x6)]) hx hb dX10_byGain_122 hl (k := 3) rfl rfl (by decide) rfl (fun ls hl => ?_)
          refine lv_goto (tgt := 22) hx hb dX10_byGain_125 (by decide) ?_
          exact (ih).1 bj x2 x3 (x4 + 1) 0 0 _ _ _ hP hD hS (lv_sub hl [1, 2, 3, 0] rfl) h
        replace h := z_neg k1 h
        refine lv_iload hx hb dX10_byGain_54 (lv_at hl 4 rfl) ?_
        refine lv_aload_n hx hb dX10_byGain_56 rfl (lv_at hl 0 rfl) ?_
        refine va_get (D := D) (ci := 10) (v := .ref (kw 6)) (C := RX10) (T := TX10) (N := 15) hx hb hts hi10 hown hK.1 hP 0 rfl rfl 6 (by decide) fl22 (fun _ h9 => h9) rfl dX10_byGain_57 ?_
        refine lv_iload hx hb dX10_byGain_60 (lv_at hl 5 rfl) ?_
        obtain ⟨q3, h⟩ := zA_some h
        refine va_lald hx hb hK.1 hP 6 1 rfl rfl q3 dX10_byGain_62 ?_
        refine lv_aload_n hx hb dX10_byGain_63 rfl (lv_at hl 0 rfl) ?_
        refine va_get (D := D) (ci := 10) (v := .ref (kw 6)) (C := RX10) (T := TX10) (N := 15) hx hb hts hi10 hown hK.1 hP 0 rfl rfl 6 (by decide) fl22 (fun _ h9 => h9) rfl dX10_byGain_64 ?_
        refine lv_iload hx hb dX10_byGain_67 (lv_at hl 3 rfl) ?_
        obtain ⟨q4, h⟩ := zA_some h
        refine va_lald hx hb hK.1 hP 6 1 rfl rfl q4 dX10_byGain_69 ?_
        refine W.lcmp hx hb dX10_byGain_70 ?_
        refine lv_if_gt (tgt := 99) hx hb dX10_byGain_71 (by decide) (fun k5 => ?_) (fun k5 => ?_)
        · replace h := z_pos k5 h
          refine lv_iconst (v := 1) hx hb dX10_byGain_99 (by decide) ?_
          refine lv_goto (tgt := 104) hx hb dX10_byGain_100 (by decide) ?_
          refine lv_iadd hx hb dX10_byGain_104 ?_
          refine lv_istore (lv' := [(5, .int (x5 + 1)), (0, .ref (kw 0)), (2, .int x2), (3, .int x3), (4, .int x4), (6, .int x6)]) hx hb dX10_byGain_105 hl (by decide) rfl (fun ls hl => ?_)
          refine lv_iinc (v := (x6 + 1)) (lv' := [(6, .int (x6 + 1)), (5, .int (x5 + 1)), (0, .ref (kw 0)), (2, .int x2), (3, .int x3), (4, .int x4)]) hx hb dX10_byGain_107 hl (k := 5) rfl rfl (by decide) rfl (fun ls hl => ?_)
          refine lv_goto (tgt := 43) hx hb dX10_byGain_110 (by decide) ?_
          exact (ih).2 bj x2 x3 x4 (x5 + 1) (x6 + 1) _ _ _ hP hD hS (lv_sub hl [2, 3, 4, 5, 1, 0] rfl) h
        replace h := z_neg k5 h
        refine lv_aload_n hx hb dX10_byGain_74 rfl (lv_at hl 0 rfl) ?_
        refine va_get (D := D) (ci := 10) (v := .ref (kw 6)) (C := RX10) (T := TX10) (N := 15) hx hb hts hi10 hown hK.1 hP 0 rfl rfl 6 (by decide) fl22 (fun _ h9 => h9) rfl dX10_byGain_75 ?_
        refine lv_iload hx hb dX10_byGain_78 (lv_at hl 5 rfl) ?_
        refine va_lald hx hb hK.1 hP 6 1 rfl rfl q3 dX10_byGain_80 ?_
        refine lv_aload_n hx hb dX10_byGain_81 rfl (lv_at hl 0 rfl) ?_
        refine va_get (D := D) (ci := 10) (v := .ref (kw 6)) (C := RX10) (T := TX10) (N := 15) hx hb hts hi10 hown hK.1 hP 0 rfl rfl 6 (by decide) fl22 (fun _ h9 => h9) rfl dX10_byGain_82 ?_
        refine lv_iload hx hb dX10_byGain_85 (lv_at hl 3 rfl) ?_
        refine va_lald hx hb hK.1 hP 6 1 rfl rfl q4 dX10_byGain_87 ?_
        refine W.lcmp hx hb dX10_byGain_88 ?_
        refine lv_if_ne (tgt := 103) hx hb dX10_byGain_89 (by decide) (fun k6 => ?_) (fun k6 => ?_)
        · replace h := z_neg k6 h
          refine lv_iconst (v := 0) hx hb dX10_byGain_103 (by decide) ?_
          refine lv_iadd hx hb dX10_byGain_104 ?_
          refine lv_istore (lv' := [(5, .int (x5 + 0)), (0, .ref (kw 0)), (2, .int x2), (3, .int x3), (4, .int x4), (6, .int x6)]) hx hb dX10_byGain_105 hl (by decide) rfl (fun ls hl => ?_)
          refine lv_iinc (v := (x6 + 1)) (lv' := [(6, .int (x6 + 1)), (5, .int (x5 + 0)), (0, .ref (kw 0)), (2, .int x2), (3, .int x3), (4, .int x4)]) hx hb dX10_byGain_107 hl (k := 5) rfl rfl (by decide) rfl (fun ls hl => ?_)
          refine lv_goto (tgt := 43) hx hb dX10_byGain_110 (by decide) ?_
          exact (ih).2 bj x2 x3 x4 (x5 + 0) (x6 + 1) _ _ _ hP hD hS (lv_sub hl [2, 3, 4, 5, 1, 0] rfl) h
        replace h := z_pos k6 h
        refine lv_iload hx hb dX10_byGain_92 (lv_at hl 5 rfl) ?_
        refine lv_iload hx hb dX10_byGain_94 (lv_at hl 3 rfl) ?_
        refine lv_icmp_ge (tgt := 103) hx hb dX10_byGain_96 (by decide) (fun k7 => ?_) (fun k7 => ?_)
        · replace h := z_pos k7 h
          refine lv_iconst (v := 0) hx hb dX10_byGain_103 (by decide) ?_
          refine lv_iadd hx hb dX10_byGain_104 ?_
          refine lv_istore (lv' := [(5, .int (x5 + 0)), (0, .ref (kw 0)), (2, .int x2), (3, .int x3), (4, .int x4), (6, .int x6)]) hx hb dX10_byGain_105 hl (by decide) rfl (fun ls hl => ?_)
          refine lv_iinc (v := (x6 + 1)) (lv' := [(6, .int (x6 + 1)), (5, .int (x5 + 0)), (0, .ref (kw 0)), (2, .int x2), (3, .int x3), (4, .int x4)]) hx hb dX10_byGain_107 hl (k := 5) rfl rfl (by decide) rfl (fun ls hl => ?_)
          refine lv_goto (tgt := 43) hx hb dX10_byGain_110 (by decide) ?_
          exact (ih).2 bj x2 x3 x4 (x5 + 0) (x6 + 1) _ _ _ hP hD hS (lv_sub hl [2, 3, 4, 5, 1, 0] rfl) h
        replace h := z_neg k7 h
        refine lv_iconst (v := 1) hx hb dX10_byGain_99 (by decide) ?_
        refine lv_goto (tgt := 104) hx hb dX10_byGain_100 (by decide) ?_
        refine lv_iadd hx hb dX10_byGain_104 ?_
        refine lv_istore (lv' := [(5, .int (x5 + 1)), (0, .ref (kw 0)), (2, .int x2), (3, .int x3), (4, .int x4), (6, .int x6)]) hx hb dX10_byGain_105 hl (by decide) rfl (fun ls hl => ?_)
        refine lv_iinc (v := (x6 + 1)) (lv' := [(6, .int (x6 + 1)), (5, .int (x5 + 1)), (0, .ref (kw 0)), (2, .int x2), (3, .int x3), (4, .int x4)]) hx hb dX10_byGain_107 hl (k := 5) rfl rfl (by decide) rfl (fun ls hl => ?_)
        refine lv_goto (tgt := 43) hx hb dX10_byGain_110 (by decide) ?_
        exact (ih).2 bj x2 x3 x4 (x5 + 1) (x6 + 1) _ _ _ hP hD hS (lv_sub hl [2, 3, 4, 5, 1, 0] rfl) h
  have hl := lv_entry ([.ref (kw 0), .int x1, .int x2]) (n := 7) (Nat.le_of_ble_eq_true rfl)
  refine W.eq (g2 := F0 m 0 ((lg_sl ([.ref (kw 0), .int x1, .int x2]) ++ List.replicate (7 - (lg_sl ([.ref (kw 0), .int x1, .int x2])).length) Slot.unset).toArray) []) (by rw [ha]; exact lg_entry_eq _ _ _) ?_
  generalize (lg_sl ([.ref (kw 0), .int x1, .int x2]) ++ List.replicate (7 - (lg_sl ([.ref (kw 0), .int x1, .int x2])).length) Slot.unset).toArray = ls at hl ⊢
  have hl : lv_has ls 7 [(0, .ref (kw 0)), (1, .int x1), (2, .int x2)] := hl
  rw [f_X10_byGain] at h
  refine lv_iload_n hx hb dX10_byGain_0 rfl (lv_at hl 1 rfl) ?_
  obtain ⟨y10, gy10, h⟩ := zb_some h
  refine z_callr (va_runS (As := [.int x1]) (rest := []) ⟨hx, hb, hml, hown, hts⟩ (c_X10_areProceeds l D tt x1 y10 gy10) (va_cwS 1 hts gX10_byGain_X10_areProceeds rfl rfl rfl (by decide +kernel) ⟨Nat.le_of_ble_eq_true rfl, Nat.le_of_ble_eq_true rfl⟩) (z_preSr hK (hP.sub (ws' := ([] : va_W)) [] rfl)) rfl rfl hl.1 rfl (lv_room (Nat.le_of_ble_eq_true rfl)) dX10_byGain_1 ⟨Nat.zero_le _, Nat.zero_le _⟩) (fun ny10 => ?_)
  refine lv_if_eq (tgt := 11) hx hb dX10_byGain_4 (by decide) (fun k11 => ?_) (fun k11 => ?_)
  · replace h := z_pos k11 h
    refine lv_iconst (v := (-1)) hx hb dX10_byGain_11 (by decide) ?_
    exact hfin _ _ _ _ _ _ h rfl hP hD hS dX10_byGain_12
  replace h := z_neg k11 h
  refine lv_iload_n hx hb dX10_byGain_7 rfl (lv_at hl 2 rfl) ?_
  refine lv_if_ge (tgt := 13) hx hb dX10_byGain_8 (by decide) (fun k12 => ?_) (fun k12 => ?_)
  rotate_left
  · replace h := z_neg k12 h
    refine lv_iconst (v := (-1)) hx hb dX10_byGain_11 (by decide) ?_
    exact hfin _ _ _ _ _ _ h rfl hP hD hS dX10_byGain_12
  replace h := z_pos k12 h
  refine lv_aload_n hx hb dX10_byGain_13 rfl (lv_at hl 0 rfl) ?_
  refine lv_iload_n hx hb dX10_byGain_14 rfl (lv_at hl 1 rfl) ?_
  obtain ⟨y13, gy13, h⟩ := zb_some h
  have hFc := z_free0 hD hS hA
  refine z_callmi (wc := (zw_mo tt kw bw bj)) (w1 := (zw_mo tt kw bw y13.2)) (va_runV (As := [.int x1]) (rest := []) ⟨hx, hb, hml, hown, hts⟩ (c_X10_exits l D tt kw _ bw bj x1 y13 gy13) (cwV 1 hts gX10_byGain_X10_exits rfl rfl rfl (by decide +kernel) ⟨Nat.le_of_ble_eq_true rfl, Nat.le_of_ble_eq_true rfl⟩) (z_preVm hK hP hD (ci := 10) (q0 := 0) rfl rfl) rfl rfl hl.1 rfl (lv_room (Nat.le_of_ble_eq_true rfl)) dX10_byGain_15 ⟨Nat.zero_le _, Nat.zero_le _⟩) hS hFc (fun H locs ny13 hP1 hD1 hk1 hS => ?_)
  have hP := hP1
  have hD := hD1.weaken (fun _ q _ h => hFc q.1 h)
  refine lv_istore_n (lv' := [(3, .int y13.1), (0, .ref (kw 0)), (1, .int x1), (2, .int x2)]) hx hb dX10_byGain_18 rfl hl (by decide) rfl (fun ls hl => ?_)
  refine lv_iconst (v := 0) hx hb dX10_byGain_19 (by decide) ?_
  refine lv_istore (lv' := [(4, .int 0), (3, .int y13.1), (0, .ref (kw 0)), (1, .int x1), (2, .int x2)]) hx hb dX10_byGain_20 hl (by decide) rfl (fun ls hl => ?_)
  exact (go 1000).1 y13.2 x2 y13.1 0 0 0 _ _ _ hP hD hS (lv_sub hl [2, 4, 1, 0] rfl) h
set_option maxHeartbeats 4000000 in
set_option maxRecDepth 100000 in
theorem c_X10_undo (l : Launch) (D : va_G) (tt : Nat → ClassId) (kw : Nat → Nat) (sz : Nat) (bw : zV) (bj : zJ)  (out : Int32 × zV) (h : f_X10_undo bw bj = some out) : Met l yX10_undo wsX10_undo { frames := 0, cells := 0, slots := 0, locals := 0 } (zPm [.ref (kw 0)] D tt (zw_mo tt kw bw bj) sz) (zMi .int out.1 D (zw_mo tt kw out.2 bj) (va_A (zw_mo tt kw bw bj) sz)) 0 0 (va_A (zw_mo tt kw bw bj) sz) := by
  refine Met.ofW (cc := cX10_undo) (maxL := 2) (ret := (some .int)) (by decide) rfl ?_
  intro p e s m args below meth c s₁ B hml hv
  obtain ⟨ha, hsz, hP, hK, hD0⟩ := hv
  have hx := B.exec
  have hb := B.bytes
  have hr := B.returns
  have hts := atoms_spec (ws := wsX10_undo) B.pre
  have hown : s.vm.findClass RX10 = some m.cls := findClass_of_methodNamed B.named
  have hlocks := B.notSynchronized
  have hi10 : ∀ w ∈ u_ws RX10 TX10 15, w ∈ wsX10_undo := fun _ h => List.mem_cons_of_mem _ (List.mem_append_right _ h)
  have fl16 := hts (.fieldLink RX10 16 "CapStacksModel" "past" "[I") (by decide +kernel)
  have fl38 := hts (.fieldLink RX10 38 "CapStacksModel" "states" "I") (by decide +kernel)
  have fl7 := hts (.fieldLink RX10 7 "CapStacksModel" "s" "[I") (by decide +kernel)
  subst hsz
  have hD := hD0.self (sz := s.heap.size)
  generalize hAe : va_A (zw_mo tt kw bw bj) s.heap.size = A at hD ⊢
  have hA : ∀ q : Nat, s.heap.size ≤ q → A q := fun q h => by rw [← hAe]; exact Or.inr h
  have hS : va_S A s.heap s.heap [] := va_S.rf
  have hfin : ∀ (v : Int32) (bw : zV) (pc : Nat) (ls : Array Slot) (H : Heap) (locs : List Loc), some (v, bw) = some out → narrow .int (.int v) = .int v → va_P D vwCl (zw_mo tt kw bw bj) H → va_D A (zw_mo tt kw bw bj) → va_S A s.heap H locs → decode cX10_undo pc = .ok (.ireturn, 1) → W p l e (headSpec wsX10_undo { frames := 0, cells := 0, slots := 0, locals := 0 }).room s m args below meth c H locs 0 0 (MQ below (zMi .int out.1 D (zw_mo tt kw out.2 bj) A) args s 0 0 A) (F0 m pc ls [.int v]) := by
    intro v bw pc ls H locs he hn hP hD hS hd
    cases he
    exact W.zret hx hb hr hn (fun t ht hW => ⟨⟨_, (), rfl, ⟨rfl, hn⟩, by rw [ht]; exact hP, hD⟩, hS.F ht⟩) hS.2.2 hd
  generalize MQ below (zMi .int out.1 D (zw_mo tt kw out.2 bj) A) args s 0 0 A = Q at hfin ⊢
  have b22 : ∀ n : Nat, ∀ (bw : zV) (x1 : Int32) (H : Heap) (locs : List Loc) (ls : Array Slot), va_P D vwCl (zw_mo tt kw bw bj) H → va_D A (zw_mo tt kw bw bj) → va_S A s.heap H locs → lv_has ls 2 [(0, .ref (kw 0)), (1, .int x1)] → f_X10_undo_b22 bj n bw x1 = some out → W p l e (headSpec wsX10_undo { frames := 0, cells := 0, slots := 0, locals := 0 }).room s m args below meth c H locs 0 0 Q (F0 m 22 ls []) := by
    intro n
    induction n with
    | zero =>
      intro bw x1 H locs ls hP hD hS hl h
      cases h
    | succ n ih =>
      intro bw x1 H locs ls hP hD hS hl h
      rw [f_X10_undo_b22] at h
      refine lv_iload_n hx hb dX10_undo_22 rfl (lv_at hl 1 rfl) ?_
      refine lv_sipush (v := 213) hx hb dX10_undo_23 (by decide) ?_
      refine lv_icmp_ge (tgt := 56) hx hb dX10_undo_26 (by decide) (fun k1 => ?_) (fun k1 => ?_)
      · replace h := z_pos k1 h
        refine lv_aload_n hx hb dX10_undo_56 rfl (lv_at hl 0 rfl) ?_
        refine va_get (D := D) (ci := 10) (v := .int (bw 0 0)) (C := RX10) (T := TX10) (N := 15) hx hb hts hi10 hown hK.1 hP 0 rfl rfl 3 (by decide) fl38 (fun _ h9 => h9) rfl dX10_undo_57 ?_
        exact hfin _ _ _ _ _ _ h rfl hP hD hS dX10_undo_60
      replace h := z_neg k1 h
      refine lv_aload_n hx hb dX10_undo_29 rfl (lv_at hl 0 rfl) ?_
      refine va_get (D := D) (ci := 10) (v := .ref (kw 1)) (C := RX10) (T := TX10) (N := 15) hx hb hts hi10 hown hK.1 hP 0 rfl rfl 0 (by decide) fl7 (fun _ h9 => h9) rfl dX10_undo_30 ?_
      refine lv_iload_n hx hb dX10_undo_33 rfl (lv_at hl 1 rfl) ?_
      refine lv_aload_n hx hb dX10_undo_34 rfl (lv_at hl 0 rfl) ?_
      refine va_get (D := D) (ci := 10) (v := .ref (kw 3)) (C := RX10) (T := TX10) (N := 15) hx hb hts hi10 hown hK.1 hP 0 rfl rfl 2 (by decide) fl16 (fun _ h9 => h9) rfl dX10_undo_35 ?_
      refine lv_sipush (v := 213) hx hb dX10_undo_38 (by decide) ?_
      refine lv_aload_n hx hb dX10_undo_41 rfl (lv_at hl 0 rfl) ?_
      refine va_get (D := D) (ci := 10) (v := .int (bw 0 0)) (C := RX10) (T := TX10) (N := 15) hx hb hts hi10 hown hK.1 hP 0 rfl rfl 3 (by decide) fl38 (fun _ h9 => h9) rfl dX10_undo_42 ?_
      refine lv_imul hx hb dX10_undo_45 ?_
      refine lv_iload_n hx hb dX10_undo_46 rfl (lv_at hl 1 rfl) ?_
      refine lv_iadd hx hb dX10_undo_47 ?_
      obtain ⟨q2, h⟩ := zA_some h
      refine va_iald hx hb hK.1 hP 3 0 rfl rfl q2 dX10_undo_48 ?_
      obtain ⟨q3, h⟩ := zA_some h
      refine va_iast hx hb hK.1 hP hD hS 1 0 rfl rfl q3 dX10_undo_49 (fun H locs hP hD hS => ?_)
      obtain ⟨a4, ea4, h⟩ := zl_some h
      have hP : va_P D vwCl (zw_mo tt kw (zu bw 1 a4) bj) H := by rw [ea4]; exact hP
      have hD : va_D A (zw_mo tt kw (zu bw 1 a4) bj) := by rw [ea4]; exact hD
      clear ea4
      refine lv_iinc (v := (x1 + 1)) (lv' := [(1, .int (x1 + 1)), (0, .ref (kw 0))]) hx hb dX10_undo_50 hl (k := 1) rfl rfl (by decide) rfl (fun ls hl => ?_)
      refine lv_goto (tgt := 22) hx hb dX10_undo_53 (by decide) ?_
      exact ih (zu bw 1 a4) (x1 + 1) _ _ _ hP hD hS (lv_sub hl [1, 0] rfl) h
  have hl := lv_entry ([.ref (kw 0)]) (n := 2) (Nat.le_of_ble_eq_true rfl)
  refine W.eq (g2 := F0 m 0 ((lg_sl ([.ref (kw 0)]) ++ List.replicate (2 - (lg_sl ([.ref (kw 0)])).length) Slot.unset).toArray) []) (by rw [ha]; exact lg_entry_eq _ _ _) ?_
  generalize (lg_sl ([.ref (kw 0)]) ++ List.replicate (2 - (lg_sl ([.ref (kw 0)])).length) Slot.unset).toArray = ls at hl ⊢
  have hl : lv_has ls 2 [(0, .ref (kw 0))] := hl
  rw [f_X10_undo] at h
  refine lv_aload_n hx hb dX10_undo_0 rfl (lv_at hl 0 rfl) ?_
  refine va_get (D := D) (ci := 10) (v := .int (bw 0 0)) (C := RX10) (T := TX10) (N := 15) hx hb hts hi10 hown hK.1 hP 0 rfl rfl 3 (by decide) fl38 (fun _ h9 => h9) rfl dX10_undo_1 ?_
  refine lv_if_ne (tgt := 10) hx hb dX10_undo_4 (by decide) (fun k5 => ?_) (fun k5 => ?_)
  rotate_left
  · replace h := z_pos k5 h
    refine lv_bipush (v := (-2)) hx hb dX10_undo_7 (by decide) ?_
    exact hfin _ _ _ _ _ _ h rfl hP hD hS dX10_undo_9
  replace h := z_neg k5 h
  refine lv_aload_n hx hb dX10_undo_10 rfl (lv_at hl 0 rfl) ?_
  refine lv_dup hx hb dX10_undo_11 rfl ?_
  refine va_get (D := D) (ci := 10) (v := .int (bw 0 0)) (C := RX10) (T := TX10) (N := 15) hx hb hts hi10 hown hK.1 hP 0 rfl rfl 3 (by decide) fl38 (fun _ h9 => h9) rfl dX10_undo_12 ?_
  refine lv_iconst (v := 1) hx hb dX10_undo_15 (by decide) ?_
  refine lv_isub hx hb dX10_undo_16 ?_
  refine va_put (D := D) (ci := 10) (v := .int ((bw 0 0) - 1)) (ty := .int) (C := RX10) (T := TX10) (N := 15) hx hb hts hi10 tyX10 tyX10_ok nmX10 hown hK.1 hP hD hS 0 rfl rfl 3 (by decide) fl38 (fun _ h9 => h9) rfl (by decide +kernel) rfl rfl (Nat.le_of_ble_eq_true rfl) dX10_undo_17 (fun H locs hP hD hS => ?_)
  have hP : va_P D vwCl (zw_mo tt kw (zu bw 0 (zu (bw 0) 0 ((bw 0 0) - 1))) bj) H := hP
  have hD : va_D A (zw_mo tt kw (zu bw 0 (zu (bw 0) 0 ((bw 0 0) - 1))) bj) := hD
  refine lv_iconst (v := 0) hx hb dX10_undo_20 (by decide) ?_
  refine lv_istore_n (lv' := [(1, .int 0), (0, .ref (kw 0))]) hx hb dX10_undo_21 rfl hl (by decide) rfl (fun ls hl => ?_)
  exact b22 1000 (zu bw 0 (zu (bw 0) 0 ((bw 0 0) - 1))) 0 _ _ _ hP hD hS (lv_sub hl [1, 0] rfl) h
