/-! ===== the law: every call's answers ===== -/
theorem an_shareClass {bv bd be bt br w : zV} {bh : zH} (j : zJ) (h : zSt bv bh bt w) (x1 x2 x3 x4 x5 : Int32) : ∃ r bv' bd' bh' w', f_X9_shareClass bv bd bh be bt br x1 x2 x3 x4 x5 = some (r, bv', bd', bh') ∧ f_X10_shareClass w j x1 x2 x3 x4 x5 = some (r, w') ∧ zSt bv' bh' bt w' :=
  zo_change j h (fun y => f_X2_addClass y x1 x2 x3 x4 x5) (fun w => f_X10_founds w j x1 x2 x3 x4 x5) (fun v w h => zo_founds j h _ _ _ _ _)
theorem an_holder {bv bd be bt br w : zV} {bh : zH} (j : zJ) (h : zSt bv bh bt w) : ∃ r bv' bd' bh' w', f_X9_holder bv bd bh be bt br  = some (r, bv', bd', bh') ∧ f_X10_holder w j  = some (r, w') ∧ zSt bv' bh' bt w' :=
  zo_change j h (fun y => f_X2_addHolder y ) (fun w => f_X10_comes w j ) (fun v w h => zo_comes j h )
theorem an_issue {bv bd be bt br w : zV} {bh : zH} (j : zJ) (h : zSt bv bh bt w) (x1 x2 x3 : Int32) : ∃ r bv' bd' bh' w', f_X9_issue bv bd bh be bt br x1 x2 x3 = some (r, bv', bd', bh') ∧ f_X10_issue w j x1 x2 x3 = some (r, w') ∧ zSt bv' bh' bt w' :=
  zo_change j h (fun y => f_X2_issueShares y x1 x2 x3) (fun w => f_X10_issues w j x1 x2 x3) (fun v w h => zo_issues j h _ _ _)
theorem an_split {bv bd be bt br w : zV} {bh : zH} (j : zJ) (h : zSt bv bh bt w) (x1 x2 x3 : Int32) : ∃ r bv' bd' bh' w', f_X9_split bv bd bh be bt br x1 x2 x3 = some (r, bv', bd', bh') ∧ f_X10_split w j x1 x2 x3 = some (r, w') ∧ zSt bv' bh' bt w' :=
  zo_change j h (fun y => f_X2_splitCertificate y x1 x2 x3) (fun w => f_X10_splits w j x1 x2 x3) (fun v w h => zo_splits j h _ _ _)
theorem an_buyBack {bv bd be bt br w : zV} {bh : zH} (j : zJ) (h : zSt bv bh bt w) (x1 x2 : Int32) : ∃ r bv' bd' bh' w', f_X9_buyBack bv bd bh be bt br x1 x2 = some (r, bv', bd', bh') ∧ f_X10_buyBack w j x1 x2 = some (r, w') ∧ zSt bv' bh' bt w' :=
  zo_change j h (fun y => f_X2_buySharesBack y x1 x2) (fun w => f_X10_buys w j x1 x2) (fun v w h => zo_buys j h _ _)
theorem an_grant {bv bd be bt br w : zV} {bh : zH} (j : zJ) (h : zSt bv bh bt w) (x1 x2 x3 x4 x5 : Int32) : ∃ r bv' bd' bh' w', f_X9_grant bv bd bh be bt br x1 x2 x3 x4 x5 = some (r, bv', bd', bh') ∧ f_X10_grant w j x1 x2 x3 x4 x5 = some (r, w') ∧ zSt bv' bh' bt w' :=
  zo_change j h (fun y => f_X2_addGrant y x1 x2 x3 x4 x5) (fun w => f_X10_grants w j x1 x2 x3 x4 x5) (fun v w h => zo_grants j h _ _ _ _ _)
theorem an_take {bv bd be bt br w : zV} {bh : zH} (j : zJ) (h : zSt bv bh bt w) (x1 x2 : Int32) : ∃ r bv' bd' bh' w', f_X9_take bv bd bh be bt br x1 x2 = some (r, bv', bd', bh') ∧ f_X10_take w j x1 x2 = some (r, w') ∧ zSt bv' bh' bt w' :=
  zo_change j h (fun y => f_X2_takeOptions y x1 x2) (fun w => f_X10_takes w j x1 x2) (fun v w h => zo_takes j h _ _)
theorem an_leave {bv bd be bt br w : zV} {bh : zH} (j : zJ) (h : zSt bv bh bt w) (x1 : Int32) : ∃ r bv' bd' bh' w', f_X9_leave bv bd bh be bt br x1 = some (r, bv', bd', bh') ∧ f_X10_leave w j x1 = some (r, w') ∧ zSt bv' bh' bt w' :=
  zo_change j h (fun y => f_X2_letLeave y x1) (fun w => f_X10_leaves w j x1) (fun v w h => zo_leaves j h _)
theorem an_round {bv bd be bt br w : zV} {bh : zH} (j : zJ) (h : zSt bv bh bt w) (x1 x2 x3 : Int32) : ∃ r bv' bd' bh' w', f_X9_round bv bd bh be bt br x1 x2 x3 = some (r, bv', bd', bh') ∧ f_X10_round w j x1 x2 x3 = some (r, w') ∧ zSt bv' bh' bt w' :=
  zo_change j h (fun y => f_X2_beginRound y x1 x2 x3) (fun w => f_X10_offers w j x1 x2 x3) (fun v w h => zo_offers j h _ _ _)
theorem an_takeUp {bv bd be bt br w : zV} {bh : zH} (j : zJ) (h : zSt bv bh bt w) (x1 x2 : Int32) : ∃ r bv' bd' bh' w', f_X9_takeUp bv bd bh be bt br x1 x2 = some (r, bv', bd', bh') ∧ f_X10_takeUp w j x1 x2 = some (r, w') ∧ zSt bv' bh' bt w' :=
  zo_change j h (fun y => f_X2_takeUpShares y x1 x2) (fun w => f_X10_takesUp w j x1 x2) (fun v w h => zo_takesUp j h _ _)
theorem an_close {bv bd be bt br w : zV} {bh : zH} (j : zJ) (h : zSt bv bh bt w) : ∃ r bv' bd' bh' w', f_X9_close bv bd bh be bt br  = some (r, bv', bd', bh') ∧ f_X10_close w j  = some (r, w') ∧ zSt bv' bh' bt w' :=
  zo_change j h (fun y => f_X2_closeRound y ) (fun w => f_X10_closes w j ) (fun v w h => zo_closes j h )
theorem an_pass {bv bd be bt br w : zV} {bh : zH} (j : zJ) (h : zSt bv bh bt w) (x1 : Int32) : ∃ r bv' bd' bh' w', f_X9_pass bv bd bh be bt br x1 = some (r, bv', bd', bh') ∧ f_X10_pass w j x1 = some (r, w') ∧ zSt bv' bh' bt w' :=
  zo_change j h (fun y => f_X2_passMonths y x1) (fun w => f_X10_passes w j x1) (fun v w h => zo_passes j h _)
theorem an_roundOf {bv bd be bt br w : zV} {bh : zH} (j : zJ) (h : zSt bv bh bt w) (x1 x2 : Int32) : ∃ r, f_X9_roundOf bv bd bh be bt br x1 x2 = some r ∧ f_X10_roundOf w j x1 x2 = some r := by
  obtain ⟨r, e1, e2⟩ := zo_roundOf j h.1 x1 x2
  exact ⟨r, by unfold f_X9_roundOf; rw [e1, zp_zb], e2⟩
theorem an_classOf {bv bd be bt br w : zV} {bh : zH} (j : zJ) (h : zSt bv bh bt w) (x1 x2 : Int32) : ∃ r, f_X9_classOf bv bd bh be bt br x1 x2 = some r ∧ f_X10_classOf w j x1 x2 = some r := by
  obtain ⟨r, e1, e2⟩ := zo_classOf j h.1 x1 x2
  exact ⟨r, by unfold f_X9_classOf; rw [e1, zp_zb], e2⟩
theorem an_certificateOf {bv bd be bt br w : zV} {bh : zH} (j : zJ) (h : zSt bv bh bt w) (x1 x2 : Int32) : ∃ r, f_X9_certificateOf bv bd bh be bt br x1 x2 = some r ∧ f_X10_certificateOf w j x1 x2 = some r := by
  obtain ⟨r, e1, e2⟩ := zo_certificateOf j h.1 x1 x2
  exact ⟨r, by unfold f_X9_certificateOf; rw [e1, zp_zb], e2⟩
theorem an_grantOf {bv bd be bt br w : zV} {bh : zH} (j : zJ) (h : zSt bv bh bt w) (x1 x2 : Int32) : ∃ r, f_X9_grantOf bv bd bh be bt br x1 x2 = some r ∧ f_X10_grantOf w j x1 x2 = some r := by
  obtain ⟨r, e1, e2⟩ := zo_grantOf j h.1 x1 x2
  exact ⟨r, by unfold f_X9_grantOf; rw [e1, zp_zb], e2⟩
theorem an_holderOf {bv bd be bt br w : zV} {bh : zH} (j : zJ) (h : zSt bv bh bt w) (x1 x2 : Int32) : ∃ r, f_X9_holderOf bv bd bh be bt br x1 x2 = some r ∧ f_X10_holderOf w j x1 x2 = some r := by
  obtain ⟨r, e1, e2⟩ := zo_holderOf j h.1 x1 x2
  exact ⟨r, by unfold f_X9_holderOf; rw [e1, zp_zb], e2⟩
theorem an_count {bv bd be bt br w : zV} {bh : zH} (j : zJ) (h : zSt bv bh bt w) (x1 : Int32) : ∃ r, f_X9_count bv bd bh be bt br x1 = some r ∧ f_X10_count w j x1 = some r := by
  obtain ⟨s1, ⟨n, -, a1, a2, -⟩, k, -, b1, b2, -⟩ := h
  exact zo_count j s1 (a2.trans a1.symm) (b2.trans b1.symm) x1
/-- the class's cells -/
abbrev zWX (tt : Nat → ClassId) (kx kv kd ke kt kr : Nat → Nat) (bv bd : zV) (bh : zH) (be bt br : zV) : va_W := zw_x9 kx kv kd ke kt kr ++ zw_co tt kv bv ++ zw_co tt kd bd ++ zw_hi tt kx bh ++ zw_ex tt ke be ++ zw_tx tt kt bt ++ zw_rh tt kr br
/-- what does not change while the law goes on -/
def zLw (p : Program) (s : State) (m : MethodId) (c : Code) (b L : Nat) (xs : Nat → Int32) (D : va_G) (tt : Nat → ClassId) (gs : zGs) : Prop := p.tables.exec = Jvm.exec ∧ c.code = cL_law ∧ c.maxLocals = 4 ∧ s.vm.findClass RL = some m.cls ∧ (∀ w ∈ wsL_law, w.before #[Value.ref b] s = true) ∧ va_X b L xs s s.heap ∧ b < s.heap.size ∧ zK D tt s ∧ zG gs (fun q : Nat => s.heap.size ≤ q) s s.heap
/-- behind a call -/
def zGo (p : Program) (l : Launch) (e : Env) (s : State) (m : MethodId) (below : List Frame) (meth : Method) (c : Code) (b : Nat) (D : va_G) (tt : Nat → ClassId) (kx kv kd ke kt kr kw : Nat → Nat) (ls : Array Slot) (Q : State → Prop) : Prop := ∀ (bv bd : zV) (bh : zH) (be bt br bw : zV) (bj : zJ) (H : Heap) (locs : List Loc), zSt bv bh bt bw → va_P D vwCl (zWX tt kx kv kd ke kt kr bv bd bh be bt br ++ zw_mo tt kw bw bj) H → va_D (fun q : Nat => s.heap.size ≤ q) (zWX tt kx kv kd ke kt kr bv bd bh be bt br ++ zw_mo tt kw bw bj) → va_S (fun q : Nat => s.heap.size ≤ q) s.heap H locs → W p l e room_1 s m #[Value.ref b] below meth c H locs 168 2957 Q (F0 m 977 ls [])
section ZLA
variable {p : Program} {l : Launch} {e : Env} {s : State} {m : MethodId} {below : List Frame} {meth : Method} {c : Code} {b L : Nat} {xs : Nat → Int32} {D : va_G} {tt : Nat → ClassId} {gs : zGs} {kx kv kd ke kt kr kw : Nat → Nat} {Q : State → Prop} {ls : Array Slot} {x3 : Int32} {bv bd be bt br bw : zV} {bh : zH} {bj : zJ} {H : Heap} {locs : List Loc}
theorem la_arg {cells slots : Nat} {rest : List Value} {qm qx : Nat} (hx : p.tables.exec = Jvm.exec) (hb : c.code = cL_law) (hX : va_X b L xs s s.heap) (hbl : b < s.heap.size) (hS : va_S (fun q : Nat => s.heap.size ≤ q) s.heap H locs) (hl : lv_has ls 4 [(3, .int x3), (2, .ref qm), (1, .ref qx), (0, .ref b)]) {pc k : Nat} {n : Int} (hin : vp_in (x3 + nI k) L) (hv : Int32.ofInt n = nI k) (d0 : decode cL_law pc = .ok (.aload_n 0, 1)) (d1 : decode cL_law (pc + 1) = .ok (.iload_n 3, 1)) (d2 : decode cL_law (pc + 1 + 1) = .ok (.iconst n, 1)) (d3 : decode cL_law (pc + 1 + 1 + 1) = .ok (.iadd, 1)) (d4 : decode cL_law (pc + 1 + 1 + 1 + 1) = .ok (.iaload, 1))
    (kk : W p l e room_1 s m #[Value.ref b] below meth c H locs cells slots Q (F0 m (pc + 1 + 1 + 1 + 1 + 1) ls (.int (xs (x3 + nI k).toNatClampNeg) :: rest))) : W p l e room_1 s m #[Value.ref b] below meth c H locs cells slots Q (F0 m pc ls rest) := by
  refine lv_aload_n hx hb d0 rfl (lv_at hl 3 rfl) ?_
  refine lv_iload_n hx hb d1 rfl (lv_at hl 0 rfl) ?_
  refine lv_iconst (v := nI k) hx hb d2 hv ?_
  refine lv_iadd hx hb d3 ?_
  exact va_sld hx hb hX hbl (Nat.not_le.mpr hbl) hS hin d4 kk
end ZLA
