/-! ===== the law: its loop ===== -/
theorem zn_sel (x : Int32) : 0 ≤ (x &&& 31).toInt ∧ (x &&& 31).toInt ≤ 31 := by
  have h1 : (x &&& 31).toBitVec.toNat ≤ 31 := by
    rw [Int32.toBitVec_and, BitVec.toNat_and]
    exact Nat.and_le_right
  have h2 : (x &&& 31).toInt = ((x &&& 31).toBitVec.toNat : Int) := by
    show (x &&& 31).toBitVec.toInt = _
    exact BitVec.toInt_eq_toNat_of_lt (by omega)
  omega

section ZLL
variable {p : Program} {l : Launch} {e : Env} {s : State} {m : MethodId} {below : List Frame} {meth : Method} {c : Code} {b L : Nat} {xs : Nat → Int32} {D : va_G} {tt : Nat → ClassId} {gs : zGs} {kx kv kd ke kt kr kw : Nat → Nat} {Q : State → Prop}
set_option maxHeartbeats 4000000 in
set_option maxRecDepth 100000 in
/-- one call of the script -/
theorem la_one {ls : Array Slot} {x3 : Int32} {bv bd be bt br bw : zV} {bh : zH} {bj : zJ} {H : Heap} {locs : List Loc} (hC : zLw p s m c b L xs D tt gs) (hst : zSt bv bh bt bw) (hP : va_P D vwCl (zWX tt kx kv kd ke kt kr bv bd bh be bt br ++ zw_mo tt kw bw bj) H) (hD : va_D (fun q : Nat => s.heap.size ≤ q) (zWX tt kx kv kd ke kt kr bv bd bh be bt br ++ zw_mo tt kw bw bj)) (hS : va_S (fun q : Nat => s.heap.size ≤ q) s.heap H locs) (hl : lv_has ls 4 [(3, .int x3), (2, .ref (kw 0)), (1, .ref (kx 0)), (0, .ref b)]) (hin : ∀ k, k < 6 → vp_in (x3 + nI k) L) (hgo : zGo p l e s m below meth c b D tt kx kv kd ke kt kr kw ls Q) (z : Int32) (hz1 : 0 ≤ z.toInt) (hz2 : z.toInt ≤ 31) : W p l e room_1 s m #[Value.ref b] below meth c H locs 168 2957 Q (F0 m 33 ls [.int z]) := by
  have hx := hC.1
  have hb := hC.2.1
  by_cases hk : z.toInt ≤ 26
  · rcases (show z.toInt = 0 ∨ z.toInt = 1 ∨ z.toInt = 2 ∨ z.toInt = 3 ∨ z.toInt = 4 ∨ z.toInt = 5 ∨ z.toInt = 6 ∨ z.toInt = 7 ∨ z.toInt = 8 ∨ z.toInt = 9 ∨ z.toInt = 10 ∨ z.toInt = 11 ∨ z.toInt = 12 ∨ z.toInt = 13 ∨ z.toInt = 14 ∨ z.toInt = 15 ∨ z.toInt = 16 ∨ z.toInt = 17 ∨ z.toInt = 18 ∨ z.toInt = 19 ∨ z.toInt = 20 ∨ z.toInt = 21 ∨ z.toInt = 22 ∨ z.toInt = 23 ∨ z.toInt = 24 ∨ z.toInt = 25 ∨ z.toInt = 26 by omega) with hz | hz | hz | hz | hz | hz | hz | hz | hz | hz | hz | hz | hz | hz | hz | hz | hz | hz | hz | hz | hz | hz | hz | hz | hz | hz | hz
    · exact lv_tableIn (off := 123) (tgt := 156) hx hb dL_law_33 (by omega) (by omega) (by rw [hz]; rfl) (by decide) (la_shareClass hC hst hP hD hS hl hin hgo)
    · exact lv_tableIn (off := 186) (tgt := 219) hx hb dL_law_33 (by omega) (by omega) (by rw [hz]; rfl) (by decide) (la_holder hC hst hP hD hS hl hin hgo)
    · exact lv_tableIn (off := 199) (tgt := 232) hx hb dL_law_33 (by omega) (by omega) (by rw [hz]; rfl) (by decide) (la_issue hC hst hP hD hS hl hin hgo)
    · exact lv_tableIn (off := 242) (tgt := 275) hx hb dL_law_33 (by omega) (by omega) (by rw [hz]; rfl) (by decide) (la_split hC hst hP hD hS hl hin hgo)
    · exact lv_tableIn (off := 285) (tgt := 318) hx hb dL_law_33 (by omega) (by omega) (by rw [hz]; rfl) (by decide) (la_buyBack hC hst hP hD hS hl hin hgo)
    · exact lv_tableIn (off := 318) (tgt := 351) hx hb dL_law_33 (by omega) (by omega) (by rw [hz]; rfl) (by decide) (la_grant hC hst hP hD hS hl hin hgo)
    · exact lv_tableIn (off := 381) (tgt := 414) hx hb dL_law_33 (by omega) (by omega) (by rw [hz]; rfl) (by decide) (la_take hC hst hP hD hS hl hin hgo)
    · exact lv_tableIn (off := 414) (tgt := 447) hx hb dL_law_33 (by omega) (by omega) (by rw [hz]; rfl) (by decide) (la_leave hC hst hP hD hS hl hin hgo)
    · exact lv_tableIn (off := 437) (tgt := 470) hx hb dL_law_33 (by omega) (by omega) (by rw [hz]; rfl) (by decide) (la_pass hC hst hP hD hS hl hin hgo)
    · exact lv_tableIn (off := 460) (tgt := 493) hx hb dL_law_33 (by omega) (by omega) (by rw [hz]; rfl) (by decide) (la_round hC hst hP hD hS hl hin hgo)
    · exact lv_tableIn (off := 503) (tgt := 536) hx hb dL_law_33 (by omega) (by omega) (by rw [hz]; rfl) (by decide) (la_takeUp hC hst hP hD hS hl hin hgo)
    · exact lv_tableIn (off := 536) (tgt := 569) hx hb dL_law_33 (by omega) (by omega) (by rw [hz]; rfl) (by decide) (la_close hC hst hP hD hS hl hin hgo)
    · exact lv_tableIn (off := 549) (tgt := 582) hx hb dL_law_33 (by omega) (by omega) (by rw [hz]; rfl) (by decide) (la_roundOf hC hst hP hD hS hl hin hgo)
    · exact lv_tableIn (off := 582) (tgt := 615) hx hb dL_law_33 (by omega) (by omega) (by rw [hz]; rfl) (by decide) (la_classOf hC hst hP hD hS hl hin hgo)
    · exact lv_tableIn (off := 615) (tgt := 648) hx hb dL_law_33 (by omega) (by omega) (by rw [hz]; rfl) (by decide) (la_certificateOf hC hst hP hD hS hl hin hgo)
    · exact lv_tableIn (off := 648) (tgt := 681) hx hb dL_law_33 (by omega) (by omega) (by rw [hz]; rfl) (by decide) (la_grantOf hC hst hP hD hS hl hin hgo)
    · exact lv_tableIn (off := 681) (tgt := 714) hx hb dL_law_33 (by omega) (by omega) (by rw [hz]; rfl) (by decide) (la_holderOf hC hst hP hD hS hl hin hgo)
    · exact lv_tableIn (off := 714) (tgt := 747) hx hb dL_law_33 (by omega) (by omega) (by rw [hz]; rfl) (by decide) (la_count hC hst hP hD hS hl hin hgo)
    · exact lv_tableIn (off := 737) (tgt := 770) hx hb dL_law_33 (by omega) (by omega) (by rw [hz]; rfl) (by decide) (la_converts hC hst hP hD hS hl hin hgo)
    · exact lv_tableIn (off := 760) (tgt := 793) hx hb dL_law_33 (by omega) (by omega) (by rw [hz]; rfl) (by decide) (la_classGets hC hst hP hD hS hl hin hgo)
    · exact lv_tableIn (off := 793) (tgt := 826) hx hb dL_law_33 (by omega) (by omega) (by rw [hz]; rfl) (by decide) (la_holderGets hC hst hP hD hS hl hin hgo)
    · exact lv_tableIn (off := 826) (tgt := 859) hx hb dL_law_33 (by omega) (by omega) (by rw [hz]; rfl) (by decide) (la_byGain hC hst hP hD hS hl hin hgo)
    · exact lv_tableIn (off := 859) (tgt := 892) hx hb dL_law_33 (by omega) (by omega) (by rw [hz]; rfl) (by decide) (la_undo hC hst hP hD hS hl hin hgo)
    · exact lv_tableIn (off := 872) (tgt := 905) hx hb dL_law_33 (by omega) (by omega) (by rw [hz]; rfl) (by decide) (la_type hC hst hP hD hS hl hin hgo)
    · exact lv_tableIn (off := 895) (tgt := 928) hx hb dL_law_33 (by omega) (by omega) (by rw [hz]; rfl) (by decide) (la_clearText hC hst hP hD hS hl hin hgo)
    · exact lv_tableIn (off := 908) (tgt := 941) hx hb dL_law_33 (by omega) (by omega) (by rw [hz]; rfl) (by decide) (la_fault hC hst hP hD hS hl hin hgo)
    · exact lv_tableIn (off := 931) (tgt := 964) hx hb dL_law_33 (by omega) (by omega) (by rw [hz]; rfl) (by decide) (la_play hC hst hP hD hS hl hin hgo)
  · exact lv_tableOut (tgt := 977) hx hb dL_law_33 (Or.inr (by omega)) (by decide) (hgo bv bd bh be bt br bw bj H locs hst hP hD hS)
end ZLL

/-! THE CLAIM OUT OF ONE WALK OF THE LAW'S BODY. Your part is whole_start (and what it stands on); all else here is the same for every law, but numbers. -/
def R_law : String := "CapStacksLaw"
def lw_P (b : Addr) (xs : List Int32) (args : Array Value) (s : State) : Prop := args = #[.ref b] ∧ s.IntsAt b xs ∧ xs.length ≤ 3072 ∧ (Jvm.Cond.and given_1 narrow_1).before args s = true
def lw_Q (_ : Array Value) (s : State) (o : Outcome) (t : State) : Prop := o = .returned (some (.int 1)) ∧ Framed s o t [] 600000 7302250
def lw_Z (below : List Frame) (a : Array Value) (s : State) : State → Prop := fun t => ∃ o, t.status = .running ∧ Ended t below o ∧ lw_Q a s o t
/-- the law's own end, with 1 on the stack, nothing written that was there before, its room as the claim has it -/
theorem lw_ret {p : Program} {l : Launch} {e : Env} {s : State} {m : MethodId} {below : List Frame} {meth : Method} {c : Code} {b : Nat} (hx : p.tables.exec = Jvm.exec) (hb : c.code = code) (hr : meth.sig.returnType = ret) (hlocks : meth.locks = false) {pc : Nat} {H : Heap} {ls : Array Slot} (hdg : decode code pc = .ok (.ireturn, 1)) : W p l e room_1 s m #[Value.ref b] below meth c H [] 600000 7302250 (lw_Z below #[Value.ref b] s) (F0 m pc ls [.int 1]) := by
  intro T hT X
  obtain ⟨fs, hret, hrun, hended, hW, hframe⟩ := X.leave (v := some (.int 1)) (hlocks := hlocks) (fun h => by rw [hr] at h; cases h)
  have hmeth' : T.vm.method? m = some meth := X.method'
  refine ⟨T.setFrames fs, ?_, .returned (some (.int 1)), hrun, hended, rfl, ⟨_, rfl⟩, hW, hframe⟩
  jvm_step X.here [X.here.top, hx, hb, hdg, hmeth', hr, ret, narrow_b1]
  (try refine ⟨rfl, ?_⟩); (try refine ⟨rfl, ?_⟩)
  first | (intro acts; rw [hret _ acts rfl rfl rfl]) | rw [hret _ _ rfl rfl rfl]
  exact Steps.refl _
/-- what holds at the law's entry: the machine, the code, the tables' words (any of lw_tbl by 'hts w (by decide +kernel)'), the script of L ints xs at the cell b, what the Statement gives of the start (any of its parts by flat_of_before) -/
def lw_At (p : Program) (s : State) (m : MethodId) (meth : Method) (c : Code) (b L : Nat) (xs : Nat → Int32) : Prop :=
  p.tables.exec = Jvm.exec ∧ c.code = code ∧ meth.sig.returnType = ret ∧ c.maxLocals = 4 ∧ s.vm.findClass R_law = some m.cls ∧ (∀ w ∈ lw_tbl, w.before #[Value.ref b] s = true) ∧ va_X b L xs s s.heap ∧ b < s.heap.size ∧ meth.locks = false ∧ (Jvm.Cond.and given_1 narrow_1).before #[Value.ref b] s = true

set_option maxHeartbeats 4000000 in
set_option maxRecDepth 100000 in
/-- the law's loop -/
theorem law_loop {p : Program} {l : Launch} {e : Env} {s : State} {m : MethodId} {below : List Frame} {meth : Method} {c : Code} {b L : Nat} {xs : Nat → Int32} {D : va_G} {tt : Nat → ClassId} {gs : zGs} {kx kv kd ke kt kr kw : Nat → Nat} (hL : L ≤ 3072) (hC : zLw p s m c b L xs D tt gs) (hr : meth.sig.returnType = ret) (hlocks : meth.locks = false) :
    ∀ (n i : Nat), i ≤ 3072 → L + 1 ≤ i + n → ∀ (x3 : Int32), x3 = nI i → ∀ (bv bd : zV) (bh : zH) (be bt br bw : zV) (bj : zJ) (H : Heap) (locs : List Loc) (ls : Array Slot), zSt bv bh bt bw → va_P D vwCl (zWX tt kx kv kd ke kt kr bv bd bh be bt br ++ zw_mo tt kw bw bj) H → va_D (fun q : Nat => s.heap.size ≤ q) (zWX tt kx kv kd ke kt kr bv bd bh be bt br ++ zw_mo tt kw bw bj) → va_S (fun q : Nat => s.heap.size ≤ q) s.heap H locs → lv_has ls 4 [(3, .int x3), (2, .ref (kw 0)), (1, .ref (kx 0)), (0, .ref b)] → W p l e room_1 s m #[Value.ref b] below meth c H locs 168 2957 (lw_Z below #[Value.ref b] s) (F0 m 18 ls []) := by
  obtain ⟨hx, hb, hml, hown, hts, hX, hbl, hK, hG⟩ := id hC
  have hbA : ¬ (fun q : Nat => s.heap.size ≤ q) b := Nat.not_le.mpr hbl
  intro n
  induction n with
  | zero =>
    intro i hi hin x3 ex bv bd bh be bt br bw bj H locs ls hst hP hD hS hl
    subst ex
    refine lv_iload_n hx hb dL_law_18 rfl (lv_at hl 0 rfl) ?_
    refine lv_aload_n hx hb dL_law_19 rfl (lv_at hl 3 rfl) ?_
    refine va_slen hx hb hX hbl hbA hS dL_law_20 ?_
    refine lv_bipush (v := 6) hx hb dL_law_21 (by decide) ?_
    refine lv_isub hx hb dL_law_23 ?_
    have hsub : (Int32.ofNat L - 6).toInt = (L : Int) - 6 := pk_sub_toInt (a := L) (b := 6) (by omega) (by omega)
    refine lv_icmp_gt (tgt := 983) hx hb dL_law_24 (by decide) (fun _ => ?_) (fun h => ?_)
    · refine lv_iconst (v := 1) hx hb dL_law_983 (by decide) ?_
      refine va_forget (fun q hq => hS.2.2 q hq) ?_
      refine W.widen (k := 600000) (n := 7302250) (Nat.le_of_ble_eq_true rfl) (Nat.le_of_ble_eq_true rfl) ?_
      exact lw_ret hx hb hr hlocks dL_law_984
    · exact absurd (Int32.lt_iff_toInt_lt.mpr (by rw [nI_toInt (by omega)]; exact (by rw [hsub]; omega))) h
  | succ n ih =>
    intro i hi hin x3 ex bv bd bh be bt br bw bj H locs ls hst hP hD hS hl
    subst ex
    refine lv_iload_n hx hb dL_law_18 rfl (lv_at hl 0 rfl) ?_
    refine lv_aload_n hx hb dL_law_19 rfl (lv_at hl 3 rfl) ?_
    refine va_slen hx hb hX hbl hbA hS dL_law_20 ?_
    refine lv_bipush (v := 6) hx hb dL_law_21 (by decide) ?_
    refine lv_isub hx hb dL_law_23 ?_
    have hsub : (Int32.ofNat L - 6).toInt = (L : Int) - 6 := pk_sub_toInt (a := L) (b := 6) (by omega) (by omega)
    refine lv_icmp_gt (tgt := 983) hx hb dL_law_24 (by decide) (fun _ => ?_) (fun h => ?_)
    · refine lv_iconst (v := 1) hx hb dL_law_983 (by decide) ?_
      refine va_forget (fun q hq => hS.2.2 q hq) ?_
      refine W.widen (k := 600000) (n := 7302250) (Nat.le_of_ble_eq_true rfl) (Nat.le_of_ble_eq_true rfl) ?_
      exact lw_ret hx hb hr hlocks dL_law_984
    · have hiL : i + 6 ≤ L := by
        rw [Int32.lt_iff_toInt_lt, nI_toInt (by omega)] at h
        have h2 : ¬ ((L : Int) - 6 < (i : Int)) := by rw [← hsub]; exact h
        omega
      have hidx : ∀ k, k < 6 → vp_in (nI i + nI k) L := fun k hk => by
        rw [nI_add]
        exact vp_in_nI (by omega) (by omega)
      have h0 : vp_in (nI i) L := vp_in_nI (by omega) (by omega)
      refine lv_aload_n hx hb dL_law_27 rfl (lv_at hl 3 rfl) ?_
      refine lv_iload_n hx hb dL_law_28 rfl (lv_at hl 0 rfl) ?_
      refine va_sld hx hb hX hbl hbA hS h0 dL_law_29 ?_
      refine lv_bipush (v := 31) hx hb dL_law_30 (by decide) ?_
      refine lv_iand hx hb dL_law_32 ?_
      have hsel := zn_sel (xs (nI i).toNatClampNeg)
      refine la_one hC hst hP hD hS hl hidx (fun bv bd bh be bt br bw bj H locs hst hP hD hS => ?_) _ hsel.1 hsel.2
      refine lv_iinc (v := nI (i + 6)) (lv' := [(3, .int (nI (i + 6))), (2, .ref (kw 0)), (1, .ref (kx 0)), (0, .ref b)]) hx hb dL_law_977 hl (k := 0) rfl (nI_add i 6) (by decide) rfl (fun ls hl => ?_)
      refine lv_goto (tgt := 18) hx hb dL_law_980 (by decide) ?_
      exact ih (i + 6) (by omega) (by omega) _ rfl bv bd bh be bt br bw bj H locs ls hst hP hD hS hl
