/-! ===== the law: from its entry ===== -/
theorem zs_one (v : zV) (s : Nat → Int32) (h0 : v 0 0 = 1) (h1 : ∀ k, k ≠ 0 → v 0 k = 0) (h5 : v 5 0 = 1) (ha : ∀ a, a ≠ 0 → a ≠ 5 → ∀ k, v a k = 0) (s0 : s 0 = 1) (s32 : s 32 = 1) (so : ∀ k, k ≠ 0 → k ≠ 32 → s k = 0) : zR v s := by
  refine ⟨1, 0, 0, 0, ⟨by omega, by omega, by omega, by omega, by omega, h0, h1 6 (by omega), h1 1 (by omega), h1 7 (by omega), s0, so 1 (by omega) (by omega), so 2 (by omega) (by omega), so 3 (by omega) (by omega), ?_, ?_, ?_, ?_⟩, fun k hk => ?_, ⟨fun k hk => by omega, fun k _ h8 => so _ (by omega) (by omega)⟩, fun k hk => ?_, ⟨fun k hk => by omega, fun k _ h8 => so _ (by omega) (by omega)⟩, Or.inl ⟨h1 2 (by omega), so 8 (by omega) (by omega)⟩⟩
  · rw [so 4 (by omega) (by omega), h1 8 (by omega)]
  · rw [so 5 (by omega) (by omega), h1 9 (by omega)]
  · rw [so 6 (by omega) (by omega), h1 10 (by omega)]
  · rw [so 7 (by omega) (by omega), h1 11 (by omega)]
  · obtain rfl : k = 0 := by omega
    exact ⟨0, 0, 0, 0, 1, by omega, by omega, by omega, by omega, by omega, by omega, fun _ => ⟨rfl, rfl⟩, ha 1 (by omega) (by omega) _, ha 2 (by omega) (by omega) _, ha 3 (by omega) (by omega) _, ha 4 (by omega) (by omega) _, h5, so _ (by omega) (by omega), so _ (by omega) (by omega), so _ (by omega) (by omega), so _ (by omega) (by omega), s32⟩
  · refine Or.inl ⟨ha 8 (by omega) (by omega) _, so _ (by omega) (by omega), so _ (by omega) (by omega), so _ (by omega) (by omega), so _ (by omega) (by omega)⟩
theorem zs_start (g : Nat → Nat → Nat) : zSt zv0 (0, (fun _ => zv0), g) (fun _ _ => 0) zw0 := by
  refine ⟨zs_one _ _ rfl (fun k hk => ?_) rfl (fun a h1 h2 k => ?_) ?_ ?_ (fun k h1 h2 => ?_), ⟨0, by omega, rfl, rfl, fun i hi => by omega⟩, 0, by omega, rfl, rfl, fun k hk => by omega⟩
  · show (zu (zu (fun _ _ => (0 : Int32)) 0 (zu (fun _ => 0) 0 1)) 5 (upd (fun _ => 0) (0 : Int32).toNatClampNeg 1)) 0 k = 0
    exact (zu_ne hk : zu (fun _ => (0 : Int32)) 0 1 k = 0)
  · show (zu (zu (fun _ _ => (0 : Int32)) 0 (zu (fun _ => 0) 0 1)) 5 (upd (fun _ => 0) (0 : Int32).toNatClampNeg 1)) a k = 0
    rw [zu_ne h2, zu_ne h1]
  · show (upd (upd (fun _ => (0 : Int32)) (0 : Int32).toNatClampNeg 1) (32 : Int32).toNatClampNeg 1) 0 = 1
    rw [show (32 : Int32).toNatClampNeg = 32 by decide, zp_tn0, pk_un (by omega), pk_us]
  · show (upd (upd (fun _ => (0 : Int32)) (0 : Int32).toNatClampNeg 1) (32 : Int32).toNatClampNeg 1) 32 = 1
    rw [show (32 : Int32).toNatClampNeg = 32 by decide, pk_us]
  · show (upd (upd (fun _ => (0 : Int32)) (0 : Int32).toNatClampNeg 1) (32 : Int32).toNatClampNeg 1) k = 0
    rw [show (32 : Int32).toNatClampNeg = 32 by decide, zp_tn0, pk_un h2, pk_un h1]
set_option maxHeartbeats 4000000 in
set_option maxRecDepth 100000 in
theorem whole_start {p : Program} {e : Env} {s : State} {m : MethodId} {below : List Frame} {meth : Method} {c : Code} (l : Launch) (hflags : l.flags = flags0) {b L : Nat} {xs : Nat → Int32} (hL : L ≤ 3072) (C0 : lw_At p s m meth c b L xs) : W p l e room_1 s m #[Value.ref b] below meth c s.heap [] 0 0 (lw_Z below #[Value.ref b] s) (entryFrame m ([Value.ref b] : List Value).toArray 4) := by
  obtain ⟨hx, hb0, hr, hml, hown0, hts0, hX, hbl, hlocks, hgv⟩ := C0
  have hb : c.code = cL_law := hb0
  have hown : s.vm.findClass RL = some m.cls := hown0
  have htb : ∀ w ∈ tables_1, w.before #[Value.ref b] s = true := fun w hw => hts0 w (List.mem_append_right _ hw)
  have hts : ∀ w ∈ wsL_law, w.before #[Value.ref b] s = true := fun w hw => hts0 w (wsL_law_in w hw)
  obtain ⟨gs, hG⟩ := nw_G htb hgv
  obtain ⟨D, tt, hK⟩ := nw_K htb
  have hA : ∀ q : Nat, s.heap.size ≤ q → (fun q : Nat => s.heap.size ≤ q) q := fun _ h => h
  have hS : va_S (fun q : Nat => s.heap.size ≤ q) s.heap s.heap [] := va_S.rf
  have hP : va_P D vwCl [] s.heap := fun k q h => by simp at h
  have hD : va_D (fun q : Nat => s.heap.size ≤ q) [] := ⟨fun i j p q h => by simp at h, fun k q h => by simp at h⟩
  have hl := lv_entry ([.ref b]) (n := 4) (Nat.le_of_ble_eq_true rfl)
  rw [lg_entry_eq]
  generalize (lg_sl ([.ref b]) ++ List.replicate (4 - (lg_sl ([.ref b])).length) Slot.unset).toArray = ls at hl ⊢
  have hl : lv_has ls 4 [(0, .ref b)] := hl
  refine va_new (ci := 9) (fs := [.null, .null, .null, .null, .null, .null]) (C := RX9) (T := TX9) (N := 6) hx hb htb nt_u9 tyX9 tyX9_ok hown (htb (.classLink RL 7 RX9) (by decide +kernel)) (htb _ nt_n9) (htb _ nt_i3) hK.1 hP hD hS hA rfl (by intro j hj; match j, hj with | 0, _ => rfl | 1, _ => rfl | 2, _ => rfl | 3, _ => rfl | 4, _ => rfl | 5, _ => rfl | j + 6, hj => exact absurd hj (by omega)) (Nat.le_of_ble_eq_true rfl) (Nat.le_of_ble_eq_true rfl) dL_law_0 (fun q0 H hP hD hS => ?_)
  have hP : va_P D vwCl [(q0, .inr (9, [.null, .null, .null, .null, .null, .null]))] H := hP
  have hD : va_D (fun q : Nat => s.heap.size ≤ q) [(q0, .inr (9, [.null, .null, .null, .null, .null, .null]))] := hD
  refine W.widen (k := 1) (n := 6) (Nat.le_of_ble_eq_true rfl) (Nat.le_of_ble_eq_true rfl) ?_
  refine lv_dup hx hb dL_law_3 rfl ?_
  have hFc := z_free0 hD hS hA
  refine va_callv (va_runI (As := []) (rest := [.ref q0]) ⟨hx, hb, hml, hown, hts⟩ (c_X9_init l D tt q0 _) (cwI 0 hts gL_law_X9_init rfl rfl rfl (htb _ nt_i3) (htb (.methodLink RL 9 yX9_init) (by decide +kernel)) (htb (.instanceMethod yX9_init) (by decide +kernel)) rfl (by decide +kernel) ⟨Nat.le_of_ble_eq_true rfl, Nat.le_of_ble_eq_true rfl⟩) (z_preSm hK hP hD) rfl rfl hl.1 rfl (lv_room (Nat.le_of_ble_eq_true rfl)) dL_law_4 ⟨Nat.le_of_ble_eq_true rfl, Nat.le_of_ble_eq_true rfl⟩) hS (fun q _ h => hFc q h) hFc (fun u t H1 locs ht hvm hw hB hz1 hk1 hS => ?_)
  obtain ⟨kx, kv, kd, ke, kt, kr, g⟩ := u
  have hw : kx 0 = q0 := hw
  subst hw
  obtain ⟨hP1, hD1⟩ := hB
  rw [ht] at hP1
  clear ht hvm hz1
  have hP1 : va_P D vwCl (zWX tt kx kv kd ke kt kr zv0 zv0 (0, (fun _ => zv0), g) (fun _ _ => 0) (fun _ _ => 0) (fun _ _ => 0)) H1 := hP1
  have hD1 : va_D (va_A [(kx 0, .inr (9, [.null, .null, .null, .null, .null, .null]))] H.size) (zWX tt kx kv kd ke kt kr zv0 zv0 (0, (fun _ => zv0), g) (fun _ _ => 0) (fun _ _ => 0) (fun _ _ => 0)) := hD1
  have hP := hP1
  have hD := hD1.weaken (fun _ q _ h => hFc q.1 h)
  clear hP1 hD1 hk1 hFc
  refine W.widen (k := 158) (n := 1559) (Nat.le_of_ble_eq_true rfl) (Nat.le_of_ble_eq_true rfl) ?_
  refine lv_astore_n (lv' := [(1, .ref (kx 0)), (0, .ref b)]) hx hb dL_law_7 rfl hl (by decide) rfl (fun ls hl => ?_)
  refine va_new (ci := 10) (fs := [.null, .null, .null, .int 0, .null, .int 0, .null, .null, .null, .null, .int 0, .int 0, .int 0, .int 0, .null]) (C := RX10) (T := TX10) (N := 15) hx hb htb nt_u10 tyX10 tyX10_ok hown (htb (.classLink RL 10 RX10) (by decide +kernel)) (htb _ nt_n10) (htb (.initialized RX10) (by decide +kernel)) hK.1 hP hD hS hA rfl (by intro j hj; match j, hj with | 0, _ => rfl | 1, _ => rfl | 2, _ => rfl | 3, _ => rfl | 4, _ => rfl | 5, _ => rfl | 6, _ => rfl | 7, _ => rfl | 8, _ => rfl | 9, _ => rfl | 10, _ => rfl | 11, _ => rfl | 12, _ => rfl | 13, _ => rfl | 14, _ => rfl | j + 15, hj => exact absurd hj (by omega)) (Nat.le_of_ble_eq_true rfl) (Nat.le_of_ble_eq_true rfl) dL_law_8 (fun q1 H hP hD hS => ?_)
  refine W.widen (k := 159) (n := 1574) (Nat.le_of_ble_eq_true rfl) (Nat.le_of_ble_eq_true rfl) ?_
  refine lv_dup hx hb dL_law_11 rfl ?_
  have hPm := z_takeP (wc := [(q1, .inr (10, [.null, .null, .null, .int 0, .null, .int 0, .null, .null, .null, .null, .int 0, .int 0, .int 0, .int 0, .null]))]) (wr := zWX tt kx kv kd ke kt kr zv0 zv0 (0, (fun _ => zv0), g) (fun _ _ => 0) (fun _ _ => 0) (fun _ _ => 0)) List.perm_append_comm hP
  have hDm := z_takeD (wc := [(q1, .inr (10, [.null, .null, .null, .int 0, .null, .int 0, .null, .null, .null, .null, .int 0, .int 0, .int 0, .int 0, .null]))]) (wr := zWX tt kx kv kd ke kt kr zv0 zv0 (0, (fun _ => zv0), g) (fun _ _ => 0) (fun _ _ => 0) (fun _ _ => 0)) List.perm_append_comm hD
  have hFm := z_free0 hDm hS hA
  refine va_callv (va_runI (As := []) (rest := [.ref q1]) ⟨hx, hb, hml, hown, hts⟩ (c_X10_init l D tt q1 _) (cwI 0 hts gL_law_X10_init rfl rfl rfl (htb (.initialized RX10) (by decide +kernel)) (htb (.methodLink RL 12 yX10_init) (by decide +kernel)) (htb (.instanceMethod yX10_init) (by decide +kernel)) rfl (by decide +kernel) ⟨Nat.le_of_ble_eq_true rfl, Nat.le_of_ble_eq_true rfl⟩) (z_preSm hK hPm hDm) rfl rfl hl.1 rfl (lv_room (Nat.le_of_ble_eq_true rfl)) dL_law_12 ⟨Nat.le_of_ble_eq_true rfl, Nat.le_of_ble_eq_true rfl⟩) hS (fun q _ h => hFm q h) hFm (fun kw t H1 locs ht hvm hw hB hz1 hk1 hS => ?_)
  have hw : kw 0 = q1 := hw
  subst hw
  obtain ⟨hP1, hD1⟩ := hB
  rw [ht] at hP1
  clear ht hvm hz1
  obtain ⟨hP, hD⟩ := z_joinB (wc := [(kw 0, .inr (10, [.null, .null, .null, .int 0, .null, .int 0, .null, .null, .null, .null, .int 0, .int 0, .int 0, .int 0, .null]))]) (wr := zWX tt kx kv kd ke kt kr zv0 zv0 (0, (fun _ => zv0), g) (fun _ _ => 0) (fun _ _ => 0) (fun _ _ => 0)) (w1 := zw_mo tt kw zw0 (fun _ _ => 0)) (w2 := zWX tt kx kv kd ke kt kr zv0 zv0 (0, (fun _ => zv0), g) (fun _ _ => 0) (fun _ _ => 0) (fun _ _ => 0) ++ zw_mo tt kw zw0 (fun _ _ => 0)) List.perm_append_comm List.perm_append_comm hP hD hk1 hFm hP1 hD1
  refine W.widen (k := 168) (n := 2957) (Nat.le_of_ble_eq_true rfl) (Nat.le_of_ble_eq_true rfl) ?_
  refine lv_astore_n (lv' := [(2, .ref (kw 0)), (1, .ref (kx 0)), (0, .ref b)]) hx hb dL_law_15 rfl hl (by decide) rfl (fun ls hl => ?_)
  refine lv_iconst (v := 0) hx hb dL_law_16 (by decide) ?_
  refine lv_istore_n (lv' := [(3, .int 0), (2, .ref (kw 0)), (1, .ref (kx 0)), (0, .ref b)]) hx hb dL_law_17 rfl hl (by decide) rfl (fun ls hl => ?_)
  exact law_loop hL ⟨hx, hb, hml, hown, hts, hX, hbl, hK, hG⟩ hr hlocks (L + 1) 0 (by omega) (by omega) 0 rfl _ _ _ _ _ _ _ _ _ _ ls (zs_start g) hP hD hS hl

set_option maxHeartbeats 4000000 in
theorem lw_walk (l : Launch) (hflags : l.flags = flags0) (b : Addr) (xs : List Int32) : MetFree l x (headSpec (Jvm.Cond.code x code maxLocals ret :: tables_1) room_1) (lw_P b xs) (fun _ _ _ _ _ => True) lw_Q := by
  refine MetFree.of_bodyS (code := code) (maxLocals := maxLocals) (ret := ret) (by decide) ?_ ?_
  · intro args s m h hn
    obtain ⟨meth, c, h1, h2, h3, h4, h5, h6, -, -⟩ := Cond.code_spec hn (atoms_spec (ws := Jvm.Cond.code x code maxLocals ret :: tables_1) h _ List.mem_cons_self)
    exact ⟨meth, c, h1, h2, h3, h4, h5, h6⟩
  · intro p e s m args below meth c s₁ B hml0 hP _
    obtain ⟨rfl, hx, hbd, hgv⟩ := hP
    obtain ⟨scr, harrAt, hlist, hof, hsmall⟩ := hx
    obtain ⟨hcb, hkn, -, -⟩ := State.arrayAt?_spec harrAt
    have hown : s.vm.findClass R_law = some m.cls := findClass_of_methodNamed B.named
    have hts0 : ∀ c ∈ (Jvm.Cond.code x code maxLocals ret :: tables_1), c.before #[Value.ref b] s = true := atoms_spec (ws := Jvm.Cond.code x code maxLocals ret :: tables_1) B.pre
    have hts : ∀ w ∈ lw_tbl, w.before #[Value.ref b] s = true := k2_hts_sels lw_privs (fun w hw => hts0 w (List.mem_cons_of_mem _ hw)) lw_privs_ok
    have hml : c.maxLocals = 4 := B.maxLocals_eq (hts0 _ List.mem_cons_self)
    have X₀ : Stand p l e room_1 s m #[Value.ref b] below meth c s₁ [] 0 0 := Stand.of_body B
    have hh0 : s₁.heap = s.heap := by rw [B.state]; rfl
    have hsz : scr.slots.size = xs.length := by rw [← Array.length_toList, hlist, List.length_map]
    have hval : ∀ j : Nat, j < xs.length → scr.slots[j]? = some (.int (xs.getD j 0)) := fun j hj => by
      rw [← Array.getElem?_toList, hlist]
      simp [hj]
    have hbl : b < s.heap.size := (Array.getElem?_eq_some_iff.mp hcb).1
    have hX : va_X b xs.length (fun j => xs.getD j 0) s s.heap := ⟨scr, hcb, hof, hkn, hsz, hval⟩
    have K : W p l e room_1 s m #[Value.ref b] below meth c s₁.heap [] 0 0 (lw_Z below #[Value.ref b] s) (entryFrame m ([Value.ref b] : List Value).toArray 4) := by
      rw [hh0]
      exact whole_start l hflags hbd ⟨B.exec, B.bytes, B.returns, hml, hown, hts, hX, hbl, B.notSynchronized, hgv⟩
    obtain ⟨t, a1, o, b1, b2, b3⟩ := K s₁ rfl X₀
    exact ⟨t, o, a1, b1, b2, b3⟩
theorem lw_pre_spec {args : Array Value} {s : State} (h : (Jvm.Cond.and given_1 narrow_1).before args s = true) (hr : rest_1_c.before args s = true) : ∃ (b : Addr) (xs : List Int32), lw_P b xs args s := by
  have hs := flat_of_before _ h
  have hq := flat_of_before _ hr
  have hc : (Cond.count 1).before args s = true := hs _ (by decide +kernel)
  have harr : (Cond.arrayOf (.arg 0) .int).before args s = true := hs _ (by decide +kernel)
  have hle : (Cond.le (.length (.arg 0)) (.int 3072)).before args s = true := hs _ (by decide +kernel)
  have hlen : (Cond.isInt (.length (.arg 0))).before args s = true := hq _ (by decide +kernel)
  have hall : (Cond.all (.arg 0) (.isInt (.elem (.arg 0) (.index 0)))).before args s = true := hq _ (by decide +kernel)
  obtain ⟨b, xs, hb, hx⟩ := State.ints_of_pre rfl harr hlen hall
  have hsm : xs.length < 2 ^ 31 := hx.choose_spec.2.2.2
  have hev : (Term.length (.arg 0)).eval args s none [] s = some (.int xs.length.toInt32) := hx.length_eval hb
  have hv := Cond.le_ints hev (show (Term.int 3072).eval args s none [] s = some (.int 3072) from rfl)
  have hd : xs.length.toInt32 ≤ 3072 := by
    simpa [Cond.before, Cond.holds, hv] using hle
  have hN : xs.length ≤ 3072 := (Int32.ofNat_le_ofNat hsm (by decide)).mp (show Int32.ofNat xs.length ≤ Int32.ofNat 3072 from hd)
  exact ⟨b, xs, Cond.one_arg hc (show args[0]? = some (.ref b) from hb), hx, hN, h⟩
theorem lw_comes (l : Launch) (hflags : l.flags = flags0) : Comes l x (Jvm.Cond.code x code maxLocals ret :: tables_1) room_1 (fun tb e args s => Calls_1 tb e args s ∧ rest_1 tb e args s ∧ Pre_1 tb e args s)
    (fun _ _ args s o t => lw_Q args s o t) := by
  intro p e ha hc hk s m args below hf hfit hheap happ hpre
  obtain ⟨b, xs, hP⟩ := lw_pre_spec hpre.2.2 hpre.2.1
  obtain ⟨k, o, h1, h2, h3, hQ⟩ := lw_walk l hflags b xs p e ha hc hk s m args below hf ((Spec.applies_iff_loose hf).mp happ).1 hP trivial
  exact ⟨k, o, h1, h2, h3, hQ⟩
theorem lw_frame {s t : State} {o : Outcome} {args : Array Value} (h : Framed s o t [] 600000 7302250) :
    Framed s o t (fieldLocs frame_1_writes args s ++ arrayLocs frame_1_arrays args s ++ staticLocs frame_1_statics s) 600000 7302250 := h
theorem lw_limb (L : Cond) (hL : ∀ (args : Array Value) (s t : State), L.after args s (.returned (some (.int 1))) t = true) :
    ArmFor flags0 classFile x code maxLocals ret World_1 tables_1 room_1 Calls_1 rest_1 Pre_1
      (fun tb e a s o t => postC L tb e a s o t ∧ Framed s o t (fieldLocs frame_1_writes a s ++ arrayLocs frame_1_arrays a s ++ staticLocs frame_1_statics s) 600000 7302250) := by
  intro l hflags _ _ p e ha hc hk s m args below hf hfit hheap happ hpre
  obtain ⟨k, o, h1, h2, h3, rfl, hF⟩ := lw_comes l hflags p e ha hc hk s m args below hf hfit hheap happ hpre
  exact ⟨k, _, h1, h2, h3, hL args s _, lw_frame hF⟩
theorem i_vc : Claimed_1_1 ∧ Claimed_1_2 := ⟨lw_limb limb_1_1 (fun args s t => by simp [limb_1_1, Cond.after, Cond.holds, Cond.value]), lw_limb limb_1_2 (fun args s t => Cond.after_iff.mpr (by
  first | (rw [show limb_1_2 = Cond.eq .result (.int 1) from rfl, Cond.eq_ints (x := 1) (y := 1) rfl rfl]; simp; done) | (simp [limb_1_2, Cond.value, Term.eval]; done)))⟩

