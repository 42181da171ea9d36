/-! ===== base: values, guards, worlds, calls ===== -/
abbrev zV : Type := Nat → Nat → Int32
abbrev zJ : Type := Nat → Nat → Int64
/-- the history: how many, what they are, where they lie -/
abbrev zH : Type := Int32 × (Nat → zV) × (Nat → Nat → Nat)
/-- one place of a function changed, at a written number -/
def zu {α : Type} (f : Nat → α) (k : Nat) (x : α) : Nat → α := fun j => bif Nat.beq j k then x else f j
/-- a part of a company taken from another -/
def zg_cl (u v : zV) : zV := fun a => bif Nat.beq a 0 then zu (v 0) 0 (u 0 0) else bif (Nat.ble 1 a && Nat.ble a 5) then u a else v a
def zg_ce (u v : zV) : zV := fun a => bif (Nat.ble 6 a && Nat.ble a 9) then u a else v a
def zg_gr (u v : zV) : zV := fun a => bif Nat.beq a 0 then zu (v 0) 1 (u 0 1) else bif (Nat.ble 10 a && Nat.ble a 16) then u a else v a
def zg_ro (u v : zV) : zV := fun a => bif Nat.beq a 0 then zu (zu (zu (zu (v 0) 2 (u 0 2)) 3 (u 0 3)) 4 (u 0 4)) 5 (u 0 5) else bif (Nat.ble 17 a && Nat.ble a 18) then u a else v a
def zb {α β : Type} (x : Option α) (k : α → Option β) : Option β := match x with
  | none => none
  | some a => k a
theorem zb_some {α β : Type} {x : Option α} {k : α → Option β} {out : β} (h : zb x k = some out) : ∃ a, x = some a ∧ k a = some out := by
  cases x with
  | none => cases h
  | some a => exact ⟨a, rfl, h⟩
/-- a place of a row: within its bounds -/
def zA {β : Type} (i : Int32) (n : Nat) (k : Option β) : Option β := if i < 0 ∨ n ≤ i.toNatClampNeg then none else k
theorem zA_some {β : Type} {i : Int32} {n : Nat} {k : Option β} {out : β} (h : zA i n k = some out) : vp_in i n ∧ k = some out := by
  unfold zA at h
  split at h
  · cases h
  · exact ⟨by assumption, h⟩
def zDi {β : Type} (y : Int32) (k : Option β) : Option β := if y = 0 then none else k
theorem zDi_some {β : Type} {y : Int32} {k : Option β} {out : β} (h : zDi y k = some out) : ¬ y = 0 ∧ k = some out := by
  unfold zDi at h
  split at h
  · cases h
  · exact ⟨by assumption, h⟩
def zDl {β : Type} (y : Int64) (k : Option β) : Option β := if y = 0 then none else k
theorem zDl_some {β : Type} {y : Int64} {k : Option β} {out : β} (h : zDl y k = some out) : ¬ y = 0 ∧ k = some out := by
  unfold zDl at h
  split at h
  · cases h
  · exact ⟨by assumption, h⟩
def zZ {β : Type} (x : Int32) (k : Option β) : Option β := if x = 0 ∨ x = 1 then k else none
theorem zZ_some {β : Type} {x : Int32} {k : Option β} {out : β} (h : zZ x k = some out) : (x = 0 ∨ x = 1) ∧ k = some out := by
  unfold zZ at h
  split at h
  · exact ⟨by assumption, h⟩
  · cases h
theorem zZ_n {x : Int32} (h : x = 0 ∨ x = 1) : narrow .boolean (.int x) = .int x := h.elim (fun e => by rw [e]; rfl) (fun e => by rw [e]; rfl)
theorem zZ_f {x : Int32} (h : x = 0 ∨ x = 1) : fits .boolean (.int x) = true := h.elim (fun e => by rw [e]; rfl) (fun e => by rw [e]; rfl)
theorem z_pos {c : Prop} {d : Decidable c} {α : Type} {a b r : α} (hc : c) (h : ite c a b = r) : a = r := (if_pos hc).symm.trans h
theorem z_neg {c : Prop} {d : Decidable c} {α : Type} {a b r : α} (hc : ¬ c) (h : ite c a b = r) : b = r := (if_neg hc).symm.trans h
theorem vp_in_lit (i : Int32) (n : Nat) (h : (decide (i < 0 ∨ n ≤ i.toNatClampNeg)) = false) : vp_in i n := of_decide_eq_false h
/-- the kinds of arrays -/
abbrev zT (tt : Nat → ClassId) : List (ClassId × FieldType) := [(tt 0, .int), (tt 1, .long), (tt 2, .char), (tt 3, .object "CapStacks$Company")]
def zNest : List (String × Nat × MethodName × String) := [("CapStacks", 9, ⟨"CapStacks$Company", "<init>", "()V"⟩, "CapStacks"), ("CapStacks$Company", 20, ⟨"CapStacks$Certificates", "<init>", "()V"⟩, "CapStacks"), ("CapStacks$Company", 27, ⟨"CapStacks$Grants", "<init>", "()V"⟩, "CapStacks"), ("CapStacks$Company", 34, ⟨"CapStacks$Round", "<init>", "()V"⟩, "CapStacks"), ("CapStacks$History", 17, ⟨"CapStacks$Company", "<init>", "()V"⟩, "CapStacks"), ("CapStacks", 28, ⟨"CapStacks$Exit", "<init>", "()V"⟩, "CapStacks"), ("CapStacks", 35, ⟨"CapStacks$Text", "<init>", "()V"⟩, "CapStacks"), ("CapStacks", 42, ⟨"CapStacks$Rehearsal", "<init>", "()V"⟩, "CapStacks"), ("CapStacks$Classes", 31, ⟨"CapStacks", "copyRow", "([I[I)V"⟩, "CapStacks"), ("CapStacks$Certificates", 24, ⟨"CapStacks", "copyRow", "([I[I)V"⟩, "CapStacks"), ("CapStacks$Grants", 37, ⟨"CapStacks", "copyRow", "([I[I)V"⟩, "CapStacks"), ("CapStacks$Round", 32, ⟨"CapStacks", "copyRow", "([I[I)V"⟩, "CapStacks"), ("CapStacks$Company", 60, ⟨"CapStacks", "copyRow", "([I[I)V"⟩, "CapStacks"), ("CapStacks$Company", 82, ⟨"CapStacks", "within", "(III)Z"⟩, "CapStacks"), ("CapStacks$Certificates", 28, ⟨"CapStacks", "within", "(III)Z"⟩, "CapStacks"), ("CapStacks$Company", 172, ⟨"CapStacks", "portion", "(III)I"⟩, "CapStacks"), ("CapStacks$Exit", 84, ⟨"CapStacks", "contains", "(II)Z"⟩, "CapStacks"), ("CapStacks$Exit", 61, ⟨"CapStacks", "portion", "(III)I"⟩, "CapStacks"), ("CapStacks$Text", 19, ⟨"CapStacks", "within", "(III)Z"⟩, "CapStacks")]
def zK (D : va_G) (tt : Nat → ClassId) (U : State) : Prop := va_K D vwCl (zT tt) U ∧ (∀ q ∈ zNest, va_Nw (.methodLinkNest q.1 q.2.1 q.2.2.1 q.2.2.2) U) ∧ va_AO "CapStacks$Company" U
theorem zK.warm {D : va_G} {tt : Nat → ClassId} {s U : State} (hW : s.WarmedH U.vm) (h : zK D tt s) : zK D tt U := ⟨va_K.moved hW.alike h.1, fun q hq => va_Nw.warmM hW (h.2.1 q hq), va_AO.moved hW.alike h.2.2⟩
theorem zK.same {D : va_G} {tt : Nat → ClassId} {u U : State} (hv : u.vm = U.vm) (h : zK D tt u) : zK D tt U := ⟨va_K.moved (by rw [← hv]; exact Vm.Alike.refl u.vm) h.1, fun q hq => va_Nw.same rfl hv (h.2.1 q hq), va_AO.moved (by rw [← hv]; exact Vm.Alike.refl u.vm) h.2.2⟩
/-- the start of a method that only reads -/
def zPr (av : List Value) (D : va_G) (tt : Nat → ClassId) (ws : va_W) : Array Value → State → Prop := va_Pc av (fun U => va_P D vwCl ws U.heap ∧ zK D tt U)
theorem zPr_blind {av : List Value} {D : va_G} {tt : Nat → ClassId} {ws : va_W} : FrameBlind (zPr av D tt ws) := fun _ _ _ _ q => ⟨q.1, q.2.1, zK.same rfl q.2.2⟩
/-- the start of a method that writes -/
def zPm (av : List Value) (D : va_G) (tt : Nat → ClassId) (ws : va_W) (sz : Nat) : Array Value → State → Prop := va_Pc av (fun U => U.heap.size = sz ∧ va_P D vwCl ws U.heap ∧ zK D tt U ∧ va_D (fun _ => True) ws)
theorem zPm_blind {av : List Value} {D : va_G} {tt : Nat → ClassId} {ws : va_W} {sz : Nat} : FrameBlind (zPm av D tt ws sz) := fun _ _ _ _ q => ⟨q.1, q.2.1, q.2.2.1, zK.same rfl q.2.2.2.1, q.2.2.2.2⟩
/-- the ends of a method that only reads -/
def zQr (ty : FieldType) (r : Int32) : Array Value → State → Outcome → State → Prop := fun _ st oc t => oc = .returned (some (.int r)) ∧ narrow ty (.int r) = .int r ∧ t.heap = st.heap
def zQl (r : Int64) : Array Value → State → Outcome → State → Prop := fun _ st oc t => oc = .returned (some (.long r)) ∧ t.heap = st.heap
/-- the ends of a method that writes -/
def zMi (ty : FieldType) (r : Int32) (D : va_G) (ws : va_W) (A : Nat → Prop) : Array Value → State → Outcome → State → Prop := va_Qi (fun (r' : Int32) (_ : Unit) => r' = r ∧ narrow ty (.int r) = .int r) (fun _ t => va_P D vwCl ws t.heap ∧ va_D A ws) A
def zMl (r : Int64) (D : va_G) (ws : va_W) (A : Nat → Prop) : Array Value → State → Outcome → State → Prop := va_Ql (fun (r' : Int64) (_ : Unit) => r' = r) (fun _ t => va_P D vwCl ws t.heap ∧ va_D A ws) A
def zMv (D : va_G) (ws : va_W) (A : Nat → Prop) : Array Value → State → Outcome → State → Prop := va_Qv (fun (_ : Unit) => True) (fun _ t => va_P D vwCl ws t.heap ∧ va_D A ws) A
def zMr (q : Nat) (D : va_G) (ws : va_W) (A : Nat → Prop) : Array Value → State → Outcome → State → Prop := va_Qr (fun (_ : Unit) => True) (fun _ a t => a = q ∧ va_P D vwCl ws t.heap ∧ va_D A ws) A
theorem z_preVr {s : State} {H : Heap} {D : va_G} {tt : Nat → ClassId} {ws : va_W} {b : Nat} {q : vw_C} {As : List Value} {ci q0 : Nat} {fs : List Value} (hK : zK D tt s) (hP : va_P D vwCl ws H) (hc : vwCl[ci]? = some q) (he : ws[q0]? = some (b, .inr (ci, fs))) : PreV s H q.1 b (zPr (.ref b :: As) D tt ws) As :=
  ⟨zPr_blind, va_recv hK.1 hP hc he, fun U hU hW => ⟨rfl, by rw [hU]; exact hP, zK.warm hW hK⟩⟩
theorem z_preSr {s : State} {H : Heap} {D : va_G} {tt : Nat → ClassId} {ws : va_W} {As : List Value} (hK : zK D tt s) (hP : va_P D vwCl ws H) : PreS s H (zPr As D tt ws) As :=
  ⟨zPr_blind, fun U hU hW => ⟨rfl, by rw [hU]; exact hP, zK.warm hW hK⟩⟩
theorem z_preVm {A : Nat → Prop} {s : State} {H : Heap} {D : va_G} {tt : Nat → ClassId} {ws : va_W} {b : Nat} {q : vw_C} {As : List Value} {ci q0 : Nat} {fs : List Value} (hK : zK D tt s) (hP : va_P D vwCl ws H) (hD : va_D A ws) (hc : vwCl[ci]? = some q) (he : ws[q0]? = some (b, .inr (ci, fs))) : PreV s H q.1 b (zPm (.ref b :: As) D tt ws H.size) As :=
  ⟨zPm_blind, va_recv hK.1 hP hc he, fun U hU hW => ⟨rfl, by rw [hU], by rw [hU]; exact hP, zK.warm hW hK, hD.weaken (fun _ _ _ _ => trivial)⟩⟩
theorem z_preSm {A : Nat → Prop} {s : State} {H : Heap} {D : va_G} {tt : Nat → ClassId} {ws : va_W} {As : List Value} (hK : zK D tt s) (hP : va_P D vwCl ws H) (hD : va_D A ws) : PreS s H (zPm As D tt ws H.size) As :=
  ⟨zPm_blind, fun U hU hW => ⟨rfl, by rw [hU], by rw [hU]; exact hP, zK.warm hW hK, hD.weaken (fun _ _ _ _ => trivial)⟩⟩
theorem z_free0 {A0 : Nat → Prop} {ws : va_W} {H0 H : Heap} {locs : List Loc} (hD : va_D A0 ws) (hS : va_S A0 H0 H locs) (hA : ∀ q, H0.size ≤ q → A0 q) : ∀ q, va_A ws H.size q → A0 q := by
  intro q h
  rcases h with ⟨k, e, h⟩ | h
  · exact hD.2 k (q, e) h
  · exact hA q (Nat.le_trans hS.1 h)
theorem z_join {A0 : Nat → Prop} {D : va_G} {cl : List vw_C} {ws wc w1 w2 : va_W} {H H1 : Heap} (hP : va_P D cl ws H) (hD : va_D A0 ws) (isC isR pm : List Nat) (hC : isC.map (fun i => ws[i]?) = wc.map some) (hR : isR.map (fun i => ws[i]?) = (isR.filterMap (fun i => ws[i]?)).map some) (hn : va_nd isR = true) (hdis : ∀ i ∈ isR, i ∉ isC)
    (hk : ∀ q : Nat, q < H.size → ¬ va_A wc H.size q → H1[q]? = H[q]?) (hF : ∀ q, va_A wc H.size q → A0 q) (hP1 : va_P D cl w1 H1) (hD1 : va_D (va_A wc H.size) w1) (hnp : va_nd pm = true) (hp : pm.map (fun i => ((isR.filterMap (fun i => ws[i]?)) ++ w1)[i]?) = w2.map some) : va_P D cl w2 H1 ∧ va_D A0 w2 := by
  obtain ⟨h1, h2⟩ := va_join hP hD isC isR hC hR hn hdis hk hF hP1 hD1
  refine ⟨fun k q hq => ?_, h2.sub pm hnp hp⟩
  have h3 : (pm.map (fun i => ((isR.filterMap (fun i => ws[i]?)) ++ w1)[i]?))[k]? = some (some q) := by rw [hp, List.getElem?_map, hq]; rfl
  rw [List.getElem?_map] at h3
  cases hi : pm[k]? with
  | none => rw [hi] at h3; cases h3
  | some i => rw [hi] at h3; exact h1 i q (Option.some.inj h3)
theorem z_P_iff {D : va_G} {cl : List vw_C} {ws : va_W} {H : Heap} : va_P D cl ws H ↔ ∀ q ∈ ws, va_at D cl q H := by
  constructor
  · intro h q hq
    obtain ⟨k, hk⟩ := List.mem_iff_getElem?.mp hq
    exact h k q hk
  · intro h k q hk
    exact h q (List.mem_of_getElem? hk)
theorem z_D_iff {A : Nat → Prop} {ws : va_W} : va_D A ws ↔ (ws.map Prod.fst).Nodup ∧ ∀ q ∈ ws, A q.1 := by
  constructor
  · intro h
    refine ⟨?_, fun q hq => ?_⟩
    · unfold List.Nodup
      rw [List.pairwise_iff_getElem]
      intro i j hi hj hij e
      have hi' : i < ws.length := by simpa using hi
      have hj' : j < ws.length := by simpa using hj
      have h1 := h.1 i j ws[i] ws[j] (List.getElem?_eq_getElem hi') (List.getElem?_eq_getElem hj') (by simpa using e)
      omega
    · obtain ⟨k, hk⟩ := List.mem_iff_getElem?.mp hq
      exact h.2 k q hk
  · intro h
    refine ⟨fun i j p q hp hq e => ?_, fun k q hk => h.2 q (List.mem_of_getElem? hk)⟩
    obtain ⟨hi, hp⟩ := List.getElem?_eq_some_iff.mp hp
    obtain ⟨hj, hq⟩ := List.getElem?_eq_some_iff.mp hq
    have h1 := h.1
    unfold List.Nodup at h1
    rw [List.pairwise_iff_getElem] at h1
    rcases Nat.lt_trichotomy i j with c | c | c
    · exact (h1 i j (by simpa using hi) (by simpa using hj) c (by simp only [List.getElem_map]; rw [hp, hq]; exact e)).elim
    · exact c
    · exact (h1 j i (by simpa using hj) (by simpa using hi) c (by simp only [List.getElem_map]; rw [hp, hq]; exact e.symm)).elim
theorem z_pm {α : Type} {a b : List α} (h : ∀ (i : DecidableEq α) (x : α), List.count x a = List.count x b) : List.Perm a b := by
  classical exact List.perm_iff_count.mpr (fun x => h _ x)
theorem z_takeP {D : va_G} {cl : List vw_C} {ws wc wr : va_W} {H : Heap} (hp : List.Perm ws (wc ++ wr)) (h : va_P D cl ws H) : va_P D cl wc H := z_P_iff.mpr (fun q hq => z_P_iff.mp h q (hp.mem_iff.mpr (List.mem_append_left _ hq)))
theorem z_takeD {A : Nat → Prop} {ws wc wr : va_W} (hp : List.Perm ws (wc ++ wr)) (h : va_D A ws) : va_D A wc := by
  obtain ⟨h1, h2⟩ := z_D_iff.mp h
  have h3 := (hp.map Prod.fst).nodup_iff.mp h1
  rw [List.map_append] at h3
  exact z_D_iff.mpr ⟨(List.nodup_append.mp h3).1, fun q hq => h2 q (hp.mem_iff.mpr (List.mem_append_left _ hq))⟩
theorem z_joinB {A0 : Nat → Prop} {D : va_G} {cl : List vw_C} {ws wc wr w1 w2 : va_W} {H H1 : Heap} (hp : List.Perm ws (wc ++ wr)) (hp2 : List.Perm w2 (w1 ++ wr)) (hP : va_P D cl ws H) (hD : va_D A0 ws)
    (hk : ∀ q : Nat, q < H.size → ¬ va_A wc H.size q → H1[q]? = H[q]?) (hF : ∀ q, va_A wc H.size q → A0 q) (hP1 : va_P D cl w1 H1) (hD1 : va_D (va_A wc H.size) w1) : va_P D cl w2 H1 ∧ va_D A0 w2 := by
  obtain ⟨d1, d2⟩ := z_D_iff.mp hD
  have d3 := (hp.map Prod.fst).nodup_iff.mp d1
  rw [List.map_append] at d3
  obtain ⟨-, d5, d6⟩ := List.nodup_append.mp d3
  obtain ⟨e1, e2⟩ := z_D_iff.mp hD1
  have apart : ∀ q ∈ wr, q.1 < H.size ∧ ¬ va_A wc H.size q.1 := by
    intro q hq
    have hl := (z_P_iff.mp hP q (hp.mem_iff.mpr (List.mem_append_right _ hq))).lt
    refine ⟨hl, fun h => ?_⟩
    rcases h with ⟨k, e, h⟩ | h
    · exact d6 q.1 (List.mem_map.mpr ⟨(q.1, e), List.mem_of_getElem? h, rfl⟩) q.1 (List.mem_map.mpr ⟨q, hq, rfl⟩) rfl
    · omega
  refine ⟨z_P_iff.mpr (fun q hq => ?_), z_D_iff.mpr ⟨(hp2.map Prod.fst).nodup_iff.mpr ?_, fun q hq => ?_⟩⟩
  · rcases List.mem_append.mp (hp2.mem_iff.mp hq) with h | h
    · exact z_P_iff.mp hP1 q h
    · obtain ⟨g1, g2⟩ := apart q h
      exact (z_P_iff.mp hP q (hp.mem_iff.mpr (List.mem_append_right _ h))).kept (hk q.1 g1 g2)
  · rw [List.map_append]
    refine List.nodup_append.mpr ⟨e1, d5, fun x hx y hy exy => ?_⟩
    obtain ⟨p, hp', rfl⟩ := List.mem_map.mp hx
    obtain ⟨q, hq', rfl⟩ := List.mem_map.mp hy
    exact (apart q hq').2 (exy ▸ e2 p hp')
  · rcases List.mem_append.mp (hp2.mem_iff.mp hq) with h | h
    · exact hF q.1 (e2 q h)
    · exact d2 q (hp.mem_iff.mpr (List.mem_append_right _ h))
section ZC
variable {p : Program} {l : Launch} {e : Env} {R : Room} {s : State} {m : MethodId} {args : Array Value} {below : List Frame} {meth : Method} {c : Code} {H : Heap} {locs : List Loc} {cells slots : Nat} {Q : State → Prop}
variable {pc : Nat} {ls : Array Slot} {rest st0 : List Value} {a : Array Value} {A0 : Nat → Prop} {H0 : Heap}
theorem z_callr {ty : FieldType} {r : Int32} (hr : va_Run p l e R s m args below meth c H locs cells slots 0 0 (F0 m pc ls st0) rest (zQr ty r a) (fun _ => False))
    (kk : narrow ty (.int r) = .int r → W p l e R s m args below meth c H locs cells slots Q (F0 m (pc + 3) ls (.int r :: rest))) : W p l e R s m args below meth c H locs cells slots Q (F0 m pc ls st0) := by
  intro T hT X
  obtain ⟨v, st₀, t, T', L, h0, X', hL, e1, -, ⟨hv, hn, hh⟩, st⟩ := hr T hT X
  cases hv
  obtain ⟨t2, a1, b1⟩ := kk hn T' (by rw [e1, hh, h0]) (Stand.forget X' (fun q h => (hL q h).elim))
  exact ⟨t2, st t2 a1, b1⟩
theorem z_callrl {r : Int64} (hr : va_Run p l e R s m args below meth c H locs cells slots 0 0 (F0 m pc ls st0) rest (zQl r a) (fun _ => False))
    (kk : W p l e R s m args below meth c H locs cells slots Q (F0 m (pc + 3) ls (.long r :: rest))) : W p l e R s m args below meth c H locs cells slots Q (F0 m pc ls st0) := by
  intro T hT X
  obtain ⟨v, st₀, t, T', L, h0, X', hL, e1, -, ⟨hv, hh⟩, st⟩ := hr T hT X
  cases hv
  obtain ⟨t2, a1, b1⟩ := kk T' (by rw [e1, hh, h0]) (Stand.forget X' (fun q h => (hL q h).elim))
  exact ⟨t2, st t2 a1, b1⟩
theorem z_callmi {ty : FieldType} {r : Int32} {D : va_G} {wc w1 : va_W} (hr : va_Run p l e R s m args below meth c H locs cells slots 0 0 (F0 m pc ls st0) rest (zMi ty r D w1 (va_A wc H.size) a) (va_A wc H.size)) (hS : va_S A0 H0 H locs) (hF : ∀ q, va_A wc H.size q → A0 q)
    (kk : ∀ (H1 : Heap) (locs1 : List Loc), narrow ty (.int r) = .int r → va_P D vwCl w1 H1 → va_D (va_A wc H.size) w1 → (∀ q : Nat, q < H.size → ¬ va_A wc H.size q → H1[q]? = H[q]?) → va_S A0 H0 H1 locs1 → W p l e R s m args below meth c H1 locs1 cells slots Q (F0 m (pc + 3) ls (.int r :: rest))) : W p l e R s m args below meth c H locs cells slots Q (F0 m pc ls st0) := by
  refine va_calli hr hS (fun q _ h => hF q h) hF (fun r' u t H1 locs1 ht _ hw hB _ hk hS1 => ?_)
  obtain ⟨rfl, hn⟩ := hw
  exact kk H1 locs1 hn (by rw [← ht]; exact hB.1) hB.2 hk hS1
theorem z_callml {r : Int64} {D : va_G} {wc w1 : va_W} (hr : va_Run p l e R s m args below meth c H locs cells slots 0 0 (F0 m pc ls st0) rest (zMl r D w1 (va_A wc H.size) a) (va_A wc H.size)) (hS : va_S A0 H0 H locs) (hF : ∀ q, va_A wc H.size q → A0 q)
    (kk : ∀ (H1 : Heap) (locs1 : List Loc), va_P D vwCl w1 H1 → va_D (va_A wc H.size) w1 → (∀ q : Nat, q < H.size → ¬ va_A wc H.size q → H1[q]? = H[q]?) → va_S A0 H0 H1 locs1 → W p l e R s m args below meth c H1 locs1 cells slots Q (F0 m (pc + 3) ls (.long r :: rest))) : W p l e R s m args below meth c H locs cells slots Q (F0 m pc ls st0) := by
  refine va_calll hr hS (fun q _ h => hF q h) hF (fun r' u t H1 locs1 ht _ hw hB _ hk hS1 => ?_)
  subst hw
  exact kk H1 locs1 (by rw [← ht]; exact hB.1) hB.2 hk hS1
theorem z_callmv {D : va_G} {wc w1 : va_W} (hr : va_Run p l e R s m args below meth c H locs cells slots 0 0 (F0 m pc ls st0) rest (zMv D w1 (va_A wc H.size) a) (va_A wc H.size)) (hS : va_S A0 H0 H locs) (hF : ∀ q, va_A wc H.size q → A0 q)
    (kk : ∀ (H1 : Heap) (locs1 : List Loc), va_P D vwCl w1 H1 → va_D (va_A wc H.size) w1 → (∀ q : Nat, q < H.size → ¬ va_A wc H.size q → H1[q]? = H[q]?) → va_S A0 H0 H1 locs1 → W p l e R s m args below meth c H1 locs1 cells slots Q (F0 m (pc + 3) ls rest)) : W p l e R s m args below meth c H locs cells slots Q (F0 m pc ls st0) := by
  refine va_callv hr hS (fun q _ h => hF q h) hF (fun u t H1 locs1 ht _ hw hB _ hk hS1 => ?_)
  exact kk H1 locs1 (by rw [← ht]; exact hB.1) hB.2 hk hS1
theorem z_callmr {q : Nat} {D : va_G} {wc w1 : va_W} (hr : va_Run p l e R s m args below meth c H locs cells slots 0 0 (F0 m pc ls st0) rest (zMr q D w1 (va_A wc H.size) a) (va_A wc H.size)) (hS : va_S A0 H0 H locs) (hF : ∀ q, va_A wc H.size q → A0 q)
    (kk : ∀ (H1 : Heap) (locs1 : List Loc), va_P D vwCl w1 H1 → va_D (va_A wc H.size) w1 → (∀ q : Nat, q < H.size → ¬ va_A wc H.size q → H1[q]? = H[q]?) → va_S A0 H0 H1 locs1 → W p l e R s m args below meth c H1 locs1 cells slots Q (F0 m (pc + 3) ls (.ref q :: rest))) : W p l e R s m args below meth c H locs cells slots Q (F0 m pc ls st0) := by
  refine va_callr hr hS (fun q _ h => hF q h) hF (fun u ra t H1 locs1 ht _ hw hB _ hk hS1 => ?_)
  obtain ⟨rfl, hB⟩ := hB
  exact kk H1 locs1 (by rw [← ht]; exact hB.1) hB.2 hk hS1
end ZC

def zw_cl (tt : Nat → ClassId) (kv : Nat → Nat) (bv : zV) : va_W := [(kv 1, .inr (1, [.int (bv 0 0), .ref (kv 5), .ref (kv 6), .ref (kv 7), .ref (kv 8), .ref (kv 9)])), (kv 5, .inl (tt 0, 5, .inl (bv 1))), (kv 6, .inl (tt 0, 5, .inl (bv 2))), (kv 7, .inl (tt 0, 5, .inl (bv 3))), (kv 8, .inl (tt 0, 5, .inl (bv 4))), (kv 9, .inl (tt 0, 5, .inl (bv 5)))]
def zw_ce (tt : Nat → ClassId) (kv : Nat → Nat) (bv : zV) : va_W := [(kv 2, .inr (0, [.ref (kv 10), .ref (kv 11), .ref (kv 12), .ref (kv 13)])), (kv 10, .inl (tt 0, 24, .inl (bv 6))), (kv 11, .inl (tt 0, 24, .inl (bv 7))), (kv 12, .inl (tt 0, 24, .inl (bv 8))), (kv 13, .inl (tt 0, 24, .inl (bv 9)))]
def zw_gr (tt : Nat → ClassId) (kv : Nat → Nat) (bv : zV) : va_W := [(kv 3, .inr (4, [.int (bv 0 1), .ref (kv 14), .ref (kv 15), .ref (kv 16), .ref (kv 17), .ref (kv 18), .ref (kv 19), .ref (kv 20)])), (kv 14, .inl (tt 0, 8, .inl (bv 10))), (kv 15, .inl (tt 0, 8, .inl (bv 11))), (kv 16, .inl (tt 0, 8, .inl (bv 12))), (kv 17, .inl (tt 0, 8, .inl (bv 13))), (kv 18, .inl (tt 0, 8, .inl (bv 14))), (kv 19, .inl (tt 0, 8, .inl (bv 15))), (kv 20, .inl (tt 0, 8, .inl (bv 16)))]
def zw_ro (tt : Nat → ClassId) (kv : Nat → Nat) (bv : zV) : va_W := [(kv 4, .inr (7, [.int (bv 0 2), .int (bv 0 3), .int (bv 0 4), .int (bv 0 5), .ref (kv 21), .ref (kv 22)])), (kv 21, .inl (tt 0, 8, .inl (bv 17))), (kv 22, .inl (tt 0, 8, .inl (bv 18)))]
def zw_c0 (tt : Nat → ClassId) (kv : Nat → Nat) (bv : zV) : va_W := [(kv 0, .inr (2, [.ref (kv 1), .ref (kv 2), .ref (kv 3), .ref (kv 4), .int (bv 0 6), .ref (kv 23), .int (bv 0 7), .int (bv 0 8), .int (bv 0 9), .int (bv 0 10), .int (bv 0 11)]))]
def zw_la (tt : Nat → ClassId) (kv : Nat → Nat) (bv : zV) : va_W := [(kv 23, .inl (tt 0, 8, .inl (bv 19)))]
def zw_co (tt : Nat → ClassId) (kv : Nat → Nat) (bv : zV) : va_W := zw_c0 tt kv bv ++ (zw_cl tt kv bv ++ (zw_ce tt kv bv ++ (zw_gr tt kv bv ++ (zw_ro tt kv bv ++ zw_la tt kv bv))))
def zw_hi (tt : Nat → ClassId) (kx : Nat → Nat) (bh : zH) : va_W := [(kx 1, .inr (5, [.int bh.1, .ref (kx 2)])), (kx 2, .inl (tt 3, 4, .inr (.inr (.inr (.inr fun i => some (bh.2.2 i 0))))))] ++ zw_co tt (bh.2.2 0) (bh.2.1 0) ++ zw_co tt (bh.2.2 1) (bh.2.1 1) ++ zw_co tt (bh.2.2 2) (bh.2.1 2) ++ zw_co tt (bh.2.2 3) (bh.2.1 3)
def zw_x9 (kx kv kd ke kt kr : Nat → Nat) : va_W := [(kx 0, .inr (9, [.ref (kv 0), .ref (kd 0), .ref (kx 1), .ref (ke 0), .ref (kt 0), .ref (kr 0)]))]
def zw_ex (tt : Nat → ClassId) (kv : Nat → Nat) (bv : zV) : va_W := [(kv 0, .inr (3, [.int (bv 0 0), .ref (kv 1), .int (bv 0 1), .ref (kv 2), .ref (kv 3), .ref (kv 4), .ref (kv 5), .ref (kv 6)])), (kv 1, .inl (tt 0, 5, .inl (bv 1))), (kv 2, .inl (tt 0, 5, .inl (bv 2))), (kv 3, .inl (tt 0, 5, .inl (bv 3))), (kv 4, .inl (tt 0, 5, .inl (bv 4))), (kv 5, .inl (tt 0, 5, .inl (bv 5))), (kv 6, .inl (tt 0, 5, .inl (bv 6)))]
def zw_t0 (tt : Nat → ClassId) (kv : Nat → Nat) (bv : zV) : va_W := [(kv 0, .inr (8, [.int (bv 0 0), .int (bv 0 1), .ref (kv 1), .ref (kv 2)]))]
def zw_tn (tt : Nat → ClassId) (kv : Nat → Nat) (bv : zV) : va_W := [(kv 1, .inl (tt 0, 5, .inl (bv 1)))]
def zw_t2 (tt : Nat → ClassId) (kv : Nat → Nat) (bv : zV) : va_W := [(kv 2, .inl (tt 2, 80, .inl (bv 2)))]
def zw_tx (tt : Nat → ClassId) (kv : Nat → Nat) (bv : zV) : va_W := zw_t0 tt kv bv ++ (zw_tn tt kv bv ++ zw_t2 tt kv bv)
def zw_rh (tt : Nat → ClassId) (kv : Nat → Nat) (bv : zV) : va_W := [(kv 0, .inr (6, [.int (bv 0 0), .int (bv 0 1), .int (bv 0 2), .int (bv 0 3)]))]
def zw_mo (tt : Nat → ClassId) (kv : Nat → Nat) (bv : zV) (bj : zJ) : va_W := [(kv 0, .inr (10, [.ref (kv 1), .ref (kv 2), .ref (kv 3), .int (bv 0 0), .ref (kv 4), .int (bv 0 1), .ref (kv 6), .ref (kv 7), .ref (kv 8), .ref (kv 9), .int (bv 0 2), .int (bv 0 3), .int (bv 0 4), .int (bv 0 5), .ref (kv 5)])), (kv 1, .inl (tt 0, 213, .inl (bv 1))), (kv 2, .inl (tt 0, 213, .inl (bv 2))), (kv 3, .inl (tt 0, 852, .inl (bv 3))), (kv 4, .inl (tt 0, 80, .inl (bv 4))), (kv 5, .inl (tt 0, 5, .inl (bv 5))), (kv 6, .inl (tt 1, 5, .inr (.inl (bj 0)))), (kv 7, .inl (tt 1, 5, .inr (.inl (bj 1)))), (kv 8, .inl (tt 1, 5, .inr (.inl (bj 2)))), (kv 9, .inl (tt 1, 5, .inr (.inl (bj 3))))]
