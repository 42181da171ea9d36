/-! ===== pure: an exit, as numbers; the class's reckoning of it ===== -/
/-- how many classes; preference, common numbers, shares, rank, kind of each -/
abbrev zX : Type := Nat × (Nat → Nat) × (Nat → Nat) × (Nat → Nat) × (Nat → Nat) × (Nat → Nat)
def zX.nc (X : zX) : Nat := X.1
def zX.P (X : zX) : Nat → Nat := X.2.1
def zX.C (X : zX) : Nat → Nat := X.2.2.1
def zX.S (X : zX) : Nat → Nat := X.2.2.2.1
def zX.R (X : zX) : Nat → Nat := X.2.2.2.2.1
def zX.K (X : zX) : Nat → Nat := X.2.2.2.2.2
def zXok (X : zX) : Prop := 1 ≤ (zX.nc X) ∧ (zX.nc X) ≤ 5 ∧ ∀ k, k < (zX.nc X) → (zX.S X) k ≤ 239976 ∧ (zX.P X) k ≤ 71272872 ∧ (zX.C X) k ≤ 959904 ∧ ((zX.S X) k = 0 → (zX.P X) k = 0) ∧ ((zX.S X) k = 0 → (zX.C X) k = 0) ∧ ((zX.C X) k = 0 → (zX.S X) k = 0) ∧ (zX.R X) k ≤ 9 ∧ (zX.K X) k ≤ 2
/-- the first place that a property has -/
def zfirst (p : Nat → Bool) : Nat → Nat → Option Nat
  | _, 0 => none
  | i, k + 1 => if p i = true then some i else zfirst p (i + 1) k
theorem zfirst_some {p : Nat → Bool} : ∀ (k i f : Nat), zfirst p i k = some f → i ≤ f ∧ f < i + k ∧ p f = true := by
  intro k
  induction k with
  | zero => intro i f h; cases h
  | succ k ih =>
    intro i f h
    have h2 : (if p i = true then some i else zfirst p (i + 1) k) = some f := h
    by_cases d : p i = true
    · rw [if_pos d] at h2
      cases h2
      exact ⟨Nat.le_refl _, by omega, d⟩
    · rw [if_neg d] at h2
      obtain ⟨h3, h4, h5⟩ := ih (i + 1) f h2
      exact ⟨by omega, by omega, h5⟩
def zo2 (o : Option Nat) : Int32 := match o with
  | none => -1
  | some f => nI f
def xcl (X : zX) (set r k : Nat) : Bool := !decide (k = 0) && (decide ((zX.R X) k = r) && (!decide ((zX.S X) k = 0) && !set.testBit k))
def xsum (X : zX) (set r : Nat) : Nat := zn (fun k => if xcl X set r k = true then (zX.P X) k else 0) 1 ((zX.nc X) - 1)
def xpay (X : zX) (set r left : Nat) (G : Nat → Nat) : Nat → Nat := fun k => if xcl X set r k = true then (min left (xsum X set r)) * (zX.P X) k / xsum X set r else G k
def xcs (X : zX) (sh : Nat) : Nat := zn (fun k => if sh.testBit k = true then (zX.C X) k else 0) 0 (zX.nc X)
def xfull (X : zX) (set sh left k : Nat) : Bool := !decide (k = 0) && (sh.testBit k && (!set.testBit k && (decide ((zX.K X) k = 2) && decide ((zX.P X) k < left * (zX.C X) k / xcs X sh))))
def xlow (X : zX) (set sh left : Nat) : Option Nat := zfirst (xfull X set sh left) 1 ((zX.nc X) - 1)
def xshare (X : zX) (set : Nat) : Nat → Nat → Nat → (Nat → Nat) → Nat → Nat
  | 0, _, _, G => G
  | t + 1, left, sh, G => match xlow X set sh left with
    | none => fun k => if sh.testBit k = true then G k + left * (zX.C X) k / xcs X sh else G k
    | some f => xshare X set t (left - (zX.P X) f) (sh &&& (31 ^^^ 2 ^ f)) (fun k => if k = f then G k + (zX.P X) f else G k)
def xsh (X : zX) (set : Nat) : Nat → Nat → Nat → Nat
  | _, 0, a => a
  | i, k + 1, a => xsh X set (i + 1) k (if i = 0 ∨ set.testBit i = true ∨ (zX.K X) i ≠ 0 then a ||| 2 ^ i else a)
def xranks (X : zX) (set : Nat) : Nat → Nat → (Nat → Nat) → Nat → Nat
  | 0, left, G => xshare X set ((zX.nc X) + 1) left (xsh X set 0 (zX.nc X) 0) G
  | r + 1, left, G => if left < xsum X set r then xpay X set r left G else xranks X set r (left - xsum X set r) (xpay X set r left G)
def xout (X : zX) (left set : Nat) : Nat → Nat := xranks X set 10 left (fun _ => 0)
def xnext (X : zX) (left set : Nat) : Option Nat := zfirst (fun k => !decide ((zX.S X) k = 0) && (!set.testBit k && decide (xout X left set k < xout X left (set ||| 2 ^ k) k))) 1 ((zX.nc X) - 1)
def xset (X : zX) (left : Nat) : Nat → Nat → Nat
  | 0, set => set
  | t + 1, set => match xnext X left set with
    | none => set
    | some k => xset X left t (set ||| 2 ^ k)
/-! sets -/
theorem ze_has0 : ∀ s : Fin 32, ∀ k : Fin 5, f_X9_contains (nI s.1) (nI k.1) = some (if s.1.testBit k.1 = true then 1 else 0) := by decide +kernel
theorem ze_has {s k : Nat} (hs : s < 32) (hk : k < 5) : f_X9_contains (nI s) (nI k) = some (if s.testBit k = true then 1 else 0) := ze_has0 ⟨s, hs⟩ ⟨k, hk⟩
theorem ze_mhas {s k : Nat} (hs : s < 32) (hk : k < 5) : f_X10_has (nI s) (nI k) = some (if s.testBit k = true then 1 else 0) := ze_has0 ⟨s, hs⟩ ⟨k, hk⟩
theorem ze_or0 : ∀ s : Fin 32, ∀ k : Fin 5, nI s.1 ||| (1 <<< (nI k.1 &&& 31)) = nI (s.1 ||| 2 ^ k.1) ∧ (s.1 ||| 2 ^ k.1) < 32 := by decide +kernel
theorem ze_or {s k : Nat} (hs : s < 32) (hk : k < 5) : nI s ||| (1 <<< (nI k &&& 31)) = nI (s ||| 2 ^ k) := (ze_or0 ⟨s, hs⟩ ⟨k, hk⟩).1
theorem ze_orlt {s k : Nat} (hs : s < 32) (hk : k < 5) : s ||| 2 ^ k < 32 := (ze_or0 ⟨s, hs⟩ ⟨k, hk⟩).2
theorem ze_off0 : ∀ s : Fin 32, ∀ k : Fin 5, nI s.1 &&& ((1 <<< (nI k.1 &&& 31)) ^^^ (-1)) = nI (s.1 &&& (31 ^^^ 2 ^ k.1)) ∧ (s.1 &&& (31 ^^^ 2 ^ k.1)) < 32 := by decide +kernel
theorem ze_off {s k : Nat} (hs : s < 32) (hk : k < 5) : nI s &&& ((1 <<< (nI k &&& 31)) ^^^ (-1)) = nI (s &&& (31 ^^^ 2 ^ k)) := (ze_off0 ⟨s, hs⟩ ⟨k, hk⟩).1
theorem ze_offlt {s k : Nat} (hs : s < 32) (hk : k < 5) : s &&& (31 ^^^ 2 ^ k) < 32 := (ze_off0 ⟨s, hs⟩ ⟨k, hk⟩).2
theorem ze_not0 : ∀ s : Fin 32, ∀ t : Fin 32, nI s.1 &&& (nI t.1 ^^^ (-1)) = nI (s.1 &&& (31 ^^^ t.1)) ∧ (s.1 &&& (31 ^^^ t.1)) < 32 := by decide +kernel
theorem ze_not {s t : Nat} (hs : s < 32) (ht : t < 32) : nI s &&& (nI t ^^^ (-1)) = nI (s &&& (31 ^^^ t)) := (ze_not0 ⟨s, hs⟩ ⟨t, ht⟩).1
theorem ze_notlt {s t : Nat} (hs : s < 32) (ht : t < 32) : s &&& (31 ^^^ t) < 32 := (ze_not0 ⟨s, hs⟩ ⟨t, ht⟩).2
theorem ze_notb0 : ∀ s : Fin 32, ∀ t : Fin 32, ∀ k : Fin 5, (s.1 &&& (31 ^^^ t.1)).testBit k.1 = (s.1.testBit k.1 && !t.1.testBit k.1) := by decide +kernel
theorem ze_notb {s t k : Nat} (hs : s < 32) (ht : t < 32) (hk : k < 5) : (s &&& (31 ^^^ t)).testBit k = (s.testBit k && !t.testBit k) := ze_notb0 ⟨s, hs⟩ ⟨t, ht⟩ ⟨k, hk⟩
theorem ze_offb0 : ∀ s : Fin 32, ∀ k : Fin 5, ∀ l : Fin 5, (s.1 &&& (31 ^^^ 2 ^ k.1)).testBit l.1 = (s.1.testBit l.1 && !decide (l = k)) ∧ (s.1 ||| 2 ^ k.1).testBit l.1 = (s.1.testBit l.1 || decide (l = k)) := by decide +kernel
theorem ze_offb {s k l : Nat} (hs : s < 32) (hk : k < 5) (hl : l < 5) : (s &&& (31 ^^^ 2 ^ k)).testBit l = (s.testBit l && !decide (l = k)) := by
  have h := (ze_offb0 ⟨s, hs⟩ ⟨k, hk⟩ ⟨l, hl⟩).1
  have e : (decide ((⟨l, hl⟩ : Fin 5) = ⟨k, hk⟩)) = decide (l = k) := by
    by_cases q : l = k
    · rw [decide_eq_true q]; exact decide_eq_true (Fin.ext q)
    · rw [decide_eq_false q]; exact decide_eq_false (fun r => q (congrArg Fin.val r))
  rw [e] at h
  exact h
theorem ze_orb {s k l : Nat} (hs : s < 32) (hk : k < 5) (hl : l < 5) : (s ||| 2 ^ k).testBit l = (s.testBit l || decide (l = k)) := by
  have h := (ze_offb0 ⟨s, hs⟩ ⟨k, hk⟩ ⟨l, hl⟩).2
  have e : (decide ((⟨l, hl⟩ : Fin 5) = ⟨k, hk⟩)) = decide (l = k) := by
    by_cases q : l = k
    · rw [decide_eq_true q]; exact decide_eq_true (Fin.ext q)
    · rw [decide_eq_false q]; exact decide_eq_false (fun r => q (congrArg Fin.val r))
  rw [e] at h
  exact h
/-! the class's side -/
def zE (X : zX) (be : zV) : Prop := be 0 1 = nI (zX.nc X) ∧ ∀ k, k < (zX.nc X) → be 2 k = nI ((zX.S X) k) ∧ be 3 k = nI ((zX.P X) k) ∧ be 4 k = nI ((zX.C X) k) ∧ be 5 k = nI ((zX.R X) k) ∧ be 6 k = nI ((zX.K X) k)
theorem zE_fr {X : zX} {be be' : zV} (h : zE X be) (e0 : be' 0 1 = be 0 1) (e : ∀ a, a ≠ 0 → a ≠ 1 → be' a = be a) : zE X be' := by
  refine ⟨e0.trans h.1, fun k hk => ?_⟩
  rw [e 2 (by omega) (by omega), e 3 (by omega) (by omega), e 4 (by omega) (by omega), e 5 (by omega) (by omega), e 6 (by omega) (by omega)]
  exact h.2 k hk
theorem zE_fr1 {X : zX} {be be' : zV} (h : zE X be) (e : ∀ a, a ≠ 1 → be' a = be a) : zE X be' := zE_fr h (by rw [e 0 (by omega)]) (fun a _ h2 => e a h2)
theorem zp_b2i {b : Bool} : ((if b = true then (1 : Int32) else 0) = 0) ↔ b = false := by
  cases b <;> decide
theorem ze_claims {X : zX} (hX : zXok X) {be : zV} (hE : zE X be) {k r set : Nat} (hk : k < (zX.nc X)) (hr : r ≤ 9) (hs : set < 32) : f_X3_claims be (nI k) (nI r) (nI set) = some (if xcl X set r k = true then 1 else 0) := by
  obtain ⟨h1, h5, hb⟩ := hX
  obtain ⟨b1, -, -, -, -, -, b7, -⟩ := hb k hk
  obtain ⟨e2, -, -, e5, -⟩ := hE.2 k hk
  unfold f_X3_claims xcl
  by_cases d : k = 0
  · subst d
    rw [if_pos (show nI 0 = 0 by decide)]
    rfl
  · rw [if_neg (nI_ne0 (by omega) (by omega)), zp_zA (show k < 5 by omega) (by omega), nI_clamp (by omega), e5, e2, decide_eq_false d]
    by_cases d2 : (zX.R X) k = r
    · rw [if_pos (by rw [d2]), decide_eq_true d2]
      by_cases d3 : (zX.S X) k = 0
      · rw [d3, if_pos (show nI 0 ≤ 0 by decide)]
        rfl
      · rw [if_neg (zp_le0 (by omega) (by omega)), decide_eq_false d3, ze_has hs (by omega), zp_zb]
        cases set.testBit k <;> rfl
    · rw [if_neg (fun q => d2 ((nI_eq (by omega) (by omega)).mp q)), decide_eq_false d2]
      rfl
theorem zn_at {f : Nat → Nat} : ∀ (k i j : Nat), i ≤ j → j < i + k → f j ≤ zn f i k := by
  intro k
  induction k with
  | zero => intro i j h1 h2; omega
  | succ k ih =>
    intro i j h1 h2
    show f j ≤ f i + zn f (i + 1) k
    by_cases d : j = i
    · subst d; omega
    · have := ih (i + 1) j (by omega) (by omega)
      omega
theorem xsum_bd {X : zX} (hX : zXok X) (set r : Nat) : xsum X set r ≤ 285091488 := by
  obtain ⟨h1, h5, hb⟩ := hX
  have h := zn_bd (f := fun k => if xcl X set r k = true then (zX.P X) k else 0) (B := 71272872) ((zX.nc X) - 1) 1 (fun k h2 h3 => by
    show (if xcl X set r k = true then (zX.P X) k else 0) ≤ 71272872
    have := (hb k (by omega)).2.1
    split <;> omega)
  have h2 : ((zX.nc X) - 1) * 71272872 ≤ 4 * 71272872 := Nat.mul_le_mul_right _ (by omega)
  exact Nat.le_trans h h2
theorem xcs_bd {X : zX} (hX : zXok X) (sh : Nat) : xcs X sh ≤ 4799520 := by
  obtain ⟨h1, h5, hb⟩ := hX
  have h := zn_bd (f := fun k => if sh.testBit k = true then (zX.C X) k else 0) (B := 959904) (zX.nc X) 0 (fun k h2 h3 => by
    show (if sh.testBit k = true then (zX.C X) k else 0) ≤ 959904
    have := (hb k (by omega)).2.2.1
    split <;> omega)
  have h2 : (zX.nc X) * 959904 ≤ 5 * 959904 := Nat.mul_le_mul_right _ h5
  exact Nat.le_trans h h2
theorem ze_claimsOf {X : zX} (hX : zXok X) {be : zV} (hE : zE X be) {r set : Nat} (hr : r ≤ 9) (hs : set < 32) : f_X3_claimsOf be (nI r) (nI set) = some (nI (xsum X set r)) := by
  have h1 := hX.1
  have h5 := hX.2.1
  have h := zp_loop (fun n (a : Int32) i => f_X3_claimsOf_b5 be n (nI r) (nI set) a (nI i)) (zX.nc X) (fun i a => a + nI (if xcl X set r i = true then (zX.P X) i else 0)) some
    (fun n a => by
      show f_X3_claimsOf_b5 be (n + 1) (nI r) (nI set) a (nI (zX.nc X)) = some a
      rw [f_X3_claimsOf_b5, hE.1]
      exact if_pos (nI_le (Nat.le_refl _) (by omega)))
    (fun n i a hi => by
      show f_X3_claimsOf_b5 be (n + 1) (nI r) (nI set) a (nI i) = f_X3_claimsOf_b5 be n (nI r) (nI set) (a + nI (if xcl X set r i = true then (zX.P X) i else 0)) (nI (i + 1))
      rw [f_X3_claimsOf_b5, hE.1, if_neg (nI_ge hi (by omega)), ze_claims hX hE hi hr hs, zp_zb, nI_succ]
      cases hq : xcl X set r i
      · rw [if_pos (by decide), if_neg (by decide), nI_0, Int32.add_zero]
      · rw [if_neg (by decide), if_pos rfl, zp_zA (show i < 5 by omega) (by omega), nI_clamp (by omega), (hE.2 i hi).2.1]) ((zX.nc X) - 1) 1 1000 0 (by omega) (by omega)
  have e : f_X3_claimsOf be (nI r) (nI set) = some (zit (fun i a => a + nI (if xcl X set r i = true then (zX.P X) i else 0)) 1 ((zX.nc X) - 1) 0) := h
  rw [e, zit_sum, Int32.zero_add]
  exact congrArg some (zs_zn _ _ (fun _ _ _ => rfl))
theorem ze_min {a b : Nat} (ha : a < 2 ^ 31) (hb : b < 2 ^ 31) : (if nI b < nI a then nI b else nI a) = nI (min a b) := by
  by_cases d : b < a
  · rw [if_pos (nI_lt d ha), Nat.min_eq_right (by omega)]
  · rw [if_neg (nI_nlt (by omega) hb), Nat.min_eq_left (by omega)]
theorem ze_payClaims {X : zX} (hX : zXok X) {be : zV} (hE : zE X be) {r set left : Nat} {G : Nat → Nat} (hG : ∀ k, k < (zX.nc X) → be 1 k = nI (G k)) (hr : r ≤ 9) (hs : set < 32) (hl : left < 2 ^ 31) : ∃ b, f_X3_payClaims be (nI r) (nI set) (nI (min left (xsum X set r))) (nI (xsum X set r)) = some b ∧ (∀ a, a ≠ 1 → b a = be a) ∧ ∀ k, k < (zX.nc X) → b 1 k = nI (xpay X set r left G k) := by
  have h1 := hX.1
  have h5 := hX.2.1
  have hS := xsum_bd hX set r
  obtain ⟨m, b, e, p1, p2⟩ := zp_loopP (fun n (b : zV) i => f_X3_payClaims_b3 n b (nI r) (nI set) (nI (min left (xsum X set r))) (nI (xsum X set r)) (nI i)) (zX.nc X) (fun i b => (∀ a, a ≠ 1 → b a = be a) ∧ ∀ k, k < (zX.nc X) → b 1 k = nI (if k < i then xpay X set r left G k else G k))
    (fun n i b hi hp => by
      obtain ⟨p1, p2⟩ := hp
      have hEb := zE_fr1 hE p1
      have e1 : f_X3_payClaims_b3 (n + 1) b (nI r) (nI set) (nI (min left (xsum X set r))) (nI (xsum X set r)) (nI i) = if (if xcl X set r i = true then (1 : Int32) else 0) = 0 then f_X3_payClaims_b3 n b (nI r) (nI set) (nI (min left (xsum X set r))) (nI (xsum X set r)) (nI (i + 1)) else f_X3_payClaims_b3 n (zu b 1 (upd (b 1) i (nI (min left (xsum X set r) * (zX.P X) i / xsum X set r)))) (nI r) (nI set) (nI (min left (xsum X set r))) (nI (xsum X set r)) (nI (i + 1)) := by
        have hP := (hX.2.2 i hi).2.1
        rw [f_X3_payClaims_b3, hEb.1, if_neg (nI_ge hi (by omega)), ze_claims hX hEb hi hr hs, zp_zb, nI_succ, zp_zA (show i < 5 by omega) (by omega), nI_clamp (by omega), (hEb.2 i hi).2.1, zp_portion (by omega) (by omega) (by omega), zp_zb]
      cases hq : xcl X set r i
      · refine ⟨b, ?_, p1, fun k hk => ?_⟩
        · show f_X3_payClaims_b3 (n + 1) b (nI r) (nI set) (nI (min left (xsum X set r))) (nI (xsum X set r)) (nI i) = _
          rw [e1, hq, if_pos (by decide)]
        · rw [p2 k hk]
          by_cases d : k < i
          · rw [if_pos d, if_pos (by omega)]
          · rw [if_neg d]
            by_cases d2 : k < i + 1
            · obtain rfl : k = i := by omega
              rw [if_pos d2]
              unfold xpay
              rw [hq, if_neg (by decide)]
            · rw [if_neg d2]
      · refine ⟨zu b 1 (upd (b 1) i (nI (min left (xsum X set r) * (zX.P X) i / xsum X set r))), ?_, fun a ha => (zu_ne ha).trans (p1 a ha), fun k hk => ?_⟩
        · show f_X3_payClaims_b3 (n + 1) b (nI r) (nI set) (nI (min left (xsum X set r))) (nI (xsum X set r)) (nI i) = _
          rw [e1, hq, if_neg (by decide)]
        · show upd (b 1) i _ k = _
          by_cases d : k = i
          · subst d
            rw [pk_us, if_pos (by omega)]
            unfold xpay
            rw [hq, if_pos rfl]
          · rw [pk_un d, p2 k hk]
            by_cases d2 : k < i
            · rw [if_pos d2, if_pos (by omega)]
            · rw [if_neg d2, if_neg (by omega)]) ((zX.nc X) - 1) 1 1000 be (by omega) (by omega) ⟨fun _ _ => rfl, fun k hk => by
        rw [hG k hk]
        by_cases d : k < 1
        · obtain rfl : k = 0 := by omega
          rw [if_pos d]
          unfold xpay xcl
          rfl
        · rw [if_neg d]⟩
  refine ⟨b, ?_, p1, fun k hk => by rw [p2 k hk, if_pos hk]⟩
  have e' : f_X3_payClaims be (nI r) (nI set) (nI (min left (xsum X set r))) (nI (xsum X set r)) = f_X3_payClaims_b3 (m + 1) b (nI r) (nI set) (nI (min left (xsum X set r))) (nI (xsum X set r)) (nI (zX.nc X)) := e
  rw [e', f_X3_payClaims_b3, (zE_fr1 hE p1).1, if_pos (nI_le (Nat.le_refl _) (by omega))]
