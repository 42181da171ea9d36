/-! ===== pure: how the model reads ===== -/
theorem zt_shift {c t : Nat} (hc : c < 2 ^ 40) (ht : t < 256) : (lN c <<< (Int32.toInt64 8 &&& 63)) ||| (nI t).toInt64 = lN (c * 256 + t) := by
  rw [nI_l (by omega)]
  have e8 : (Int32.toInt64 8 &&& 63) = 8 := by decide
  rw [e8]
  apply Int64.toBitVec_inj.mp
  rw [Int64.toBitVec_or, Int64.toBitVec_shiftLeft]
  apply BitVec.eq_of_toNat_eq
  show _ = (BitVec.ofNat 64 (c * 256 + t)).toNat
  rw [BitVec.toNat_or, BitVec.toNat_ofNat, Nat.mod_eq_of_lt (by omega)]
  have h1 : ((lN c).toBitVec <<< (Int64.toBitVec 8).smod 64).toNat = c * 2 ^ 8 := by
    have : (Int64.toBitVec 8).smod 64 = 8#64 := by decide
    rw [this]
    show ((BitVec.ofNat 64 c) <<< (8 : Nat)).toNat = c * 2 ^ 8
    rw [BitVec.toNat_shiftLeft, BitVec.toNat_ofNat, Nat.mod_eq_of_lt (show c < 2 ^ 64 by omega), Nat.shiftLeft_eq, Nat.mod_eq_of_lt (by omega)]
  have h2 : (lN t).toBitVec.toNat = t := by
    show (BitVec.ofNat 64 t).toNat = t
    rw [BitVec.toNat_ofNat, Nat.mod_eq_of_lt (by omega)]
  rw [h1, h2]
  have := Nat.shiftLeft_add_eq_or_of_lt (a := c) (b := t) (i := 8) (by omega)
  rw [Nat.shiftLeft_eq] at this
  rw [← this]
theorem zu_self {α : Type} {f : Nat → α} {n : Nat} : zu f n (f n) = f := by
  funext k
  by_cases h : k = n
  · subst h; exact zu_eq
  · exact zu_ne h
theorem rdn_le {T : Nat → Nat} {l : Nat} : ∀ (k n a : Nat) (N : Nat → Nat) (b : Nat) (N' : Nat → Nat), rdn T l k n a N = some (b, N') → a < b ∧ b ≤ l := by
  intro k
  induction k with
  | zero =>
    intro n a N b N' h
    have h2 : (if a < l ∧ T a = 59 then some (a + 1, N) else none) = some (b, N') := h
    by_cases d : a < l ∧ T a = 59
    · rw [if_pos d] at h2
      cases h2
      omega
    · rw [if_neg d] at h2; cases h2
  | succ k ih =>
    intro n a N b N' h
    rw [rdn] at h
    by_cases d : a < l ∧ T a = 32 ∧ 1 ≤ nd T (l - (a + 1)) (a + 1) ∧ nd T (l - (a + 1)) (a + 1) ≤ 4
    · rw [if_pos d] at h
      have := ih _ _ _ _ _ h
      omega
    · rw [if_neg d] at h; cases h
theorem zB_first0 : ∀ i : Fin 7, ∀ j : Fin 7, zB i.1 0 = zB j.1 0 → i = j := by decide +kernel
theorem zst_one {T : Nat → Nat} {l p i j : Nat} (hi : i < 7) (hj : j < 7) (h1 : zst T l p i) (h2 : zst T l p j) : i = j := by
  have a1 := (h1 0 (by have q : 4 ≤ zlen i := (zlen_0 ⟨i, hi⟩).1; show 0 < zlen i; omega)).2
  have a2 := (h2 0 (by have q : 4 ≤ zlen j := (zlen_0 ⟨j, hj⟩).1; show 0 < zlen j; omega)).2
  exact congrArg Fin.val (zB_first0 ⟨i, hi⟩ ⟨j, hj⟩ (a1.symm.trans a2))
/-- the class reads a command -/
theorem zt_command {T : Nat → Nat} {l : Nat} {bt : zV} (h : zCt T l bt) {p : Nat} (hp : p < l) : ∃ r bt', f_X8_readCommand bt (nI p) = some (r, bt') ∧ bt' 2 = bt 2 ∧ bt' 0 0 = bt 0 0 ∧ ((r = -1 ∧ ∀ i, i < 7 → zst T l p i → rdn T l (zmn i) 0 (p + zlen i) (fun _ => 0) = none) ∨ ∃ i b N, i < 7 ∧ zst T l p i ∧ rdn T l (zmn i) 0 (p + zlen i) (fun _ => 0) = some (b, N) ∧ r = nI b ∧ bt' 0 1 = nI i ∧ ∀ k, k < zmn i → bt' 1 k = nI (N k)) := by
  have hl := h.1
  have hg : ∀ (k i n : Nat), i + k = 7 → k < n → (∀ i', i' < i → ¬ zst T l p i') → ∃ r bt', f_X8_readCommand_b2 (nI p) n bt i = some (r, bt') ∧ bt' 2 = bt 2 ∧ bt' 0 0 = bt 0 0 ∧ ((r = -1 ∧ ∀ i, i < 7 → zst T l p i → rdn T l (zmn i) 0 (p + zlen i) (fun _ => 0) = none) ∨ ∃ i b N, i < 7 ∧ zst T l p i ∧ rdn T l (zmn i) 0 (p + zlen i) (fun _ => 0) = some (b, N) ∧ r = nI b ∧ bt' 0 1 = nI i ∧ ∀ k, k < zmn i → bt' 1 k = nI (N k)) := by
    intro k
    induction k with
    | zero =>
      intro i n e hn hi
      obtain ⟨n, rfl⟩ : ∃ m, n = m + 1 := ⟨n - 1, by omega⟩
      refine ⟨-1, bt, ?_, rfl, rfl, Or.inl ⟨rfl, fun i' hi' q => absurd q (hi i' (by omega))⟩⟩
      rw [f_X8_readCommand_b2, if_pos (by omega)]
    | succ k ih =>
      intro i n e hn hi
      obtain ⟨n, rfl⟩ : ∃ m, n = m + 1 := ⟨n - 1, by omega⟩
      have hi7 : i < 7 := by omega
      obtain ⟨r, er, hr⟩ := zt_behind h (p := p) (i := i) (by omega) hi7
      obtain ⟨m1, m2, m3⟩ := zmn_0 ⟨i, hi7⟩
      have m1' : zNum i = nI (zmn i) := m1
      have m3' : zmn i ≤ 5 := m3
      have ln : zlen i ≤ 5 := (zlen_0 ⟨i, hi7⟩).2
      rw [f_X8_readCommand_b2, if_neg (by omega), er, zp_zb]
      rcases hr with ⟨s, rfl⟩ | ⟨s, rfl⟩
      · obtain ⟨r2, bt2, e2, p1, p2⟩ := zt_numbers (l := l) m3' (zmn i) 0 1000 (p + zlen i) (zu bt 0 (zu (bt 0) 1 (nI i))) (fun _ => 0) (by omega) (by omega) (by omega) (zCt_fr h rfl rfl) (fun i hi => by omega)
        have e2' : f_X8_readNumbers (zu bt 0 (zu (bt 0) 1 (nI i))) (nI (p + zlen i)) (zNum i) = some (r2, bt2) := by
          rw [m1']; exact e2
        rw [if_neg (zp_neg1 (by omega)), e2', zp_zb]
        refine ⟨r2, bt2, rfl, (p1 2 (by omega)).trans rfl, by rw [p1 0 (by omega)]; rfl, ?_⟩
        cases hq : rdn T l (zmn i) 0 (p + zlen i) (fun _ => 0) with
        | none =>
          rw [hq] at p2
          refine Or.inl ⟨p2, fun i' hi' q => ?_⟩
          obtain rfl := zst_one hi' hi7 q s
          exact hq
        | some x =>
          obtain ⟨b, N⟩ := x
          rw [hq] at p2
          exact Or.inr ⟨i, b, N, hi7, s, hq, p2.1, by rw [p1 0 (by omega)]; rfl, p2.2⟩
      · rw [if_pos rfl]
        exact ih (i + 1) n (by omega) (by omega) (fun i' hi' => by
          by_cases q : i' = i
          · subst q; exact s
          · exact hi i' (by omega))
  exact hg 7 0 10 rfl (by omega) (fun i' hi' => by omega)
/-! the model -/
def zMt (T : Nat → Nat) (l : Nat) (w : zV) : Prop := l ≤ 80 ∧ w 0 1 = nI l ∧ ∀ k, k < l → 32 ≤ T k ∧ T k ≤ 126 ∧ w 4 k = nI (T k)
/-- all but what the reading itself writes -/
def zSk (w w' : zV) : Prop := w' 1 = w 1 ∧ w' 2 = w 2 ∧ w' 3 = w 3 ∧ w' 4 = w 4 ∧ w' 0 0 = w 0 0 ∧ w' 0 1 = w 0 1
theorem zSk_rfl (w : zV) : zSk w w := ⟨rfl, rfl, rfl, rfl, rfl, rfl⟩
theorem zSk_tr {a b c : zV} (h1 : zSk a b) (h2 : zSk b c) : zSk a c := ⟨h2.1.trans h1.1, h2.2.1.trans h1.2.1, h2.2.2.1.trans h1.2.2.1, h2.2.2.2.1.trans h1.2.2.2.1, h2.2.2.2.2.1.trans h1.2.2.2.2.1, h2.2.2.2.2.2.trans h1.2.2.2.2.2⟩
theorem zMt_sk {T : Nat → Nat} {l : Nat} {w w' : zV} (h : zMt T l w) (s : zSk w w') : zMt T l w' := by
  refine ⟨h.1, s.2.2.2.2.2.trans h.2.1, fun k hk => ?_⟩
  rw [s.2.2.2.1]; exact h.2.2 k hk
theorem mt_here {T : Nat → Nat} {l : Nat} {w : zV} (j : zJ) (h : zMt T l w) {a : Nat} (ha : a < 2 ^ 30) (e : w 0 2 = nI a) : f_X10_here w j = some (if a < l then nI (T a) else -1) := by
  obtain ⟨hl, e1, ht⟩ := h
  unfold f_X10_here
  rw [e1, e]
  by_cases d : a < l
  · rw [if_neg (nI_ge d (by omega)), if_pos d, zp_zA (show a < 80 by omega) (by omega), nI_clamp (by omega), (ht a d).2.2]
  · rw [if_pos (nI_le (by omega) (by omega)), if_neg d]
theorem mt_must {T : Nat → Nat} {l : Nat} {w : zV} (j : zJ) (h : zMt T l w) {a f c : Nat} (ha : a < 2 ^ 30) (e : w 0 2 = nI a) (hf : f ≤ 1) (e3 : w 0 3 = nI f) (hc : c < 2 ^ 30) : f_X10_must w j (nI c) = some (zu w 0 (zu (zu (w 0) 2 (nI (a + 1))) 3 (nI (if f = 1 ∧ a < l ∧ T a = c then 1 else 0)))) := by
  unfold f_X10_must
  rw [e3, e, nI_1, mt_here j h ha e, zp_zb]
  by_cases d0 : f = 0
  · subst d0
    rw [if_pos (show nI 0 = 0 by decide), if_neg (fun q => absurd q.1 (by decide))]
    rfl
  · obtain rfl : f = 1 := by omega
    rw [if_neg (show ¬ nI 1 = 0 by decide)]
    by_cases d : a < l
    · have hT := (h.2.2 a d).2.1
      rw [if_pos d]
      by_cases d2 : T a = c
      · rw [if_pos (by rw [d2]), if_pos ⟨rfl, d, d2⟩]
        rfl
      · rw [if_neg (fun q => d2 ((nI_eq (by omega) (by omega)).mp q)), if_neg (fun q => d2 q.2.2)]
        rfl
    · rw [if_neg d, if_neg (fun q => zp_neg1 (k := c) hc q.symm), if_neg (fun q => d q.2.1)]
      rfl
theorem zw_dig {t : Nat} (h : t < 2 ^ 30) : zw (nI t) 48 57 = if 48 ≤ t ∧ t ≤ 57 then 1 else 0 := by
  unfold zw
  by_cases d1 : t < 48
  · rw [if_pos (show nI t < (48 : Int32) from nI_lt (b := 48) d1 (by omega)), if_neg (fun q => by omega)]
  · rw [if_neg (show ¬ nI t < (48 : Int32) from nI_nlt (b := 48) (by omega) (by omega))]
    by_cases d2 : 57 < t
    · rw [if_pos (show (57 : Int32) < nI t from nI_lt (a := 57) d2 (by omega)), if_neg (fun q => by omega)]
    · rw [if_neg (show ¬ (57 : Int32) < nI t from nI_nlt (a := 57) (by omega) (by omega)), if_pos ⟨by omega, by omega⟩]
theorem zw_let {t : Nat} (h : t < 2 ^ 30) : zw (nI t) 97 122 = if 97 ≤ t ∧ t ≤ 122 then 1 else 0 := by
  unfold zw
  by_cases d1 : t < 97
  · rw [if_pos (show nI t < (97 : Int32) from nI_lt (b := 97) d1 (by omega)), if_neg (fun q => by omega)]
  · rw [if_neg (show ¬ nI t < (97 : Int32) from nI_nlt (b := 97) (by omega) (by omega))]
    by_cases d2 : 122 < t
    · rw [if_pos (show (122 : Int32) < nI t from nI_lt (a := 122) d2 (by omega)), if_neg (fun q => by omega)]
    · rw [if_neg (show ¬ (122 : Int32) < nI t from nI_nlt (a := 122) (by omega) (by omega)), if_pos ⟨by omega, by omega⟩]
theorem mt_digits {T : Nat → Nat} {l : Nat} (j : zJ) : ∀ (c q k n v x : Nat) (w : zV), c + x = 4 → c < n → k = min c (l - q) → q < 2 ^ 29 → zMt T l w → w 0 2 = nI q → f_X10_readNumber_b10 j n w (nI v) (nI x) = f_X10_readNumber_b58 j (zu w 0 (zu (w 0) 2 (nI (q + nd T k q)))) (nI (vf T (nd T k q) q v)) (nI (x + nd T k q)) := by
  intro c
  induction c with
  | zero =>
    intro q k n v x w e hn hk hq h e2
    obtain ⟨n, rfl⟩ : ∃ m, n = m + 1 := ⟨n - 1, by omega⟩
    obtain rfl : x = 4 := by omega
    rw [Nat.zero_min] at hk
    subst hk
    rw [f_X10_readNumber_b10, if_pos (show (4 : Int32) ≤ nI 4 by decide)]
    show _ = f_X10_readNumber_b58 j (zu w 0 (zu (w 0) 2 (nI q))) (nI v) (nI 4)
    rw [← e2, zu_self, zu_self]
  | succ c ih =>
    intro q k n v x w e hn hk hq h e2
    obtain ⟨n, rfl⟩ : ∃ m, n = m + 1 := ⟨n - 1, by omega⟩
    have hl := h.1
    rw [f_X10_readNumber_b10, if_neg (show ¬ (4 : Int32) ≤ nI x from nI_ge (b := 4) (by omega) (by omega)), mt_here j h (by omega) e2, zp_zb, zp_in, zp_zb]
    by_cases d : q < l
    · obtain ⟨t1, t2, t3⟩ := h.2.2 q d
      obtain ⟨k, rfl⟩ : ∃ m, k = m + 1 := ⟨k - 1, by omega⟩
      rw [if_pos d, zw_dig (by omega)]
      show _ = f_X10_readNumber_b58 j (zu w 0 (zu (w 0) 2 (nI (q + if 48 ≤ T q ∧ T q ≤ 57 then 1 + nd T k (q + 1) else 0)))) (nI (vf T (if 48 ≤ T q ∧ T q ≤ 57 then 1 + nd T k (q + 1) else 0) q v)) (nI (x + if 48 ≤ T q ∧ T q ≤ 57 then 1 + nd T k (q + 1) else 0))
      by_cases d2 : 48 ≤ T q ∧ T q ≤ 57
      · rw [if_pos d2, if_neg (show ¬ (1 : Int32) = 0 by decide), if_pos d2, zp_zb, e2, nI_1, nI_1]
        have ev : ((10 : Int32) * nI v + nI (T q)) - 48 = nI (v * 10 + (T q - 48)) := by
          rw [show (10 : Int32) = nI 10 from rfl, show (48 : Int32) = nI 48 from rfl, pk_mul, nI_add, pk_sub (by omega)]
          exact congrArg nI (by omega)
        rw [ev, ih (q + 1) k n (v * 10 + (T q - 48)) (x + 1) (zu w 0 (zu (w 0) 2 (nI (q + 1)))) (by omega) (by omega) (by omega) (by omega) (zMt_sk h ⟨rfl, rfl, rfl, rfl, rfl, rfl⟩) rfl, zu_zu]
        show f_X10_readNumber_b58 j (zu w 0 (zu (zu (w 0) 2 (nI (q + 1))) 2 (nI (q + 1 + nd T k (q + 1))))) _ _ = _
        rw [zu_zu, show q + 1 + nd T k (q + 1) = q + (1 + nd T k (q + 1)) by omega, show x + 1 + nd T k (q + 1) = x + (1 + nd T k (q + 1)) by omega, Nat.add_comm 1 (nd T k (q + 1))]
        rfl
      · rw [if_neg d2, if_pos rfl, if_neg d2]
        show _ = f_X10_readNumber_b58 j (zu w 0 (zu (w 0) 2 (nI q))) (nI v) (nI x)
        rw [← e2, zu_self, zu_self]
    · obtain rfl : k = 0 := by omega
      rw [if_neg d, if_pos (show zw (-1) 48 57 = 0 by decide)]
      show _ = f_X10_readNumber_b58 j (zu w 0 (zu (w 0) 2 (nI q))) (nI v) (nI x)
      rw [← e2, zu_self, zu_self]
theorem mt_number {T : Nat → Nat} {l : Nat} {w : zV} (j : zJ) (h : zMt T l w) {a f d : Nat} (ha : a < 2 ^ 28) (e : w 0 2 = nI a) (hf : f ≤ 1) (e3 : w 0 3 = nI f) (hd : d = min 4 (nd T (l - (a + 1)) (a + 1))) : ∃ w', f_X10_readNumber w j = some (nI (vf T d (a + 1) 0), w') ∧ zSk w w' ∧ w' 5 = w 5 ∧ w' 0 2 = nI (a + 1 + d) ∧ w' 0 3 = nI (if f = 1 ∧ a < l ∧ T a = 32 ∧ 1 ≤ d then 1 else 0) := by
  unfold f_X10_readNumber
  rw [show (32 : Int32) = nI 32 from rfl, mt_must j h (by omega) e hf e3 (by omega), zp_zb]
  let w1 : zV := zu w 0 (zu (zu (w 0) 2 (nI (a + 1))) 3 (nI (if f = 1 ∧ a < l ∧ T a = 32 then 1 else 0)))
  have h1 := mt_digits (T := T) (l := l) j 4 (a + 1) (min 4 (l - (a + 1))) 1000 0 0 w1 (by omega) (by omega) rfl (by omega) (zMt_sk h ⟨rfl, rfl, rfl, rfl, rfl, rfl⟩) rfl
  rw [nd_min, ← hd, Nat.zero_add] at h1
  have h1' : f_X10_readNumber_b10 j 1000 w1 0 0 = f_X10_readNumber_b58 j (zu w1 0 (zu (w1 0) 2 (nI (a + 1 + d)))) (nI (vf T d (a + 1) 0)) (nI d) := h1
  show ∃ w', f_X10_readNumber_b10 j 1000 w1 0 0 = some (nI (vf T d (a + 1) 0), w') ∧ _
  rw [h1']
  have hd4 : d ≤ 4 := by omega
  unfold f_X10_readNumber_b58
  have e03 : (zu w1 0 (zu (w1 0) 2 (nI (a + 1 + d)))) 0 3 = nI (if f = 1 ∧ a < l ∧ T a = 32 then 1 else 0) := rfl
  rw [e03]
  by_cases c : f = 1 ∧ a < l ∧ T a = 32
  · rw [if_pos c, if_neg (show ¬ nI 1 = 0 by decide)]
    by_cases c2 : 1 ≤ d
    · rw [if_neg (zp_le0 (by omega) (by omega)), if_pos ⟨c.1, c.2.1, c.2.2, c2⟩]
      exact ⟨_, rfl, ⟨rfl, rfl, rfl, rfl, rfl, rfl⟩, rfl, rfl, rfl⟩
    · obtain rfl : d = 0 := by omega
      rw [if_pos (show nI 0 ≤ 0 by decide), if_neg (fun q => c2 q.2.2.2)]
      exact ⟨_, rfl, ⟨rfl, rfl, rfl, rfl, rfl, rfl⟩, rfl, rfl, rfl⟩
  · rw [if_neg c, if_pos (show nI 0 = 0 by decide), if_neg (fun q => c ⟨q.1, q.2.1, q.2.2.1⟩)]
    exact ⟨_, rfl, ⟨rfl, rfl, rfl, rfl, rfl, rfl⟩, rfl, rfl, rfl⟩
/-- what the model does of a command -/
def mdis (j : zJ) (x1 : Int32) (y3 : zV) : Option (Int32 × zV) :=
  (if x1 = 0 then zb (f_X10_issues y3 j ((y3 5) (0 : Int32).toNatClampNeg) ((y3 5) (1 : Int32).toNatClampNeg) ((y3 5) (2 : Int32).toNatClampNeg)) fun y6 => some (y6.1, y6.2) else if x1 = 1 then zb (f_X10_splits y3 j ((y3 5) (0 : Int32).toNatClampNeg) ((y3 5) (1 : Int32).toNatClampNeg) ((y3 5) (2 : Int32).toNatClampNeg)) fun y8 => some (y8.1, y8.2) else if x1 = 2 then zb (f_X10_buys y3 j ((y3 5) (0 : Int32).toNatClampNeg) ((y3 5) (1 : Int32).toNatClampNeg)) fun y10 => some (y10.1, y10.2) else if x1 = 3 then zb (f_X10_grants y3 j ((y3 5) (0 : Int32).toNatClampNeg) ((y3 5) (1 : Int32).toNatClampNeg) ((y3 5) (2 : Int32).toNatClampNeg) ((y3 5) (3 : Int32).toNatClampNeg) ((y3 5) (4 : Int32).toNatClampNeg)) fun y12 => some (y12.1, y12.2) else if x1 = 4 then zb (f_X10_takes y3 j ((y3 5) (0 : Int32).toNatClampNeg) ((y3 5) (1 : Int32).toNatClampNeg)) fun y14 => some (y14.1, y14.2) else if x1 = 5 then zb (f_X10_leaves y3 j ((y3 5) (0 : Int32).toNatClampNeg)) fun y16 => some (y16.1, y16.2) else zb (f_X10_passes y3 j ((y3 5) (0 : Int32).toNatClampNeg)) fun y17 => some (y17.1, y17.2))
/-- no command any more -/
theorem mt_garb {T : Nat → Nat} {l m : Nat} (j : zJ) {x1 : Int32} (hx : f_X10_manyOf x1 = some (nI m)) (hm : m ≤ 5) : ∀ (k n g a f : Nat) (w : zV), n + k = m → k < g → a + 6 * k < 1000 → zMt T l w → w 0 2 = nI a → f ≤ 1 → w 0 3 = nI f → (f = 0 ∨ ¬ (a < l ∧ (T a = 32 ∨ T a = 59))) → ∃ w', f_X10_command_b20 j g w x1 (nI n) = some (0, w') ∧ w' 0 3 = 0 ∧ zSk w w' := by
  intro k
  induction k with
  | zero =>
    intro n g a f w e hg ha h e2 hf e3 hq
    obtain ⟨g, rfl⟩ : ∃ m, g = m + 1 := ⟨g - 1, by omega⟩
    rw [f_X10_command_b20, hx, zp_zb, if_pos (nI_le (by omega) (by omega)), show (59 : Int32) = nI 59 from rfl, mt_must j h (by omega) e2 hf e3 (by omega), zp_zb]
    have hno : ¬ (f = 1 ∧ a < l ∧ T a = 59) := by
      rintro ⟨q1, q2, q3⟩
      rcases hq with q | q
      · omega
      · exact q ⟨q2, Or.inr q3⟩
    rw [if_neg hno, if_pos (show zu w 0 (zu (zu (w 0) 2 (nI (a + 1))) 3 (nI 0)) 0 3 = 0 from rfl)]
    exact ⟨_, rfl, rfl, ⟨rfl, rfl, rfl, rfl, rfl, rfl⟩⟩
  | succ k ih =>
    intro n g a f w e hg ha h e2 hf e3 hq
    obtain ⟨g, rfl⟩ : ∃ m, g = m + 1 := ⟨g - 1, by omega⟩
    obtain ⟨w1, e1, s1, s5, s2, s3⟩ := mt_number j h (by omega) e2 hf e3 rfl
    have hno : ¬ (f = 1 ∧ a < l ∧ T a = 32 ∧ 1 ≤ min 4 (nd T (l - (a + 1)) (a + 1))) := by
      rintro ⟨q1, q2, q3, -⟩
      rcases hq with q | q
      · omega
      · exact q ⟨q2, Or.inl q3⟩
    rw [if_neg hno] at s3
    rw [f_X10_command_b20, hx, zp_zb, if_neg (nI_ge (by omega) (by omega)), e1, zp_zb, zp_zA (show n < 5 by omega) (by omega), zp_zl, nI_clamp (by omega), nI_1]
    obtain ⟨w2, f1, f2, f3⟩ := ih (n + 1) g (a + 1 + min 4 (nd T (l - (a + 1)) (a + 1))) 0 (zu w1 5 (upd (w1 5) n (nI (vf T (min 4 (nd T (l - (a + 1)) (a + 1))) (a + 1) 0)))) (by omega) (by omega) (by omega) (zMt_sk (zMt_sk h s1) ⟨rfl, rfl, rfl, rfl, rfl, rfl⟩) s2 (by omega) s3 (Or.inl rfl)
    exact ⟨w2, f1, f2, zSk_tr s1 (zSk_tr ⟨rfl, rfl, rfl, rfl, rfl, rfl⟩ f3)⟩
theorem mt_good {T : Nat → Nat} {l m : Nat} (j : zJ) {x1 : Int32} (hx : f_X10_manyOf x1 = some (nI m)) (hm : m ≤ 5) : ∀ (k n g a : Nat) (w : zV) (N : Nat → Nat), n + k = m → k < g → a + 6 * k < 900 → zMt T l w → w 0 2 = nI a → w 0 3 = nI 1 → (∀ i, i < n → w 5 i = nI (N i)) → match rdn T l k n a N with
    | none => ∃ w', f_X10_command_b20 j g w x1 (nI n) = some (0, w') ∧ w' 0 3 = 0 ∧ zSk w w'
    | some (b, N') => ∃ y3, f_X10_command_b20 j g w x1 (nI n) = mdis j x1 y3 ∧ y3 0 3 = nI 1 ∧ y3 0 2 = nI b ∧ zSk w y3 ∧ ∀ i, i < m → y3 5 i = nI (N' i) := by
  intro k
  induction k with
  | zero =>
    intro n g a w N e hg ha h e2 e3 hN
    obtain ⟨g, rfl⟩ : ∃ m, g = m + 1 := ⟨g - 1, by omega⟩
    have e1 : f_X10_command_b20 j (g + 1) w x1 (nI n) = if (zu w 0 (zu (zu (w 0) 2 (nI (a + 1))) 3 (nI (if 1 = 1 ∧ a < l ∧ T a = 59 then 1 else 0)))) 0 3 = 0 then some (0, zu w 0 (zu (zu (w 0) 2 (nI (a + 1))) 3 (nI (if 1 = 1 ∧ a < l ∧ T a = 59 then 1 else 0)))) else mdis j x1 (zu w 0 (zu (zu (w 0) 2 (nI (a + 1))) 3 (nI (if 1 = 1 ∧ a < l ∧ T a = 59 then 1 else 0)))) := by
      rw [f_X10_command_b20, hx, zp_zb, if_pos (nI_le (by omega) (by omega)), show (59 : Int32) = nI 59 from rfl, mt_must j h (by omega) e2 (Nat.le_refl 1) e3 (by omega), zp_zb]
      rfl
    rw [e1]
    show match (if a < l ∧ T a = 59 then some (a + 1, N) else none) with
      | none => _
      | some (b, N') => _
    by_cases d : a < l ∧ T a = 59
    · have eF : (if 1 = 1 ∧ a < l ∧ T a = 59 then 1 else 0 : Nat) = 1 := if_pos ⟨rfl, d⟩
      rw [if_pos d, eF]
      refine ⟨zu w 0 (zu (zu (w 0) 2 (nI (a + 1))) 3 (nI 1)), ?_, rfl, rfl, ⟨rfl, rfl, rfl, rfl, rfl, rfl⟩, fun i hi => hN i (by omega)⟩
      exact if_neg (show ¬ nI 1 = 0 by decide)
    · have eF : (if 1 = 1 ∧ a < l ∧ T a = 59 then 1 else 0 : Nat) = 0 := if_neg (fun q => d q.2)
      rw [if_neg d, eF]
      refine ⟨zu w 0 (zu (zu (w 0) 2 (nI (a + 1))) 3 (nI 0)), ?_, rfl, ⟨rfl, rfl, rfl, rfl, rfl, rfl⟩⟩
      exact if_pos (show nI 0 = 0 by decide)
  | succ k ih =>
    intro n g a w N e hg ha h e2 e3 hN
    obtain ⟨g, rfl⟩ : ∃ m, g = m + 1 := ⟨g - 1, by omega⟩
    obtain ⟨w1, e1, s1, s5, s2, s3⟩ := mt_number j h (by omega) e2 (Nat.le_refl 1) e3 rfl
    have e1' : f_X10_command_b20 j (g + 1) w x1 (nI n) = f_X10_command_b20 j g (zu w1 5 (upd (w1 5) n (nI (vf T (min 4 (nd T (l - (a + 1)) (a + 1))) (a + 1) 0)))) x1 (nI (n + 1)) := by
      rw [f_X10_command_b20, hx, zp_zb, if_neg (nI_ge (by omega) (by omega)), e1, zp_zb, zp_zA (show n < 5 by omega) (by omega), zp_zl, nI_clamp (by omega), nI_1]
    have hMt : zMt T l (zu w1 5 (upd (w1 5) n (nI (vf T (min 4 (nd T (l - (a + 1)) (a + 1))) (a + 1) 0)))) := zMt_sk (zMt_sk h s1) ⟨rfl, rfl, rfl, rfl, rfl, rfl⟩
    have hSk : zSk w (zu w1 5 (upd (w1 5) n (nI (vf T (min 4 (nd T (l - (a + 1)) (a + 1))) (a + 1) 0)))) := zSk_tr s1 ⟨rfl, rfl, rfl, rfl, rfl, rfl⟩
    rw [e1']
    show match (if a < l ∧ T a = 32 ∧ 1 ≤ nd T (l - (a + 1)) (a + 1) ∧ nd T (l - (a + 1)) (a + 1) ≤ 4 then rdn T l k (n + 1) (a + 1 + nd T (l - (a + 1)) (a + 1)) (fun i => if i = n then vf T (nd T (l - (a + 1)) (a + 1)) (a + 1) 0 else N i) else none) with
      | none => _
      | some (b, N') => _
    by_cases d : a < l ∧ T a = 32 ∧ 1 ≤ nd T (l - (a + 1)) (a + 1) ∧ nd T (l - (a + 1)) (a + 1) ≤ 4
    · have em : min 4 (nd T (l - (a + 1)) (a + 1)) = nd T (l - (a + 1)) (a + 1) := Nat.min_eq_right d.2.2.2
      rw [em] at s2 s3 hMt hSk ⊢
      rw [if_pos ⟨rfl, d.1, d.2.1, d.2.2.1⟩] at s3
      rw [if_pos d]
      have := ih (n + 1) g (a + 1 + nd T (l - (a + 1)) (a + 1)) _ (fun i => if i = n then vf T (nd T (l - (a + 1)) (a + 1)) (a + 1) 0 else N i) (by omega) (by omega) (by omega) hMt s2 s3 (fun i hi => by
        show upd (w1 5) n _ i = _
        by_cases q : i = n
        · subst q; rw [pk_us, if_pos rfl]
        · rw [pk_un q, if_neg q, s5]; exact hN i (by omega))
      revert this
      cases rdn T l k (n + 1) (a + 1 + nd T (l - (a + 1)) (a + 1)) (fun i => if i = n then vf T (nd T (l - (a + 1)) (a + 1)) (a + 1) 0 else N i) with
      | none => exact fun ⟨w', q1, q2, q3⟩ => ⟨w', q1, q2, zSk_tr hSk q3⟩
      | some x => exact fun ⟨y3, q1, q2, q3, q4, q5⟩ => ⟨y3, q1, q2, q3, zSk_tr hSk q4, q5⟩
    · rw [if_neg d]
      have hle := nd_le T (l - (a + 1)) (a + 1)
      have hfl : (if 1 = 1 ∧ a < l ∧ T a = 32 ∧ 1 ≤ min 4 (nd T (l - (a + 1)) (a + 1)) then 1 else 0) ≤ 1 := by split <;> omega
      obtain ⟨w2, f1, f2, f3⟩ := mt_garb j hx hm k (n + 1) g (a + 1 + min 4 (nd T (l - (a + 1)) (a + 1))) _ _ (by omega) (by omega) (by omega) hMt s2 hfl s3 (by
        by_cases c : a < l ∧ T a = 32 ∧ 1 ≤ nd T (l - (a + 1)) (a + 1)
        · refine Or.inr ?_
          have h5 : 4 < nd T (l - (a + 1)) (a + 1) := by
            by_cases q : 4 < nd T (l - (a + 1)) (a + 1)
            · exact q
            · exact absurd ⟨c.1, c.2.1, c.2.2, by omega⟩ d
          have hdg := nd_dig T (l - (a + 1)) (a + 1) 4 h5
          rw [Nat.min_eq_left (by omega)]
          rintro ⟨-, q | q⟩ <;> omega
        · refine Or.inl (if_neg (fun q => c ⟨q.2.1, q.2.2.1, by omega⟩)))
      exact ⟨w2, f1, f2, zSk_tr hSk f3⟩
