/-! ===== pure: what a text says; how the class reads it ===== -/
def zB (i j : Nat) : Nat := (zCh i j).toNatClampNeg
def zlen (i : Nat) : Nat := zLen.getD i 0
def zmn (i : Nat) : Nat := (zNum i).toNatClampNeg
theorem zB_at0 : ∀ i : Fin 7, ∀ j : Fin 5, zCh i.1 j.1 = nI (zB i.1 j.1) ∧ zB i.1 j.1 < 128 := by decide +kernel
theorem zlen_0 : ∀ i : Fin 7, 4 ≤ zlen i.1 ∧ zlen i.1 ≤ 5 := by decide +kernel
theorem zmn_0 : ∀ i : Fin 7, zNum i.1 = nI (zmn i.1) ∧ 1 ≤ zmn i.1 ∧ zmn i.1 ≤ 5 := by decide +kernel
/-- digits in a row, and their number -/
def nd (T : Nat → Nat) : Nat → Nat → Nat
  | 0, _ => 0
  | k + 1, q => if 48 ≤ T q ∧ T q ≤ 57 then 1 + nd T k (q + 1) else 0
def vf (T : Nat → Nat) : Nat → Nat → Nat → Nat
  | 0, _, a => a
  | k + 1, q, a => vf T k (q + 1) (a * 10 + (T q - 48))
/-- numbers behind a word: the place behind the command, and the numbers -/
def rdn (T : Nat → Nat) (l : Nat) : Nat → Nat → Nat → (Nat → Nat) → Option (Nat × (Nat → Nat))
  | 0, _, a, N => if a < l ∧ T a = 59 then some (a + 1, N) else none
  | k + 1, n, a, N => if a < l ∧ T a = 32 ∧ 1 ≤ nd T (l - (a + 1)) (a + 1) ∧ nd T (l - (a + 1)) (a + 1) ≤ 4 then rdn T l k (n + 1) (a + 1 + nd T (l - (a + 1)) (a + 1)) (fun i => if i = n then vf T (nd T (l - (a + 1)) (a + 1)) (a + 1) 0 else N i) else none
/-- a word stands at a place -/
def zst (T : Nat → Nat) (l p i : Nat) : Prop := ∀ j, j < zlen i → p + j < l ∧ T (p + j) = zB i j
theorem nd_le (T : Nat → Nat) : ∀ (k q : Nat), nd T k q ≤ k := by
  intro k
  induction k with
  | zero => intro q; exact Nat.le_refl 0
  | succ k ih =>
    intro q
    show (if 48 ≤ T q ∧ T q ≤ 57 then 1 + nd T k (q + 1) else 0) ≤ k + 1
    have := ih (q + 1)
    split <;> omega
theorem nd_dig (T : Nat → Nat) : ∀ (k q i : Nat), i < nd T k q → 48 ≤ T (q + i) ∧ T (q + i) ≤ 57 := by
  intro k
  induction k with
  | zero => intro q i h; exact absurd h (Nat.not_lt_zero i)
  | succ k ih =>
    intro q i h
    have h2 : i < (if 48 ≤ T q ∧ T q ≤ 57 then 1 + nd T k (q + 1) else 0) := h
    by_cases d : 48 ≤ T q ∧ T q ≤ 57
    · rw [if_pos d] at h2
      cases i with
      | zero => exact d
      | succ i =>
        have := ih (q + 1) i (by omega)
        rw [show q + (i + 1) = q + 1 + i by omega]
        exact this
    · rw [if_neg d] at h2
      omega
theorem nd_min (T : Nat → Nat) : ∀ (c k q : Nat), nd T (min c k) q = min c (nd T k q) := by
  intro c
  induction c with
  | zero => intro k q; rw [Nat.zero_min, Nat.zero_min]; rfl
  | succ c ih =>
    intro k q
    cases k with
    | zero => rw [Nat.min_zero]; show 0 = min (c + 1) 0; rw [Nat.min_zero]
    | succ k =>
      rw [show min (c + 1) (k + 1) = min c k + 1 by omega]
      show (if 48 ≤ T q ∧ T q ≤ 57 then 1 + nd T (min c k) (q + 1) else 0) = min (c + 1) (if 48 ≤ T q ∧ T q ≤ 57 then 1 + nd T k (q + 1) else 0)
      by_cases d : 48 ≤ T q ∧ T q ≤ 57
      · rw [if_pos d, if_pos d, ih]; omega
      · rw [if_neg d, if_neg d]; omega
/-! the class -/
def zCt (T : Nat → Nat) (l : Nat) (bt : zV) : Prop := l ≤ 80 ∧ bt 0 0 = nI l ∧ ∀ k, k < l → 32 ≤ T k ∧ T k ≤ 126 ∧ bt 2 k = nI (T k)
theorem zCt_fr {T : Nat → Nat} {l : Nat} {bt bt' : zV} (h : zCt T l bt) (e0 : bt' 0 0 = bt 0 0) (e2 : bt' 2 = bt 2) : zCt T l bt' := by
  refine ⟨h.1, e0.trans h.2.1, fun k hk => ?_⟩
  rw [e2]; exact h.2.2 k hk
theorem zt_stands {T : Nat → Nat} {l : Nat} {bt : zV} (h : zCt T l bt) {q c : Nat} (hq : q < 2 ^ 30) (hc : c < 2 ^ 30) : f_X8_stands bt (nI q) (nI c) = some (if q < l ∧ T q = c then 1 else 0) := by
  obtain ⟨hl, e0, ht⟩ := h
  unfold f_X8_stands
  rw [zp_within, zp_zb, e0]
  by_cases d : q < l
  · have hw : ¬ zw (nI q) 0 (nI l - 1) = 0 := by
      obtain ⟨m, rfl⟩ : ∃ m, l = m + 1 := ⟨l - 1, by omega⟩
      unfold zw
      rw [if_neg (nI_pos (by omega)), nI_pred, if_neg (nI_nlt (by omega) (by omega))]
      decide
    obtain ⟨t1, t2, t3⟩ := ht q d
    rw [if_neg hw, zp_zA (show q < 80 by omega) (by omega), nI_clamp (by omega), t3]
    by_cases d2 : T q = c
    · rw [if_pos (by rw [d2]), if_pos ⟨d, d2⟩]
    · rw [if_neg (fun r => d2 ((nI_eq (by omega) (by omega)).mp r)), if_neg (fun r => d2 r.2)]
  · have hw : zw (nI q) 0 (nI l - 1) = 0 := by
      rcases zw_has (nI q) (n := l) (by omega) with e | ⟨-, j, hj, e⟩
      · exact e
      · have := (nI_eq (by omega) (by omega)).mp e
        omega
    rw [if_pos hw, if_neg (fun r => d r.1)]
theorem zt_behind {T : Nat → Nat} {l : Nat} {bt : zV} (h : zCt T l bt) {p i : Nat} (hp : p < 2 ^ 29) (hi : i < 7) : ∃ r, f_X8_behindWord bt (nI p) i = some r ∧ ((zst T l p i ∧ r = nI (p + zlen i)) ∨ (¬ zst T l p i ∧ r = -1)) := by
  have hlen := zlen_0 ⟨i, hi⟩
  have hlen' : 4 ≤ zlen i ∧ zlen i ≤ 5 := hlen
  have hg : ∀ (k j n : Nat), j + k = zlen i → k < n → (∀ j', j' < j → p + j' < l ∧ T (p + j') = zB i j') → ∃ r, f_X8_behindWord_b2 bt (nI p) i n j = some r ∧ ((zst T l p i ∧ r = nI (p + zlen i)) ∨ (¬ zst T l p i ∧ r = -1)) := by
    intro k
    induction k with
    | zero =>
      intro j n e hn hj
      obtain ⟨n, rfl⟩ : ∃ m, n = m + 1 := ⟨n - 1, by omega⟩
      refine ⟨nI (p + zlen i), ?_, Or.inl ⟨fun j' hj' => hj j' (by omega), rfl⟩⟩
      rw [f_X8_behindWord_b2, if_pos (show zLen.getD i 0 ≤ j by show zlen i ≤ j; omega), show zLen.getD i 0 = zlen i from rfl, nI_add]
    | succ k ih =>
      intro j n e hn hj
      obtain ⟨n, rfl⟩ : ∃ m, n = m + 1 := ⟨n - 1, by omega⟩
      obtain ⟨c1, c2⟩ := zB_at0 ⟨i, hi⟩ ⟨j, by omega⟩
      have c1' : zCh i j = nI (zB i j) := c1
      have c2' : zB i j < 128 := c2
      rw [f_X8_behindWord_b2, if_neg (show ¬ zLen.getD i 0 ≤ j by show ¬ zlen i ≤ j; omega), nI_add, c1', zt_stands h (by omega) (by omega), zp_zb]
      by_cases d : p + j < l ∧ T (p + j) = zB i j
      · rw [if_pos d, if_neg (by decide)]
        refine ih (j + 1) n (by omega) (by omega) (fun j' hj' => ?_)
        by_cases q : j' = j
        · subst q; exact d
        · exact hj j' (by omega)
      · rw [if_neg d, if_pos rfl]
        exact ⟨-1, rfl, Or.inr ⟨fun q => d (q j (by omega)), rfl⟩⟩
  exact hg (zlen i) 0 10 (by omega) (by omega) (fun j' hj' => by omega)
theorem zt_digits {T : Nat → Nat} {l : Nat} {bt : zV} (h : zCt T l bt) : ∀ (k q n c : Nat), k = l - q → k < n → q < 2 ^ 30 → f_X8_digitsAt_b4 bt n (nI c) (nI q) = some (nI (c + nd T k q)) := by
  obtain ⟨hl, e0, ht⟩ := h
  intro k
  induction k with
  | zero =>
    intro q n c e hn hq
    obtain ⟨n, rfl⟩ : ∃ m, n = m + 1 := ⟨n - 1, by omega⟩
    rw [f_X8_digitsAt_b4, e0, if_pos (nI_le (by omega) (by omega))]
    rfl
  | succ k ih =>
    intro q n c e hn hq
    obtain ⟨n, rfl⟩ : ∃ m, n = m + 1 := ⟨n - 1, by omega⟩
    have hql : q < l := by omega
    obtain ⟨t1, t2, t3⟩ := ht q hql
    rw [f_X8_digitsAt_b4, e0, if_neg (nI_ge hql (by omega)), zp_zA (show q < 80 by omega) (by omega), nI_clamp (by omega), t3, zp_within, zp_zb, nI_1, nI_1]
    show _ = some (nI (c + if 48 ≤ T q ∧ T q ≤ 57 then 1 + nd T k (q + 1) else 0))
    by_cases d : 48 ≤ T q ∧ T q ≤ 57
    · have hw : zw (nI (T q)) 48 57 = 1 := by
        unfold zw
        rw [if_neg (show ¬ nI (T q) < (48 : Int32) from nI_nlt (b := 48) d.1 (by omega)), if_neg (show ¬ (57 : Int32) < nI (T q) from nI_nlt (a := 57) d.2 (by omega))]
      rw [hw, if_neg (by decide), if_pos d, ih (q + 1) n (c + 1) (by omega) (by omega) (by omega), Nat.add_assoc]
    · have hw : zw (nI (T q)) 48 57 = 0 := by
        unfold zw
        by_cases d1 : T q < 48
        · rw [if_pos (show nI (T q) < (48 : Int32) from nI_lt (b := 48) d1 (by omega))]
        · rw [if_neg (show ¬ nI (T q) < (48 : Int32) from nI_nlt (b := 48) (by omega) (by omega)), if_pos (show (57 : Int32) < nI (T q) from nI_lt (a := 57) (by omega) (by omega))]
      rw [hw, if_pos rfl, if_neg d, Nat.add_zero]
theorem zt_number {T : Nat → Nat} {l : Nat} {bt : zV} (h : zCt T l bt) {q0 d : Nat} : ∀ (k q n a : Nat), q + k = q0 + d → k < n → q0 + d ≤ l → (∀ i, i < k → 48 ≤ T (q + i)) → f_X8_numberAt_b5 bt n (nI q0) (nI d) (nI a) (nI q) = some (nI (vf T k q a)) := by
  obtain ⟨hl, e0, ht⟩ := h
  intro k
  induction k with
  | zero =>
    intro q n a e hn hb hd
    obtain ⟨n, rfl⟩ : ∃ m, n = m + 1 := ⟨n - 1, by omega⟩
    rw [f_X8_numberAt_b5, nI_add, if_pos (nI_le (by omega) (by omega))]
    rfl
  | succ k ih =>
    intro q n a e hn hb hd
    obtain ⟨n, rfl⟩ : ∃ m, n = m + 1 := ⟨n - 1, by omega⟩
    have hql : q < l := by omega
    obtain ⟨t1, t2, t3⟩ := ht q hql
    have h48 := hd 0 (by omega)
    rw [Nat.add_zero] at h48
    rw [f_X8_numberAt_b5, nI_add, if_neg (nI_ge (by omega) (by omega)), zp_zA (show q < 80 by omega) (by omega), nI_clamp (by omega), t3, show nI a * 10 = nI (a * 10) from pk_mul a 10, show nI (T q) - 48 = nI (T q - 48) from pk_sub (b := 48) h48, nI_add, nI_1]
    exact ih (q + 1) n (a * 10 + (T q - 48)) (by omega) (by omega) hb (fun i hi => by
      have := hd (i + 1) (by omega)
      rw [show q + 1 + i = q + (i + 1) by omega]; exact this)
theorem zw_14 {d : Nat} (hd : d < 2 ^ 30) : zw (nI d) 1 4 = if 1 ≤ d ∧ d ≤ 4 then 1 else 0 := by
  unfold zw
  by_cases d1 : d < 1
  · rw [if_pos (show nI d < (1 : Int32) from nI_lt (b := 1) d1 (by omega)), if_neg (fun q => by omega)]
  · rw [if_neg (show ¬ nI d < (1 : Int32) from nI_nlt (b := 1) (by omega) (by omega))]
    by_cases d2 : 4 < d
    · rw [if_pos (show (4 : Int32) < nI d from nI_lt (a := 4) d2 (by omega)), if_neg (fun q => by omega)]
    · rw [if_neg (show ¬ (4 : Int32) < nI d from nI_nlt (a := 4) (by omega) (by omega)), if_pos ⟨by omega, by omega⟩]
/-- the numbers, as the class reads them -/
theorem zt_numbers {T : Nat → Nat} {l m : Nat} (hm : m ≤ 5) : ∀ (k n f a : Nat) (bt : zV) (N : Nat → Nat), n + k = m → k < f → a < 2 ^ 29 → zCt T l bt → (∀ i, i < n → bt 1 i = nI (N i)) → ∃ r bt', f_X8_readNumbers_b5 f bt (nI m) (nI a) (nI n) = some (r, bt') ∧ (∀ b, b ≠ 1 → bt' b = bt b) ∧ match rdn T l k n a N with
    | none => r = -1
    | some (b, N') => r = nI b ∧ ∀ i, i < m → bt' 1 i = nI (N' i) := by
  intro k
  induction k with
  | zero =>
    intro n f a bt N e hf ha h hN
    obtain ⟨f, rfl⟩ : ∃ m, f = m + 1 := ⟨f - 1, by omega⟩
    rw [f_X8_readNumbers_b5, if_pos (nI_le (by omega) (by omega)), show (59 : Int32) = nI 59 from rfl, zt_stands h (by omega) (by omega), zp_zb]
    show ∃ (r : Int32) (bt' : zV), _ ∧ _ ∧ match (if a < l ∧ T a = 59 then some (a + 1, N) else none) with
      | none => r = -1
      | some (b, N') => r = nI b ∧ ∀ i, i < m → bt' 1 i = nI (N' i)
    by_cases d : a < l ∧ T a = 59
    · rw [if_pos d, if_pos d, if_neg (by decide), nI_1]
      exact ⟨_, bt, rfl, fun _ _ => rfl, rfl, fun i hi => hN i (by omega)⟩
    · rw [if_neg d, if_neg d, if_pos rfl]
      exact ⟨_, bt, rfl, fun _ _ => rfl, rfl⟩
  | succ k ih =>
    intro n f a bt N e hf ha h hN
    obtain ⟨f, rfl⟩ : ∃ m, f = m + 1 := ⟨f - 1, by omega⟩
    have hl := h.1
    have hnd := nd_le T (l - (a + 1)) (a + 1)
    have hdg : f_X8_digitsAt bt (nI a + 1) = some (nI (nd T (l - (a + 1)) (a + 1))) := by
      have := zt_digits h (l - (a + 1)) (a + 1) 1000 0 rfl (by omega) (by omega)
      rw [Nat.zero_add] at this
      rw [nI_1]
      exact this
    rw [f_X8_readNumbers_b5, if_neg (nI_ge (show n < m by omega) (by omega)), show (32 : Int32) = nI 32 from rfl, zt_stands h (by omega) (by omega), zp_zb]
    show ∃ (r : Int32) (bt' : zV), _ ∧ _ ∧ match (if a < l ∧ T a = 32 ∧ 1 ≤ nd T (l - (a + 1)) (a + 1) ∧ nd T (l - (a + 1)) (a + 1) ≤ 4 then rdn T l k (n + 1) (a + 1 + nd T (l - (a + 1)) (a + 1)) (fun i => if i = n then vf T (nd T (l - (a + 1)) (a + 1)) (a + 1) 0 else N i) else none) with
      | none => r = -1
      | some (b, N') => r = nI b ∧ ∀ i, i < m → bt' 1 i = nI (N' i)
    by_cases d : a < l ∧ T a = 32
    · rw [if_pos d, if_neg (by decide), hdg, zp_zb, zp_within, zp_zb, zw_14 (by omega)]
      by_cases d2 : 1 ≤ nd T (l - (a + 1)) (a + 1) ∧ nd T (l - (a + 1)) (a + 1) ≤ 4
      · have hnum : f_X8_numberAt bt (nI a + 1) (nI (nd T (l - (a + 1)) (a + 1))) = some (nI (vf T (nd T (l - (a + 1)) (a + 1)) (a + 1) 0)) := by
          have := zt_number h (q0 := a + 1) (d := nd T (l - (a + 1)) (a + 1)) (nd T (l - (a + 1)) (a + 1)) (a + 1) 1000 0 rfl (by omega) (by omega) (fun i hi => (nd_dig T _ _ i hi).1)
          rw [nI_1]
          exact this
        rw [if_pos d2, if_neg (by decide), hnum, zp_zb, zp_zA (show n < 5 by omega) (by omega), nI_clamp (by omega), if_pos ⟨d.1, d.2, d2⟩, show (1 : Int32) + nI (nd T (l - (a + 1)) (a + 1)) = nI (1 + nd T (l - (a + 1)) (a + 1)) from nI_add 1 _, nI_add, show a + (1 + nd T (l - (a + 1)) (a + 1)) = a + 1 + nd T (l - (a + 1)) (a + 1) by omega, nI_1]
        obtain ⟨r, bt', e1, p1, p2⟩ := ih (n + 1) f (a + 1 + nd T (l - (a + 1)) (a + 1)) (zu bt 1 (upd (bt 1) n (nI (vf T (nd T (l - (a + 1)) (a + 1)) (a + 1) 0)))) (fun i => if i = n then vf T (nd T (l - (a + 1)) (a + 1)) (a + 1) 0 else N i) (by omega) (by omega) (by omega) (zCt_fr h rfl rfl) (fun i hi => by
          show upd (bt 1) n _ i = _
          by_cases q : i = n
          · subst q; rw [pk_us, if_pos rfl]
          · rw [pk_un q, if_neg q]; exact hN i (by omega))
        exact ⟨r, bt', e1, fun b hb => (p1 b hb).trans (zu_ne hb), p2⟩
      · rw [if_neg d2, if_pos rfl, if_neg (fun q => d2 q.2.2)]
        exact ⟨_, bt, rfl, fun _ _ => rfl, rfl⟩
    · rw [if_neg d, if_pos rfl, if_neg (fun q => d ⟨q.1, q.2.1⟩)]
      exact ⟨_, bt, rfl, fun _ _ => rfl, rfl⟩
