/-! ===== pure: guards, counting, certificates ===== -/
def zSim (v w : zV) (x y : Option (Int32 × zV)) : Prop := ∃ r v' w', x = some (r, v') ∧ y = some (r, w') ∧ (∀ k, k ≠ 1 → w' k = w k) ∧ (r < 0 → w' = w) ∧ (¬ r < 0 → zR v' (w' 1))
theorem zSim_no {v w : zV} (r : Int32) (h : r < 0) (v2 : zV) : zSim v w (some (r, v2)) (some (r, w)) := ⟨r, v2, w, rfl, rfl, fun _ _ => rfl, fun _ => rfl, fun q => absurd h q⟩
theorem zw_in (x : Int32) {a b : Nat} (ha : a < 2 ^ 31) (hb : b < 2 ^ 31) : zw x (nI a) (nI b) = 0 ∨ (zw x (nI a) (nI b) = 1 ∧ ∃ j : Nat, a ≤ j ∧ j ≤ b ∧ x = nI j) := by
  unfold zw
  by_cases h1 : x < nI a
  · exact Or.inl (if_pos h1)
  · by_cases h2 : nI b < x
    · exact Or.inl (by rw [if_neg h1, if_pos h2])
    · refine Or.inr ⟨by rw [if_neg h1, if_neg h2], ?_⟩
      have h0 : ¬ x < 0 := by
        intro q
        apply h1
        rw [Int32.lt_iff_toInt_lt] at q ⊢
        rw [nI_toInt ha]
        have : (0 : Int32).toInt = 0 := by decide
        omega
      obtain ⟨j, hj, rfl⟩ := nI_of h0
      exact ⟨j, Nat.le_of_not_lt (fun q => h1 ((nI_ltI hj ha).mpr q)), Nat.le_of_not_lt (fun q => h2 ((nI_ltI hb hj).mpr q)), rfl⟩
theorem zw_sh (x : Int32) : zw x 1 9999 = 0 ∨ (zw x 1 9999 = 1 ∧ ∃ j : Nat, 1 ≤ j ∧ j ≤ 9999 ∧ x = nI j) := zw_in x (a := 1) (b := 9999) (by omega) (by omega)
/-- a number below a size -/
theorem zw_has (x : Int32) {n : Nat} (hn : n < 2 ^ 31) : zw x 0 (nI n - 1) = 0 ∨ (zw x 0 (nI n - 1) = 1 ∧ ∃ j : Nat, j < n ∧ x = nI j) := by
  cases n with
  | zero =>
    refine Or.inl ?_
    unfold zw
    by_cases h : x < 0
    · exact if_pos h
    · rw [if_neg h]
      refine if_pos ?_
      obtain ⟨j, hj, rfl⟩ := nI_of h
      rw [Int32.lt_iff_toInt_lt, nI_toInt hj]
      have : (nI 0 - 1).toInt = -1 := by decide
      omega
  | succ n =>
    rw [nI_pred]
    rcases zw_in x (a := 0) (b := n) (by omega) (by omega) with e | ⟨e, j, -, h2, h3⟩
    · exact Or.inl e
    · exact Or.inr ⟨e, j, by omega, h3⟩
theorem zp_hasHolder (v : zV) {nh : Nat} (h : v 0 6 = nI nh) (x : Int32) : f_X2_hasHolder v x = some (zw x 0 (nI nh - 1)) := by
  unfold f_X2_hasHolder
  rw [zp_within, zp_zb, h]
theorem zp_hasClass (v : zV) {nc : Nat} (h : v 0 0 = nI nc) (x : Int32) : f_X2_hasClass v x = some (zw x 0 (nI nc - 1)) := by
  unfold f_X2_hasClass
  rw [zp_within, zp_zb, h]
theorem zp_hasGrant (v : zV) {ng : Nat} (h : v 0 1 = nI ng) (x : Int32) : f_X2_hasGrant v x = some (zw x 0 (nI ng - 1)) := by
  unfold f_X2_hasGrant
  rw [zp_within, zp_zb, h]
theorem zp_isHolder (w : zV) (j : zJ) {nh : Nat} (h : w 1 1 = nI nh) (x : Int32) : f_X10_isHolder w j x = some (zw x 0 (nI nh - 1)) := by
  unfold f_X10_isHolder
  rw [zp_in, zp_zb, show (1 : Int32).toNatClampNeg = 1 from by decide, h]
theorem zp_isClass (w : zV) (j : zJ) {nc : Nat} (h : w 1 0 = nI nc) (x : Int32) : f_X10_isClass w j x = some (zw x 0 (nI nc - 1)) := by
  unfold f_X10_isClass
  rw [zp_in, zp_zb, show (0 : Int32).toNatClampNeg = 0 from by decide, h]
theorem zp_isGrant (w : zV) (j : zJ) {ng : Nat} (h : w 1 2 = nI ng) (x : Int32) : f_X10_isGrant w j x = some (zw x 0 (nI ng - 1)) := by
  unfold f_X10_isGrant
  rw [zp_in, zp_zb, show (2 : Int32).toNatClampNeg = 2 from by decide, h]
theorem zp_isRound (w : zV) (j : zJ) : f_X10_isRound w j = some (if w 1 8 = 1 then 1 else 0) := by
  unfold f_X10_isRound
  rw [show (8 : Int32).toNatClampNeg = 8 from by decide]
  by_cases h : w 1 8 = 1
  · rw [if_pos h, if_pos h]
  · rw [if_neg h, if_neg h]
theorem zp_zl {α β : Type} (x : α) (k : α → Option β) : zl x k = k x := rfl
/-! counting -/
def zc (p : Nat → Bool) : Nat → Nat → Nat
  | _, 0 => 0
  | i, k + 1 => (if p i = true then 1 else 0) + zc p (i + 1) k
theorem zs_zc (g : Nat → Int32) (p : Nat → Bool) : ∀ (k i : Nat), (∀ j, i ≤ j → j < i + k → g j = if p j = true then 1 else 0) → zs g i k = nI (zc p i k) := by
  intro k
  induction k with
  | zero => intro i _; rfl
  | succ k ih =>
    intro i h
    show g i + zs g (i + 1) k = nI ((if p i = true then 1 else 0) + zc p (i + 1) k)
    rw [h i (Nat.le_refl i) (by omega), ih (i + 1) (fun j h1 h2 => h j (by omega) (by omega)), ← nI_add]
    by_cases d : p i = true
    · rw [if_pos d, if_pos d]; rfl
    · rw [if_neg d, if_neg d]; rfl
theorem zc_le (p : Nat → Bool) : ∀ (k i : Nat), zc p i k ≤ k := by
  intro k
  induction k with
  | zero => intro i; exact Nat.le_refl 0
  | succ k ih =>
    intro i
    show (if p i = true then 1 else 0) + zc p (i + 1) k ≤ k + 1
    have := ih (i + 1)
    split <;> omega
theorem zc_lt (p : Nat → Bool) : ∀ (k i : Nat), zc p i k < k → ∃ j, i ≤ j ∧ j < i + k ∧ p j = false ∧ ∀ l, i ≤ l → l < j → p l = true := by
  intro k
  induction k with
  | zero => intro i h; omega
  | succ k ih =>
    intro i h
    by_cases d : p i = true
    · have h2 : (if p i = true then 1 else 0) + zc p (i + 1) k < k + 1 := h
      rw [if_pos d] at h2
      obtain ⟨j, h3, h4, h5, h6⟩ := ih (i + 1) (by omega)
      refine ⟨j, by omega, by omega, h5, fun l h7 h8 => ?_⟩
      by_cases e : l = i
      · rw [e]; exact d
      · exact h6 l (by omega) h8
    · exact ⟨i, Nat.le_refl i, by omega, by simpa using d, fun l h7 h8 => by omega⟩
theorem zc_congr {p q : Nat → Bool} : ∀ (k i : Nat), (∀ j, i ≤ j → j < i + k → p j = q j) → zc p i k = zc q i k := by
  intro k
  induction k with
  | zero => intro i _; rfl
  | succ k ih =>
    intro i h
    show (if p i = true then 1 else 0) + zc p (i + 1) k = (if q i = true then 1 else 0) + zc q (i + 1) k
    rw [h i (Nat.le_refl i) (by omega), ih (i + 1) (fun j h1 h2 => h j (by omega) (by omega))]
theorem zc_set {p q : Nat → Bool} {c : Nat} (h0 : p c = false) (h1 : q c = true) : ∀ (k i : Nat), i ≤ c → c < i + k → (∀ j, j ≠ c → q j = p j) → zc q i k = zc p i k + 1 := by
  intro k
  induction k with
  | zero => intro i a b; omega
  | succ k ih =>
    intro i a b h
    show (if q i = true then 1 else 0) + zc q (i + 1) k = (if p i = true then 1 else 0) + zc p (i + 1) k + 1
    by_cases e : i = c
    · subst e
      rw [h1, h0, zc_congr k (i + 1) (fun j h2 _ => h j (by omega))]
      simp only [if_true, Bool.false_eq_true, if_false]
      omega
    · rw [h i e, ih (i + 1) (by omega) (by omega) h]
      omega
/-- a certificate that there is -/
def zus (v : zV) (c : Nat) : Bool := !decide (v 8 c ≤ 0)
def zcn (v : zV) : Nat := zc (zus v) 0 24
theorem zcn_le (v : zV) : zcn v ≤ 24 := zc_le _ 24 0
theorem zp_size2 (v : zV) : f_X0_size v = some (nI (zcn v)) := by
  rw [zp_size]
  refine congrArg some (zs_zc _ (zus v) 24 0 (fun j _ _ => ?_))
  show (if v 8 j ≤ 0 then (0 : Int32) else 1) = if (!decide (v 8 j ≤ 0)) = true then 1 else 0
  by_cases h : v 8 j ≤ 0
  · rw [if_pos h, decide_eq_true h]; rfl
  · rw [if_neg h, decide_eq_false h]; rfl
theorem zp_certificates2 (w : zV) (j : zJ) {nc nh : Nat} {v : zV} (hc : nh ≤ 8) (h : zRc nc nh v (w 1)) : f_X10_certificates w j = some (nI (zcn v)) := by
  rw [zp_certificates, ← zr_size hc h]
  have h2 := zp_size2 v
  rw [zp_size] at h2
  exact h2
/-- a new certificate, on the class's side and on the model's -/
def zadd (v : zV) (c : Nat) (a b m t : Int32) : zV := zu (zu (zu (zu v 6 (upd (v 6) c a)) 7 (upd (v 7) c b)) 8 (upd (v 8) c m)) 9 (upd (v 9) c t)
def zmk (s : Nat → Int32) (c : Nat) (a b m t : Int32) : Nat → Int32 := upd (upd (upd (upd s (61 + 4 * c) (a + 1)) (62 + 4 * c) b) (63 + 4 * c) m) (64 + 4 * c) t
theorem zmk_out {s : Nat → Int32} {c i : Nat} {a b m t : Int32} (h : i < 61 + 4 * c ∨ 65 + 4 * c ≤ i) : zmk s c a b m t i = s i :=
  Eq.trans (pk_un (by omega)) (Eq.trans (pk_un (by omega)) (Eq.trans (pk_un (by omega)) (pk_un (by omega))))
theorem zp_add (v : zV) (a b m t : Int32) {c : Nat} (hc : c < 24) (h0 : v 8 c = 0) (hb : ∀ i, i < c → ¬ v 8 i = 0) : f_X0_add v a b m t = some (nI c, zadd v c a b m t) := by
  have h : ∀ (k i n : Nat), i + k = c → k < n → f_X0_add_b3 n v a b m t (nI i) = some (nI c, zadd v c a b m t) := by
    intro k
    induction k with
    | zero =>
      intro i n e hn
      obtain ⟨n, rfl⟩ : ∃ q, n = q + 1 := ⟨n - 1, by omega⟩
      obtain rfl : i = c := by omega
      rw [f_X0_add_b3, if_neg (show ¬ ((24 : Int32) ≤ nI i) from nI_ge (b := 24) hc (by omega)), zp_zA hc (by omega), nI_clamp (by omega), if_pos h0]
      rfl
    | succ k ih =>
      intro i n e hn
      obtain ⟨n, rfl⟩ : ∃ q, n = q + 1 := ⟨n - 1, by omega⟩
      rw [f_X0_add_b3, if_neg (show ¬ ((24 : Int32) ≤ nI i) from nI_ge (b := 24) (by omega) (by omega)), zp_zA (by omega) (by omega), nI_clamp (by omega), if_neg (hb i (by omega)), ← nI_succ]
      exact ih (i + 1) n (by omega) (by omega)
  exact h c 0 1000 (by omega) (by omega)
theorem zp_61 (c k : Nat) : ((61 : Int32) + 4 * nI c) + nI k = nI (61 + 4 * c + k) := by
  rw [show (61 : Int32) = nI 61 from rfl, show (4 : Int32) = nI 4 from rfl, pk_mul, nI_add, nI_add]
theorem zp_makes (w : zV) (j : zJ) (a b m : Int32) {c : Nat} (hc : c < 24) (h0 : w 1 (61 + 4 * c) ≤ 0) (hb : ∀ i, i < c → ¬ w 1 (61 + 4 * i) ≤ 0) : f_X10_makes w j a b m = some (nI c, zu w 1 (zmk (w 1) c a b m (w 1 3))) := by
  have h : ∀ (k n : Nat) (f : Int32), k ≤ 24 → k < n → (if c < k then nI c else f) = nI c → f_X10_makes_b7 j n w a b m f (nI k - 1) = some (nI c, zu w 1 (zmk (w 1) c a b m (w 1 3))) := by
    intro k
    induction k with
    | zero =>
      intro n f _ hn e
      obtain ⟨n, rfl⟩ : ∃ q, n = q + 1 := ⟨n - 1, by omega⟩
      rw [if_neg (by omega)] at e
      subst e
      rw [f_X10_makes_b7, if_pos (by decide)]
      have e0 : ((61 : Int32) + 4 * nI c) + 0 = nI (61 + 4 * c) := zp_61 c 0
      have e1 : ((61 : Int32) + 4 * nI c) + 1 = nI (62 + 4 * c) := by rw [show 62 + 4 * c = 61 + 4 * c + 1 by omega]; exact zp_61 c 1
      have e2 : ((61 : Int32) + 4 * nI c) + 2 = nI (63 + 4 * c) := by rw [show 63 + 4 * c = 61 + 4 * c + 2 by omega]; exact zp_61 c 2
      have e3 : ((61 : Int32) + 4 * nI c) + 3 = nI (64 + 4 * c) := by rw [show 64 + 4 * c = 61 + 4 * c + 3 by omega]; exact zp_61 c 3
      rw [e0, e1, e2, e3]
      rw [zp_zA (by omega) (by omega), zp_zl, zp_zA (by omega) (by omega), zp_zl, zp_zA (by omega) (by omega), zp_zl, zp_zA (by omega) (by omega), zp_zl, nI_clamp (by omega), nI_clamp (by omega), nI_clamp (by omega), nI_clamp (by omega), show (3 : Int32).toNatClampNeg = 3 from by decide]
      have e4 : (upd (upd (upd (w 1) (61 + 4 * c) (a + 1)) (62 + 4 * c) b) (63 + 4 * c) m) 3 = w 1 3 := Eq.trans (pk_un (by omega)) (Eq.trans (pk_un (by omega)) (pk_un (by omega)))
      rw [e4]
      rfl
    | succ k ih =>
      intro n f hk hn e
      obtain ⟨n, rfl⟩ : ∃ q, n = q + 1 := ⟨n - 1, by omega⟩
      rw [f_X10_makes_b7, nI_pred, if_neg (nI_pos (by omega)), zp_cert0 w j (by omega), zp_zb]
      have e5 : nI k + (-1) = nI k - 1 := by rw [Int32.sub_eq_add_neg]
      rw [e5]
      by_cases d : w 1 (61 + 4 * k) ≤ 0
      · rw [if_pos d]
        refine ih n (nI k) (by omega) (by omega) ?_
        by_cases d2 : c < k
        · rw [if_pos d2]
        · have : k = c := by
            by_cases d3 : k = c
            · exact d3
            · exact absurd d (hb k (by omega))
          rw [if_neg d2, this]
      · rw [if_neg d]
        refine ih n f (by omega) (by omega) ?_
        have d1 : k ≠ c := fun q => d (q ▸ h0)
        by_cases d2 : c < k
        · rw [if_pos d2]
        · rw [if_neg d2]
          rw [if_neg (by omega)] at e
          exact e
  have h2 := h 24 1000 (-1) (by omega) (by omega) (by rw [if_pos hc])
  exact h2
/-- both make the same certificate -/
theorem zr_make {nc nh : Nat} {v : zV} {s : Nat → Int32} (hnh : nh ≤ 8) (h : zRc nc nh v s) (hf : zcn v < 24) : ∃ c, c < 24 ∧ v 8 c = 0 ∧ (∀ i, i < c → ¬ v 8 i = 0) ∧ s (61 + 4 * c) ≤ 0 ∧ (∀ i, i < c → ¬ s (61 + 4 * i) ≤ 0) := by
  obtain ⟨c, -, h1, h2, h3⟩ := zc_lt (zus v) 24 0 hf
  have hc : c < 24 := by omega
  have h4 : v 8 c ≤ 0 := by simpa [zus] using h2
  refine ⟨c, hc, ?_, ?_, ?_, ?_⟩
  · rcases h c hc with ⟨e1, -⟩ | ⟨a, k, m, -, -, h5, h6, -, -, e3, -⟩
    · exact e1
    · exact absurd (e3 ▸ h4) (zp_le0 (by omega) (by omega))
  · intro i hi q
    have h5 := h3 i (by omega) hi
    have h6 : ¬ v 8 i ≤ 0 := by simpa [zus] using h5
    exact h6 (by rw [q]; decide)
  · rcases h c hc with ⟨-, e2, -⟩ | ⟨a, k, m, -, -, h5, h6, -, -, e3, -⟩
    · rw [e2]; decide
    · exact absurd (e3 ▸ h4) (zp_le0 (by omega) (by omega))
  · intro i hi
    have h5 := h3 i (by omega) hi
    have h6 : ¬ v 8 i ≤ 0 := by simpa [zus] using h5
    rcases h i (by omega) with ⟨e1, -⟩ | ⟨a, k, m, h7, -, -, -, -, -, -, e4, -⟩
    · exact absurd (by rw [e1]; decide) h6
    · rw [e4]; exact zp_le0 (by omega) (by omega)
theorem zadd6 {v : zV} {c d : Nat} {a b m t : Int32} (h : d ≠ c) : zadd v c a b m t 6 d = v 6 d := pk_un h
theorem zadd7 {v : zV} {c d : Nat} {a b m t : Int32} (h : d ≠ c) : zadd v c a b m t 7 d = v 7 d := pk_un h
theorem zadd8 {v : zV} {c d : Nat} {a b m t : Int32} (h : d ≠ c) : zadd v c a b m t 8 d = v 8 d := pk_un h
theorem zadd9 {v : zV} {c d : Nat} {a b m t : Int32} (h : d ≠ c) : zadd v c a b m t 9 d = v 9 d := pk_un h
theorem zr_made {nc nh : Nat} {v : zV} {s : Nat → Int32} (h : zRc nc nh v s) {c a b m : Nat} {t : Int32} (ha : a < nh) (hb : b < nc) (h1 : 1 ≤ m) (h2 : m ≤ 9999) : zRc nc nh (zadd v c (nI a) (nI b) (nI m) t) (zmk s c (nI a) (nI b) (nI m) t) := by
  intro d hd
  by_cases e : d = c
  · subst e
    refine Or.inr ⟨a, b, m, ha, hb, h1, h2, pk_us, pk_us, pk_us, ?_, ?_, ?_, ?_⟩
    · rw [nI_succ]; exact Eq.trans (pk_un (by omega)) (Eq.trans (pk_un (by omega)) (Eq.trans (pk_un (by omega)) pk_us))
    · exact Eq.trans (pk_un (by omega)) (Eq.trans (pk_un (by omega)) pk_us)
    · exact Eq.trans (pk_un (by omega)) pk_us
    · exact Eq.trans pk_us (Eq.symm pk_us)
  · rw [zadd6 e, zadd7 e, zadd8 e, zadd9 e, zmk_out (by omega), zmk_out (by omega), zmk_out (by omega), zmk_out (by omega)]
    exact h d hd
theorem zcn_add {v : zV} {c : Nat} {a b t : Int32} {m : Nat} (hc : c < 24) (h0 : v 8 c = 0) (h1 : 1 ≤ m) (h2 : m ≤ 9999) : zcn (zadd v c a b (nI m) t) = zcn v + 1 := by
  refine zc_set (c := c) ?_ ?_ 24 0 (by omega) (by omega) (fun j hj => ?_)
  · show (!decide (v 8 c ≤ 0)) = false
    rw [h0]; rfl
  · show (!decide (zadd v c a b (nI m) t 8 c ≤ 0)) = true
    rw [show zadd v c a b (nI m) t 8 c = nI m from pk_us, decide_eq_false (zp_le0 (by omega) (by omega))]; rfl
  · show (!decide (zadd v c a b (nI m) t 8 j ≤ 0)) = !decide (v 8 j ≤ 0)
    rw [zadd8 hj]
