/-! ===== pure: numbers, loops, sums ===== -/
theorem zp_zA {β : Type} {a n : Nat} {K : Option β} (h : a < n) (hn : n < 2 ^ 31) : zA (nI a) n K = K := by
  unfold zA
  rw [if_neg (nI_in h hn)]
theorem zp_zb {α β : Type} (a : α) (k : α → Option β) : zb (some a) k = k a := rfl
/-- a value handed on step by step -/
def zit {α : Type} (step : Nat → α → α) : Nat → Nat → α → α
  | _, 0, a => a
  | i, k + 1, a => zit step (i + 1) k (step i a)
theorem zp_loop {α β : Type} (F : Nat → α → Nat → Option β) (e : Nat) (step : Nat → α → α) (fin : α → Option β) (h0 : ∀ n a, F (n + 1) a e = fin a) (h1 : ∀ n i a, i < e → F (n + 1) a i = F n (step i a) (i + 1)) : ∀ (k i n : Nat) (a : α), i + k = e → k < n → F n a i = fin (zit step i k a) := by
  intro k
  induction k with
  | zero =>
    intro i n a h hn
    obtain ⟨n, rfl⟩ : ∃ m, n = m + 1 := ⟨n - 1, by omega⟩
    obtain rfl : i = e := by omega
    exact h0 n a
  | succ k ih =>
    intro i n a h hn
    obtain ⟨n, rfl⟩ : ∃ m, n = m + 1 := ⟨n - 1, by omega⟩
    rw [h1 n i a (by omega), ih (i + 1) n (step i a) (by omega) (by omega)]
    rfl
theorem zit_congr {α : Type} {f g : Nat → α → α} : ∀ (k i : Nat) (a : α), (∀ j b, i ≤ j → j < i + k → f j b = g j b) → zit f i k a = zit g i k a := by
  intro k
  induction k with
  | zero => intro i a _; rfl
  | succ k ih =>
    intro i a h
    show zit f (i + 1) k (f i a) = zit g (i + 1) k (g i a)
    rw [h i a (Nat.le_refl i) (by omega)]
    exact ih (i + 1) (g i a) (fun j b h1 h2 => h j b (by omega) (by omega))
/-- a sum of k places from i on -/
def zs (g : Nat → Int32) : Nat → Nat → Int32
  | _, 0 => 0
  | i, k + 1 => g i + zs g (i + 1) k
theorem zit_sum (g : Nat → Int32) : ∀ (k i : Nat) (a : Int32), zit (fun i a => a + g i) i k a = a + zs g i k := by
  intro k
  induction k with
  | zero => intro i a; exact (Int32.add_zero a).symm
  | succ k ih =>
    intro i a
    show zit (fun i a => a + g i) (i + 1) k (a + g i) = a + (g i + zs g (i + 1) k)
    rw [ih, Int32.add_assoc]
theorem zs_congr {f g : Nat → Int32} : ∀ (k i : Nat), (∀ j, i ≤ j → j < i + k → f j = g j) → zs f i k = zs g i k := by
  intro k
  induction k with
  | zero => intro i _; rfl
  | succ k ih =>
    intro i h
    show f i + zs f (i + 1) k = g i + zs g (i + 1) k
    rw [h i (Nat.le_refl i) (by omega), ih (i + 1) (fun j h1 h2 => h j (by omega) (by omega))]
/-- within: 1 or 0 -/
def zw (x a b : Int32) : Int32 := if x < a then 0 else if b < x then 0 else 1
theorem zp_within (x a b : Int32) : f_X9_within x a b = some (zw x a b) := by
  unfold f_X9_within zw
  by_cases h : x < a
  · rw [if_pos h, if_pos h]
  · rw [if_neg h, if_neg h]
    by_cases h2 : b < x
    · rw [if_pos h2, if_pos h2]
    · rw [if_neg h2, if_neg h2]
theorem zp_in (x a b : Int32) : f_X10_in x a b = some (zw x a b) := zp_within x a b
theorem zp_cert (w : zV) (j : zJ) {c k : Nat} (hc : c < 24) (hk : k < 4) : f_X10_ofCertificate w j (nI c) (nI k) = some (w 1 (61 + 4 * c + k)) := by
  unfold f_X10_ofCertificate
  rw [show ((61 : Int32) + 4 * nI c) + nI k = nI (61 + 4 * c + k) by rw [show (61 : Int32) = nI 61 from rfl, show (4 : Int32) = nI 4 from rfl, pk_mul, nI_add, nI_add]]
  rw [zp_zA (by omega) (by omega), nI_clamp (by omega)]
theorem zp_cert0 (w : zV) (j : zJ) {c : Nat} (hc : c < 24) : f_X10_ofCertificate w j (nI c) 0 = some (w 1 (61 + 4 * c)) := zp_cert w j hc (k := 0) (by omega)
theorem zp_cert1 (w : zV) (j : zJ) {c : Nat} (hc : c < 24) : f_X10_ofCertificate w j (nI c) 1 = some (w 1 (62 + 4 * c)) := by
  have h := zp_cert w j hc (k := 1) (by omega)
  rw [show 61 + 4 * c + 1 = 62 + 4 * c by omega] at h
  exact h
theorem zp_cert2 (w : zV) (j : zJ) {c : Nat} (hc : c < 24) : f_X10_ofCertificate w j (nI c) 2 = some (w 1 (63 + 4 * c)) := by
  have h := zp_cert w j hc (k := 2) (by omega)
  rw [show 61 + 4 * c + 2 = 63 + 4 * c by omega] at h
  exact h
theorem zp_class (w : zV) (j : zJ) {c k : Nat} (hc : c < 5) (hk : k < 5) : f_X10_ofClass w j (nI c) (nI k) = some (w 1 (28 + 5 * c + k)) := by
  unfold f_X10_ofClass
  rw [show ((28 : Int32) + 5 * nI c) + nI k = nI (28 + 5 * c + k) by rw [show (28 : Int32) = nI 28 from rfl, show (5 : Int32) = nI 5 from rfl, pk_mul, nI_add, nI_add]]
  rw [zp_zA (by omega) (by omega), nI_clamp (by omega)]
theorem zp_grant (w : zV) (j : zJ) {c k : Nat} (hc : c < 8) (hk : k < 7) : f_X10_ofGrant w j (nI c) (nI k) = some (w 1 (157 + 7 * c + k)) := by
  unfold f_X10_ofGrant
  rw [show ((157 : Int32) + 7 * nI c) + nI k = nI (157 + 7 * c + k) by rw [show (157 : Int32) = nI 157 from rfl, show (7 : Int32) = nI 7 from rfl, pk_mul, nI_add, nI_add]]
  rw [zp_zA (by omega) (by omega), nI_clamp (by omega)]
theorem zp_size (v : zV) : f_X0_size v = some (zs (fun c => if v 8 c ≤ 0 then 0 else 1) 0 24) := by
  have h := zp_loop (fun n (a : Int32) i => f_X0_size_b4 v n a (nI i)) 24 (fun i a => a + if v 8 i ≤ 0 then 0 else 1) some
    (fun n a => by
      show f_X0_size_b4 v (n + 1) a (nI 24) = some a
      rw [f_X0_size_b4]
      exact if_pos (nI_le (Nat.le_refl 24) (by omega)))
    (fun n i a hi => by
      show f_X0_size_b4 v (n + 1) a (nI i) = f_X0_size_b4 v n (a + if v 8 i ≤ 0 then 0 else 1) (nI (i + 1))
      have c : ¬ ((24 : Int32) ≤ nI i) := nI_ge (b := 24) hi (by omega)
      rw [f_X0_size_b4, if_neg c, zp_zA hi (by omega), nI_clamp (by omega), nI_succ]
      by_cases d : v 8 i ≤ 0
      · rw [if_pos d, if_pos d, Int32.add_zero]
      · rw [if_neg d, if_neg d]) 24 0 1000 0 (by omega) (by omega)
  rw [zit_sum, Int32.zero_add] at h
  exact h
theorem zp_certificates (w : zV) (j : zJ) : f_X10_certificates w j = some (zs (fun c => if w 1 (61 + 4 * c) ≤ 0 then 0 else 1) 0 24) := by
  have h := zp_loop (fun n (a : Int32) i => f_X10_certificates_b4 w j n a (nI i)) 24 (fun i a => a + if w 1 (61 + 4 * i) ≤ 0 then 0 else 1) some
    (fun n a => by
      show f_X10_certificates_b4 w j (n + 1) a (nI 24) = some a
      rw [f_X10_certificates_b4]
      exact if_pos (nI_le (Nat.le_refl 24) (by omega)))
    (fun n i a hi => by
      show f_X10_certificates_b4 w j (n + 1) a (nI i) = f_X10_certificates_b4 w j n (a + if w 1 (61 + 4 * i) ≤ 0 then 0 else 1) (nI (i + 1))
      have c : ¬ ((24 : Int32) ≤ nI i) := nI_ge (b := 24) hi (by omega)
      rw [f_X10_certificates_b4, if_neg c, zp_cert0 w j hi, zp_zb, nI_succ]
      by_cases d : w 1 (61 + 4 * i) ≤ 0
      · rw [if_pos d, if_pos d]
      · rw [if_neg d, if_neg d]) 24 0 1000 0 (by omega) (by omega)
  rw [zit_sum, Int32.zero_add] at h
  exact h
