/-! ===== pure: the relation of the two states ===== -/
theorem zp_loopd {α β : Type} (d : Nat) (F : Nat → α → Nat → Option β) (e : Nat) (step : Nat → α → α) (fin : α → Option β) (h0 : ∀ n a, F (n + 1) a e = fin a) (h1 : ∀ n i a, i < e → ∃ m, n ≤ m ∧ F (n + d) a i = F m (step i a) (i + 1)) : ∀ (k i n : Nat) (a : α), i + k = e → d * k < n → F n a i = fin (zit step i k a) := by
  intro k
  induction k with
  | zero =>
    intro i n a h hn
    obtain ⟨n, rfl⟩ : ∃ m, n = m + 1 := ⟨n - 1, by omega⟩
    obtain rfl : i = e := by omega
    exact h0 n a
  | succ k ih =>
    intro i n a h hn
    have hd : d * (k + 1) = d * k + d := Nat.mul_succ d k
    obtain ⟨n', rfl⟩ : ∃ m, n = m + d := ⟨n - d, by omega⟩
    obtain ⟨m, hm, e1⟩ := h1 n' i a (by omega)
    rw [e1, ih (i + 1) m (step i a) (by omega) (by omega)]
    rfl
/-- a certificate: none, or of a holder and a class there, for 1 to 9999 shares -/
def zRcert (nc nh : Nat) (a o n t s0 s1 s2 s3 : Int32) : Prop :=
  (n = 0 ∧ s0 = 0 ∧ s1 = 0 ∧ s2 = 0 ∧ s3 = 0) ∨
  ∃ h k m : Nat, h < nh ∧ k < nc ∧ 1 ≤ m ∧ m ≤ 9999 ∧ a = nI h ∧ o = nI k ∧ n = nI m ∧ s0 = nI (h + 1) ∧ s1 = nI k ∧ s2 = nI m ∧ s3 = t
def zRc (nc nh : Nat) (v : zV) (s : Nat → Int32) : Prop := ∀ c, c < 24 → zRcert nc nh (v 6 c) (v 7 c) (v 8 c) (v 9 c) (s (61 + 4 * c)) (s (62 + 4 * c)) (s (63 + 4 * c)) (s (64 + 4 * c))
/-- the terms of a class -/
def zRk (nc : Nat) (v : zV) (s : Nat → Int32) : Prop := ∀ k, k < nc → ∃ p m r d q : Nat, p ≤ 99 ∧ m ≤ 3 ∧ r ≤ 9 ∧ d ≤ 2 ∧ 1 ≤ q ∧ q ≤ 4 ∧ (k = 0 → p = 0 ∧ d = 0) ∧
  v 1 k = nI p ∧ v 2 k = nI m ∧ v 3 k = nI r ∧ v 4 k = nI d ∧ v 5 k = nI q ∧ s (28 + 5 * k) = nI p ∧ s (29 + 5 * k) = nI m ∧ s (30 + 5 * k) = nI r ∧ s (31 + 5 * k) = nI d ∧ s (32 + 5 * k) = nI q
/-- when a holder left: 0 if not, else the month and 1 -/
def zRh (nh tm : Nat) (v : zV) (s : Nat → Int32) : Prop := (∀ h, h < nh → ∃ lf : Nat, lf ≤ tm + 1 ∧ v 19 h = nI lf - 1 ∧ s (53 + h) = nI lf) ∧ ∀ h, nh ≤ h → h < 8 → s (53 + h) = 0
/-- what is vested of a grant -/
def zvest (tm lf sh cl te ma : Nat) : Nat :=
  let m := (if lf = 0 then tm else lf - 1) - ma
  if m < cl then 0 else if te ≤ m then sh else sh * m / te
def zRg (nh ng tm : Nat) (v : zV) (s : Nat → Int32) : Prop := (∀ g, g < ng → ∃ h sh st cl te ma ta lf : Nat, h < nh ∧ 1 ≤ sh ∧ sh ≤ 9999 ∧ st ≤ 99 ∧ 1 ≤ te ∧ te ≤ 60 ∧ cl ≤ te ∧ ma ≤ tm ∧ (lf = 0 ∨ ma + 1 ≤ lf) ∧ ta ≤ zvest tm lf sh cl te ma ∧ s (53 + h) = nI lf ∧ lf ≤ tm + 1 ∧
  v 10 g = nI h ∧ v 11 g = nI sh ∧ v 12 g = nI st ∧ v 13 g = nI cl ∧ v 14 g = nI te ∧ v 15 g = nI ma ∧ v 16 g = nI ta ∧
  s (157 + 7 * g) = nI h ∧ s (158 + 7 * g) = nI sh ∧ s (159 + 7 * g) = nI st ∧ s (160 + 7 * g) = nI cl ∧ s (161 + 7 * g) = nI te ∧ s (162 + 7 * g) = nI ta ∧ s (163 + 7 * g) = nI ma) ∧ ∀ g, ng ≤ g → g < 8 → s (162 + 7 * g) = 0
/-- the round that is on -/
def zRr (nc nh : Nat) (v : zV) (s : Nat → Int32) : Prop := (v 0 2 = 0 ∧ s 8 = 0) ∨ (v 0 2 = 1 ∧ s 8 = 1 ∧ ∃ o n d : Nat, 1 ≤ o ∧ o < nc ∧ 1 ≤ n ∧ n ≤ 9999 ∧ d < nh ∧ v 0 3 = nI o ∧ v 0 4 = nI n ∧ v 0 5 = nI d ∧ s 9 = nI o ∧ s 10 = nI n ∧ s 11 = nI d ∧
  ∀ h, h < 8 → ∃ r t : Nat, t ≤ r ∧ r ≤ 9999 ∧ (nh ≤ h → r = 0) ∧ v 17 h = nI r ∧ v 18 h = nI t ∧ s (12 + h) = nI r ∧ s (20 + h) = nI t)
def zRi (nc nh ng tm : Nat) (v : zV) (s : Nat → Int32) : Prop := 1 ≤ nc ∧ nc ≤ 5 ∧ nh ≤ 8 ∧ ng ≤ 8 ∧ tm ≤ 999 ∧ v 0 0 = nI nc ∧ v 0 6 = nI nh ∧ v 0 1 = nI ng ∧ v 0 7 = nI tm ∧ s 0 = nI nc ∧ s 1 = nI nh ∧ s 2 = nI ng ∧ s 3 = nI tm ∧ s 4 = v 0 8 ∧ s 5 = v 0 9 ∧ s 6 = v 0 10 ∧ s 7 = v 0 11
def zRn (nc nh ng tm : Nat) (v : zV) (s : Nat → Int32) : Prop := zRi nc nh ng tm v s ∧ zRk nc v s ∧ zRh nh tm v s ∧ zRc nc nh v s ∧ zRg nh ng tm v s ∧ zRr nc nh v s
def zR (v : zV) (s : Nat → Int32) : Prop := ∃ nc nh ng tm : Nat, zRn nc nh ng tm v s
/-! what the class reads of its certificates -/
theorem zp_sharesIn (v : zV) (x : Int32) : f_X0_sharesIn v x = some (zs (fun c => if v 7 c = x then v 8 c else 0) 0 24) := by
  have h := zp_loop (fun n (a : Int32) i => f_X0_sharesIn_b4 v n x a (nI i)) 24 (fun i a => a + if v 7 i = x then v 8 i else 0) some
    (fun n a => by
      show f_X0_sharesIn_b4 v (n + 1) x a (nI 24) = some a
      rw [f_X0_sharesIn_b4]
      exact if_pos (nI_le (Nat.le_refl 24) (by omega)))
    (fun n i a hi => by
      show f_X0_sharesIn_b4 v (n + 1) x a (nI i) = f_X0_sharesIn_b4 v n x (a + if v 7 i = x then v 8 i else 0) (nI (i + 1))
      have c : ¬ ((24 : Int32) ≤ nI i) := nI_ge (b := 24) hi (by omega)
      rw [f_X0_sharesIn_b4, if_neg c, zp_zA hi (by omega), nI_clamp (by omega), nI_succ]
      by_cases d : v 7 i = x
      · rw [if_pos d, if_pos d]
      · rw [if_neg d, if_neg d, Int32.add_zero]) 24 0 1000 0 (by omega) (by omega)
  rw [zit_sum, Int32.zero_add] at h
  exact h
theorem zp_sharesOwned (v : zV) (x y : Int32) : f_X0_sharesOwned v x y = some (zs (fun c => if v 7 c = y then (if v 6 c = x then v 8 c else 0) else 0) 0 24) := by
  have h := zp_loop (fun n (a : Int32) i => f_X0_sharesOwned_b5 v n x y a (nI i)) 24 (fun i a => a + if v 7 i = y then (if v 6 i = x then v 8 i else 0) else 0) some
    (fun n a => by
      show f_X0_sharesOwned_b5 v (n + 1) x y a (nI 24) = some a
      rw [f_X0_sharesOwned_b5]
      exact if_pos (nI_le (Nat.le_refl 24) (by omega)))
    (fun n i a hi => by
      show f_X0_sharesOwned_b5 v (n + 1) x y a (nI i) = f_X0_sharesOwned_b5 v n x y (a + if v 7 i = y then (if v 6 i = x then v 8 i else 0) else 0) (nI (i + 1))
      have c : ¬ ((24 : Int32) ≤ nI i) := nI_ge (b := 24) hi (by omega)
      rw [f_X0_sharesOwned_b5, if_neg c, zp_zA hi (by omega), nI_clamp (by omega), nI_succ]
      by_cases d : v 7 i = y
      · rw [if_pos d, if_pos d]
        by_cases d2 : v 6 i = x
        · rw [if_pos d2, if_pos d2]
        · rw [if_neg d2, if_neg d2, Int32.add_zero]
      · rw [if_neg d, if_neg d, Int32.add_zero]) 24 0 1000 0 (by omega) (by omega)
  rw [zit_sum, Int32.zero_add] at h
  exact h
theorem zp_sizeOf (v : zV) (x : Int32) : f_X0_sizeOf v x = some (zs (fun c => if v 8 c ≤ 0 then 0 else (if v 6 c = x then 1 else 0)) 0 24) := by
  have h := zp_loop (fun n (a : Int32) i => f_X0_sizeOf_b4 v n x a (nI i)) 24 (fun i a => a + if v 8 i ≤ 0 then 0 else (if v 6 i = x then 1 else 0)) some
    (fun n a => by
      show f_X0_sizeOf_b4 v (n + 1) x a (nI 24) = some a
      rw [f_X0_sizeOf_b4]
      exact if_pos (nI_le (Nat.le_refl 24) (by omega)))
    (fun n i a hi => by
      show f_X0_sizeOf_b4 v (n + 1) x a (nI i) = f_X0_sizeOf_b4 v n x (a + if v 8 i ≤ 0 then 0 else (if v 6 i = x then 1 else 0)) (nI (i + 1))
      have c : ¬ ((24 : Int32) ≤ nI i) := nI_ge (b := 24) hi (by omega)
      rw [f_X0_sizeOf_b4, if_neg c, zp_zA hi (by omega), nI_clamp (by omega), nI_succ]
      by_cases d : v 8 i ≤ 0
      · rw [if_pos d, if_pos d, Int32.add_zero]
      · rw [if_neg d, if_neg d]
        by_cases d2 : v 6 i = x
        · rw [if_pos d2, if_pos d2]
        · rw [if_neg d2, if_neg d2, Int32.add_zero]) 24 0 1000 0 (by omega) (by omega)
  rw [zit_sum, Int32.zero_add] at h
  exact h
theorem zp_certificatesOf (w : zV) (j : zJ) (x : Int32) : f_X10_certificatesOf w j x = some (zs (fun c => if w 1 (61 + 4 * c) = x + 1 then 1 else 0) 0 24) := by
  have h := zp_loop (fun n (a : Int32) i => f_X10_certificatesOf_b4 w j n x a (nI i)) 24 (fun i a => a + if w 1 (61 + 4 * i) = x + 1 then 1 else 0) some
    (fun n a => by
      show f_X10_certificatesOf_b4 w j (n + 1) x a (nI 24) = some a
      rw [f_X10_certificatesOf_b4]
      exact if_pos (nI_le (Nat.le_refl 24) (by omega)))
    (fun n i a hi => by
      show f_X10_certificatesOf_b4 w j (n + 1) x a (nI i) = f_X10_certificatesOf_b4 w j n x (a + if w 1 (61 + 4 * i) = x + 1 then 1 else 0) (nI (i + 1))
      have c : ¬ ((24 : Int32) ≤ nI i) := nI_ge (b := 24) hi (by omega)
      rw [f_X10_certificatesOf_b4, if_neg c, zp_cert0 w j hi, zp_zb, nI_succ]
      by_cases d : w 1 (61 + 4 * i) = x + 1
      · rw [if_pos d, if_pos d]
      · rw [if_neg d, if_neg d]) 24 0 1000 0 (by omega) (by omega)
  rw [zit_sum, Int32.zero_add] at h
  exact h
/-- the model's shares of a holder, or of all -/
theorem zp_sharesOfAll (w : zV) (j : zJ) (y : Int32) : f_X10_sharesOf w j (-1) y = some (zs (fun c => if w 1 (61 + 4 * c) ≤ 0 then 0 else (if w 1 (62 + 4 * c) = y then w 1 (63 + 4 * c) else 0)) 0 24) := by
  have h := zp_loopd 2 (fun n (a : Int32) i => f_X10_sharesOf_go w j n 0 (-1) y a (nI i)) 24 (fun i a => a + if w 1 (61 + 4 * i) ≤ 0 then 0 else (if w 1 (62 + 4 * i) = y then w 1 (63 + 4 * i) else 0)) some
    (fun n a => by
      show f_X10_sharesOf_go w j (n + 1) 0 (-1) y a (nI 24) = some a
      rw [f_X10_sharesOf_go]
      exact if_pos (nI_le (Nat.le_refl 24) (by omega)))
    (fun n i a hi => by
      have c : ¬ ((24 : Int32) ≤ nI i) := nI_ge (b := 24) hi (by omega)
      by_cases d : w 1 (61 + 4 * i) ≤ 0
      · refine ⟨n, Nat.le_refl n, ?_⟩
        show f_X10_sharesOf_go w j (n + 1 + 1) 0 (-1) y a (nI i) = _
        rw [f_X10_sharesOf_go, if_neg c, zp_cert0 w j hi, zp_zb, if_pos d, f_X10_sharesOf_go, if_pos rfl, if_pos d, nI_succ]
      · by_cases d2 : w 1 (62 + 4 * i) = y
        · refine ⟨n + 1, by omega, ?_⟩
          show f_X10_sharesOf_go w j (n + 1 + 1) 0 (-1) y a (nI i) = _
          rw [f_X10_sharesOf_go, if_neg c, zp_cert0 w j hi, zp_zb, if_neg d, zp_cert1 w j hi, zp_zb, if_pos d2, if_neg (by decide), if_pos (by decide), zp_cert2 w j hi, zp_zb, if_neg d, if_pos d2, nI_succ]
        · refine ⟨n, Nat.le_refl n, ?_⟩
          show f_X10_sharesOf_go w j (n + 1 + 1) 0 (-1) y a (nI i) = _
          rw [f_X10_sharesOf_go, if_neg c, zp_cert0 w j hi, zp_zb, if_neg d, zp_cert1 w j hi, zp_zb, if_neg d2, f_X10_sharesOf_go, if_pos rfl, if_neg d, if_neg d2, nI_succ]) 24 0 1000 0 (by omega) (by omega)
  rw [zit_sum, Int32.zero_add] at h
  exact h
theorem zp_sharesOfHolder (w : zV) (j : zJ) (x y : Int32) (hx : ¬ x < 0) : f_X10_sharesOf w j x y = some (zs (fun c => if w 1 (61 + 4 * c) ≤ 0 then 0 else (if w 1 (62 + 4 * c) = y then (if w 1 (61 + 4 * c) = x + 1 then w 1 (63 + 4 * c) else 0) else 0)) 0 24) := by
  have h := zp_loopd 2 (fun n (a : Int32) i => f_X10_sharesOf_go w j n 0 x y a (nI i)) 24 (fun i a => a + if w 1 (61 + 4 * i) ≤ 0 then 0 else (if w 1 (62 + 4 * i) = y then (if w 1 (61 + 4 * i) = x + 1 then w 1 (63 + 4 * i) else 0) else 0)) some
    (fun n a => by
      show f_X10_sharesOf_go w j (n + 1) 0 x y a (nI 24) = some a
      rw [f_X10_sharesOf_go]
      exact if_pos (nI_le (Nat.le_refl 24) (by omega)))
    (fun n i a hi => by
      have c : ¬ ((24 : Int32) ≤ nI i) := nI_ge (b := 24) hi (by omega)
      by_cases d : w 1 (61 + 4 * i) ≤ 0
      · refine ⟨n, Nat.le_refl n, ?_⟩
        show f_X10_sharesOf_go w j (n + 1 + 1) 0 x y a (nI i) = _
        rw [f_X10_sharesOf_go, if_neg c, zp_cert0 w j hi, zp_zb, if_pos d, f_X10_sharesOf_go, if_pos rfl, if_pos d, nI_succ]
      · by_cases d2 : w 1 (62 + 4 * i) = y
        · refine ⟨n + 1, by omega, ?_⟩
          show f_X10_sharesOf_go w j (n + 1 + 1) 0 x y a (nI i) = _
          rw [f_X10_sharesOf_go, if_neg c, zp_cert0 w j hi, zp_zb, if_neg d, zp_cert1 w j hi, zp_zb, if_pos d2, if_neg (by decide), if_neg hx, zp_zb, if_neg d, if_pos d2]
          by_cases d3 : w 1 (61 + 4 * i) = x + 1
          · rw [if_pos d3, zp_cert2 w j hi, zp_zb, if_pos d3, nI_succ]
          · rw [if_neg d3, if_neg d3, nI_succ]
        · refine ⟨n, Nat.le_refl n, ?_⟩
          show f_X10_sharesOf_go w j (n + 1 + 1) 0 x y a (nI i) = _
          rw [f_X10_sharesOf_go, if_neg c, zp_cert0 w j hi, zp_zb, if_neg d, zp_cert1 w j hi, zp_zb, if_neg d2, f_X10_sharesOf_go, if_pos rfl, if_neg d, if_neg d2, nI_succ]) 24 0 1000 0 (by omega) (by omega)
  rw [zit_sum, Int32.zero_add] at h
  exact h
