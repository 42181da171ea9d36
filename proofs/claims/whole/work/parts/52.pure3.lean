/-! ===== pure: what both sides read alike ===== -/
theorem zp_add1 {a b : Int32} (h : a + 1 = b + 1) : a = b := by
  have h2 := congrArg (· - 1) h
  simpa [Int32.add_sub_cancel] using h2
theorem zp_le0 {n : Nat} (h0 : 0 < n) (h : n < 2 ^ 31) : ¬ nI n ≤ 0 := nI_nle h0 h
theorem zr_size {nc nh : Nat} {v : zV} {s : Nat → Int32} (hc : nh ≤ 8) (h : zRc nc nh v s) : zs (fun c => if v 8 c ≤ 0 then (0 : Int32) else 1) 0 24 = zs (fun c => if s (61 + 4 * c) ≤ 0 then (0 : Int32) else 1) 0 24 := by
  refine zs_congr 24 0 (fun c _ h2 => ?_)
  show (if v 8 c ≤ 0 then (0 : Int32) else 1) = if s (61 + 4 * c) ≤ 0 then (0 : Int32) else 1
  rcases h c (by omega) with ⟨e1, e2, -⟩ | ⟨a, k, m, h3, h4, h5, h6, e1, e2, e3, e4, e5, e6, e7⟩
  · rw [e1, e2]
  · rw [e3, e4, if_neg (zp_le0 (by omega) (by omega)), if_neg (zp_le0 (by omega) (by omega))]
theorem zr_sharesIn {nc nh : Nat} {v : zV} {s : Nat → Int32} (hc : nh ≤ 8) (h : zRc nc nh v s) (y : Int32) : zs (fun c => if v 7 c = y then v 8 c else 0) 0 24 = zs (fun c => if s (61 + 4 * c) ≤ 0 then 0 else (if s (62 + 4 * c) = y then s (63 + 4 * c) else 0)) 0 24 := by
  refine zs_congr 24 0 (fun c _ h2 => ?_)
  show (if v 7 c = y then v 8 c else 0) = if s (61 + 4 * c) ≤ 0 then 0 else (if s (62 + 4 * c) = y then s (63 + 4 * c) else 0)
  rcases h c (by omega) with ⟨e1, e2, -⟩ | ⟨a, k, m, h3, h4, h5, h6, e1, e2, e3, e4, e5, e6, e7⟩
  · rw [e1, e2, if_pos (show (0 : Int32) ≤ 0 by decide)]
    by_cases d : v 7 c = y
    · rw [if_pos d]
    · rw [if_neg d]
  · rw [e2, e3, e4, e5, e6, if_neg (zp_le0 (by omega) (by omega))]
theorem zr_sharesOwned {nc nh : Nat} {v : zV} {s : Nat → Int32} (hc : nh ≤ 8) (h : zRc nc nh v s) (x y : Int32) : zs (fun c => if v 7 c = y then (if v 6 c = x then v 8 c else 0) else 0) 0 24 = zs (fun c => if s (61 + 4 * c) ≤ 0 then 0 else (if s (62 + 4 * c) = y then (if s (61 + 4 * c) = x + 1 then s (63 + 4 * c) else 0) else 0)) 0 24 := by
  refine zs_congr 24 0 (fun c _ h2 => ?_)
  show (if v 7 c = y then (if v 6 c = x then v 8 c else 0) else 0) = if s (61 + 4 * c) ≤ 0 then 0 else (if s (62 + 4 * c) = y then (if s (61 + 4 * c) = x + 1 then s (63 + 4 * c) else 0) else 0)
  rcases h c (by omega) with ⟨e1, e2, -⟩ | ⟨a, k, m, h3, h4, h5, h6, e1, e2, e3, e4, e5, e6, e7⟩
  · rw [e1, e2, if_pos (show (0 : Int32) ≤ 0 by decide)]
    by_cases d : v 7 c = y
    · rw [if_pos d]
      by_cases d2 : v 6 c = x
      · rw [if_pos d2]
      · rw [if_neg d2]
    · rw [if_neg d]
  · rw [e1, e2, e3, e4, e5, e6, if_neg (zp_le0 (by omega) (by omega))]
    by_cases d : nI k = y
    · rw [if_pos d, if_pos d]
      by_cases d2 : nI a = x
      · rw [if_pos d2, if_pos (by rw [nI_succ, d2])]
      · rw [if_neg d2, if_neg (fun q => d2 (zp_add1 (by rw [← nI_succ]; exact q)))]
    · rw [if_neg d, if_neg d]
theorem zr_sizeOf {nc nh : Nat} {v : zV} {s : Nat → Int32} (hc : nh ≤ 8) (h : zRc nc nh v s) {x : Nat} (hx : x < 8) : zs (fun c => if v 8 c ≤ 0 then (0 : Int32) else (if v 6 c = nI x then 1 else 0)) 0 24 = zs (fun c => if s (61 + 4 * c) = nI x + 1 then (1 : Int32) else 0) 0 24 := by
  refine zs_congr 24 0 (fun c _ h2 => ?_)
  show (if v 8 c ≤ 0 then (0 : Int32) else (if v 6 c = nI x then 1 else 0)) = if s (61 + 4 * c) = nI x + 1 then (1 : Int32) else 0
  rcases h c (by omega) with ⟨e1, e2, -⟩ | ⟨a, k, m, h3, h4, h5, h6, e1, e2, e3, e4, e5, e6, e7⟩
  · rw [e1, e2, if_pos (show (0 : Int32) ≤ 0 by decide), if_neg (fun q => nI_ne0 (n := x + 1) (by omega) (by omega) (by rw [nI_succ]; exact q.symm))]
  · rw [e1, e3, e4, if_neg (zp_le0 (by omega) (by omega))]
    by_cases d2 : nI a = nI x
    · rw [if_pos d2, if_pos (by rw [nI_succ, d2])]
    · rw [if_neg d2, if_neg (fun q => d2 (zp_add1 (by rw [← nI_succ]; exact q)))]
/-- the class's common numbers -/
def zso (v : zV) (x y : Int32) : Int32 := zs (fun c => if v 7 c = y then (if v 6 c = x then v 8 c else 0) else 0) 0 24
def zsi (v : zV) (y : Int32) : Int32 := zs (fun c => if v 7 c = y then v 8 c else 0) 0 24
theorem zp_common (v : zV) {k : Nat} (hk : k < 5) (x : Int32) : f_X1_common v (nI k) x = some (x * v 5 k) := by
  unfold f_X1_common
  rw [zp_zA hk (by omega), nI_clamp (by omega)]
theorem zp_commonOf (v : zV) {nc : Nat} (h0 : v 0 0 = nI nc) (hn : nc ≤ 5) (x : Int32) : f_X2_commonOf v x = some (zs (fun k => zso v x (nI k) * v 5 k) 0 nc) := by
  have h := zp_loop (fun n (a : Int32) i => f_X2_commonOf_b4 v n x a (nI i)) nc (fun i a => a + zso v x (nI i) * v 5 i) some
    (fun n a => by
      show f_X2_commonOf_b4 v (n + 1) x a (nI nc) = some a
      rw [f_X2_commonOf_b4, h0]
      exact if_pos (nI_le (Nat.le_refl nc) (by omega)))
    (fun n i a hi => by
      show f_X2_commonOf_b4 v (n + 1) x a (nI i) = f_X2_commonOf_b4 v n x (a + zso v x (nI i) * v 5 i) (nI (i + 1))
      have c : ¬ (nI nc ≤ nI i) := nI_ge hi (by omega)
      rw [f_X2_commonOf_b4, h0, if_neg c, zp_sharesOwned, zp_zb, zp_common v (by omega), zp_zb, nI_succ]
      rfl) nc 0 1000 0 (by omega) (by omega)
  rw [zit_sum, Int32.zero_add] at h
  exact h
theorem zp_commonOfAll (v : zV) {nc : Nat} (h0 : v 0 0 = nI nc) (hn : nc ≤ 5) : f_X2_commonOfAll v = some (zs (fun k => zsi v (nI k) * v 5 k) 0 nc) := by
  have h := zp_loop (fun n (a : Int32) i => f_X2_commonOfAll_b4 v n a (nI i)) nc (fun i a => a + zsi v (nI i) * v 5 i) some
    (fun n a => by
      show f_X2_commonOfAll_b4 v (n + 1) a (nI nc) = some a
      rw [f_X2_commonOfAll_b4, h0]
      exact if_pos (nI_le (Nat.le_refl nc) (by omega)))
    (fun n i a hi => by
      show f_X2_commonOfAll_b4 v (n + 1) a (nI i) = f_X2_commonOfAll_b4 v n (a + zsi v (nI i) * v 5 i) (nI (i + 1))
      have c : ¬ (nI nc ≤ nI i) := nI_ge hi (by omega)
      rw [f_X2_commonOfAll_b4, h0, if_neg c, zp_sharesIn, zp_zb, zp_common v (by omega), zp_zb, nI_succ]
      rfl) nc 0 1000 0 (by omega) (by omega)
  rw [zit_sum, Int32.zero_add] at h
  exact h
theorem zp_class4 (w : zV) (j : zJ) {k : Nat} (hk : k < 5) : f_X10_ofClass w j (nI k) 4 = some (w 1 (32 + 5 * k)) := by
  have h := zp_class w j hk (k := 4) (by omega)
  rw [show 28 + 5 * k + 4 = 32 + 5 * k by omega] at h
  exact h
/-- the model's common numbers are the class's -/
theorem zp_mcommonOf (w : zV) (j : zJ) {nc nh : Nat} {v : zV} (hn : nc ≤ 5) (hnh : nh ≤ 8) (h0 : w 1 0 = nI nc) (hc : zRc nc nh v (w 1)) (hk : zRk nc v (w 1)) (x : Int32) (hx : ¬ x < 0) : f_X10_commonOf w j x = some (zs (fun k => zso v x (nI k) * v 5 k) 0 nc) := by
  have h := zp_loop (fun n (a : Int32) i => f_X10_commonOf_b4 w j n x a (nI i)) nc (fun i a => a + zso v x (nI i) * v 5 i) some
    (fun n a => by
      show f_X10_commonOf_b4 w j (n + 1) x a (nI nc) = some a
      rw [f_X10_commonOf_b4, show (0 : Int32).toNatClampNeg = 0 from by decide, h0]
      exact if_pos (nI_le (Nat.le_refl nc) (by omega)))
    (fun n i a hi => by
      show f_X10_commonOf_b4 w j (n + 1) x a (nI i) = f_X10_commonOf_b4 w j n x (a + zso v x (nI i) * v 5 i) (nI (i + 1))
      have c : ¬ (nI nc ≤ nI i) := nI_ge hi (by omega)
      obtain ⟨p, m, r, d, q, -, -, -, -, -, -, -, -, -, -, -, e5, -, -, -, -, e6⟩ := hk i hi
      rw [f_X10_commonOf_b4, show (0 : Int32).toNatClampNeg = 0 from by decide, h0, if_neg c, zp_sharesOfHolder w j x (nI i) hx, zp_zb, zp_class4 w j (by omega), zp_zb, nI_succ, ← zr_sharesOwned hnh hc x (nI i), e6, ← e5]
      rfl) nc 0 1000 0 (by omega) (by omega)
  rw [zit_sum, Int32.zero_add] at h
  exact h
theorem zp_mcommonOfAll (w : zV) (j : zJ) {nc nh : Nat} {v : zV} (hn : nc ≤ 5) (hnh : nh ≤ 8) (h0 : w 1 0 = nI nc) (hc : zRc nc nh v (w 1)) (hk : zRk nc v (w 1)) : f_X10_commonOf w j (-1) = some (zs (fun k => zsi v (nI k) * v 5 k) 0 nc) := by
  have h := zp_loop (fun n (a : Int32) i => f_X10_commonOf_b4 w j n (-1) a (nI i)) nc (fun i a => a + zsi v (nI i) * v 5 i) some
    (fun n a => by
      show f_X10_commonOf_b4 w j (n + 1) (-1) a (nI nc) = some a
      rw [f_X10_commonOf_b4, show (0 : Int32).toNatClampNeg = 0 from by decide, h0]
      exact if_pos (nI_le (Nat.le_refl nc) (by omega)))
    (fun n i a hi => by
      show f_X10_commonOf_b4 w j (n + 1) (-1) a (nI i) = f_X10_commonOf_b4 w j n (-1) (a + zsi v (nI i) * v 5 i) (nI (i + 1))
      have c : ¬ (nI nc ≤ nI i) := nI_ge hi (by omega)
      obtain ⟨p, m, r, d, q, -, -, -, -, -, -, -, -, -, -, -, e5, -, -, -, -, e6⟩ := hk i hi
      rw [f_X10_commonOf_b4, show (0 : Int32).toNatClampNeg = 0 from by decide, h0, if_neg c, zp_sharesOfAll w j (nI i), zp_zb, zp_class4 w j (by omega), zp_zb, nI_succ, ← zr_sharesIn hnh hc (nI i), e6, ← e5]
      rfl) nc 0 1000 0 (by omega) (by omega)
  rw [zit_sum, Int32.zero_add] at h
  exact h
