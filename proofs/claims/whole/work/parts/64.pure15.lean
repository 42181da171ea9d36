/-! ===== pure: the model's reckoning of an exit ===== -/
def zM (X : zX) (w : zV) (bj : zJ) : Prop := w 1 0 = nI (zX.nc X) ∧ ∀ k, k < zX.nc X → w 1 (28 + 5 * k + 2) = nI (zX.R X k) ∧ w 1 (28 + 5 * k + 3) = nI (zX.K X k) ∧ bj 2 k = lN (zX.P X k) ∧ bj 3 k = lN (zX.C X k)
theorem zM_fr {X : zX} {w : zV} {bj bj' : zJ} (h : zM X w bj) (e2 : bj' 2 = bj 2) (e3 : bj' 3 = bj 3) : zM X w bj' := by
  refine ⟨h.1, fun k hk => ?_⟩
  rw [e2, e3]
  exact h.2 k hk
theorem zM_fr0 {X : zX} {w : zV} {bj bj' : zJ} (h : zM X w bj) (e : ∀ a, a ≠ 0 → bj' a = bj a) : zM X w bj' := zM_fr h (e 2 (by omega)) (e 3 (by omega))
theorem zM_fr1 {X : zX} {w : zV} {bj bj' : zJ} (h : zM X w bj) (e : ∀ a, a ≠ 1 → bj' a = bj a) : zM X w bj' := zM_fr h (e 2 (by omega)) (e 3 (by omega))
theorem zM_fr01 {X : zX} {w : zV} {bj bj' : zJ} (h : zM X w bj) (e : ∀ a, a ≠ 0 → a ≠ 1 → bj' a = bj a) : zM X w bj' := zM_fr h (e 2 (by omega) (by omega)) (e 3 (by omega) (by omega))
theorem zp_class2 (w : zV) (j : zJ) {c : Nat} (hc : c < 5) : f_X10_ofClass w j (nI c) 2 = some (w 1 (28 + 5 * c + 2)) := zp_class w j hc (k := 2) (by omega)
theorem zp_class3 (w : zV) (j : zJ) {c : Nat} (hc : c < 5) : f_X10_ofClass w j (nI c) 3 = some (w 1 (28 + 5 * c + 3)) := zp_class w j hc (k := 3) (by omega)
def xcm (X : zX) (set r k : Nat) : Bool := !decide (k = 0) && (!set.testBit k && decide (zX.R X k = r))
theorem xcl_cm {X : zX} {set r k : Nat} (h : ¬ zX.S X k = 0) : xcl X set r k = xcm X set r k := by
  unfold xcl xcm
  rw [decide_eq_false h]
  cases decide (k = 0) <;> cases set.testBit k <;> cases decide (zX.R X k = r) <;> rfl
theorem xcl_no {X : zX} {set r k : Nat} (h : xcm X set r k = false) : xcl X set r k = false := by
  unfold xcl; unfold xcm at h
  revert h
  cases decide (k = 0) <;> cases set.testBit k <;> cases decide (zX.R X k = r) <;> cases decide (zX.S X k = 0) <;> decide
theorem xcl_0 {X : zX} {set r k : Nat} (h : zX.S X k = 0) : xcl X set r k = false := by
  unfold xcl
  rw [decide_eq_true h]
  cases decide (k = 0) <;> cases set.testBit k <;> cases decide (zX.R X k = r) <;> rfl
theorem xcl_R {X : zX} {set r k : Nat} (h : xcl X set r k = true) : zX.R X k = r := by
  unfold xcl at h
  simp only [Bool.and_eq_true, decide_eq_true_eq] at h
  exact h.2.1
theorem xcm_R {X : zX} {set r k : Nat} (h : xcm X set r k = true) : zX.R X k = r := by
  unfold xcm at h
  simp only [Bool.and_eq_true, decide_eq_true_eq] at h
  exact h.2.2
theorem me_claimsAt {X : zX} (hX : zXok X) {w : zV} {bj : zJ} (hM : zM X w bj) {k r set : Nat} (hk : k < zX.nc X) (hr : r ≤ 9) (hs : set < 32) : f_X10_claimsAt w bj (nI k) (nI r) (nI set) = some (if xcm X set r k = true then 1 else 0) := by
  obtain ⟨h1, h5, hb⟩ := hX
  obtain ⟨b1, -, -, -, -, -, b7, -⟩ := hb k hk
  obtain ⟨e2, e3, -⟩ := hM.2 k hk
  unfold f_X10_claimsAt xcm
  by_cases d : k = 0
  · subst d
    rw [if_pos (show nI 0 ≤ 0 by decide)]
    rfl
  · rw [if_neg (zp_le0 (by omega) (by omega)), ze_mhas hs (by omega), zp_zb, decide_eq_false d]
    cases set.testBit k
    · rw [if_pos (by decide), zp_class2 w bj (by omega), zp_zb, e2]
      by_cases d2 : zX.R X k = r
      · rw [if_pos (by rw [d2]), decide_eq_true d2]; rfl
      · rw [if_neg (fun q => d2 ((nI_eq (by omega) (by omega)).mp q)), decide_eq_false d2]; rfl
    · rw [if_neg (by decide)]; rfl
/-- the sum of the claims -/
theorem me_sum {X : zX} (hX : zXok X) {w : zV} {bj : zJ} (hM : zM X w bj) {r set : Nat} (hr : r ≤ 9) (hs : set < 32) (x4 : Int64) : ∀ (k i n a : Nat), i + k = zX.nc X → k < n → ∃ m, n ≤ m + k + 1 ∧ f_X10_paysClaims_go w n 1 bj (nI set) x4 (nI r) (lN a) (nI i) = f_X10_paysClaims_go w m 2 bj (nI set) x4 (nI r) (lN (a + zn (fun k => if xcl X set r k = true then zX.P X k else 0) i k)) 1 := by
  have h1 := hX.1
  have h5 := hX.2.1
  intro k
  induction k with
  | zero =>
    intro i n a e hn
    obtain ⟨n, rfl⟩ : ∃ m, n = m + 1 := ⟨n - 1, by omega⟩
    refine ⟨n, by omega, ?_⟩
    rw [f_X10_paysClaims_go, zp_tn0, hM.1, if_pos (nI_le (by omega) (by omega))]
    rfl
  | succ k ih =>
    intro i n a e hn
    obtain ⟨n, rfl⟩ : ∃ m, n = m + 1 := ⟨n - 1, by omega⟩
    have hi : i < zX.nc X := by omega
    have hb := hX.2.2 i hi
    rw [f_X10_paysClaims_go, zp_tn0, hM.1, if_neg (nI_ge hi (by omega)), me_claimsAt hX hM hi hr hs, zp_zb, ← nI_succ]
    cases hq : xcm X set r i
    · obtain ⟨m, hm, e2⟩ := ih (i + 1) n a (by omega) (by omega)
      refine ⟨m, by omega, ?_⟩
      rw [if_pos (by decide), show lN a + 0 = lN a from lN_add a 0, e2]
      show _ = f_X10_paysClaims_go w m 2 bj (nI set) x4 (nI r) (lN (a + ((if xcl X set r i = true then zX.P X i else 0) + zn (fun k => if xcl X set r k = true then zX.P X k else 0) (i + 1) k))) 1
      rw [xcl_no hq, if_neg (by decide), Nat.zero_add]
    · obtain ⟨m, hm, e2⟩ := ih (i + 1) n (a + zX.P X i) (by omega) (by omega)
      refine ⟨m, by omega, ?_⟩
      rw [if_neg (by decide), zp_zA (show i < 5 by omega) (by omega), nI_clamp (by omega), (hM.2 i hi).2.2.1, lN_add, e2]
      show _ = f_X10_paysClaims_go w m 2 bj (nI set) x4 (nI r) (lN (a + ((if xcl X set r i = true then zX.P X i else 0) + zn (fun k => if xcl X set r k = true then zX.P X k else 0) (i + 1) k))) 1
      by_cases d : zX.S X i = 0
      · rw [xcl_0 d, if_neg (by decide), hb.2.2.2.1 d, Nat.zero_add, Nat.add_zero]
      · rw [xcl_cm d, hq, if_pos rfl, Nat.add_assoc]
theorem lN_cmp_le0 {a : Nat} (h : a < 2 ^ 63) : lg_cmp (lN a) 0 ≤ 0 ↔ a = 0 := by
  rw [lg_cmp_le, show (0 : Int64) = lN 0 from rfl, pk_lLE h (by omega)]
  omega
/-- the claims are paid -/
theorem me_pay {X : zX} (hX : zXok X) {w : zV} {r set left : Nat} {G : Nat → Nat} (hr : r ≤ 9) (hs : set < 32) (hl : left < 2 ^ 31) (h0 : ∀ k, k < zX.nc X → zX.R X k = r → G k = 0) : ∀ (k i n : Nat) (bj : zJ), i + k = zX.nc X → k < n → 1 ≤ i → zM X w bj → (∀ k, k < zX.nc X → bj 0 k = lN (if k < i then xpay X set r left G k else G k)) → ∃ m bj', n ≤ m + k + 1 ∧ f_X10_paysClaims_go w n 2 bj (nI set) (lN left) (nI r) (lN (xsum X set r)) (nI i) = f_X10_paysClaims_go w m 3 bj' (nI set) (lN left) (nI r) (lN (xsum X set r)) 0 ∧ (∀ a, a ≠ 0 → bj' a = bj a) ∧ ∀ k, k < zX.nc X → bj' 0 k = lN (xpay X set r left G k) := by
  have h1 := hX.1
  have h5 := hX.2.1
  have hS := xsum_bd hX set r
  intro k
  induction k with
  | zero =>
    intro i n bj e hn hi1 hM hG
    obtain ⟨n, rfl⟩ : ∃ m, n = m + 1 := ⟨n - 1, by omega⟩
    refine ⟨n, bj, by omega, ?_, fun _ _ => rfl, fun k hk => ?_⟩
    · rw [f_X10_paysClaims_go, zp_tn0, hM.1, if_pos (nI_le (by omega) (by omega))]
    · rw [hG k hk, if_pos (by omega)]
  | succ k ih =>
    intro i n bj e hn hi1 hM hG
    obtain ⟨n, rfl⟩ : ∃ m, n = m + 1 := ⟨n - 1, by omega⟩
    have hi : i < zX.nc X := by omega
    have hb := hX.2.2 i hi
    by_cases z : xsum X set r = 0
    · refine ⟨n, bj, by omega, ?_, fun _ _ => rfl, fun l hl2 => ?_⟩
      · rw [f_X10_paysClaims_go, zp_tn0, hM.1, if_neg (nI_ge hi (by omega)), if_pos ((lN_cmp_le0 (by omega)).mpr z)]
      · rw [hG l hl2]
        by_cases d : l < i
        · rw [if_pos d]
        · rw [if_neg d]
          unfold xpay
          by_cases d2 : xcl X set r l = true
          · rw [if_pos d2, z, Nat.div_zero, h0 l hl2 (xcl_R d2)]
          · rw [if_neg d2]
    · cases hq : xcm X set r i
      · obtain ⟨m, bj', hm, e2, p1, p2⟩ := ih (i + 1) n bj (by omega) (by omega) (by omega) hM (fun l hl2 => by
          rw [hG l hl2]
          by_cases d : l = i
          · subst d
            rw [if_neg (by omega), if_pos (by omega)]
            unfold xpay
            rw [xcl_no hq, if_neg (by decide)]
          · by_cases d2 : l < i
            · rw [if_pos d2, if_pos (by omega)]
            · rw [if_neg d2, if_neg (by omega)])
        refine ⟨m, bj', by omega, ?_, p1, p2⟩
        rw [f_X10_paysClaims_go, zp_tn0, hM.1, if_neg (nI_ge hi (by omega)), if_neg (fun q => z ((lN_cmp_le0 (by omega)).mp q)), me_claimsAt hX hM hi hr hs, zp_zb, hq, if_pos (by decide), ← nI_succ, e2]
      · have hv : (if left < xsum X set r then left * zX.P X i / xsum X set r else zX.P X i) = xpay X set r left G i := by
          unfold xpay
          by_cases d : zX.S X i = 0
          · rw [xcl_0 d, if_neg (show ¬ (false = true) by decide), h0 i hi (xcm_R hq), hb.2.2.2.1 d, Nat.mul_zero, Nat.zero_div, ite_self]
          · rw [xcl_cm d, hq, if_pos (show true = true from rfl)]
            by_cases d2 : left < xsum X set r
            · rw [if_pos d2, Nat.min_eq_left (by omega)]
            · rw [if_neg d2, Nat.min_eq_right (by omega), Nat.mul_div_cancel_left _ (by omega)]
        obtain ⟨m, bj', hm, e2, p1, p2⟩ := ih (i + 1) n (zu bj 0 (vp_updL (bj 0) i (lN (xpay X set r left G i)))) (by omega) (by omega) (by omega) (zM_fr0 hM (fun a ha => zu_ne ha)) (fun l hl2 => by
          show vp_updL (bj 0) i _ l = _
          by_cases d : l = i
          · subst d
            rw [pk_uLs, if_pos (by omega)]
          · rw [pk_uLn d, hG l hl2]
            by_cases d2 : l < i
            · rw [if_pos d2, if_pos (by omega)]
            · rw [if_neg d2, if_neg (by omega)])
        refine ⟨m, bj', by omega, ?_, fun a ha => (p1 a ha).trans (zu_ne ha), p2⟩
        rw [f_X10_paysClaims_go, zp_tn0, hM.1, if_neg (nI_ge hi (by omega)), if_neg (fun q => z ((lN_cmp_le0 (by omega)).mp q)), me_claimsAt hX hM hi hr hs, zp_zb, hq, if_neg (by decide), zp_zA (show i < 5 by omega) (by omega), zp_zA (show i < 5 by omega) (by omega), nI_clamp (by omega), (hM.2 i hi).2.2.1, ← nI_succ, zp_zl, zp_zl, ← e2, ← hv]
        unfold zDl
        rw [if_neg (show ¬ lN (xsum X set r) = 0 from fun q => z ((pk_lEQ (b := 0) (by omega) (by omega)).mp q))]
        by_cases d2 : left < xsum X set r
        · rw [if_pos ((lg_cmp_lt _ _).mpr ((pk_lLT (by omega) (by omega)).mpr d2)), if_pos d2, lN_mul, pk_lDiv (zp_mul63 (by omega) (by omega)) (by omega) (by omega)]
        · rw [if_neg (fun q => d2 ((pk_lLT (by omega) (by omega)).mp ((lg_cmp_lt _ _).mp q))), if_neg d2]
/-- all ranks -/
theorem me_ranks {X : zX} (hX : zXok X) {w : zV} {set : Nat} (hs : set < 32) : ∀ (r n : Nat) (bj : zJ) (left : Nat) (G : Nat → Nat) (x7 : Int64) (x9 : Int32), r ≤ 10 → 14 * r < n → zM X w bj → (∀ k, k < zX.nc X → bj 0 k = lN (G k)) → (∀ k, k < zX.nc X → zX.R X k < r → G k = 0) → left < 2 ^ 31 →
    (∃ bj', f_X10_paysClaims_go w n 0 bj (nI set) (lN left) (nI r - 1) x7 x9 = some (-1, bj') ∧ (∀ a, a ≠ 0 → bj' a = bj a) ∧ ∀ k, k < zX.nc X → bj' 0 k = lN (xranks X set r left G k)) ∨
    ∃ bj' left' G', f_X10_paysClaims_go w n 0 bj (nI set) (lN left) (nI r - 1) x7 x9 = some (lN left', bj') ∧ left' ≤ left ∧ (∀ a, a ≠ 0 → bj' a = bj a) ∧ (∀ k, k < zX.nc X → bj' 0 k = lN (G' k)) ∧ xranks X set r left G = xshare X set (zX.nc X + 1) left' (xsh X set 0 (zX.nc X) 0) G' := by
  have h1 := hX.1
  have h5 := hX.2.1
  intro r
  induction r with
  | zero =>
    intro n bj left G x7 x9 hr hn hM hG h0 hl
    obtain ⟨n, rfl⟩ : ∃ m, n = m + 1 := ⟨n - 1, by omega⟩
    refine Or.inr ⟨bj, left, G, ?_, Nat.le_refl _, fun _ _ => rfl, hG, rfl⟩
    rw [f_X10_paysClaims_go, if_pos (show nI 0 - 1 < 0 by decide)]
  | succ r ih =>
    intro n bj left G x7 x9 hr hn hM hG h0 hl
    obtain ⟨n, rfl⟩ : ∃ m, n = m + 1 := ⟨n - 1, by omega⟩
    have hS := xsum_bd hX set r
    have h0r : ∀ k, k < zX.nc X → zX.R X k = r → G k = 0 := fun k hk e => h0 k hk (by omega)
    obtain ⟨m1, hm1, e1⟩ := me_sum hX hM (show r ≤ 9 by omega) hs (lN left) (zX.nc X - 1) 1 n 0 (by omega) (by omega)
    have e1' : f_X10_paysClaims_go w n 1 bj (nI set) (lN left) (nI r) 0 1 = f_X10_paysClaims_go w m1 2 bj (nI set) (lN left) (nI r) (lN (0 + xsum X set r)) 1 := e1
    rw [Nat.zero_add] at e1'
    obtain ⟨m2, b2, hm2, e2, p1, p2⟩ := me_pay hX (w := w) (left := left) (show r ≤ 9 by omega) hs hl h0r (zX.nc X - 1) 1 m1 bj (by omega) (by omega) (by omega) hM (fun k hk => by
      rw [hG k hk]
      by_cases d : k < 1
      · obtain rfl : k = 0 := by omega
        rw [if_pos d]
        unfold xpay xcl
        rfl
      · rw [if_neg d])
    have e2' : f_X10_paysClaims_go w m1 2 bj (nI set) (lN left) (nI r) (lN (xsum X set r)) 1 = f_X10_paysClaims_go w m2 3 b2 (nI set) (lN left) (nI r) (lN (xsum X set r)) 0 := e2
    obtain ⟨m2, rfl⟩ : ∃ m, m2 = m + 1 := ⟨m2 - 1, by omega⟩
    rw [nI_pred, f_X10_paysClaims_go, if_neg (nI_pos (by omega)), e1', e2', f_X10_paysClaims_go]
    by_cases d : left < xsum X set r
    · refine Or.inl ⟨b2, ?_, p1, fun k hk => ?_⟩
      · rw [if_neg (fun q => by have := (pk_lLE (by omega) (by omega)).mp ((lg_cmp_ge _ _).mp q); omega)]
      · rw [p2 k hk, xranks, if_pos d]
    · rw [if_pos ((lg_cmp_ge _ _).mpr ((pk_lLE (by omega) (by omega)).mpr (by omega))), lN_sub (by omega), show nI r + (-1) = nI r - 1 by rw [Int32.sub_eq_add_neg]]
      have h0' : ∀ k, k < zX.nc X → zX.R X k < r → xpay X set r left G k = 0 := fun k hk hq => by
        unfold xpay
        rw [if_neg (fun q => by have := xcl_R q; omega)]
        exact h0 k hk (by omega)
      have er : xranks X set (r + 1) left G = xranks X set r (left - xsum X set r) (xpay X set r left G) := by
        rw [xranks, if_neg d]
      rcases ih m2 b2 (left - xsum X set r) (xpay X set r left G) 0 0 (by omega) (by omega) (zM_fr0 hM p1) p2 h0' (by omega) with ⟨b3, e3, q1, q2⟩ | ⟨b3, l3, G3, e3, q0, q1, q2, q3⟩
      · exact Or.inl ⟨b3, e3, fun a ha => (q1 a ha).trans (p1 a ha), fun k hk => by rw [er]; exact q2 k hk⟩
      · exact Or.inr ⟨b3, l3, G3, e3, by omega, fun a ha => (q1 a ha).trans (p1 a ha), q2, er.trans q3⟩
