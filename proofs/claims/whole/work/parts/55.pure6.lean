/-! ===== pure: the changes, first part ===== -/
theorem zu_ne {α : Type} {f : Nat → α} {n k : Nat} {x : α} (h : k ≠ n) : zu f n x k = f k := by
  unfold zu
  have e : Nat.beq k n = false := by
    cases q : Nat.beq k n
    · rfl
    · exact absurd (Nat.eq_of_beq_eq_true q) h
  rw [e]; rfl
theorem zu_eq {α : Type} {f : Nat → α} {n : Nat} {x : α} : zu f n x n = x := by
  unfold zu
  rw [show Nat.beq n n = true from Nat.beq_refl n]; rfl
theorem zSim_ok (r : Nat) (hr : r < 2 ^ 31) {v w v' : zV} {s' : Nat → Int32} {x y : Option (Int32 × zV)} (hx : x = some (nI r, v')) (hy : y = some (nI r, zu w 1 s')) (h : zR v' s') : zSim v w x y :=
  ⟨nI r, v', zu w 1 s', hx, hy, fun _ hk => zu_ne hk, fun q => absurd q (nI_pos hr), fun _ => h⟩
theorem zSim_gd {v w : zV} {x y : Option Int32} {g : Int32} (hx : x = some g) (hy : y = some g) {r : Int32} (hr : r < 0) {K1 K2 : Option (Int32 × zV)} (h : ¬ g = 0 → zSim v w K1 K2) : zSim v w (zb x fun y => if y = 0 then some (r, v) else K1) (zb y fun y => if y = 0 then some (r, w) else K2) := by
  rw [hx, hy, zp_zb, zp_zb]
  by_cases d : g = 0
  · rw [if_pos d, if_pos d]; exact zSim_no r hr v
  · rw [if_neg d, if_neg d]; exact h d
theorem zw_inv {x : Int32} {a b : Nat} (h : ¬ zw x (nI a) (nI b) = 0) (ha : a < 2 ^ 31 := by omega) (hb : b < 2 ^ 31 := by omega) : ∃ j : Nat, a ≤ j ∧ j ≤ b ∧ x = nI j := by
  rcases zw_in x ha hb with e | ⟨-, q⟩
  · exact absurd e h
  · exact q
theorem zw_invh {x : Int32} {n : Nat} (h : ¬ zw x 0 (nI n - 1) = 0) (hn : n < 2 ^ 31 := by omega) : ∃ j : Nat, j < n ∧ x = nI j := by
  rcases zw_has x hn with e | ⟨-, q⟩
  · exact absurd e h
  · exact q
theorem zp_tn0 : (0 : Int32).toNatClampNeg = 0 := by decide
theorem zp_tn1 : (1 : Int32).toNatClampNeg = 1 := by decide
theorem zp_tn2 : (2 : Int32).toNatClampNeg = 2 := by decide
theorem zp_tn4 : (4 : Int32).toNatClampNeg = 4 := by decide
theorem zp_tn5 : (5 : Int32).toNatClampNeg = 5 := by decide
theorem zp_tn6 : (6 : Int32).toNatClampNeg = 6 := by decide
theorem zp_tn7 : (7 : Int32).toNatClampNeg = 7 := by decide
theorem zp_tn8 : (8 : Int32).toNatClampNeg = 8 := by decide
theorem zp_28 (c k : Nat) : ((28 : Int32) + 5 * nI c) + nI k = nI (28 + 5 * c + k) := by
  rw [show (28 : Int32) = nI 28 from rfl, show (5 : Int32) = nI 5 from rfl, pk_mul, nI_add, nI_add]
theorem zp_157 (c k : Nat) : ((157 : Int32) + 7 * nI c) + nI k = nI (157 + 7 * c + k) := by
  rw [show (157 : Int32) = nI 157 from rfl, show (7 : Int32) = nI 7 from rfl, pk_mul, nI_add, nI_add]
theorem zp_53 (c : Nat) : (53 : Int32) + nI c = nI (53 + c) := by rw [show (53 : Int32) = nI 53 from rfl, nI_add]
theorem zp_re {a b : Nat} {x : Int32} (h : x = nI a) (e : a = b) : x = nI b := e ▸ h
/-! frames -/
theorem zRk_fr {nc : Nat} {v v' : zV} {s s' : Nat → Int32} (h : zRk nc v s) (hn : nc ≤ 5) (e1 : v' 1 = v 1) (e2 : v' 2 = v 2) (e3 : v' 3 = v 3) (e4 : v' 4 = v 4) (e5 : v' 5 = v 5) (es : ∀ i, 28 ≤ i → i < 53 → s' i = s i) : zRk nc v' s' := by
  intro k hk
  rw [e1, e2, e3, e4, e5, es _ (by omega) (by omega), es _ (by omega) (by omega), es _ (by omega) (by omega), es _ (by omega) (by omega), es _ (by omega) (by omega)]
  exact h k hk
theorem zRh_fr {nh tm tm' : Nat} {v v' : zV} {s s' : Nat → Int32} (h : zRh nh tm v s) (hn : nh ≤ 8) (ht : tm ≤ tm') (e1 : v' 19 = v 19) (es : ∀ i, 53 ≤ i → i < 61 → s' i = s i) : zRh nh tm' v' s' := by
  refine ⟨fun k hk => ?_, fun k h1 h2 => ?_⟩
  · obtain ⟨lf, h1, h2, h3⟩ := h.1 k hk
    refine ⟨lf, by omega, ?_, ?_⟩
    · rw [e1]; exact h2
    · rw [es _ (by omega) (by omega)]; exact h3
  · rw [es _ (by omega) (by omega)]; exact h.2 k h1 h2
theorem zRc_fr {nc nh nc' nh' : Nat} {v v' : zV} {s s' : Nat → Int32} (h : zRc nc nh v s) (hn : nc ≤ nc') (hn2 : nh ≤ nh') (e1 : v' 6 = v 6) (e2 : v' 7 = v 7) (e3 : v' 8 = v 8) (e4 : v' 9 = v 9) (es : ∀ i, 61 ≤ i → i < 157 → s' i = s i) : zRc nc' nh' v' s' := by
  intro c hc
  rw [e1, e2, e3, e4, es _ (by omega) (by omega), es _ (by omega) (by omega), es _ (by omega) (by omega), es _ (by omega) (by omega)]
  rcases h c hc with h1 | ⟨a, k, m, h1, h2, h3⟩
  · exact Or.inl h1
  · exact Or.inr ⟨a, k, m, by omega, by omega, h3⟩
theorem zRg_fr {nh nh' ng tm : Nat} {v v' : zV} {s s' : Nat → Int32} (h : zRg nh ng tm v s) (hn : nh' ≤ 8) (hg : ng ≤ 8) (hn2 : nh ≤ nh') (e0 : v' 10 = v 10) (e1 : v' 11 = v 11) (e2 : v' 12 = v 12) (e3 : v' 13 = v 13) (e4 : v' 14 = v 14) (e5 : v' 15 = v 15) (e6 : v' 16 = v 16) (es : ∀ i, 157 ≤ i → i < 213 → s' i = s i) (es2 : ∀ i, 53 ≤ i → i < 61 → s' i = s i) : zRg nh' ng tm v' s' := by
  refine ⟨fun g hlt => ?_, fun g h1 h2 => ?_⟩
  · obtain ⟨h', sh, st, cl, te, ma, ta, lf, q1, q2, q3, q4, q5, q6, q7, q8, q9, q10, q11, q12⟩ := h.1 g hlt
    refine ⟨h', sh, st, cl, te, ma, ta, lf, by omega, q2, q3, q4, q5, q6, q7, q8, q9, q10, ?_⟩
    rw [e0, e1, e2, e3, e4, e5, e6, es2 _ (by omega) (by omega), es _ (by omega) (by omega), es _ (by omega) (by omega), es _ (by omega) (by omega), es _ (by omega) (by omega), es _ (by omega) (by omega), es _ (by omega) (by omega), es _ (by omega) (by omega)]
    exact ⟨q11, q12⟩
  · rw [es _ (by omega) (by omega)]; exact h.2 g h1 h2
theorem zRr_fr {nc nh nc' nh' : Nat} {v v' : zV} {s s' : Nat → Int32} (h : zRr nc nh v s) (hn : nc ≤ nc') (hn2 : nh ≤ nh') (e0 : v' 0 2 = v 0 2) (e1 : v' 0 3 = v 0 3) (e2 : v' 0 4 = v 0 4) (e3 : v' 0 5 = v 0 5) (e4 : v' 17 = v 17) (e5 : v' 18 = v 18) (es : ∀ i, 8 ≤ i → i < 28 → s' i = s i) : zRr nc' nh' v' s' := by
  rcases h with ⟨h1, h2⟩ | ⟨h1, h2, o, n, d, h3, h4, h5, h6, h7, h8, h9, h10, h11, h12, h13, h14⟩
  · exact Or.inl ⟨e0.trans h1, (es 8 (by omega) (by omega)).trans h2⟩
  · refine Or.inr ⟨e0.trans h1, (es 8 (by omega) (by omega)).trans h2, o, n, d, h3, by omega, h5, h6, by omega, e1.trans h8, e2.trans h9, e3.trans h10, (es 9 (by omega) (by omega)).trans h11, (es 10 (by omega) (by omega)).trans h12, (es 11 (by omega) (by omega)).trans h13, fun k hk => ?_⟩
    obtain ⟨r, t, q1, q2, q3, q4, q5, q6, q7⟩ := h14 k hk
    refine ⟨r, t, q1, q2, fun q => q3 (by omega), ?_, ?_, ?_, ?_⟩
    · rw [e4]; exact q4
    · rw [e5]; exact q5
    · rw [es _ (by omega) (by omega)]; exact q6
    · rw [es _ (by omega) (by omega)]; exact q7
/-- no round is on, on both sides or on neither -/
theorem zRr_on {nc nh : Nat} {v : zV} {s : Nat → Int32} (h : zRr nc nh v s) : (v 0 2 = 0 ∧ s 8 = 0) ∨ (v 0 2 = 1 ∧ s 8 = 1) := by
  rcases h with h | ⟨h1, h2, -⟩
  · exact Or.inl h
  · exact Or.inr ⟨h1, h2⟩
theorem zp_m1lt : (-1 : Int32) < 0 := by decide
theorem zp_m2lt : (-2 : Int32) < 0 := by decide
theorem zp_m3lt : (-3 : Int32) < 0 := by decide
theorem zp_m4lt : (-4 : Int32) < 0 := by decide
/-- a new holder -/
theorem zo_comes {v w : zV} (j : zJ) (h : zR v (w 1)) : zSim v w (f_X2_addHolder v) (f_X10_comes w j) := by
  obtain ⟨nc, nh, ng, tm, ⟨hc1, hc5, hnh, hng, htm, e00, e06, e01, e07, s0, s1, s2, s3, s4, s5, s6, s7⟩, hk, hh, hc, hg, hr⟩ := h
  unfold f_X2_addHolder f_X10_comes
  rw [zp_tn1, s1, e06]
  by_cases d : nh = 8
  · subst d
    rw [if_neg (show ¬ nI 8 < (8 : Int32) by decide), if_pos (show nI 8 = (8 : Int32) by decide)]
    exact zSim_no _ zp_m3lt _
  · rw [if_pos (show nI nh < (8 : Int32) from nI_lt (b := 8) (by omega) (by omega)), if_neg (show ¬ nI nh = (8 : Int32) from fun q => d ((nI_eq (b := 8) (by omega) (by omega)).mp q)), zp_zA (by omega) (by omega), zp_zl, nI_clamp (by omega), nI_1]
    refine zSim_ok nh (by omega) rfl (by rw [pk_us, nI_pred]) ⟨nc, nh + 1, ng, tm, ⟨hc1, hc5, by omega, hng, htm, e00, rfl, e01, e07, ?_, pk_us, ?_, ?_, ?_, ?_, ?_, ?_⟩, zRk_fr hk hc5 rfl rfl rfl rfl rfl ?_, ⟨fun k hk2 => ?_, fun k h1 h2 => ?_⟩, zRc_fr hc (Nat.le_refl _) (by omega) rfl rfl rfl rfl ?_, zRg_fr hg (by omega) hng (by omega) rfl rfl rfl rfl rfl rfl rfl ?_ ?_, zRr_fr hr (Nat.le_refl _) (by omega) rfl rfl rfl rfl rfl rfl ?_⟩
    · exact (pk_un (by omega)).trans s0
    · exact (pk_un (by omega)).trans s2
    · exact (pk_un (by omega)).trans s3
    · exact (pk_un (by omega)).trans s4
    · exact (pk_un (by omega)).trans s5
    · exact (pk_un (by omega)).trans s6
    · exact (pk_un (by omega)).trans s7
    · exact fun i h1 h2 => pk_un (by omega)
    · by_cases q : k = nh
      · subst q
        exact ⟨0, by omega, pk_us, (pk_un (by omega)).trans (hh.2 k (by omega) (by omega))⟩
      · obtain ⟨lf, h1, h2, h3⟩ := hh.1 k (by omega)
        exact ⟨lf, h1, (pk_un (by omega)).trans h2, (pk_un (by omega)).trans h3⟩
    · exact (pk_un (by omega)).trans (hh.2 k (by omega) h2)
    · exact fun i h1 h2 => pk_un (by omega)
    · exact fun i h1 h2 => pk_un (by omega)
    · exact fun i h1 h2 => pk_un (by omega)
    · exact fun i h1 h2 => pk_un (by omega)
/-- months pass -/
theorem zvest_mono {tm tm' lf sh cl te ma : Nat} (ht : tm ≤ tm') (h1 : 1 ≤ te) (hl : lf = 0 ∨ ma + 1 ≤ lf) : zvest tm lf sh cl te ma ≤ zvest tm' lf sh cl te ma := by
  by_cases a : lf = 0
  · subst a
    have e2 : zvest tm' 0 sh cl te ma ≤ sh := zvest_le h1
    unfold zvest at e2 ⊢
    simp only [if_true] at e2 ⊢
    by_cases b : tm - ma < cl
    · simp only [b, if_true]; omega
    · have b2 : ¬ tm' - ma < cl := by omega
      simp only [b, b2, if_false] at e2 ⊢
      by_cases c : te ≤ tm - ma
      · have c2 : te ≤ tm' - ma := by omega
        simp only [c, c2, if_true]; omega
      · simp only [c, if_false]
        have e1 := zvest_le (tm := tm) (lf := 0) (sh := sh) (cl := cl) (te := te) (ma := ma) h1
        unfold zvest at e1
        simp only [if_true, b, if_false, c] at e1
        by_cases c2 : te ≤ tm' - ma
        · simp only [c2, if_true]; exact e1
        · simp only [c2, if_false]
          exact Nat.div_le_div_right (Nat.mul_le_mul_left _ (by omega))
  · unfold zvest
    simp only [a, if_false]
    exact Nat.le_refl _
theorem zo_passes {v w : zV} (j : zJ) (h : zR v (w 1)) (x : Int32) : zSim v w (f_X2_passMonths v x) (f_X10_passes w j x) := by
  obtain ⟨nc, nh, ng, tm, ⟨hc1, hc5, hnh, hng, htm, e00, e06, e01, e07, s0, s1, s2, s3, s4, s5, s6, s7⟩, hk, hh, hc, hg, hr⟩ := h
  unfold f_X2_passMonths f_X10_passes
  refine zSim_gd (zp_within _ _ _) (zp_in _ _ _) zp_m1lt (fun g => ?_)
  obtain ⟨p, hp1, hp2, rfl⟩ := zw_inv (a := 1) (b := 99) g
  rw [zp_tn3, s3, e07, nI_add]
  by_cases d : tm + p ≤ 999
  · rw [if_pos (show nI (tm + p) ≤ (999 : Int32) from nI_le (b := 999) d (by omega)), if_pos (show nI (tm + p) ≤ (999 : Int32) from nI_le (b := 999) d (by omega)), zp_zl]
    refine zSim_ok (tm + p) (by omega) rfl (by rw [pk_us]) ⟨nc, nh, ng, tm + p, ⟨hc1, hc5, by omega, hng, by omega, e00, e06, e01, rfl, ?_, ?_, ?_, pk_us, ?_, ?_, ?_, ?_⟩, zRk_fr hk hc5 rfl rfl rfl rfl rfl ?_, zRh_fr hh hnh (by omega) rfl ?_, zRc_fr hc (Nat.le_refl _) (by omega) rfl rfl rfl rfl ?_, ⟨fun k hk2 => ?_, fun k h1 h2 => ?_⟩, zRr_fr hr (Nat.le_refl _) (by omega) rfl rfl rfl rfl rfl rfl ?_⟩
    · exact (pk_un (by omega)).trans s0
    · exact (pk_un (by omega)).trans s1
    · exact (pk_un (by omega)).trans s2
    · exact (pk_un (by omega)).trans s4
    · exact (pk_un (by omega)).trans s5
    · exact (pk_un (by omega)).trans s6
    · exact (pk_un (by omega)).trans s7
    · exact fun i h1 h2 => pk_un (by omega)
    · exact fun i h1 h2 => pk_un (by omega)
    · exact fun i h1 h2 => pk_un (by omega)
    · obtain ⟨h', sh, st, cl, te, ma, ta, lf, q1, q2, q3, q4, q5, q6, q7, q8, q9, q10, q11, q12, q13⟩ := hg.1 k hk2
      refine ⟨h', sh, st, cl, te, ma, ta, lf, q1, q2, q3, q4, q5, q6, q7, by omega, q9, Nat.le_trans q10 (zvest_mono (by omega) q5 q9), ?_, by omega, ?_⟩
      · exact (pk_un (by omega)).trans q11
      · rw [pk_un (by omega), pk_un (by omega), pk_un (by omega), pk_un (by omega), pk_un (by omega), pk_un (by omega), pk_un (by omega)]
        exact q13
    · exact (pk_un (by omega)).trans (hg.2 k h1 h2)
    · exact fun i h1 h2 => pk_un (by omega)
  · rw [if_neg (show ¬ nI (tm + p) ≤ (999 : Int32) from nI_ge (a := 999) (by omega) (by omega)), if_neg (show ¬ nI (tm + p) ≤ (999 : Int32) from nI_ge (a := 999) (by omega) (by omega))]
    exact zSim_no _ zp_m3lt _
/-- a new class of shares -/
theorem zo_founds {v w : zV} (j : zJ) (h : zR v (w 1)) (x1 x2 x3 x4 x5 : Int32) : zSim v w (f_X2_addClass v x1 x2 x3 x4 x5) (f_X10_founds w j x1 x2 x3 x4 x5) := by
  obtain ⟨nc, nh, ng, tm, ⟨hc1, hc5, hnh, hng, htm, e00, e06, e01, e07, s0, s1, s2, s3, s4, s5, s6, s7⟩, hk, hh, hc, hg, hr⟩ := h
  unfold f_X2_addClass f_X10_founds
  refine zSim_gd (zp_within _ _ _) (zp_in _ _ _) zp_m1lt (fun g => ?_)
  obtain ⟨p, hp1, hp2, rfl⟩ := zw_inv (a := 1) (b := 99) g
  refine zSim_gd (zp_within _ _ _) (zp_in _ _ _) zp_m1lt (fun g => ?_)
  obtain ⟨m, hm1, hm2, rfl⟩ := zw_inv (a := 1) (b := 3) g
  refine zSim_gd (zp_within _ _ _) (zp_in _ _ _) zp_m1lt (fun g => ?_)
  obtain ⟨r, hr1, hr2, rfl⟩ := zw_inv (a := 0) (b := 9) g
  refine zSim_gd (zp_within _ _ _) (zp_in _ _ _) zp_m1lt (fun g => ?_)
  obtain ⟨k, hk1, hk2, rfl⟩ := zw_inv (a := 0) (b := 2) g
  refine zSim_gd (zp_within _ _ _) (zp_in _ _ _) zp_m1lt (fun g => ?_)
  obtain ⟨q, hq1, hq2, rfl⟩ := zw_inv (a := 1) (b := 4) g
  rw [zp_tn0, s0, e00]
  by_cases d : nc = 5
  · subst d
    rw [if_neg (show ¬ nI 5 < (5 : Int32) by decide), if_pos (show nI 5 = (5 : Int32) by decide)]
    exact zSim_no _ zp_m3lt _
  · have i0 : ((28 : Int32) + 5 * nI nc) + 0 = nI (28 + 5 * nc) := zp_28 nc 0
    have i1 : ((28 : Int32) + 5 * nI nc) + 1 = nI (29 + 5 * nc) := zp_re (zp_28 nc 1) (by omega)
    have i2 : ((28 : Int32) + 5 * nI nc) + 2 = nI (30 + 5 * nc) := zp_re (zp_28 nc 2) (by omega)
    have i3 : ((28 : Int32) + 5 * nI nc) + 3 = nI (31 + 5 * nc) := zp_re (zp_28 nc 3) (by omega)
    have i4 : ((28 : Int32) + 5 * nI nc) + 4 = nI (32 + 5 * nc) := zp_re (zp_28 nc 4) (by omega)
    rw [if_pos (show nI nc < (5 : Int32) from nI_lt (b := 5) (by omega) (by omega)), if_neg (show ¬ nI nc = (5 : Int32) from fun q => d ((nI_eq (b := 5) (by omega) (by omega)).mp q)), i0, i1, i2, i3, i4, zp_zA (by omega) (by omega), nI_clamp (by omega), nI_1]
    rw [zp_zA (by omega) (by omega), zp_zl, zp_zA (by omega) (by omega), zp_zl, zp_zA (by omega) (by omega), zp_zl, zp_zA (by omega) (by omega), zp_zl, zp_zA (by omega) (by omega), zp_zl, zp_zl, nI_clamp (by omega), nI_clamp (by omega), nI_clamp (by omega), nI_clamp (by omega), nI_clamp (by omega)]
    have u : (upd (upd (upd (upd (upd (w 1) (28 + 5 * nc) (nI p)) (29 + 5 * nc) (nI m)) (30 + 5 * nc) (nI r)) (31 + 5 * nc) (nI k)) (32 + 5 * nc) (nI q)) 0 = nI nc :=
      (pk_un (by omega)).trans ((pk_un (by omega)).trans ((pk_un (by omega)).trans ((pk_un (by omega)).trans ((pk_un (by omega)).trans s0))))
    rw [u, nI_1, pk_us, nI_pred]
    have o : ∀ i, ¬ i = 0 → (i < 28 + 5 * nc ∨ 33 + 5 * nc ≤ i) → (upd (upd (upd (upd (upd (upd (w 1) (28 + 5 * nc) (nI p)) (29 + 5 * nc) (nI m)) (30 + 5 * nc) (nI r)) (31 + 5 * nc) (nI k)) (32 + 5 * nc) (nI q)) 0 (nI (nc + 1))) i = w 1 i := fun i h1 h2 =>
      (pk_un h1).trans ((pk_un (by omega)).trans ((pk_un (by omega)).trans ((pk_un (by omega)).trans ((pk_un (by omega)).trans (pk_un (by omega))))))
    refine zSim_ok nc (by omega) rfl rfl ⟨nc + 1, nh, ng, tm, ⟨by omega, by omega, by omega, hng, by omega, rfl, e06, e01, e07, pk_us, ?_, ?_, ?_, ?_, ?_, ?_, ?_⟩, ?_, zRh_fr hh hnh (by omega) rfl ?_, zRc_fr hc (by omega) (by omega) rfl rfl rfl rfl ?_, zRg_fr hg (by omega) hng (by omega) rfl rfl rfl rfl rfl rfl rfl ?_ ?_, zRr_fr hr (by omega) (by omega) rfl rfl rfl rfl rfl rfl ?_⟩
    · exact (o 1 (by omega) (by omega)).trans s1
    · exact (o 2 (by omega) (by omega)).trans s2
    · exact (o 3 (by omega) (by omega)).trans s3
    · exact (o 4 (by omega) (by omega)).trans s4
    · exact (o 5 (by omega) (by omega)).trans s5
    · exact (o 6 (by omega) (by omega)).trans s6
    · exact (o 7 (by omega) (by omega)).trans s7
    · intro l hl
      by_cases e : l = nc
      · subst e
        refine ⟨p, m, r, k, q, by omega, by omega, by omega, by omega, by omega, by omega, by omega, pk_us, pk_us, pk_us, pk_us, pk_us, ?_, ?_, ?_, ?_, ?_⟩
        · exact (pk_un (by omega)).trans ((pk_un (by omega)).trans ((pk_un (by omega)).trans ((pk_un (by omega)).trans ((pk_un (by omega)).trans pk_us))))
        · exact (pk_un (by omega)).trans ((pk_un (by omega)).trans ((pk_un (by omega)).trans ((pk_un (by omega)).trans pk_us)))
        · exact (pk_un (by omega)).trans ((pk_un (by omega)).trans ((pk_un (by omega)).trans pk_us))
        · exact (pk_un (by omega)).trans ((pk_un (by omega)).trans pk_us)
        · exact (pk_un (by omega)).trans pk_us
      · rw [o _ (by omega) (by omega), o _ (by omega) (by omega), o _ (by omega) (by omega), o _ (by omega) (by omega), o _ (by omega) (by omega)]
        obtain ⟨p', m', r', k', q', h1, h2, h3, h4, h5, h6, h7, h8, h9, h10, h11, h12, h13⟩ := hk l (by omega)
        exact ⟨p', m', r', k', q', h1, h2, h3, h4, h5, h6, h7, (pk_un e).trans h8, (pk_un e).trans h9, (pk_un e).trans h10, (pk_un e).trans h11, (pk_un e).trans h12, h13⟩
    · exact fun i h1 h2 => o i (by omega) (by omega)
    · exact fun i h1 h2 => o i (by omega) (by omega)
    · exact fun i h1 h2 => o i (by omega) (by omega)
    · exact fun i h1 h2 => o i (by omega) (by omega)
    · exact fun i h1 h2 => o i (by omega) (by omega)
