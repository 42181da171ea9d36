/-! ===== pure: the changes, fourth part: taken, left ===== -/
theorem zs_bd {g : Nat → Int32} {B : Nat} : ∀ (k i : Nat), (∀ j, i ≤ j → j < i + k → ∃ m, m ≤ B ∧ g j = nI m) → ∃ N, N ≤ k * B ∧ zs g i k = nI N := by
  intro k
  induction k with
  | zero => intro i _; exact ⟨0, by omega, rfl⟩
  | succ k ih =>
    intro i h
    obtain ⟨m, hm, e1⟩ := h i (Nat.le_refl i) (by omega)
    obtain ⟨N, hN, e2⟩ := ih (i + 1) (fun j h1 h2 => h j (by omega) (by omega))
    refine ⟨m + N, ?_, ?_⟩
    · rw [Nat.succ_mul]; omega
    · show g i + zs g (i + 1) k = _
      rw [e1, e2, nI_add]
theorem ztake_le {tm lf sh cl te ma ta : Nat} : ztake tm lf sh cl te ma ta ≤ zvest tm lf sh cl te ma - ta := by
  unfold ztake
  split
  · omega
  · exact Nat.le_refl _
/-- all that a holder can take -/
theorem zr_takeableOf {nc nh ng tm : Nat} {v w : zV} (j : zJ) (h : zRn nc nh ng tm v (w 1)) (x : Int32) : ∃ N, N ≤ 80000 ∧ f_X2_takeableOf v x = some (nI N) ∧ f_X10_allToTake w j x = some (nI N) := by
  obtain ⟨⟨hc1, hc5, hnh, hng, htm, e00, e06, e01, e07, s0, s1, s2, s3, s4, s5, s6, s7⟩, hk, hh, hc, hg, hr⟩ := h
  have hT : ∀ i, i < ng → ∃ t, t ≤ 9999 ∧ f_X2_takeable v (nI i) = some (nI t) ∧ f_X10_canBeTaken w j (nI i) = some (nI t) ∧ w 1 (157 + 7 * i) = v 10 i := by
    intro i hi
    obtain ⟨h', sh, st, cl, te, ma, ta, lf, hgr⟩ := hg.1 i hi
    have hgr2 : zGr nh tm v (w 1) i h' sh st cl te ma ta lf := hgr
    have b1 : ztake tm lf sh cl te ma ta ≤ zvest tm lf sh cl te ma - ta := ztake_le
    have b2 : zvest tm lf sh cl te ma ≤ sh := zvest_le hgr2.2.2.2.2.1
    obtain ⟨q1, q2, q3, q4, q5, q6, q7, q8, q9, q10, q11, q12, q13, q14, q15, q16, q17, q18, q19, q20, -⟩ := hgr
    exact ⟨_, by omega, zp_takeable hnh hng htm e07 hh (by omega) hgr2, zp_canBeTaken w j hnh htm s3 (by omega) hgr2, q20.trans q13.symm⟩
  let T : Nat → Int32 := fun g => if v 10 g = x then (f_X2_takeable v (nI g)).getD 0 else 0
  have h1 := zp_loop (fun n (a : Int32) i => f_X2_takeableOf_b4 v n x a (nI i)) ng (fun i a => a + T i) some
    (fun n a => by
      show f_X2_takeableOf_b4 v (n + 1) x a (nI ng) = some a
      rw [f_X2_takeableOf_b4, e01]
      exact if_pos (nI_le (Nat.le_refl ng) (by omega)))
    (fun n i a hi => by
      show f_X2_takeableOf_b4 v (n + 1) x a (nI i) = f_X2_takeableOf_b4 v n x (a + if v 10 i = x then (f_X2_takeable v (nI i)).getD 0 else 0) (nI (i + 1))
      obtain ⟨t, -, p1, -, -⟩ := hT i hi
      rw [f_X2_takeableOf_b4, e01, if_neg (nI_ge hi (by omega)), zp_zA (show i < 8 by omega) (by omega), nI_clamp (by omega), p1, zp_zb, nI_succ]
      by_cases d : v 10 i = x
      · rw [if_pos d, if_pos d]; rfl
      · rw [if_neg d, if_neg d, Int32.add_zero]) ng 0 1000 0 (by omega) (by omega)
  have h2 := zp_loop (fun n (a : Int32) i => f_X10_allToTake_b4 w j n x a (nI i)) ng (fun i a => a + T i) some
    (fun n a => by
      show f_X10_allToTake_b4 w j (n + 1) x a (nI ng) = some a
      rw [f_X10_allToTake_b4, zp_tn2, s2]
      exact if_pos (nI_le (Nat.le_refl ng) (by omega)))
    (fun n i a hi => by
      show f_X10_allToTake_b4 w j (n + 1) x a (nI i) = f_X10_allToTake_b4 w j n x (a + if v 10 i = x then (f_X2_takeable v (nI i)).getD 0 else 0) (nI (i + 1))
      obtain ⟨t, -, p1, p2, p3⟩ := hT i hi
      rw [f_X10_allToTake_b4, zp_tn2, s2, if_neg (nI_ge hi (by omega)), zp_grant0 w j (by omega), zp_zb, p3, p1, p2, zp_zb, nI_succ]
      by_cases d : v 10 i = x
      · rw [if_pos d, if_pos d]; rfl
      · rw [if_neg d, if_neg d]) ng 0 1000 0 (by omega) (by omega)
  obtain ⟨N, hN, e⟩ := zs_bd (g := T) (B := 9999) ng 0 (fun i _ hi => by
    obtain ⟨t, ht, p1, -, -⟩ := hT i (by omega)
    show ∃ m, m ≤ 9999 ∧ (if v 10 i = x then (f_X2_takeable v (nI i)).getD 0 else 0) = nI m
    by_cases d : v 10 i = x
    · exact ⟨t, ht, by rw [if_pos d, p1]; rfl⟩
    · exact ⟨0, by omega, by rw [if_neg d]; rfl⟩)
  rw [zit_sum, Int32.zero_add, e] at h1 h2
  have hb : ng * 9999 ≤ 8 * 9999 := Nat.mul_le_mul_right _ hng
  exact ⟨N, by omega, h1, h2⟩
theorem zo_leaves {v w : zV} (j : zJ) (h : zR v (w 1)) (x1 : Int32) : zSim v w (f_X2_letLeave v x1) (f_X10_leaves w j x1) := by
  obtain ⟨nc, nh, ng, tm, ⟨hc1, hc5, hnh, hng, htm, e00, e06, e01, e07, s0, s1, s2, s3, s4, s5, s6, s7⟩, hk, hh, hc, hg, hr⟩ := h
  unfold f_X2_letLeave f_X10_leaves
  refine zSim_gd (zp_hasHolder _ e06 _) (zp_isHolder _ _ s1 _) zp_m1lt (fun g => ?_)
  obtain ⟨a, ha, rfl⟩ := zw_invh g
  rw [zp_zA (show a < 8 by omega) (by omega), nI_clamp (by omega)]
  rcases zRh_left hh htm ha with ⟨l1, l2⟩ | ⟨l, hl, l1, l2⟩
  · rw [l1, if_pos rfl, zp_hasLeft w j (by omega) l2 (by omega), if_pos rfl, zp_zb, if_pos rfl, zp_53, zp_zA (by omega) (by omega), zp_zl, nI_clamp (by omega), zp_tn3, s3, e07, nI_1]
    have hn2 : zRn nc nh ng tm (zu v 19 (upd (v 19) a (nI tm))) (upd (w 1) (53 + a) (nI (tm + 1))) := by
      have o : ∀ i, i ≠ 53 + a → upd (w 1) (53 + a) (nI (tm + 1)) i = w 1 i := fun i hi => pk_un hi
      refine ⟨⟨hc1, hc5, hnh, hng, htm, e00, e06, e01, e07, ?_, ?_, ?_, ?_, ?_, ?_, ?_, ?_⟩, zRk_fr hk hc5 rfl rfl rfl rfl rfl ?_, ⟨fun k hk => ?_, fun k h1 h2 => ?_⟩, zRc_fr hc (by omega) (by omega) rfl rfl rfl rfl ?_, ⟨fun l hl => ?_, fun l h1 h2 => ?_⟩, zRr_fr hr (by omega) (by omega) rfl rfl rfl rfl rfl rfl ?_⟩
      · exact (o _ (by omega)).trans s0
      · exact (o _ (by omega)).trans s1
      · exact (o _ (by omega)).trans s2
      · exact (o _ (by omega)).trans s3
      · exact (o _ (by omega)).trans s4
      · exact (o _ (by omega)).trans s5
      · exact (o _ (by omega)).trans s6
      · exact (o _ (by omega)).trans s7
      · exact fun i h1 h2 => o i (by omega)
      · by_cases e : k = a
        · subst e
          refine ⟨tm + 1, by omega, ?_, pk_us⟩
          show upd (v 19) k (nI tm) k = nI (tm + 1) - 1
          rw [pk_us, nI_pred]
        · obtain ⟨lf, h1, h2, h3⟩ := hh.1 k hk
          exact ⟨lf, h1, (pk_un e).trans h2, (o _ (by omega)).trans h3⟩
      · exact (o _ (by omega)).trans (hh.2 k h1 h2)
      · exact fun i h1 h2 => o i (by omega)
      · obtain ⟨h', sh, st, cl, te, ma, ta, lf, q1, q2, q3, q4, q5, q6, q7, q8, q9, q10, q11, q12, q13⟩ := hg.1 l hl
        by_cases e : h' = a
        · subst e
          have el : lf = 0 := (nI_eq (by omega) (by omega)).mp (q11.symm.trans l2)
          subst el
          refine ⟨h', sh, st, cl, te, ma, ta, tm + 1, q1, q2, q3, q4, q5, q6, q7, q8, Or.inr (by omega), ?_, pk_us, by omega, ?_⟩
          · have e : zvest tm (tm + 1) sh cl te ma = zvest tm 0 sh cl te ma := by
              unfold zvest
              rw [show (if tm + 1 = 0 then tm else tm + 1 - 1) = tm by rw [if_neg (by omega), Nat.add_sub_cancel], if_pos (rfl : (0 : Nat) = 0)]
            rw [e]; exact q10
          · rw [o _ (by omega), o _ (by omega), o _ (by omega), o _ (by omega), o _ (by omega), o _ (by omega), o _ (by omega)]
            exact q13
        · refine ⟨h', sh, st, cl, te, ma, ta, lf, q1, q2, q3, q4, q5, q6, q7, q8, q9, q10, (o _ (by omega)).trans q11, q12, ?_⟩
          rw [o _ (by omega), o _ (by omega), o _ (by omega), o _ (by omega), o _ (by omega), o _ (by omega), o _ (by omega)]
          exact q13
      · exact (o _ (by omega)).trans (hg.2 l h1 h2)
      · exact fun i h1 h2 => o i (by omega)
    obtain ⟨N, hN, p1, p2⟩ := zr_takeableOf (w := zu w 1 (upd (w 1) (53 + a) (nI (tm + 1)))) j hn2 (nI a)
    rw [p1, p2, zp_zb, zp_zb]
    exact zSim_ok N (by omega) rfl rfl ⟨nc, nh, ng, tm, hn2⟩
  · rw [l1, if_neg (zp_neg1 (by omega)), zp_hasLeft w j (by omega) l2 (by omega), if_neg (by omega), zp_zb, if_neg (by decide)]
    exact zSim_no _ zp_m2lt _
theorem zo_takes {v w : zV} (j : zJ) (h : zR v (w 1)) (x1 x2 : Int32) : zSim v w (f_X2_takeOptions v x1 x2) (f_X10_takes w j x1 x2) := by
  obtain ⟨nc, nh, ng, tm, hn⟩ := h
  have hn0 := hn
  obtain ⟨⟨hc1, hc5, hnh, hng, htm, e00, e06, e01, e07, s0, s1, s2, s3, s4, s5, s6, s7⟩, hk, hh, hc, hg, hr⟩ := hn0
  unfold f_X2_takeOptions f_X10_takes
  refine zSim_gd (zp_hasGrant _ e01 _) (zp_isGrant _ _ s2 _) zp_m1lt (fun gx => ?_)
  obtain ⟨g, hlt, rfl⟩ := zw_invh gx
  refine zSim_gd (zp_within _ _ _) (zp_in _ _ _) zp_m1lt (fun gg => ?_)
  obtain ⟨x, hx1, hx2, rfl⟩ := zw_inv (a := 1) (b := 9999) gg
  rcases zRr_on hr with ⟨o1, o2⟩ | ⟨o1, o2⟩
  · obtain ⟨h', sh, st, cl, te, ma, ta, lf, hgr⟩ := hg.1 g hlt
    have hgr2 : zGr nh tm v (w 1) g h' sh st cl te ma ta lf := hgr
    obtain ⟨q1, q2, q3, q4, q5, q6, q7, q8, q9, q10, q11, q12, q13, q14, q15, q16, q17, q18, q19, q20, q21, q22, q23, q24, q25, q26⟩ := hgr
    have b1 : ztake tm lf sh cl te ma ta ≤ zvest tm lf sh cl te ma - ta := ztake_le
    have b2 : zvest tm lf sh cl te ma ≤ sh := zvest_le q5
    have bs : x * st ≤ 9999 * 99 := Nat.mul_le_mul hx2 q4
    rw [o1, if_pos rfl, zp_isRound0 j o2, zp_zb, if_pos rfl, zp_takeable hnh hng htm e07 hh (by omega) hgr2, zp_canBeTaken w j hnh htm s3 (by omega) hgr2, zp_zb, zp_zb]
    by_cases d : x ≤ ztake tm lf sh cl te ma ta
    · rw [if_pos (nI_le d (by omega)), if_pos (nI_le d (by omega)), zp_size2, zp_zb, zp_certificates2 w j hnh hc, zp_zb]
      have hle := zcn_le v
      by_cases n : zcn v < 24
      · rw [if_pos (show nI (zcn v) < (24 : Int32) from nI_lt (b := 24) n (by omega)), if_neg (show ¬ nI (zcn v) = (24 : Int32) from fun q => absurd ((nI_eq (b := 24) (by omega) (by omega)).mp q) (by omega)), zp_grant2 w j (by omega), zp_zb]
        have i5 : ((157 : Int32) + 7 * nI g) + 5 = nI (162 + 7 * g) := zp_re (zp_157 g 5) (by omega)
        rw [i5, zp_zA (show g < 8 by omega) (by omega), zp_zA (by omega) (by omega), zp_zl, zp_zl, zp_zl, nI_clamp (by omega), nI_clamp (by omega), zp_tn4, zp_tn6, q13, q15, q19, q22, q25, pk_mul, nI_add]
        have hn2 : zRn nc nh ng tm (zu (zu v 0 (zu (zu (v 0) 8 (v 0 8 + nI x)) 10 (v 0 10 + nI (x * st)))) 16 (upd (v 16) g (nI (ta + x)))) (upd (upd (upd (w 1) (162 + 7 * g) (nI (ta + x))) 4 (upd (w 1) (162 + 7 * g) (nI (ta + x)) 4 + nI x)) 6 (upd (upd (w 1) (162 + 7 * g) (nI (ta + x))) 4 (upd (w 1) (162 + 7 * g) (nI (ta + x)) 4 + nI x) 6 + nI (x * st))) := by
          have o : ∀ i, i ≠ 4 → i ≠ 6 → i ≠ 162 + 7 * g → upd (upd (upd (w 1) (162 + 7 * g) (nI (ta + x))) 4 (upd (w 1) (162 + 7 * g) (nI (ta + x)) 4 + nI x)) 6 (upd (upd (w 1) (162 + 7 * g) (nI (ta + x))) 4 (upd (w 1) (162 + 7 * g) (nI (ta + x)) 4 + nI x) 6 + nI (x * st)) i = w 1 i := fun i h1 h2 h3 => (pk_un h2).trans ((pk_un h1).trans (pk_un h3))
          refine ⟨⟨hc1, hc5, hnh, hng, htm, e00, e06, e01, e07, ?_, ?_, ?_, ?_, ?_, ?_, ?_, ?_⟩, zRk_fr hk hc5 rfl rfl rfl rfl rfl ?_, zRh_fr hh hnh (by omega) rfl ?_, zRc_fr hc (by omega) (by omega) rfl rfl rfl rfl ?_, ⟨fun l hl => ?_, fun l h1 h2 => ?_⟩, zRr_fr hr (by omega) (by omega) rfl rfl rfl rfl rfl rfl ?_⟩
          · exact (o _ (by omega) (by omega) (by omega)).trans s0
          · exact (o _ (by omega) (by omega) (by omega)).trans s1
          · exact (o _ (by omega) (by omega) (by omega)).trans s2
          · exact (o _ (by omega) (by omega) (by omega)).trans s3
          · show _ = v 0 8 + nI x
            rw [pk_un (by omega), pk_us, pk_un (by omega), s4]
          · exact (o _ (by omega) (by omega) (by omega)).trans s5
          · show _ = v 0 10 + nI (x * st)
            rw [pk_us, pk_un (by omega), pk_un (by omega), s6]
          · exact (o _ (by omega) (by omega) (by omega)).trans s7
          · exact fun i h1 h2 => o i (by omega) (by omega) (by omega)
          · exact fun i h1 h2 => o i (by omega) (by omega) (by omega)
          · exact fun i h1 h2 => o i (by omega) (by omega) (by omega)
          · by_cases e : l = g
            · subst e
              refine ⟨h', sh, st, cl, te, ma, ta + x, lf, q1, q2, q3, q4, q5, q6, q7, q8, q9, by omega, (o _ (by omega) (by omega) (by omega)).trans q11, q12, q13, q14, q15, q16, q17, q18, pk_us, (o _ (by omega) (by omega) (by omega)).trans q20, (o _ (by omega) (by omega) (by omega)).trans q21, (o _ (by omega) (by omega) (by omega)).trans q22, (o _ (by omega) (by omega) (by omega)).trans q23, (o _ (by omega) (by omega) (by omega)).trans q24, ?_, (o _ (by omega) (by omega) (by omega)).trans q26⟩
              exact (pk_un (by omega)).trans ((pk_un (by omega)).trans pk_us)
            · obtain ⟨h2', sh2, st2, cl2, te2, ma2, ta2, lf2, r1, r2, r3, r4, r5, r6, r7, r8, r9, r10, r11, r12, r13, r14, r15, r16, r17, r18, r19, r20⟩ := hg.1 l hl
              refine ⟨h2', sh2, st2, cl2, te2, ma2, ta2, lf2, r1, r2, r3, r4, r5, r6, r7, r8, r9, r10, (o _ (by omega) (by omega) (by omega)).trans r11, r12, r13, r14, r15, r16, r17, r18, (pk_un e).trans r19, ?_⟩
              rw [o _ (by omega) (by omega) (by omega), o _ (by omega) (by omega) (by omega), o _ (by omega) (by omega) (by omega), o _ (by omega) (by omega) (by omega), o _ (by omega) (by omega) (by omega), o _ (by omega) (by omega) (by omega), o _ (by omega) (by omega) (by omega)]
              exact r20
          · exact (o _ (by omega) (by omega) (by omega)).trans (hg.2 l h1 h2)
          · exact fun i h1 h2 => o i (by omega) (by omega) (by omega)
        obtain ⟨c, v', s', hc24, p1, p2, p3, -⟩ := zo_add (w := zu w 1 (upd (upd (upd (w 1) (162 + 7 * g) (nI (ta + x))) 4 (upd (w 1) (162 + 7 * g) (nI (ta + x)) 4 + nI x)) 6 (upd (upd (w 1) (162 + 7 * g) (nI (ta + x))) 4 (upd (w 1) (162 + 7 * g) (nI (ta + x)) 4 + nI x) 6 + nI (x * st)))) j hn2 (by exact n) q1 (show 0 < nc by omega) hx1 hx2
        have p1' : f_X0_add (zu (zu v 0 (zu (zu (v 0) 8 (v 0 8 + nI x)) 10 (v 0 10 + nI (x * st)))) 16 (upd (v 16) g (nI (ta + x)))) (nI h') 0 (nI x) (v 0 7) = some (nI c, v') := p1
        rw [p1', zp_zb, zp_grant0 _ j (by omega), zp_zb]
        have eh : (zu w 1 (upd (upd (upd (w 1) (162 + 7 * g) (nI (ta + x))) 4 (upd (w 1) (162 + 7 * g) (nI (ta + x)) 4 + nI x)) 6 (upd (upd (w 1) (162 + 7 * g) (nI (ta + x))) 4 (upd (w 1) (162 + 7 * g) (nI (ta + x)) 4 + nI x) 6 + nI (x * st)))) 1 (157 + 7 * g) = nI h' :=
          (pk_un (by omega)).trans ((pk_un (by omega)).trans ((pk_un (by omega)).trans q20))
        have p2' := p2
        rw [nI_0] at p2'
        rw [eh, p2', zp_zb, if_pos (nI_pos' (by omega)), zu_zu]
        exact zSim_ok (x * st) (by omega) rfl rfl ⟨nc, nh, ng, tm, p3⟩
      · rw [if_neg (show ¬ nI (zcn v) < (24 : Int32) from nI_nlt (b := 24) (by omega) (by omega)), if_pos (show nI (zcn v) = (24 : Int32) by rw [show zcn v = 24 by omega]; rfl)]
        exact zSim_no _ zp_m3lt _
    · rw [if_neg (nI_ge (by omega) (by omega)), if_neg (nI_ge (by omega) (by omega))]
      exact zSim_no _ zp_m2lt _
  · rw [o1, if_neg (by decide), zp_isRound1 j o2, zp_zb, if_neg (by decide)]
    exact zSim_no _ zp_m2lt _
