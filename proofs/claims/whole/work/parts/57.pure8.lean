/-! ===== pure: the changes, third part: split, bought back, granted ===== -/
theorem zo_split_b {nc nh ng tm : Nat} {v w : zV} (j : zJ) (hn : zRn nc nh ng tm v (w 1)) {c a k m h x : Nat} (hce : zCe nc nh v (w 1) c a k m) (hh : h < nh) (h1 : 1 ≤ x) (h2 : x ≤ m) (hf : ¬ m = x → zcn v < 24) : zSim v w (f_X2_splitCertificate_b104 v (nI c) (nI h) (nI x)) (f_X10_splits_b76 j w (nI c) (nI h) (nI x)) := by
  have hnh : nh ≤ 8 := hn.1.2.2.1
  obtain ⟨s', p1, p2, p3⟩ := zo_lessens j hnh hn.2.2.2.1 hce h1 h2
  obtain ⟨hc24, ha, hk, hm1, hm2, e1, e2, e3, e4, e5, e6⟩ := hce
  have hz := zcn_less (v := v) hc24 e3 hm1 hm2 h2
  have hn2 : zRn nc nh ng tm (zu v 8 (upd (v 8) c (nI m - nI x))) s' := by
    have := zRn_ce hn p3 p2
    rw [zg_ce8] at this
    exact this
  have hle := zcn_le v
  have hf2 : zcn (zu v 8 (upd (v 8) c (nI m - nI x))) < 24 := by
    by_cases d : m = x
    · rw [if_pos d] at hz; omega
    · have := hf d
      rw [if_neg d] at hz; omega
  obtain ⟨c', v', s2, hc', q1, q2, q3, -⟩ := zo_add (w := zu w 1 s') j hn2 hf2 hh hk h1 (by omega)
  unfold f_X2_splitCertificate_b104 f_X10_splits_b76
  refine zSim_ok c' (by omega) (v' := zg_ce v' (zu v 8 (upd (v 8) c (nI m - nI x)))) (s' := s2) ?_ ?_ ⟨nc, nh, ng, tm, q3⟩
  · have q1' : f_X0_add (zu v 8 (upd (v 8) c (nI m - nI x))) (nI h) (nI k) (nI x) (v 0 7) = some (nI c', v') := q1
    rw [zp_zA hc24 (by omega), nI_clamp (by omega), e3, e2, q1', zp_zb]
  · rw [zp_cert1 w j hc24, zp_zb, p1, zp_zb, e5, q2, zp_zb, zu_zu]
theorem zo_splits {v w : zV} (j : zJ) (h : zR v (w 1)) (x1 x2 x3 : Int32) : zSim v w (f_X2_splitCertificate v x1 x2 x3) (f_X10_splits w j x1 x2 x3) := by
  obtain ⟨nc, nh, ng, tm, hn⟩ := h
  have hi := hn.1
  obtain ⟨hc1, hc5, hnh, hng, htm, e00, e06, e01, e07, s0, s1, s2, s3, s4, s5, s6, s7⟩ := hi
  unfold f_X2_splitCertificate f_X10_splits
  obtain ⟨g, hg1, hg2, hg3⟩ := zo_has j hnh hn.2.2.2.1 x1
  refine zSim_gd hg1 hg2 zp_m1lt (fun q => ?_)
  obtain ⟨c, a, k, m, rfl, hce⟩ := hg3 q
  have hce2 := hce
  obtain ⟨hc24, ha, hk, hm1, hm2, e1, e2, e3, e4, e5, e6⟩ := hce2
  refine zSim_gd (zp_hasHolder _ e06 _) (zp_isHolder _ _ s1 _) zp_m1lt (fun g => ?_)
  obtain ⟨b, hb, rfl⟩ := zw_invh g
  rw [zp_zA hc24 (by omega), nI_clamp (by omega), e1, e3, zp_cert0 w j hc24, zp_zb, e4, nI_1]
  by_cases d : a = b
  · rw [d, if_pos rfl, if_pos rfl]
    exact zSim_no _ zp_m1lt _
  · rw [if_neg (show ¬ nI a = nI b from fun q => d ((nI_eq (by omega) (by omega)).mp q)), if_neg (show ¬ nI (a + 1) = nI (b + 1) from fun q => d (by have := (nI_eq (by omega) (by omega)).mp q; omega)), zp_cert2 w j hc24, zp_zb, e6]
    refine zSim_gd (zp_within _ _ _) (zp_in _ _ _) zp_m1lt (fun g => ?_)
    obtain ⟨x, hx1, hx2, rfl⟩ := zw_inv (a := 1) (b := m) g
    have hcore := zo_split_b j hn hce hb hx1 hx2
    have hle := zcn_le v
    rcases zRr_on hn.2.2.2.2.2 with ⟨o1, o2⟩ | ⟨o1, o2⟩
    · rw [o1, if_pos rfl, zp_isRound0 j o2, zp_zb, if_pos rfl, zp_certificates2 w j hnh hn.2.2.2.1, zp_zb]
      by_cases f : m = x
      · rw [if_pos (show nI m = nI x by rw [f]), if_neg (show ¬ (1 : Int32) = 0 by decide)]
        by_cases n : nI (zcn v) = 24
        · rw [if_pos n, zp_zb, if_pos (nI_le (by omega) (by omega))]
          exact hcore (fun q => absurd f q)
        · rw [if_neg n]
          exact hcore (fun q => absurd f q)
      · rw [if_neg (show ¬ nI m = nI x from fun q => f ((nI_eq (by omega) (by omega)).mp q)), if_pos rfl, zp_size2, zp_zb]
        by_cases n : zcn v < 24
        · rw [if_pos (show nI (zcn v) < (24 : Int32) from nI_lt (b := 24) n (by omega)), if_neg (show ¬ nI (zcn v) = (24 : Int32) from fun q => absurd ((nI_eq (b := 24) (by omega) (by omega)).mp q) (by omega))]
          exact hcore (fun _ => n)
        · rw [if_neg (show ¬ nI (zcn v) < (24 : Int32) from nI_nlt (b := 24) (by omega) (by omega)), if_pos (show nI (zcn v) = (24 : Int32) by rw [show zcn v = 24 by omega]; rfl), zp_zb, if_neg (nI_ge (by omega) (by omega))]
          exact zSim_no _ zp_m3lt _
    · rw [o1, if_neg (by decide), zp_isRound1 j o2, zp_zb, if_neg (by decide)]
      exact zSim_no _ zp_m2lt _
theorem zo_buys {v w : zV} (j : zJ) (h : zR v (w 1)) (x1 x2 : Int32) : zSim v w (f_X2_buySharesBack v x1 x2) (f_X10_buys w j x1 x2) := by
  obtain ⟨nc, nh, ng, tm, hn⟩ := h
  have hi := hn.1
  obtain ⟨hc1, hc5, hnh, hng, htm, e00, e06, e01, e07, s0, s1, s2, s3, s4, s5, s6, s7⟩ := hi
  unfold f_X2_buySharesBack f_X10_buys
  obtain ⟨g, hg1, hg2, hg3⟩ := zo_has j hnh hn.2.2.2.1 x1
  refine zSim_gd hg1 hg2 zp_m1lt (fun q => ?_)
  obtain ⟨c, a, k, m, rfl, hce⟩ := hg3 q
  have hce2 := hce
  obtain ⟨hc24, ha, hk, hm1, hm2, e1, e2, e3, e4, e5, e6⟩ := hce2
  rw [zp_zA hc24 (by omega), nI_clamp (by omega), e3, zp_cert2 w j hc24, zp_zb, e6]
  refine zSim_gd (zp_within _ _ _) (zp_in _ _ _) zp_m1lt (fun g => ?_)
  obtain ⟨x, hx1, hx2, rfl⟩ := zw_inv (a := 1) (b := m) g
  rcases zRr_on hn.2.2.2.2.2 with ⟨o1, o2⟩ | ⟨o1, o2⟩
  · obtain ⟨s', p1, p2, p3⟩ := zo_lessens j hnh hn.2.2.2.1 hce hx1 hx2
    have hn2 : zRn nc nh ng tm (zu v 8 (upd (v 8) c (nI m - nI x))) s' := by
      have := zRn_ce hn p3 p2
      rw [zg_ce8] at this
      exact this
    rw [o1, if_pos rfl, zp_isRound0 j o2, zp_zb, if_pos rfl, zp_zb, p1, zp_zb, zp_zl, zp_tn5, pk_us]
    refine zSim_ok (m - x) (by omega) (by rw [pk_sub hx2]) (s' := upd s' 5 (s' 5 + nI x)) (by rw [zu_zu, zu_eq, pk_sub hx2]) ⟨nc, nh, ng, tm, ?_⟩
    have t : ∀ i, i < 61 → s' i = w 1 i := fun i hi => p2 i (Or.inl hi)
    rw [← pk_sub hx2]
    refine zRn_fr hn2 (fun a ha => ?_) (fun i hi => zu_ne (by omega)) (fun i hi => pk_un (by omega)) ?_ ?_ ?_ ?_
    · by_cases q : a = 8
      · subst q; rfl
      · rw [zu_ne q, zu_ne q, zu_ne ha]
    · exact (pk_un (by omega)).trans ((t _ (by omega)).trans s4)
    · rw [t 5 (by omega), s5]; exact pk_us
    · exact (pk_un (by omega)).trans ((t _ (by omega)).trans s6)
    · exact (pk_un (by omega)).trans ((t _ (by omega)).trans s7)
  · rw [o1, if_neg (by decide), zp_isRound1 j o2, zp_zb, if_neg (by decide)]
    exact zSim_no _ zp_m2lt _
/-- whether a holder left -/
theorem zRh_left {nh tm : Nat} {v : zV} {s : Nat → Int32} (h : zRh nh tm v s) (ht : tm ≤ 999) {k : Nat} (hk : k < nh) : (v 19 k = -1 ∧ s (53 + k) = nI 0) ∨ ∃ l, l ≤ tm ∧ v 19 k = nI l ∧ s (53 + k) = nI (l + 1) := by
  obtain ⟨lf, h1, h2, h3⟩ := h.1 k hk
  cases lf with
  | zero => exact Or.inl ⟨h2.trans (by decide), h3⟩
  | succ l => exact Or.inr ⟨l, by omega, h2.trans (nI_pred l), h3⟩
theorem zo_grants {v w : zV} (j : zJ) (h : zR v (w 1)) (x1 x2 x3 x4 x5 : Int32) : zSim v w (f_X2_addGrant v x1 x2 x3 x4 x5) (f_X10_grants w j x1 x2 x3 x4 x5) := by
  obtain ⟨nc, nh, ng, tm, ⟨hc1, hc5, hnh, hng, htm, e00, e06, e01, e07, s0, s1, s2, s3, s4, s5, s6, s7⟩, hk, hh, hc, hg, hr⟩ := h
  unfold f_X2_addGrant f_X10_grants
  refine zSim_gd (zp_hasHolder _ e06 _) (zp_isHolder _ _ s1 _) zp_m1lt (fun g => ?_)
  obtain ⟨a, ha, rfl⟩ := zw_invh g
  refine zSim_gd (zp_within _ _ _) (zp_in _ _ _) zp_m1lt (fun g => ?_)
  obtain ⟨m, hm1, hm2, rfl⟩ := zw_inv (a := 1) (b := 9999) g
  refine zSim_gd (zp_within _ _ _) (zp_in _ _ _) zp_m1lt (fun g => ?_)
  obtain ⟨st, -, hst, rfl⟩ := zw_inv (a := 0) (b := 99) g
  refine zSim_gd (zp_within _ _ _) (zp_in _ _ _) zp_m1lt (fun g => ?_)
  obtain ⟨te, ht1, ht2, rfl⟩ := zw_inv (a := 1) (b := 60) g
  refine zSim_gd (zp_within _ _ _) (zp_in _ _ _) zp_m1lt (fun g => ?_)
  obtain ⟨cl, -, hcl, rfl⟩ := zw_inv (a := 0) (b := te) g
  rw [zp_zA (show a < 8 by omega) (by omega), nI_clamp (by omega)]
  rcases zRh_left hh htm ha with ⟨l1, l2⟩ | ⟨l, hl, l1, l2⟩
  · rw [l1, if_pos rfl, zp_hasLeft w j (by omega) l2 (by omega), if_pos rfl, zp_zb, if_pos rfl, zp_tn2, s2, e01, e07]
    by_cases d : ng = 8
    · subst d
      rw [if_neg (show ¬ nI 8 < (8 : Int32) by decide), if_pos (show nI 8 = (8 : Int32) by decide)]
      exact zSim_no _ zp_m3lt _
    · have i0 : ((157 : Int32) + 7 * nI ng) + 0 = nI (157 + 7 * ng) := zp_157 ng 0
      have i1 : ((157 : Int32) + 7 * nI ng) + 1 = nI (158 + 7 * ng) := zp_re (zp_157 ng 1) (by omega)
      have i2 : ((157 : Int32) + 7 * nI ng) + 2 = nI (159 + 7 * ng) := zp_re (zp_157 ng 2) (by omega)
      have i3 : ((157 : Int32) + 7 * nI ng) + 3 = nI (160 + 7 * ng) := zp_re (zp_157 ng 3) (by omega)
      have i4 : ((157 : Int32) + 7 * nI ng) + 4 = nI (161 + 7 * ng) := zp_re (zp_157 ng 4) (by omega)
      have i6 : ((157 : Int32) + 7 * nI ng) + 6 = nI (163 + 7 * ng) := zp_re (zp_157 ng 6) (by omega)
      rw [if_pos (show nI ng < (8 : Int32) from nI_lt (b := 8) (by omega) (by omega)), if_neg (show ¬ nI ng = (8 : Int32) from fun q => d ((nI_eq (b := 8) (by omega) (by omega)).mp q)), i0, i1, i2, i3, i4, i6, zp_zA (by omega) (by omega), nI_clamp (by omega), nI_1]
      rw [zp_zA (by omega) (by omega), zp_zl, zp_zA (by omega) (by omega), zp_zl, zp_zA (by omega) (by omega), zp_zl, zp_zA (by omega) (by omega), zp_zl, zp_zA (by omega) (by omega), zp_zl, zp_zA (by omega) (by omega), zp_zl, zp_zl, nI_clamp (by omega), nI_clamp (by omega), nI_clamp (by omega), nI_clamp (by omega), nI_clamp (by omega), nI_clamp (by omega), zp_tn3]
      have u : ∀ i, i < 157 → (upd (upd (upd (upd (upd (w 1) (157 + 7 * ng) (nI a)) (158 + 7 * ng) (nI m)) (159 + 7 * ng) (nI st)) (160 + 7 * ng) (nI cl)) (161 + 7 * ng) (nI te)) i = w 1 i := fun i hi =>
        (pk_un (by omega)).trans ((pk_un (by omega)).trans ((pk_un (by omega)).trans ((pk_un (by omega)).trans (pk_un (by omega)))))
      rw [u 3 (by omega), s3]
      have u2 : upd (upd (upd (upd (upd (upd (w 1) (157 + 7 * ng) (nI a)) (158 + 7 * ng) (nI m)) (159 + 7 * ng) (nI st)) (160 + 7 * ng) (nI cl)) (161 + 7 * ng) (nI te)) (163 + 7 * ng) (nI tm) 2 = nI ng := (pk_un (by omega)).trans ((u 2 (by omega)).trans s2)
      rw [u2, nI_1, pk_us, nI_pred]
      have o : ∀ i, ¬ i = 2 → (i < 157 + 7 * ng ∨ 164 + 7 * ng ≤ i ∨ i = 162 + 7 * ng) → upd (upd (upd (upd (upd (upd (upd (w 1) (157 + 7 * ng) (nI a)) (158 + 7 * ng) (nI m)) (159 + 7 * ng) (nI st)) (160 + 7 * ng) (nI cl)) (161 + 7 * ng) (nI te)) (163 + 7 * ng) (nI tm)) 2 (nI (ng + 1)) i = w 1 i := fun i h1 h2 =>
        (pk_un h1).trans ((pk_un (by omega)).trans ((pk_un (by omega)).trans ((pk_un (by omega)).trans ((pk_un (by omega)).trans ((pk_un (by omega)).trans (pk_un (by omega)))))))
      refine zSim_ok ng (by omega) rfl rfl ⟨nc, nh, ng + 1, tm, ⟨hc1, hc5, hnh, by omega, htm, e00, e06, rfl, e07, ?_, ?_, pk_us, ?_, ?_, ?_, ?_, ?_⟩, zRk_fr hk hc5 rfl rfl rfl rfl rfl ?_, zRh_fr hh hnh (by omega) rfl ?_, zRc_fr hc (by omega) (by omega) rfl rfl rfl rfl ?_, ⟨fun l hl => ?_, fun l h1 h2 => ?_⟩, zRr_fr hr (by omega) (by omega) rfl rfl rfl rfl rfl rfl ?_⟩
      · exact (o 0 (by omega) (by omega)).trans s0
      · exact (o 1 (by omega) (by omega)).trans s1
      · exact (o 3 (by omega) (by omega)).trans s3
      · exact (o 4 (by omega) (by omega)).trans s4
      · exact (o 5 (by omega) (by omega)).trans s5
      · exact (o 6 (by omega) (by omega)).trans s6
      · exact (o 7 (by omega) (by omega)).trans s7
      · exact fun i h1 h2 => o i (by omega) (by omega)
      · exact fun i h1 h2 => o i (by omega) (by omega)
      · exact fun i h1 h2 => o i (by omega) (by omega)
      · by_cases e : l = ng
        · subst e
          refine ⟨a, m, st, cl, te, tm, 0, 0, ha, hm1, hm2, hst, ht1, ht2, hcl, Nat.le_refl _, Or.inl rfl, Nat.zero_le _, (o _ (by omega) (by omega)).trans l2, by omega, pk_us, pk_us, pk_us, pk_us, pk_us, pk_us, pk_us, ?_, ?_, ?_, ?_, ?_, ?_, ?_⟩
          · exact (pk_un (by omega)).trans ((pk_un (by omega)).trans ((pk_un (by omega)).trans ((pk_un (by omega)).trans ((pk_un (by omega)).trans ((pk_un (by omega)).trans pk_us)))))
          · exact (pk_un (by omega)).trans ((pk_un (by omega)).trans ((pk_un (by omega)).trans ((pk_un (by omega)).trans ((pk_un (by omega)).trans pk_us))))
          · exact (pk_un (by omega)).trans ((pk_un (by omega)).trans ((pk_un (by omega)).trans ((pk_un (by omega)).trans pk_us)))
          · exact (pk_un (by omega)).trans ((pk_un (by omega)).trans ((pk_un (by omega)).trans pk_us))
          · exact (pk_un (by omega)).trans ((pk_un (by omega)).trans pk_us)
          · exact (o _ (by omega) (by omega)).trans (hg.2 l (by omega) (by omega))
          · exact (pk_un (by omega)).trans pk_us
        · rw [o _ (by omega) (by omega), o _ (by omega) (by omega), o _ (by omega) (by omega), o _ (by omega) (by omega), o _ (by omega) (by omega), o _ (by omega) (by omega), o _ (by omega) (by omega)]
          obtain ⟨h', sh, st', cl', te', ma, ta, lf, q1, q2, q3, q4, q5, q6, q7, q8, q9, q10, q11, q12, q13, q14, q15, q16, q17, q18, q19, q20⟩ := hg.1 l (by omega)
          exact ⟨h', sh, st', cl', te', ma, ta, lf, q1, q2, q3, q4, q5, q6, q7, q8, q9, q10, (o _ (by omega) (by omega)).trans q11, q12, (pk_un e).trans q13, (pk_un e).trans q14, (pk_un e).trans q15, (pk_un e).trans q16, (pk_un e).trans q17, (pk_un e).trans q18, (pk_un e).trans q19, q20⟩
      · exact (o _ (by omega) (by omega)).trans (hg.2 l (by omega) h2)
      · exact fun i h1 h2 => o i (by omega) (by omega)
  · rw [l1, if_neg (zp_neg1 (by omega)), zp_hasLeft w j (by omega) l2 (by omega), if_neg (by omega), zp_zb, if_neg (by decide)]
    exact zSim_no _ zp_m2lt _
