/-! ===== pure: the changes, second part: certificates ===== -/
theorem zu_zu {α : Type} {f : Nat → α} {n : Nat} {x y : α} : zu (zu f n x) n y = zu f n y := by
  funext k
  by_cases h : k = n
  · subst h; rw [zu_eq, zu_eq]
  · rw [zu_ne h, zu_ne h, zu_ne h]
theorem zp_isRound0 {w : zV} (j : zJ) (h : w 1 8 = 0) : f_X10_isRound w j = some 0 := by
  rw [zp_isRound, h]; rfl
theorem zp_isRound1 {w : zV} (j : zJ) (h : w 1 8 = 1) : f_X10_isRound w j = some 1 := by
  rw [zp_isRound, h]; rfl
/-- sums that both sides keep -/
theorem zRn_fr {nc nh ng tm : Nat} {v v' : zV} {s s' : Nat → Int32} (h : zRn nc nh ng tm v s) (e : ∀ a, a ≠ 0 → v' a = v a) (e0 : ∀ i, i < 8 → v' 0 i = v 0 i) (es : ∀ i, i < 4 ∨ 8 ≤ i → s' i = s i) (h4 : s' 4 = v' 0 8) (h5 : s' 5 = v' 0 9) (h6 : s' 6 = v' 0 10) (h7 : s' 7 = v' 0 11) : zRn nc nh ng tm v' s' := by
  obtain ⟨⟨hc1, hc5, hnh, hng, htm, e00, e06, e01, e07, s0, s1, s2, s3, s4, s5, s6, s7⟩, hk, hh, hc, hg, hr⟩ := h
  exact ⟨⟨hc1, hc5, hnh, hng, htm, (e0 _ (by omega)).trans e00, (e0 _ (by omega)).trans e06, (e0 _ (by omega)).trans e01, (e0 _ (by omega)).trans e07, (es _ (by omega)).trans s0, (es _ (by omega)).trans s1, (es _ (by omega)).trans s2, (es _ (by omega)).trans s3, h4, h5, h6, h7⟩,
    zRk_fr hk hc5 (e _ (by omega)) (e _ (by omega)) (e _ (by omega)) (e _ (by omega)) (e _ (by omega)) (fun i _ _ => es i (by omega)),
    zRh_fr hh hnh (Nat.le_refl _) (e _ (by omega)) (fun i _ _ => es i (by omega)),
    zRc_fr hc (Nat.le_refl _) (Nat.le_refl _) (e _ (by omega)) (e _ (by omega)) (e _ (by omega)) (e _ (by omega)) (fun i _ _ => es i (by omega)),
    zRg_fr hg hnh hng (Nat.le_refl _) (e _ (by omega)) (e _ (by omega)) (e _ (by omega)) (e _ (by omega)) (e _ (by omega)) (e _ (by omega)) (e _ (by omega)) (fun i _ _ => es i (by omega)) (fun i _ _ => es i (by omega)),
    zRr_fr hr (Nat.le_refl _) (Nat.le_refl _) (e0 _ (by omega)) (e0 _ (by omega)) (e0 _ (by omega)) (e0 _ (by omega)) (e _ (by omega)) (e _ (by omega)) (fun i _ _ => es i (by omega))⟩
/-- certificates changed on both sides -/
theorem zRn_ce {nc nh ng tm : Nat} {v u : zV} {s s' : Nat → Int32} (h : zRn nc nh ng tm v s) (hc2 : zRc nc nh u s') (es : ∀ i, i < 61 ∨ 157 ≤ i → s' i = s i) : zRn nc nh ng tm (zg_ce u v) s' := by
  obtain ⟨⟨hc1, hc5, hnh, hng, htm, e00, e06, e01, e07, s0, s1, s2, s3, s4, s5, s6, s7⟩, hk, hh, hc, hg, hr⟩ := h
  exact ⟨⟨hc1, hc5, hnh, hng, htm, e00, e06, e01, e07, (es _ (by omega)).trans s0, (es _ (by omega)).trans s1, (es _ (by omega)).trans s2, (es _ (by omega)).trans s3, (es _ (by omega)).trans s4, (es _ (by omega)).trans s5, (es _ (by omega)).trans s6, (es _ (by omega)).trans s7⟩,
    zRk_fr hk hc5 rfl rfl rfl rfl rfl (fun i _ _ => es i (by omega)),
    zRh_fr hh hnh (Nat.le_refl _) rfl (fun i _ _ => es i (by omega)),
    hc2,
    zRg_fr hg hnh hng (Nat.le_refl _) rfl rfl rfl rfl rfl rfl rfl (fun i _ _ => es i (by omega)) (fun i _ _ => es i (by omega)),
    zRr_fr hr (Nat.le_refl _) (Nat.le_refl _) rfl rfl rfl rfl rfl rfl (fun i _ _ => es i (by omega))⟩
/-- one certificate more, on both sides -/
theorem zo_add {nc nh ng tm : Nat} {v w : zV} (j : zJ) (h : zRn nc nh ng tm v (w 1)) (hf : zcn v < 24) {a b m : Nat} (ha : a < nh) (hb : b < nc) (h1 : 1 ≤ m) (h2 : m ≤ 9999) : ∃ c v' s', c < 24 ∧ f_X0_add v (nI a) (nI b) (nI m) (v 0 7) = some (nI c, v') ∧ f_X10_makes w j (nI a) (nI b) (nI m) = some (nI c, zu w 1 s') ∧ zRn nc nh ng tm (zg_ce v' v) s' ∧ zcn (zg_ce v' v) = zcn v + 1 ∧ (∀ i, i < 61 ∨ 157 ≤ i → s' i = w 1 i) := by
  have hi := h.1
  obtain ⟨hc1, hc5, hnh, hng, htm, e00, e06, e01, e07, s0, s1, s2, s3, -⟩ := hi
  have hc := h.2.2.2.1
  obtain ⟨c, hc24, p1, p2, p3, p4⟩ := zr_make hnh hc hf
  have hs : ∀ i, i < 61 ∨ 157 ≤ i → zmk (w 1) c (nI a) (nI b) (nI m) (nI tm) i = w 1 i := fun i hi => zmk_out (by omega)
  refine ⟨c, zadd v c (nI a) (nI b) (nI m) (nI tm), zmk (w 1) c (nI a) (nI b) (nI m) (nI tm), hc24, ?_, ?_, zRn_ce h (zr_made hc ha hb h1 h2) hs, ?_, hs⟩
  · rw [e07]; exact zp_add v _ _ _ _ hc24 p1 p2
  · rw [zp_makes w j _ _ _ hc24 p3 p4, s3]
  · exact zcn_add (a := nI a) (b := nI b) (t := nI tm) hc24 p1 h1 h2
/-- shares are issued -/
theorem zo_issues {v w : zV} (j : zJ) (h : zR v (w 1)) (x1 x2 x3 : Int32) : zSim v w (f_X2_issueShares v x1 x2 x3) (f_X10_issues w j x1 x2 x3) := by
  obtain ⟨nc, nh, ng, tm, hn⟩ := h
  have hi := hn.1
  obtain ⟨hc1, hc5, hnh, hng, htm, e00, e06, e01, e07, s0, s1, s2, s3, s4, s5, s6, s7⟩ := hi
  unfold f_X2_issueShares f_X10_issues
  refine zSim_gd (zp_hasHolder _ e06 _) (zp_isHolder _ _ s1 _) zp_m1lt (fun g => ?_)
  obtain ⟨a, ha, rfl⟩ := zw_invh g
  refine zSim_gd (zp_hasClass _ e00 _) (zp_isClass _ _ s0 _) zp_m1lt (fun g => ?_)
  obtain ⟨b, hb, rfl⟩ := zw_invh g
  refine zSim_gd (zp_within _ _ _) (zp_in _ _ _) zp_m1lt (fun g => ?_)
  obtain ⟨m, hm1, hm2, rfl⟩ := zw_inv (a := 1) (b := 9999) g
  rcases zRr_on hn.2.2.2.2.2 with ⟨o1, o2⟩ | ⟨o1, o2⟩
  · rw [o1, if_pos rfl, zp_isRound0 j o2, zp_zb, if_pos rfl, zp_size2, zp_zb, zp_certificates2 w j hnh hn.2.2.2.1, zp_zb]
    have hle := zcn_le v
    by_cases d : zcn v < 24
    · rw [if_pos (show nI (zcn v) < (24 : Int32) from nI_lt (b := 24) d (by omega)), if_neg (show ¬ nI (zcn v) = (24 : Int32) from fun q => absurd ((nI_eq (b := 24) (by omega) (by omega)).mp q) (by omega)), zp_zl, zp_tn4]
      have hn2 : zRn nc nh ng tm (zu v 0 (zu (v 0) 8 ((v 0 8) + nI m))) (upd (w 1) 4 (w 1 4 + nI m)) :=
        zRn_fr hn (fun a ha => zu_ne ha) (fun i hi => zu_ne (by omega)) (fun i hi => pk_un (by omega)) (by rw [s4]; exact pk_us) ((pk_un (by omega)).trans s5) ((pk_un (by omega)).trans s6) ((pk_un (by omega)).trans s7)
      obtain ⟨c, v', s', hc24, p1, p2, p3, -⟩ := zo_add (w := zu w 1 (upd (w 1) 4 (w 1 4 + nI m))) j hn2 (by exact d) ha hb hm1 hm2
      refine zSim_ok c (by omega) (v' := zg_ce v' (zu v 0 (zu (v 0) 8 ((v 0 8) + nI m)))) (s' := s') ?_ ?_ ⟨nc, nh, ng, tm, p3⟩
      · have p1' : f_X0_add (zu v 0 (zu (v 0) 8 ((v 0 8) + nI m))) (nI a) (nI b) (nI m) (v 0 7) = some (nI c, v') := p1
        rw [p1', zp_zb]
      · rw [p2, zp_zb, zu_zu]
    · rw [if_neg (show ¬ nI (zcn v) < (24 : Int32) from nI_nlt (b := 24) (by omega) (by omega)), if_pos (show nI (zcn v) = (24 : Int32) by rw [show zcn v = 24 by omega]; rfl)]
      exact zSim_no _ zp_m3lt _
  · rw [o1, if_neg (by decide), zp_isRound1 j o2, zp_zb, if_neg (by decide)]
    exact zSim_no _ zp_m2lt _
/-- a certificate that there is, as both sides have it -/
def zCe (nc nh : Nat) (v : zV) (s : Nat → Int32) (c h k m : Nat) : Prop := c < 24 ∧ h < nh ∧ k < nc ∧ 1 ≤ m ∧ m ≤ 9999 ∧ v 6 c = nI h ∧ v 7 c = nI k ∧ v 8 c = nI m ∧ s (61 + 4 * c) = nI (h + 1) ∧ s (62 + 4 * c) = nI k ∧ s (63 + 4 * c) = nI m
theorem zo_has {nc nh : Nat} {v w : zV} (j : zJ) (hnh : nh ≤ 8) (h : zRc nc nh v (w 1)) (x : Int32) : ∃ g, f_X0_has v x = some g ∧ f_X10_isCertificate w j x = some g ∧ (¬ g = 0 → ∃ c a b m, x = nI c ∧ zCe nc nh v (w 1) c a b m) := by
  unfold f_X0_has f_X10_isCertificate
  rw [zp_within, zp_in, zp_zb, zp_zb]
  by_cases d : zw x 0 23 = 0
  · exact ⟨0, if_pos d, if_pos d, fun q => absurd rfl q⟩
  · obtain ⟨c, -, hc, rfl⟩ := zw_inv (a := 0) (b := 23) d
    rw [if_neg d, if_neg d, zp_zA (by omega) (by omega), nI_clamp (by omega), zp_cert0 w j (by omega), zp_zb]
    rcases h c (by omega) with ⟨e1, e2, -⟩ | ⟨a, k, m, h3, h4, h5, h6, e1, e2, e3, e4, e5, e6, e7⟩
    · rw [e1, e2]
      exact ⟨0, rfl, rfl, fun q => absurd rfl q⟩
    · refine ⟨1, ?_, ?_, fun _ => ⟨c, a, k, m, rfl, by omega, h3, h4, h5, h6, e1, e2, e3, e4, e5, e6⟩⟩
      · rw [e3, if_neg (zp_le0 (by omega) (by omega))]
      · rw [e4, if_neg (zp_le0 (by omega) (by omega))]
/-- some of a certificate's shares go -/
theorem zo_lessens {nc nh : Nat} {v w : zV} (j : zJ) (hnh : nh ≤ 8) (hc : zRc nc nh v (w 1)) {c a k m x : Nat} (hce : zCe nc nh v (w 1) c a k m) (h1 : 1 ≤ x) (h2 : x ≤ m) : ∃ s', f_X10_lessens w j (nI c) (nI x) = some (zu w 1 s') ∧ (∀ i, i < 61 ∨ 157 ≤ i → s' i = w 1 i) ∧ zRc nc nh (zu v 8 (upd (v 8) c (nI m - nI x))) s' := by
  obtain ⟨hc24, ha, hk, hm1, hm2, e1, e2, e3, e4, e5, e6⟩ := hce
  have e2' : ((61 : Int32) + 4 * nI c) + 2 = nI (63 + 4 * c) := zp_re (zp_61 c 2) (by omega)
  have e0' : ((61 : Int32) + 4 * nI c) = nI (61 + 4 * c) := by rw [show (61 : Int32) = nI 61 from rfl, show (4 : Int32) = nI 4 from rfl, pk_mul, nI_add]
  have ez0 : nI (61 + 4 * c) + 0 = nI (61 + 4 * c) := nI_add _ 0
  have ez1 : nI (61 + 4 * c) + (0 + 1) = nI (62 + 4 * c) := zp_re (nI_add _ 1) (by omega)
  have ez2 : nI (61 + 4 * c) + (0 + 1 + 1) = nI (63 + 4 * c) := zp_re (nI_add _ 2) (by omega)
  have ez3 : nI (61 + 4 * c) + (0 + 1 + 1 + 1) = nI (64 + 4 * c) := zp_re (nI_add _ 3) (by omega)
  unfold f_X10_lessens
  rw [e2', e0', zp_zA (by omega) (by omega), nI_clamp (by omega), zp_zl, pk_us, e6, pk_sub h2]
  by_cases d : m = x
  · subst d
    rw [if_pos (show nI (m - m) = 0 by rw [Nat.sub_self]; rfl)]
    refine ⟨upd (upd (upd (upd (upd (w 1) (63 + 4 * c) (nI (m - m))) (61 + 4 * c) 0) (62 + 4 * c) 0) (63 + 4 * c) 0) (64 + 4 * c) 0, ?_, fun i hi => ?_, fun d hd => ?_⟩
    · show f_X10_lessens_b33 j (995 + 1 + 1 + 1 + 1 + 1) _ _ _ = _
      rw [f_X10_lessens_b33, if_neg (by decide), ez0, zp_zA (by omega) (by omega), zp_zl, nI_clamp (by omega)]
      rw [f_X10_lessens_b33, if_neg (by decide), ez1, zp_zA (by omega) (by omega), zp_zl, nI_clamp (by omega)]
      rw [f_X10_lessens_b33, if_neg (by decide), ez2, zp_zA (by omega) (by omega), zp_zl, nI_clamp (by omega)]
      rw [f_X10_lessens_b33, if_neg (by decide), ez3, zp_zA (by omega) (by omega), zp_zl, nI_clamp (by omega)]
      rw [f_X10_lessens_b33, if_pos (by decide)]
      rw [zu_eq, zu_zu, zu_eq, zu_zu, zu_eq, zu_zu, zu_eq, zu_zu]
    · exact (pk_un (by omega)).trans ((pk_un (by omega)).trans ((pk_un (by omega)).trans ((pk_un (by omega)).trans (pk_un (by omega)))))
    · by_cases q : d = c
      · subst q
        refine Or.inl ⟨?_, ?_, ?_, ?_, pk_us⟩
        · show upd (v 8) d (nI (m - m)) d = 0
          rw [pk_us, Nat.sub_self]; rfl
        · exact (pk_un (by omega)).trans ((pk_un (by omega)).trans ((pk_un (by omega)).trans pk_us))
        · exact (pk_un (by omega)).trans ((pk_un (by omega)).trans pk_us)
        · exact (pk_un (by omega)).trans pk_us
      · have o : ∀ i, (i < 61 + 4 * c ∨ 65 + 4 * c ≤ i) → upd (upd (upd (upd (upd (w 1) (63 + 4 * c) (nI (m - m))) (61 + 4 * c) 0) (62 + 4 * c) 0) (63 + 4 * c) 0) (64 + 4 * c) 0 i = w 1 i := fun i hi => (pk_un (by omega)).trans ((pk_un (by omega)).trans ((pk_un (by omega)).trans ((pk_un (by omega)).trans (pk_un (by omega)))))
        rw [o _ (by omega), o _ (by omega), o _ (by omega), o _ (by omega), show (zu v 8 (upd (v 8) c (nI (m - m)))) 8 d = v 8 d from pk_un q]
        exact hc d hd
  · rw [if_neg (nI_ne0 (by omega) (by omega))]
    refine ⟨upd (w 1) (63 + 4 * c) (nI (m - x)), rfl, fun i hi => pk_un (by omega), fun d hd => ?_⟩
    by_cases q : d = c
    · subst q
      rcases hc d hd with ⟨q1, -⟩ | ⟨a', k', m', h3, h4, h5, h6, g1, g2, g3, g4, g5, g6, g7⟩
      · exact absurd (e3.symm.trans q1) (nI_ne0 (by omega) (by omega))
      · exact Or.inr ⟨a', k', m - x, h3, h4, by omega, by omega, g1, g2, pk_us, (pk_un (by omega)).trans g4, (pk_un (by omega)).trans g5, pk_us, (pk_un (by omega)).trans g7⟩
    · rw [pk_un (by omega), pk_un (by omega), pk_un (by omega), pk_un (by omega), show (zu v 8 (upd (v 8) c (nI (m - x)))) 8 d = v 8 d from pk_un q]
      exact hc d hd
theorem zg_ce8 {v : zV} {f : Nat → Int32} : zg_ce (zu v 8 f) v = zu v 8 f := by
  funext a
  unfold zg_ce
  by_cases h : a = 8
  · subst h; rfl
  · rw [zu_ne h]
    cases (Nat.ble 6 a && Nat.ble a 9) <;> rfl
theorem zcn_less {v : zV} {c m x : Nat} (hc : c < 24) (e3 : v 8 c = nI m) (h1 : 1 ≤ m) (h2 : m ≤ 9999) (hx : x ≤ m) : zcn (zu v 8 (upd (v 8) c (nI m - nI x))) + (if m = x then 1 else 0) = zcn v := by
  have o : ∀ d, d ≠ c → zus (zu v 8 (upd (v 8) c (nI m - nI x))) d = zus v d := by
    intro d hd
    show (!decide (upd (v 8) c (nI m - nI x) d ≤ 0)) = !decide (v 8 d ≤ 0)
    rw [pk_un hd]
  by_cases d : m = x
  · subst d
    rw [if_pos rfl]
    refine (zc_set (c := c) ?_ ?_ 24 0 (by omega) (by omega) (fun l hl => (o l hl).symm)).symm
    · show (!decide (upd (v 8) c (nI m - nI m) c ≤ 0)) = false
      rw [pk_us, pk_sub (Nat.le_refl m), Nat.sub_self]; rfl
    · show (!decide (v 8 c ≤ 0)) = true
      rw [e3, decide_eq_false (zp_le0 (by omega) (by omega))]; rfl
  · rw [if_neg d, Nat.add_zero]
    refine zc_congr 24 0 (fun l _ _ => ?_)
    by_cases e : l = c
    · subst e
      show (!decide (upd (v 8) l (nI m - nI x) l ≤ 0)) = !decide (v 8 l ≤ 0)
      rw [pk_us, pk_sub hx, e3, decide_eq_false (zp_le0 (by omega) (by omega)), decide_eq_false (zp_le0 (by omega) (by omega))]
    · exact o l e
