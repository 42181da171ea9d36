/-! ===== pure: exits on both sides ===== -/
theorem me_next {X : zX} (hX : zXok X) {w : zV} {set left : Nat} (hs : set < 32) (hl : left ≤ 9999999) : ∀ (k i n : Nat) (bj : zJ), i + k = zX.nc X → k < n → 1 ≤ i → zM X w bj → ∃ b, f_X10_nextToConvert_b3 w n bj (lN left) (nI set) (nI i) = some (zo2 (zfirst (fun k => !decide (zX.S X k = 0) && (!set.testBit k && decide (xout X left set k < xout X left (set ||| 2 ^ k) k))) i k), b) ∧ ∀ a, a ≠ 0 → a ≠ 1 → b a = bj a := by
  have h1 := hX.1
  have h5 := hX.2.1
  intro k
  induction k with
  | zero =>
    intro i n bj e hn hi1 hM
    obtain ⟨n, rfl⟩ : ∃ m, n = m + 1 := ⟨n - 1, by omega⟩
    refine ⟨bj, ?_, fun _ _ _ => rfl⟩
    rw [f_X10_nextToConvert_b3, zp_tn0, hM.1, if_pos (nI_le (by omega) (by omega))]
    rfl
  | succ k ih =>
    intro i n bj e hn hi1 hM
    obtain ⟨n, rfl⟩ : ∃ m, n = m + 1 := ⟨n - 1, by omega⟩
    have hi : i < zX.nc X := by omega
    have hb := hX.2.2 i hi
    have hno : ∀ (p : Nat → Bool), p i = false → zfirst p i (k + 1) = zfirst p (i + 1) k := fun p q => by
      show (if p i = true then some i else zfirst p (i + 1) k) = _
      rw [q, if_neg (by decide)]
    rw [f_X10_nextToConvert_b3, zp_tn0, hM.1, if_neg (nI_ge hi (by omega)), ze_mhas hs (by omega), zp_zb]
    cases b1 : set.testBit i
    · rw [if_pos (by decide), zp_zA (show i < 5 by omega) (by omega), nI_clamp (by omega), (hM.2 i hi).2.2.2]
      by_cases d : zX.S X i = 0
      · rw [if_pos ((lN_cmp_le0 (by omega)).mpr (hb.2.2.2.2.1 d)), hno _ (by rw [decide_eq_true d]; rfl), ← nI_succ]
        exact ih (i + 1) n bj (by omega) (by omega) (by omega) hM
      · rw [if_neg (fun q => d (hb.2.2.2.2.2.1 ((lN_cmp_le0 (by omega)).mp q)))]
        obtain ⟨b2, e2, r1, r2⟩ := me_paysOut hX hM (left := left) hs (by omega)
        have hM2 := zM_fr01 hM r1
        obtain ⟨b3, e3, t1, t2⟩ := me_paysOut hX hM2 (left := left) (ze_orlt hs (show i < 5 by omega)) (by omega)
        have g1 := xout_bd hX (set := set) hl hi
        have g2 := xout_bd hX (set := set ||| 2 ^ i) hl hi
        rw [e2, zp_zb, ze_or hs (by omega), e3, zp_zb, r2 i hi, t2 i hi]
        by_cases d2 : xout X left set i < xout X left (set ||| 2 ^ i) i
        · rw [if_neg (fun q => by have := (pk_lLE (by omega) (by omega)).mp ((lg_cmp_le _ _).mp q); omega)]
          refine ⟨b3, ?_, fun a h2 h3 => (t1 a h2 h3).trans (r1 a h2 h3)⟩
          show _ = some (zo2 (if (!decide (zX.S X i = 0) && (!set.testBit i && decide (xout X left set i < xout X left (set ||| 2 ^ i) i))) = true then some i else _), b3)
          rw [decide_eq_false d, b1, decide_eq_true d2, if_pos (by decide)]
          rfl
        · rw [if_pos ((lg_cmp_le _ _).mpr ((pk_lLE (by omega) (by omega)).mpr (by omega))), hno _ (by rw [decide_eq_false d, b1, decide_eq_false d2]; rfl), ← nI_succ]
          obtain ⟨b4, e4, u1⟩ := ih (i + 1) n b3 (by omega) (by omega) (by omega) (zM_fr01 hM2 t1)
          exact ⟨b4, e4, fun a h2 h3 => (u1 a h2 h3).trans ((t1 a h2 h3).trans (r1 a h2 h3))⟩
    · rw [if_neg (by decide), hno _ (by rw [b1]; cases decide (zX.S X i = 0) <;> rfl), ← nI_succ]
      exact ih (i + 1) n bj (by omega) (by omega) (by omega) hM
theorem xnext_some {X : zX} (h1 : 1 ≤ zX.nc X) {left set f : Nat} (h : xnext X left set = some f) : 1 ≤ f ∧ f < zX.nc X ∧ set.testBit f = false := by
  obtain ⟨q1, q2, q3⟩ := zfirst_some _ _ _ h
  refine ⟨q1, by omega, ?_⟩
  simp only [Bool.and_eq_true, decide_eq_true_eq] at q3
  have := q3.2.1
  simpa using this
theorem me_exits_b {X : zX} (hX : zXok X) {w : zV} {left : Nat} (hl : left ≤ 9999999) : ∀ (t n : Nat) (bj : zJ) (set : Nat), zc (fun k => !set.testBit k) 1 (zX.nc X - 1) ≤ t → t < n → zM X w bj → set < 32 → ∃ b, f_X10_exits_b14 w n bj (nI left) (nI set) (zo2 (xnext X left set)) = some (nI (xset X left t set), b) ∧ ∀ k, k < zX.nc X → b 0 k = lN (xout X left (xset X left t set) k) := by
  have h1 := hX.1
  have h5 := hX.2.1
  intro t
  induction t with
  | zero =>
    intro n bj set ht hn hM hs
    obtain ⟨n, rfl⟩ : ∃ m, n = m + 1 := ⟨n - 1, by omega⟩
    cases hf : xnext X left set with
    | none =>
      obtain ⟨b, e1, p1, p2⟩ := me_paysOut hX hM (left := left) hs (by omega)
      refine ⟨b, ?_, p2⟩
      rw [f_X10_exits_b14, if_pos (show zo2 none < 0 by decide), nI_l (by omega), e1, zp_zb]
      rfl
    | some f =>
      obtain ⟨q1, q2, q3⟩ := xnext_some h1 hf
      have hz := zc_set2 (p := fun k => !(set ||| 2 ^ f).testBit k) (q := fun k => !set.testBit k) (c := f) (by
        show (!(set ||| 2 ^ f).testBit f) = false
        rw [ze_orb hs (by omega) (by omega), decide_eq_true (rfl : f = f), Bool.or_true]; rfl) (by
        show (!set.testBit f) = true
        rw [q3]; rfl) (zX.nc X - 1) 1 q1 (by omega) (fun l h2 h3 => by
        show (!set.testBit l) = !(set ||| 2 ^ f).testBit l
        rw [ze_orb hs (by omega) (by omega), decide_eq_false h3, Bool.or_false])
      omega
  | succ t ih =>
    intro n bj set ht hn hM hs
    obtain ⟨n, rfl⟩ : ∃ m, n = m + 1 := ⟨n - 1, by omega⟩
    rw [f_X10_exits_b14, xset]
    cases hf : xnext X left set with
    | none =>
      obtain ⟨b, e1, p1, p2⟩ := me_paysOut hX hM (left := left) hs (by omega)
      refine ⟨b, ?_, p2⟩
      rw [if_pos (show zo2 none < 0 by decide), nI_l (by omega), e1, zp_zb]
    | some f =>
      obtain ⟨q1, q2, q3⟩ := xnext_some h1 hf
      have hor := ze_orlt hs (show f < 5 by omega)
      have hz := zc_set2 (p := fun k => !(set ||| 2 ^ f).testBit k) (q := fun k => !set.testBit k) (c := f) (by
        show (!(set ||| 2 ^ f).testBit f) = false
        rw [ze_orb hs (by omega) (by omega), decide_eq_true (rfl : f = f), Bool.or_true]; rfl) (by
        show (!set.testBit f) = true
        rw [q3]; rfl) (zX.nc X - 1) 1 q1 (by omega) (fun l h2 h3 => by
        show (!set.testBit l) = !(set ||| 2 ^ f).testBit l
        rw [ze_orb hs (by omega) (by omega), decide_eq_false h3, Bool.or_false])
      obtain ⟨b, e1, p1⟩ := me_next hX (left := left) hor hl (zX.nc X - 1) 1 1000 bj (by omega) (by omega) (by omega) hM
      have e1' : f_X10_nextToConvert w bj (lN left) (nI (set ||| 2 ^ f)) = some (zo2 (xnext X left (set ||| 2 ^ f)), b) := e1
      rw [show zo2 (some f) = nI f from rfl, if_neg (nI_pos (by omega)), ze_or hs (by omega), nI_l (by omega), e1', zp_zb]
      exact ih n b (set ||| 2 ^ f) (by omega) (by omega) (zM_fr01 hM p1) hor
/-- what a company's state says of an exit -/
def zXof (v : zV) (nc : Nat) : zX := (nc, (fun k => zNi v (nI k) * (v 1 k).toNatClampNeg * (v 2 k).toNatClampNeg), (fun k => zNi v (nI k) * zq v k), (fun k => zNi v (nI k)), (fun k => (v 3 k).toNatClampNeg), fun k => (v 4 k).toNatClampNeg)
theorem zXof_ok {nc nh ng tm : Nat} {v : zV} {s : Nat → Int32} (hn : zRn nc nh ng tm v s) : zXok (zXof v nc) := by
  obtain ⟨⟨hc1, hc5, hnh, hng, htm, -⟩, hk, hh, hc, hg, hr⟩ := hn
  refine ⟨hc1, hc5, fun k hk2 => ?_⟩
  obtain ⟨p, m, r, d, q, b1, b2, b3, b4, b5, b6, -, p1, p2, p3, p4, p5, -⟩ := hk k hk2
  have hN := zNi_bd hc (nI k)
  have hq := zRk_q hk hk2
  have eP : zX.P (zXof v nc) k = zNi v (nI k) * p * m := by
    show zNi v (nI k) * (v 1 k).toNatClampNeg * (v 2 k).toNatClampNeg = _
    rw [p1, p2, nI_clamp (by omega), nI_clamp (by omega)]
  have eC : zX.C (zXof v nc) k = zNi v (nI k) * zq v k := rfl
  have eS : zX.S (zXof v nc) k = zNi v (nI k) := rfl
  have eR : zX.R (zXof v nc) k = r := by
    show (v 3 k).toNatClampNeg = r
    rw [p3, nI_clamp (by omega)]
  have eK : zX.K (zXof v nc) k = d := by
    show (v 4 k).toNatClampNeg = d
    rw [p4, nI_clamp (by omega)]
  rw [eP, eC, eS, eR, eK]
  refine ⟨hN, Nat.le_trans (Nat.mul_le_mul (Nat.mul_le_mul hN b1) b2) (by decide), Nat.le_trans (Nat.mul_le_mul hN hq.2.2) (by decide), fun z => by rw [z, Nat.zero_mul, Nat.zero_mul], fun z => by rw [z, Nat.zero_mul], fun z => ?_, b3, b4⟩
  rcases Nat.mul_eq_zero.mp z with z | z
  · exact z
  · omega
theorem zXof_at {nc nh ng tm : Nat} {v : zV} {s : Nat → Int32} (hn : zRn nc nh ng tm v s) {k : Nat} (hk2 : k < nc) : nI (zX.P (zXof v nc) k) = (nI (zNi v (nI k)) * v 1 k) * v 2 k ∧ nI (zX.C (zXof v nc) k) = nI (zNi v (nI k)) * v 5 k ∧ nI (zX.R (zXof v nc) k) = v 3 k ∧ nI (zX.K (zXof v nc) k) = v 4 k ∧ s (28 + 5 * k) = v 1 k ∧ s (29 + 5 * k) = v 2 k ∧ s (30 + 5 * k) = v 3 k ∧ s (31 + 5 * k) = v 4 k ∧ s (32 + 5 * k) = v 5 k := by
  obtain ⟨⟨hc1, hc5, hnh, hng, htm, -⟩, hk, hh, hc, hg, hr⟩ := hn
  obtain ⟨p, m, r, d, q, b1, b2, b3, b4, b5, b6, -, p1, p2, p3, p4, p5, t1, t2, t3, t4, t5⟩ := hk k hk2
  have hq := zRk_q hk hk2
  refine ⟨?_, ?_, ?_, ?_, t1.trans p1.symm, t2.trans p2.symm, t3.trans p3.symm, t4.trans p4.symm, t5.trans p5.symm⟩
  · show nI (zNi v (nI k) * (v 1 k).toNatClampNeg * (v 2 k).toNatClampNeg) = _
    rw [p1, p2, nI_clamp (by omega), nI_clamp (by omega), pk_mul, pk_mul]
  · show nI (zNi v (nI k) * zq v k) = _
    rw [hq.1, pk_mul]
  · show nI (v 3 k).toNatClampNeg = _
    rw [p3, nI_clamp (by omega)]
  · show nI (v 4 k).toNatClampNeg = _
    rw [p4, nI_clamp (by omega)]
theorem ze_read {nc nh ng tm : Nat} {v : zV} {s : Nat → Int32} (hn : zRn nc nh ng tm v s) (be : zV) : ∃ b, f_X3_readClasses be v = some b ∧ zE (zXof v nc) b := by
  have hi := hn.1
  obtain ⟨hc1, hc5, hnh, hng, htm, e00, -⟩ := hi
  have hc := hn.2.2.2.1
  obtain ⟨m, b, e, p1, p2⟩ := zp_loopP (fun n (b : zV) i => f_X3_readClasses_b13 v n b (nI i)) nc (fun i b => b 0 1 = nI nc ∧ ∀ k, k < i → b 2 k = nI (zX.S (zXof v nc) k) ∧ b 3 k = nI (zX.P (zXof v nc) k) ∧ b 4 k = nI (zX.C (zXof v nc) k) ∧ b 5 k = nI (zX.R (zXof v nc) k) ∧ b 6 k = nI (zX.K (zXof v nc) k))
    (fun n i b hi hp => by
      obtain ⟨p1, p2⟩ := hp
      obtain ⟨x1, x2, x3, x4, -⟩ := zXof_at hn hi
      have xS : nI (zX.S (zXof v nc) i) = nI (zNi v (nI i)) := rfl
      refine ⟨zu (zu (zu (zu (zu b 2 (upd (b 2) i (nI (zX.S (zXof v nc) i)))) 3 (upd (b 3) i (nI (zX.P (zXof v nc) i)))) 4 (upd (b 4) i (nI (zX.C (zXof v nc) i)))) 5 (upd (b 5) i (nI (zX.R (zXof v nc) i)))) 6 (upd (b 6) i (nI (zX.K (zXof v nc) i))), ?_, p1, fun k hk => ?_⟩
      · show f_X3_readClasses_b13 v (n + 1) b (nI i) = _
        rw [f_X3_readClasses_b13, p1, if_neg (nI_ge hi (by omega)), zp_sharesIn2, zp_zb, zp_zA (show i < 5 by omega) (by omega), nI_clamp (by omega), pk_us, zsi_N hc, zp_common v (show i < 5 by omega), ← nI_succ]
        unfold f_X1_preference
        rw [zp_zA (show i < 5 by omega) (by omega), zp_zb, zp_zb, nI_clamp (by omega), x1, x2, x3, x4, xS]
      · show upd (b 2) i _ k = _ ∧ upd (b 3) i _ k = _ ∧ upd (b 4) i _ k = _ ∧ upd (b 5) i _ k = _ ∧ upd (b 6) i _ k = _
        by_cases d : k = i
        · subst d; exact ⟨pk_us, pk_us, pk_us, pk_us, pk_us⟩
        · rw [pk_un d, pk_un d, pk_un d, pk_un d, pk_un d]; exact p2 k (by omega)) nc 0 1000 (zu be 0 (zu (be 0) 1 (v 0 0))) (by omega) (by omega) ⟨e00, fun k hk => by omega⟩
  refine ⟨b, ?_, p1, p2⟩
  have e' : f_X3_readClasses be v = f_X3_readClasses_b13 v (m + 1) b (nI nc) := e
  rw [e', f_X3_readClasses_b13, p1, if_pos (nI_le (Nat.le_refl _) (by omega))]
theorem me_lay {nc nh ng tm : Nat} {v w : zV} (bj : zJ) (hn : zRn nc nh ng tm v (w 1)) : ∃ b, f_X10_layClasses w bj = some b ∧ zM (zXof v nc) w b := by
  have hi := hn.1
  obtain ⟨hc1, hc5, hnh, hng, htm, e00, e06, e01, e07, s0, -⟩ := hi
  have hc := hn.2.2.2.1
  have hX := zXof_ok hn
  obtain ⟨m, b, e, p⟩ := zp_loopP (fun n (b : zJ) i => f_X10_layClasses_b2 w n b (nI i)) nc (fun i b => ∀ k, k < i → b 2 k = lN (zX.P (zXof v nc) k) ∧ b 3 k = lN (zX.C (zXof v nc) k))
    (fun n i b hi p => by
      obtain ⟨x1, x2, x3, x4, y1, y2, y3, y4, y5⟩ := zXof_at hn hi
      have hb := hX.2.2 i hi
      have hq := zRk_q hn.2.1 hi
      have hN := zNi_bd hc (nI i)
      refine ⟨zu (zu b 2 (vp_updL (b 2) i (lN (zX.P (zXof v nc) i)))) 3 (vp_updL (b 3) i (lN (zX.C (zXof v nc) i))), ?_, fun k hk => ?_⟩
      · have eP : f_X10_preference w b (nI i) = some (nI (zX.P (zXof v nc) i)) := by
          unfold f_X10_preference
          rw [zp_sharesOfAll2 w b hnh hc, zp_zb, zp_class0 w b (by omega), zp_zb, show f_X10_ofClass w b (nI i) 1 = some (w 1 (28 + 5 * i + 1)) from zp_class w b (by omega) (k := 1) (by omega), zp_zb, y1, show 28 + 5 * i + 1 = 29 + 5 * i by omega, y2, zsi_N hc, x1]
        show f_X10_layClasses_b2 w (n + 1) b (nI i) = _
        rw [f_X10_layClasses_b2, zp_tn0, s0, if_neg (nI_ge hi (by omega)), eP, zp_zb, zp_zA (show i < 5 by omega) (by omega), zp_zl, nI_clamp (by omega), zp_sharesOfAll2 w _ hnh hc, zp_zb, zp_class4 w _ (by omega), zp_zb, zp_zl, zsi_N hc, y5, hq.1, nI_l (by omega), nI_l (by omega), nI_l (by omega), lN_mul, ← nI_succ]
        rfl
      · show vp_updL (b 2) i _ k = _ ∧ vp_updL (b 3) i _ k = _
        by_cases d : k = i
        · subst d; exact ⟨pk_uLs, pk_uLs⟩
        · rw [pk_uLn d, pk_uLn d]; exact p k (by omega)) nc 0 1000 bj (by omega) (by omega) (fun k hk => by omega)
  refine ⟨b, ?_, s0, fun k hk => ?_⟩
  · have e' : f_X10_layClasses w bj = f_X10_layClasses_b2 w (m + 1) b (nI nc) := e
    rw [e', f_X10_layClasses_b2, zp_tn0, s0, if_pos (nI_le (Nat.le_refl _) (by omega))]
  · obtain ⟨x1, x2, x3, x4, y1, y2, y3, y4, y5⟩ := zXof_at hn hk
    refine ⟨?_, ?_, p k hk⟩
    · rw [show 28 + 5 * k + 2 = 30 + 5 * k by omega, y3, x3]
    · rw [show 28 + 5 * k + 3 = 31 + 5 * k by omega, y4, x4]
/-- an exit, reckoned by both -/
theorem zo_exit {nc nh ng tm : Nat} {v w : zV} (be : zV) (bj : zJ) (hn : zRn nc nh ng tm v (w 1)) {left : Nat} (hl : left ≤ 9999999) : ∃ (b : zV) (b2 : zJ) (set : Nat) (G : Nat → Nat), f_X3_reckon be v (nI left) = some b ∧ f_X10_exits w bj (nI left) = some (nI set, b2) ∧ set < 32 ∧ b 0 0 = nI set ∧ zE (zXof v nc) b ∧ (∀ k, k < nc → b 1 k = nI (G k)) ∧ (∀ k, k < nc → b2 0 k = lN (G k)) ∧ ∀ k, k < nc → G k ≤ 508910103 := by
  have hX := zXof_ok hn
  have h1 : 1 ≤ nc := hn.1.1
  have h5 : nc ≤ 5 := hn.1.2.1
  obtain ⟨y, ey, hE⟩ := ze_read hn be
  obtain ⟨b, e1, b0, hEb, g1⟩ := ze_reckon_b hX v hl (nc - 1) 1 1000 (zu y 0 (zu (y 0) 0 0)) 0 (by show 1 + (nc - 1) = nc; omega) (by omega) (zE_fr hE rfl (fun a h2 h3 => zu_ne h2)) rfl (by omega)
  obtain ⟨z, ez, hM⟩ := me_lay bj hn
  obtain ⟨z2, ez2, r1⟩ := me_next hX (left := left) (set := 0) (by omega) hl (nc - 1) 1 1000 z (by show 1 + (nc - 1) = nc; omega) (by omega) (by omega) hM
  obtain ⟨b2, e2, g2⟩ := me_exits_b hX hl (nc - 1) 1000 z2 0 (zc_le _ _ _) (by omega) (zM_fr01 hM r1) (by omega)
  refine ⟨b, b2, xset (zXof v nc) left (nc - 1) 0, fun k => xout (zXof v nc) left (xset (zXof v nc) left (nc - 1) 0) k, ?_, ?_, xset_lt hX _ _ (by omega), b0, hEb, g1, g2, fun k hk => xout_bd hX hl hk⟩
  · unfold f_X3_reckon
    rw [ey, zp_zb]
    exact e1
  · unfold f_X10_exits
    rw [ez, zp_zb, nI_l (by omega)]
    have ez2' : f_X10_nextToConvert w z (lN left) 0 = some (zo2 (xnext (zXof v nc) left 0), z2) := ez2
    rw [ez2', zp_zb]
    exact e2
