/-! ===== pure: a round is closed ===== -/
theorem zit_pair {α β : Type} (f : Nat → α → α) (g : Nat → β → β) : ∀ (k i : Nat) (a : α) (b : β), zit (fun i (p : α × β) => (f i p.1, g i p.2)) i k (a, b) = (zit f i k a, zit g i k b) := by
  intro k
  induction k with
  | zero => intro i a b; rfl
  | succ k ih => intro i a b; exact ih (i + 1) (f i a) (g i b)
theorem zg_ce_out {u v : zV} {a : Nat} (h : a < 6 ∨ 10 ≤ a) : zg_ce u v a = v a := by
  unfold zg_ce
  have g2 : (Nat.ble 6 a && Nat.ble a 9) = false := by
    cases q : (Nat.ble 6 a && Nat.ble a 9)
    · rfl
    · rw [Bool.and_eq_true, Nat.ble_eq, Nat.ble_eq] at q
      omega
  rw [g2]
  rfl
/-- what nobody took up, and how many certificates were taken up -/
def zR0 (v : zV) : Int32 := zit (fun i a => a - v 18 i) 0 8 (v 0 4)
def zKp (v : zV) (h : Nat) : Bool := !decide (v 18 h ≤ 0)
def zK1 (v : zV) : Nat := zc (zKp v) 0 8 + if zR0 v ≤ 0 then 0 else 1
theorem zp_notTakenUp (v : zV) : f_X7_notTakenUp v = some (zR0 v) := by
  have h := zp_loop (fun n (a : Int32) i => f_X7_notTakenUp_b7 v n a (nI i)) 8 (fun i a => a - v 18 i) some
    (fun n a => by
      show f_X7_notTakenUp_b7 v (n + 1) a (nI 8) = some a
      rw [f_X7_notTakenUp_b7]
      exact if_pos (by decide))
    (fun n i a hi => by
      show f_X7_notTakenUp_b7 v (n + 1) a (nI i) = f_X7_notTakenUp_b7 v n (a - v 18 i) (nI (i + 1))
      rw [f_X7_notTakenUp_b7, if_neg (show ¬ (8 : Int32) ≤ nI i from nI_ge (b := 8) hi (by omega)), zp_zA hi (by omega), nI_clamp (by omega), nI_succ]) 8 0 1000 (v 0 4) (by omega) (by omega)
  exact h
theorem zp_toMake_b (v : zV) (a : Nat) : f_X7_certificatesToMake_b15 v 1000 (nI a) 0 = some (nI (a + zc (zKp v) 0 8)) := by
  have h := zp_loop (fun n (a : Int32) i => f_X7_certificatesToMake_b15 v n a (nI i)) 8 (fun i a => a + if v 18 i ≤ 0 then 0 else 1) some
    (fun n a => by
      show f_X7_certificatesToMake_b15 v (n + 1) a (nI 8) = some a
      rw [f_X7_certificatesToMake_b15]
      exact if_pos (by decide))
    (fun n i a hi => by
      show f_X7_certificatesToMake_b15 v (n + 1) a (nI i) = f_X7_certificatesToMake_b15 v n (a + if v 18 i ≤ 0 then 0 else 1) (nI (i + 1))
      rw [f_X7_certificatesToMake_b15, if_neg (show ¬ (8 : Int32) ≤ nI i from nI_ge (b := 8) hi (by omega)), zp_zA hi (by omega), nI_clamp (by omega), nI_succ]
      by_cases d : v 18 i ≤ 0
      · rw [if_pos d, if_pos d, Int32.add_zero]
      · rw [if_neg d, if_neg d]) 8 0 1000 (nI a) (by omega) (by omega)
  rw [zit_sum, zs_zc _ (zKp v) 8 0 (fun j _ _ => by
    show (if v 18 j ≤ 0 then (0 : Int32) else 1) = if (!decide (v 18 j ≤ 0)) = true then 1 else 0
    by_cases h : v 18 j ≤ 0
    · rw [if_pos h, decide_eq_true h]; rfl
    · rw [if_neg h, decide_eq_false h]; rfl), nI_add] at h
  exact h
theorem zp_toMake (v : zV) : f_X7_certificatesToMake v = some (nI (zK1 v)) := by
  unfold f_X7_certificatesToMake zK1
  rw [zp_notTakenUp, zp_zb]
  by_cases d : zR0 v ≤ 0
  · rw [if_pos d, if_pos d]
    exact (zp_toMake_b v 0).trans (by rw [Nat.zero_add, Nat.add_zero])
  · rw [if_neg d, if_neg d]
    exact (zp_toMake_b v 1).trans (by rw [Nat.add_comm])
theorem zp_subI {a : Int32} {t : Nat} (h1 : -1000000 ≤ a.toInt) (h2 : a.toInt ≤ 1000000) (ht : t ≤ 9999) : (a - nI t).toInt = a.toInt - t := by
  rw [Int32.toInt_sub, nI_toInt (by omega)]
  exact Int.bmod_eq_of_le (by omega) (by omega)
theorem zR0_bd {v : zV} (h : ∀ i, i < 8 → ∃ t : Nat, t ≤ 9999 ∧ v 18 i = nI t) {n : Nat} (h4 : v 0 4 = nI n) (hn : n ≤ 9999) : (zR0 v).toInt ≤ 9999 := by
  have hl : ∀ (k i : Nat) (a : Int32), i + k = 8 → -100000 + 10000 * (k : Int) ≤ a.toInt → a.toInt ≤ 9999 → (zit (fun i a => a - v 18 i) i k a).toInt ≤ 9999 := by
    intro k
    induction k with
    | zero => intro i a _ _ h; exact h
    | succ k ih =>
      intro i a e h1 h2
      obtain ⟨t, ht, et⟩ := h i (by omega)
      show (zit (fun i a => a - v 18 i) (i + 1) k (a - v 18 i)).toInt ≤ 9999
      have e2 := zp_subI (a := a) (t := t) (by omega) (by omega) ht
      refine ih (i + 1) (a - v 18 i) (by omega) ?_ ?_
      · rw [et, e2]; omega
      · rw [et, e2]; omega
  refine hl 8 0 (v 0 4) rfl ?_ ?_
  · rw [h4, nI_toInt (by omega)]; omega
  · rw [h4, nI_toInt (by omega)]; omega
theorem zR0_pos {v : zV} (hb : (zR0 v).toInt ≤ 9999) (h : ¬ zR0 v ≤ 0) : ∃ m : Nat, 1 ≤ m ∧ m ≤ 9999 ∧ zR0 v = nI m := by
  have z : (0 : Int32).toInt = 0 := by decide
  have h1 : ¬ (zR0 v).toInt ≤ 0 := fun q => h (Int32.le_iff_toInt_le.mpr (by omega))
  obtain ⟨m, hm, e⟩ := nI_of (x := zR0 v) (fun q => by
    rw [Int32.lt_iff_toInt_lt] at q
    omega)
  rw [e, nI_toInt hm] at hb h1
  exact ⟨m, by omega, by omega, e⟩
theorem zp_class0 (w : zV) (j : zJ) {c : Nat} (hc : c < 5) : f_X10_ofClass w j (nI c) 0 = some (w 1 (28 + 5 * c)) := zp_class w j hc (k := 0) (by omega)
/-- the last of it -/
theorem zo_close_end {nc nh ng tm : Nat} {v w b W : zV} (j : zJ) (hW : ∀ k, k ≠ 1 → W k = w k) (hn : zRn nc nh ng tm b (W 1)) {o n K : Nat} (ho : o < nc) (b3 : b 0 3 = nI o) (b4 : b 0 4 = nI n) (w10 : W 1 10 = nI n) (hK : K < 2 ^ 31) : zSim v w (f_X2_closeRound_b134 b (nI K)) (zl (upd (W 1) (4 : Int32).toNatClampNeg ((W 1 (4 : Int32).toNatClampNeg) + (W 1 (10 : Int32).toNatClampNeg))) fun a6 => zb (f_X10_ofClass (zu W 1 a6) j (nI o) 0) fun y7 => zl (upd a6 (7 : Int32).toNatClampNeg ((a6 (7 : Int32).toNatClampNeg) + ((a6 (10 : Int32).toNatClampNeg) * y7))) fun a8 => f_X10_closes_b223 j 1000 (zu W 1 a8) (nI K) 0) := by
  obtain ⟨⟨hc1, hc5, hnh, hng, htm, e00, e06, e01, e07, s0, s1, s2, s3, s4, s5, s6, s7⟩, hk, hh, hc, hg, hr⟩ := hn
  obtain ⟨p, pm, pr, pd, pq, -, -, -, -, -, -, -, ep, -, -, -, -, ep2, -⟩ := hk o ho
  unfold f_X2_closeRound_b134
  rw [zp_zl, zp_tn4, zp_tn7, show (10 : Int32).toNatClampNeg = 10 by decide, zp_class0 (zu W 1 _) j (show o < 5 by omega), zp_zb, zp_zl, b3, zp_zA (show o < 5 by omega) (by omega), nI_clamp (by omega)]
  let S1 : Nat → Int32 := upd (W 1) 4 (W 1 4 + W 1 10)
  let S2 : Nat → Int32 := upd S1 7 (S1 7 + S1 10 * S1 (28 + 5 * o))
  have o2 : ∀ i, i ≠ 4 → i ≠ 7 → S2 i = W 1 i := fun i h1 h2 => (pk_un h2).trans (pk_un h1)
  obtain ⟨m, t, et, t1, t2⟩ := zp_loopP (fun k (t : Nat → Int32) i => f_X10_closes_b223 j k (zu W 1 t) (nI K) (nI i)) 20 (fun i t => (∀ a, (a < 8 ∨ 28 ≤ a) → t a = S2 a) ∧ (0 < i → t 8 = 0))
    (fun k i t hi hp => by
      obtain ⟨p1, p2⟩ := hp
      refine ⟨upd t (8 + i) 0, ?_, fun a ha => (pk_un (by omega)).trans (p1 a ha), fun _ => ?_⟩
      · show f_X10_closes_b223 j (k + 1) (zu W 1 t) (nI K) (nI i) = _
        rw [f_X10_closes_b223, if_neg (show ¬ (20 : Int32) ≤ nI i from nI_ge (b := 20) hi (by omega)), zp_8, zp_zA (by omega) (by omega), zp_zl, nI_clamp (by omega), zu_zu, zu_eq, ← nI_succ]
      · by_cases q : i = 0
        · subst q; exact pk_us
        · exact (pk_un (by omega)).trans (p2 (by omega))) 20 0 1000 S2 (by omega) (by omega) ⟨fun _ _ => rfl, fun h => by omega⟩
  have et' : f_X10_closes_b223 j 1000 (zu W 1 S2) (nI K) 0 = f_X10_closes_b223 j (m + 1) (zu W 1 t) (nI K) (nI 20) := et
  have em : f_X10_closes_b223 j 1000 (zu W 1 S2) (nI K) 0 = some (nI K, zu W 1 t) := by
    rw [et', f_X10_closes_b223, if_pos (by decide)]
  have tw : ∀ i, i < 8 ∨ 28 ≤ i → i ≠ 4 → i ≠ 7 → t i = W 1 i := fun i h1 h2 h3 => (t1 i h1).trans (o2 i h2 h3)
  have tw2 : ∀ i, 28 ≤ i → t i = W 1 i := fun i h1 => tw i (by omega) (by omega) (by omega)
  refine ⟨nI K, _, zu W 1 t, rfl, em, fun k hk => (zu_ne hk).trans (hW k hk), fun q => absurd q (nI_pos hK), fun _ => ?_⟩
  show zR _ t
  refine ⟨nc, nh, ng, tm, ⟨hc1, hc5, hnh, hng, htm, e00, e06, e01, e07, (tw _ (by omega) (by omega) (by omega)).trans s0, (tw _ (by omega) (by omega) (by omega)).trans s1, (tw _ (by omega) (by omega) (by omega)).trans s2, (tw _ (by omega) (by omega) (by omega)).trans s3, ?_, (tw _ (by omega) (by omega) (by omega)).trans s5, (tw _ (by omega) (by omega) (by omega)).trans s6, ?_⟩, zRk_fr hk hc5 rfl rfl rfl rfl rfl (fun i _ _ => tw2 i (by omega)),
    zRh_fr hh hnh (Nat.le_refl _) rfl (fun i _ _ => tw2 i (by omega)),
    zRc_fr hc (Nat.le_refl _) (Nat.le_refl _) rfl rfl rfl rfl (fun i _ _ => tw2 i (by omega)),
    zRg_fr hg hnh hng (Nat.le_refl _) rfl rfl rfl rfl rfl rfl rfl (fun i _ _ => tw2 i (by omega)) (fun i _ _ => tw2 i (by omega)),
    Or.inl ⟨rfl, t2 (by omega)⟩⟩
  · have e : t 4 = W 1 4 + W 1 10 := (t1 4 (by omega)).trans ((pk_un (by omega)).trans pk_us)
    rw [e, s4, w10, ← b4]
    rfl
  · have e : t 7 = S1 7 + S1 10 * S1 (28 + 5 * o) := (t1 7 (by omega)).trans pk_us
    have e7 : S1 7 = W 1 7 := pk_un (by omega)
    have e10 : S1 10 = W 1 10 := pk_un (by omega)
    have e28 : S1 (28 + 5 * o) = W 1 (28 + 5 * o) := pk_un (by omega)
    rw [e, e7, e10, e28, s7, w10, ep2, ← b4, ← ep]
    rfl
/-- the model's holders that are not there took up nothing -/
theorem zp_close_skip {nh : Nat} (j : zJ) {W : zV} (x1 x2 x3 x4 : Int32) (h0 : ∀ h, nh ≤ h → h < 8 → W 1 (20 + h) = 0) : ∀ (k i n : Nat), nh ≤ i → i + k = 8 → k < n → ∃ m, f_X10_closes_b106 j n W x1 x2 x3 x4 (nI i) = f_X10_closes_b106 j (m + 1) W x1 x2 x3 x4 (nI 8) := by
  intro k
  induction k with
  | zero =>
    intro i n h1 h2 hn
    obtain ⟨n, rfl⟩ : ∃ m, n = m + 1 := ⟨n - 1, by omega⟩
    obtain rfl : i = 8 := by omega
    exact ⟨n, rfl⟩
  | succ k ih =>
    intro i n h1 h2 hn
    obtain ⟨n, rfl⟩ : ∃ m, n = m + 1 := ⟨n - 1, by omega⟩
    obtain ⟨m, e⟩ := ih (i + 1) n (by omega) (by omega) (by omega)
    refine ⟨m, ?_⟩
    rw [← e, f_X10_closes_b106, if_neg (show ¬ (8 : Int32) ≤ nI i from nI_ge (b := 8) (by omega) (by omega)), zp_20, zp_zA (by omega) (by omega), nI_clamp (by omega), h0 i h1 (by omega), if_pos (show (0 : Int32) ≤ 0 by decide), nI_succ]
theorem zo_close_loop {nc nh ng tm : Nat} {v w : zV} (j : zJ) (hnh : nh ≤ 8) {o n d K : Nat} (ho : o < nc) (hd : d < nh) (hn9 : n ≤ 9999) (v3 : v 0 3 = nI o) (v4 : v 0 4 = nI n) (v5 : v 0 5 = nI d) (w9 : w 1 10 = nI n) (w11 : w 1 11 = nI d) (hK : K < 2 ^ 31)
    (ht : ∀ h, h < 8 → ∃ t : Nat, t ≤ 9999 ∧ (nh ≤ h → t = 0) ∧ v 18 h = nI t ∧ w 1 (20 + h) = nI t) : ∀ (k i f1 f2 : Nat) (b W : zV) (x4 : Int32), i + k = nh → k < f1 → 8 < f2 + i → (∀ k, k ≠ 1 → W k = w k) → zRn nc nh ng tm b (W 1) → (∀ a, a < 6 ∨ 10 ≤ a → b a = v a) → (∀ i, i < 61 ∨ 157 ≤ i → W 1 i = w 1 i) → zcn b + zc (zKp v) i (8 - i) + (if zR0 v ≤ 0 then 0 else 1) ≤ 24 →
    zSim v w (f_X2_closeRound_b40 f1 b (nI K) (nI i)) (f_X10_closes_b106 j f2 W (nI K) (zR0 v) (nI o) x4 (nI i)) := by
  have hR : (zR0 v).toInt ≤ 9999 := zR0_bd (fun i hi => by
    obtain ⟨t, h1, -, h3, -⟩ := ht i hi
    exact ⟨t, h1, h3⟩) v4 hn9
  intro k
  induction k with
  | zero =>
    intro i f1 f2 b W x4 e h1 h2 hW hn hb hs hc
    obtain rfl : i = nh := by omega
    obtain ⟨f1, rfl⟩ : ∃ m, f1 = m + 1 := ⟨f1 - 1, by omega⟩
    have b6 : b 0 6 = nI i := hn.1.2.2.2.2.2.2.1
    have b0 : b 0 = v 0 := hb 0 (by omega)
    have eR : zR0 b = zR0 v := by
      unfold zR0
      rw [b0, hb 18 (by omega)]
    obtain ⟨m, em⟩ := zp_close_skip (nh := i) j (W := W) (nI K) (zR0 v) (nI o) x4 (fun h q1 q2 => by
      obtain ⟨t, -, z, -, e2⟩ := ht h q2
      rw [hs _ (by omega), e2, z q1]; rfl) (8 - i) i f2 (Nat.le_refl i) (by omega) (by omega)
    rw [em, f_X2_closeRound_b40, b6, if_pos (nI_le (Nat.le_refl i) (by omega)), zp_notTakenUp, zp_zb, eR, f_X10_closes_b106, if_pos (show (8 : Int32) ≤ nI 8 by decide)]
    by_cases r : zR0 v ≤ 0
    · rw [if_pos r, if_pos r]
      exact zo_close_end j hW hn ho (by rw [b0]; exact v3) (by rw [b0]; exact v4) ((hs _ (by omega)).trans w9) hK
    · obtain ⟨q, q1, q2, q3⟩ := zR0_pos hR r
      rw [if_neg r, if_neg r, q3]
      rw [if_neg r] at hc
      obtain ⟨c, v', s', hc24, p1, p2, p3, p4, p5⟩ := zo_add j hn (by omega) hd ho q1 q2
      rw [show (11 : Int32).toNatClampNeg = 11 by decide, hs 11 (by omega), w11, b0, v3, v5, ← b0, p1, zp_zb, p2, zp_zb]
      exact zo_close_end (W := zu W 1 s') j (fun k hk => (zu_ne hk).trans (hW k hk)) p3 ho (by show zg_ce v' b 0 3 = _; rw [zg_ce_out (by omega), b0]; exact v3) (by show zg_ce v' b 0 4 = _; rw [zg_ce_out (by omega), b0]; exact v4) ((p5 10 (by omega)).trans ((hs _ (by omega)).trans w9)) hK
  | succ k ih =>
    intro i f1 f2 b W x4 e h1 h2 hW hn hb hs hc
    obtain ⟨f1, rfl⟩ : ∃ m, f1 = m + 1 := ⟨f1 - 1, by omega⟩
    obtain ⟨f2, rfl⟩ : ∃ m, f2 = m + 1 := ⟨f2 - 1, by omega⟩
    have b6 : b 0 6 = nI nh := hn.1.2.2.2.2.2.2.1
    have b0 : b 0 = v 0 := hb 0 (by omega)
    obtain ⟨t, t1, -, t3, t4⟩ := ht i (by omega)
    have e8 : 8 - i = (8 - (i + 1)) + 1 := by omega
    rw [e8] at hc
    have hc' : zcn b + ((if zKp v i = true then 1 else 0) + zc (zKp v) (i + 1) (8 - (i + 1))) + (if zR0 v ≤ 0 then 0 else 1) ≤ 24 := hc
    rw [f_X2_closeRound_b40, b6, if_neg (nI_ge (show i < nh by omega) (by omega)), zp_zA (show i < 8 by omega) (by omega), nI_clamp (by omega), hb 18 (by omega), t3, f_X10_closes_b106, if_neg (show ¬ (8 : Int32) ≤ nI i from nI_ge (b := 8) (by omega) (by omega)), zp_20, zp_zA (by omega) (by omega), nI_clamp (by omega), hs _ (by omega), t4, ← nI_succ]
    by_cases z : t = 0
    · subst z
      have kp : zKp v i = false := by
        show (!decide (v 18 i ≤ 0)) = false
        rw [t3]; decide
      rw [kp, if_neg (by decide)] at hc'
      rw [if_pos (show nI 0 ≤ 0 by decide), if_pos (show nI 0 ≤ 0 by decide)]
      exact ih (i + 1) f1 f2 b W x4 (by omega) (by omega) (by omega) hW hn hb hs (by omega)
    · have kp : zKp v i = true := by
        show (!decide (v 18 i ≤ 0)) = true
        rw [t3, decide_eq_false (zp_le0 (by omega) (by omega))]; rfl
      rw [kp, if_pos rfl] at hc'
      rw [if_neg (zp_le0 (by omega) (by omega)), if_neg (zp_le0 (by omega) (by omega))]
      obtain ⟨c, v', s', hc24, p1, p2, p3, p4, p5⟩ := zo_add j hn (by omega) (show i < nh by omega) ho (show 1 ≤ t by omega) t1
      rw [b0, v3, ← b0, p1, zp_zb, p2, zp_zb]
      exact ih (i + 1) f1 f2 (zg_ce v' b) (zu W 1 s') (nI c) (by omega) (by omega) (by omega) (fun k hk => (zu_ne hk).trans (hW k hk)) p3 (fun a ha => (zg_ce_out ha).trans (hb a ha)) (fun a ha => (p5 a ha).trans (hs a ha)) (by rw [p4]; omega)
theorem zo_closes {v w : zV} (j : zJ) (h : zR v (w 1)) : zSim v w (f_X2_closeRound v) (f_X10_closes w j) := by
  obtain ⟨nc, nh, ng, tm, hn⟩ := h
  have hn0 := hn
  obtain ⟨⟨hc1, hc5, hnh, hng, htm, e00, e06, e01, e07, s0, s1, s2, s3, s4, s5, s6, s7⟩, hk, hh, hc, hg, hr⟩ := hn0
  unfold f_X2_closeRound f_X10_closes
  rcases hr with ⟨o1, o2⟩ | ⟨o1, o2, o, n, d, h3, h4, h5, h6, h7, h8, h9, h10, h11, h12, h13, h14⟩
  · rw [o1, if_pos rfl, zp_isRound0 j o2, zp_zb, if_pos rfl]
    exact zSim_no _ zp_m2lt _
  · rw [o1, if_neg (show ¬ (1 : Int32) = 0 by decide), zp_isRound1 j o2, zp_zb, if_neg (show ¬ (1 : Int32) = 0 by decide), zp_toMake, zp_zb, zp_size2, zp_zb, show (10 : Int32).toNatClampNeg = 10 by decide]
    have hl := zp_loop (fun n (a : Int32 × Int32) i => f_X10_closes_b22 j n w a.1 a.2 (nI i)) 8 (fun i p => ((fun i (a : Int32) => a + if v 18 i ≤ 0 then 0 else 1) i p.1, (fun i a => a - v 18 i) i p.2)) (fun p => f_X10_closes_b22 j 1 w p.1 p.2 (nI 8))
      (fun n a => by
        show f_X10_closes_b22 j (n + 1) w a.1 a.2 (nI 8) = f_X10_closes_b22 j 1 w a.1 a.2 (nI 8)
        rw [f_X10_closes_b22, if_pos (show (8 : Int32) ≤ nI 8 by decide), f_X10_closes_b22, if_pos (show (8 : Int32) ≤ nI 8 by decide)])
      (fun n i a hi => by
        show f_X10_closes_b22 j (n + 1) w a.1 a.2 (nI i) = f_X10_closes_b22 j n w (a.1 + if v 18 i ≤ 0 then 0 else 1) (a.2 - v 18 i) (nI (i + 1))
        obtain ⟨r, t, q1, q2, q3, q4, q5, q6, q7⟩ := h14 i hi
        rw [f_X10_closes_b22, if_neg (show ¬ (8 : Int32) ≤ nI i from nI_ge (b := 8) hi (by omega)), zp_20, zp_zA (by omega) (by omega), nI_clamp (by omega), q7, q5, nI_succ]
        by_cases z : nI t ≤ 0
        · rw [if_pos z, if_pos z]
        · rw [if_neg z, if_neg z]) 8 0 1000 (0, w 1 10) (by omega) (by omega)
    have hl' : f_X10_closes_b22 j 1000 w 0 (w 1 10) 0 = (fun p : Int32 × Int32 => f_X10_closes_b22 j 1 w p.1 p.2 (nI 8)) (zit (fun i (p : Int32 × Int32) => ((fun i (a : Int32) => a + if v 18 i ≤ 0 then 0 else 1) i p.1, (fun i a => a - v 18 i) i p.2)) 0 8 (0, w 1 10)) := hl
    rw [hl', zit_pair (fun i (a : Int32) => a + if v 18 i ≤ 0 then 0 else 1) (fun i a => a - v 18 i) 8 0 0 (w 1 10)]
    have eR : zit (fun i a => a - v 18 i) 0 8 (w 1 10) = zR0 v := by
      unfold zR0
      rw [h12, h9]
    have eK : zit (fun i (a : Int32) => a + if v 18 i ≤ 0 then 0 else 1) 0 8 0 = nI (zc (zKp v) 0 8) := by
      rw [zit_sum, Int32.zero_add]
      refine zs_zc _ (zKp v) 8 0 (fun j _ _ => ?_)
      show (if v 18 j ≤ 0 then (0 : Int32) else 1) = if (!decide (v 18 j ≤ 0)) = true then 1 else 0
      by_cases h : v 18 j ≤ 0
      · rw [if_pos h, decide_eq_true h]; rfl
      · rw [if_neg h, decide_eq_false h]; rfl
    rw [eR, eK]
    show zSim v w _ (f_X10_closes_b22 j (0 + 1) w (nI (zc (zKp v) 0 8)) (zR0 v) (nI 8))
    rw [f_X10_closes_b22, if_pos (show (8 : Int32) ≤ nI 8 by decide)]
    have hz : zc (zKp v) 0 8 ≤ 8 := zc_le _ 8 0
    have hle := zcn_le v
    have core : ∀ K, K = zK1 v → zSim v w (if nI (zcn v) + nI K ≤ 24 then f_X2_closeRound_b40 1000 v (nI K) 0 else some (-3, v)) (zb (f_X10_certificates w j) fun y18 => if y18 + nI K ≤ 24 then f_X10_closes_b106 j 1000 w (nI K) (zR0 v) (w 1 (9 : Int32).toNatClampNeg) (-1) 0 else some (-3, w)) := by
      intro K eK
      have hK : K ≤ 9 := by
        rw [eK]
        unfold zK1
        split <;> omega
      rw [zp_certificates2 w j hnh hc, zp_zb, nI_add]
      by_cases z : zcn v + K ≤ 24
      · rw [if_pos (show nI (zcn v + K) ≤ (24 : Int32) from nI_le (b := 24) z (by omega)), if_pos (show nI (zcn v + K) ≤ (24 : Int32) from nI_le (b := 24) z (by omega)), show (9 : Int32).toNatClampNeg = 9 by decide, h11]
        refine zo_close_loop j hnh h4 h7 h6 h8 h9 h10 h12 h13 (by omega) (fun h hh => ?_) nh 0 1000 1000 v w (-1) (by omega) (by omega) (by omega) (fun _ _ => rfl) hn (fun _ _ => rfl) (fun _ _ => rfl) ?_
        · obtain ⟨r, t, q1, q2, q3, q4, q5, q6, q7⟩ := h14 h hh
          exact ⟨t, by omega, fun q => by have := q3 q; omega, q5, q7⟩
        · rw [eK] at z
          unfold zK1 at z
          show zcn v + zc (zKp v) 0 8 + (if zR0 v ≤ 0 then 0 else 1) ≤ 24
          omega
      · rw [if_neg (show ¬ nI (zcn v + K) ≤ (24 : Int32) from nI_ge (a := 24) (by omega) (by omega)), if_neg (show ¬ nI (zcn v + K) ≤ (24 : Int32) from nI_ge (a := 24) (by omega) (by omega))]
        exact zSim_no _ zp_m3lt _
    by_cases r : zR0 v ≤ 0
    · rw [if_pos r]
      have e : zK1 v = zc (zKp v) 0 8 := by unfold zK1; rw [if_pos r, Nat.add_zero]
      rw [e, Int32.add_zero]
      exact core _ e.symm
    · rw [if_neg r]
      have e : zK1 v = zc (zKp v) 0 8 + 1 := by unfold zK1; rw [if_neg r]
      rw [e, nI_1]
      exact core _ e.symm
