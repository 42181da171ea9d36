/-! ===== pure: what is asked of an exit ===== -/
def zSame2 {α β : Type} (x : Option (Int32 × α)) (y : Option (Int32 × β)) : Prop := ∃ r a b, x = some (r, a) ∧ y = some (r, b)
theorem zSame2_gd {α β : Type} {a : α} {b : β} {x y : Option Int32} {g : Int32} (hx : x = some g) (hy : y = some g) {r : Int32} {K1 : Option (Int32 × α)} {K2 : Option (Int32 × β)} (h : ¬ g = 0 → zSame2 K1 K2) : zSame2 (zb x fun y => if y = 0 then some (r, a) else K1) (zb y fun y => if y = 0 then some (r, b) else K2) := by
  rw [hx, hy, zp_zb, zp_zb]
  by_cases d : g = 0
  · rw [if_pos d, if_pos d]; exact ⟨r, a, b, rfl, rfl⟩
  · rw [if_neg d, if_neg d]; exact h d
theorem zp_areProceeds (x : Int32) : f_X10_areProceeds x = some (zw x 0 9999999) := by
  unfold f_X10_areProceeds
  rw [zp_in, zp_zb]
theorem zo_converts {v w bd be bt br : zV} {bh : zH} (bj : zJ) (h : zR v (w 1)) (x : Int32) : zSame2 (f_X9_converts v bd bh be bt br x) (f_X10_converts w bj x) := by
  obtain ⟨nc, nh, ng, tm, hn⟩ := h
  unfold f_X9_converts f_X10_converts
  refine zSame2_gd (zp_within _ _ _) (zp_areProceeds _) (fun g => ?_)
  obtain ⟨l, -, hl, rfl⟩ := zw_inv (a := 0) (b := 9999999) g
  obtain ⟨b, b2, set, G, e1, e2, hs, b0, hE, g1, g2, g3⟩ := zo_exit be bj hn hl
  rw [e1, e2, zp_zb, zp_zb]
  exact ⟨nI set, b, b2, congrArg (fun r => some (r, b)) b0, rfl⟩
theorem zo_classGets {v w bd be bt br : zV} {bh : zH} (bj : zJ) (h : zR v (w 1)) (x x2 : Int32) : zSame2 (f_X9_classGets v bd bh be bt br x x2) (f_X10_classGets w bj x x2) := by
  obtain ⟨nc, nh, ng, tm, hn⟩ := h
  have hi := hn.1
  obtain ⟨hc1, hc5, hnh, hng, htm, e00, e06, e01, e07, s0, s1, s2, s3, s4, s5, s6, s7⟩ := hi
  unfold f_X9_classGets f_X10_classGets
  refine zSame2_gd (zp_within _ _ _) (zp_areProceeds _) (fun g => ?_)
  obtain ⟨l, -, hl, rfl⟩ := zw_inv (a := 0) (b := 9999999) g
  refine zSame2_gd (zp_hasClass _ e00 _) (zp_isClass _ _ s0 _) (fun g => ?_)
  obtain ⟨o, ho, rfl⟩ := zw_invh g
  obtain ⟨b, b2, set, G, e1, e2, hs, b0, hE, g1, g2, g3⟩ := zo_exit be bj hn hl
  rw [e1, e2, zp_zb, zp_zb]
  refine ⟨nI (G o), b, b2, ?_, ?_⟩
  · rw [zp_zA (show o < 5 by omega) (by omega), nI_clamp (by omega), g1 o ho]
  · show (if 0 ≤ nI set then zA (nI o) 5 (some ((b2 0 (nI o).toNatClampNeg).toInt32, b2)) else some (0, b2)) = _
    rw [if_pos (nI_pos' (by omega)), zp_zA (show o < 5 by omega) (by omega), nI_clamp (by omega), g2 o ho, lN_i]
theorem zo_holderGets {v w bd be bt br : zV} {bh : zH} (bj : zJ) (h : zR v (w 1)) (x x2 : Int32) : zSame2 (f_X9_holderGets v bd bh be bt br x x2) (f_X10_holderGets w bj x x2) := by
  obtain ⟨nc, nh, ng, tm, hn⟩ := h
  have hn0 := hn
  obtain ⟨⟨hc1, hc5, hnh, hng, htm, e00, e06, e01, e07, s0, s1, s2, s3, s4, s5, s6, s7⟩, hk, hh, hc, hg, hr⟩ := hn0
  unfold f_X9_holderGets f_X10_holderGets
  refine zSame2_gd (zp_within _ _ _) (zp_areProceeds _) (fun g => ?_)
  obtain ⟨l, -, hl, rfl⟩ := zw_inv (a := 0) (b := 9999999) g
  refine zSame2_gd (zp_hasHolder _ e06 _) (zp_isHolder _ _ s1 _) (fun g => ?_)
  obtain ⟨a, ha, rfl⟩ := zw_invh g
  obtain ⟨b, b2, set, G, e1, e2, hs, b0, hE, g1, g2, g3⟩ := zo_exit be bj hn hl
  rw [e1, e2, zp_zb, zp_zb]
  have a0 : ¬ nI a < 0 := nI_pos (by omega)
  let Q : Nat → Nat := fun k => G k * zNho v (nI a) (nI k) / zNi v (nI k)
  have hB : ∀ k, k < nc → G k < 2 ^ 31 ∧ zNho v (nI a) (nI k) < 2 ^ 31 ∧ zNi v (nI k) < 2 ^ 31 := fun k hk2 => by
    have q1 := g3 k hk2
    have q2 := zNi_bd hc (nI k)
    have q3 := zNho_le (v := v) (nI a) (nI k)
    exact ⟨by omega, by omega, by omega⟩
  have l1 := zp_loop (fun n (s : Int32) i => f_X3_gainOfHolder_b5 b v n (nI a) s (nI i)) nc (fun i s => s + nI (Q i)) some
    (fun n s => by
      show f_X3_gainOfHolder_b5 b v (n + 1) (nI a) s (nI nc) = some s
      rw [f_X3_gainOfHolder_b5, show b 0 1 = nI nc from hE.1]
      exact if_pos (nI_le (Nat.le_refl _) (by omega)))
    (fun n i s hi => by
      show f_X3_gainOfHolder_b5 b v (n + 1) (nI a) s (nI i) = f_X3_gainOfHolder_b5 b v n (nI a) (s + nI (Q i)) (nI (i + 1))
      obtain ⟨q1, q2, q3⟩ := hB i hi
      have eS : b 2 i = nI (zNi v (nI i)) := (hE.2 i hi).1
      rw [f_X3_gainOfHolder_b5, show b 0 1 = nI nc from hE.1, if_neg (nI_ge hi (by omega)), zp_zA (show i < 5 by omega) (by omega), nI_clamp (by omega), zp_sharesOwned2, zp_zb, zso_N hc, g1 i hi, eS, zp_portion q1 q2 q3, zp_zb, nI_succ]) nc 0 1000 0 (by omega) (by omega)
  have l1' : f_X3_gainOfHolder b v (nI a) = some (nI (zn Q 0 nc)) := by
    have e : f_X3_gainOfHolder b v (nI a) = some (zit (fun i s => s + nI (Q i)) 0 nc 0) := l1
    rw [e, zit_sum, Int32.zero_add]
    exact congrArg some (zs_zn _ _ (fun _ _ _ => rfl))
  have l2 : ∀ (k i n s : Nat), i + k = nc → k < n → f_X10_holderGets_b29 w n b2 (nI a) (nI set) (lN s) (nI i) = some (nI (s + zn Q i k), b2) := by
    intro k
    induction k with
    | zero =>
      intro i n s e hn
      obtain ⟨n, rfl⟩ : ∃ m, n = m + 1 := ⟨n - 1, by omega⟩
      rw [f_X10_holderGets_b29, zp_tn0, s0, if_pos (nI_le (by omega) (by omega)), lN_i]
      rfl
    | succ k ih =>
      intro i n s e hn
      obtain ⟨n, rfl⟩ : ∃ m, n = m + 1 := ⟨n - 1, by omega⟩
      have hi : i < nc := by omega
      obtain ⟨q1, q2, q3⟩ := hB i hi
      have ih2 := ih (i + 1) n (s + Q i) (by omega) (by omega)
      rw [f_X10_holderGets_b29, zp_tn0, s0, if_neg (nI_ge hi (by omega)), if_neg (nI_pos (by omega)), zp_sharesOfAll2 w _ hnh hc, zp_zb, zsi_N hc, zp_sharesOfHolder2 w _ hnh hc _ _ a0, zp_zb, zso_N hc, ← nI_succ, zp_zA (show i < 5 by omega) (by omega), nI_clamp (by omega), g2 i hi]
      have er : s + zn Q i (k + 1) = s + Q i + zn Q (i + 1) k := by
        show s + (Q i + zn Q (i + 1) k) = _
        rw [Nat.add_assoc]
      rw [er, ← ih2]
      by_cases z : zNi v (nI i) = 0
      · have hQ : Q i = 0 := by
          show G i * zNho v (nI a) (nI i) / zNi v (nI i) = 0
          rw [z, Nat.div_zero]
        rw [if_pos (show nI (zNi v (nI i)) ≤ 0 by rw [z]; decide), show lN s + 0 = lN s from lN_add s 0, hQ]
        rfl
      · unfold zDl
        rw [if_neg (zp_le0 (by omega) (by omega)), nI_l q2, nI_l q3, if_neg (zp_lne z q3), lN_mul, pk_lDiv (zp_mul63 q1 q2) (by omega) (by omega), lN_add]
  refine ⟨nI (zn Q 0 nc), b, b2, ?_, ?_⟩
  · rw [l1', zp_zb]
  · have := l2 nc 0 1000 0 (by omega) (by omega)
    rw [Nat.zero_add] at this
    exact this
/-- the classes ahead of one -/
def zah (G : Nat → Nat) (k o : Nat) : Bool := decide (G k < G o) || (decide (G o = G k) && decide (o < k))
theorem zc_ltn {p : Nat → Bool} {c : Nat} (h0 : p c = false) : ∀ (k i : Nat), i ≤ c → c < i + k → zc p i k < k := by
  intro k
  induction k with
  | zero => intro i a b; omega
  | succ k ih =>
    intro i a b
    show (if p i = true then 1 else 0) + zc p (i + 1) k < k + 1
    by_cases e : i = c
    · subst e
      rw [h0, if_neg (by decide)]
      have := zc_le p k (i + 1)
      omega
    · have := ih (i + 1) (by omega) (by omega)
      split <;> omega
theorem zo_byGain {v w bd be bt br : zV} {bh : zH} (bj : zJ) (h : zR v (w 1)) (x x2 : Int32) : zSame2 (f_X9_byGain v bd bh be bt br x x2) (f_X10_byGain w bj x x2) := by
  obtain ⟨nc, nh, ng, tm, hn⟩ := h
  have hn0 := hn
  obtain ⟨⟨hc1, hc5, hnh, hng, htm, e00, e06, e01, e07, s0, s1, s2, s3, s4, s5, s6, s7⟩, hk, hh, hc, hg, hr⟩ := hn0
  unfold f_X9_byGain f_X10_byGain
  refine zSame2_gd (zp_within _ _ _) (zp_areProceeds _) (fun g => ?_)
  obtain ⟨l, -, hl, rfl⟩ := zw_inv (a := 0) (b := 9999999) g
  by_cases p0 : 0 ≤ x2
  · rw [if_pos p0, if_pos p0]
    obtain ⟨pl, hpl, rfl⟩ := nI_of (x := x2) (fun q => by
      rw [Int32.lt_iff_toInt_lt] at q
      rw [Int32.le_iff_toInt_le] at p0
      omega)
    obtain ⟨b, b2, set, G, e1, e2, hs, b0, hE, g1, g2, g3⟩ := zo_exit be bj hn hl
    have m1 : ∀ (k i n c : Nat) (o : Nat), o < nc → i + k = nc → k < n → f_X10_byGain_go w n 1 b2 (nI pl) (nI set) (nI o) (nI c) (nI i) = f_X10_byGain_go w (n - k) 1 b2 (nI pl) (nI set) (nI o) (nI (c + zc (zah G o) i k)) (nI nc) := by
      intro k
      induction k with
      | zero =>
        intro i n c o ho e hn
        obtain rfl : i = nc := by omega
        rfl
      | succ k ih =>
        intro i n c o ho e hn
        obtain ⟨n, rfl⟩ : ∃ m, n = m + 1 := ⟨n - 1, by omega⟩
        have hi : i < nc := by omega
        have q1 := g3 i hi
        have q2 := g3 o ho
        rw [show n + 1 - (k + 1) = n - k by omega, f_X10_byGain_go, zp_tn0, s0, if_neg (nI_ge hi (by omega)), zp_zA (show i < 5 by omega) (by omega), zp_zA (show o < 5 by omega) (by omega), nI_clamp (by omega), nI_clamp (by omega), g2 i hi, g2 o ho, ← nI_succ, nI_1, show nI c + 0 = nI c from nI_add c 0]
        have ez : ∀ (b : Bool), zah G o i = b → c + zc (zah G o) i (k + 1) = (if b = true then c + 1 else c) + zc (zah G o) (i + 1) k := fun b hb => by
          show c + ((if zah G o i = true then 1 else 0) + zc (zah G o) (i + 1) k) = _
          rw [hb]
          cases b
          · rw [if_neg (by decide), if_neg (by decide)]; omega
          · rw [if_pos rfl, if_pos rfl]; omega
        by_cases d1 : G o < G i
        · rw [if_pos ((lg_cmp_gt _ _).mpr ((pk_lLT (by omega) (by omega)).mpr d1)), ez true (by unfold zah; rw [decide_eq_true d1]; rfl), if_pos rfl]
          exact ih (i + 1) n (c + 1) o ho (by omega) (by omega)
        · rw [if_neg (fun q => d1 ((pk_lLT (by omega) (by omega)).mp ((lg_cmp_gt _ _).mp q)))]
          by_cases d2 : G i = G o
          · rw [if_pos ((lg_cmp_eq _ _).mpr (by rw [d2]))]
            by_cases d3 : i < o
            · rw [if_neg (nI_ge d3 (by omega)), ez true (by unfold zah; rw [decide_eq_false d1, decide_eq_true d2, decide_eq_true d3]; rfl), if_pos rfl]
              exact ih (i + 1) n (c + 1) o ho (by omega) (by omega)
            · rw [if_pos (nI_le (by omega) (by omega)), ez false (by unfold zah; rw [decide_eq_false d1, decide_eq_false d3]; cases decide (G i = G o) <;> rfl), if_neg (by decide)]
              exact ih (i + 1) n c o ho (by omega) (by omega)
          · rw [if_neg (fun q => d2 ((pk_lEQ (by omega) (by omega)).mp ((lg_cmp_eq _ _).mp q))), ez false (by unfold zah; rw [decide_eq_false d1, decide_eq_false d2]; rfl), if_neg (by decide)]
            exact ih (i + 1) n c o ho (by omega) (by omega)
    have m2 : ∀ (k i n : Nat), i + k = nc → 8 * k < n → ∀ y5 y6, f_X10_byGain_go w n 0 b2 (nI pl) (nI set) (nI i) y5 y6 = some (match zfirst (fun o => decide (zc (zah G o) 0 nc = pl)) i k with | none => -4 | some f => nI f, b2) := by
      intro k
      induction k with
      | zero =>
        intro i n e hn y5 y6
        obtain ⟨n, rfl⟩ : ∃ m, n = m + 1 := ⟨n - 1, by omega⟩
        rw [f_X10_byGain_go, zp_tn0, s0, if_pos (nI_le (by omega) (by omega))]
        rfl
      | succ k ih =>
        intro i n e hn y5 y6
        obtain ⟨n, rfl⟩ : ∃ m, n = m + 1 := ⟨n - 1, by omega⟩
        have hi : i < nc := by omega
        have hz := zc_le (zah G i) nc 0
        have e3 : f_X10_byGain_go w n 1 b2 (nI pl) (nI set) (nI i) 0 0 = f_X10_byGain_go w (n - nc) 1 b2 (nI pl) (nI set) (nI i) (nI (0 + zc (zah G i) 0 nc)) (nI nc) := m1 nc 0 n 0 i hi (by omega) (by omega)
        obtain ⟨n2, hn2⟩ : ∃ m, n - nc = m + 1 := ⟨n - nc - 1, by omega⟩
        rw [hn2, Nat.zero_add] at e3
        rw [f_X10_byGain_go, zp_tn0, s0, if_neg (nI_ge hi (by omega)), if_neg (nI_pos (by omega)), e3, f_X10_byGain_go, zp_tn0, s0, if_pos (nI_le (Nat.le_refl _) (by omega)), ← nI_succ]
        show _ = some (match (if decide (zc (zah G i) 0 nc = pl) = true then some i else zfirst (fun o => decide (zc (zah G o) 0 nc = pl)) (i + 1) k) with | none => -4 | some f => nI f, b2)
        by_cases d : zc (zah G i) 0 nc = pl
        · rw [if_pos (by rw [d]), decide_eq_true d, if_pos rfl]
        · rw [if_neg (fun q => d ((nI_eq (by omega) hpl).mp q)), decide_eq_false d, if_neg (by decide)]
          exact ih (i + 1) n2 (by omega) (by omega) 0 0
    have m3 : f_X10_byGain_go w 1000 0 b2 (nI pl) (nI set) 0 0 0 = some (match zfirst (fun o => decide (zc (zah G o) 0 nc = pl)) 0 nc with | none => -4 | some f => nI f, b2) := m2 nc 0 1000 (by omega) (by omega) 0 0
    rw [e2, zp_zb]
    show zSame2 _ (f_X10_byGain_go w 1000 0 b2 (nI pl) (nI set) 0 0 0)
    rw [m3, e00]
    by_cases d : pl < nc
    · rw [if_pos (nI_lt d (by omega)), e1, zp_zb]
      have c1 : ∀ o, o < nc → f_X3_classesAhead b (nI o) = some (nI (zc (zah G o) 0 nc)) := by
        intro o ho
        have l := zp_loop (fun n (a : Int32) i => f_X3_classesAhead_b4 b n (nI o) a (nI i)) nc (fun i a => a + if zah G o i = true then 1 else 0) some
          (fun n a => by
            show f_X3_classesAhead_b4 b (n + 1) (nI o) a (nI nc) = some a
            rw [f_X3_classesAhead_b4, show b 0 1 = nI nc from hE.1]
            exact if_pos (nI_le (Nat.le_refl _) (by omega)))
          (fun n i a hi => by
            show f_X3_classesAhead_b4 b (n + 1) (nI o) a (nI i) = f_X3_classesAhead_b4 b n (nI o) (a + if zah G o i = true then 1 else 0) (nI (i + 1))
            have q1 := g3 i hi
            have q2 := g3 o ho
            rw [f_X3_classesAhead_b4, show b 0 1 = nI nc from hE.1, if_neg (nI_ge hi (by omega)), zp_zA (show i < 5 by omega) (by omega), zp_zA (show o < 5 by omega) (by omega), nI_clamp (by omega), nI_clamp (by omega), g1 i hi, g1 o ho, nI_succ]
            by_cases d1 : G o < G i
            · rw [if_pos (nI_lt d1 (by omega)), show zah G o i = true by unfold zah; rw [decide_eq_true d1]; rfl, if_pos rfl]
            · rw [if_neg (nI_nlt (by omega) (by omega))]
              by_cases d2 : G i = G o
              · rw [if_pos (show nI (G i) = nI (G o) by rw [d2])]
                by_cases d3 : i < o
                · rw [if_neg (nI_ge d3 (by omega)), show zah G o i = true by unfold zah; rw [decide_eq_false d1, decide_eq_true d2, decide_eq_true d3]; rfl, if_pos rfl]
                · rw [if_pos (nI_le (by omega) (by omega)), show zah G o i = false by unfold zah; rw [decide_eq_false d1, decide_eq_false d3]; cases decide (G i = G o) <;> rfl, if_neg (by decide), Int32.add_zero]
              · rw [if_neg (show ¬ nI (G i) = nI (G o) from fun q => d2 ((nI_eq (by omega) (by omega)).mp q)), show zah G o i = false by unfold zah; rw [decide_eq_false d1, decide_eq_false d2]; rfl, if_neg (by decide), Int32.add_zero]) nc 0 1000 0 (by omega) (by omega)
        rw [zit_sum, Int32.zero_add, zs_zc _ (zah G o) nc 0 (fun _ _ _ => rfl)] at l
        exact l
      have c2 : ∀ (k i n : Nat), i + k = nc → k < n → f_X3_classAt_b2 b n (nI pl) (nI i) = some (match zfirst (fun o => decide (zc (zah G o) 0 nc = pl)) i k with | none => -4 | some f => nI f) := by
        intro k
        induction k with
        | zero =>
          intro i n e hn
          obtain ⟨n, rfl⟩ : ∃ m, n = m + 1 := ⟨n - 1, by omega⟩
          rw [f_X3_classAt_b2, show b 0 1 = nI nc from hE.1, if_pos (nI_le (by omega) (by omega))]
          rfl
        | succ k ih =>
          intro i n e hn
          obtain ⟨n, rfl⟩ : ∃ m, n = m + 1 := ⟨n - 1, by omega⟩
          have hi : i < nc := by omega
          have hz := zc_le (zah G i) nc 0
          rw [f_X3_classAt_b2, show b 0 1 = nI nc from hE.1, if_neg (nI_ge hi (by omega)), c1 i hi, zp_zb, ← nI_succ]
          show _ = some (match (if decide (zc (zah G i) 0 nc = pl) = true then some i else zfirst (fun o => decide (zc (zah G o) 0 nc = pl)) (i + 1) k) with | none => -4 | some f => nI f)
          by_cases d : zc (zah G i) 0 nc = pl
          · rw [if_pos (by rw [d]), decide_eq_true d, if_pos rfl]
          · rw [if_neg (fun q => d ((nI_eq (by omega) hpl).mp q)), decide_eq_false d, if_neg (by decide)]
            exact ih (i + 1) n (by omega) (by omega)
      have c3 : f_X3_classAt b (nI pl) = some (match zfirst (fun o => decide (zc (zah G o) 0 nc = pl)) 0 nc with | none => -4 | some f => nI f) := c2 nc 0 1000 (by omega) (by omega)
      rw [c3, zp_zb]
      exact ⟨_, b, b2, rfl, rfl⟩
    · rw [if_neg (nI_nlt (by omega) hpl)]
      have hno : zfirst (fun o => decide (zc (zah G o) 0 nc = pl)) 0 nc = none := by
        cases hf : zfirst (fun o => decide (zc (zah G o) 0 nc = pl)) 0 nc with
        | none => rfl
        | some f =>
          obtain ⟨q1, q2, q3⟩ := zfirst_some _ _ _ hf
          have q4 : zc (zah G f) 0 nc = pl := of_decide_eq_true q3
          have q5 := zc_ltn (p := zah G f) (c := f) (by unfold zah; rw [decide_eq_false (show ¬ G f < G f by omega), decide_eq_false (show ¬ f < f by omega), Bool.and_false]; rfl) nc 0 (by omega) (by omega)
          omega
      rw [hno]
      exact ⟨-4, be, b2, rfl, rfl⟩
  · rw [if_neg p0, if_neg p0]
    exact ⟨_, _, _, rfl, rfl⟩
