/-! ===== pure: the class's reckoning of an exit ===== -/
theorem xsh_lt {X : zX} {set : Nat} : ∀ (k i a : Nat), i + k ≤ 5 → a < 32 → xsh X set i k a < 32 := by
  intro k
  induction k with
  | zero => intro i a _ h; exact h
  | succ k ih =>
    intro i a h1 h2
    show xsh X set (i + 1) k (if i = 0 ∨ set.testBit i = true ∨ (zX.K X) i ≠ 0 then a ||| 2 ^ i else a) < 32
    refine ih (i + 1) _ (by omega) ?_
    split
    · exact ze_orlt h2 (by omega)
    · exact h2
theorem ze_sharers {X : zX} (hX : zXok X) {be : zV} (hE : zE X be) {set : Nat} (hs : set < 32) : f_X3_sharers be (nI set) = some (nI (xsh X set 0 (zX.nc X) 0)) := by
  have h1 := hX.1
  have h5 := hX.2.1
  have hl : ∀ (k i n a : Nat), i + k = (zX.nc X) → 2 * k < n → a < 32 → f_X3_sharers_go be n 0 (nI set) (nI a) (nI i) = some (nI (xsh X set i k a)) := by
    intro k
    induction k with
    | zero =>
      intro i n a e hn ha
      obtain ⟨n, rfl⟩ : ∃ m, n = m + 1 := ⟨n - 1, by omega⟩
      rw [f_X3_sharers_go, hE.1, if_pos (nI_le (by omega) (by omega))]
      rfl
    | succ k ih =>
      intro i n a e hn ha
      obtain ⟨n, rfl⟩ : ∃ m, n = m + 1 + 1 := ⟨n - 2, by omega⟩
      have hi : i < (zX.nc X) := by omega
      show _ = some (nI (xsh X set (i + 1) k (if i = 0 ∨ set.testBit i = true ∨ (zX.K X) i ≠ 0 then a ||| 2 ^ i else a)))
      have hgo : f_X3_sharers_go be (n + 1) 1 (nI set) (nI a) (nI i) = some (nI (xsh X set (i + 1) k (a ||| 2 ^ i))) := by
        rw [f_X3_sharers_go, ze_or ha (by omega), ← nI_succ]
        exact ih (i + 1) n (a ||| 2 ^ i) (by omega) (by omega) (ze_orlt ha (by omega))
      rw [f_X3_sharers_go, hE.1, if_neg (nI_ge hi (by omega))]
      by_cases d : i = 0
      · rw [if_pos (show nI i = 0 by rw [d]; rfl), if_pos (Or.inl d)]
        exact hgo
      · rw [if_neg (nI_ne0 (by omega) (by omega)), ze_has hs (by omega), zp_zb]
        cases hb : set.testBit i
        · rw [if_pos (by decide), zp_zA (show i < 5 by omega) (by omega), nI_clamp (by omega), (hE.2 i hi).2.2.2.2]
          by_cases d2 : (zX.K X) i = 0
          · rw [if_pos (show nI ((zX.K X) i) = 0 by rw [d2]; rfl), if_neg (show ¬ (i = 0 ∨ false = true ∨ (zX.K X) i ≠ 0) by rintro (q | q | q); exact d q; cases q; exact q d2), ← nI_succ]
            exact ih (i + 1) (n + 1) a (by omega) (by omega) ha
          · have := (hX.2.2 i hi).2.2.2.2.2.2.2
            rw [if_neg (nI_ne0 (by omega) (by omega)), if_pos (Or.inr (Or.inr d2))]
            exact hgo
        · rw [if_neg (by decide), if_pos (Or.inr (Or.inl rfl))]
          exact hgo
  exact hl (zX.nc X) 0 1000 0 (by omega) (by omega) (by omega)
theorem ze_commonOf {X : zX} (hX : zXok X) {be : zV} (hE : zE X be) {sh : Nat} (hs : sh < 32) : f_X3_commonOf be (nI sh) = some (nI (xcs X sh)) := by
  have h1 := hX.1
  have h5 := hX.2.1
  have h := zp_loop (fun n (a : Int32) i => f_X3_commonOf_b4 be n (nI sh) a (nI i)) (zX.nc X) (fun i a => a + nI (if sh.testBit i = true then (zX.C X) i else 0)) some
    (fun n a => by
      show f_X3_commonOf_b4 be (n + 1) (nI sh) a (nI (zX.nc X)) = some a
      rw [f_X3_commonOf_b4, hE.1]
      exact if_pos (nI_le (Nat.le_refl _) (by omega)))
    (fun n i a hi => by
      show f_X3_commonOf_b4 be (n + 1) (nI sh) a (nI i) = f_X3_commonOf_b4 be n (nI sh) (a + nI (if sh.testBit i = true then (zX.C X) i else 0)) (nI (i + 1))
      rw [f_X3_commonOf_b4, hE.1, if_neg (nI_ge hi (by omega)), ze_has hs (by omega), zp_zb, nI_succ]
      cases hq : sh.testBit i
      · rw [if_pos (by decide), if_neg (by decide), nI_0, Int32.add_zero]
      · rw [if_neg (by decide), if_pos rfl, zp_zA (show i < 5 by omega) (by omega), nI_clamp (by omega), (hE.2 i hi).2.2.1]) (zX.nc X) 0 1000 0 (by omega) (by omega)
  have e : f_X3_commonOf be (nI sh) = some (zit (fun i a => a + nI (if sh.testBit i = true then (zX.C X) i else 0)) 0 (zX.nc X) 0) := h
  rw [e, zit_sum, Int32.zero_add]
  exact congrArg some (zs_zn _ _ (fun _ _ _ => rfl))
theorem ze_low {X : zX} (hX : zXok X) {be : zV} (hE : zE X be) {set sh left : Nat} (hs : set < 32) (hh : sh < 32) (hl : left < 2 ^ 31) : f_X3_lowestOverCap be (nI left) (nI (xcs X sh)) (nI sh &&& (nI set ^^^ (-1))) = some (zo2 (xlow X set sh left)) := by
  have h1 := hX.1
  have h5 := hX.2.1
  have hC := xcs_bd hX sh
  have hg : ∀ (k i n : Nat), i + k = (zX.nc X) → k < n → 1 ≤ i → f_X3_lowestOverCap_b3 be n (nI left) (nI (xcs X sh)) (nI (sh &&& (31 ^^^ set))) (nI i) = some (zo2 (zfirst (xfull X set sh left) i k)) := by
    intro k
    induction k with
    | zero =>
      intro i n e hn hi1
      obtain ⟨n, rfl⟩ : ∃ m, n = m + 1 := ⟨n - 1, by omega⟩
      rw [f_X3_lowestOverCap_b3, hE.1, if_pos (nI_le (by omega) (by omega))]
      rfl
    | succ k ih =>
      intro i n e hn hi1
      obtain ⟨n, rfl⟩ : ∃ m, n = m + 1 := ⟨n - 1, by omega⟩
      have hi : i < (zX.nc X) := by omega
      have ih2 := ih (i + 1) n (by omega) (by omega) (by omega)
      have hb := hX.2.2 i hi
      rw [nI_succ] at ih2
      have hno : xfull X set sh left i = false → some (zo2 (zfirst (xfull X set sh left) i (k + 1))) = some (zo2 (zfirst (xfull X set sh left) (i + 1) k)) := fun q => by
        show some (zo2 (if xfull X set sh left i = true then some i else zfirst (xfull X set sh left) (i + 1) k)) = _
        rw [q, if_neg (by decide)]
      rw [f_X3_lowestOverCap_b3, hE.1, if_neg (nI_ge hi (by omega)), ze_has (ze_notlt hh hs) (by omega), zp_zb, ze_notb hh hs (by omega)]
      have hx : xfull X set sh left i = (sh.testBit i && (!set.testBit i && (decide ((zX.K X) i = 2) && decide ((zX.P X) i < left * (zX.C X) i / xcs X sh)))) := by
        unfold xfull
        rw [decide_eq_false (show ¬ i = 0 by omega)]
        rfl
      cases b1 : sh.testBit i
      · rw [Bool.false_and, if_pos (by decide), ih2, hno (by rw [hx, b1]; rfl)]
      · cases b2 : set.testBit i
        · rw [show (true && !false) = true from rfl, if_neg (by decide), zp_zA (show i < 5 by omega) (by omega), nI_clamp (by omega), (hE.2 i hi).2.2.2.2, (hE.2 i hi).2.2.1, (hE.2 i hi).2.1]
          by_cases d : (zX.K X) i = 2
          · rw [if_pos (show nI ((zX.K X) i) = 2 by rw [d]; rfl), zp_portion (by omega) (by omega) (by omega), zp_zb]
            have hq : left * (zX.C X) i / xcs X sh ≤ left ∨ 1 ≤ 1 := Or.inr (Nat.le_refl 1)
            have hle : left * (zX.C X) i / xcs X sh ≤ left := by
              have h9 : (zX.C X) i ≤ xcs X sh := by
                have := zn_at (f := fun k => if sh.testBit k = true then (zX.C X) k else 0) (zX.nc X) 0 i (by omega) (by omega)
                rw [b1, if_pos rfl] at this
                exact this
              by_cases z : xcs X sh = 0
              · rw [z, Nat.div_zero]; omega
              · refine Nat.div_le_of_le_mul ?_
                rw [Nat.mul_comm (xcs X sh) left]
                exact Nat.mul_le_mul_left left h9
            by_cases d2 : (zX.P X) i < left * (zX.C X) i / xcs X sh
            · rw [if_neg (nI_ge d2 (by omega))]
              show some (nI i) = some (zo2 (if xfull X set sh left i = true then some i else zfirst (xfull X set sh left) (i + 1) k))
              rw [hx, b1, b2, decide_eq_true d, decide_eq_true d2, if_pos (by decide)]
              rfl
            · rw [if_pos (nI_le (by omega) (by omega)), ih2, hno (by rw [hx, b1, b2, decide_eq_true d, decide_eq_false d2]; rfl)]
          · rw [if_neg (show ¬ nI ((zX.K X) i) = 2 from fun q => d ((nI_eq (b := 2) (by omega) (by omega)).mp q)), ih2, hno (by rw [hx, b1, b2, decide_eq_false d]; rfl)]
        · rw [show (true && !true) = false from rfl, if_pos (by decide), ih2, hno (by rw [hx, b1, b2]; rfl)]
  rw [ze_not hh hs]
  exact hg ((zX.nc X) - 1) 1 1000 (by omega) (by omega) (by omega)
theorem xq_le {X : zX} {sh left i : Nat} (hi : i < (zX.nc X)) (b1 : sh.testBit i = true) : left * (zX.C X) i / xcs X sh ≤ left := by
  have h9 : (zX.C X) i ≤ xcs X sh := by
    have := zn_at (f := fun k => if sh.testBit k = true then (zX.C X) k else 0) (zX.nc X) 0 i (by omega) (by omega)
    rw [b1, if_pos rfl] at this
    exact this
  by_cases z : xcs X sh = 0
  · rw [z, Nat.div_zero]; omega
  · refine Nat.div_le_of_le_mul ?_
    rw [Nat.mul_comm (xcs X sh) left]
    exact Nat.mul_le_mul_left left h9
theorem ze_addShares {X : zX} (hX : zXok X) {be : zV} (hE : zE X be) {sh left : Nat} {G : Nat → Nat} (hG : ∀ k, k < (zX.nc X) → be 1 k = nI (G k)) (hs : sh < 32) (hl : left < 2 ^ 31) : ∃ b, f_X3_addShares be (nI left) (nI (xcs X sh)) (nI sh) = some b ∧ (∀ a, a ≠ 1 → b a = be a) ∧ ∀ k, k < (zX.nc X) → b 1 k = nI (if sh.testBit k = true then G k + left * (zX.C X) k / xcs X sh else G k) := by
  have h1 := hX.1
  have h5 := hX.2.1
  have hC := xcs_bd hX sh
  obtain ⟨m, b, e, p1, p2⟩ := zp_loopP (fun n (b : zV) i => f_X3_addShares_b3 n b (nI left) (nI (xcs X sh)) (nI sh) (nI i)) (zX.nc X) (fun i b => (∀ a, a ≠ 1 → b a = be a) ∧ ∀ k, k < (zX.nc X) → b 1 k = nI (if k < i ∧ sh.testBit k = true then G k + left * (zX.C X) k / xcs X sh else G k))
    (fun n i b hi hp => by
      obtain ⟨p1, p2⟩ := hp
      have hEb := zE_fr1 hE p1
      have hb := hX.2.2 i hi
      have bi : b 1 i = nI (G i) := by rw [p2 i hi, if_neg (by omega)]
      have e1 : f_X3_addShares_b3 (n + 1) b (nI left) (nI (xcs X sh)) (nI sh) (nI i) = if (if sh.testBit i = true then (1 : Int32) else 0) = 0 then f_X3_addShares_b3 n b (nI left) (nI (xcs X sh)) (nI sh) (nI (i + 1)) else f_X3_addShares_b3 n (zu b 1 (upd (b 1) i (nI (G i + left * (zX.C X) i / xcs X sh)))) (nI left) (nI (xcs X sh)) (nI sh) (nI (i + 1)) := by
        rw [f_X3_addShares_b3, hEb.1, if_neg (nI_ge hi (by omega)), ze_has hs (by omega), zp_zb, nI_succ, zp_zA (show i < 5 by omega) (by omega), nI_clamp (by omega), (hEb.2 i hi).2.2.1, zp_portion (by omega) (by omega) (by omega), zp_zb, bi, nI_add]
      cases hq : sh.testBit i
      · refine ⟨b, ?_, p1, fun k hk => ?_⟩
        · show f_X3_addShares_b3 (n + 1) b (nI left) (nI (xcs X sh)) (nI sh) (nI i) = _
          rw [e1, hq, if_pos (by decide)]
        · rw [p2 k hk]
          by_cases d : k = i
          · subst d
            rw [hq, if_neg (fun q => absurd q.2 (by decide)), if_neg (fun q => absurd q.2 (by decide))]
          · by_cases d2 : k < i ∧ sh.testBit k = true
            · rw [if_pos d2, if_pos ⟨by omega, d2.2⟩]
            · rw [if_neg d2, if_neg (fun q => d2 ⟨by omega, q.2⟩)]
      · refine ⟨zu b 1 (upd (b 1) i (nI (G i + left * (zX.C X) i / xcs X sh))), ?_, fun a ha => (zu_ne ha).trans (p1 a ha), fun k hk => ?_⟩
        · show f_X3_addShares_b3 (n + 1) b (nI left) (nI (xcs X sh)) (nI sh) (nI i) = _
          rw [e1, hq, if_neg (by decide)]
        · show upd (b 1) i _ k = _
          by_cases d : k = i
          · subst d
            rw [pk_us, if_pos ⟨by omega, hq⟩]
          · rw [pk_un d, p2 k hk]
            by_cases d2 : k < i ∧ sh.testBit k = true
            · rw [if_pos d2, if_pos ⟨by omega, d2.2⟩]
            · rw [if_neg d2, if_neg (fun q => d2 ⟨by omega, q.2⟩)]) (zX.nc X) 0 1000 be (by omega) (by omega) ⟨fun _ _ => rfl, fun k hk => by rw [hG k hk, if_neg (by omega)]⟩
  refine ⟨b, ?_, p1, fun k hk => ?_⟩
  · have e' : f_X3_addShares be (nI left) (nI (xcs X sh)) (nI sh) = f_X3_addShares_b3 (m + 1) b (nI left) (nI (xcs X sh)) (nI sh) (nI (zX.nc X)) := e
    rw [e', f_X3_addShares_b3, (zE_fr1 hE p1).1, if_pos (nI_le (Nat.le_refl _) (by omega))]
  · rw [p2 k hk]
    cases hq : sh.testBit k
    · rw [if_neg (fun q => absurd q.2 (by decide)), if_neg (by decide)]
    · rw [if_pos ⟨hk, rfl⟩, if_pos rfl]
theorem xlow_some {X : zX} {set sh left f : Nat} (h1 : 1 ≤ (zX.nc X)) (h : xlow X set sh left = some f) : 1 ≤ f ∧ f < (zX.nc X) ∧ sh.testBit f = true ∧ (zX.P X) f < left * (zX.C X) f / xcs X sh := by
  obtain ⟨q1, q2, q3⟩ := zfirst_some _ _ _ h
  unfold xfull at q3
  simp only [Bool.and_eq_true, decide_eq_true_eq] at q3
  exact ⟨q1, by omega, q3.2.1, q3.2.2.2.2⟩
theorem ze_shareOut {X : zX} (hX : zXok X) {set : Nat} (hs : set < 32) : ∀ (t x n : Nat) (be : zV) (left sh : Nat) (G : Nat → Nat), x + t = (zX.nc X) + 1 → t < n → zE X be → (∀ k, k < (zX.nc X) → be 1 k = nI (G k)) → sh < 32 → left < 2 ^ 31 → ∃ b, f_X3_shareOut_b12 n be (nI set) (nI left) (nI sh) (nI x) = some b ∧ (∀ a, a ≠ 1 → b a = be a) ∧ ∀ k, k < (zX.nc X) → b 1 k = nI (xshare X set t left sh G k) := by
  have h1 := hX.1
  have h5 := hX.2.1
  intro t
  induction t with
  | zero =>
    intro x n be left sh G e hn hE hG hh hl
    obtain ⟨n, rfl⟩ : ∃ m, n = m + 1 := ⟨n - 1, by omega⟩
    refine ⟨be, ?_, fun _ _ => rfl, hG⟩
    rw [f_X3_shareOut_b12, hE.1, if_pos (nI_lt (by omega) (by omega))]
  | succ t ih =>
    intro x n be left sh G e hn hE hG hh hl
    obtain ⟨n, rfl⟩ : ∃ m, n = m + 1 := ⟨n - 1, by omega⟩
    rw [f_X3_shareOut_b12, hE.1, if_neg (nI_nlt (by omega) (by omega)), ze_commonOf hX hE hh, zp_zb, ze_low hX hE hs hh hl, zp_zb]
    cases hf : xlow X set sh left with
    | none =>
      rw [show zo2 none = -1 from rfl, if_pos rfl]
      obtain ⟨b, e1, p1, p2⟩ := ze_addShares hX hE hG hh hl
      refine ⟨b, by rw [e1, zp_zb], p1, fun k hk => ?_⟩
      rw [p2 k hk]
      unfold xshare
      rw [hf]
    | some f =>
      obtain ⟨q1, q2, q3, q4⟩ := xlow_some h1 hf
      have q5 := xq_le (left := left) q2 q3
      rw [show zo2 (some f) = nI f from rfl, if_neg (zp_neg1 (by omega)), zp_zA (show f < 5 by omega) (by omega), nI_clamp (by omega), (hE.2 f q2).2.1, hG f q2, nI_add, pk_sub (by omega), ze_off hh (by omega), ← nI_succ]
      obtain ⟨b, e1, p1, p2⟩ := ih (x + 1) n (zu be 1 (upd (be 1) f (nI (G f + (zX.P X) f)))) (left - (zX.P X) f) (sh &&& (31 ^^^ 2 ^ f)) (fun k => if k = f then G k + (zX.P X) f else G k) (by omega) (by omega) (zE_fr1 hE (fun a ha => zu_ne ha)) (fun k hk => by
        show upd (be 1) f _ k = _
        by_cases d : k = f
        · subst d; rw [pk_us, if_pos rfl]
        · rw [pk_un d, hG k hk, if_neg d]) (ze_offlt hh (by omega)) (by omega)
      refine ⟨b, e1, fun a ha => (p1 a ha).trans (zu_ne ha), fun k hk => ?_⟩
      rw [p2 k hk]
      show _ = nI (xshare X set (t + 1) left sh G k)
      rw [xshare, hf]
theorem ze_ranks {X : zX} (hX : zXok X) {set : Nat} (hs : set < 32) : ∀ (r n : Nat) (be : zV) (left : Nat) (G : Nat → Nat), r ≤ 10 → r < n → zE X be → (∀ k, k < (zX.nc X) → be 1 k = nI (G k)) → left < 2 ^ 31 → ∃ b, f_X3_payOut_b29 n be (nI set) (nI left) (nI r - 1) = some b ∧ (∀ a, a ≠ 1 → b a = be a) ∧ ∀ k, k < (zX.nc X) → b 1 k = nI (xranks X set r left G k) := by
  have h1 := hX.1
  have h5 := hX.2.1
  intro r
  induction r with
  | zero =>
    intro n be left G hr hn hE hG hl
    obtain ⟨n, rfl⟩ : ∃ m, n = m + 1 := ⟨n - 1, by omega⟩
    obtain ⟨b, e1, p1, p2⟩ := ze_shareOut hX hs ((zX.nc X) + 1) 0 1000 be left (xsh X set 0 (zX.nc X) 0) G (by omega) (by omega) hE hG (xsh_lt (zX.nc X) 0 0 (by omega) (by omega)) hl
    refine ⟨b, ?_, p1, p2⟩
    rw [f_X3_payOut_b29, if_pos (show nI 0 - 1 < 0 by decide)]
    unfold f_X3_shareOut
    rw [ze_sharers hX hE hs, zp_zb]
    have e1' : f_X3_shareOut_b12 1000 be (nI set) (nI left) (nI (xsh X set 0 (zX.nc X) 0)) 0 = some b := e1
    rw [e1', zp_zb]
  | succ r ih =>
    intro n be left G hr hn hE hG hl
    obtain ⟨n, rfl⟩ : ∃ m, n = m + 1 := ⟨n - 1, by omega⟩
    have hS := xsum_bd hX set r
    obtain ⟨b, e1, p1, p2⟩ := ze_payClaims hX hE hG (show r ≤ 9 by omega) hs hl
    rw [nI_pred, f_X3_payOut_b29, if_neg (nI_pos (by omega)), ze_claimsOf hX hE (by omega) hs, zp_zb, ze_min hl (by omega), e1, zp_zb]
    by_cases d : left < xsum X set r
    · rw [if_neg (nI_ge d (by omega))]
      refine ⟨b, rfl, p1, fun k hk => ?_⟩
      rw [p2 k hk]
      unfold xranks
      rw [if_pos d]
    · rw [if_pos (nI_le (by omega) hl), pk_sub (by omega), show nI r + (-1) = nI r - 1 by rw [Int32.sub_eq_add_neg]]
      obtain ⟨b2, e2, r1, r2⟩ := ih n b (left - xsum X set r) (xpay X set r left G) (by omega) (by omega) (zE_fr1 hE p1) p2 (by omega)
      refine ⟨b2, e2, fun a ha => (r1 a ha).trans (p1 a ha), fun k hk => ?_⟩
      rw [r2 k hk]
      show _ = nI (xranks X set (r + 1) left G k)
      rw [xranks, if_neg d]
theorem ze_payOut {X : zX} (hX : zXok X) {be : zV} (hE : zE X be) {set left : Nat} (hs : set < 32) (hl : left < 2 ^ 31) : ∃ b, f_X3_payOut be (nI left) (nI set) = some b ∧ (∀ a, a ≠ 1 → b a = be a) ∧ ∀ k, k < (zX.nc X) → b 1 k = nI (xout X left set k) := by
  have h1 := hX.1
  have h5 := hX.2.1
  obtain ⟨m, b, e, p1, p2⟩ := zp_loopP (fun n (b : zV) i => f_X3_payOut_b2 n b (nI left) (nI set) (nI i)) (zX.nc X) (fun i b => (∀ a, a ≠ 1 → b a = be a) ∧ ∀ k, k < i → b 1 k = 0)
    (fun n i b hi hp => by
      obtain ⟨p1, p2⟩ := hp
      refine ⟨zu b 1 (upd (b 1) i 0), ?_, fun a ha => (zu_ne ha).trans (p1 a ha), fun k hk => ?_⟩
      · show f_X3_payOut_b2 (n + 1) b (nI left) (nI set) (nI i) = _
        rw [f_X3_payOut_b2, (zE_fr1 hE p1).1, if_neg (nI_ge hi (by omega)), zp_zA (show i < 5 by omega) (by omega), nI_clamp (by omega), ← nI_succ]
      · show upd (b 1) i 0 k = 0
        by_cases d : k = i
        · subst d; exact pk_us
        · rw [pk_un d]; exact p2 k (by omega)) (zX.nc X) 0 1000 be (by omega) (by omega) ⟨fun _ _ => rfl, fun k hk => by omega⟩
  obtain ⟨b2, e2, r1, r2⟩ := ze_ranks hX hs 10 1000 b left (fun _ => 0) (by omega) (by omega) (zE_fr1 hE p1) (fun k hk => (p2 k hk).trans rfl) hl
  refine ⟨b2, ?_, fun a ha => (r1 a ha).trans (p1 a ha), r2⟩
  have e' : f_X3_payOut be (nI left) (nI set) = f_X3_payOut_b2 (m + 1) b (nI left) (nI set) (nI (zX.nc X)) := e
  have e2' : f_X3_payOut_b29 1000 b (nI set) (nI left) 9 = some b2 := e2
  rw [e', f_X3_payOut_b2, (zE_fr1 hE p1).1, if_pos (nI_le (Nat.le_refl _) (by omega)), e2']
/-! bounds -/
theorem xshare_bd {X : zX} (hX : zXok X) {set : Nat} : ∀ (t left sh : Nat) (G : Nat → Nat) (B : Nat), (∀ k, k < (zX.nc X) → G k ≤ B) → ∀ k, k < (zX.nc X) → xshare X set t left sh G k ≤ B + t * 71272872 + left := by
  intro t
  induction t with
  | zero => intro left sh G B h k hk; have := h k hk; show G k ≤ _; omega
  | succ t ih =>
    intro left sh G B h k hk
    rw [xshare]
    cases hf : xlow X set sh left with
    | none =>
      show (if sh.testBit k = true then G k + left * (zX.C X) k / xcs X sh else G k) ≤ _
      have h2 := h k hk
      by_cases d : sh.testBit k = true
      · have := xq_le (left := left) hk d
        rw [if_pos d]; omega
      · rw [if_neg d]; omega
    | some f =>
      obtain ⟨q1, q2, q3, q4⟩ := xlow_some hX.1 hf
      have hb := (hX.2.2 f q2).2.1
      have h2 := ih (left - (zX.P X) f) (sh &&& (31 ^^^ 2 ^ f)) (fun k => if k = f then G k + (zX.P X) f else G k) (B + 71272872) (fun l hl => by
        have := h l hl
        show (if l = f then G l + (zX.P X) f else G l) ≤ _
        split <;> omega) k hk
      show xshare X set t (left - (zX.P X) f) (sh &&& (31 ^^^ 2 ^ f)) (fun k => if k = f then G k + (zX.P X) f else G k) k ≤ _
      rw [Nat.succ_mul]
      omega
theorem xpay_bd {X : zX} (hX : zXok X) {set r left : Nat} {G : Nat → Nat} (h : ∀ k, k < (zX.nc X) → G k ≤ 71272872) : ∀ k, k < (zX.nc X) → xpay X set r left G k ≤ 71272872 := by
  intro k hk
  unfold xpay
  by_cases d : xcl X set r k = true
  · rw [if_pos d]
    have hb := (hX.2.2 k hk).2.1
    refine Nat.le_trans ?_ hb
    by_cases z : xsum X set r = 0
    · rw [z, Nat.div_zero]; omega
    · exact Nat.div_le_of_le_mul (Nat.mul_le_mul_right _ (Nat.min_le_right _ _))
  · rw [if_neg d]; exact h k hk
theorem xranks_bd {X : zX} (hX : zXok X) {set : Nat} : ∀ (r left : Nat) (G : Nat → Nat), (∀ k, k < (zX.nc X) → G k ≤ 71272872) → ∀ k, k < (zX.nc X) → xranks X set r left G k ≤ 498910104 + left := by
  have h5 := hX.2.1
  intro r
  induction r with
  | zero =>
    intro left G h k hk
    have h2 := xshare_bd hX (set := set) ((zX.nc X) + 1) left (xsh X set 0 (zX.nc X) 0) G 71272872 h k hk
    have h3 : ((zX.nc X) + 1) * 71272872 ≤ 6 * 71272872 := Nat.mul_le_mul_right _ (by omega)
    show xshare X set ((zX.nc X) + 1) left (xsh X set 0 (zX.nc X) 0) G k ≤ _
    omega
  | succ r ih =>
    intro left G h k hk
    rw [xranks]
    by_cases d : left < xsum X set r
    · rw [if_pos d]
      have := xpay_bd hX (set := set) (r := r) (left := left) h k hk
      omega
    · rw [if_neg d]
      have := ih (left - xsum X set r) (xpay X set r left G) (xpay_bd hX h) k hk
      omega
theorem xout_bd {X : zX} (hX : zXok X) {set left : Nat} (hl : left ≤ 9999999) {k : Nat} (hk : k < (zX.nc X)) : xout X left set k ≤ 508910103 := by
  have := xranks_bd hX (set := set) 10 left (fun _ => 0) (fun _ _ => Nat.zero_le _) k hk
  unfold xout
  omega
/-! which class converts next; the whole reckoning -/
theorem ze_next {X : zX} (hX : zXok X) {set left : Nat} (hs : set < 32) (hl : left ≤ 9999999) : ∀ (k i n : Nat) (be : zV), i + k = (zX.nc X) → k < n → 1 ≤ i → zE X be → be 0 0 = nI set → ∃ b, f_X3_nextToConvert_b2 n be (nI left) (nI i) = some (zo2 (zfirst (fun k => !decide ((zX.S X) k = 0) && (!set.testBit k && decide (xout X left set k < xout X left (set ||| 2 ^ k) k))) i k), b) ∧ ∀ a, a ≠ 1 → b a = be a := by
  have h1 := hX.1
  have h5 := hX.2.1
  intro k
  induction k with
  | zero =>
    intro i n be e hn hi1 hE h0
    obtain ⟨n, rfl⟩ : ∃ m, n = m + 1 := ⟨n - 1, by omega⟩
    refine ⟨be, ?_, fun _ _ => rfl⟩
    rw [f_X3_nextToConvert_b2, hE.1, if_pos (nI_le (by omega) (by omega))]
    rfl
  | succ k ih =>
    intro i n be e hn hi1 hE h0
    obtain ⟨n, rfl⟩ : ∃ m, n = m + 1 := ⟨n - 1, by omega⟩
    have hi : i < (zX.nc X) := by omega
    have hb := hX.2.2 i hi
    have hno : ∀ (p : Nat → Bool), p i = false → zfirst p i (k + 1) = zfirst p (i + 1) k := fun p q => by
      show (if p i = true then some i else zfirst p (i + 1) k) = _
      rw [q, if_neg (by decide)]
    rw [f_X3_nextToConvert_b2, hE.1, if_neg (nI_ge hi (by omega)), zp_zA (show i < 5 by omega) (by omega), nI_clamp (by omega), (hE.2 i hi).1]
    by_cases d : (zX.S X) i = 0
    · rw [if_pos (show nI ((zX.S X) i) ≤ 0 by rw [d]; decide), hno _ (by rw [decide_eq_true d]; rfl), ← nI_succ]
      exact ih (i + 1) n be (by omega) (by omega) (by omega) hE h0
    · rw [if_neg (zp_le0 (by omega) (by omega)), h0, ze_has hs (by omega), zp_zb]
      cases b1 : set.testBit i
      · rw [if_pos (by decide)]
        obtain ⟨b2, e2, r1, r2⟩ := ze_payOut hX hE (left := left) hs (by omega)
        rw [e2, zp_zb, r1 0 (by omega), h0, ze_or hs (by omega)]
        obtain ⟨b3, e3, t1, t2⟩ := ze_payOut hX (zE_fr1 hE r1) (left := left) (ze_orlt hs (show i < 5 by omega)) (by omega)
        have g1 := xout_bd hX (set := set) hl hi
        have g2 := xout_bd hX (set := set ||| 2 ^ i) hl hi
        rw [e3, zp_zb, r2 i hi, t2 i hi]
        by_cases d2 : xout X left set i < xout X left (set ||| 2 ^ i) i
        · rw [if_neg (nI_ge d2 (by omega))]
          refine ⟨b3, ?_, fun a ha => (t1 a ha).trans (r1 a ha)⟩
          show _ = some (zo2 (if (!decide ((zX.S X) i = 0) && (!set.testBit i && decide (xout X left set i < xout X left (set ||| 2 ^ i) i))) = true then some i else _), b3)
          rw [decide_eq_false d, b1, decide_eq_true d2, if_pos (by decide)]
          rfl
        · rw [if_pos (nI_le (by omega) (by omega)), hno _ (by rw [decide_eq_false d, b1, decide_eq_false d2]; rfl), ← nI_succ]
          obtain ⟨b4, e4, u1⟩ := ih (i + 1) n b3 (by omega) (by omega) (by omega) (zE_fr1 (zE_fr1 hE r1) t1) (by rw [t1 0 (by omega), r1 0 (by omega)]; exact h0)
          exact ⟨b4, e4, fun a ha => (u1 a ha).trans ((t1 a ha).trans (r1 a ha))⟩
      · rw [if_neg (by decide), hno _ (by rw [b1, decide_eq_false d]; rfl), ← nI_succ]
        exact ih (i + 1) n be (by omega) (by omega) (by omega) hE h0
theorem xset_lt {X : zX} (hX : zXok X) {left : Nat} : ∀ (t set : Nat), set < 32 → xset X left t set < 32 := by
  have h1 := hX.1
  have h5 := hX.2.1
  intro t
  induction t with
  | zero => intro set h; exact h
  | succ t ih =>
    intro set h
    rw [xset]
    cases hf : xnext X left set with
    | none => exact h
    | some k =>
      obtain ⟨q1, q2, -⟩ := zfirst_some _ _ _ hf
      exact ih (set ||| 2 ^ k) (ze_orlt h (by omega))
theorem ze_reckon_b {X : zX} (hX : zXok X) (bv : zV) {left : Nat} (hl : left ≤ 9999999) : ∀ (t x n : Nat) (be : zV) (set : Nat), x + t = (zX.nc X) → t < n → zE X be → be 0 0 = nI set → set < 32 → ∃ b, f_X3_reckon_b12 bv n be (nI left) (nI x) = some b ∧ b 0 0 = nI (xset X left t set) ∧ zE X b ∧ ∀ k, k < (zX.nc X) → b 1 k = nI (xout X left (xset X left t set) k) := by
  have h1 := hX.1
  have h5 := hX.2.1
  intro t
  induction t with
  | zero =>
    intro x n be set e hn hE h0 hs
    obtain ⟨n, rfl⟩ : ∃ m, n = m + 1 := ⟨n - 1, by omega⟩
    obtain ⟨b, e1, p1, p2⟩ := ze_payOut hX hE (left := left) hs (by omega)
    refine ⟨b, ?_, by rw [p1 0 (by omega)]; exact h0, zE_fr1 hE p1, p2⟩
    rw [f_X3_reckon_b12, hE.1, if_pos (nI_le (by omega) (by omega)), h0, e1, zp_zb]
  | succ t ih =>
    intro x n be set e hn hE h0 hs
    obtain ⟨n, rfl⟩ : ∃ m, n = m + 1 := ⟨n - 1, by omega⟩
    obtain ⟨b, e1, p1⟩ := ze_next hX hs hl ((zX.nc X) - 1) 1 1000 be (by omega) (by omega) (by omega) hE h0
    have e1' : f_X3_nextToConvert be (nI left) = some (zo2 (xnext X left set), b) := e1
    have hEb := zE_fr1 hE p1
    have b0 : b 0 0 = nI set := by rw [p1 0 (by omega)]; exact h0
    rw [f_X3_reckon_b12, hE.1, if_neg (nI_ge (show x < (zX.nc X) by omega) (by omega)), e1', zp_zb]
    show ∃ b_1, (if zo2 (xnext X left set) = -1 then _ else _) = some b_1 ∧ _
    rw [xset]
    cases hf : xnext X left set with
    | none =>
      obtain ⟨b2, e2, r1, r2⟩ := ze_payOut hX hEb (left := left) hs (by omega)
      refine ⟨b2, ?_, by rw [r1 0 (by omega)]; exact b0, zE_fr1 hEb r1, r2⟩
      rw [show zo2 none = -1 from rfl, if_pos rfl]
      show (zb (f_X3_payOut b (nI left) (b 0 0)) fun y5 => some y5) = some b2
      rw [b0, e2, zp_zb]
    | some k =>
      obtain ⟨q1, q2, -⟩ := zfirst_some _ _ _ hf
      rw [show zo2 (some k) = nI k from rfl, if_neg (zp_neg1 (by omega))]
      show ∃ b_1, f_X3_reckon_b12 bv n (zu b 0 (zu (b 0) 0 (b 0 0 ||| (1 <<< (nI k &&& 31))))) (nI left) (nI x + 1) = some b_1 ∧ b_1 0 0 = nI (xset X left t (set ||| 2 ^ k)) ∧ zE X b_1 ∧ ∀ l, l < (zX.nc X) → b_1 1 l = nI (xout X left (xset X left t (set ||| 2 ^ k)) l)
      rw [b0, ze_or hs (by omega), ← nI_succ]
      exact ih (x + 1) n _ (set ||| 2 ^ k) (by omega) (by omega) (zE_fr hEb rfl (fun a h1 h2 => zu_ne h1)) rfl (ze_orlt hs (by omega))
