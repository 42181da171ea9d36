/-! ===== pure: the model shares out ===== -/
theorem zc_set2 {p q : Nat → Bool} {c : Nat} (h0 : p c = false) (h1 : q c = true) : ∀ (k i : Nat), i ≤ c → c < i + k → (∀ j, j < i + k → j ≠ c → q j = p j) → zc q i k = zc p i k + 1 := by
  intro k
  induction k with
  | zero => intro i a b; omega
  | succ k ih =>
    intro i a b h
    show (if q i = true then 1 else 0) + zc q (i + 1) k = (if p i = true then 1 else 0) + zc p (i + 1) k + 1
    by_cases e : i = c
    · subst e
      rw [h1, h0, zc_congr k (i + 1) (fun j h2 h3 => h j (by omega) (by omega))]
      simp only [if_true, Bool.false_eq_true, if_false]
      omega
    · rw [h i (by omega) e, ih (i + 1) (by omega) (by omega) (fun j h2 h3 => h j (by omega) h3)]
      omega
theorem ze_or00 : ∀ s : Fin 32, nI s.1 ||| 0 = nI s.1 := by decide +kernel
theorem me_among {X : zX} (hX : zXok X) {w : zV} {bj : zJ} (hM : zM X w bj) {set : Nat} (hs : set < 32) (x4 : Int64) : ∀ (k i n a : Nat), i + k = zX.nc X → k < n → a < 32 → ∃ m, f_X10_paysOut_b45 w n bj (nI set) x4 (nI a) (nI i) = f_X10_paysOut_b45 w (m + 1) bj (nI set) x4 (nI (xsh X set i k a)) (nI (zX.nc X)) := by
  have h1 := hX.1
  have h5 := hX.2.1
  intro k
  induction k with
  | zero =>
    intro i n a e hn ha
    obtain ⟨n, rfl⟩ : ∃ m, n = m + 1 := ⟨n - 1, by omega⟩
    obtain rfl : i = zX.nc X := by omega
    exact ⟨n, rfl⟩
  | succ k ih =>
    intro i n a e hn ha
    obtain ⟨n, rfl⟩ : ∃ m, n = m + 1 := ⟨n - 1, by omega⟩
    have hi : i < zX.nc X := by omega
    have hb := hX.2.2 i hi
    have h32 : (if i = 0 ∨ set.testBit i = true ∨ zX.K X i ≠ 0 then a ||| 2 ^ i else a) < 32 := by
      split
      · exact ze_orlt ha (by omega)
      · exact ha
    obtain ⟨m, e2⟩ := ih (i + 1) n _ (by omega) (by omega) h32
    refine ⟨m, ?_⟩
    show _ = f_X10_paysOut_b45 w (m + 1) bj (nI set) x4 (nI (xsh X set (i + 1) k (if i = 0 ∨ set.testBit i = true ∨ zX.K X i ≠ 0 then a ||| 2 ^ i else a))) (nI (zX.nc X))
    rw [← e2, f_X10_paysOut_b45, zp_tn0, hM.1, if_neg (nI_ge hi (by omega)), ze_or ha (by omega), ← nI_succ]
    by_cases d : i = 0
    · rw [if_pos (show nI i = 0 by rw [d]; rfl), if_pos (Or.inl d)]
    · rw [if_neg (nI_ne0 (by omega) (by omega)), ze_mhas hs (by omega), zp_zb]
      cases hb2 : set.testBit i
      · rw [if_pos (by decide), zp_class3 w bj (by omega), zp_zb, (hM.2 i hi).2.1]
        by_cases d2 : zX.K X i = 0
        · rw [if_pos (show nI (zX.K X i) ≤ 0 by rw [d2]; decide), if_neg (show ¬ (i = 0 ∨ false = true ∨ zX.K X i ≠ 0) by rintro (q | q | q); exact d q; cases q; exact q d2), ze_or00 ⟨a, ha⟩]
        · rw [if_neg (zp_le0 (by omega) (by omega)), if_pos (Or.inr (Or.inr d2))]
      · rw [if_neg (by decide), if_pos (Or.inr (Or.inl rfl))]
/-- what a class would get of the rest -/
def xq (X : zX) (sh left k : Nat) : Nat := if sh.testBit k = true then left * zX.C X k / xcs X sh else 0
theorem xfull_q {X : zX} {set sh left k : Nat} : xfull X set sh left k = (!decide (k = 0) && (!set.testBit k && (decide (zX.K X k = 2) && decide (zX.P X k < xq X sh left k)))) := by
  unfold xfull xq
  cases sh.testBit k
  · rw [if_neg (show ¬ (false = true) by decide), decide_eq_false (show ¬ zX.P X k < 0 by omega)]
    cases decide (k = 0) <;> cases set.testBit k <;> cases decide (zX.K X k = 2) <;> rfl
  · rw [if_pos rfl]
    cases decide (k = 0) <;> cases set.testBit k <;> cases decide (zX.K X k = 2) <;> rfl
def mtail (w : zV) (n : Nat) (bj : zJ) (a : Nat → Int64) (x1 : Int64) (x3 x4 : Int32) (x5 : Int64) (x7 x8 : Int32) : Option (Int32 × zJ) :=
  (if x8 ≤ 0 then f_X10_shares_go w n 2 (zu bj 1 a) x1 x3 x4 x5 x7 x8 else zb (f_X10_ofClass w (zu bj 1 a) x8 3) fun y8 => (if y8 = 2 then zb (f_X10_has x4 x8) fun y10 => (if y10 = 0 then (if (lg_cmp (a x8.toNatClampNeg) ((bj 2) x8.toNatClampNeg)) ≤ 0 then f_X10_shares_go w n 2 (zu bj 1 a) x1 x3 x4 x5 x7 x8 else (if (1 : Int32) = 0 then f_X10_shares_go w n 1 (zu bj 1 a) x1 x3 x4 x5 x7 (x8 + (-1)) else f_X10_shares_go w n 1 (zu bj 1 a) x1 x3 x4 x5 x8 (x8 + (-1)))) else f_X10_shares_go w n 2 (zu bj 1 a) x1 x3 x4 x5 x7 x8) else f_X10_shares_go w n 2 (zu bj 1 a) x1 x3 x4 x5 x7 x8))
theorem me_tail {X : zX} (hX : zXok X) {w : zV} {bj : zJ} (hM : zM X w bj) {set sh left i : Nat} (hs : set < 32) (hi : i < zX.nc X) (hl : left < 2 ^ 31) {a : Nat → Int64} (ha : a i = lN (xq X sh left i)) (n : Nat) (x1 : Int64) (x3 : Int32) (x5 : Int64) (x7 : Int32) : ∃ m, n ≤ m ∧ mtail w (n + 1) bj a x1 x3 (nI set) x5 x7 (nI i) = f_X10_shares_go w m 1 (zu bj 1 a) x1 x3 (nI set) x5 (if xfull X set sh left i = true then nI i else x7) (nI i - 1) := by
  have h1 := hX.1
  have h5 := hX.2.1
  have hb := hX.2.2 i hi
  have h2 : f_X10_shares_go w (n + 1) 2 (zu bj 1 a) x1 x3 (nI set) x5 x7 (nI i) = f_X10_shares_go w n 1 (zu bj 1 a) x1 x3 (nI set) x5 x7 (nI i - 1) := by
    rw [f_X10_shares_go, if_pos rfl, show nI i + (-1) = nI i - 1 by rw [Int32.sub_eq_add_neg]]
  have hq : xq X sh left i ≤ left := by
    unfold xq
    by_cases d : sh.testBit i = true
    · rw [if_pos d]; exact xq_le hi d
    · rw [if_neg d]; exact Nat.zero_le _
  unfold mtail
  rw [xfull_q, h2]
  by_cases d : i = 0
  · rw [if_pos (show nI i ≤ 0 by rw [d]; decide), decide_eq_true d]
    exact ⟨n, Nat.le_refl _, rfl⟩
  · rw [if_neg (zp_le0 (by omega) (by omega)), zp_class3 w _ (by omega), zp_zb, (hM.2 i hi).2.1, decide_eq_false d]
    by_cases d2 : zX.K X i = 2
    · rw [if_pos (show nI (zX.K X i) = 2 by rw [d2]; rfl), ze_mhas hs (by omega), zp_zb, decide_eq_true d2, nI_clamp (by omega), ha, (hM.2 i hi).2.2.1]
      cases set.testBit i
      · rw [if_pos (by decide)]
        by_cases d3 : zX.P X i < xq X sh left i
        · rw [if_neg (fun q => by have := (pk_lLE (by omega) (by omega)).mp ((lg_cmp_le _ _).mp q); omega), if_neg (by decide), decide_eq_true d3, if_pos (by decide), show nI i + (-1) = nI i - 1 by rw [Int32.sub_eq_add_neg]]
          exact ⟨n + 1, by omega, rfl⟩
        · rw [if_pos ((lg_cmp_le _ _).mpr ((pk_lLE (by omega) (by omega)).mpr (by omega))), decide_eq_false d3, if_neg (by decide)]
          exact ⟨n, Nat.le_refl _, rfl⟩
      · rw [if_neg (by decide), if_neg (by cases decide (zX.P X i < xq X sh left i) <;> decide)]
        exact ⟨n, Nat.le_refl _, rfl⟩
    · rw [if_neg (show ¬ nI (zX.K X i) = 2 from fun q => d2 ((nI_eq (b := 2) (by omega) (by omega)).mp q)), decide_eq_false d2, if_neg (by cases set.testBit i <;> cases decide (zX.P X i < xq X sh left i) <;> decide)]
      exact ⟨n, Nat.le_refl _, rfl⟩
theorem me_down {X : zX} (hX : zXok X) {w : zV} {set sh left : Nat} (hs : set < 32) (hh : sh < 32) (hl : left < 2 ^ 31) : ∀ (i n : Nat) (bj : zJ), i ≤ zX.nc X → 2 * i < n → zM X w bj → ∃ bj', f_X10_shares_go w n 1 bj (lN left) (nI sh) (nI set) (lN (xcs X sh)) (zo2 (zfirst (xfull X set sh left) i (zX.nc X - i))) (nI i - 1) = some (zo2 (zfirst (xfull X set sh left) 0 (zX.nc X)), bj') ∧ (∀ a, a ≠ 1 → bj' a = bj a) ∧ ∀ k, k < zX.nc X → bj' 1 k = if k < i then lN (xq X sh left k) else bj 1 k := by
  have h1 := hX.1
  have h5 := hX.2.1
  have hC := xcs_bd hX sh
  intro i
  induction i with
  | zero =>
    intro n bj hi hn hM
    obtain ⟨n, rfl⟩ : ∃ m, n = m + 1 := ⟨n - 1, by omega⟩
    refine ⟨bj, ?_, fun _ _ => rfl, fun k _ => by rw [if_neg (by omega)]⟩
    rw [f_X10_shares_go, if_pos (show nI 0 - 1 < 0 by decide)]
    rfl
  | succ i ih =>
    intro n bj hi hn hM
    obtain ⟨n, rfl⟩ : ∃ m, n = m + 1 + 1 := ⟨n - 2, by omega⟩
    have hi2 : i < zX.nc X := by omega
    have hb := hX.2.2 i hi2
    let a : Nat → Int64 := vp_updL (bj 1) i (lN (xq X sh left i))
    have ha : a i = lN (xq X sh left i) := pk_uLs
    have e8 : zX.nc X - i = (zX.nc X - (i + 1)) + 1 := by omega
    have ez : (if xfull X set sh left i = true then nI i else zo2 (zfirst (xfull X set sh left) (i + 1) (zX.nc X - (i + 1)))) = zo2 (zfirst (xfull X set sh left) i (zX.nc X - i)) := by
      rw [e8]
      show _ = zo2 (if xfull X set sh left i = true then some i else zfirst (xfull X set sh left) (i + 1) (zX.nc X - (i + 1)))
      by_cases d : xfull X set sh left i = true
      · rw [if_pos d, if_pos d]; rfl
      · rw [if_neg d, if_neg d]
    obtain ⟨m, hm, e1⟩ := me_tail hX hM hs hi2 hl ha n (lN left) (nI sh) (lN (xcs X sh)) (zo2 (zfirst (xfull X set sh left) (i + 1) (zX.nc X - (i + 1))))
    rw [ez] at e1
    obtain ⟨b2, e2, p1, p2⟩ := ih m (zu bj 1 a) (by omega) (by omega) (zM_fr1 hM (fun a ha => zu_ne ha))
    refine ⟨b2, ?_, fun a ha => (p1 a ha).trans (zu_ne ha), fun k hk => ?_⟩
    · rw [← e2, ← e1, nI_pred, f_X10_shares_go, if_neg (nI_pos (by omega)), ze_mhas hh (by omega), zp_zb]
      cases hq : sh.testBit i
      · have eq0 : xq X sh left i = 0 := by unfold xq; rw [hq]; rfl
        rw [if_pos (by decide), zp_zA (show i < 5 by omega) (by omega), nI_clamp (by omega), zp_zl]
        have ea : a = vp_updL (bj 1) i (0 : Int64) := by
          show vp_updL (bj 1) i (lN (xq X sh left i)) = _
          rw [eq0]; rfl
        rw [ea]
        unfold mtail
        rw [nI_clamp (by omega)]
      · have eqq : xq X sh left i = left * zX.C X i / xcs X sh := by unfold xq; rw [hq]; rfl
        rw [if_neg (by decide)]
        by_cases z : xcs X sh = 0
        · have ea : a = vp_updL (bj 1) i (0 : Int64) := by
            show vp_updL (bj 1) i (lN (xq X sh left i)) = _
            rw [eqq, z, Nat.div_zero]; rfl
          rw [if_pos ((lN_cmp_le0 (by omega)).mpr z), zp_zA (show i < 5 by omega) (by omega), nI_clamp (by omega), zp_zl, ea]
          unfold mtail
          rw [nI_clamp (by omega)]
        · have ea : a = vp_updL (bj 1) i (lN left * bj 3 i / lN (xcs X sh)) := by
            show vp_updL (bj 1) i (lN (xq X sh left i)) = _
            rw [eqq, (hM.2 i hi2).2.2.2, lN_mul, pk_lDiv (zp_mul63 (by omega) (by omega)) (by omega) (by omega)]
          unfold zDl
          rw [if_neg (fun q => z ((lN_cmp_le0 (by omega)).mp q)), zp_zA (show i < 5 by omega) (by omega), if_neg (show ¬ lN (xcs X sh) = 0 from fun q => z ((pk_lEQ (b := 0) (by omega) (by omega)).mp q)), nI_clamp (by omega), zp_zl, ea]
          unfold mtail
          rw [nI_clamp (by omega)]
    · rw [p2 k hk]
      by_cases d : k < i
      · rw [if_pos d, if_pos (by omega)]
      · rw [if_neg d]
        show a k = _
        by_cases d2 : k = i
        · subst d2
          rw [if_pos (by omega)]; exact ha
        · rw [if_neg (by omega)]
          exact pk_uLn d2
theorem xlow_0 {X : zX} (h1 : 1 ≤ zX.nc X) {set sh left : Nat} : zfirst (xfull X set sh left) 0 (zX.nc X) = xlow X set sh left := by
  obtain ⟨m, hm⟩ : ∃ m, zX.nc X = m + 1 := ⟨zX.nc X - 1, by omega⟩
  unfold xlow
  rw [hm, Nat.add_sub_cancel]
  show (if xfull X set sh left 0 = true then some 0 else zfirst (xfull X set sh left) 1 m) = _
  rw [if_neg (by unfold xfull; rw [decide_eq_true (show (0 : Nat) = 0 from rfl)]; exact fun q => absurd (show false = true from q) (by decide))]
theorem me_shares {X : zX} (hX : zXok X) {w : zV} {bj : zJ} (hM : zM X w bj) {set sh left : Nat} (hs : set < 32) (hh : sh < 32) (hl : left < 2 ^ 31) : ∃ bj', f_X10_shares w bj (lN left) (nI sh) (nI set) = some (zo2 (xlow X set sh left), bj') ∧ (∀ a, a ≠ 1 → bj' a = bj a) ∧ ∀ k, k < zX.nc X → bj' 1 k = lN (xq X sh left k) := by
  have h1 := hX.1
  have h5 := hX.2.1
  have hsum : ∀ (k i n a : Nat) (x8 : Int32), i + k = zX.nc X → k < n → ∃ m, n ≤ m + k + 1 ∧ f_X10_shares_go w n 0 bj (lN left) (nI sh) (nI set) (lN a) (nI i) x8 = f_X10_shares_go w m 1 bj (lN left) (nI sh) (nI set) (lN (a + zn (fun k => if sh.testBit k = true then zX.C X k else 0) i k)) (-1) (nI (zX.nc X) - 1) := by
    intro k
    induction k with
    | zero =>
      intro i n a x8 e hn
      obtain ⟨n, rfl⟩ : ∃ m, n = m + 1 := ⟨n - 1, by omega⟩
      refine ⟨n, by omega, ?_⟩
      rw [f_X10_shares_go, zp_tn0, hM.1, if_pos (nI_le (by omega) (by omega))]
      rfl
    | succ k ih =>
      intro i n a x8 e hn
      obtain ⟨n, rfl⟩ : ∃ m, n = m + 1 := ⟨n - 1, by omega⟩
      have hi : i < zX.nc X := by omega
      rw [f_X10_shares_go, zp_tn0, hM.1, if_neg (nI_ge hi (by omega)), ze_mhas hh (by omega), zp_zb, ← nI_succ]
      cases hq : sh.testBit i
      · obtain ⟨m, hm, e2⟩ := ih (i + 1) n a 0 (by omega) (by omega)
        refine ⟨m, by omega, ?_⟩
        rw [if_pos (by decide), show lN a + 0 = lN a from lN_add a 0, e2]
        show _ = f_X10_shares_go w m 1 bj (lN left) (nI sh) (nI set) (lN (a + ((if sh.testBit i = true then zX.C X i else 0) + zn (fun k => if sh.testBit k = true then zX.C X k else 0) (i + 1) k))) (-1) (nI (zX.nc X) - 1)
        rw [hq, if_neg (by decide), Nat.zero_add]
      · obtain ⟨m, hm, e2⟩ := ih (i + 1) n (a + zX.C X i) 0 (by omega) (by omega)
        refine ⟨m, by omega, ?_⟩
        rw [if_neg (by decide), zp_zA (show i < 5 by omega) (by omega), nI_clamp (by omega), (hM.2 i hi).2.2.2, lN_add, e2]
        show _ = f_X10_shares_go w m 1 bj (lN left) (nI sh) (nI set) (lN (a + ((if sh.testBit i = true then zX.C X i else 0) + zn (fun k => if sh.testBit k = true then zX.C X k else 0) (i + 1) k))) (-1) (nI (zX.nc X) - 1)
        rw [hq, if_pos rfl, Nat.add_assoc]
  obtain ⟨m, hm, e1⟩ := hsum (zX.nc X) 0 1000 0 0 (by omega) (by omega)
  obtain ⟨b2, e2, p1, p2⟩ := me_down hX hs hh hl (zX.nc X) m bj (Nat.le_refl _) (by omega) hM
  rw [Nat.sub_self, xlow_0 h1] at e2
  refine ⟨b2, ?_, p1, fun k hk => by rw [p2 k hk, if_pos hk]⟩
  have e1' : f_X10_shares w bj (lN left) (nI sh) (nI set) = f_X10_shares_go w m 1 bj (lN left) (nI sh) (nI set) (lN (0 + xcs X sh)) (-1) (nI (zX.nc X) - 1) := e1
  rw [Nat.zero_add] at e1'
  exact e1'.trans e2
theorem me_share {X : zX} (hX : zXok X) {w : zV} {set : Nat} (hs : set < 32) : ∀ (t n : Nat) (bj : zJ) (left sh : Nat) (G : Nat → Nat), zc (fun k => sh.testBit k) 0 (zX.nc X) < t → t < n → zM X w bj → (∀ k, k < zX.nc X → bj 0 k = lN (G k)) → (∀ k, k < zX.nc X → bj 1 k = lN (xq X sh left k)) → sh < 32 → left < 2 ^ 31 → ∃ b, f_X10_paysOut_b110 w n bj (nI set) (lN left) (nI sh) (zo2 (xlow X set sh left)) = some b ∧ (∀ a, a ≠ 0 → a ≠ 1 → b a = bj a) ∧ ∀ k, k < zX.nc X → b 0 k = lN (xshare X set t left sh G k) := by
  have h1 := hX.1
  have h5 := hX.2.1
  intro t
  induction t with
  | zero => intro n bj left sh G h; omega
  | succ t ih =>
    intro n bj left sh G ht hn hM hG hq hh hl
    obtain ⟨n, rfl⟩ : ∃ m, n = m + 1 := ⟨n - 1, by omega⟩
    rw [f_X10_paysOut_b110]
    cases hf : xlow X set sh left with
    | none =>
      rw [if_pos (show zo2 none < 0 by decide)]
      obtain ⟨m, b, e, p1, p2⟩ := zp_loopP (fun n (b : zJ) i => f_X10_paysOut_b172 w n b (nI i)) (zX.nc X) (fun i b => (∀ a, a ≠ 0 → b a = bj a) ∧ ∀ k, k < zX.nc X → b 0 k = lN (if k < i then G k + xq X sh left k else G k))
        (fun n i b hi hp => by
          obtain ⟨p1, p2⟩ := hp
          have hMb := zM_fr0 hM p1
          refine ⟨zu b 0 (vp_updL (b 0) i (lN (G i + xq X sh left i))), ?_, fun a ha => (zu_ne ha).trans (p1 a ha), fun k hk => ?_⟩
          · show f_X10_paysOut_b172 w (n + 1) b (nI i) = _
            rw [f_X10_paysOut_b172, zp_tn0, hMb.1, if_neg (nI_ge hi (by omega)), zp_zA (show i < 5 by omega) (by omega), zp_zl, nI_clamp (by omega), p2 i hi, if_neg (by omega), p1 1 (by omega), hq i hi, lN_add, ← nI_succ]
          · show vp_updL (b 0) i _ k = _
            by_cases d : k = i
            · subst d; rw [pk_uLs, if_pos (by omega)]
            · rw [pk_uLn d, p2 k hk]
              by_cases d2 : k < i
              · rw [if_pos d2, if_pos (by omega)]
              · rw [if_neg d2, if_neg (by omega)]) (zX.nc X) 0 1000 bj (by omega) (by omega) ⟨fun _ _ => rfl, fun k hk => by rw [hG k hk, if_neg (by omega)]⟩
      have e' : f_X10_paysOut_b172 w 1000 bj 0 = f_X10_paysOut_b172 w (m + 1) b (nI (zX.nc X)) := e
      refine ⟨b, ?_, fun a h2 _ => p1 a h2, fun k hk => ?_⟩
      · rw [e', f_X10_paysOut_b172, zp_tn0, hM.1, if_pos (nI_le (Nat.le_refl _) (by omega))]
      · rw [p2 k hk, if_pos hk, xshare, hf]
        show lN (G k + xq X sh left k) = lN (if sh.testBit k = true then G k + left * zX.C X k / xcs X sh else G k)
        unfold xq
        by_cases d : sh.testBit k = true
        · rw [if_pos d, if_pos d]
        · rw [if_neg d, if_neg d, Nat.add_zero]
    | some f =>
      obtain ⟨q1, q2, q3, q4⟩ := xlow_some h1 hf
      have q5 := xq_le (left := left) q2 q3
      have off := ze_offlt hh (show f < 5 by omega)
      rw [show zo2 (some f) = nI f from rfl, if_neg (nI_pos (by omega)), zp_zA (show f < 5 by omega) (by omega), zp_zl, nI_clamp (by omega), hG f q2, (hM.2 f q2).2.2.1, lN_add, lN_sub (by omega), ze_off hh (by omega)]
      have hM2 : zM X w (zu bj 0 (vp_updL (bj 0) f (lN (G f + zX.P X f)))) := zM_fr0 hM (fun a ha => zu_ne ha)
      obtain ⟨b2, e2, r1, r2⟩ := me_shares hX hM2 hs off (show left - zX.P X f < 2 ^ 31 by omega)
      rw [e2, zp_zb]
      have hz : zc (fun k => sh.testBit k) 0 (zX.nc X) = zc (fun k => (sh &&& (31 ^^^ 2 ^ f)).testBit k) 0 (zX.nc X) + 1 := by
        refine zc_set2 (c := f) ?_ q3 (zX.nc X) 0 (by omega) (by omega) (fun l h2 h3 => ?_)
        · show (sh &&& (31 ^^^ 2 ^ f)).testBit f = false
          rw [ze_offb hh (by omega) (by omega), decide_eq_true (rfl : f = f)]
          cases sh.testBit f <;> rfl
        · show sh.testBit l = (sh &&& (31 ^^^ 2 ^ f)).testBit l
          rw [ze_offb hh (by omega) (by omega), decide_eq_false h3]
          cases sh.testBit l <;> rfl
      obtain ⟨b3, e3, t1, t2⟩ := ih n b2 (left - zX.P X f) (sh &&& (31 ^^^ 2 ^ f)) (fun k => if k = f then G k + zX.P X f else G k) (by omega) (by omega) (zM_fr1 hM2 r1) (fun k hk => by
        rw [r1 0 (by omega)]
        show vp_updL (bj 0) f _ k = lN (if k = f then G k + zX.P X f else G k)
        by_cases d : k = f
        · subst d; rw [pk_uLs, if_pos rfl]
        · rw [pk_uLn d, hG k hk, if_neg d]) r2 off (by omega)
      refine ⟨b3, e3, fun a h2 h3 => (t1 a h2 h3).trans ((r1 a h3).trans (zu_ne h2)), fun k hk => ?_⟩
      rw [t2 k hk, xshare, hf]
theorem me_paysOut {X : zX} (hX : zXok X) {w : zV} {bj : zJ} (hM : zM X w bj) {set left : Nat} (hs : set < 32) (hl : left < 2 ^ 31) : ∃ b, f_X10_paysOut w bj (lN left) (nI set) = some b ∧ (∀ a, a ≠ 0 → a ≠ 1 → b a = bj a) ∧ ∀ k, k < zX.nc X → b 0 k = lN (xout X left set k) := by
  have h1 := hX.1
  have h5 := hX.2.1
  obtain ⟨m, b, e, p1, p2⟩ := zp_loopP (fun n (b : zJ) i => f_X10_paysOut_b3 w n b (lN left) (nI set) (nI i)) 5 (fun i b => (∀ a, a ≠ 0 → b a = bj a) ∧ ∀ k, k < i → b 0 k = lN 0)
    (fun n i b hi hp => by
      obtain ⟨p1, p2⟩ := hp
      refine ⟨zu b 0 (vp_updL (b 0) i (0 : Int64)), ?_, fun a ha => (zu_ne ha).trans (p1 a ha), fun k hk => ?_⟩
      · show f_X10_paysOut_b3 w (n + 1) b (lN left) (nI set) (nI i) = _
        rw [f_X10_paysOut_b3, if_neg (show ¬ (5 : Int32) ≤ nI i from nI_ge (b := 5) hi (by omega)), zp_zA (show i < 5 by omega) (by omega), zp_zl, nI_clamp (by omega), ← nI_succ]
      · show vp_updL (b 0) i 0 k = lN 0
        by_cases d : k = i
        · subst d; exact pk_uLs
        · rw [pk_uLn d]; exact p2 k (by omega)) 5 0 1000 bj (by omega) (by omega) ⟨fun _ _ => rfl, fun k hk => by omega⟩
  have e' : f_X10_paysOut w bj (lN left) (nI set) = f_X10_paysOut_b3 w (m + 1) b (lN left) (nI set) (nI 5) := e
  have hMb := zM_fr0 hM p1
  rw [e', f_X10_paysOut_b3, if_pos (show (5 : Int32) ≤ nI 5 by decide)]
  rcases me_ranks hX hs 10 1000 b left (fun _ => 0) 0 0 (by omega) (by omega) hMb (fun k hk => p2 k (by omega)) (fun _ _ _ => rfl) hl with ⟨b2, e2, q1, q2⟩ | ⟨b2, l2, G2, e2, q0, q1, q2, q3⟩
  · have e2' : f_X10_paysClaims w b (lN left) (nI set) = some (-1, b2) := e2
    refine ⟨b2, ?_, fun a h2 _ => (q1 a h2).trans (p1 a h2), q2⟩
    rw [e2', zp_zb]
    show (if (0 : Int32) ≤ lg_cmp (-1 : Int64) 0 then f_X10_paysOut_b45 w 1000 b2 (nI set) (-1) 0 0 else some b2) = some b2
    rw [if_neg (by decide)]
  · have e2' : f_X10_paysClaims w b (lN left) (nI set) = some (lN l2, b2) := e2
    have hM2 := zM_fr0 hMb q1
    have hsh : xsh X set 0 (zX.nc X) 0 < 32 := xsh_lt (zX.nc X) 0 0 (by omega) (by omega)
    obtain ⟨m3, e3⟩ := me_among hX hM2 hs (lN l2) (zX.nc X) 0 1000 0 (by omega) (by omega) (by omega)
    have e3' : f_X10_paysOut_b45 w 1000 b2 (nI set) (lN l2) 0 0 = f_X10_paysOut_b45 w (m3 + 1) b2 (nI set) (lN l2) (nI (xsh X set 0 (zX.nc X) 0)) (nI (zX.nc X)) := e3
    obtain ⟨b4, e4, r1, r2⟩ := me_shares hX hM2 hs hsh (show l2 < 2 ^ 31 by omega)
    obtain ⟨b5, e5, t1, t2⟩ := me_share hX hs (zX.nc X + 1) 1000 b4 l2 (xsh X set 0 (zX.nc X) 0) G2 (by have := zc_le (fun k => (xsh X set 0 (zX.nc X) 0).testBit k) (zX.nc X) 0; omega) (by omega) (zM_fr1 hM2 r1) (fun k hk => by rw [r1 0 (by omega)]; exact q2 k hk) r2 hsh (by omega)
    refine ⟨b5, ?_, fun a h2 h3 => (t1 a h2 h3).trans ((r1 a h3).trans ((q1 a h2).trans (p1 a h2))), fun k hk => ?_⟩
    · rw [e2', zp_zb]
      show (if 0 ≤ lg_cmp (lN l2) 0 then f_X10_paysOut_b45 w 1000 b2 (nI set) (lN l2) 0 0 else some b2) = some b5
      rw [if_pos ((lg_cmp_ge (lN l2) 0).mpr (show lN 0 ≤ lN l2 from (pk_lLE (by omega) (by omega)).mpr (Nat.zero_le _))), e3', f_X10_paysOut_b45, zp_tn0, hM2.1, if_pos (nI_le (Nat.le_refl _) (by omega)), e4, zp_zb]
      exact e5
    · rw [t2 k hk]
      unfold xout
      rw [q3]
