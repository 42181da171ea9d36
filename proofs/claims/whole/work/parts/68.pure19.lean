/-! ===== pure: copies, what was before, changes as a whole ===== -/
def zLn (a : Nat) : Nat := if a ≤ 5 then 5 else if a ≤ 9 then 24 else 8
/-- the same as far as it counts -/
def zAg (u v : zV) : Prop := (∀ k, k < 12 → u 0 k = v 0 k) ∧ ∀ a, 1 ≤ a → a ≤ 19 → ∀ k, k < zLn a → u a k = v a k
theorem zp_cpy {f g : Nat → Int32} {n k : Nat} (h : k < n) : va_cpy f g 0 0 n k = f k := by
  rw [pk_cpy_in (Nat.zero_le k) (by omega), Nat.zero_add, Nat.sub_zero]
theorem zp_copy (v d : zV) (h : d 0 2 = 0 ∨ d 0 2 = 1) : ∃ u, f_X2_copyFrom v d = some u ∧ zAg u d := by
  have hz : ∀ {β : Type} (k : Option β), zZ (d 0 2) k = k := fun k => if_pos h
  unfold f_X2_copyFrom f_X1_copyFrom f_X0_copyFrom f_X4_copyFrom f_X7_copyFrom
  simp only [hz, zp_zb]
  refine ⟨_, rfl, fun k hk => ?_, fun a h1 h2 k hk => ?_⟩
  · rcases (show k = 0 ∨ k = 1 ∨ k = 2 ∨ k = 3 ∨ k = 4 ∨ k = 5 ∨ k = 6 ∨ k = 7 ∨ k = 8 ∨ k = 9 ∨ k = 10 ∨ k = 11 by omega) with rfl | rfl | rfl | rfl | rfl | rfl | rfl | rfl | rfl | rfl | rfl | rfl <;> rfl
  · rcases (show a = 1 ∨ a = 2 ∨ a = 3 ∨ a = 4 ∨ a = 5 ∨ a = 6 ∨ a = 7 ∨ a = 8 ∨ a = 9 ∨ a = 10 ∨ a = 11 ∨ a = 12 ∨ a = 13 ∨ a = 14 ∨ a = 15 ∨ a = 16 ∨ a = 17 ∨ a = 18 ∨ a = 19 by omega) with rfl | rfl | rfl | rfl | rfl | rfl | rfl | rfl | rfl | rfl | rfl | rfl | rfl | rfl | rfl | rfl | rfl | rfl | rfl <;> exact zp_cpy hk
theorem zR_ag {u v : zV} {s : Nat → Int32} (h : zR v s) (ag : zAg u v) : zR u s := by
  obtain ⟨nc, nh, ng, tm, ⟨hc1, hc5, hnh, hng, htm, e00, e06, e01, e07, s0, s1, s2, s3, s4, s5, s6, s7⟩, hk, hh, hc, hg, hr⟩ := h
  obtain ⟨a0, a1⟩ := ag
  refine ⟨nc, nh, ng, tm, ⟨hc1, hc5, hnh, hng, htm, (a0 _ (by omega)).trans e00, (a0 _ (by omega)).trans e06, (a0 _ (by omega)).trans e01, (a0 _ (by omega)).trans e07, s0, s1, s2, s3, s4.trans (a0 _ (by omega)).symm, s5.trans (a0 _ (by omega)).symm, s6.trans (a0 _ (by omega)).symm, s7.trans (a0 _ (by omega)).symm⟩, fun k hk2 => ?_, ⟨fun k hk2 => ?_, hh.2⟩, fun c hc2 => ?_, ⟨fun g hlt => ?_, hg.2⟩, ?_⟩
  · have l : ∀ a, 1 ≤ a → a ≤ 5 → u a k = v a k := fun a h1 h2 => a1 a h1 (by omega) k (by unfold zLn; rw [if_pos h2]; omega)
    rw [l 1 (by omega) (by omega), l 2 (by omega) (by omega), l 3 (by omega) (by omega), l 4 (by omega) (by omega), l 5 (by omega) (by omega)]
    exact hk k hk2
  · rw [a1 19 (by omega) (by omega) k (by show k < 8; omega)]
    exact hh.1 k hk2
  · rw [a1 6 (by omega) (by omega) c hc2, a1 7 (by omega) (by omega) c hc2, a1 8 (by omega) (by omega) c hc2, a1 9 (by omega) (by omega) c hc2]
    exact hc c hc2
  · have h8 : g < 8 := by omega
    rw [a1 10 (by omega) (by omega) g h8, a1 11 (by omega) (by omega) g h8, a1 12 (by omega) (by omega) g h8, a1 13 (by omega) (by omega) g h8, a1 14 (by omega) (by omega) g h8, a1 15 (by omega) (by omega) g h8, a1 16 (by omega) (by omega) g h8]
    exact hg.1 g hlt
  · rcases hr with ⟨h1, h2⟩ | ⟨h1, h2, o, n, d, h3, h4, h5, h6, h7, h8, h9, h10, h11, h12, h13, h14⟩
    · exact Or.inl ⟨(a0 _ (by omega)).trans h1, h2⟩
    · refine Or.inr ⟨(a0 _ (by omega)).trans h1, h2, o, n, d, h3, h4, h5, h6, h7, (a0 _ (by omega)).trans h8, (a0 _ (by omega)).trans h9, (a0 _ (by omega)).trans h10, h11, h12, h13, fun k hk2 => ?_⟩
      rw [a1 17 (by omega) (by omega) k hk2, a1 18 (by omega) (by omega) k hk2]
      exact h14 k hk2
theorem zR_sag {v : zV} {s s' : Nat → Int32} (h : zR v s) (e : ∀ k, k < 213 → s' k = s k) : zR v s' := by
  obtain ⟨nc, nh, ng, tm, ⟨hc1, hc5, hnh, hng, htm, e00, e06, e01, e07, s0, s1, s2, s3, s4, s5, s6, s7⟩, hk, hh, hc, hg, hr⟩ := h
  refine ⟨nc, nh, ng, tm, ⟨hc1, hc5, hnh, hng, htm, e00, e06, e01, e07, (e _ (by omega)).trans s0, (e _ (by omega)).trans s1, (e _ (by omega)).trans s2, (e _ (by omega)).trans s3, (e _ (by omega)).trans s4, (e _ (by omega)).trans s5, (e _ (by omega)).trans s6, (e _ (by omega)).trans s7⟩, zRk_fr hk hc5 rfl rfl rfl rfl rfl (fun i _ _ => e i (by omega)), zRh_fr hh hnh (Nat.le_refl _) rfl (fun i _ _ => e i (by omega)), zRc_fr hc (Nat.le_refl _) (Nat.le_refl _) rfl rfl rfl rfl (fun i _ _ => e i (by omega)), zRg_fr hg hnh hng (Nat.le_refl _) rfl rfl rfl rfl rfl rfl rfl (fun i _ _ => e i (by omega)) (fun i _ _ => e i (by omega)), zRr_fr hr (Nat.le_refl _) (Nat.le_refl _) rfl rfl rfl rfl rfl rfl (fun i _ _ => e i (by omega))⟩
theorem zR_on {v : zV} {s : Nat → Int32} (h : zR v s) : v 0 2 = 0 ∨ v 0 2 = 1 := by
  obtain ⟨nc, nh, ng, tm, -, -, -, -, -, hr⟩ := h
  rcases zRr_on hr with ⟨h, -⟩ | ⟨h, -⟩
  · exact Or.inl h
  · exact Or.inr h
theorem zo_copy {v d : zV} {s : Nat → Int32} (h : zR d s) : ∃ u, f_X2_copyFrom v d = some u ∧ zR u s := by
  obtain ⟨u, e, ag⟩ := zp_copy v d (zR_on h)
  exact ⟨u, e, zR_ag h ag⟩
/-! the model's rows -/
theorem me_begins (w : zV) (j : zJ) : ∃ w', f_X10_begins w j = some w' ∧ (∀ a, a ≠ 2 → w' a = w a) ∧ ∀ k, k < 213 → w' 2 k = w 1 k := by
  obtain ⟨m, b, e, p1, p2⟩ := zp_loopP (fun n (b : zV) i => f_X10_begins_b2 j n b (nI i)) 213 (fun i b => (∀ a, a ≠ 2 → b a = w a) ∧ ∀ k, k < i → b 2 k = w 1 k)
    (fun n i b hi hp => by
      obtain ⟨p1, p2⟩ := hp
      refine ⟨zu b 2 (upd (b 2) i (b 1 i)), ?_, fun a ha => (zu_ne ha).trans (p1 a ha), fun k hk => ?_⟩
      · show f_X10_begins_b2 j (n + 1) b (nI i) = _
        rw [f_X10_begins_b2, if_neg (show ¬ (213 : Int32) ≤ nI i from nI_ge (b := 213) hi (by omega)), zp_zA hi (by omega), zp_zl, nI_clamp (by omega), ← nI_succ]
      · show upd (b 2) i (b 1 i) k = w 1 k
        by_cases d : k = i
        · subst d; rw [pk_us, p1 1 (by omega)]
        · rw [pk_un d]; exact p2 k (by omega)) 213 0 1000 w (by omega) (by omega) ⟨fun _ _ => rfl, fun k hk => by omega⟩
  refine ⟨b, ?_, p1, p2⟩
  have e' : f_X10_begins w j = f_X10_begins_b2 j (m + 1) b (nI 213) := e
  rw [e', f_X10_begins_b2, if_pos (by decide)]
theorem me_returns (w : zV) (j : zJ) : ∃ w', f_X10_returns w j = some w' ∧ (∀ a, a ≠ 1 → w' a = w a) ∧ ∀ k, k < 213 → w' 1 k = w 2 k := by
  obtain ⟨m, b, e, p1, p2⟩ := zp_loopP (fun n (b : zV) i => f_X10_returns_b2 j n b (nI i)) 213 (fun i b => (∀ a, a ≠ 1 → b a = w a) ∧ ∀ k, k < i → b 1 k = w 2 k)
    (fun n i b hi hp => by
      obtain ⟨p1, p2⟩ := hp
      refine ⟨zu b 1 (upd (b 1) i (b 2 i)), ?_, fun a ha => (zu_ne ha).trans (p1 a ha), fun k hk => ?_⟩
      · show f_X10_returns_b2 j (n + 1) b (nI i) = _
        rw [f_X10_returns_b2, if_neg (show ¬ (213 : Int32) ≤ nI i from nI_ge (b := 213) hi (by omega)), zp_zA hi (by omega), zp_zl, nI_clamp (by omega), ← nI_succ]
      · show upd (b 1) i (b 2 i) k = w 2 k
        by_cases d : k = i
        · subst d; rw [pk_us, p1 2 (by omega)]
        · rw [pk_un d]; exact p2 k (by omega)) 213 0 1000 w (by omega) (by omega) ⟨fun _ _ => rfl, fun k hk => by omega⟩
  refine ⟨b, ?_, p1, p2⟩
  have e' : f_X10_returns w j = f_X10_returns_b2 j (m + 1) b (nI 213) := e
  rw [e', f_X10_returns_b2, if_pos (by decide)]
theorem zp_213 (n k : Nat) : ((213 : Int32) * nI n) + nI k = nI (213 * n + k) := by
  rw [show (213 : Int32) = nI 213 from rfl, pk_mul, nI_add]
/-- one state more is kept -/
theorem me_acted_k {w : zV} (j : zJ) (r : Int32) {n : Nat} (hn : n < 4) (h0 : w 0 0 = nI n) : ∃ w', f_X10_acted_b57 j 1000 w r 0 = some (r, w') ∧ w' 0 = zu (w 0) 0 (nI (n + 1)) ∧ (∀ a, a ≠ 0 → a ≠ 3 → w' a = w a) ∧ (∀ k, k < 213 → w' 3 (213 * n + k) = w 2 k) ∧ ∀ k, k < 213 * n → w' 3 k = w 3 k := by
  obtain ⟨m, b, e, p1, p2, p3⟩ := zp_loopP (fun n (b : zV) i => f_X10_acted_b57 j n b r (nI i)) 213 (fun i b => (∀ a, a ≠ 3 → b a = w a) ∧ (∀ k, k < i → b 3 (213 * n + k) = w 2 k) ∧ ∀ k, k < 213 * n → b 3 k = w 3 k)
    (fun n' i b hi hp => by
      obtain ⟨p1, p2, p3⟩ := hp
      have b0 : b 0 0 = nI n := by rw [p1 0 (by omega)]; exact h0
      refine ⟨zu b 3 (upd (b 3) (213 * n + i) (b 2 i)), ?_, fun a ha => (zu_ne ha).trans (p1 a ha), fun k hk => ?_, fun k hk => ?_⟩
      · show f_X10_acted_b57 j (n' + 1) b r (nI i) = _
        rw [f_X10_acted_b57, if_neg (show ¬ (213 : Int32) ≤ nI i from nI_ge (b := 213) hi (by omega)), zp_zA hi (by omega), b0, zp_213, zp_zA (by omega) (by omega), zp_zl, nI_clamp (by omega), nI_clamp (by omega), ← nI_succ]
      · show upd (b 3) (213 * n + i) (b 2 i) (213 * n + k) = w 2 k
        by_cases d : k = i
        · subst d; rw [pk_us, p1 2 (by omega)]
        · rw [pk_un (by omega)]; exact p2 k (by omega)
      · show upd (b 3) (213 * n + i) (b 2 i) k = w 3 k
        rw [pk_un (by omega)]; exact p3 k hk) 213 0 1000 w (by omega) (by omega) ⟨fun _ _ => rfl, fun k hk => by omega, fun _ _ => rfl⟩
  have b0 : b 0 = w 0 := p1 0 (by omega)
  refine ⟨zu b 0 (zu (b 0) 0 ((b 0 0) + 1)), ?_, ?_, fun a h1 h2 => (zu_ne h1).trans (p1 a h2), p2, p3⟩
  · have e' : f_X10_acted_b57 j 1000 w r 0 = f_X10_acted_b57 j (m + 1) b r (nI 213) := e
    rw [e', f_X10_acted_b57, if_pos (by decide)]
  · show zu (b 0) 0 (b 0 0 + 1) = _
    rw [b0, h0, nI_1]
theorem me_shift {w : zV} (j : zJ) (r : Int32) (h0 : w 0 0 = nI 4) : ∃ w', f_X10_acted_b16 j 1000 w r 0 = f_X10_acted_b57 j 1000 w' r 0 ∧ w' 0 = zu (w 0) 0 (nI 3) ∧ (∀ a, a ≠ 0 → a ≠ 3 → w' a = w a) ∧ ∀ k, k < 639 → w' 3 k = w 3 (k + 213) := by
  obtain ⟨m, b, e, p1, p2, p3⟩ := zp_loopP (fun n (b : zV) i => f_X10_acted_b16 j n b r (nI i)) 639 (fun i b => (∀ a, a ≠ 3 → b a = w a) ∧ (∀ k, k < i → b 3 k = w 3 (k + 213)) ∧ ∀ k, i ≤ k → b 3 k = w 3 k)
    (fun n' i b hi hp => by
      obtain ⟨p1, p2, p3⟩ := hp
      refine ⟨zu b 3 (upd (b 3) i (b 3 (i + 213))), ?_, fun a ha => (zu_ne ha).trans (p1 a ha), fun k hk => ?_, fun k hk => ?_⟩
      · show f_X10_acted_b16 j (n' + 1) b r (nI i) = _
        rw [f_X10_acted_b16, if_neg (show ¬ (639 : Int32) ≤ nI i from nI_ge (b := 639) hi (by omega)), show nI i + 213 = nI (i + 213) from nI_add i 213, zp_zA (by omega) (by omega), zp_zA (show i < 852 by omega) (by omega), zp_zl, nI_clamp (by omega), nI_clamp (by omega), ← nI_succ]
      · show upd (b 3) i (b 3 (i + 213)) k = _
        by_cases d : k = i
        · subst d; rw [pk_us]; exact p3 _ (by omega)
        · rw [pk_un d]; exact p2 k (by omega)
      · show upd (b 3) i (b 3 (i + 213)) k = _
        rw [pk_un (by omega)]; exact p3 k (by omega)) 639 0 1000 w (by omega) (by omega) ⟨fun _ _ => rfl, fun k hk => by omega, fun _ _ => rfl⟩
  have b0 : b 0 = w 0 := p1 0 (by omega)
  refine ⟨zu b 0 (zu (b 0) 0 ((b 0 0) - 1)), ?_, ?_, fun a h1 h2 => (zu_ne h1).trans (p1 a h2), p2⟩
  · have e' : f_X10_acted_b16 j 1000 w r 0 = f_X10_acted_b16 j (m + 1) b r (nI 639) := e
    rw [e', f_X10_acted_b16, if_pos (by decide)]
  · show zu (b 0) 0 (b 0 0 - 1) = _
    rw [b0, h0]
    rfl
/-- what was before, on both sides -/
def zHr (bh : zH) (w : zV) : Prop := ∃ n : Nat, n ≤ 4 ∧ bh.1 = nI n ∧ w 0 0 = nI n ∧ ∀ i, i < n → zR (bh.2.1 i) (fun k => w 3 (213 * i + k))
theorem zrot0 {α : Type} {f : Nat → α} {i : Nat} (h : i < 3) : zrot f i = f (i + 1) := by
  rcases (show i = 0 ∨ i = 1 ∨ i = 2 by omega) with rfl | rfl | rfl <;> rfl
/-- a change is kept, on both sides -/
theorem zo_keep {bh : zH} {v w : zV} (j : zJ) {r : Int32} (hr : 0 ≤ r) (hH : zHr bh w) (h : zR v (w 2)) : ∃ bh' w', f_X5_keep bh v = some bh' ∧ f_X10_acted w j r = some (r, w') ∧ zHr bh' w' ∧ (∀ a, a ≠ 0 → a ≠ 3 → w' a = w a) ∧ ∀ k, k ≠ 0 → w' 0 k = w 0 k := by
  obtain ⟨n, hn, e1, e2, hs⟩ := hH
  unfold f_X5_keep f_X10_acted
  rw [if_pos hr, e1, e2]
  by_cases d : n = 4
  · subst d
    rw [if_neg (show ¬ nI 4 < (4 : Int32) by decide), if_pos (show nI 4 = (4 : Int32) by decide)]
    obtain ⟨u, eu, hu⟩ := zo_copy (v := zrot bh.2.1 3) h
    obtain ⟨w1, f1, f2, f3, f4⟩ := me_shift j r e2
    obtain ⟨w2, g1, g2, g3, g4, g5⟩ := me_acted_k j r (w := w1) (n := 3) (by omega) (by rw [f2]; rfl)
    refine ⟨(nI 4, zu (zrot bh.2.1) 3 u, zrot bh.2.2), w2, ?_, f1.trans g1, ⟨4, by omega, rfl, by rw [g2]; rfl, fun i hi => ?_⟩, fun a h1 h2 => (g3 a h1 h2).trans (f3 a h1 h2), fun k hk => by rw [g2, f2, zu_ne hk, zu_ne hk]⟩
    · show f_X5_keep_k (3, zrot bh.2.1, zrot bh.2.2) v = _
      unfold f_X5_keep_k
      show zb (f_X2_copyFrom (zrot bh.2.1 3) v) _ = _
      rw [eu]
      rfl
    · by_cases q : i = 3
      · subst q
        show zR (zu (zrot bh.2.1) 3 u 3) _
        rw [zu_eq]
        exact zR_sag hu (fun k hk => (g4 k hk).trans (by rw [f3 2 (by omega) (by omega)]))
      · show zR (zu (zrot bh.2.1) 3 u i) _
        rw [zu_ne q, zrot0 (by omega)]
        refine zR_sag (hs (i + 1) (by omega)) (fun k hk => ?_)
        show w2 3 (213 * i + k) = w 3 (213 * (i + 1) + k)
        rw [g5 _ (by omega), f4 _ (by omega)]
        exact congrArg (w 3) (by omega)
  · rw [if_pos (show nI n < (4 : Int32) from nI_lt (b := 4) (by omega) (by omega)), if_neg (show ¬ nI n = (4 : Int32) from fun q => d ((nI_eq (b := 4) (by omega) (by omega)).mp q))]
    obtain ⟨u, eu, hu⟩ := zo_copy (v := bh.2.1 n) h
    obtain ⟨w2, g1, g2, g3, g4, g5⟩ := me_acted_k j r (w := w) (n := n) (by omega) e2
    refine ⟨(nI (n + 1), zu bh.2.1 n u, bh.2.2), w2, ?_, g1, ⟨n + 1, by omega, rfl, by rw [g2]; rfl, fun i hi => ?_⟩, g3, fun k hk => by rw [g2, zu_ne hk]⟩
    · unfold f_X5_keep_k
      rw [e1, zp_zA (show n < 4 by omega) (by omega), nI_clamp (by omega), eu, zp_zb, nI_1]
    · by_cases q : i = n
      · subst q
        show zR (zu bh.2.1 i u i) _
        rw [zu_eq]
        exact zR_sag hu (fun k hk => g4 k hk)
      · show zR (zu bh.2.1 n u i) _
        rw [zu_ne q]
        refine zR_sag (hs i (by omega)) (fun k hk => ?_)
        show w2 3 (213 * i + k) = w 3 (213 * i + k)
        exact g5 _ (by have := Nat.mul_le_mul_left 213 (show i + 1 ≤ n by omega); omega)
/-- the text, on both sides -/
def zTx (bt w : zV) : Prop := ∃ l : Nat, l ≤ 80 ∧ bt 0 0 = nI l ∧ w 0 1 = nI l ∧ ∀ k, k < l → ∃ c : Nat, 32 ≤ c ∧ c ≤ 126 ∧ bt 2 k = nI c ∧ w 4 k = nI c
def zSt (bv : zV) (bh : zH) (bt w : zV) : Prop := zR bv (w 1) ∧ zHr bh w ∧ zTx bt w
theorem zHr_fr {bh : zH} {w w' : zV} (h : zHr bh w) (e0 : w' 0 0 = w 0 0) (e3 : w' 3 = w 3) : zHr bh w' := by
  obtain ⟨n, hn, e1, e2, hs⟩ := h
  refine ⟨n, hn, e1, e0.trans e2, fun i hi => ?_⟩
  rw [e3]; exact hs i hi
theorem zTx_fr {bt bt' w w' : zV} (h : zTx bt w) (e0 : w' 0 1 = w 0 1) (e4 : w' 4 = w 4) (f0 : bt' 0 0 = bt 0 0) (f2 : bt' 2 = bt 2) : zTx bt' w' := by
  obtain ⟨l, hl, e1, e2, hs⟩ := h
  refine ⟨l, hl, f0.trans e1, e0.trans e2, fun k hk => ?_⟩
  rw [e4, f2]; exact hs k hk
/-- the end of a change -/
theorem zo_accepted {bv bd be bt br w0 w : zV} {bh : zH} (j : zJ) {r : Int32} (h : zSt bv bh bt w0) (e : ∀ k, k ≠ 1 → k ≠ 2 → w k = w0 k) (h2 : zR bv (w 2)) (hd : ¬ r < 0 → zR bd (w 1)) (hneg : r < 0 → zR bv (w 1)) : ∃ bv' bh' w', f_X9_accepted bv bd bh be bt br r = some (r, bv', bh') ∧ f_X10_acted w j r = some (r, w') ∧ zSt bv' bh' bt w' := by
  obtain ⟨s1, s2, s3⟩ := h
  have hH : zHr bh w := zHr_fr s2 (by rw [e 0 (by omega) (by omega)]) (e 3 (by omega) (by omega))
  have hT : zTx bt w := zTx_fr s3 (by rw [e 0 (by omega) (by omega)]) (e 4 (by omega) (by omega)) rfl rfl
  unfold f_X9_accepted
  by_cases d : r < 0
  · rw [if_pos d]
    refine ⟨bv, bh, w, rfl, ?_, hneg d, hH, hT⟩
    unfold f_X10_acted
    rw [if_neg (fun q => by rw [Int32.lt_iff_toInt_lt] at d; rw [Int32.le_iff_toInt_le] at q; omega)]
  · rw [if_neg d]
    have r0 : 0 ≤ r := by
      obtain ⟨k, hk, rfl⟩ := nI_of d
      exact nI_pos' hk
    obtain ⟨bh', w', k1, k2, k3, k4, k5⟩ := zo_keep j r0 hH h2
    obtain ⟨u, eu, hu⟩ := zo_copy (v := bv) (hd d)
    refine ⟨u, bh', w', ?_, k2, ?_, k3, zTx_fr hT (k5 1 (by omega)) (k4 4 (by omega) (by omega)) rfl rfl⟩
    · rw [k1, zp_zb, eu, zp_zb]
    · rw [k4 1 (by omega) (by omega)]; exact hu
/-- a change: tried on a copy, kept if it is possible -/
theorem zo_change {bv bd be bt br w : zV} {bh : zH} (j : zJ) (h : zSt bv bh bt w) (F : zV → Option (Int32 × zV)) (M : zV → Option (Int32 × zV)) (hs : ∀ v w, zR v (w 1) → zSim v w (F v) (M w)) : ∃ r bv' bd' bh' w', (zb (f_X9_newDraft bv bd bh be bt br) fun y1 => zb (F y1) fun y2 => zb (f_X9_accepted bv y2.2 bh be bt br y2.1) fun y3 => some (y3.1, y3.2.1, y2.2, y3.2.2)) = some (r, bv', bd', bh') ∧ (zb (f_X10_begins w j) fun y1 => zb (M y1) fun y2 => zb (f_X10_acted y2.2 j y2.1) fun y3 => some (y3.1, y3.2)) = some (r, w') ∧ zSt bv' bh' bt w' := by
  have s1 := h.1
  obtain ⟨d, ed, hd⟩ := zo_copy (v := bd) s1
  obtain ⟨w1, e1, b1, b2⟩ := me_begins w j
  have hd1 : zR d (w1 1) := by rw [b1 1 (by omega)]; exact hd
  obtain ⟨r, v', w', x1, x2, x3, x4, x5⟩ := hs d w1 hd1
  have w2 : ∀ k, k < 213 → w' 2 k = w 1 k := fun k hk => by rw [x3 2 (by omega)]; exact b2 k hk
  obtain ⟨bv', bh', w3, a1, a2, a3⟩ := zo_accepted (bd := v') (be := be) (br := br) (w := w') j (r := r) h (fun k h1 h2 => (x3 k h1).trans (b1 k h2)) (zR_sag s1 w2) x5 (fun q => by rw [x4 q, b1 1 (by omega)]; exact s1)
  refine ⟨r, bv', v', bh', w3, ?_, ?_, a3⟩
  · unfold f_X9_newDraft
    rw [ed, zp_zb, zp_zb, x1, zp_zb, a1, zp_zb]
  · rw [e1, zp_zb, x2, zp_zb, a2, zp_zb]
theorem zo_undo {bv bd be bt br w : zV} {bh : zH} (j : zJ) (h : zSt bv bh bt w) : ∃ r bv' bh' w', f_X9_undo bv bd bh be bt br = some (r, bv', bh') ∧ f_X10_undo w j = some (r, w') ∧ zSt bv' bh' bt w' := by
  obtain ⟨s1, s2, s3⟩ := h
  have s20 := s2
  obtain ⟨n, hn, e1, e2, hs⟩ := s20
  unfold f_X9_undo f_X10_undo
  rw [e1, e2]
  cases n with
  | zero =>
    rw [if_pos (show nI 0 = 0 by decide), if_pos (show nI 0 = 0 by decide)]
    exact ⟨-2, bv, bh, w, rfl, rfl, s1, s2, s3⟩
  | succ n =>
    rw [if_neg (nI_ne0 (by omega) (by omega)), if_neg (nI_ne0 (by omega) (by omega)), nI_pred]
    obtain ⟨m, b, e, p1, p2⟩ := zp_loopP (fun k (b : zV) i => f_X10_undo_b22 j k b (nI i)) 213 (fun i b => (∀ a, a ≠ 1 → b a = zu w 0 (zu (w 0) 0 (nI n)) a) ∧ ∀ k, k < i → b 1 k = w 3 (213 * n + k))
      (fun k i b hi hp => by
        obtain ⟨p1, p2⟩ := hp
        have b0 : b 0 0 = nI n := by rw [p1 0 (by omega)]; rfl
        have b3 : b 3 = w 3 := (p1 3 (by omega)).trans rfl
        refine ⟨zu b 1 (upd (b 1) i (w 3 (213 * n + i))), ?_, fun a ha => (zu_ne ha).trans (p1 a ha), fun k hk => ?_⟩
        · show f_X10_undo_b22 j (k + 1) b (nI i) = _
          rw [f_X10_undo_b22, if_neg (show ¬ (213 : Int32) ≤ nI i from nI_ge (b := 213) hi (by omega)), b0, zp_213, zp_zA (by omega) (by omega), zp_zA hi (by omega), zp_zl, nI_clamp (by omega), nI_clamp (by omega), b3, ← nI_succ]
        · show upd (b 1) i _ k = _
          by_cases d : k = i
          · subst d; rw [pk_us]
          · rw [pk_un d]; exact p2 k (by omega)) 213 0 1000 (zu w 0 (zu (w 0) 0 (nI n))) (by omega) (by omega) ⟨fun _ _ => rfl, fun k hk => by omega⟩
    have e' : f_X10_undo_b22 j 1000 (zu w 0 (zu (w 0) 0 (nI n))) 0 = f_X10_undo_b22 j (m + 1) b (nI 213) := e
    have b0 : b 0 = zu (w 0) 0 (nI n) := (p1 0 (by omega)).trans rfl
    obtain ⟨u, eu, hu⟩ := zo_copy (v := bv) (hs n (by omega))
    refine ⟨nI n, u, (nI n, bh.2), b, ?_, ?_, ?_, ⟨n, by omega, rfl, by rw [b0]; rfl, fun i hi => ?_⟩, ?_⟩
    · unfold f_X5_restore
      rw [e1, if_neg (zp_le0 (by omega) (by omega)), nI_pred, zp_zA (show n < 4 by omega) (by omega), nI_clamp (by omega), eu, zp_zb, zp_zb]
    · rw [e', f_X10_undo_b22, if_pos (by decide), b0]
      rfl
    · exact zR_sag hu p2
    · rw [p1 3 (by omega)]
      exact hs i (by omega)
    · exact zTx_fr s3 (by rw [b0]; rfl) ((p1 4 (by omega)).trans rfl) rfl rfl
theorem zp_char0 : ∀ c : Fin 127, vp_nar .char ((Int32.toUInt32 (nI c.1) % 65536).toInt32) = nI c.1 := by decide +kernel
theorem zo_type {bv bd be bt br w : zV} {bh : zH} (j : zJ) (h : zSt bv bh bt w) (x : Int32) : ∃ r bt' w', f_X9_type bv bd bh be bt br x = some (r, bt') ∧ f_X10_type w j x = some (r, w') ∧ zSt bv bh bt' w' := by
  have h0 := h
  obtain ⟨s1, s2, l, hl, e1, e2, hs⟩ := h
  unfold f_X9_type f_X8_append f_X10_type
  rw [zp_within, zp_in, zp_zb, zp_zb]
  by_cases g : zw x 32 126 = 0
  · rw [if_pos g, if_pos g, zp_zb]
    exact ⟨-1, bt, w, rfl, rfl, h0⟩
  · obtain ⟨c, hc1, hc2, rfl⟩ := zw_inv (a := 32) (b := 126) g
    rw [if_neg g, if_neg g, e1, e2]
    by_cases d : l = 80
    · subst d
      rw [if_neg (show ¬ nI 80 < (80 : Int32) by decide), if_pos (show nI 80 = (80 : Int32) by decide), zp_zb]
      exact ⟨-3, bt, w, rfl, rfl, h0⟩
    · rw [if_pos (show nI l < (80 : Int32) from nI_lt (b := 80) (by omega) (by omega)), if_neg (show ¬ nI l = (80 : Int32) from fun q => d ((nI_eq (b := 80) (by omega) (by omega)).mp q)), zp_zA (show l < 80 by omega) (by omega), zp_zA (show l < 80 by omega) (by omega), zp_zl, zp_zb, nI_clamp (by omega), nI_1, zp_char0 ⟨c, by omega⟩]
      refine ⟨nI (l + 1), _, _, rfl, rfl, s1, zHr_fr s2 rfl rfl, l + 1, by omega, rfl, rfl, fun k hk => ?_⟩
      show ∃ c', 32 ≤ c' ∧ c' ≤ 126 ∧ upd (bt 2) l (nI c) k = nI c' ∧ upd (w 4) l (nI c) k = nI c'
      by_cases q : k = l
      · subst q
        exact ⟨c, hc1, hc2, pk_us, pk_us⟩
      · rw [pk_un q, pk_un q]; exact hs k (by omega)
theorem zo_clearText {bv bd be bt br w : zV} {bh : zH} (j : zJ) (h : zSt bv bh bt w) : ∃ r bt' w', f_X9_clearText bv bd bh be bt br = some (r, bt') ∧ f_X10_clearText w j = some (r, w') ∧ zSt bv bh bt' w' := by
  obtain ⟨s1, s2, l, hl, e1, e2, hs⟩ := h
  refine ⟨nI l, _, _, congrArg (fun r => some (r, _)) e1, congrArg (fun r => some (r, _)) e2, s1, zHr_fr s2 rfl rfl, 0, by omega, rfl, rfl, fun k hk => by omega⟩
