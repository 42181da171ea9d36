/-! ===== pure: the model's words and commands ===== -/
def cd (T : Nat → Nat) (p : Nat) : Nat → Nat
  | 0 => 0
  | j + 1 => cd T p j * 256 + T (p + j)
def zW (k : Nat) : Nat := [452908512613, 495807392116, 1650549611, 444300619380, 1952541541, 465557354085, 1885434739].getD k 0
theorem zW_of0 : ∀ k : Fin 7, f_X10_wordOf (nI k.1) = some (lN (zW k.1)) ∧ zW k.1 < 2 ^ 40 := by decide +kernel
theorem zmn_of0 : ∀ k : Fin 7, f_X10_manyOf (nI k.1) = some (nI (zmn k.1)) := by decide +kernel
theorem zmn_neg : f_X10_manyOf (-1) = some (nI 3) := by decide +kernel
theorem cd_lt {T : Nat → Nat} {p : Nat} : ∀ (m : Nat), (∀ i, i < m → T (p + i) < 256) → cd T p m < 256 ^ m := by
  intro m
  induction m with
  | zero => intro _; exact Nat.one_pos
  | succ m ih =>
    intro h
    have h1 := ih (fun i hi => h i (by omega))
    have h2 := h m (by omega)
    show cd T p m * 256 + T (p + m) < 256 ^ (m + 1)
    rw [Nat.pow_succ]
    omega
def zlet (t : Nat) : Prop := 97 ≤ t ∧ t ≤ 122
theorem cd_lt5 {T : Nat → Nat} {p m : Nat} (hm : m ≤ 5) (h : ∀ i, i < m → zlet (T (p + i))) : cd T p m < 2 ^ 40 := by
  refine Nat.lt_of_lt_of_le (cd_lt m (fun i hi => by have := (h i hi).2; omega)) ?_
  calc 256 ^ m ≤ 256 ^ 5 := Nat.pow_le_pow_right (by decide) hm
    _ = 2 ^ 40 := by decide
theorem cd_5 (T : Nat → Nat) (p : Nat) : cd T p 5 = (((T p * 256 + T (p + 1)) * 256 + T (p + 2)) * 256 + T (p + 3)) * 256 + T (p + 4) := by
  show ((((0 * 256 + T (p + 0)) * 256 + T (p + 1)) * 256 + T (p + 2)) * 256 + T (p + 3)) * 256 + T (p + 4) = _
  rw [Nat.zero_mul, Nat.zero_add, Nat.add_zero]
theorem cd_4 (T : Nat → Nat) (p : Nat) : cd T p 4 = ((T p * 256 + T (p + 1)) * 256 + T (p + 2)) * 256 + T (p + 3) := by
  show (((0 * 256 + T (p + 0)) * 256 + T (p + 1)) * 256 + T (p + 2)) * 256 + T (p + 3) = _
  rw [Nat.zero_mul, Nat.zero_add, Nat.add_zero]
theorem cd_3 (T : Nat → Nat) (p : Nat) : cd T p 3 = (T p * 256 + T (p + 1)) * 256 + T (p + 2) := by
  show ((0 * 256 + T (p + 0)) * 256 + T (p + 1)) * 256 + T (p + 2) = _
  rw [Nat.zero_mul, Nat.zero_add, Nat.add_zero]
theorem cd_2 (T : Nat → Nat) (p : Nat) : cd T p 2 = T p * 256 + T (p + 1) := by
  show (0 * 256 + T (p + 0)) * 256 + T (p + 1) = _
  rw [Nat.zero_mul, Nat.zero_add, Nat.add_zero]
/-- a word's number names it -/
theorem cd_word {T : Nat → Nat} {p m k : Nat} (hm : m ≤ 5) (hk : k < 7) (h : ∀ i, i < m → zlet (T (p + i))) (e : cd T p m = zW k) : m = zlen k ∧ ∀ j, j < m → T (p + j) = zB k j := by
  rcases (show m = 0 ∨ m = 1 ∨ m = 2 ∨ m = 3 ∨ m = 4 ∨ m = 5 by omega) with rfl | rfl | rfl | rfl | rfl | rfl
  · have e0 : (0 : Nat) = zW k := e
    rcases (show k = 0 ∨ k = 1 ∨ k = 2 ∨ k = 3 ∨ k = 4 ∨ k = 5 ∨ k = 6 by omega) with rfl | rfl | rfl | rfl | rfl | rfl | rfl <;> exact absurd e0 (by decide)
  · have l0 := h 0 (by omega)
    have e0 : 0 * 256 + T (p + 0) = zW k := e
    unfold zlet at l0
    have hW : 1000 < zW k := by
      rcases (show k = 0 ∨ k = 1 ∨ k = 2 ∨ k = 3 ∨ k = 4 ∨ k = 5 ∨ k = 6 by omega) with rfl | rfl | rfl | rfl | rfl | rfl | rfl <;> decide
    omega
  · have l0 := h 0 (by omega)
    have l1 := h 1 (by omega)
    rw [cd_2] at e
    unfold zlet at l0 l1
    rw [Nat.add_zero] at l0
    have hW : 1000000 < zW k := by
      rcases (show k = 0 ∨ k = 1 ∨ k = 2 ∨ k = 3 ∨ k = 4 ∨ k = 5 ∨ k = 6 by omega) with rfl | rfl | rfl | rfl | rfl | rfl | rfl <;> decide
    omega
  · have l0 := h 0 (by omega)
    have l1 := h 1 (by omega)
    have l2 := h 2 (by omega)
    rw [cd_3] at e
    unfold zlet at l0 l1 l2
    rw [Nat.add_zero] at l0
    have hW : 100000000 < zW k := by
      rcases (show k = 0 ∨ k = 1 ∨ k = 2 ∨ k = 3 ∨ k = 4 ∨ k = 5 ∨ k = 6 by omega) with rfl | rfl | rfl | rfl | rfl | rfl | rfl <;> decide
    omega
  · have l0 := h 0 (by omega)
    have l1 := h 1 (by omega)
    have l2 := h 2 (by omega)
    have l3 := h 3 (by omega)
    rw [cd_4] at e
    unfold zlet at l0 l1 l2 l3
    rw [Nat.add_zero] at l0
    have big : ∀ W, zW k = W → 400000000000 < W → False := fun W h1 h2 => by omega
    rcases (show k = 0 ∨ k = 1 ∨ k = 2 ∨ k = 3 ∨ k = 4 ∨ k = 5 ∨ k = 6 by omega) with rfl | rfl | rfl | rfl | rfl | rfl | rfl
    · exact absurd (big _ rfl (by decide)) id
    · exact absurd (big _ rfl (by decide)) id
    · have e2 : zW 2 = 1650549611 := rfl
      refine ⟨rfl, fun j hj => ?_⟩
      rcases (show j = 0 ∨ j = 1 ∨ j = 2 ∨ j = 3 by omega) with rfl | rfl | rfl | rfl
      · show T (p + 0) = 98; rw [Nat.add_zero]; omega
      · show T (p + 1) = 97; omega
      · show T (p + 2) = 99; omega
      · show T (p + 3) = 107; omega
    · exact absurd (big _ rfl (by decide)) id
    · have e2 : zW 4 = 1952541541 := rfl
      refine ⟨rfl, fun j hj => ?_⟩
      rcases (show j = 0 ∨ j = 1 ∨ j = 2 ∨ j = 3 by omega) with rfl | rfl | rfl | rfl
      · show T (p + 0) = 116; rw [Nat.add_zero]; omega
      · show T (p + 1) = 97; omega
      · show T (p + 2) = 107; omega
      · show T (p + 3) = 101; omega
    · exact absurd (big _ rfl (by decide)) id
    · have e2 : zW 6 = 1885434739 := rfl
      refine ⟨rfl, fun j hj => ?_⟩
      rcases (show j = 0 ∨ j = 1 ∨ j = 2 ∨ j = 3 by omega) with rfl | rfl | rfl | rfl
      · show T (p + 0) = 112; rw [Nat.add_zero]; omega
      · show T (p + 1) = 97; omega
      · show T (p + 2) = 115; omega
      · show T (p + 3) = 115; omega
  · have l0 := h 0 (by omega)
    have l1 := h 1 (by omega)
    have l2 := h 2 (by omega)
    have l3 := h 3 (by omega)
    have l4 := h 4 (by omega)
    rw [cd_5] at e
    unfold zlet at l0 l1 l2 l3 l4
    rw [Nat.add_zero] at l0
    have small : ∀ W, zW k = W → W < 400000000000 → False := fun W h1 h2 => by omega
    rcases (show k = 0 ∨ k = 1 ∨ k = 2 ∨ k = 3 ∨ k = 4 ∨ k = 5 ∨ k = 6 by omega) with rfl | rfl | rfl | rfl | rfl | rfl | rfl
    · have e2 : zW 0 = 452908512613 := rfl
      refine ⟨rfl, fun j hj => ?_⟩
      rcases (show j = 0 ∨ j = 1 ∨ j = 2 ∨ j = 3 ∨ j = 4 by omega) with rfl | rfl | rfl | rfl | rfl
      · show T (p + 0) = 105; rw [Nat.add_zero]; omega
      · show T (p + 1) = 115; omega
      · show T (p + 2) = 115; omega
      · show T (p + 3) = 117; omega
      · show T (p + 4) = 101; omega
    · have e2 : zW 1 = 495807392116 := rfl
      refine ⟨rfl, fun j hj => ?_⟩
      rcases (show j = 0 ∨ j = 1 ∨ j = 2 ∨ j = 3 ∨ j = 4 by omega) with rfl | rfl | rfl | rfl | rfl
      · show T (p + 0) = 115; rw [Nat.add_zero]; omega
      · show T (p + 1) = 112; omega
      · show T (p + 2) = 108; omega
      · show T (p + 3) = 105; omega
      · show T (p + 4) = 116; omega
    · exact absurd (small _ rfl (by decide)) id
    · have e2 : zW 3 = 444300619380 := rfl
      refine ⟨rfl, fun j hj => ?_⟩
      rcases (show j = 0 ∨ j = 1 ∨ j = 2 ∨ j = 3 ∨ j = 4 by omega) with rfl | rfl | rfl | rfl | rfl
      · show T (p + 0) = 103; rw [Nat.add_zero]; omega
      · show T (p + 1) = 114; omega
      · show T (p + 2) = 97; omega
      · show T (p + 3) = 110; omega
      · show T (p + 4) = 116; omega
    · exact absurd (small _ rfl (by decide)) id
    · have e2 : zW 5 = 465557354085 := rfl
      refine ⟨rfl, fun j hj => ?_⟩
      rcases (show j = 0 ∨ j = 1 ∨ j = 2 ∨ j = 3 ∨ j = 4 by omega) with rfl | rfl | rfl | rfl | rfl
      · show T (p + 0) = 108; rw [Nat.add_zero]; omega
      · show T (p + 1) = 101; omega
      · show T (p + 2) = 97; omega
      · show T (p + 3) = 118; omega
      · show T (p + 4) = 101; omega
    · exact absurd (small _ rfl (by decide)) id
theorem zB_let0 : ∀ i : Fin 7, ∀ j : Fin 5, j.1 < zlen i.1 → 97 ≤ zB i.1 j.1 ∧ zB i.1 j.1 ≤ 122 := by decide +kernel
theorem cd_is {T : Nat → Nat} {l p k : Nat} (hk : k < 7) (h : zst T l p k) : cd T p (zlen k) = zW k := by
  have hT : ∀ j, j < zlen k → T (p + j) = zB k j := fun j hj => (h j hj).2
  rcases (show k = 0 ∨ k = 1 ∨ k = 2 ∨ k = 3 ∨ k = 4 ∨ k = 5 ∨ k = 6 by omega) with rfl | rfl | rfl | rfl | rfl | rfl | rfl
  · have a0 := hT 0 (by decide)
    rw [Nat.add_zero] at a0
    rw [show zlen 0 = 5 from rfl, cd_5, a0, hT 1 (by decide), hT 2 (by decide), hT 3 (by decide), hT 4 (by decide)]; rfl
  · have a0 := hT 0 (by decide)
    rw [Nat.add_zero] at a0
    rw [show zlen 1 = 5 from rfl, cd_5, a0, hT 1 (by decide), hT 2 (by decide), hT 3 (by decide), hT 4 (by decide)]; rfl
  · have a0 := hT 0 (by decide)
    rw [Nat.add_zero] at a0
    rw [show zlen 2 = 4 from rfl, cd_4, a0, hT 1 (by decide), hT 2 (by decide), hT 3 (by decide)]; rfl
  · have a0 := hT 0 (by decide)
    rw [Nat.add_zero] at a0
    rw [show zlen 3 = 5 from rfl, cd_5, a0, hT 1 (by decide), hT 2 (by decide), hT 3 (by decide), hT 4 (by decide)]; rfl
  · have a0 := hT 0 (by decide)
    rw [Nat.add_zero] at a0
    rw [show zlen 4 = 4 from rfl, cd_4, a0, hT 1 (by decide), hT 2 (by decide), hT 3 (by decide)]; rfl
  · have a0 := hT 0 (by decide)
    rw [Nat.add_zero] at a0
    rw [show zlen 5 = 5 from rfl, cd_5, a0, hT 1 (by decide), hT 2 (by decide), hT 3 (by decide), hT 4 (by decide)]; rfl
  · have a0 := hT 0 (by decide)
    rw [Nat.add_zero] at a0
    rw [show zlen 6 = 4 from rfl, cd_4, a0, hT 1 (by decide), hT 2 (by decide), hT 3 (by decide)]; rfl
/-- the letters that stand there, five at most -/
theorem mt_letters {T : Nat → Nat} {l p : Nat} (j : zJ) (hp : p < 2 ^ 28) : ∀ (k x n : Nat) (w : zV), x + k = 5 → k < n → zMt T l w → w 0 2 = nI (p + x) → (∀ i, i < x → p + i < l ∧ zlet (T (p + i))) → ∃ m w', x ≤ m ∧ m ≤ 5 ∧ f_X10_readWord_b4 j n w (lN (cd T p x)) (nI x) = f_X10_readWord_b53 j 1000 w' (lN (cd T p m)) 0 ∧ (∀ i, i < m → p + i < l ∧ zlet (T (p + i))) ∧ (m = 5 ∨ ¬ (p + m < l ∧ zlet (T (p + m)))) ∧ zSk w w' ∧ w' 0 2 = nI (p + m) := by
  intro k
  induction k with
  | zero =>
    intro x n w e hn h e2 hx
    obtain ⟨n, rfl⟩ : ∃ m, n = m + 1 := ⟨n - 1, by omega⟩
    obtain rfl : x = 5 := by omega
    refine ⟨5, w, Nat.le_refl _, Nat.le_refl _, ?_, hx, Or.inl rfl, zSk_rfl w, e2⟩
    rw [f_X10_readWord_b4, if_pos (show (5 : Int32) ≤ nI 5 by decide)]
  | succ k ih =>
    intro x n w e hn h e2 hx
    obtain ⟨n, rfl⟩ : ∃ m, n = m + 1 := ⟨n - 1, by omega⟩
    rw [f_X10_readWord_b4, if_neg (show ¬ (5 : Int32) ≤ nI x from nI_ge (b := 5) (by omega) (by omega)), mt_here j h (by omega) e2, zp_zb, zp_in, zp_zb]
    by_cases d : p + x < l
    · obtain ⟨t1, t2, t3⟩ := h.2.2 (p + x) d
      rw [if_pos d, zw_let (by omega)]
      by_cases d2 : 97 ≤ T (p + x) ∧ T (p + x) ≤ 122
      · have hc := cd_lt5 (T := T) (p := p) (m := x) (by omega) (fun i hi => (hx i hi).2)
        obtain ⟨m, w', m1, m2, m3, m4, m5, m6, m7⟩ := ih (x + 1) n (zu w 0 (zu (w 0) 2 (nI (p + (x + 1))))) (by omega) (by omega) (zMt_sk h ⟨rfl, rfl, rfl, rfl, rfl, rfl⟩) rfl (fun i hi => by
          by_cases q : i = x
          · subst q; exact ⟨d, d2⟩
          · exact hx i (by omega))
        refine ⟨m, w', by omega, m2, ?_, m4, m5, zSk_tr ⟨rfl, rfl, rfl, rfl, rfl, rfl⟩ m6, m7⟩
        rw [if_pos d2, if_neg (show ¬ (1 : Int32) = 0 by decide), zp_zb, zt_shift hc (by omega), e2, nI_1, nI_1]
        exact m3
      · rw [if_neg d2, if_pos rfl]
        exact ⟨x, w, Nat.le_refl _, by omega, rfl, hx, Or.inr (fun q => d2 q.2), zSk_rfl w, e2⟩
    · rw [if_neg d, if_pos (show zw (-1) 97 122 = 0 by decide)]
      exact ⟨x, w, Nat.le_refl _, by omega, rfl, hx, Or.inr (fun q => d q.1), zSk_rfl w, e2⟩
theorem mt_which (j : zJ) (w : zV) {c : Nat} (hc : c < 2 ^ 40) : ∀ (k i n : Nat), i + k = 7 → k < n → f_X10_readWord_b53 j n w (lN c) (nI i) = some (zo2 (zfirst (fun k => decide (zW k = c)) i k), w) := by
  intro k
  induction k with
  | zero =>
    intro i n e hn
    obtain ⟨n, rfl⟩ : ∃ m, n = m + 1 := ⟨n - 1, by omega⟩
    rw [f_X10_readWord_b53, if_pos (show (7 : Int32) ≤ nI i from nI_le (a := 7) (by omega) (by omega))]
    rfl
  | succ k ih =>
    intro i n e hn
    obtain ⟨n, rfl⟩ : ∃ m, n = m + 1 := ⟨n - 1, by omega⟩
    obtain ⟨q1, q2⟩ := zW_of0 ⟨i, by omega⟩
    have q1' : f_X10_wordOf (nI i) = some (lN (zW i)) := q1
    have q2' : zW i < 2 ^ 40 := q2
    rw [f_X10_readWord_b53, if_neg (show ¬ (7 : Int32) ≤ nI i from nI_ge (b := 7) (by omega) (by omega)), q1', zp_zb, nI_1]
    show _ = some (zo2 (if decide (zW i = c) = true then some i else zfirst (fun k => decide (zW k = c)) (i + 1) k), w)
    by_cases d : zW i = c
    · rw [if_pos ((lg_cmp_eq _ _).mpr (by rw [d])), decide_eq_true d, if_pos rfl]
      rfl
    · rw [if_neg (fun q => d ((pk_lEQ (by omega) (by omega)).mp ((lg_cmp_eq _ _).mp q))), decide_eq_false d, if_neg (by decide)]
      exact ih (i + 1) n (by omega) (by omega)
/-- the model reads a command -/
theorem mt_command {T : Nat → Nat} {l : Nat} {w : zV} (j : zJ) (h : zMt T l w) {p : Nat} (hp : p < l) (e : w 0 2 = nI p) : ((∀ i, i < 7 → zst T l p i → rdn T l (zmn i) 0 (p + zlen i) (fun _ => 0) = none) → ∃ w', f_X10_command w j = some (0, w') ∧ w' 0 3 = 0 ∧ zSk w w') ∧ ∀ i b N, i < 7 → zst T l p i → rdn T l (zmn i) 0 (p + zlen i) (fun _ => 0) = some (b, N) → ∃ y3, f_X10_command w j = mdis j (nI i) y3 ∧ y3 0 3 = nI 1 ∧ y3 0 2 = nI b ∧ zSk w y3 ∧ ∀ k, k < zmn i → y3 5 k = nI (N k) := by
  have hl := h.1
  obtain ⟨m, w1, -, m2, m3, m4, m5, m6, m7⟩ := mt_letters (T := T) (l := l) (p := p) j (by omega) 5 0 1000 w rfl (by omega) h e (fun i hi => by omega)
  have hc := cd_lt5 (T := T) (p := p) m2 (fun i hi => (m4 i hi).2)
  have ew : f_X10_readWord w j = some (zo2 (zfirst (fun k => decide (zW k = cd T p m)) 0 7), w1) := by
    have e1 : f_X10_readWord w j = f_X10_readWord_b53 j 1000 w1 (lN (cd T p m)) 0 := m3
    rw [e1]
    exact mt_which j w1 hc 7 0 1000 rfl (by omega)
  -- a word that stands there
  have hword : ∀ i, i < 7 → zst T l p i → zlen i ≤ m := by
    intro i hi hs
    by_cases d : zlen i ≤ m
    · exact d
    · rcases m5 with q | q
      · have q2 : zlen i ≤ 5 := (zlen_0 ⟨i, hi⟩).2
        omega
      · exfalso
        obtain ⟨a1, a2⟩ := hs m (by omega)
        have q3 : zlen i ≤ 5 := (zlen_0 ⟨i, hi⟩).2
        have := zB_let0 ⟨i, hi⟩ ⟨m, by omega⟩ (show m < zlen i by omega)
        have this' : 97 ≤ zB i m ∧ zB i m ≤ 122 := this
        exact q ⟨a1, by rw [a2]; exact this'⟩
  unfold f_X10_command
  rw [ew, zp_zb]
  show ((∀ i, i < 7 → zst T l p i → rdn T l (zmn i) 0 (p + zlen i) (fun _ => 0) = none) → ∃ w', (if zo2 (zfirst (fun k => decide (zW k = cd T p m)) 0 7) < 0 then f_X10_command_b20 j 1000 (zu w1 0 (zu (w1 0) 3 0)) (zo2 (zfirst (fun k => decide (zW k = cd T p m)) 0 7)) 0 else f_X10_command_b20 j 1000 (zu w1 0 (zu (w1 0) 3 1)) (zo2 (zfirst (fun k => decide (zW k = cd T p m)) 0 7)) 0) = some (0, w') ∧ w' 0 3 = 0 ∧ zSk w w') ∧ ∀ i b N, i < 7 → zst T l p i → rdn T l (zmn i) 0 (p + zlen i) (fun _ => 0) = some (b, N) → ∃ y3, (if zo2 (zfirst (fun k => decide (zW k = cd T p m)) 0 7) < 0 then f_X10_command_b20 j 1000 (zu w1 0 (zu (w1 0) 3 0)) (zo2 (zfirst (fun k => decide (zW k = cd T p m)) 0 7)) 0 else f_X10_command_b20 j 1000 (zu w1 0 (zu (w1 0) 3 1)) (zo2 (zfirst (fun k => decide (zW k = cd T p m)) 0 7)) 0) = mdis j (nI i) y3 ∧ y3 0 3 = nI 1 ∧ y3 0 2 = nI b ∧ zSk w y3 ∧ ∀ k, k < zmn i → y3 5 k = nI (N k)
  cases hf : zfirst (fun k => decide (zW k = cd T p m)) 0 7 with
  | none =>
    rw [if_pos (show zo2 none < 0 by decide)]
    constructor
    · intro _
      obtain ⟨w2, f1, f2, f3⟩ := mt_garb j zmn_neg (by omega) 3 0 1000 (p + m) 0 (zu w1 0 (zu (w1 0) 3 0)) rfl (by omega) (by omega) (zMt_sk (zMt_sk h m6) ⟨rfl, rfl, rfl, rfl, rfl, rfl⟩) m7 (by omega) rfl (Or.inl rfl)
      exact ⟨w2, f1, f2, zSk_tr m6 (zSk_tr ⟨rfl, rfl, rfl, rfl, rfl, rfl⟩ f3)⟩
    · intro i b N hi hs hr
      exfalso
      have hm := hword i hi hs
      have hcd := cd_is hi hs
      by_cases q : zlen i = m
      · rw [q] at hcd
        have nf : ∀ (k i : Nat) (p : Nat → Bool), zfirst p i k = none → ∀ f, i ≤ f → f < i + k → p f = false := by
          intro k
          induction k with
          | zero => intro i p _ f h1 h2; omega
          | succ k ih =>
            intro i p h3 f h1 h2
            have h4 : (if p i = true then some i else zfirst p (i + 1) k) = none := h3
            by_cases d : p i = true
            · rw [if_pos d] at h4; cases h4
            · rw [if_neg d] at h4
              by_cases d2 : f = i
              · subst d2; simpa using d
              · exact ih (i + 1) p h4 f (by omega) (by omega)
        have := nf 7 0 _ hf i (by omega) (by omega)
        exact absurd hcd.symm (of_decide_eq_false this)
      · have q4 : p + zlen i < l ∧ zlet (T (p + zlen i)) := m4 (zlen i) (by omega)
        obtain ⟨k, hk⟩ : ∃ k, zmn i = k + 1 := ⟨zmn i - 1, by have : 1 ≤ zmn i := (zmn_0 ⟨i, hi⟩).2.1; omega⟩
        rw [hk, rdn, if_neg (fun r => by have := r.2.1; have := q4.2.1; omega)] at hr
        cases hr
  | some k =>
    obtain ⟨k1, k2, k3⟩ := zfirst_some _ _ _ hf
    have k7 : k < 7 := by omega
    obtain ⟨c1, c2⟩ := cd_word m2 k7 (fun i hi => (m4 i hi).2) (of_decide_eq_true k3).symm
    have hs : zst T l p k := fun j hj => ⟨(m4 j (by omega)).1, c2 j (by omega)⟩
    have z5 : zmn k ≤ 5 := (zmn_0 ⟨k, k7⟩).2.2
    have zl5 : zlen k ≤ 5 := (zlen_0 ⟨k, k7⟩).2
    rw [show zo2 (some k) = nI k from rfl, if_neg (nI_pos (by omega))]
    have hx : f_X10_manyOf (nI k) = some (nI (zmn k)) := zmn_of0 ⟨k, k7⟩
    have hgood := mt_good j hx z5 (zmn k) 0 1000 (p + zlen k) (zu w1 0 (zu (w1 0) 3 1)) (fun _ => 0) (by omega) (by omega) (by omega) (zMt_sk (zMt_sk h m6) ⟨rfl, rfl, rfl, rfl, rfl, rfl⟩) (by rw [← c1]; exact m7) rfl (fun i hi => by omega)
    have hSk : zSk w (zu w1 0 (zu (w1 0) 3 1)) := zSk_tr m6 ⟨rfl, rfl, rfl, rfl, rfl, rfl⟩
    constructor
    · intro hno
      rw [hno k k7 hs] at hgood
      obtain ⟨w2, f1, f2, f3⟩ := hgood
      exact ⟨w2, f1, f2, zSk_tr hSk f3⟩
    · intro i b N hi hs2 hr
      obtain rfl := zst_one hi k7 hs2 hs
      rw [hr] at hgood
      obtain ⟨y3, f1, f2, f3, f4, f5⟩ := hgood
      exact ⟨y3, f1, f2, f3, zSk_tr hSk f4, f5⟩
