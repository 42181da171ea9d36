/-! ===== pure: what is vested ===== -/
theorem zp_tn3 : (3 : Int32).toNatClampNeg = 3 := by decide
theorem zp_sub1 (n : Nat) : nI (n + 1) - 1 = nI n := nI_pred n
/-- months gone by as the class reckons them: until the month in which the holder left, or until now -/
theorem zp_months {tm lf ma : Nat} (ht : tm ≤ 999) (hl : lf ≤ tm + 1) (hm : ma ≤ tm) (hm2 : lf = 0 ∨ ma + 1 ≤ lf) : (if lf = 0 then nI tm else nI lf - 1) - nI ma = nI ((if lf = 0 then tm else lf - 1) - ma) := by
  by_cases h : lf = 0
  · rw [if_pos h, if_pos h, pk_sub hm]
  · rw [if_neg h, if_neg h]
    obtain ⟨k, rfl⟩ : ∃ k, lf = k + 1 := ⟨lf - 1, by omega⟩
    rw [zp_sub1, show k + 1 - 1 = k by omega, pk_sub (by omega)]
theorem zvest_le {tm lf sh cl te ma : Nat} (h : 1 ≤ te) : zvest tm lf sh cl te ma ≤ sh := by
  unfold zvest
  by_cases h1 : (if lf = 0 then tm else lf - 1) - ma < cl
  · simp only [h1, if_true]; omega
  · simp only [h1, if_false]
    by_cases h2 : te ≤ (if lf = 0 then tm else lf - 1) - ma
    · simp only [h2, if_true]; omega
    · simp only [h2, if_false]
      refine Nat.div_le_of_le_mul ?_
      rw [Nat.mul_comm te sh]
      exact Nat.mul_le_mul (Nat.le_refl sh) (by omega)
/-- the reckoning of what is vested, in numbers of the machine -/
theorem zp_vest {M sh cl te : Nat} (hM : M ≤ 999) (h1 : sh ≤ 9999) (h2 : 1 ≤ te) (h3 : te ≤ 60) (h4 : cl ≤ te) :
    (if nI cl ≤ nI M then (if nI te ≤ 0 then some (nI sh) else (if nI M < nI te then zDi (nI te) (some ((nI sh * nI M) / nI te)) else some (nI sh))) else some 0) = some (nI (if M < cl then 0 else if te ≤ M then sh else sh * M / te)) := by
  by_cases a : M < cl
  · rw [if_neg (nI_ge a (by omega)), if_pos a]
    rfl
  · rw [if_pos (nI_le (by omega) (by omega)), if_neg a, if_neg (nI_nle (by omega) (by omega))]
    by_cases b : te ≤ M
    · rw [if_neg (nI_nlt b (by omega)), if_pos b]
    · rw [if_pos (nI_lt (by omega) (by omega)), if_neg b]
      unfold zDi
      rw [if_neg (nI_ne0 (by omega) (by omega)), pk_mul]
      have hm : sh * M ≤ 9999 * 60 := Nat.mul_le_mul h1 (by omega)
      rw [pk_div (by omega) (by omega) (by omega)]
theorem zp_ite_some {α : Type} {c : Prop} {d : Decidable c} {a b : α} : (ite c (some a) (some b)) = some (ite c a b) := by
  by_cases h : c
  · rw [if_pos h, if_pos h]
  · rw [if_neg h, if_neg h]
theorem zp_neg1 {k : Nat} (h : k < 2 ^ 30) : ¬ nI k = -1 := by
  intro q
  have h1 := nI_toInt (n := k) (by omega)
  rw [q] at h1
  have h2 : (-1 : Int32).toInt = -1 := by decide
  omega
/-- the class's vested -/
theorem zp_vested {nh ng tm : Nat} {v : zV} {s : Nat → Int32} (hnh : nh ≤ 8) (hng : ng ≤ 8) (ht : tm ≤ 999) (h7 : v 0 7 = nI tm) (hh : zRh nh tm v s) (hg : zRg nh ng tm v s) {g : Nat} (hlt : g < ng) {h sh st cl te ma ta lf : Nat} (hhn : h < nh) (e0 : s (53 + h) = nI lf) (hl : lf ≤ tm + 1) (h1 : sh ≤ 9999) (h2 : 1 ≤ te) (h3 : te ≤ 60) (h4 : cl ≤ te) (hm : ma ≤ tm) (hm2 : lf = 0 ∨ ma + 1 ≤ lf)
    (e1 : v 10 g = nI h) (e2 : v 11 g = nI sh) (e4 : v 13 g = nI cl) (e5 : v 14 g = nI te) (e6 : v 15 g = nI ma) : f_X2_vested v (nI g) = some (nI (zvest tm lf sh cl te ma)) := by
  obtain ⟨lf', hl', e7, e8⟩ := hh.1 h hhn
  have el : lf' = lf := (nI_eq (by omega) (by omega)).mp (e8.symm.trans e0)
  subst el
  unfold f_X2_vested
  rw [zp_zA (show g < 8 by omega) (by omega), nI_clamp (by omega), e1, zp_zA (show h < 8 by omega) (by omega), nI_clamp (by omega), e2, e4, e5, e6, e7, h7]
  have hmo := zp_months ht hl' hm hm2
  by_cases a : lf' = 0
  · subst a
    rw [if_pos rfl] at hmo
    rw [if_pos (by decide), hmo, zp_vest (by simp only [if_true]; omega) h1 h2 h3 h4]
    rfl
  · rw [if_neg a] at hmo
    obtain ⟨k, rfl⟩ : ∃ k, lf' = k + 1 := ⟨lf' - 1, by omega⟩
    rw [if_neg (by rw [zp_sub1]; exact zp_neg1 (by omega)), hmo, zp_vest (by split <;> omega) h1 h2 h3 h4]
    rfl
/-- a grant and its holder, as both sides have them -/
def zGr (nh tm : Nat) (v : zV) (s : Nat → Int32) (g h sh st cl te ma ta lf : Nat) : Prop :=
  h < nh ∧ 1 ≤ sh ∧ sh ≤ 9999 ∧ st ≤ 99 ∧ 1 ≤ te ∧ te ≤ 60 ∧ cl ≤ te ∧ ma ≤ tm ∧ (lf = 0 ∨ ma + 1 ≤ lf) ∧ ta ≤ zvest tm lf sh cl te ma ∧ s (53 + h) = nI lf ∧ lf ≤ tm + 1 ∧
  v 10 g = nI h ∧ v 11 g = nI sh ∧ v 12 g = nI st ∧ v 13 g = nI cl ∧ v 14 g = nI te ∧ v 15 g = nI ma ∧ v 16 g = nI ta ∧
  s (157 + 7 * g) = nI h ∧ s (158 + 7 * g) = nI sh ∧ s (159 + 7 * g) = nI st ∧ s (160 + 7 * g) = nI cl ∧ s (161 + 7 * g) = nI te ∧ s (162 + 7 * g) = nI ta ∧ s (163 + 7 * g) = nI ma
/-- what can be taken of it -/
def ztake (tm lf sh cl te ma ta : Nat) : Nat := if lf ≠ 0 ∧ 3 < tm - (lf - 1) then 0 else zvest tm lf sh cl te ma - ta
theorem zp_hasLeft (w : zV) (j : zJ) {h lf : Nat} (hh : h < 8) (e : w 1 (53 + h) = nI lf) (hl : lf ≤ 1000) : f_X10_hasLeft w j (nI h) = some (if lf = 0 then 0 else 1) := by
  unfold f_X10_hasLeft
  rw [show (53 : Int32) + nI h = nI (53 + h) by rw [show (53 : Int32) = nI 53 from rfl, nI_add], zp_zA (by omega) (by omega), nI_clamp (by omega), e]
  by_cases a : lf = 0
  · subst a
    rw [if_pos (by decide), if_pos rfl]
  · rw [if_neg (nI_nle (by omega) (by omega)), if_neg a]
theorem zp_grant0 (w : zV) (j : zJ) {c : Nat} (hc : c < 8) : f_X10_ofGrant w j (nI c) 0 = some (w 1 (157 + 7 * c)) := zp_grant w j hc (k := 0) (by omega)
theorem zp_grant1 (w : zV) (j : zJ) {c : Nat} (hc : c < 8) : f_X10_ofGrant w j (nI c) 1 = some (w 1 (158 + 7 * c)) := by
  have h := zp_grant w j hc (k := 1) (by omega)
  rw [show 157 + 7 * c + 1 = 158 + 7 * c by omega] at h
  exact h
theorem zp_grant2 (w : zV) (j : zJ) {c : Nat} (hc : c < 8) : f_X10_ofGrant w j (nI c) 2 = some (w 1 (159 + 7 * c)) := by
  have h := zp_grant w j hc (k := 2) (by omega)
  rw [show 157 + 7 * c + 2 = 159 + 7 * c by omega] at h
  exact h
theorem zp_grant3 (w : zV) (j : zJ) {c : Nat} (hc : c < 8) : f_X10_ofGrant w j (nI c) 3 = some (w 1 (160 + 7 * c)) := by
  have h := zp_grant w j hc (k := 3) (by omega)
  rw [show 157 + 7 * c + 3 = 160 + 7 * c by omega] at h
  exact h
theorem zp_grant4 (w : zV) (j : zJ) {c : Nat} (hc : c < 8) : f_X10_ofGrant w j (nI c) 4 = some (w 1 (161 + 7 * c)) := by
  have h := zp_grant w j hc (k := 4) (by omega)
  rw [show 157 + 7 * c + 4 = 161 + 7 * c by omega] at h
  exact h
theorem zp_grant5 (w : zV) (j : zJ) {c : Nat} (hc : c < 8) : f_X10_ofGrant w j (nI c) 5 = some (w 1 (162 + 7 * c)) := by
  have h := zp_grant w j hc (k := 5) (by omega)
  rw [show 157 + 7 * c + 5 = 162 + 7 * c by omega] at h
  exact h
theorem zp_grant6 (w : zV) (j : zJ) {c : Nat} (hc : c < 8) : f_X10_ofGrant w j (nI c) 6 = some (w 1 (163 + 7 * c)) := by
  have h := zp_grant w j hc (k := 6) (by omega)
  rw [show 157 + 7 * c + 6 = 163 + 7 * c by omega] at h
  exact h
/-- the model's reckoning of what is vested, in numbers of the machine -/
theorem zp_mvest {M sh cl te : Nat} (hM : M ≤ 999) (h1 : sh ≤ 9999) (h2 : 1 ≤ te) (h3 : te ≤ 60) (h4 : cl ≤ te) :
    (if nI cl ≤ nI M then (if nI M < nI te then zDi (nI te) (some ((nI sh * nI M) / nI te)) else some (nI sh)) else some 0) = some (nI (if M < cl then 0 else if te ≤ M then sh else sh * M / te)) := by
  have h := zp_vest hM h1 h2 h3 h4
  rw [if_neg (nI_nle (n := te) (by omega) (by omega))] at h
  exact h
theorem zp_mvested (w : zV) (j : zJ) {nh tm : Nat} {v : zV} (hnh : nh ≤ 8) (ht : tm ≤ 999) (h3 : w 1 3 = nI tm) {g h sh st cl te ma ta lf : Nat} (hg : g < 8) (hr : zGr nh tm v (w 1) g h sh st cl te ma ta lf) : f_X10_vested w j (nI g) = some (nI (zvest tm lf sh cl te ma)) := by
  obtain ⟨hh, -, h1, -, h2, h4, h5, hm, hm2, -, e0, hl, -, -, -, -, -, -, -, e1, e2, -, e4, e5, -, e7⟩ := hr
  unfold f_X10_vested
  have hmo := zp_months ht hl hm hm2
  rw [zp_grant0 w j hg, zp_zb, e1, zp_hasLeft w j (by omega) e0 (by omega), zp_zb]
  by_cases a : lf = 0
  · subst a
    rw [if_pos rfl] at hmo
    rw [if_pos rfl, if_pos rfl, zp_grant6 w j hg, zp_zb, zp_grant1 w j hg, zp_zb, zp_grant3 w j hg, zp_zb, zp_tn3, h3, e7, e2, e4, hmo, zp_grant4 w j hg, zp_zb, zp_zb, e5, zp_mvest (by simp only [if_true]; omega) h1 h2 h4 h5]
    rfl
  · rw [if_neg a] at hmo
    rw [if_neg a, if_neg (by decide), show (53 : Int32) + nI h = nI (53 + h) by rw [show (53 : Int32) = nI 53 from rfl, nI_add], zp_zA (by omega) (by omega), nI_clamp (by omega), e0, zp_grant6 w j hg, zp_zb, zp_grant1 w j hg, zp_zb, zp_grant3 w j hg, zp_zb, e7, e2, e4, hmo, zp_grant4 w j hg, zp_zb, zp_zb, e5, zp_mvest (by split <;> omega) h1 h2 h4 h5]
    rfl
theorem zp_vested2 {nh ng tm : Nat} {v : zV} {s : Nat → Int32} (hnh : nh ≤ 8) (hng : ng ≤ 8) (ht : tm ≤ 999) (h7 : v 0 7 = nI tm) (hh : zRh nh tm v s) {g h sh st cl te ma ta lf : Nat} (hlt : g < 8) (hr : zGr nh tm v s g h sh st cl te ma ta lf) : f_X2_vested v (nI g) = some (nI (zvest tm lf sh cl te ma)) := by
  obtain ⟨hhn, -, h1, -, h2, h3, h4, hm, hm2, -, e0, hl, e1, e2, -, e4, e5, e6, -⟩ := hr
  obtain ⟨lf', hl', e7, e8⟩ := hh.1 h hhn
  have el : lf' = lf := (nI_eq (by omega) (by omega)).mp (e8.symm.trans e0)
  subst el
  unfold f_X2_vested
  rw [zp_zA (show g < 8 by omega) (by omega), nI_clamp (by omega), e1, zp_zA (show h < 8 by omega) (by omega), nI_clamp (by omega), e2, e4, e5, e6, e7, h7]
  have hmo := zp_months ht hl' hm hm2
  by_cases a : lf' = 0
  · subst a
    rw [if_pos rfl] at hmo
    rw [if_pos (by decide), hmo, zp_vest (by simp only [if_true]; omega) h1 h2 h3 h4]
    rfl
  · rw [if_neg a] at hmo
    obtain ⟨k, rfl⟩ : ∃ k, lf' = k + 1 := ⟨lf' - 1, by omega⟩
    rw [if_neg (by rw [zp_sub1]; exact zp_neg1 (by omega)), hmo, zp_vest (by split <;> omega) h1 h2 h3 h4]
    rfl
theorem zp_takeable_b {nh ng tm : Nat} {v : zV} {s : Nat → Int32} (hnh : nh ≤ 8) (hng : ng ≤ 8) (ht : tm ≤ 999) (h7 : v 0 7 = nI tm) (hh : zRh nh tm v s) {g h sh st cl te ma ta lf : Nat} (hlt : g < 8) (hr : zGr nh tm v s g h sh st cl te ma ta lf) : f_X2_takeable_b32 v (nI g) = some (nI (zvest tm lf sh cl te ma - ta)) := by
  have hr2 := hr
  obtain ⟨hhn, -, h1, -, h2, h3, h4, hm, hm2, h5, e0, hl, e1, e2, -, e4, e5, e6, e9, -⟩ := hr2
  unfold f_X2_takeable_b32
  rw [zp_vested2 hnh hng ht h7 hh hlt hr, zp_zb, zp_zA (show g < 8 by omega) (by omega), nI_clamp (by omega), e9, pk_sub h5]
/-- the class's takeable -/
theorem zp_takeable {nh ng tm : Nat} {v : zV} {s : Nat → Int32} (hnh : nh ≤ 8) (hng : ng ≤ 8) (ht : tm ≤ 999) (h7 : v 0 7 = nI tm) (hh : zRh nh tm v s) {g h sh st cl te ma ta lf : Nat} (hlt : g < 8) (hr : zGr nh tm v s g h sh st cl te ma ta lf) : f_X2_takeable v (nI g) = some (nI (ztake tm lf sh cl te ma ta)) := by
  have hr2 := hr
  obtain ⟨hhn, -, h1, -, h2, h3, h4, hm, hm2, h5, e0, hl, e1, -⟩ := hr2
  obtain ⟨lf', hl', e7, e8⟩ := hh.1 h hhn
  have el : lf' = lf := (nI_eq (by omega) (by omega)).mp (e8.symm.trans e0)
  subst el
  unfold f_X2_takeable ztake
  rw [zp_zA (show g < 8 by omega) (by omega), nI_clamp (by omega), e1, zp_zA (show h < 8 by omega) (by omega), nI_clamp (by omega), e7, h7]
  by_cases a : lf' = 0
  · subst a
    rw [if_pos (by decide), zp_takeable_b hnh hng ht h7 hh hlt hr, if_neg (fun q => q.1 rfl)]
  · obtain ⟨k, rfl⟩ : ∃ k, lf' = k + 1 := ⟨lf' - 1, by omega⟩
    rw [zp_sub1, if_neg (zp_neg1 (by omega)), pk_sub (by omega), show k + 1 - 1 = k by omega]
    by_cases b : 3 < tm - k
    · rw [if_neg (show ¬ nI (tm - k) ≤ (3 : Int32) from nI_ge (a := 3) b (by omega)), if_pos ⟨a, b⟩]
      rfl
    · rw [if_pos (show nI (tm - k) ≤ (3 : Int32) from nI_le (b := 3) (by omega) (by omega)), zp_takeable_b hnh hng ht h7 hh hlt hr, if_neg (fun q => b q.2)]
/-- the model's -/
theorem zp_canBeTaken_b (w : zV) (j : zJ) {nh tm : Nat} {v : zV} (hnh : nh ≤ 8) (ht : tm ≤ 999) (h3 : w 1 3 = nI tm) {g h sh st cl te ma ta lf : Nat} (hg : g < 8) (hr : zGr nh tm v (w 1) g h sh st cl te ma ta lf) : f_X10_canBeTaken_b41 w j (nI g) = some (nI (zvest tm lf sh cl te ma - ta)) := by
  have hr2 := hr
  obtain ⟨hh, -, h1, -, h2, h4, h5, hm, hm2, h6, e0, hl, -, -, -, -, -, -, -, e1, e2, -, e4, e5, e8, e7⟩ := hr2
  unfold f_X10_canBeTaken_b41
  rw [if_pos rfl, zp_mvested w j hnh ht h3 hg hr, zp_zb, zp_grant5 w j hg, zp_zb, e8, pk_sub h6]
theorem zp_canBeTaken (w : zV) (j : zJ) {nh tm : Nat} {v : zV} (hnh : nh ≤ 8) (ht : tm ≤ 999) (h3 : w 1 3 = nI tm) {g h sh st cl te ma ta lf : Nat} (hg : g < 8) (hr : zGr nh tm v (w 1) g h sh st cl te ma ta lf) : f_X10_canBeTaken w j (nI g) = some (nI (ztake tm lf sh cl te ma ta)) := by
  have hr2 := hr
  obtain ⟨hh, -, h1, -, h2, h4, h5, hm, hm2, h6, e0, hl, -, -, -, -, -, -, -, e1, e2, -, e4, e5, e8, e7⟩ := hr2
  unfold f_X10_canBeTaken ztake
  rw [zp_grant0 w j hg, zp_zb, e1, zp_hasLeft w j (by omega) e0 (by omega), zp_zb]
  by_cases a : lf = 0
  · rw [if_pos a, if_pos rfl, zp_canBeTaken_b w j hnh ht h3 hg hr, if_neg (fun q => q.1 a)]
  · rw [if_neg a, if_neg (by decide), show (53 : Int32) + nI h = nI (53 + h) by rw [show (53 : Int32) = nI 53 from rfl, nI_add], zp_zA (by omega) (by omega), nI_clamp (by omega), e0, zp_tn3, h3]
    obtain ⟨k, rfl⟩ : ∃ k, lf = k + 1 := ⟨lf - 1, by omega⟩
    rw [zp_sub1, pk_sub (by omega), show k + 1 - 1 = k by omega]
    by_cases b : 3 < tm - k
    · rw [if_neg (show ¬ nI (tm - k) ≤ (3 : Int32) from nI_ge (a := 3) b (by omega)), if_neg (by decide), if_pos ⟨a, b⟩]
      rfl
    · rw [if_pos (show nI (tm - k) ≤ (3 : Int32) from nI_le (b := 3) (by omega) (by omega)), zp_canBeTaken_b w j hnh ht h3 hg hr, if_neg (fun q => b q.2)]
