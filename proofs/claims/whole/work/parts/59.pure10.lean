/-! ===== pure: sums as naturals; rounds ===== -/
def zn (g : Nat → Nat) : Nat → Nat → Nat
  | _, 0 => 0
  | i, k + 1 => g i + zn g (i + 1) k
theorem zs_zn {f : Nat → Int32} {g : Nat → Nat} : ∀ (k i : Nat), (∀ j, i ≤ j → j < i + k → f j = nI (g j)) → zs f i k = nI (zn g i k) := by
  intro k
  induction k with
  | zero => intro i _; rfl
  | succ k ih =>
    intro i h
    show f i + zs f (i + 1) k = nI (g i + zn g (i + 1) k)
    rw [h i (Nat.le_refl i) (by omega), ih (i + 1) (fun j h1 h2 => h j (by omega) (by omega)), nI_add]
theorem zn_le {f g : Nat → Nat} : ∀ (k i : Nat), (∀ j, i ≤ j → j < i + k → f j ≤ g j) → zn f i k ≤ zn g i k := by
  intro k
  induction k with
  | zero => intro i _; exact Nat.le_refl 0
  | succ k ih =>
    intro i h
    exact Nat.add_le_add (h i (Nat.le_refl i) (by omega)) (ih (i + 1) (fun j h1 h2 => h j (by omega) (by omega)))
theorem zn_congr {f g : Nat → Nat} : ∀ (k i : Nat), (∀ j, i ≤ j → j < i + k → f j = g j) → zn f i k = zn g i k := by
  intro k
  induction k with
  | zero => intro i _; rfl
  | succ k ih =>
    intro i h
    show f i + zn f (i + 1) k = g i + zn g (i + 1) k
    rw [h i (Nat.le_refl i) (by omega), ih (i + 1) (fun j h1 h2 => h j (by omega) (by omega))]
theorem zn_bd {f : Nat → Nat} {B : Nat} : ∀ (k i : Nat), (∀ j, i ≤ j → j < i + k → f j ≤ B) → zn f i k ≤ k * B := by
  intro k
  induction k with
  | zero => intro i _; exact Nat.zero_le _
  | succ k ih =>
    intro i h
    have h1 := h i (Nat.le_refl i) (by omega)
    have h2 := ih (i + 1) (fun j h1 h2 => h j (by omega) (by omega))
    show f i + zn f (i + 1) k ≤ (k + 1) * B
    rw [Nat.succ_mul]; omega
theorem zn_zero {f : Nat → Nat} (k i : Nat) (h : ∀ j, i ≤ j → j < i + k → f j = 0) : zn f i k = 0 := by
  have := zn_bd (f := f) (B := 0) k i (fun j h1 h2 => by rw [h j h1 h2]; exact Nat.le_refl 0)
  omega
/-- the shares of a certificate, of a class, of a holder in a class -/
def zm (v : zV) (c : Nat) : Nat := (v 8 c).toNatClampNeg
def zNi (v : zV) (y : Int32) : Nat := zn (fun c => if v 7 c = y then zm v c else 0) 0 24
def zNho (v : zV) (x y : Int32) : Nat := zn (fun c => if v 7 c = y then (if v 6 c = x then zm v c else 0) else 0) 0 24
def zq (v : zV) (k : Nat) : Nat := (v 5 k).toNatClampNeg
def zCo (v : zV) (nc : Nat) (x : Int32) : Nat := zn (fun k => zNho v x (nI k) * zq v k) 0 nc
def zCa (v : zV) (nc : Nat) : Nat := zn (fun k => zNi v (nI k) * zq v k) 0 nc
theorem zRc_m {nc nh : Nat} {v : zV} {s : Nat → Int32} (h : zRc nc nh v s) {c : Nat} (hc : c < 24) : v 8 c = nI (zm v c) ∧ zm v c ≤ 9999 := by
  unfold zm
  rcases h c hc with ⟨e1, -⟩ | ⟨a, k, m, h3, h4, h5, h6, e1, e2, e3, -⟩
  · rw [e1]; exact ⟨by decide, by decide⟩
  · rw [e3, nI_clamp (by omega)]; exact ⟨rfl, h6⟩
theorem zRk_q {nc : Nat} {v : zV} {s : Nat → Int32} (h : zRk nc v s) {k : Nat} (hk : k < nc) : v 5 k = nI (zq v k) ∧ 1 ≤ zq v k ∧ zq v k ≤ 4 := by
  obtain ⟨p, m, r, d, q, -, -, -, -, h1, h2, -, -, -, -, -, e5, -⟩ := h k hk
  unfold zq
  rw [e5, nI_clamp (by omega)]; exact ⟨rfl, h1, h2⟩
theorem zsi_N {nc nh : Nat} {v : zV} {s : Nat → Int32} (h : zRc nc nh v s) (y : Int32) : zsi v y = nI (zNi v y) := by
  refine zs_zn 24 0 (fun c _ hc => ?_)
  show (if v 7 c = y then v 8 c else 0) = nI (if v 7 c = y then zm v c else 0)
  by_cases d : v 7 c = y
  · rw [if_pos d, if_pos d]; exact (zRc_m h (by omega)).1
  · rw [if_neg d, if_neg d]; rfl
theorem zso_N {nc nh : Nat} {v : zV} {s : Nat → Int32} (h : zRc nc nh v s) (x y : Int32) : zso v x y = nI (zNho v x y) := by
  refine zs_zn 24 0 (fun c _ hc => ?_)
  show (if v 7 c = y then (if v 6 c = x then v 8 c else 0) else 0) = nI (if v 7 c = y then (if v 6 c = x then zm v c else 0) else 0)
  by_cases d : v 7 c = y
  · rw [if_pos d, if_pos d]
    by_cases d2 : v 6 c = x
    · rw [if_pos d2, if_pos d2]; exact (zRc_m h (by omega)).1
    · rw [if_neg d2, if_neg d2]; rfl
  · rw [if_neg d, if_neg d]; rfl
theorem zNi_bd {nc nh : Nat} {v : zV} {s : Nat → Int32} (h : zRc nc nh v s) (y : Int32) : zNi v y ≤ 239976 := by
  refine zn_bd (B := 9999) 24 0 (fun c _ hc => ?_)
  show (if v 7 c = y then zm v c else 0) ≤ 9999
  have := (zRc_m h (c := c) (by omega)).2
  split <;> omega
theorem zNho_le {v : zV} (x y : Int32) : zNho v x y ≤ zNi v y := by
  refine zn_le 24 0 (fun c _ hc => ?_)
  show (if v 7 c = y then (if v 6 c = x then zm v c else 0) else 0) ≤ (if v 7 c = y then zm v c else 0)
  split
  · split <;> omega
  · omega
theorem zCo_le {v : zV} (nc : Nat) (x : Int32) : zCo v nc x ≤ zCa v nc := zn_le nc 0 (fun k _ _ => Nat.mul_le_mul_right _ (zNho_le x (nI k)))
theorem zCa_bd {nc nh : Nat} {v : zV} {s : Nat → Int32} (hn : nc ≤ 5) (h : zRc nc nh v s) (hk : zRk nc v s) : zCa v nc ≤ 4799520 := by
  have h1 := zn_bd (f := fun k => zNi v (nI k) * zq v k) (B := 239976 * 4) nc 0 (fun k _ hk2 => Nat.mul_le_mul (zNi_bd h _) (zRk_q hk (by omega)).2.2)
  have h2 : nc * (239976 * 4) ≤ 5 * (239976 * 4) := Nat.mul_le_mul_right _ hn
  exact Nat.le_trans h1 h2
theorem zCo_N {nc nh : Nat} {v : zV} {s : Nat → Int32} (h : zRc nc nh v s) (hk : zRk nc v s) (x : Int32) : zs (fun k => zso v x (nI k) * v 5 k) 0 nc = nI (zCo v nc x) := by
  refine zs_zn nc 0 (fun k _ hk2 => ?_)
  show zso v x (nI k) * v 5 k = nI (zNho v x (nI k) * zq v k)
  rw [zso_N h, (zRk_q hk (by omega)).1, pk_mul]
theorem zCa_N {nc nh : Nat} {v : zV} {s : Nat → Int32} (h : zRc nc nh v s) (hk : zRk nc v s) : zs (fun k => zsi v (nI k) * v 5 k) 0 nc = nI (zCa v nc) := by
  refine zs_zn nc 0 (fun k _ hk2 => ?_)
  show zsi v (nI k) * v 5 k = nI (zNi v (nI k) * zq v k)
  rw [zsi_N h, (zRk_q hk (by omega)).1, pk_mul]
theorem zNho_none {nc nh : Nat} {v : zV} {s : Nat → Int32} (hnh : nh ≤ 8) (h : zRc nc nh v s) {x : Nat} (hx : nh ≤ x) (hx2 : x < 2 ^ 31) (y : Int32) : zNho v (nI x) y = 0 := by
  refine zn_zero 24 0 (fun c _ hc => ?_)
  show (if v 7 c = y then (if v 6 c = nI x then zm v c else 0) else 0) = 0
  rcases h c (by omega) with ⟨e1, -⟩ | ⟨a, k, m, h3, h4, h5, h6, e1, e2, e3, -⟩
  · rw [show zm v c = 0 by unfold zm; rw [e1]; decide]
    split
    · split <;> rfl
    · rfl
  · rw [e1, if_neg (show ¬ nI a = nI x from fun q => by have := (nI_eq (by omega) (by omega)).mp q; omega)]
    split <;> rfl
theorem zCo_none {nc nh : Nat} {v : zV} {s : Nat → Int32} (hnh : nh ≤ 8) (h : zRc nc nh v s) {x : Nat} (hx : nh ≤ x) (hx2 : x < 2 ^ 31) : zCo v nc (nI x) = 0 := by
  refine zn_zero nc 0 (fun k _ _ => ?_)
  show zNho v (nI x) (nI k) * zq v k = 0
  rw [zNho_none hnh h hx hx2, Nat.zero_mul]
theorem zCo_fr {v b : zV} (nc : Nat) (x : Int32) (e5 : b 5 = v 5) (e6 : b 6 = v 6) (e7 : b 7 = v 7) (e8 : b 8 = v 8) : zCo b nc x = zCo v nc x := by
  unfold zCo zNho zq zm
  rw [e5, e6, e7, e8]
/-- a portion: what is divided by nothing is nothing -/
theorem zp_mul63 {a b : Nat} (ha : a < 2 ^ 31) (hb : b < 2 ^ 31) : a * b < 2 ^ 63 :=
  Nat.lt_of_le_of_lt (Nat.mul_le_mul (Nat.le_of_lt ha) (Nat.le_of_lt hb)) (by decide)
theorem zp_lne {d : Nat} (h0 : ¬ d = 0) (hd : d < 2 ^ 31) : ¬ lN d = 0 := fun q => h0 ((pk_lEQ (b := 0) (by omega) (by omega)).mp q)
theorem zp_portion {a b d : Nat} (ha : a < 2 ^ 31) (hb : b < 2 ^ 31) (hd : d < 2 ^ 31) : f_X9_portion (nI a) (nI b) (nI d) = some (nI (a * b / d)) := by
  unfold f_X9_portion
  by_cases h0 : d = 0
  · subst h0
    rw [if_neg (by decide), Nat.div_zero]
    rfl
  · unfold zDl
    rw [if_pos (show (0 : Int32) < nI d from nI_lt (a := 0) (by omega) hd), nI_l ha, nI_l hb, nI_l hd, if_neg (zp_lne h0 hd), lN_mul, pk_lDiv (zp_mul63 ha hb) (by omega) (by omega), lN_i]
/-- a loop with what is kept at each turn -/
theorem zp_loopP {α β : Type} (F : Nat → α → Nat → Option β) (e : Nat) (P : Nat → α → Prop) (h1 : ∀ n i a, i < e → P i a → ∃ a', F (n + 1) a i = F n a' (i + 1) ∧ P (i + 1) a') : ∀ (k i n : Nat) (a : α), i + k = e → k < n → P i a → ∃ m a', F n a i = F (m + 1) a' e ∧ P e a' := by
  intro k
  induction k with
  | zero =>
    intro i n a h hn hp
    obtain ⟨n, rfl⟩ : ∃ m, n = m + 1 := ⟨n - 1, by omega⟩
    obtain rfl : i = e := by omega
    exact ⟨n, a, rfl, hp⟩
  | succ k ih =>
    intro i n a h hn hp
    obtain ⟨n, rfl⟩ : ∃ m, n = m + 1 := ⟨n - 1, by omega⟩
    obtain ⟨a', e1, hp'⟩ := h1 n i a (by omega) hp
    obtain ⟨m, a2, e2, hp2⟩ := ih (i + 1) n a' (by omega) (by omega) hp'
    exact ⟨m, a2, e1.trans e2, hp2⟩
theorem zp_12 (c : Nat) : (12 : Int32) + nI c = nI (12 + c) := by rw [show (12 : Int32) = nI 12 from rfl, nI_add]
theorem zp_20 (c : Nat) : (20 : Int32) + nI c = nI (20 + c) := by rw [show (20 : Int32) = nI 20 from rfl, nI_add]
theorem zp_8 (c : Nat) : (8 : Int32) + nI c = nI (8 + c) := by rw [show (8 : Int32) = nI 8 from rfl, nI_add]
theorem zp_begin (v : zV) (x1 x2 x3 : Int32) : ∃ y, f_X7_begin v x1 x2 x3 = some y ∧ (∀ a, a ≠ 17 → a ≠ 18 → y a = zu v 0 (zu (zu (zu (zu (v 0) 2 1) 3 x1) 4 x2) 5 x3) a) ∧ ∀ h, h < 8 → y 17 h = 0 ∧ y 18 h = 0 := by
  obtain ⟨m, y, e, p1, p2⟩ := zp_loopP (fun n (b : zV) i => f_X7_begin_b23 n b (nI i)) 8 (fun i b => (∀ a, a ≠ 17 → a ≠ 18 → b a = zu v 0 (zu (zu (zu (zu (v 0) 2 1) 3 x1) 4 x2) 5 x3) a) ∧ ∀ h, h < i → b 17 h = 0 ∧ b 18 h = 0)
    (fun n i b hi hp => by
      refine ⟨zu (zu b 17 (upd (b 17) i 0)) 18 (upd (b 18) i 0), ?_, fun a h1 h2 => (zu_ne h2).trans ((zu_ne h1).trans (hp.1 a h1 h2)), fun h hh => ?_⟩
      · show f_X7_begin_b23 (n + 1) b (nI i) = _
        rw [f_X7_begin_b23, if_neg (show ¬ (8 : Int32) ≤ nI i from nI_ge (b := 8) hi (by omega)), zp_zA hi (by omega), nI_clamp (by omega), ← nI_succ]
      · show upd (b 17) i 0 h = 0 ∧ upd (b 18) i 0 h = 0
        by_cases q : h = i
        · subst q; exact ⟨pk_us, pk_us⟩
        · rw [pk_un q, pk_un q]; exact hp.2 h (by omega)) 8 0 1000 (zu v 0 (zu (zu (zu (zu (v 0) 2 1) 3 x1) 4 x2) 5 x3)) (by omega) (by omega) ⟨fun _ _ _ => rfl, fun h hh => by omega⟩
  refine ⟨y, ?_, p1, p2⟩
  have e' : f_X7_begin v x1 x2 x3 = f_X7_begin_b23 (m + 1) y (nI 8) := e
  rw [e', f_X7_begin_b23, if_pos (by decide)]
theorem zo_offers {v w : zV} (j : zJ) (h : zR v (w 1)) (x1 x2 x3 : Int32) : zSim v w (f_X2_beginRound v x1 x2 x3) (f_X10_offers w j x1 x2 x3) := by
  obtain ⟨nc, nh, ng, tm, ⟨hc1, hc5, hnh, hng, htm, e00, e06, e01, e07, s0, s1, s2, s3, s4, s5, s6, s7⟩, hk, hh, hc, hg, hr⟩ := h
  unfold f_X2_beginRound f_X10_offers
  by_cases z : x1 = 0
  · rw [if_pos z, if_pos z]; exact zSim_no _ zp_m1lt _
  rw [if_neg z, if_neg z]
  refine zSim_gd (zp_hasClass _ e00 _) (zp_isClass _ _ s0 _) zp_m1lt (fun g => ?_)
  obtain ⟨o, ho, rfl⟩ := zw_invh g
  refine zSim_gd (zp_within _ _ _) (zp_in _ _ _) zp_m1lt (fun g => ?_)
  obtain ⟨n, hn1, hn2, rfl⟩ := zw_inv (a := 1) (b := 9999) g
  refine zSim_gd (zp_hasHolder _ e06 _) (zp_isHolder _ _ s1 _) zp_m1lt (fun g => ?_)
  obtain ⟨d, hd, rfl⟩ := zw_invh g
  have ho1 : 1 ≤ o := by
    cases o with
    | zero => exact absurd nI_0 z
    | succ o => omega
  rcases zRr_on hr with ⟨o1, o2⟩ | ⟨o1, o2⟩
  · rw [o1, if_pos rfl, zp_isRound0 j o2, zp_zb, if_pos rfl]
    have hA := zCa_bd hc5 hc hk
    obtain ⟨y, ey, y1, y2⟩ := zp_begin v (nI o) (nI n) (nI d)
    rw [ey, zp_zb, zp_mcommonOfAll w j hc5 hnh s0 hc hk, zp_zb, zCa_N hc hk, nI_l (by omega), zp_zl, zp_zl, zp_zl, zp_zl, zp_tn8, show (9 : Int32).toNatClampNeg = 9 by decide, show (10 : Int32).toNatClampNeg = 10 by decide, show (11 : Int32).toNatClampNeg = 11 by decide]
    let V2 : zV := zg_ro y v
    have v5 : V2 5 = v 5 := rfl
    have hk2 : zRk nc V2 (w 1) := zRk_fr hk hc5 rfl rfl rfl rfl rfl (fun i _ _ => rfl)
    have hc2 : zRc nc nh V2 (w 1) := zRc_fr hc (Nat.le_refl _) (Nat.le_refl _) rfl rfl rfl rfl (fun i _ _ => rfl)
    have ea : f_X2_commonOfAll V2 = some (nI (zCa v nc)) := by
      rw [zp_commonOfAll V2 e00 hc5, zCa_N hc2 hk2]
      rfl
    rw [show zg_ro y v = V2 from rfl, ea, zp_zb]
    -- the class's loop
    obtain ⟨m1, b, eb, b1, b2, b3⟩ := zp_loopP (fun k (b : zV) i => f_X2_beginRound_b65 k b (nI o) (nI n) (nI (zCa v nc)) (nI i)) nh (fun i b => (∀ a, a ≠ 17 → b a = V2 a) ∧ (∀ h, h < i → b 17 h = nI (n * zCo v nc (nI h) / zCa v nc)) ∧ ∀ h, i ≤ h → h < 8 → b 17 h = 0)
      (fun k i b hi hp => by
        obtain ⟨p1, p2, p3⟩ := hp
        refine ⟨zu b 17 (upd (b 17) i (nI (n * zCo v nc (nI i) / zCa v nc))), ?_, fun a h1 => (zu_ne h1).trans (p1 a h1), fun h hh => ?_, fun h h1 h2 => ?_⟩
        · show f_X2_beginRound_b65 (k + 1) b (nI o) (nI n) (nI (zCa v nc)) (nI i) = _
          have f0 : b 0 0 = nI nc := by rw [p1 0 (by omega)]; exact e00
          have f6 : b 0 6 = nI nh := by rw [p1 0 (by omega)]; exact e06
          have hkb : zRk nc b (w 1) := zRk_fr hk hc5 (p1 _ (by omega)) (p1 _ (by omega)) (p1 _ (by omega)) (p1 _ (by omega)) (p1 _ (by omega)) (fun i _ _ => rfl)
          have hcb : zRc nc nh b (w 1) := zRc_fr hc (Nat.le_refl _) (Nat.le_refl _) (p1 _ (by omega)) (p1 _ (by omega)) (p1 _ (by omega)) (p1 _ (by omega)) (fun i _ _ => rfl)
          have hle := zCo_le (v := v) nc (nI i)
          rw [f_X2_beginRound_b65, f6, if_neg (nI_ge hi (by omega)), zp_commonOf b f0 hc5, zCo_N hcb hkb, zp_zb, zCo_fr (v := v) nc (nI i) (p1 _ (by omega)) (p1 _ (by omega)) (p1 _ (by omega)) (p1 _ (by omega)), zp_portion (by omega) (by omega) (by omega), zp_zb, zp_zA (show i < 8 by omega) (by omega), nI_clamp (by omega), ← nI_succ]
        · show upd (b 17) i _ h = _
          by_cases q : h = i
          · subst q; exact pk_us
          · rw [pk_un q]; exact p2 h (by omega)
        · show upd (b 17) i _ h = _
          rw [pk_un (by omega)]; exact p3 h (by omega) h2) nh 0 1000 V2 (by omega) (by omega) ⟨fun _ _ => rfl, fun h hh => by omega, fun h _ hh => (y2 h hh).1⟩
    have eb' : f_X2_beginRound_b65 1000 V2 (nI o) (nI n) (nI (zCa v nc)) 0 = f_X2_beginRound_b65 (m1 + 1) b (nI o) (nI n) (nI (zCa v nc)) (nI nh) := eb
    obtain ⟨p, pm, pr, pd, pq, hp99, -, -, -, -, -, -, ep, -, -, -, -, ep2, -⟩ := hk o ho
    have bp : b 1 o = nI p := by rw [b1 1 (by omega)]; exact ep
    have f6 : b 0 6 = nI nh := by rw [b1 0 (by omega)]; exact e06
    have bs : n * p ≤ 9999 * 99 := Nat.mul_le_mul hn2 hp99
    rw [eb', f_X2_beginRound_b65, f6, if_pos (nI_le (Nat.le_refl nh) (by omega)), zp_zA (show o < 5 by omega) (by omega), nI_clamp (by omega), bp, pk_mul]
    -- the model's loop
    let S0 : Nat → Int32 := upd (upd (upd (upd (w 1) 8 1) 9 (nI o)) 10 (nI n)) 11 (nI d)
    have S0o : ∀ i, i < 8 ∨ 12 ≤ i → S0 i = w 1 i := fun i hi => (pk_un (by omega)).trans ((pk_un (by omega)).trans ((pk_un (by omega)).trans (pk_un (by omega))))
    obtain ⟨m2, t, et, t1, t2⟩ := zp_loopP (fun k (t : Nat → Int32) i => f_X10_offers_b86 j k (zu w 1 t) (nI o) (nI n) (lN (zCa v nc)) (nI i)) 8 (fun i t => (∀ a, (a < 12 ∨ 28 ≤ a) → t a = S0 a) ∧ (∀ h, h < i → t (12 + h) = nI (n * zCo v nc (nI h) / zCa v nc) ∧ t (20 + h) = 0))
      (fun k i t hi hp => by
        obtain ⟨p1, p2⟩ := hp
        refine ⟨upd (upd t (12 + i) (nI (n * zCo v nc (nI i) / zCa v nc))) (20 + i) 0, ?_, fun a ha => (pk_un (by omega)).trans ((pk_un (by omega)).trans (p1 a ha)), fun h hh => ?_⟩
        · show f_X10_offers_b86 j (k + 1) (zu w 1 t) (nI o) (nI n) (lN (zCa v nc)) (nI i) = _
          rw [f_X10_offers_b86, if_neg (show ¬ (8 : Int32) ≤ nI i from nI_ge (b := 8) hi (by omega)), zp_12, zp_20]
          by_cases q : zCa v nc = 0
          · rw [if_pos ((lg_cmp_eq _ _).mpr (show lN (zCa v nc) = 0 by rw [q]; rfl)), zp_zA (by omega) (by omega), zp_zl, zp_zA (by omega) (by omega), zp_zl, nI_clamp (by omega), nI_clamp (by omega), q, Nat.div_zero, nI_0, zu_zu, zu_eq, ← nI_succ]
            rfl
          · have t0 : (zu w 1 t) 1 0 = nI nc := (p1 0 (by omega)).trans ((S0o 0 (by omega)).trans s0)
            have hct : zRc nc nh v ((zu w 1 t) 1) := zRc_fr hc (Nat.le_refl _) (Nat.le_refl _) rfl rfl rfl rfl (fun i h1 h2 => (p1 i (by omega)).trans (S0o i (by omega)))
            have hkt : zRk nc v ((zu w 1 t) 1) := zRk_fr hk hc5 rfl rfl rfl rfl rfl (fun i h1 h2 => (p1 i (by omega)).trans (S0o i (by omega)))
            have hle := zCo_le (v := v) nc (nI i)
            unfold zDl
            rw [if_neg (fun h => zp_lne q (by omega) ((lg_cmp_eq _ _).mp h)), zp_mcommonOf (zu w 1 t) j hc5 hnh t0 hct hkt (nI i) (nI_pos (by omega)), zCo_N hc hk, zp_zb, if_neg (zp_lne q (by omega)), zp_zA (by omega) (by omega), zp_zl, zp_zA (by omega) (by omega), zp_zl, nI_clamp (by omega), nI_clamp (by omega), nI_l (by omega), nI_l (by omega), lN_mul, pk_lDiv (zp_mul63 (by omega) (by omega)) (by omega) (by omega), lN_i, zu_zu, zu_eq, ← nI_succ]
        · by_cases q : h = i
          · subst q
            exact ⟨(pk_un (by omega)).trans pk_us, pk_us⟩
          · rw [pk_un (by omega), pk_un (by omega), pk_un (by omega), pk_un (by omega)]
            exact p2 h (by omega)) 8 0 1000 S0 (by omega) (by omega) ⟨fun _ _ => rfl, fun h hh => by omega⟩
    have et' : f_X10_offers_b86 j 1000 (zu w 1 S0) (nI o) (nI n) (lN (zCa v nc)) 0 = f_X10_offers_b86 j (m2 + 1) (zu w 1 t) (nI o) (nI n) (lN (zCa v nc)) (nI 8) := et
    have tp : t (28 + 5 * o) = nI p := (t1 _ (by omega)).trans ((S0o _ (by omega)).trans ep2)
    rw [et', f_X10_offers_b86, if_pos (by decide), show f_X10_ofClass (zu w 1 t) j (nI o) 0 = some (t (28 + 5 * o)) from zp_class (zu w 1 t) j (show o < 5 by omega) (k := 0) (by omega), zp_zb, tp, pk_mul]
    have tw : ∀ i, i < 8 ∨ 28 ≤ i → t i = w 1 i := fun i hi => (t1 i (by omega)).trans (S0o i (by omega))
    have bV : ∀ a, a ≠ 0 → a ≠ 17 → a ≠ 18 → b a = v a := fun a h1 h2 h3 => by
      rw [b1 a h2]
      show zg_ro y v a = v a
      unfold zg_ro
      have g1 : Nat.beq a 0 = false := by
        cases q : Nat.beq a 0
        · rfl
        · exact absurd (Nat.eq_of_beq_eq_true q) h1
      have g2 : (Nat.ble 17 a && Nat.ble a 18) = false := by
        cases q : (Nat.ble 17 a && Nat.ble a 18)
        · rfl
        · rw [Bool.and_eq_true, Nat.ble_eq, Nat.ble_eq] at q
          omega
      rw [g1, g2]
      rfl
    have y0 : y 0 = zu (zu (zu (zu (v 0) 2 1) 3 (nI o)) 4 (nI n)) 5 (nI d) := y1 0 (by omega) (by omega)
    have b0 : b 0 = V2 0 := b1 0 (by omega)
    have c2 : b 0 2 = 1 := by rw [b0]; show y 0 2 = 1; rw [y0]; rfl
    have c3 : b 0 3 = nI o := by rw [b0]; show y 0 3 = _; rw [y0]; rfl
    have c4 : b 0 4 = nI n := by rw [b0]; show y 0 4 = _; rw [y0]; rfl
    have c5 : b 0 5 = nI d := by rw [b0]; show y 0 5 = _; rw [y0]; rfl
    refine zSim_ok (n * p) (by omega) rfl rfl ⟨nc, nh, ng, tm, ⟨hc1, hc5, hnh, hng, htm, by rw [b0]; exact e00, by rw [b0]; exact e06, by rw [b0]; exact e01, by rw [b0]; exact e07, (tw _ (by omega)).trans s0, (tw _ (by omega)).trans s1, (tw _ (by omega)).trans s2, (tw _ (by omega)).trans s3, ?_, ?_, ?_, ?_⟩, zRk_fr hk hc5 (bV _ (by omega) (by omega) (by omega)) (bV _ (by omega) (by omega) (by omega)) (bV _ (by omega) (by omega) (by omega)) (bV _ (by omega) (by omega) (by omega)) (bV _ (by omega) (by omega) (by omega)) (fun i _ _ => tw i (by omega)),
      zRh_fr hh hnh (Nat.le_refl _) (bV _ (by omega) (by omega) (by omega)) (fun i _ _ => tw i (by omega)),
      zRc_fr hc (Nat.le_refl _) (Nat.le_refl _) (bV _ (by omega) (by omega) (by omega)) (bV _ (by omega) (by omega) (by omega)) (bV _ (by omega) (by omega) (by omega)) (bV _ (by omega) (by omega) (by omega)) (fun i _ _ => tw i (by omega)),
      zRg_fr hg hnh hng (Nat.le_refl _) (bV _ (by omega) (by omega) (by omega)) (bV _ (by omega) (by omega) (by omega)) (bV _ (by omega) (by omega) (by omega)) (bV _ (by omega) (by omega) (by omega)) (bV _ (by omega) (by omega) (by omega)) (bV _ (by omega) (by omega) (by omega)) (bV _ (by omega) (by omega) (by omega)) (fun i _ _ => tw i (by omega)) (fun i _ _ => tw i (by omega)),
      Or.inr ⟨c2, ?_, o, n, d, ho1, ho, hn1, hn2, hd, c3, c4, c5, ?_, ?_, ?_, fun h hh => ?_⟩⟩
    · rw [b0]; exact (tw _ (by omega)).trans s4
    · rw [b0]; exact (tw _ (by omega)).trans s5
    · rw [b0]; exact (tw _ (by omega)).trans s6
    · rw [b0]; exact (tw _ (by omega)).trans s7
    · exact (t1 8 (by omega)).trans ((pk_un (by omega)).trans ((pk_un (by omega)).trans ((pk_un (by omega)).trans pk_us)))
    · exact (t1 9 (by omega)).trans ((pk_un (by omega)).trans ((pk_un (by omega)).trans pk_us))
    · exact (t1 10 (by omega)).trans ((pk_un (by omega)).trans pk_us)
    · exact (t1 11 (by omega)).trans pk_us
    · have hle := zCo_le (v := v) nc (nI h)
      have hq : n * zCo v nc (nI h) / zCa v nc ≤ n := by
        refine Nat.div_le_of_le_mul ?_
        rw [Nat.mul_comm (zCa v nc) n]
        exact Nat.mul_le_mul_left n hle
      have hz : nh ≤ h → n * zCo v nc (nI h) / zCa v nc = 0 := fun q => by
        rw [zCo_none hnh hc q (by omega), Nat.mul_zero, Nat.zero_div]
      have b18 : b 18 h = 0 := by
        rw [b1 18 (by omega)]; exact (y2 h hh).2
      refine ⟨n * zCo v nc (nI h) / zCa v nc, 0, Nat.zero_le _, Nat.le_trans hq hn2, hz, ?_, b18, (t2 h hh).1, (t2 h hh).2⟩
      by_cases q : h < nh
      · exact b2 h q
      · rw [hz (by omega)]; exact b3 h (by omega) hh
  · rw [o1, if_neg (by decide), zp_isRound1 j o2, zp_zb, if_neg (by decide)]
    exact zSim_no _ zp_m2lt _
theorem zo_takesUp {v w : zV} (j : zJ) (h : zR v (w 1)) (x1 x2 : Int32) : zSim v w (f_X2_takeUpShares v x1 x2) (f_X10_takesUp w j x1 x2) := by
  obtain ⟨nc, nh, ng, tm, ⟨hc1, hc5, hnh, hng, htm, e00, e06, e01, e07, s0, s1, s2, s3, s4, s5, s6, s7⟩, hk, hh, hc, hg, hr⟩ := h
  unfold f_X2_takeUpShares f_X10_takesUp
  refine zSim_gd (zp_hasHolder _ e06 _) (zp_isHolder _ _ s1 _) zp_m1lt (fun g => ?_)
  obtain ⟨a, ha, rfl⟩ := zw_invh g
  refine zSim_gd (zp_within _ _ _) (zp_in _ _ _) zp_m1lt (fun g => ?_)
  obtain ⟨x, hx1, hx2, rfl⟩ := zw_inv (a := 1) (b := 9999) g
  rw [zp_12, zp_20, zp_zA (show a < 8 by omega) (by omega), zp_zA (by omega) (by omega), zp_zA (by omega) (by omega), nI_clamp (by omega), nI_clamp (by omega), nI_clamp (by omega)]
  rcases hr with ⟨o1, o2⟩ | ⟨o1, o2, o, n, d, h3, h4, h5, h6, h7, h8, h9, h10, h11, h12, h13, h14⟩
  · rw [o1, if_pos rfl, zp_isRound0 j o2, zp_zb, if_pos rfl]
    exact zSim_no _ zp_m2lt _
  · obtain ⟨r, t, q1, q2, q3, q4, q5, q6, q7⟩ := h14 a (by omega)
    rw [o1, if_neg (show ¬ (1 : Int32) = 0 by decide), zp_isRound1 j o2, zp_zb, if_neg (show ¬ (1 : Int32) = 0 by decide), q4, q5, q6, q7, pk_sub q1, nI_add]
    by_cases e : t + x ≤ r
    · rw [if_pos (nI_le e (by omega)), if_pos (nI_le (by omega) (by omega)), zp_zl, pk_us, pk_sub e, pk_sub (by omega)]
      have o : ∀ i, i ≠ 20 + a → upd (w 1) (20 + a) (nI (t + x)) i = w 1 i := fun i hi => pk_un hi
      refine zSim_ok (r - (t + x)) (by omega) rfl (by rw [show r - t - x = r - (t + x) by omega]) ⟨nc, nh, ng, tm, ⟨hc1, hc5, hnh, hng, htm, e00, e06, e01, e07, (o _ (by omega)).trans s0, (o _ (by omega)).trans s1, (o _ (by omega)).trans s2, (o _ (by omega)).trans s3, (o _ (by omega)).trans s4, (o _ (by omega)).trans s5, (o _ (by omega)).trans s6, (o _ (by omega)).trans s7⟩, zRk_fr hk hc5 rfl rfl rfl rfl rfl (fun i _ _ => o i (by omega)),
        zRh_fr hh hnh (Nat.le_refl _) rfl (fun i _ _ => o i (by omega)),
        zRc_fr hc (Nat.le_refl _) (Nat.le_refl _) rfl rfl rfl rfl (fun i _ _ => o i (by omega)),
        zRg_fr hg hnh hng (Nat.le_refl _) rfl rfl rfl rfl rfl rfl rfl (fun i _ _ => o i (by omega)) (fun i _ _ => o i (by omega)),
        Or.inr ⟨o1, (o _ (by omega)).trans o2, _, n, d, h3, h4, h5, h6, h7, h8, h9, h10, (o _ (by omega)).trans h11, (o _ (by omega)).trans h12, (o _ (by omega)).trans h13, fun k hk2 => ?_⟩⟩
      by_cases q : k = a
      · subst q
        exact ⟨r, t + x, e, q2, q3, q4, pk_us, (o _ (by omega)).trans q6, pk_us⟩
      · obtain ⟨r', t', r1, r2, r3, r4, r5, r6, r7⟩ := h14 k hk2
        exact ⟨r', t', r1, r2, r3, r4, (pk_un q).trans r5, (o _ (by omega)).trans r6, (o _ (by omega)).trans r7⟩
    · rw [if_neg (nI_ge (by omega) (by omega)), if_neg (nI_ge (by omega) (by omega))]
      exact zSim_no _ zp_m2lt _
