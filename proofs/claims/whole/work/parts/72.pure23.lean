/-! ===== pure: texts are played ===== -/
theorem zb_eta {x : Option (Int32 × zV)} : (zb x fun y => some (y.1, y.2)) = x := by
  cases x <;> rfl
theorem zo_perform {y bv y3 : zV} (j : zJ) {i : Nat} (hi : i < 7) {N : Nat → Nat} (h1 : ∀ k, k < zmn i → y 1 k = nI (N k)) (h2 : ∀ k, k < zmn i → y3 5 k = nI (N k)) (h : zR bv (y3 1)) : zSim bv y3 (f_X6_perform y bv (nI i)) (mdis j (nI i) y3) := by
  unfold f_X6_perform mdis
  rw [if_pos (show (5 : Int32) ≤ 5 by decide)]
  rcases (show i = 0 ∨ i = 1 ∨ i = 2 ∨ i = 3 ∨ i = 4 ∨ i = 5 ∨ i = 6 by omega) with rfl | rfl | rfl | rfl | rfl | rfl | rfl
  · rw [if_pos (show nI 0 = 0 by decide), if_pos (show nI 0 = 0 by decide), zb_eta, zb_eta, zp_tn0, zp_tn1, zp_tn2, h1 0 (by decide), h1 1 (by decide), h1 2 (by decide), h2 0 (by decide), h2 1 (by decide), h2 2 (by decide)]
    exact zo_issues j h _ _ _
  · rw [if_neg (show ¬ nI 1 = 0 by decide), if_pos (show nI 1 = 1 by decide), if_neg (show ¬ nI 1 = 0 by decide), if_pos (show nI 1 = 1 by decide), zb_eta, zb_eta, zp_tn0, zp_tn1, zp_tn2, h1 0 (by decide), h1 1 (by decide), h1 2 (by decide), h2 0 (by decide), h2 1 (by decide), h2 2 (by decide)]
    exact zo_splits j h _ _ _
  · rw [if_neg (show ¬ nI 2 = 0 by decide), if_neg (show ¬ nI 2 = 1 by decide), if_pos (show nI 2 = 2 by decide), if_neg (show ¬ nI 2 = 0 by decide), if_neg (show ¬ nI 2 = 1 by decide), if_pos (show nI 2 = 2 by decide), zb_eta, zb_eta, zp_tn0, zp_tn1, h1 0 (by decide), h1 1 (by decide), h2 0 (by decide), h2 1 (by decide)]
    exact zo_buys j h _ _
  · rw [if_neg (show ¬ nI 3 = 0 by decide), if_neg (show ¬ nI 3 = 1 by decide), if_neg (show ¬ nI 3 = 2 by decide), if_pos (show nI 3 = 3 by decide), if_neg (show ¬ nI 3 = 0 by decide), if_neg (show ¬ nI 3 = 1 by decide), if_neg (show ¬ nI 3 = 2 by decide), if_pos (show nI 3 = 3 by decide), zb_eta, zb_eta, zp_tn0, zp_tn1, zp_tn2, zp_tn3, zp_tn4, h1 0 (by decide), h1 1 (by decide), h1 2 (by decide), h1 3 (by decide), h1 4 (by decide), h2 0 (by decide), h2 1 (by decide), h2 2 (by decide), h2 3 (by decide), h2 4 (by decide)]
    exact zo_grants j h _ _ _ _ _
  · rw [if_neg (show ¬ nI 4 = 0 by decide), if_neg (show ¬ nI 4 = 1 by decide), if_neg (show ¬ nI 4 = 2 by decide), if_neg (show ¬ nI 4 = 3 by decide), if_pos (show nI 4 = 4 by decide), if_neg (show ¬ nI 4 = 0 by decide), if_neg (show ¬ nI 4 = 1 by decide), if_neg (show ¬ nI 4 = 2 by decide), if_neg (show ¬ nI 4 = 3 by decide), if_pos (show nI 4 = 4 by decide), zb_eta, zb_eta, zp_tn0, zp_tn1, h1 0 (by decide), h1 1 (by decide), h2 0 (by decide), h2 1 (by decide)]
    exact zo_takes j h _ _
  · rw [if_neg (show ¬ nI 5 = 0 by decide), if_neg (show ¬ nI 5 = 1 by decide), if_neg (show ¬ nI 5 = 2 by decide), if_neg (show ¬ nI 5 = 3 by decide), if_neg (show ¬ nI 5 = 4 by decide), if_pos (show nI 5 = 5 by decide), if_neg (show ¬ nI 5 = 0 by decide), if_neg (show ¬ nI 5 = 1 by decide), if_neg (show ¬ nI 5 = 2 by decide), if_neg (show ¬ nI 5 = 3 by decide), if_neg (show ¬ nI 5 = 4 by decide), if_pos (show nI 5 = 5 by decide), zb_eta, zb_eta, zp_tn0, h1 0 (by decide), h2 0 (by decide)]
    exact zo_leaves j h _
  · rw [if_neg (show ¬ nI 6 = 0 by decide), if_neg (show ¬ nI 6 = 1 by decide), if_neg (show ¬ nI 6 = 2 by decide), if_neg (show ¬ nI 6 = 3 by decide), if_neg (show ¬ nI 6 = 4 by decide), if_neg (show ¬ nI 6 = 5 by decide), if_neg (show ¬ nI 6 = 0 by decide), if_neg (show ¬ nI 6 = 1 by decide), if_neg (show ¬ nI 6 = 2 by decide), if_neg (show ¬ nI 6 = 3 by decide), if_neg (show ¬ nI 6 = 4 by decide), if_neg (show ¬ nI 6 = 5 by decide), zb_eta, zb_eta, zp_tn0, h1 0 (by decide), h2 0 (by decide)]
    exact zo_passes j h _
def zSm (w w' : zV) : Prop := w' 2 = w 2 ∧ w' 3 = w 3 ∧ w' 4 = w 4 ∧ w' 0 0 = w 0 0 ∧ w' 0 1 = w 0 1
theorem zSm_tr {a b c : zV} (h1 : zSm a b) (h2 : zSm b c) : zSm a c := ⟨h2.1.trans h1.1, h2.2.1.trans h1.2.1, h2.2.2.1.trans h1.2.2.1, h2.2.2.2.1.trans h1.2.2.2.1, h2.2.2.2.2.trans h1.2.2.2.2⟩
theorem zSk_sm {a b : zV} (h : zSk a b) : zSm a b := ⟨h.2.1, h.2.2.1, h.2.2.2.1, h.2.2.2.2.1, h.2.2.2.2.2⟩
/-- how it ends -/
def zEnd (br' bv' : zV) (x : Int32) (w' : zV) : Prop :=
  (∃ m : Nat, m ≤ 80 ∧ br' 0 2 = 0 ∧ br' 0 0 = nI m ∧ x = -1 - nI m ∧ zR bv' (w' 1)) ∨
  (∃ q : Nat, q ≤ 80 ∧ br' 0 2 = 1 ∧ br' 0 1 = nI q ∧ x = nI q ∧ w' 0 4 = 1) ∨
  ∃ q : Nat, q ≤ 80 ∧ br' 0 2 = 2 ∧ br' 0 1 = nI q ∧ x = nI q ∧ w' 0 4 = 2 ∧ w' 0 5 = br' 0 3
theorem zo_run_b {T : Nat → Nat} {l : Nat} (j : zJ) : ∀ (k p t f1 f2 m : Nat) (br bt bv w : zV), p + k = l → k < f1 → k < f2 → t ≤ p → m ≤ p → zCt T l bt → zMt T l w → w 0 2 = nI p → br 0 1 = nI p → br 0 0 = nI m → br 0 2 = 0 → zR bv (w 1) →
    ∃ br' bt' bv' x w', f_X6_run_b22 f1 br bt bv (nI t) = some (br', bt', bv') ∧ f_X10_does_b7 j f2 w (nI m) = some (x, w') ∧ bt' 2 = bt 2 ∧ bt' 0 0 = bt 0 0 ∧ zSm w w' ∧ zEnd br' bv' x w' := by
  intro k
  induction k using Nat.strongRecOn with
  | _ k ih =>
  intro p t f1 f2 m br bt bv w e hf1 hf2 ht hm hC hM e2 b1 b0 b2 hR
  have hl := hC.1
  obtain ⟨f1, rfl⟩ : ∃ m, f1 = m + 1 := ⟨f1 - 1, by omega⟩
  obtain ⟨f2, rfl⟩ : ∃ m, f2 = m + 1 := ⟨f2 - 1, by omega⟩
  rw [f_X6_run_b22, f_X10_does_b7, hC.2.1, hM.2.1, e2, b1]
  by_cases d : p = l
  · subst d
    refine ⟨br, bt, bv, -1 - nI m, w, ?_, if_pos (nI_le (Nat.le_refl _) (by omega)), rfl, hC.2.1, ⟨rfl, rfl, rfl, rfl, rfl⟩, Or.inl ⟨m, by omega, b2, b0, rfl, hR⟩⟩
    rw [if_pos (nI_le (Nat.le_refl p) (by omega))]
    by_cases q : (80 : Int32) ≤ nI t
    · rw [if_pos q]
    · rw [if_neg q]
  · have hp : p < l := by omega
    obtain ⟨r, bt1, er, t2, t0, hr⟩ := zt_command hC hp
    obtain ⟨hA, hB⟩ := mt_command j hM hp e2
    rw [if_neg (show ¬ (80 : Int32) ≤ nI t from nI_ge (b := 80) (by omega) (by omega)), if_neg (nI_ge hp (by omega)), if_neg (nI_ge hp (by omega)), er, zp_zb]
    rcases hr with ⟨rfl, hno⟩ | ⟨i, b, N, hi, hs, hrd, rfl, v1, vN⟩
    · obtain ⟨w1, ew, w3, wS⟩ := hA hno
      rw [ew, zp_zb]
      refine ⟨zu br 0 (zu (br 0) 2 1), bt1, bv, nI p, zu w1 0 (zu (zu (w1 0) 4 1) 5 0), if_pos rfl, ?_, t2, t0.trans hC.2.1, zSm_tr (zSk_sm wS) ⟨rfl, rfl, rfl, rfl, rfl⟩, Or.inr (Or.inl ⟨p, by omega, rfl, b1, rfl, rfl⟩)⟩
      show (if w1 0 3 = 0 then (if (1 : Int32) ≤ 0 then _ else some (nI p, zu w1 0 (zu (zu (w1 0) 4 1) 5 0))) else _) = _
      rw [if_pos w3, if_neg (by decide)]
    · obtain ⟨hb1, hb2⟩ := rdn_le _ _ _ _ _ _ hrd
      obtain ⟨y3, ey, y03, y02, yS, yN⟩ := hB i b N hi hs hrd
      have hR3 : zR bv (y3 1) := by rw [yS.1]; exact hR
      obtain ⟨r2, bv2, w2, x1, x2, x3, x4, x5⟩ := zo_perform (y := bt1) j hi vN yN hR3
      have w0 : w2 0 = y3 0 := x3 0 (by omega)
      have hSm2 : zSm w w2 := zSm_tr (zSk_sm yS) ⟨x3 2 (by omega), x3 3 (by omega), x3 4 (by omega), by rw [w0], by rw [w0]⟩
      rw [ey, x2, zp_zb]
      show ∃ br' bt' bv' x w', (if nI b = -1 then _ else zb (f_X6_perform bt1 bv (bt1 0 1)) fun y5 => if 0 ≤ y5.1 then f_X6_run_b22 f1 (zu br 0 (zu (zu (br 0) 0 (br 0 0 + 1)) 1 (nI b))) bt1 y5.2 (nI t + 1) else some (zu br 0 (zu (zu (br 0) 2 2) 3 y5.1), bt1, y5.2)) = some (br', bt', bv') ∧ (if w2 0 3 = 0 then _ else if 0 ≤ r2 then (if (0 : Int32) ≤ 0 then f_X10_does_b7 j f2 (zu w2 0 (zu (zu (w2 0) 4 0) 5 r2)) (nI m + 1) else _) else (if (2 : Int32) ≤ 0 then _ else some (nI p, zu w2 0 (zu (zu (w2 0) 4 2) 5 r2)))) = some (x, w') ∧ _
      have w3 : ¬ w2 0 3 = 0 := by rw [w0, y03]; decide
      rw [if_neg (zp_neg1 (by have := (zlen_0 ⟨i, hi⟩).2; omega)), v1, x1, zp_zb, if_neg w3]
      by_cases q : r2 < 0
      · have q0 : ¬ 0 ≤ r2 := fun q2 => by rw [Int32.lt_iff_toInt_lt] at q; rw [Int32.le_iff_toInt_le] at q2; omega
        refine ⟨zu br 0 (zu (zu (br 0) 2 2) 3 r2), bt1, bv2, nI p, zu w2 0 (zu (zu (w2 0) 4 2) 5 r2), ?_, ?_, t2, t0.trans hC.2.1, zSm_tr hSm2 ⟨rfl, rfl, rfl, rfl, rfl⟩, Or.inr (Or.inr ⟨p, by omega, rfl, b1, rfl, rfl, rfl⟩)⟩
        · rw [if_neg q0]
        · rw [if_neg q0, if_neg (by decide)]
      · have q0 : 0 ≤ r2 := by
          obtain ⟨k, hk, rfl⟩ := nI_of q
          exact nI_pos' hk
        rw [if_pos q0, if_pos q0, if_pos (show (0 : Int32) ≤ 0 by decide), nI_1, nI_1]
        obtain ⟨br', bt', bv', x, w', g1, g2, g3, g4, g5, g6⟩ := ih (l - b) (by omega) b (t + 1) f1 f2 (m + 1) (zu br 0 (zu (zu (br 0) 0 (br 0 0 + 1)) 1 (nI b))) bt1 bv2 (zu w2 0 (zu (zu (w2 0) 4 0) 5 r2)) (by omega) (by omega) (by omega) (by omega) (by omega) (zCt_fr hC t0 t2) (by
          refine ⟨hl, hSm2.2.2.2.2.trans hM.2.1, fun k hk => ?_⟩
          show 32 ≤ T k ∧ T k ≤ 126 ∧ w2 4 k = nI (T k)
          rw [hSm2.2.2.1]; exact hM.2.2 k hk) (by show w2 0 2 = nI b; rw [w0]; exact y02) rfl (by show br 0 0 + 1 = nI (m + 1); rw [b0, nI_1]) b2 (x5 q)
        exact ⟨br', bt', bv', x, w', g1, g2, g3.trans t2, g4.trans (t0.trans hC.2.1), zSm_tr (zSm_tr hSm2 ⟨rfl, rfl, rfl, rfl, rfl⟩) g5, g6⟩
theorem zo_run {bt bv br w : zV} (j : zJ) (hT : zTx bt w) (hR : zR bv (w 1)) : ∃ br' bt' bv' x w', f_X6_run br bt bv = some (br', bt', bv') ∧ f_X10_does w j = some (x, w') ∧ bt' 2 = bt 2 ∧ bt' 0 0 = bt 0 0 ∧ zSm w w' ∧ zEnd br' bv' x w' := by
  obtain ⟨l, hl, e1, e2, hs⟩ := hT
  have hT2 : ∀ k, k < l → 32 ≤ (bt 2 k).toNatClampNeg ∧ (bt 2 k).toNatClampNeg ≤ 126 ∧ bt 2 k = nI (bt 2 k).toNatClampNeg ∧ w 4 k = nI (bt 2 k).toNatClampNeg := fun k hk => by
    obtain ⟨c, c1, c2, c3, c4⟩ := hs k hk
    rw [c3, c4, nI_clamp (by omega)]
    exact ⟨c1, c2, rfl, rfl⟩
  obtain ⟨br', bt', bv', x, w', g1, g2, g3, g4, g5, g6⟩ := zo_run_b (T := fun k => (bt 2 k).toNatClampNeg) (l := l) j l 0 0 1000 1000 0 (zu br 0 (zu (zu (zu (zu (br 0) 0 0) 1 0) 2 0) 3 0)) bt bv (zu w 0 (zu (w 0) 2 0)) (by omega) (by omega) (by omega) (by omega) (by omega) ⟨hl, e1, fun k hk => ⟨(hT2 k hk).1, (hT2 k hk).2.1, (hT2 k hk).2.2.1⟩⟩ ⟨hl, e2, fun k hk => ⟨(hT2 k hk).1, (hT2 k hk).2.1, (hT2 k hk).2.2.2⟩⟩ rfl rfl rfl rfl hR
  exact ⟨br', bt', bv', x, w', g1, g2, g3, g4, zSm_tr ⟨rfl, rfl, rfl, rfl, rfl⟩ g5, g6⟩
theorem zend_neg0 : ∀ m : Fin 81, (-1 : Int32) - nI m.1 < 0 ∧ (-1 : Int32) - (-1 - nI m.1) = nI m.1 := by decide +kernel
/-- the ends of what was tried -/
theorem zo_tried {bv bd be bt br w : zV} {bh : zH} (j : zJ) (h : zSt bv bh bt w) : ∃ d w1 br' bt' bd' x w2, f_X9_newDraft bv bd bh be bt br = some d ∧ f_X10_begins w j = some w1 ∧ f_X6_run br bt d = some (br', bt', bd') ∧ f_X10_does w1 j = some (x, w2) ∧ zEnd br' bd' x w2 ∧ zHr bh w2 ∧ zTx bt' w2 ∧ zR bv (w2 2) ∧ ∀ bv2, zSt bv2 bh bt w → zSt bv2 bh bt' w := by
  have s1 := h.1
  obtain ⟨d, ed, hd⟩ := zo_copy (v := bd) s1
  obtain ⟨w1, e1, b1, b2⟩ := me_begins w j
  have hd1 : zR d (w1 1) := by rw [b1 1 (by omega)]; exact hd
  have hT1 : zTx bt w1 := zTx_fr h.2.2 (by rw [b1 0 (by omega)]) (b1 4 (by omega)) rfl rfl
  have hH1 : zHr bh w1 := zHr_fr h.2.1 (by rw [b1 0 (by omega)]) (b1 3 (by omega))
  obtain ⟨br', bt', bd', x, w2, g1, g2, g3, g4, g5, g6⟩ := zo_run (br := br) j hT1 hd1
  refine ⟨d, w1, br', bt', bd', x, w2, ?_, e1, g1, g2, g6, zHr_fr hH1 g5.2.2.2.1 g5.2.1, zTx_fr hT1 g5.2.2.2.2 g5.2.2.1 g4 g3, ?_, fun bv2 h2 => ⟨h2.1, h2.2.1, zTx_fr h2.2.2 rfl rfl g4 g3⟩⟩
  · unfold f_X9_newDraft
    rw [ed, zp_zb]
  · exact zR_sag s1 (fun k hk => by rw [g5.1]; exact b2 k hk)
theorem zo_fault {bv bd be bt br w : zV} {bh : zH} (j : zJ) (h : zSt bv bh bt w) (x : Int32) : ∃ r bd' bt' br' w', f_X9_fault bv bd bh be bt br x = some (r, bd', bt', br') ∧ f_X10_fault w j x = some (r, w') ∧ zSt bv bh bt' w' := by
  unfold f_X9_fault f_X10_fault
  rw [zp_within, zp_in, zp_zb, zp_zb]
  by_cases g : zw x 0 2 = 0
  · rw [if_pos g, if_pos g]
    exact ⟨-1, bd, bt, br, w, rfl, rfl, h⟩
  · obtain ⟨k, -, hk, rfl⟩ := zw_inv (a := 0) (b := 2) g
    rw [if_neg g, if_neg g]
    obtain ⟨d, w1, br', bt', bd', y, w2, e1, e2, e3, e4, hE, hH, hT, h2, -⟩ := zo_tried (bd := bd) (be := be) (br := br) j h
    obtain ⟨w3, e5, b1, b2⟩ := me_returns w2 j
    have hS : zSt bv bh bt' w3 := ⟨zR_sag h2 b2, zHr_fr hH (by rw [b1 0 (by omega)]) (b1 3 (by omega)), zTx_fr hT (by rw [b1 0 (by omega)]) (b1 4 (by omega)) rfl rfl⟩
    rw [e1, zp_zb, e3, zp_zb, e2, zp_zb, e4, zp_zb]
    show ∃ r bd2 bt2 br2 w', (zb (f_X6_about br' (nI k)) fun y5 => some (y5, bd', bt', br')) = some (r, bd2, bt2, br2) ∧ (zb (f_X10_returns w2 j) fun y7 => if y < 0 then some (-4, y7) else if nI k = 2 then (if y7 0 4 = 1 then some (-4, y7) else f_X10_fault_b44 j y7 (nI k) y) else f_X10_fault_b44 j y7 (nI k) y) = some (r, w') ∧ zSt bv bh bt2 w'
    rw [e5, zp_zb]
    unfold f_X6_about f_X6_failed
    have w30 : w3 0 = w2 0 := b1 0 (by omega)
    rcases hE with ⟨m, hm, z1, z2, z3, z4⟩ | ⟨q, hq, z1, z2, z3, z4⟩ | ⟨q, hq, z1, z2, z3, z4, z5⟩
    · rw [z1, if_pos rfl, zp_zb, if_pos rfl, zp_zb, z3, if_pos (zend_neg0 ⟨m, by omega⟩).1]
      exact ⟨-4, bd', bt', br', w3, rfl, rfl, hS⟩
    · rw [z1, if_neg (show ¬ (1 : Int32) = 0 by decide), zp_zb, if_neg (show ¬ (1 : Int32) = 0 by decide), z3, if_neg (nI_pos (by omega)), w30, z4]
      unfold f_X6_about_b23 f_X10_fault_b44
      rw [z1, z2, w30, z4]
      rcases (show k = 0 ∨ k = 1 ∨ k = 2 by omega) with rfl | rfl | rfl
      · rw [if_neg (show ¬ nI 0 = 2 by decide), if_neg (show ¬ nI 0 = 2 by decide), if_pos (show nI 0 = 0 by decide), if_pos (show nI 0 = 0 by decide), zp_zb]
        exact ⟨nI q, bd', bt', br', w3, rfl, rfl, hS⟩
      · rw [if_neg (show ¬ nI 1 = 2 by decide), if_neg (show ¬ nI 1 = 2 by decide), if_neg (show ¬ nI 1 = 0 by decide), if_neg (show ¬ nI 1 = 0 by decide), if_pos (show nI 1 = 1 by decide), if_pos (show nI 1 = 1 by decide), zp_zb]
        exact ⟨1, bd', bt', br', w3, rfl, rfl, hS⟩
      · rw [if_pos (show nI 2 = 2 by decide), if_pos (show nI 2 = 2 by decide), if_pos rfl, if_pos rfl, zp_zb]
        exact ⟨-4, bd', bt', br', w3, rfl, rfl, hS⟩
    · rw [z1, if_neg (show ¬ (2 : Int32) = 0 by decide), zp_zb, if_neg (show ¬ (1 : Int32) = 0 by decide), z3, if_neg (nI_pos (by omega)), w30, z4]
      unfold f_X6_about_b23 f_X10_fault_b44
      rw [z1, z2, w30, z4, z5]
      rcases (show k = 0 ∨ k = 1 ∨ k = 2 by omega) with rfl | rfl | rfl
      · rw [if_neg (show ¬ nI 0 = 2 by decide), if_neg (show ¬ nI 0 = 2 by decide), if_pos (show nI 0 = 0 by decide), if_pos (show nI 0 = 0 by decide), zp_zb]
        exact ⟨nI q, bd', bt', br', w3, rfl, rfl, hS⟩
      · rw [if_neg (show ¬ nI 1 = 2 by decide), if_neg (show ¬ nI 1 = 2 by decide), if_neg (show ¬ nI 1 = 0 by decide), if_neg (show ¬ nI 1 = 0 by decide), if_pos (show nI 1 = 1 by decide), if_pos (show nI 1 = 1 by decide), zp_zb]
        exact ⟨2, bd', bt', br', w3, rfl, rfl, hS⟩
      · rw [if_pos (show nI 2 = 2 by decide), if_pos (show nI 2 = 2 by decide), if_neg (show ¬ (2 : Int32) = 1 by decide), if_neg (show ¬ (2 : Int32) = 1 by decide), if_neg (show ¬ nI 2 = 0 by decide), if_neg (show ¬ nI 2 = 1 by decide), if_neg (show ¬ nI 2 = 0 by decide), if_neg (show ¬ nI 2 = 1 by decide), zp_zb]
        exact ⟨br' 0 3, bd', bt', br', w3, rfl, rfl, hS⟩
theorem zo_play {bv bd be bt br w : zV} {bh : zH} (j : zJ) (h : zSt bv bh bt w) : ∃ r bv' bd' bh' bt' br' w', f_X9_play bv bd bh be bt br = some (r, bv', bd', bh', bt', br') ∧ f_X10_play w j = some (r, w') ∧ zSt bv' bh' bt' w' := by
  unfold f_X9_play f_X10_play
  obtain ⟨d, w1, br', bt', bd', y, w2, e1, e2, e3, e4, hE, hH, hT, h2, -⟩ := zo_tried (bd := bd) (be := be) (br := br) j h
  rw [e1, zp_zb, e3, zp_zb, e2, zp_zb, e4, zp_zb]
  show ∃ r bv2 bd2 bh2 bt2 br2 w', (zb (f_X6_failed br') fun y3 => (if y3 = 0 then zb (f_X9_accepted bv bd' bh be bt' br' (br' 0 0)) fun y5 => some (y5.1, y5.2.1, bd', y5.2.2, bt', br') else zb (f_X9_accepted bv bd' bh be bt' br' (-2)) fun y6 => some (y6.1, y6.2.1, bd', y6.2.2, bt', br'))) = some (r, bv2, bd2, bh2, bt2, br2) ∧ (if y < 0 then zb (f_X10_acted w2 j ((-1) - y)) fun y4 => some (y4.1, y4.2) else zb (f_X10_returns w2 j) fun y5 => some ((-2), y5)) = some (r, w') ∧ zSt bv2 bh2 bt2 w'
  unfold f_X6_failed
  have hfail : ¬ y < 0 → ¬ br' 0 2 = 0 → ∃ r bv2 bd2 bh2 bt2 br2 w', (zb (if br' 0 2 = 0 then some (0 : Int32) else some 1) fun y3 => (if y3 = 0 then zb (f_X9_accepted bv bd' bh be bt' br' (br' 0 0)) fun y5 => some (y5.1, y5.2.1, bd', y5.2.2, bt', br') else zb (f_X9_accepted bv bd' bh be bt' br' (-2)) fun y6 => some (y6.1, y6.2.1, bd', y6.2.2, bt', br'))) = some (r, bv2, bd2, bh2, bt2, br2) ∧ (if y < 0 then zb (f_X10_acted w2 j ((-1) - y)) fun y4 => some (y4.1, y4.2) else zb (f_X10_returns w2 j) fun y5 => some ((-2), y5)) = some (r, w') ∧ zSt bv2 bh2 bt2 w' := by
    intro hy hb
    obtain ⟨w3, e5, b1, b2⟩ := me_returns w2 j
    have hS : zSt bv bh bt' w3 := ⟨zR_sag h2 b2, zHr_fr hH (by rw [b1 0 (by omega)]) (b1 3 (by omega)), zTx_fr hT (by rw [b1 0 (by omega)]) (b1 4 (by omega)) rfl rfl⟩
    rw [if_neg hb, zp_zb, if_neg (show ¬ (1 : Int32) = 0 by decide), if_neg hy, e5, zp_zb]
    unfold f_X9_accepted
    rw [if_pos zp_m2lt, zp_zb]
    exact ⟨-2, bv, bd', bh, bt', br', w3, rfl, rfl, hS⟩
  rcases hE with ⟨m, hm, z1, z2, z3, z4⟩ | ⟨q, hq, z1, z2, z3, z4⟩ | ⟨q, hq, z1, z2, z3, z4, z5⟩
  · obtain ⟨q1, q2⟩ := zend_neg0 ⟨m, by omega⟩
    have q1' : (-1 : Int32) - nI m < 0 := q1
    have q2' : (-1 : Int32) - (-1 - nI m) = nI m := q2
    obtain ⟨bv', bh', w3, a1, a2, a3⟩ := zo_accepted (bv := bv) (bd := bd') (be := be) (br := br') (bt := bt') (w0 := zu w2 1 (w2 2)) (w := w2) j (r := nI m) ⟨h2, zHr_fr hH rfl rfl, zTx_fr hT rfl rfl rfl rfl⟩ (fun k h3 _ => (zu_ne h3).symm) h2 (fun _ => z4) (fun q => absurd q (nI_pos (by omega)))
    rw [z1, if_pos rfl, zp_zb, if_pos rfl, z2, a1, zp_zb, z3, if_pos q1', q2', a2, zp_zb]
    exact ⟨nI m, bv', bd', bh', bt', br', w3, rfl, rfl, a3⟩
  · exact hfail (by rw [z3]; exact nI_pos (by omega)) (by rw [z1]; decide)
  · exact hfail (by rw [z3]; exact nI_pos (by omega)) (by rw [z1]; decide)
