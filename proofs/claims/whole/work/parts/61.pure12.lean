/-! ===== pure: what is read ===== -/
def zSame (x y : Option Int32) : Prop := ∃ r, x = some r ∧ y = some r
theorem zSame_gd {x y : Option Int32} {g : Int32} (hx : x = some g) (hy : y = some g) {r : Int32} {K1 K2 : Option Int32} (h : ¬ g = 0 → zSame K1 K2) : zSame (zb x fun y => if y = 0 then some r else K1) (zb y fun y => if y = 0 then some r else K2) := by
  rw [hx, hy, zp_zb, zp_zb]
  by_cases d : g = 0
  · rw [if_pos d, if_pos d]; exact ⟨r, rfl, rfl⟩
  · rw [if_neg d, if_neg d]; exact h d
theorem zb_id {x : Option Int32} : (zb x fun y => some y) = x := by
  cases x <;> rfl
theorem zo_roundOf {v w : zV} (j : zJ) (h : zR v (w 1)) (x1 x2 : Int32) : zSame (f_X2_aboutRound v x1 x2) (f_X10_roundOf w j x1 x2) := by
  obtain ⟨nc, nh, ng, tm, ⟨hc1, hc5, hnh, hng, htm, e00, e06, e01, e07, s0, s1, s2, s3, s4, s5, s6, s7⟩, hk, hh, hc, hg, hr⟩ := h
  unfold f_X2_aboutRound f_X10_roundOf
  refine zSame_gd (zp_hasHolder _ e06 _) (zp_isHolder _ _ s1 _) (fun g => ?_)
  obtain ⟨a, ha, rfl⟩ := zw_invh g
  refine zSame_gd (zp_within _ _ _) (zp_in _ _ _) (fun g => ?_)
  obtain ⟨k, -, hk4, rfl⟩ := zw_inv (a := 0) (b := 4) g
  rcases hr with ⟨o1, o2⟩ | ⟨o1, o2, o, n, d, h3, h4, h5, h6, h7, h8, h9, h10, h11, h12, h13, h14⟩
  · rw [o1, if_pos rfl, zp_isRound0 j o2, zp_zb, if_pos rfl]
    exact ⟨_, rfl, rfl⟩
  · obtain ⟨r, t, q1, q2, q3, q4, q5, q6, q7⟩ := h14 a (by omega)
    rw [o1, if_neg (show ¬ (1 : Int32) = 0 by decide), zp_isRound1 j o2, zp_zb, if_neg (show ¬ (1 : Int32) = 0 by decide)]
    rcases (show k = 0 ∨ k = 1 ∨ k = 2 ∨ k = 3 ∨ k = 4 by omega) with rfl | rfl | rfl | rfl | rfl
    · rw [if_pos (show nI 0 = 0 by decide), if_pos (show nI 0 = 0 by decide), zp_zA (show a < 8 by omega) (by omega), zp_12, zp_zA (by omega) (by omega), nI_clamp (by omega), nI_clamp (by omega), q4, q6]
      exact ⟨_, rfl, rfl⟩
    · rw [if_neg (show ¬ nI 1 = 0 by decide), if_neg (show ¬ nI 1 = 0 by decide), if_pos (show nI 1 = 1 by decide), if_pos (show nI 1 = 1 by decide), zp_zA (show a < 8 by omega) (by omega), zp_20, zp_zA (by omega) (by omega), nI_clamp (by omega), nI_clamp (by omega), q5, q7]
      exact ⟨_, rfl, rfl⟩
    · rw [if_neg (show ¬ nI 2 = 0 by decide), if_neg (show ¬ nI 2 = 0 by decide), if_neg (show ¬ nI 2 = 1 by decide), if_neg (show ¬ nI 2 = 1 by decide), if_pos (show nI 2 = 2 by decide), show ((9 : Int32) + nI 2) - 2 = nI 9 by decide, zp_zA (by omega) (by omega), nI_clamp (by omega), h8, h11]
      exact ⟨_, rfl, rfl⟩
    · rw [if_neg (show ¬ nI 3 = 0 by decide), if_neg (show ¬ nI 3 = 0 by decide), if_neg (show ¬ nI 3 = 1 by decide), if_neg (show ¬ nI 3 = 1 by decide), if_neg (show ¬ nI 3 = 2 by decide), if_pos (show nI 3 = 3 by decide), show ((9 : Int32) + nI 3) - 2 = nI 10 by decide, zp_zA (by omega) (by omega), nI_clamp (by omega), h9, h12]
      exact ⟨_, rfl, rfl⟩
    · rw [if_neg (show ¬ nI 4 = 0 by decide), if_neg (show ¬ nI 4 = 0 by decide), if_neg (show ¬ nI 4 = 1 by decide), if_neg (show ¬ nI 4 = 1 by decide), if_neg (show ¬ nI 4 = 2 by decide), if_neg (show ¬ nI 4 = 3 by decide), show ((9 : Int32) + nI 4) - 2 = nI 11 by decide, zp_zA (by omega) (by omega), nI_clamp (by omega), h10, h13]
      exact ⟨_, rfl, rfl⟩
theorem zp_sharesIn2 (v : zV) (y : Int32) : f_X0_sharesIn v y = some (zsi v y) := zp_sharesIn v y
theorem zp_sharesOfAll2 (w : zV) (j : zJ) {nc nh : Nat} {v : zV} (hnh : nh ≤ 8) (hc : zRc nc nh v (w 1)) (y : Int32) : f_X10_sharesOf w j (-1) y = some (zsi v y) := by
  rw [zp_sharesOfAll, ← zr_sharesIn hnh hc y]; rfl
theorem zp_sharesOwned2 (v : zV) (x y : Int32) : f_X0_sharesOwned v x y = some (zso v x y) := zp_sharesOwned v x y
theorem zp_sharesOfHolder2 (w : zV) (j : zJ) {nc nh : Nat} {v : zV} (hnh : nh ≤ 8) (hc : zRc nc nh v (w 1)) (x y : Int32) (hx : ¬ x < 0) : f_X10_sharesOf w j x y = some (zso v x y) := by
  rw [zp_sharesOfHolder w j x y hx, ← zr_sharesOwned hnh hc x y]; rfl
theorem zo_classOf_b {nc nh ng tm : Nat} {v w : zV} (j : zJ) (hn : zRn nc nh ng tm v (w 1)) {o : Nat} (ho : o < nc) : (∀ K, zSame (f_X2_aboutClass_b32 v (nI o) (nI 0)) (if nI 0 = 0 then zb (f_X10_sharesOf w j (-1) (nI o)) fun y6 => some y6 else K)) ∧ zSame (f_X2_aboutClass_b32 v (nI o) (nI 1)) (f_X10_preference w j (nI o)) ∧ zSame (f_X2_aboutClass_b32 v (nI o) (nI 2)) (zb (f_X10_sharesOf w j (-1) (nI o)) fun y10 => zb (f_X10_ofClass w j (nI o) 4) fun y11 => some (y10 * y11)) ∧ ∀ k, 3 ≤ k → k ≤ 7 → zSame (f_X2_aboutClass_b32 v (nI o) (nI k)) (f_X10_ofClass w j (nI o) (nI k - 3)) := by
  obtain ⟨⟨hc1, hc5, hnh, hng, htm, e00, e06, e01, e07, s0, s1, s2, s3, s4, s5, s6, s7⟩, hk, hh, hc, hg, hr⟩ := hn
  obtain ⟨p, m, r, d, q, -, -, -, -, -, -, -, p1, p2, p3, p4, p5, t1, t2, t3, t4, t5⟩ := hk o ho
  have cl : (nI o).toNatClampNeg = o := nI_clamp (by omega)
  unfold f_X2_aboutClass_b32
  refine ⟨fun K => ?_, ?_, ?_, fun k h1 h2 => ?_⟩
  · rw [if_pos (show nI 0 = 0 by decide), if_pos (show nI 0 = 0 by decide), zp_sharesIn2, zp_zb, zp_sharesOfAll2 w j hnh hc, zp_zb]
    exact ⟨_, rfl, rfl⟩
  · unfold f_X1_preference f_X10_preference
    rw [if_neg (show ¬ nI 1 = 0 by decide), if_pos (show nI 1 = 1 by decide), zp_sharesIn2, zp_zb, zp_zA (show o < 5 by omega) (by omega), cl, zp_zb, zp_sharesOfAll2 w j hnh hc, zp_zb, zp_class0 w j (by omega), zp_zb, show f_X10_ofClass w j (nI o) 1 = some (w 1 (28 + 5 * o + 1)) from zp_class w j (by omega) (k := 1) (by omega), zp_zb, p1, p2, t1, show 28 + 5 * o + 1 = 29 + 5 * o by omega, t2]
    exact ⟨_, rfl, rfl⟩
  · rw [if_neg (show ¬ nI 2 = 0 by decide), if_neg (show ¬ nI 2 = 1 by decide), if_pos (show nI 2 = 2 by decide), zp_sharesIn2, zp_zb, zp_common v (by omega), zp_zb, zp_sharesOfAll2 w j hnh hc, zp_zb, zp_class4 w j (by omega), zp_zb, p5, t5]
    exact ⟨_, rfl, rfl⟩
  · have z0 : ¬ nI k = 0 := nI_ne0 (by omega) (by omega)
    have z1 : ¬ nI k = 1 := fun q => by have := (nI_eq (a := k) (b := 1) (by omega) (by omega)).mp q; omega
    have z2 : ¬ nI k = 2 := fun q => by have := (nI_eq (a := k) (b := 2) (by omega) (by omega)).mp q; omega
    rw [if_neg z0, if_neg z1, if_neg z2, zp_zA (show o < 5 by omega) (by omega), zp_zA (show o < 5 by omega) (by omega), zp_zA (show o < 5 by omega) (by omega), zp_zA (show o < 5 by omega) (by omega), zp_zA (show o < 5 by omega) (by omega), cl, show nI k - 3 = nI (k - 3) from pk_sub (b := 3) h1, zp_class w j (by omega) (by omega)]
    rcases (show k = 3 ∨ k = 4 ∨ k = 5 ∨ k = 6 ∨ k = 7 by omega) with rfl | rfl | rfl | rfl | rfl
    · rw [if_pos (show nI 3 = 3 by decide), p1, show 28 + 5 * o + (3 - 3) = 28 + 5 * o by omega, t1]; exact ⟨_, rfl, rfl⟩
    · rw [if_neg (show ¬ nI 4 = 3 by decide), if_pos (show nI 4 = 4 by decide), p2, show 28 + 5 * o + (4 - 3) = 29 + 5 * o by omega, t2]; exact ⟨_, rfl, rfl⟩
    · rw [if_neg (show ¬ nI 5 = 3 by decide), if_neg (show ¬ nI 5 = 4 by decide), if_pos (show nI 5 = 5 by decide), p3, show 28 + 5 * o + (5 - 3) = 30 + 5 * o by omega, t3]; exact ⟨_, rfl, rfl⟩
    · rw [if_neg (show ¬ nI 6 = 3 by decide), if_neg (show ¬ nI 6 = 4 by decide), if_neg (show ¬ nI 6 = 5 by decide), if_pos (show nI 6 = 6 by decide), p4, show 28 + 5 * o + (6 - 3) = 31 + 5 * o by omega, t4]; exact ⟨_, rfl, rfl⟩
    · rw [if_neg (show ¬ nI 7 = 3 by decide), if_neg (show ¬ nI 7 = 4 by decide), if_neg (show ¬ nI 7 = 5 by decide), if_neg (show ¬ nI 7 = 6 by decide), p5, show 28 + 5 * o + (7 - 3) = 32 + 5 * o by omega, t5]; exact ⟨_, rfl, rfl⟩
theorem zo_classOf {v w : zV} (j : zJ) (h : zR v (w 1)) (x1 x2 : Int32) : zSame (f_X2_aboutClass v x1 x2) (f_X10_classOf w j x1 x2) := by
  obtain ⟨nc, nh, ng, tm, hn⟩ := h
  have hi := hn.1
  obtain ⟨hc1, hc5, hnh, hng, htm, e00, e06, e01, e07, s0, s1, s2, s3, s4, s5, s6, s7⟩ := hi
  unfold f_X2_aboutClass f_X10_classOf
  refine zSame_gd (zp_hasClass _ e00 _) (zp_isClass _ _ s0 _) (fun g => ?_)
  obtain ⟨o, ho, rfl⟩ := zw_invh g
  refine zSame_gd (zp_within _ _ _) (zp_in _ _ _) (fun g => ?_)
  obtain ⟨k, -, hk7, rfl⟩ := zw_inv (a := 0) (b := 7) g
  obtain ⟨c0, c1, c2, c3⟩ := zo_classOf_b j hn ho
  rw [zb_id (x := f_X10_preference w j (nI o))]
  by_cases k3 : k < 3
  · rw [if_pos (show nI k < 3 from nI_lt (b := 3) k3 (by omega)), ite_self]
    rcases (show k = 0 ∨ k = 1 ∨ k = 2 by omega) with rfl | rfl | rfl
    · exact c0 _
    · rw [if_neg (show ¬ nI 1 = 0 by decide), if_pos (show nI 1 = 1 by decide)]; exact c1
    · rw [if_neg (show ¬ nI 2 = 0 by decide), if_neg (show ¬ nI 2 = 1 by decide), if_pos (show nI 2 = 2 by decide)]; exact c2
  · have z0 : ¬ nI k = 0 := nI_ne0 (by omega) (by omega)
    have z1 : ¬ nI k = 1 := fun q => by have := (nI_eq (a := k) (b := 1) (by omega) (by omega)).mp q; omega
    have z2 : ¬ nI k = 2 := fun q => by have := (nI_eq (a := k) (b := 2) (by omega) (by omega)).mp q; omega
    rw [if_neg (show ¬ nI k < 3 from nI_nlt (b := 3) (by omega) (by omega)), if_neg z0, if_neg z1, if_neg z2]
    by_cases o0 : nI o = 0
    · rw [if_pos o0, if_pos o0]; exact ⟨_, rfl, rfl⟩
    · rw [if_neg o0, if_neg o0, zb_id]
      exact c3 k (by omega) hk7
theorem zo_certificateOf {v w : zV} (j : zJ) (h : zR v (w 1)) (x1 x2 : Int32) : zSame (f_X2_aboutCertificate v x1 x2) (f_X10_certificateOf w j x1 x2) := by
  obtain ⟨nc, nh, ng, tm, ⟨hc1, hc5, hnh, hng, htm, e00, e06, e01, e07, s0, s1, s2, s3, s4, s5, s6, s7⟩, hk, hh, hc, hg, hr⟩ := h
  unfold f_X2_aboutCertificate f_X10_certificateOf
  obtain ⟨g, hg1, hg2, hg3⟩ := zo_has j hnh hc x1
  refine zSame_gd hg1 hg2 (fun q => ?_)
  obtain ⟨c, a, b, m, rfl, hc24, ha, hb, hm1, hm2, e1, e2, e3, e4, e5, e6⟩ := hg3 q
  have e7 : w 1 (64 + 4 * c) = v 9 c := by
    rcases hc c hc24 with ⟨q1, -⟩ | ⟨a', k', m', -, -, -, -, -, -, -, -, -, -, g7⟩
    · exact absurd (e3.symm.trans q1) (nI_ne0 (by omega) (by omega))
    · exact g7
  refine zSame_gd (zp_within _ _ _) (zp_in _ _ _) (fun g => ?_)
  obtain ⟨k, -, hk3, rfl⟩ := zw_inv (a := 0) (b := 3) g
  have cl : (nI c).toNatClampNeg = c := nI_clamp (by omega)
  rw [zp_zA hc24 (by omega), zp_zA hc24 (by omega), zp_zA hc24 (by omega), zp_zA hc24 (by omega), cl, zp_cert0 w j hc24, zp_cert w j hc24 (show k < 4 by omega), zp_zb, zp_zb, e4, nI_pred, e1, e2, e3]
  rcases (show k = 0 ∨ k = 1 ∨ k = 2 ∨ k = 3 by omega) with rfl | rfl | rfl | rfl
  · rw [if_pos (show nI 0 = 0 by decide), if_pos (show nI 0 = 0 by decide)]; exact ⟨_, rfl, rfl⟩
  · rw [if_neg (show ¬ nI 1 = 0 by decide), if_neg (show ¬ nI 1 = 0 by decide), if_pos (show nI 1 = 1 by decide), show 61 + 4 * c + 1 = 62 + 4 * c by omega, e5]; exact ⟨_, rfl, rfl⟩
  · rw [if_neg (show ¬ nI 2 = 0 by decide), if_neg (show ¬ nI 2 = 0 by decide), if_neg (show ¬ nI 2 = 1 by decide), if_pos (show nI 2 = 2 by decide), show 61 + 4 * c + 2 = 63 + 4 * c by omega, e6]; exact ⟨_, rfl, rfl⟩
  · rw [if_neg (show ¬ nI 3 = 0 by decide), if_neg (show ¬ nI 3 = 0 by decide), if_neg (show ¬ nI 3 = 1 by decide), if_neg (show ¬ nI 3 = 2 by decide), show 61 + 4 * c + 3 = 64 + 4 * c by omega, e7]; exact ⟨_, rfl, rfl⟩
theorem zo_grantOf {v w : zV} (j : zJ) (h : zR v (w 1)) (x1 x2 : Int32) : zSame (f_X2_aboutGrant v x1 x2) (f_X10_grantOf w j x1 x2) := by
  obtain ⟨nc, nh, ng, tm, ⟨hc1, hc5, hnh, hng, htm, e00, e06, e01, e07, s0, s1, s2, s3, s4, s5, s6, s7⟩, hk, hh, hc, hg, hr⟩ := h
  unfold f_X2_aboutGrant f_X10_grantOf
  refine zSame_gd (zp_hasGrant _ e01 _) (zp_isGrant _ _ s2 _) (fun gx => ?_)
  obtain ⟨g, hlt, rfl⟩ := zw_invh gx
  refine zSame_gd (zp_within _ _ _) (zp_in _ _ _) (fun gx => ?_)
  obtain ⟨k, -, hk6, rfl⟩ := zw_inv (a := 0) (b := 6) gx
  obtain ⟨h', sh, st, cl, te, ma, ta, lf, hgr⟩ := hg.1 g hlt
  have hgr2 : zGr nh tm v (w 1) g h' sh st cl te ma ta lf := hgr
  obtain ⟨q1, q2, q3, q4, q5, q6, q7, q8, q9, q10, q11, q12, q13, q14, q15, q16, q17, q18, q19, q20, q21, q22, q23, q24, q25, q26⟩ := hgr
  have cg : (nI g).toNatClampNeg = g := nI_clamp (by omega)
  have g8 : g < 8 := by omega
  rw [zp_vested2 hnh hng htm e07 hh g8 hgr2, zp_mvested w j hnh htm s3 g8 hgr2, zp_takeable hnh hng htm e07 hh g8 hgr2, zp_canBeTaken w j hnh htm s3 g8 hgr2]
  rcases (show k = 0 ∨ k = 1 ∨ k = 2 ∨ k = 3 ∨ k = 4 ∨ k = 5 ∨ k = 6 by omega) with rfl | rfl | rfl | rfl | rfl | rfl | rfl
  · rw [if_pos (show nI 0 = 0 by decide), if_pos (show nI 0 = 0 by decide), zp_zA g8 (by omega), cg, show nI 0 = 0 by decide, zp_grant0 w j g8, zp_zb, q13, q20]; exact ⟨_, rfl, rfl⟩
  · rw [if_neg (show ¬ nI 1 = 0 by decide), if_neg (show ¬ nI 1 = 0 by decide), if_pos (show nI 1 = 1 by decide), if_pos (show nI 1 = 1 by decide), zp_zA g8 (by omega), cg, show nI 1 = 1 by decide, zp_grant1 w j g8, zp_zb, q14, q21]; exact ⟨_, rfl, rfl⟩
  · rw [if_neg (show ¬ nI 2 = 0 by decide), if_neg (show ¬ nI 2 = 0 by decide), if_neg (show ¬ nI 2 = 1 by decide), if_neg (show ¬ nI 2 = 1 by decide), if_pos (show nI 2 = 2 by decide), if_pos (show nI 2 = 2 by decide), zp_zA g8 (by omega), cg, show nI 2 = 2 by decide, zp_grant2 w j g8, zp_zb, q15, q22]; exact ⟨_, rfl, rfl⟩
  · rw [if_neg (show ¬ nI 3 = 0 by decide), if_neg (show ¬ nI 3 = 0 by decide), if_neg (show ¬ nI 3 = 1 by decide), if_neg (show ¬ nI 3 = 1 by decide), if_neg (show ¬ nI 3 = 2 by decide), if_neg (show ¬ nI 3 = 2 by decide), if_pos (show nI 3 = 3 by decide), if_pos (show nI 3 = 3 by decide), zp_zb]; exact ⟨_, rfl, rfl⟩
  · rw [if_neg (show ¬ nI 4 = 0 by decide), if_neg (show ¬ nI 4 = 0 by decide), if_neg (show ¬ nI 4 = 1 by decide), if_neg (show ¬ nI 4 = 1 by decide), if_neg (show ¬ nI 4 = 2 by decide), if_neg (show ¬ nI 4 = 2 by decide), if_neg (show ¬ nI 4 = 3 by decide), if_neg (show ¬ nI 4 = 3 by decide), if_pos (show nI 4 = 4 by decide), if_pos (show nI 4 = 4 by decide), zp_zA g8 (by omega), cg, zp_grant5 w j g8, zp_zb, q19, q25]; exact ⟨_, rfl, rfl⟩
  · rw [if_neg (show ¬ nI 5 = 0 by decide), if_neg (show ¬ nI 5 = 0 by decide), if_neg (show ¬ nI 5 = 1 by decide), if_neg (show ¬ nI 5 = 1 by decide), if_neg (show ¬ nI 5 = 2 by decide), if_neg (show ¬ nI 5 = 2 by decide), if_neg (show ¬ nI 5 = 3 by decide), if_neg (show ¬ nI 5 = 3 by decide), if_neg (show ¬ nI 5 = 4 by decide), if_neg (show ¬ nI 5 = 4 by decide), if_pos (show nI 5 = 5 by decide), if_pos (show nI 5 = 5 by decide), zp_zb]; exact ⟨_, rfl, rfl⟩
  · rw [if_neg (show ¬ nI 6 = 0 by decide), if_neg (show ¬ nI 6 = 0 by decide), if_neg (show ¬ nI 6 = 1 by decide), if_neg (show ¬ nI 6 = 1 by decide), if_neg (show ¬ nI 6 = 2 by decide), if_neg (show ¬ nI 6 = 2 by decide), if_neg (show ¬ nI 6 = 3 by decide), if_neg (show ¬ nI 6 = 3 by decide), if_neg (show ¬ nI 6 = 4 by decide), if_neg (show ¬ nI 6 = 4 by decide), if_neg (show ¬ nI 6 = 5 by decide), if_neg (show ¬ nI 6 = 5 by decide), zp_zA g8 (by omega), cg, zp_grant6 w j g8, zp_zb, q18, q26]; exact ⟨_, rfl, rfl⟩
theorem zo_holderOf {v w : zV} (j : zJ) (h : zR v (w 1)) (x1 x2 : Int32) : zSame (f_X2_aboutHolder v x1 x2) (f_X10_holderOf w j x1 x2) := by
  obtain ⟨nc, nh, ng, tm, hn⟩ := h
  have hn0 := hn
  obtain ⟨⟨hc1, hc5, hnh, hng, htm, e00, e06, e01, e07, s0, s1, s2, s3, s4, s5, s6, s7⟩, hk, hh, hc, hg, hr⟩ := hn0
  unfold f_X2_aboutHolder f_X10_holderOf
  refine zSame_gd (zp_hasHolder _ e06 _) (zp_isHolder _ _ s1 _) (fun gx => ?_)
  obtain ⟨a, ha, rfl⟩ := zw_invh gx
  refine zSame_gd (zp_within _ _ _) (zp_in _ _ _) (fun gx => ?_)
  obtain ⟨k, -, hk9, rfl⟩ := zw_inv (a := 0) (b := 9) gx
  have a0 : ¬ nI a < 0 := nI_pos (by omega)
  have hA := zCa_bd hc5 hc hk
  have hle := zCo_le (v := v) nc (nI a)
  have ec : f_X2_commonOf v (nI a) = some (nI (zCo v nc (nI a))) := by rw [zp_commonOf v e00 hc5, zCo_N hc hk]
  have em : f_X10_commonOf w j (nI a) = some (nI (zCo v nc (nI a))) := by rw [zp_mcommonOf w j hc5 hnh s0 hc hk _ a0, zCo_N hc hk]
  have eca : f_X2_commonOfAll v = some (nI (zCa v nc)) := by rw [zp_commonOfAll v e00 hc5, zCa_N hc hk]
  have ema : f_X10_commonOf w j (-1) = some (nI (zCa v nc)) := by rw [zp_mcommonOfAll w j hc5 hnh s0 hc hk, zCa_N hc hk]
  obtain ⟨N, -, t1, t2⟩ := zr_takeableOf j hn (nI a)
  have ca : (nI a).toNatClampNeg = a := nI_clamp (by omega)
  by_cases k5 : k = 5
  · subst k5
    rw [if_pos (show nI 5 = 5 by decide), if_pos (show nI 5 = 5 by decide), ec, zp_zb, em, zp_zb]; exact ⟨_, rfl, rfl⟩
  have z5 : ¬ nI k = 5 := fun q => k5 ((nI_eq (a := k) (b := 5) (by omega) (by omega)).mp q)
  rw [if_neg z5, if_neg z5]
  by_cases k6 : k = 6
  · subst k6
    rw [if_pos (show nI 6 = 6 by decide), if_pos (show nI 6 = 6 by decide), zp_zA (show a < 8 by omega) (by omega), ca]
    rcases zRh_left hh htm ha with ⟨l1, l2⟩ | ⟨l, hl, l1, l2⟩
    · rw [l1, if_pos rfl, zp_hasLeft w j (by omega) l2 (by omega), if_pos rfl, zp_zb, if_pos rfl]; exact ⟨_, rfl, rfl⟩
    · rw [l1, if_neg (zp_neg1 (by omega)), zp_hasLeft w j (by omega) l2 (by omega), if_neg (by omega), zp_zb, if_neg (show ¬ (1 : Int32) = 0 by decide), zp_53, zp_zA (by omega) (by omega), nI_clamp (by omega), l2, nI_pred]; exact ⟨_, rfl, rfl⟩
  have z6 : ¬ nI k = 6 := fun q => k6 ((nI_eq (a := k) (b := 6) (by omega) (by omega)).mp q)
  rw [if_neg z6, if_neg z6]
  by_cases k7 : k = 7
  · subst k7
    rw [if_pos (show nI 7 = 7 by decide), if_pos (show nI 7 = 7 by decide), zp_sizeOf, zp_zb, zp_certificatesOf, zp_zb, zr_sizeOf hnh hc (show a < 8 by omega)]; exact ⟨_, rfl, rfl⟩
  have z7 : ¬ nI k = 7 := fun q => k7 ((nI_eq (a := k) (b := 7) (by omega) (by omega)).mp q)
  rw [if_neg z7, if_neg z7]
  by_cases k8 : k = 8
  · subst k8
    rw [if_pos (show nI 8 = 8 by decide), if_pos (show nI 8 = 8 by decide), t1, t2, zp_zb]; exact ⟨_, rfl, rfl⟩
  have z8 : ¬ nI k = 8 := fun q => k8 ((nI_eq (a := k) (b := 8) (by omega) (by omega)).mp q)
  rw [if_neg z8, if_neg z8]
  by_cases k9 : k = 9
  · subst k9
    unfold f_X2_thousandths
    rw [if_pos (show nI 9 = 9 by decide), if_pos (show nI 9 = 9 by decide), zb_id, eca, ema, zp_zb, zp_zb]
    by_cases z : zCa v nc = 0
    · rw [z, if_pos (show nI 0 = 0 by decide), if_pos (show nI 0 = 0 by decide)]; exact ⟨_, rfl, rfl⟩
    · unfold zDl
      rw [if_neg (nI_ne0 (by omega) (by omega)), if_neg (nI_ne0 (by omega) (by omega)), ec, em, zp_zb, zp_zb, show (1000 : Int32) = nI 1000 from rfl, zp_portion (by omega) (by omega) (by omega), zb_id, zp_zb, nI_l (by omega), nI_l (by omega), if_neg (zp_lne z (by omega)), show (1000 : Int64) = lN 1000 from rfl, lN_mul, pk_lDiv (by omega) (by omega) (by omega), lN_i]; exact ⟨_, rfl, rfl⟩
  have z9 : ¬ nI k = 9 := fun q => k9 ((nI_eq (a := k) (b := 9) (by omega) (by omega)).mp q)
  rw [if_neg z9, if_neg z9, zp_sharesOwned2, zp_zb, zp_sharesOfHolder2 w j hnh hc _ _ a0, zp_zb]; exact ⟨_, rfl, rfl⟩
theorem zo_count {v w : zV} {bh : zH} {bt bd be br : zV} (j : zJ) (h : zR v (w 1)) (hs : w 0 0 = bh.1) (hl : w 0 1 = bt 0 0) (x : Int32) : zSame (f_X9_count v bd bh be bt br x) (f_X10_count w j x) := by
  obtain ⟨nc, nh, ng, tm, hn⟩ := h
  have hn0 := hn
  obtain ⟨⟨hc1, hc5, hnh, hng, htm, e00, e06, e01, e07, s0, s1, s2, s3, s4, s5, s6, s7⟩, hk, hh, hc, hg, hr⟩ := hn0
  unfold f_X9_count f_X10_count f_X2_aboutAll
  rw [zb_id]
  by_cases h0 : x = 0
  · subst h0; exact ⟨nI nc, congrArg some e00, congrArg some s0⟩
  by_cases h1 : x = 1
  · subst h1; exact ⟨nI nh, congrArg some e06, congrArg some s1⟩
  by_cases h2 : x = 2
  · subst h2
    refine ⟨nI (zcn v), ?_, ?_⟩
    · show (zb (f_X0_size v) fun y4 => some y4) = _
      rw [zb_id, zp_size2]
    · show (zb (f_X10_certificates w j) fun y4 => some y4) = _
      rw [zb_id, zp_certificates2 w j hnh hc]
  by_cases h3 : x = 3
  · subst h3; exact ⟨nI ng, congrArg some e01, congrArg some s2⟩
  by_cases h4 : x = 4
  · subst h4; exact ⟨nI tm, congrArg some e07, congrArg some s3⟩
  by_cases h5 : x = 5
  · subst h5
    refine ⟨nI (zCa v nc), ?_, ?_⟩
    · show (zb (f_X2_commonOfAll v) fun y4 => some y4) = _
      rw [zb_id, zp_commonOfAll v e00 hc5, zCa_N hc hk]
    · show (zb (f_X10_commonOf w j (-1)) fun y4 => some y4) = _
      rw [zb_id, zp_mcommonOfAll w j hc5 hnh s0 hc hk, zCa_N hc hk]
  by_cases h6 : x = 6
  · subst h6
    rcases zRr_on hr with ⟨o1, o2⟩ | ⟨o1, o2⟩
    · refine ⟨0, ?_, congrArg some o2⟩
      show (if v 0 2 = 0 then some (0 : Int32) else some 1) = some 0
      rw [o1, if_pos rfl]
    · refine ⟨1, ?_, congrArg some o2⟩
      show (if v 0 2 = 0 then some (0 : Int32) else some 1) = some 1
      rw [o1, if_neg (by decide)]
  by_cases h7 : x = 7
  · subst h7; exact ⟨v 0 8, rfl, congrArg some s4⟩
  by_cases h8 : x = 8
  · subst h8; exact ⟨v 0 9, rfl, congrArg some s5⟩
  by_cases h9 : x = 9
  · subst h9; exact ⟨v 0 10, rfl, congrArg some s6⟩
  by_cases h10 : x = 10
  · subst h10; exact ⟨v 0 11, rfl, congrArg some s7⟩
  rw [if_neg h0, if_neg h1, if_neg h2, if_neg h3, if_neg h4, if_neg h5, if_neg h6, if_neg h7, if_neg h8, if_neg h9, if_neg h10, if_neg h0, if_neg h1, if_neg h2, if_neg h3, if_neg h4, if_neg h5, if_neg h6, if_neg h7, if_neg h8, if_neg h9, if_neg h10, hs, hl]
  by_cases h11 : x = 11
  · rw [if_pos h11]; exact ⟨_, rfl, rfl⟩
  · rw [if_neg h11]
    by_cases h12 : x = 12
    · rw [if_pos h12]; exact ⟨_, rfl, rfl⟩
    · rw [if_neg h12]; exact ⟨_, rfl, rfl⟩
