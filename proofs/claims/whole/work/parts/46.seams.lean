/-! ===== seams ===== -/
def twoB (a b : Option Nat) : Bool := match a, b with
  | some x, some y => decide (x ≠ y)
  | _, _ => false
theorem f_areTwo {σ : Sg} (hw : Wf σ) {a b : Option Nat} (ha : ∀ x, a = some x → x < sN σ) (hb : ∀ x, b = some x → x < sN σ) : F_X2_areTwo (gvB a) (gvB b) = some (bi_ (twoB a b)) := by
  have h40 := hw.1
  unfold F_X2_areTwo
  cases a with
  | none => rfl
  | some x =>
    have hx := ha x rfl
    rw [if_neg (show ¬ gvB (some x) = -1 from nI_nm1 (by omega))]
    cases b with
    | none => rfl
    | some y =>
      have hy := hb y rfl
      rw [if_neg (show ¬ gvB (some y) = -1 from nI_nm1 (by omega))]
      show (if nI x = nI y then some (0 : Int32) else some 1) = some (bi_ (decide (x ≠ y)))
      by_cases h : x = y
      · subst h; rw [if_pos rfl]; simp [bi_]
      · rw [if_neg (fun q => h ((i_eq (by omega) (by omega)).mp q))]; simp [h, bi_]
def sRt (σ : Sg) (x y z : Int32) : Bool := twoB (grAt σ x y z) (grAt σ (x + 1) y z)
def sBh (σ : Sg) (x y z : Int32) : Bool := twoB (grAt σ x y z) (grAt σ x (y + 1) z)
theorem f_seamR {σ : Sg} {h : Hp} (hw : Wf σ) (hc : RepC σ h) (x y z : Int32) : F_X2_isSeamRight x y z h = some (bi_ (sRt σ x y z)) := by
  unfold F_X2_isSeamRight
  rw [f_brickAt hc, ob_s, f_brickAt hc, ob_s, f_areTwo hw (fun b hb => gr_lt hw hb) (fun b hb => gr_lt hw hb), ob_s, bz_bi]; rfl
theorem f_seamB {σ : Sg} {h : Hp} (hw : Wf σ) (hc : RepC σ h) (x y z : Int32) : F_X2_isSeamBehind x y z h = some (bi_ (sBh σ x y z)) := by
  unfold F_X2_isSeamBehind
  rw [f_brickAt hc, ob_s, f_brickAt hc, ob_s, f_areTwo hw (fun b hb => gr_lt hw hb) (fun b hb => gr_lt hw hb), ob_s, bz_bi]; rfl
theorem f_isSeam {σ : Sg} {h : Hp} (hw : Wf σ) (hm : RepM σ h) {c d : Nat} (hc : c < 180) (hd : d < 180) : F_X7_isSeam (nI c) (nI d) h = some (bi_ (twoB (sGr σ c) (sGr σ d))) := by
  have h40 := hw.1
  unfold F_X7_isSeam
  simp only [rA_n h 40 180 _ hc (by decide), rA_n h 40 180 _ hd (by decide), hm.2.1 c hc, hm.2.1 d hd, gvM_neg hw]
  cases hg : sGr σ c with
  | none => rw [if_pos rfl]; rfl
  | some a =>
    rw [if_neg (by simp)]
    cases hg2 : sGr σ d with
    | none => rw [if_pos rfl]; rfl
    | some b =>
      rw [if_neg (by simp)]
      have h1 := hw.2.2.2.2.1 c a hg
      have h2 := hw.2.2.2.2.1 d b hg2
      show (if nI a = nI b then some (0 : Int32) else some 1) = some (bi_ (decide (a ≠ b)))
      by_cases h : a = b
      · subst h; rw [if_pos rfl]; simp [bi_]
      · rw [if_neg (fun q => h ((i_eq (by omega) (by omega)).mp q))]; simp [h, bi_]
/-- what a place adds: the seam to its right, and the one behind it; only over seams if ov -/
def svR (σ : Sg) (ov : Bool) (x y z : Int32) : Nat := b1n (sRt σ x y z && (!ov || sRt σ x y (z - 1)))
def svB (σ : Sg) (ov : Bool) (x y z : Int32) : Nat := b1n (sBh σ x y z && (!ov || sBh σ x y (z - 1)))
theorem c_seam70 {σ : Sg} {h : Hp} (hw : Wf σ) (hc : RepC σ h) (k : Int32 → Int32 → Int32 → Int32 → Int32 → Hp → Option Int32) (ov : Bool) (a : Nat) (x y z : Int32) : F_X2_countSeams_70 k (bi_ ov) (nI a) z y x h = k (bi_ ov) (nI (a + svB σ ov x y z)) z y (x + 1) h := by
  unfold F_X2_countSeams_70 F_X2_countSeams_100 F_X2_countSeams_103 svB
  rw [f_seamB hw hc, ob_s, f_seamB hw hc, ob_s, nI_1]
  cases sBh σ x y z <;> cases ov <;> cases sBh σ x y (z - 1) <;> rfl
theorem c_seam30 {σ : Sg} {h : Hp} (hw : Wf σ) (hc : RepC σ h) (n : Nat) (k : Int32 → Int32 → Int32 → Int32 → Hp → Option Int32) (ov : Bool) (a : Nat) {x : Nat} (hx : x < 6) (y z : Int32) : F_X2_countSeams_30 (n + 1) k (bi_ ov) (nI a) z y (nI x) h = F_X2_countSeams_30 n k (bi_ ov) (nI (a + (svR σ ov (nI x) y z + svB σ ov (nI x) y z))) z y (nI (x + 1)) h := by
  rw [F_X2_countSeams_30, if_neg (show ¬ (6 : Int32) ≤ nI x from (nI_ge (by omega) (by decide) : ¬ nI 6 ≤ nI x)), f_seamR hw hc, ob_s, f_seamR hw hc, ob_s]
  unfold F_X2_countSeams_67
  simp only [nI_1, c_seam70 hw hc]
  rw [← Nat.add_assoc]
  unfold svR
  cases sRt σ (nI x) y z <;> cases ov <;> cases sRt σ (nI x) y (z - 1) <;> rfl
def sv (σ : Sg) (ov : Bool) (c : Nat) : Nat := svR σ ov (nI (c % 6)) (nI (c / 6 % 6)) (nI (c / 36)) + svB σ ov (nI (c % 6)) (nI (c / 6 % 6)) (nI (c / 36))
theorem sv_at {σ : Sg} {ov : Bool} {x y z : Nat} (hx : x < 6) (hy : y < 6) : sv σ ov (36 * z + 6 * y + x) = svR σ ov (nI x) (nI y) (nI z) + svB σ ov (nI x) (nI y) (nI z) := by
  unfold sv
  rw [show (36 * z + 6 * y + x) % 6 = x by omega, show (36 * z + 6 * y + x) / 6 % 6 = y by omega, show (36 * z + 6 * y + x) / 36 = z by omega]
theorem l_seam30 {σ : Sg} {h : Hp} (hw : Wf σ) (hc : RepC σ h) (k : Int32 → Int32 → Int32 → Int32 → Hp → Option Int32) (ov : Bool) (a : Nat) {y : Nat} (hy : y < 6) (z : Nat) : F_X2_countSeams_30 FU_ k (bi_ ov) (nI a) (nI z) (nI y) 0 h = k (bi_ ov) (nI (a + sumN (fun x => sv σ ov (36 * z + 6 * y + x)) 6)) (nI z) (nI y) h := by
  refine lp_FU (fun n i => F_X2_countSeams_30 n k (bi_ ov) (nI (a + sumN (fun x => sv σ ov (36 * z + 6 * y + x)) i)) (nI z) (nI y) (nI i) h) _ 6 (by decide) (fun n i hi => ?_) (fun n => ?_)
  · show F_X2_countSeams_30 (n + 1) k _ _ _ _ _ h = _
    rw [c_seam30 hw hc n k ov _ hi, ← sv_at hi hy, Nat.add_assoc]; rfl
  · show F_X2_countSeams_30 (n + 1) k _ _ _ _ _ h = _
    rw [F_X2_countSeams_30, if_pos (show (6 : Int32) ≤ nI 6 by decide)]
theorem l_seam20 {σ : Sg} {h : Hp} (hw : Wf σ) (hc : RepC σ h) (k : Int32 → Int32 → Int32 → Hp → Option Int32) (ov : Bool) (a z : Nat) : F_X2_countSeams_20 FU_ k (bi_ ov) (nI a) (nI z) 0 h = k (bi_ ov) (nI (a + sumN (fun y => sumN (fun x => sv σ ov (36 * z + 6 * y + x)) 6) 6)) (nI z) h := by
  refine lp_FU (fun n i => F_X2_countSeams_20 n k (bi_ ov) (nI (a + sumN (fun y => sumN (fun x => sv σ ov (36 * z + 6 * y + x)) 6) i)) (nI z) (nI i) h) _ 6 (by decide) (fun n i hi => ?_) (fun n => ?_)
  · show F_X2_countSeams_20 (n + 1) k _ _ _ _ h = _
    rw [F_X2_countSeams_20, if_neg (show ¬ (6 : Int32) ≤ nI i from (nI_ge (by omega) (by decide) : ¬ nI 6 ≤ nI i)), l_seam30 hw hc _ ov _ hi]
    unfold F_X2_countSeams_109
    rw [nI_1, Nat.add_assoc]; rfl
  · show F_X2_countSeams_20 (n + 1) k _ _ _ _ h = _
    rw [F_X2_countSeams_20, if_pos (show (6 : Int32) ≤ nI 6 by decide)]
theorem grAt_off {σ : Sg} {x y z : Int32} (h : inP x y z = false) : grAt σ x y z = none := by unfold grAt; rw [h]; rfl
theorem sv_low (σ : Sg) (x y : Int32) : svR σ true x y (nI 0) = 0 ∧ svB σ true x y (nI 0) = 0 := by
  have e : ∀ x y : Int32, grAt σ x y (nI 0 - 1) = none := fun x y => grAt_off (by unfold inP; rw [show inN (nI 0 - 1) 5 = false by decide]; simp)
  unfold svR svB
  constructor
  · rw [show sRt σ x y (nI 0 - 1) = false by unfold sRt; rw [e, e]; rfl]; simp [b1n]
  · rw [show sBh σ x y (nI 0 - 1) = false by unfold sBh; rw [e, e]; rfl]; simp [b1n]
theorem l_seam12 {σ : Sg} {h : Hp} (hw : Wf σ) (hc : RepC σ h) (ov : Bool) {i0 : Nat} (hi0 : i0 ≤ 5) : F_X2_countSeams_12 FU_ (bi_ ov) (nI (sumN (fun z => sumN (fun y => sumN (fun x => sv σ ov (36 * z + 6 * y + x)) 6) 6) i0)) (nI i0) h = some (nI (sumN (sv σ ov) 180)) := by
  rw [sum3]
  refine lp_run (fun n i => F_X2_countSeams_12 n (bi_ ov) (nI (sumN (fun z => sumN (fun y => sumN (fun x => sv σ ov (36 * z + 6 * y + x)) 6) 6) i)) (nI i) h) _ 5 (fun n i hi => ?_) (fun n => ?_) FU_ i0 hi0 (by unfold FU_; omega)
  · show F_X2_countSeams_12 (n + 1) _ _ _ h = _
    rw [F_X2_countSeams_12, if_neg (show ¬ (5 : Int32) ≤ nI i from (nI_ge (by omega) (by decide) : ¬ nI 5 ≤ nI i)), l_seam20 hw hc]
    unfold F_X2_countSeams_115
    rw [nI_1]; rfl
  · show F_X2_countSeams_12 (n + 1) _ _ _ h = _
    rw [F_X2_countSeams_12, if_pos (show (5 : Int32) ≤ nI 5 by decide)]
theorem C_seams {σ : Sg} {h : Hp} (hw : Wf σ) (hc : RepC σ h) (ov : Bool) : F_X6_seams (bi_ ov) h = some (nI (sumN (sv σ ov) 180)) := by
  unfold F_X6_seams F_X2_countSeams F_X2_countSeams_11
  cases ov with
  | false =>
    rw [if_pos b0_]
    have := l_seam12 hw hc false (i0 := 0) (by decide)
    rw [show F_X2_countSeams_12 FU_ (bi_ false) 0 0 h = _ from this]; rfl
  | true =>
    rw [if_neg b1_]
    have := l_seam12 hw hc true (i0 := 1) (by decide)
    have e : sumN (fun z => sumN (fun y => sumN (fun x => sv σ true (36 * z + 6 * y + x)) 6) 6) 1 = 0 := by
      refine sumN_0 (fun z hz => sumN_0 (fun y hy => sumN_0 (fun x hx => ?_)))
      have hz0 : z = 0 := by omega
      subst hz0
      rw [sv_at hx hy, (sv_low σ _ _).1, (sv_low σ _ _).2]
    rw [e] at this
    rw [show F_X2_countSeams_12 FU_ (bi_ true) 0 1 h = _ from this]; rfl
theorem nI_m36 {c d : Nat} (h : d ≤ c) : nI c - nI d = nI (c - d) := pk_sub h
theorem M_seams {σ : Sg} {h : Hp} (hw : Wf σ) (hm : RepM σ h) (ov : Bool) : F_X7_seams (bi_ ov) h = some (nI (sumN (sv σ ov) 180)) := by
  unfold F_X7_seams
  refine lp_FU (fun n i => F_X7_seams_4 n (bi_ ov) (nI (sumN (sv σ ov) i)) (nI i) h) _ 180 (by decide) (fun n i hi => ?_) (fun n => ?_)
  · show F_X7_seams_4 (n + 1) _ _ _ h = _
    obtain ⟨e1, e2, e3⟩ := c_coord hi
    generalize ha : sumN (sv σ ov) i = a
    have es : sumN (sv σ ov) (i + 1) = a + sv σ ov i := by rw [← ha]; rfl
    rw [es]
    have hx : i % 6 < 6 := by omega
    have hy : i / 6 % 6 < 6 := by omega
    have hz : i / 36 < 5 := by omega
    have hi' : i = 36 * (i / 36) + 6 * (i / 6 % 6) + i % 6 := by omega
    -- the second half
    have k58 : ∀ a, F_X7_seams_58 (F_X7_seams_4 n) (bi_ ov) (nI a) (nI i) h = F_X7_seams_4 n (bi_ ov) (nI (a + svB σ ov (nI (i % 6)) (nI (i / 6 % 6)) (nI (i / 36)))) (nI (i + 1)) h := by
      intro a
      unfold F_X7_seams_58 F_X7_seams_106 F_X7_seams_109
      rw [e2, nI_1, nI_1]
      by_cases hy5 : i / 6 % 6 = 5
      · rw [if_pos (by rw [hy5]; decide)]
        have : sBh σ (nI (i % 6)) (nI (i / 6 % 6)) (nI (i / 36)) = false := by
          unfold sBh
          rw [hy5, grAt_off (show inP (nI (i % 6)) (nI 5 + 1) (nI (i / 36)) = false by unfold inP; rw [show inN (nI 5 + 1) 6 = false by decide]; simp)]
          cases grAt σ (nI (i % 6)) (nI 5) (nI (i / 36)) <;> rfl
        unfold svB; rw [this]; rfl
      · rw [if_neg (show ¬ (5 : Int32) ≤ nI (i / 6 % 6) from (nI_ge (by omega) (by decide) : ¬ nI 5 ≤ nI (i / 6 % 6)))]
        have hb : sBh σ (nI (i % 6)) (nI (i / 6 % 6)) (nI (i / 36)) = twoB (sGr σ i) (sGr σ (i + 6)) := by
          unfold sBh
          rw [nI_1, grAt_n hx hy hz, grAt_n hx (by omega) hz, ← hi', show 36 * (i / 36) + 6 * (i / 6 % 6 + 1) + i % 6 = i + 6 by omega]
        rw [show nI i + 6 = nI (i + 6) from nI_add i 6, f_isSeam hw hm hi (by omega), ob_s, ← hb]
        unfold svB
        cases hq : sBh σ (nI (i % 6)) (nI (i / 6 % 6)) (nI (i / 36)) with
        | false => rw [if_pos b0_]; rfl
        | true =>
          rw [if_neg b1_]
          cases ov with
          | false => rw [if_pos b0_]; rfl
          | true =>
            rw [if_neg b1_]
            by_cases h36 : i < 36
            · rw [if_pos (show nI i < (36 : Int32) from (nI_lt h36 (by decide) : nI i < nI 36))]
              have hz0 : i / 36 = 0 := by omega
              have := (sv_low σ (nI (i % 6)) (nI (i / 6 % 6))).2
              unfold svB at this
              rw [hz0] at hq ⊢
              rw [hq] at this
              rw [this]; rfl
            · rw [if_neg (show ¬ nI i < (36 : Int32) from (nI_nlt (by omega) (by omega) : ¬ nI i < nI 36))]
              have hb2 : sBh σ (nI (i % 6)) (nI (i / 6 % 6)) (nI (i / 36) - 1) = twoB (sGr σ (i - 36)) (sGr σ (i - 30)) := by
                unfold sBh
                rw [show nI (i / 36) - 1 = nI (i / 36 - 1) from pk_sub (a := i / 36) (b := 1) (by omega), nI_1, grAt_n hx hy (by omega), grAt_n hx (by omega) (by omega), show 36 * (i / 36 - 1) + 6 * (i / 6 % 6) + i % 6 = i - 36 by omega, show 36 * (i / 36 - 1) + 6 * (i / 6 % 6 + 1) + i % 6 = i - 30 by omega]
              rw [show nI i - 36 = nI (i - 36) from pk_sub (a := i) (b := 36) (by omega), show nI i - 30 = nI (i - 30) from pk_sub (a := i) (b := 30) (by omega), f_isSeam hw hm (by omega) (by omega), ob_s, ← hb2]
              cases sBh σ (nI (i % 6)) (nI (i / 6 % 6)) (nI (i / 36) - 1) <;> rfl
    rw [F_X7_seams_4, if_neg (show ¬ (180 : Int32) ≤ nI i from (nI_ge hi (by decide) : ¬ nI 180 ≤ nI i)), e1]
    unfold F_X7_seams_55
    rw [nI_1, nI_1, k58, k58]
    unfold sv
    rw [← Nat.add_assoc]
    by_cases hx5 : i % 6 = 5
    · rw [if_pos (by rw [hx5]; decide)]
      have : sRt σ (nI (i % 6)) (nI (i / 6 % 6)) (nI (i / 36)) = false := by
        unfold sRt
        rw [hx5, grAt_off (show inP (nI 5 + 1) (nI (i / 6 % 6)) (nI (i / 36)) = false by unfold inP; rw [show inN (nI 5 + 1) 6 = false by decide]; simp)]
        cases grAt σ (nI 5) (nI (i / 6 % 6)) (nI (i / 36)) <;> rfl
      have e0 : svR σ ov (nI (i % 6)) (nI (i / 6 % 6)) (nI (i / 36)) = 0 := by unfold svR; rw [this]; rfl
      rw [e0]; rfl
    · rw [if_neg (show ¬ (5 : Int32) ≤ nI (i % 6) from (nI_ge (by omega) (by decide) : ¬ nI 5 ≤ nI (i % 6)))]
      have hb : sRt σ (nI (i % 6)) (nI (i / 6 % 6)) (nI (i / 36)) = twoB (sGr σ i) (sGr σ (i + 1)) := by
        unfold sRt
        rw [nI_1, grAt_n hx hy hz, grAt_n (by omega) hy hz, ← hi', show 36 * (i / 36) + 6 * (i / 6 % 6) + (i % 6 + 1) = i + 1 by omega]
      rw [f_isSeam hw hm hi (by omega), ob_s, ← hb]
      cases hq : sRt σ (nI (i % 6)) (nI (i / 6 % 6)) (nI (i / 36)) with
      | false =>
        have e0 : svR σ ov (nI (i % 6)) (nI (i / 6 % 6)) (nI (i / 36)) = 0 := by unfold svR; rw [hq]; rfl
        rw [if_pos b0_, e0]; rfl
      | true =>
        rw [if_neg b1_]
        cases ov with
        | false =>
          have e0 : svR σ false (nI (i % 6)) (nI (i / 6 % 6)) (nI (i / 36)) = 1 := by unfold svR; rw [hq]; rfl
          rw [if_pos b0_, e0]
        | true =>
          rw [if_neg b1_]
          by_cases h36 : i < 36
          · rw [if_pos (show nI i < (36 : Int32) from (nI_lt h36 (by decide) : nI i < nI 36))]
            have hz0 : i / 36 = 0 := by omega
            have e0 := (sv_low σ (nI (i % 6)) (nI (i / 6 % 6))).1
            rw [hz0, e0]; rfl
          · rw [if_neg (show ¬ nI i < (36 : Int32) from (nI_nlt (by omega) (by omega) : ¬ nI i < nI 36))]
            have hb2 : sRt σ (nI (i % 6)) (nI (i / 6 % 6)) (nI (i / 36) - 1) = twoB (sGr σ (i - 36)) (sGr σ (i - 35)) := by
              unfold sRt
              rw [show nI (i / 36) - 1 = nI (i / 36 - 1) from pk_sub (a := i / 36) (b := 1) (by omega), nI_1, grAt_n hx hy (by omega), grAt_n (by omega) hy (by omega), show 36 * (i / 36 - 1) + 6 * (i / 6 % 6) + i % 6 = i - 36 by omega, show 36 * (i / 36 - 1) + 6 * (i / 6 % 6) + (i % 6 + 1) = i - 35 by omega]
            rw [show nI i - 36 = nI (i - 36) from pk_sub (a := i) (b := 36) (by omega), show nI i - 35 = nI (i - 35) from pk_sub (a := i) (b := 35) (by omega), f_isSeam hw hm (by omega) (by omega), ob_s, ← hb2]
            unfold svR
            rw [hq]
            cases sRt σ (nI (i % 6)) (nI (i / 6 % 6)) (nI (i / 36) - 1) <;> rfl
  · show F_X7_seams_4 (n + 1) _ _ _ h = _
    rw [F_X7_seams_4, if_pos (show (180 : Int32) ≤ nI 180 by decide)]
