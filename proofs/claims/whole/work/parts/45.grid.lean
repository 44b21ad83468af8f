/-! ===== fit ===== -/
theorem boAt_n {σ : Sg} {x y z : Nat} (hx : x < 6) (hy : y < 6) (hz : z < 5) : boAt σ (nI x) (nI y) (nI z) = sBo σ (36 * z + 6 * y + x) := by
  unfold boAt; rw [if_pos (inP_at hx hy hz), ix3_n hx hy hz]
theorem grAt_n {σ : Sg} {x y z : Nat} (hx : x < 6) (hy : y < 6) (hz : z < 5) : grAt σ (nI x) (nI y) (nI z) = sGr σ (36 * z + 6 * y + x) := by
  unfold grAt; rw [if_pos (inP_at hx hy hz), ix3_n hx hy hz]
theorem f_colourOf {σ : Sg} {h : Hp} (hw : Wf σ) (hc : RepC σ h) {b : Nat} (hb : b < sN σ) : F_X2_colourOf (nI b) h = some (nI (sC σ b)) := by
  have h40 := hw.1
  unfold F_X2_colourOf
  rw [f_exists hc, n_inN hb (by omega), ob_s, if_neg b1_, rA_n h 17 40 _ (by omega) (by decide), (hc.2.2.2.1 b hb).2.2.2.2.2]
def flt (σ : Sg) (c : Nat) : Int32 := match sGr σ c with
  | none => if sBo σ c = 0 then -1 else 0
  | some b => if sBo σ c = 0 then 2 else if sC σ b = sBo σ c then -1 else if inB σ (nI (c % 6)) (nI (c / 6 % 6)) (nI (c / 36)) = true then -1 else 1
theorem f_fault {σ : Sg} {h : Hp} (hw : Wf σ) (hc : RepC σ h) {x y z : Nat} (hx : x < 6) (hy : y < 6) (hz : z < 5) : F_X6_fault (nI x) (nI y) (nI z) h = some (flt σ (36 * z + 6 * y + x)) := by
  have h40 := hw.1
  have hbo := hw.2.1 (36 * z + 6 * y + x)
  unfold F_X6_fault flt
  rw [f_colourAt hc, ob_s, f_brickAt hc, ob_s, boAt_n hx hy hz, grAt_n hx hy hz, f_isInnerC hw hc, show (36 * z + 6 * y + x) % 6 = x by omega, show (36 * z + 6 * y + x) / 6 % 6 = y by omega, show (36 * z + 6 * y + x) / 36 = z by omega]
  cases hg : sGr σ (36 * z + 6 * y + x) with
  | none =>
    rw [if_pos (show gvB none = -1 from rfl)]
    by_cases h0 : sBo σ (36 * z + 6 * y + x) = 0
    · rw [if_pos ((nI_ze (by omega)).mpr h0)]; simp only [h0, if_true]
    · rw [if_neg (fun q => h0 ((nI_ze (by omega)).mp q))]; simp only [h0, if_false]
  | some b =>
    have hb := hw.2.2.2.2.1 _ b hg
    have hcb := (hw.2.2.1 b hb).2.2.2.2.2
    rw [if_neg (show ¬ gvB (some b) = -1 from nI_nm1 (by omega))]
    by_cases h0 : sBo σ (36 * z + 6 * y + x) = 0
    · rw [if_pos ((nI_ze (by omega)).mpr h0)]; simp only [h0, if_true]
    · rw [if_neg (fun q => h0 ((nI_ze (by omega)).mp q))]; simp only [h0, if_false]
      show (F_X2_colourOf (nI b) h).bind _ = _
      rw [f_colourOf hw hc hb, ob_s]
      by_cases h1 : sC σ b = sBo σ (36 * z + 6 * y + x)
      · rw [if_pos (by rw [h1]), if_pos h1]
      · rw [if_neg (fun q => h1 ((i_eq (by omega) (by omega)).mp q)), if_neg h1, ob_s]
        cases inB σ (nI x) (nI y) (nI z) <;> rfl
def ftC (σ : Sg) (w : Int32) (c : Nat) : Nat := b1n (decide (flt σ c = w))
theorem l_fit38 {σ : Sg} {h : Hp} (hw : Wf σ) (hc : RepC σ h) (k : Int32 → Int32 → Int32 → Int32 → Hp → Option (Int32 × Hp)) (w : Int32) (a : Nat) {y z : Nat} (hy : y < 6) (hz : z < 5) : F_X6_fit_38 FU_ k w (nI a) (nI z) (nI y) 0 h = k w (nI (a + sumN (fun x => ftC σ w (36 * z + 6 * y + x)) 6)) (nI z) (nI y) h := by
  refine lp_FU (fun n i => F_X6_fit_38 n k w (nI (a + sumN (fun x => ftC σ w (36 * z + 6 * y + x)) i)) (nI z) (nI y) (nI i) h) _ 6 (by decide) (fun n i hi => ?_) (fun n => ?_)
  · show F_X6_fit_38 (n + 1) k _ _ _ _ _ h = _
    rw [F_X6_fit_38, if_neg (show ¬ (6 : Int32) ≤ nI i from (nI_ge (by omega) (by decide) : ¬ nI 6 ≤ nI i)), f_fault hw hc hi hy hz, ob_s]
    unfold F_X6_fit_61
    have e4 : sumN (fun x => ftC σ w (36 * z + 6 * y + x)) (i + 1) = sumN (fun x => ftC σ w (36 * z + 6 * y + x)) i + b1n (decide (flt σ (36 * z + 6 * y + i) = w)) := rfl
    rw [e4]
    by_cases hq : flt σ (36 * z + 6 * y + i) = w
    · rw [if_pos hq, nI_1, nI_1, decide_eq_true hq]; rfl
    · rw [if_neg hq, nI_1, decide_eq_false hq]; rfl
  · show F_X6_fit_38 (n + 1) k _ _ _ _ _ h = _
    rw [F_X6_fit_38, if_pos (show (6 : Int32) ≤ nI 6 by decide)]
theorem l_fit28 {σ : Sg} {h : Hp} (hw : Wf σ) (hc : RepC σ h) (k : Int32 → Int32 → Int32 → Hp → Option (Int32 × Hp)) (w : Int32) (a : Nat) {z : Nat} (hz : z < 5) : F_X6_fit_28 FU_ k w (nI a) (nI z) 0 h = k w (nI (a + sumN (fun y => sumN (fun x => ftC σ w (36 * z + 6 * y + x)) 6) 6)) (nI z) h := by
  refine lp_FU (fun n i => F_X6_fit_28 n k w (nI (a + sumN (fun y => sumN (fun x => ftC σ w (36 * z + 6 * y + x)) 6) i)) (nI z) (nI i) h) _ 6 (by decide) (fun n i hi => ?_) (fun n => ?_)
  · show F_X6_fit_28 (n + 1) k _ _ _ _ h = _
    rw [F_X6_fit_28, if_neg (show ¬ (6 : Int32) ≤ nI i from (nI_ge (by omega) (by decide) : ¬ nI 6 ≤ nI i)), l_fit38 hw hc _ w _ hi hz]
    unfold F_X6_fit_67
    rw [nI_1, Nat.add_assoc]; rfl
  · show F_X6_fit_28 (n + 1) k _ _ _ _ h = _
    rw [F_X6_fit_28, if_pos (show (6 : Int32) ≤ nI 6 by decide)]
def s_fit (σ : Sg) (w : Int32) : Int32 × Nat := if inN w 3 = true then (nI (sumN (ftC σ w) 180), 0) else (-2, 2)
theorem le_of_lt3 (w : Int32) {α : Type} (u v : α) : (if w < 0 then u else if w ≤ 2 then v else u) = if inN w 3 = true then v else u := by
  rw [← two_t]
  by_cases h1 : w < 0
  · simp [h1]
  · have : (w ≤ 2) ↔ ¬ 3 ≤ w := by
      rw [i_leT, i_leT]
      have e2 : (2 : Int32).toInt = 2 := by decide
      have e3 : (3 : Int32).toInt = 3 := by decide
      omega
    by_cases h2 : w ≤ 2
    · simp [h1, h2, this.mp h2]
    · have h3 : 3 ≤ w := by
        rcases Classical.em (3 ≤ w) with q | q
        · exact q
        · exact absurd (this.mpr q) h2
      simp [h1, h2, h3]
theorem C_fit {σ : Sg} {h : Hp} (hw : Wf σ) (hc : RepC σ h) (w : Int32) : F_X6_fit w h = some ((s_fit σ w).1, rC h (s_fit σ w).2) := by
  unfold F_X6_fit s_fit
  rw [le_of_lt3]
  cases hp : inN w 3 with
  | false => rw [if_neg (by decide), c_r2]; rfl
  | true =>
    rw [if_pos rfl, if_pos rfl, sum3]
    refine lp_FU (fun n i => F_X6_fit_20 n w (nI (sumN (fun z => sumN (fun y => sumN (fun x => ftC σ w (36 * z + 6 * y + x)) 6) 6) i)) (nI i) h) _ 5 (by decide) (fun n i hi => ?_) (fun n => ?_)
    · show F_X6_fit_20 (n + 1) _ _ _ h = _
      rw [F_X6_fit_20, if_neg (show ¬ (5 : Int32) ≤ nI i from (nI_ge (by omega) (by decide) : ¬ nI 5 ≤ nI i)), l_fit28 hw hc _ w _ hi]
      unfold F_X6_fit_73
      rw [nI_1]; rfl
    · show F_X6_fit_20 (n + 1) _ _ _ h = _
      rw [F_X6_fit_20, if_pos (show (5 : Int32) ≤ nI 5 by decide)]; rfl
theorem gvM_neg {σ : Sg} (hw : Wf σ) (c : Nat) : gvM (sGr σ c) < 0 ↔ sGr σ c = none := by
  cases hg : sGr σ c with
  | none => exact ⟨fun _ => rfl, fun _ => by decide⟩
  | some b => exact ⟨fun q => absurd q (nI_pos (by have := hw.2.2.2.2.1 c b hg; have := hw.1; omega)), fun q => by cases q⟩
theorem m_fit160 (k : Int32 → Int32 → Int32 → Hp → Option (Int32 × Hp)) (w : Int32) (a c : Nat) (h : Hp) (b : Bool) : F_X7_fit_160 k w (nI a) (nI c) (bi_ b) h = k w (nI (a + b1n b)) (nI (c + 1)) h := by
  unfold F_X7_fit_160 F_X7_fit_173
  cases b with
  | false => rw [if_pos b0_, i_0, nI_add, nI_1]; rfl
  | true => rw [if_neg b1_, show (1 : Int32) = nI 1 from rfl, nI_add, nI_add]; rfl
theorem M_fit {σ : Sg} {h : Hp} (hw : Wf σ) (hm : RepM σ h) (w : Int32) : F_X7_fit w h = some ((s_fit σ w).1, rM h (s_fit σ w).2) := by
  have h40 := hw.1
  unfold F_X7_fit s_fit
  rw [f_isIn, ob_s]
  cases hp : inN w 3 with
  | false => rw [if_pos b0_, m_r2]; rfl
  | true =>
    rw [if_neg b1_, if_pos rfl]
    obtain ⟨v, hv, rfl⟩ := inN_n (n := 3) (by decide) hp
    refine lp_FU (fun n i => F_X7_fit_19 n (nI v) (nI (sumN (ftC σ (nI v)) i)) (nI i) h) _ 180 (by decide) (fun n i hi => ?_) (fun n => ?_)
    · show F_X7_fit_19 (n + 1) _ _ _ h = _
      have hbo := hw.2.1 i
      obtain ⟨e1, e2, e3⟩ := c_coord hi
      have es : sumN (ftC σ (nI v)) (i + 1) = sumN (ftC σ (nI v)) i + b1n (decide (flt σ i = nI v)) := rfl
      have k0 := m_fit160 (F_X7_fit_19 n) (nI v) (sumN (ftC σ (nI v)) i) i h false
      have k1 := m_fit160 (F_X7_fit_19 n) (nI v) (sumN (ftC σ (nI v)) i) i h true
      rw [bi_f] at k0
      rw [bi_t] at k1
      rw [F_X7_fit_19, if_neg (show ¬ (180 : Int32) ≤ nI i from (nI_ge hi (by decide) : ¬ nI 180 ≤ nI i)), rA_n h 39 180 _ hi (by decide), hm.1 i hi, es]
      unfold F_X7_fit_40
      simp only [rA_n h 40 180 _ hi (by decide), hm.2.1 i hi, gvM_neg hw]
      have hv' : v = 0 ∨ v = 1 ∨ v = 2 := by omega
      cases hg : sGr σ i with
      | none =>
        simp only [if_true]
        unfold F_X7_fit_56 F_X7_fit_76 F_X7_fit_141 F_X7_fit_159
        by_cases h0 : sBo σ i = 0
        · rw [if_pos ((nI_le0 (by omega)).mpr h0)]
          have ef : flt σ i = -1 := by unfold flt; rw [hg]; simp only [h0, if_true]
          rcases hv' with rfl | rfl | rfl
          · rw [ef, if_pos rfl, if_pos rfl, k0]; rfl
          · rw [ef, if_neg (by decide), if_pos (by decide), if_pos rfl, k0]; rfl
          · rw [ef, if_neg (by decide), if_neg (by decide), if_pos rfl, k0]; rfl
        · rw [if_neg (fun q => h0 ((nI_le0 (by omega)).mp q))]
          have ef : flt σ i = 0 := by unfold flt; rw [hg]; simp only [h0, if_false]
          rcases hv' with rfl | rfl | rfl
          · rw [ef, if_pos (show nI 0 = 0 from rfl), if_neg (by decide), if_pos rfl, k1]; rfl
          · rw [ef, if_neg (by decide), if_pos (by decide), if_neg (by decide), if_pos rfl, k0]; rfl
          · rw [ef, if_neg (by decide), if_neg (by decide), if_pos rfl, k0]; rfl
      | some b =>
        have hb := hw.2.2.2.2.1 _ b hg
        have hcb := (hw.2.2.1 b hb).2.2.2.2.2
        simp only [reduceCtorEq, if_false]
        unfold F_X7_fit_56 F_X7_fit_76 F_X7_fit_141 F_X7_fit_159
        by_cases h0 : sBo σ i = 0
        · rw [if_pos ((nI_le0 (by omega)).mpr h0)]
          have ef : flt σ i = 2 := by unfold flt; rw [hg]; simp only [h0, if_true]
          rcases hv' with rfl | rfl | rfl
          · rw [ef, if_pos rfl, if_pos rfl, k0]; rfl
          · rw [ef, if_neg (by decide), if_pos (by decide), if_pos rfl, k0]; rfl
          · rw [ef, if_neg (by decide), if_neg (by decide), if_neg (by decide), if_pos rfl, k1]; rfl
        · rw [if_neg (fun q => h0 ((nI_le0 (by omega)).mp q))]
          rcases hv' with rfl | rfl | rfl
          · have ef : ¬ flt σ i = nI 0 := by
              unfold flt; rw [hg]; simp only [h0, if_false]
              split
              · decide
              · split <;> decide
            rw [decide_eq_false ef, if_pos (show nI 0 = 0 from rfl), if_neg (by decide), if_neg (by decide), k0]
          · rw [if_neg (by decide), if_pos (by decide), if_neg (by decide), if_neg (by decide)]
            rw [rA_n h 40 180 _ hi (by decide), hm.2.1 i hi, hg]
            show rA_ h 47 40 (nI b) _ = _
            rw [rA_n h 47 40 _ (by omega) (by decide), rA_n h 39 180 _ hi (by decide), hm.1 i hi, (hm.2.2.2.1 b hb).2.2.2.2.2]
            by_cases h1 : sC σ b = sBo σ i
            · have ef : flt σ i = -1 := by unfold flt; rw [hg]; simp only [h0, if_false, h1, if_true]
              rw [if_pos (by rw [h1]), k0, ef]; rfl
            · rw [if_neg (fun q => h1 ((i_eq (by omega) (by omega)).mp q)), e1, e2, e3, f_isInnerM hw hm, ob_s]
              have ef : flt σ i = if inB σ (nI (i % 6)) (nI (i / 6 % 6)) (nI (i / 36)) = true then -1 else 1 := by unfold flt; rw [hg]; simp only [h0, if_false, h1]
              cases hq : inB σ (nI (i % 6)) (nI (i / 6 % 6)) (nI (i / 36)) with
              | false => rw [if_pos b0_, k1, ef, hq]; rfl
              | true => rw [if_neg b1_, k0, ef, hq]; rfl
          · have ef : ¬ flt σ i = nI 2 := by
              unfold flt; rw [hg]; simp only [h0, if_false]
              split
              · decide
              · split <;> decide
            rw [decide_eq_false ef, if_neg (by decide), if_neg (by decide), if_neg (by decide), if_neg (by decide), k0]
    · show F_X7_fit_19 (n + 1) _ _ _ h = _
      rw [F_X7_fit_19, if_pos (show (180 : Int32) ≤ nI 180 by decide)]; rfl
/-! ===== cells of the body ===== -/
def clC (σ : Sg) (c : Nat) : Nat := b1n (sBo σ c != 0)
theorem C_countCells {σ : Sg} {h : Hp} (hw : Wf σ) (hc : RepC σ h) : F_X0_countCells h = some (nI (sumN (clC σ) 180)) := by
  unfold F_X0_countCells
  refine lp_FU (fun n i => F_X0_countCells_4 n (nI (sumN (clC σ) i)) (nI i) h) _ 180 (by decide) (fun n i hi => ?_) (fun n => ?_)
  · show F_X0_countCells_4 (n + 1) _ _ h = _
    have hbo := hw.2.1 i
    rw [F_X0_countCells_4, if_neg (show ¬ (180 : Int32) ≤ nI i from (nI_ge hi (by decide) : ¬ nI 180 ≤ nI i)), rA_n h 8 180 _ hi (by decide), hc.1 i hi]
    unfold F_X0_countCells_23
    have es : sumN (clC σ) (i + 1) = sumN (clC σ) i + b1n (sBo σ i != 0) := rfl
    by_cases h0 : sBo σ i = 0
    · rw [if_pos ((nI_ze (by omega)).mpr h0), nI_1, es, h0]; rfl
    · rw [if_neg (fun q => h0 ((nI_ze (by omega)).mp q)), nI_1, nI_1, es, show (sBo σ i != 0) = true by simp [h0]]; rfl
  · show F_X0_countCells_4 (n + 1) _ _ h = _
    rw [F_X0_countCells_4, if_pos (show (180 : Int32) ≤ nI 180 by decide)]
theorem M_countCells {σ : Sg} {h : Hp} (hw : Wf σ) (hm : RepM σ h) : F_X7_count_66 FU_ 0 0 h = some (nI (sumN (clC σ) 180), h) := by
  refine lp_FU (fun n i => F_X7_count_66 n (nI (sumN (clC σ) i)) (nI i) h) _ 180 (by decide) (fun n i hi => ?_) (fun n => ?_)
  · show F_X7_count_66 (n + 1) _ _ h = _
    have hbo := hw.2.1 i
    rw [F_X7_count_66, if_neg (show ¬ (180 : Int32) ≤ nI i from (nI_ge hi (by decide) : ¬ nI 180 ≤ nI i)), rA_n h 39 180 _ hi (by decide), hm.1 i hi]
    unfold F_X7_count_88
    have es : sumN (clC σ) (i + 1) = sumN (clC σ) i + b1n (sBo σ i != 0) := rfl
    by_cases h0 : sBo σ i = 0
    · rw [if_pos ((nI_le0 (by omega)).mpr h0), nI_1, es, h0, i_0, nI_add]; rfl
    · rw [if_neg (fun q => h0 ((nI_le0 (by omega)).mp q)), nI_1, nI_1, es, show (sBo σ i != 0) = true by simp [h0]]; rfl
  · show F_X7_count_66 (n + 1) _ _ h = _
    rw [F_X7_count_66, if_pos (show (180 : Int32) ≤ nI 180 by decide)]
