/-! ===== the edges of the ground, row by row: the class ===== -/
def onE (σ : Sg) (P : Int64) (b r : Nat) : Bool := tb P b && (decide (sZ σ b = 0) && (decide (r = sY σ b) || decide (r = sY σ b + sLy σ b)))
def eL (σ : Sg) (P : Int64) : Nat → Nat → Int32
  | 0, _ => 7
  | b + 1, r => if onE σ P b r = true then mn_ (eL σ P b r) (nI (sX σ b)) else eL σ P b r
def eR (σ : Sg) (P : Int64) : Nat → Nat → Int32
  | 0, _ => -1
  | b + 1, r => if onE σ P b r = true then mx_ (eR σ P b r) (nI (sX σ b + sLx σ b)) else eR σ P b r
def mX (σ : Sg) (b : Nat) : Nat := sLx σ b * sLy σ b * (sX σ b + (sX σ b + sLx σ b))
def mY (σ : Sg) (b : Nat) : Nat := sLx σ b * sLy σ b * (sY σ b + (sY σ b + sLy σ b))
def mS (f : Nat → Nat) (P : Int64) : Nat → Nat := sumN (fun b => if tb P b = true then f b else 0)
theorem f_clear (h : Hp) : ∃ h1, F_X4_clearEdges h = some h1 ∧ (∀ r, r < 7 → gA_ h1 31 r = 7) ∧ ∀ r, r < 7 → gA_ h1 32 r = -1 := by
  have k1 : ∀ (v : Int32) h, F_J7_fill_53178_31 v h = some (rowW 31 v 0 7 h) := fun v h => by
    unfold F_J7_fill_53178_31
    refine lp_FU (fun n i => F_J7_fill_53178_31_5 n v (nI i) 7 (rowW 31 v 0 i h)) _ 7 (by decide) (fun n i hi => ?_) (fun n => ?_)
    · show F_J7_fill_53178_31_5 (n + 1) _ _ _ _ = _
      rw [F_J7_fill_53178_31_5, if_neg (show ¬ (7 : Int32) ≤ nI i from (nI_ge hi (by decide) : ¬ nI 7 ≤ nI i)), wA_n _ 31 7 _ _ hi (by decide), show nI i + 1 = nI (i + 1) from nI_add i 1]
      show _ = F_J7_fill_53178_31_5 n _ _ _ (rowW 31 v 0 (i + 1) h)
      rw [rowW, Nat.zero_add]
    · show F_J7_fill_53178_31_5 (n + 1) _ _ _ _ = _
      rw [F_J7_fill_53178_31_5, if_pos (by decide)]
  have k2 : ∀ (v : Int32) h, F_J7_fill_53178_32 v h = some (rowW 32 v 0 7 h) := fun v h => by
    unfold F_J7_fill_53178_32
    refine lp_FU (fun n i => F_J7_fill_53178_32_5 n v (nI i) 7 (rowW 32 v 0 i h)) _ 7 (by decide) (fun n i hi => ?_) (fun n => ?_)
    · show F_J7_fill_53178_32_5 (n + 1) _ _ _ _ = _
      rw [F_J7_fill_53178_32_5, if_neg (show ¬ (7 : Int32) ≤ nI i from (nI_ge hi (by decide) : ¬ nI 7 ≤ nI i)), wA_n _ 32 7 _ _ hi (by decide), show nI i + 1 = nI (i + 1) from nI_add i 1]
      show _ = F_J7_fill_53178_32_5 n _ _ _ (rowW 32 v 0 (i + 1) h)
      rw [rowW, Nat.zero_add]
    · show F_J7_fill_53178_32_5 (n + 1) _ _ _ _ = _
      rw [F_J7_fill_53178_32_5, if_pos (by decide)]
  unfold F_X4_clearEdges
  rw [k1, ob_s, k2, ob_s]
  refine ⟨_, rfl, fun r hr => ?_, fun r hr => ?_⟩
  · rw [rowW_o (by decide), rowW_a, if_pos (by omega)]
  · rw [rowW_a, if_pos (by omega)]
def wd (h : Hp) (r : Nat) (u v : Int32) : Hp := sA_ (sA_ h 31 r (mn_ (gA_ h 31 r) u)) 32 r (mx_ (gA_ h 32 r) v)
theorem f_widen (h : Hp) {r : Nat} (hr : r < 7) (u v : Int32) : F_X4_widenEdge (nI r) u v h = some (wd h r u v) := by
  unfold F_X4_widenEdge wd
  rw [if_neg (i_n0 (by omega)), if_neg (show ¬ (6 : Int32) < nI r from (nI_nlt (by omega) (by decide) : ¬ nI 6 < nI r)), rA_n _ 31 7 _ hr (by decide), wA_n _ 31 7 _ _ hr (by decide), rA_n _ 32 7 _ hr (by decide), wA_n _ 32 7 _ _ hr (by decide), gA_sA, if_neg (by decide)]
theorem wd_31 (h : Hp) (y : Nat) (u v : Int32) (r : Nat) : gA_ (wd h y u v) 31 r = if r = y then mn_ (gA_ h 31 r) u else gA_ h 31 r := by
  unfold wd
  rw [gA_sA, if_neg (by decide), gA_sA, if_pos rfl]
  by_cases q : r = y
  · subst q; rw [pk_us, if_pos rfl]
  · rw [pk_un q, if_neg q]
theorem wd_32 (h : Hp) (y : Nat) (u v : Int32) (r : Nat) : gA_ (wd h y u v) 32 r = if r = y then mx_ (gA_ h 32 r) v else gA_ h 32 r := by
  unfold wd
  rw [gA_sA, if_pos rfl]
  by_cases q : r = y
  · subst q; rw [pk_us, if_pos rfl]
  · rw [pk_un q, if_neg q, gA_sA, if_neg (by decide)]
theorem wd_sm (h : Hp) (y : Nat) (u v : Int32) : Sm [] [] [31, 32] [] h (wd h y u v) := sm_A (k := 31) (by decide) rfl (sm_A (k := 32) (by decide) rfl sm_rf)
theorem wd2_31 (h : Hp) {y z : Nat} (hyz : y ≠ z) (u v : Int32) (r : Nat) : gA_ (wd (wd h y u v) z u v) 31 r = if r = y ∨ r = z then mn_ (gA_ h 31 r) u else gA_ h 31 r := by
  rw [wd_31, wd_31]
  by_cases q : r = z
  · rw [if_pos q, if_neg (by omega), if_pos (Or.inr q)]
  · rw [if_neg q]
    by_cases q2 : r = y
    · rw [if_pos q2, if_pos (Or.inl q2)]
    · rw [if_neg q2, if_neg (by omega)]
theorem wd2_32 (h : Hp) {y z : Nat} (hyz : y ≠ z) (u v : Int32) (r : Nat) : gA_ (wd (wd h y u v) z u v) 32 r = if r = y ∨ r = z then mx_ (gA_ h 32 r) v else gA_ h 32 r := by
  rw [wd_32, wd_32]
  by_cases q : r = z
  · rw [if_pos q, if_neg (by omega), if_pos (Or.inr q)]
  · rw [if_neg q]
    by_cases q2 : r = y
    · rw [if_pos q2, if_pos (Or.inl q2)]
    · rw [if_neg q2, if_neg (by omega)]
/-- the loop over the bricks -/
theorem C_stands31 {σ : Sg} (hw : Wf σ) {P : Int64} (hP : ∀ b, tb P b = true → sTh σ b = true) (W : Int32) : ∀ p n i h, p + i = sN σ → p < n → RepC σ h → (∀ r, r < 7 → gA_ h 31 r = eL σ P i r) → (∀ r, r < 7 → gA_ h 32 r = eR σ P i r) → ∃ h1, F_X4_stands_31 n P W (nI (mS (mX σ) P i)) (nI (mS (mY σ) P i)) (nI i) h = ((F_X4_isWithinEdges (nI (mS (mX σ) P (sN σ))) (nI (mS (mY σ) P (sN σ))) W h1).bind fun v => bz_ v fun z => some (z, h1)) ∧ (∀ r, r < 7 → gA_ h1 31 r = eL σ P (sN σ) r) ∧ (∀ r, r < 7 → gA_ h1 32 r = eR σ P (sN σ) r) := by
  have h40 := hw.1
  intro p
  induction p with
  | zero =>
    intro n i h hp hn hc h1 h2
    obtain ⟨n, rfl⟩ : ∃ k, n = k + 1 := ⟨n - 1, by omega⟩
    have hi : i = sN σ := by omega
    subst hi
    rw [F_X4_stands_31]
    unfold F_X2_ever
    rw [ob_s, hc.2.2.1, if_pos (nI_le (Nat.le_refl _) (by omega))]
    exact ⟨h, rfl, h1, h2⟩
  | succ p ih =>
    intro n i h hp hn hc h1 h2
    obtain ⟨n, rfl⟩ : ∃ k, n = k + 1 := ⟨n - 1, by omega⟩
    have hi : i < sN σ := by omega
    obtain ⟨a1, a2, a3, a4, a5, a6⟩ := hw.2.2.1 i hi
    have l2 : 1 ≤ sLy σ i := (lY_le a1).1
    rw [F_X4_stands_31]
    unfold F_X2_ever F_X4_stands_208
    rw [ob_s, hc.2.2.1, if_neg (nI_ge hi (by omega)), show nI i + 1 = nI (i + 1) from nI_add i 1]
    by_cases q : tb P i = true
    · have t0 : F_X2_told (nI i) 0 h = some (nI (sK σ i)) := by rw [told_n hw hc hi, if_pos (by decide)]
      have t1 : F_X2_told (nI i) 1 h = some (nI (sT σ i)) := by rw [told_n hw hc hi, if_neg (by decide), if_pos (by decide)]
      have t2 : F_X2_told (nI i) 2 h = some (nI (sX σ i)) := by rw [told_n hw hc hi, if_neg (by decide), if_neg (by decide), if_pos (by decide)]
      have t3 : F_X2_told (nI i) 3 h = some (nI (sY σ i)) := by rw [told_n hw hc hi, if_neg (by decide), if_neg (by decide), if_neg (by decide), if_pos (by decide)]
      have e1 : nI (mS (mX σ) P i) + nI (sLx σ i * sLy σ i) * (nI (sX σ i) + (nI (sX σ i) + nI (sLx σ i))) = nI (mS (mX σ) P (i + 1)) := by
        rw [nI_add, nI_add, pk_mul, nI_add]; unfold mS; rw [sumN, if_pos q]; rfl
      have e2 : nI (mS (mY σ) P i) + nI (sLx σ i * sLy σ i) * (nI (sY σ i) + (nI (sY σ i) + nI (sLy σ i))) = nI (mS (mY σ) P (i + 1)) := by
        rw [nI_add, nI_add, pk_mul, nI_add]; unfold mS; rw [sumN, if_pos q]; rfl
      have g : (lu_ (gJ_ h 140) (nI i) &&& 1 = 1) ↔ sZ σ i = 0 := by
        rw [lu1_1 _ (by omega), hc.2.2.2.2.2.2.2.1 i, hP i q, Bool.true_and, decide_eq_true_iff]
      rw [if_pos ((lu1_1 P (by omega)).mpr q), f_sizeOf hw hc hi, ob_s, t2, ob_s, t3, ob_s, t0, ob_s, t1, ob_s, f_alongX a1 a2, ob_s, ob_s, ob_s, f_alongY a1 a2, ob_s, bd_e, bd_e]
      rw [show lX (sK σ i) (sT σ i) = sLx σ i from rfl, show lY (sK σ i) (sT σ i) = sLy σ i from rfl, e1, e2]
      unfold F_X2_ground
      rw [ob_s]
      by_cases hz : sZ σ i = 0
      · rw [if_pos (g.mpr hz), f_widen _ (by omega), ob_s, nI_add, nI_add, f_widen _ (by omega), ob_s]
        have o1 : ∀ r, onE σ P i r = true ↔ r = sY σ i ∨ r = sY σ i + sLy σ i := fun r => by
          unfold onE
          rw [q, decide_eq_true hz, Bool.true_and, Bool.true_and, Bool.or_eq_true, decide_eq_true_iff, decide_eq_true_iff]
        refine ih n (i + 1) _ (by omega) (by omega) ?_ (fun r hr => ?_) (fun r hr => ?_)
        · exact (hc.sm (wd_sm _ _ _ _) (by decide)).sm (wd_sm _ _ _ _) (by decide)
        · rw [wd2_31 h (by omega), h1 r hr, eL]
          by_cases w : r = sY σ i ∨ r = sY σ i + sLy σ i
          · rw [if_pos w, if_pos ((o1 r).mpr w)]
          · rw [if_neg w, if_neg (fun y => w ((o1 r).mp y))]
        · rw [wd2_32 h (by omega), h2 r hr, eR]
          by_cases w : r = sY σ i ∨ r = sY σ i + sLy σ i
          · rw [if_pos w, if_pos ((o1 r).mpr w)]
          · rw [if_neg w, if_neg (fun y => w ((o1 r).mp y))]
      · rw [if_neg (fun r => hz (g.mp r))]
        exact ih n (i + 1) h (by omega) (by omega) hc (fun r hr => by rw [h1 r hr, eL]; unfold onE; rw [decide_eq_false hz, Bool.false_and, Bool.and_false, if_neg (by decide)]) (fun r hr => by rw [h2 r hr, eR]; unfold onE; rw [decide_eq_false hz, Bool.false_and, Bool.and_false, if_neg (by decide)])
    · have e1 : mS (mX σ) P (i + 1) = mS (mX σ) P i := by unfold mS; rw [sumN, if_neg q]; rfl
      have e2 : mS (mY σ) P (i + 1) = mS (mY σ) P i := by unfold mS; rw [sumN, if_neg q]; rfl
      rw [if_neg (fun r => q ((lu1_1 P (by omega)).mp r))]
      have := ih n (i + 1) h (by omega) (by omega) hc (fun r hr => by rw [h1 r hr, eL]; unfold onE; rw [Bool.eq_false_iff.mpr q, Bool.false_and, if_neg (by decide)]) (fun r hr => by rw [h2 r hr, eR]; unfold onE; rw [Bool.eq_false_iff.mpr q, Bool.false_and, if_neg (by decide)])
      rw [e1, e2] at this
      exact this
