/-! ===== what is seen ===== -/
def lnP (w u v k : Int32) : Int32 × Int32 × Int32 := if w = nI 0 then (u, k, v) else if w = nI 1 then (5 - k, u, v) else if w = nI 2 then (u, 5 - k, v) else if w = nI 3 then (k, u, v) else (u, v, 4 - k)
def lnG (σ : Sg) (w u v k : Int32) : Option Nat := grAt σ (lnP w u v k).1 (lnP w u v k).2.1 (lnP w u v k).2.2
theorem f_onLine {σ : Sg} {h : Hp} (hc : RepC σ h) (w u v k : Int32) : F_X2_onLine w u v k h = some (gvB (lnG σ w u v k)) := by
  unfold F_X2_onLine lnG lnP
  simp only [f_brickAt hc, ob_s]
  repeat' split
  all_goals rfl
def seenF (σ : Sg) (w u v : Int32) : Nat → Nat → Int32
  | 0, _ => 0
  | c + 1, i => match lnG σ w u v (nI i) with
    | none => seenF σ w u v c (i + 1)
    | some b => nI (sC σ b)
theorem ln_lt {σ : Sg} (hw : Wf σ) {w u v k : Int32} {b : Nat} (h : lnG σ w u v k = some b) : b < sN σ := gr_lt hw h
theorem c_seen16 {σ : Sg} {h : Hp} (hw : Wf σ) (hc : RepC σ h) (w u v : Int32) (s : Nat) (hs : s ≤ 6) : ∀ (c i n : Nat), i + c = s → c < n → F_X2_colourSeen_16 n w u v (nI s) (nI i) h = some (seenF σ w u v c i) := by
  intro c
  induction c with
  | zero =>
    intro i n h1 h2
    obtain ⟨n, rfl⟩ : ∃ m, n = m + 1 := ⟨n - 1, by omega⟩
    rw [F_X2_colourSeen_16, if_pos (nI_le (by omega) (by omega))]; rfl
  | succ c ih =>
    intro i n h1 h2
    obtain ⟨n, rfl⟩ : ∃ m, n = m + 1 := ⟨n - 1, by omega⟩
    rw [F_X2_colourSeen_16, if_neg (nI_ge (by omega) (by omega)), f_onLine hc, ob_s]
    unfold seenF
    cases hg : lnG σ w u v (nI i) with
    | none => rw [if_pos (show gvB none = -1 from rfl), nI_1]; exact ih (i + 1) n (by omega) (by omega)
    | some b =>
      have hb := ln_lt hw hg
      have h40 := hw.1
      rw [if_neg (show ¬ gvB (some b) = -1 from nI_nm1 (by omega))]
      show (F_X2_colourOf (nI b) h).bind _ = _
      rw [f_colourOf hw hc hb]; rfl
def s_seen (σ : Sg) (w u v : Int32) : Int32 × Nat := if inN w 5 = true then if (inN u 6 && inN v (if w = 4 then 6 else 5)) = true then (seenF σ w u v (if w = 4 then 5 else 6) 0, 0) else (-1, 1) else (-2, 2)
theorem le_of_lt5 (w : Int32) {α : Type} (u v : α) : (if w < 0 then u else if w ≤ 4 then v else u) = if inN w 5 = true then v else u := by
  rw [← two_t]
  by_cases h1 : w < 0
  · simp [h1]
  · have : (w ≤ 4) ↔ ¬ 5 ≤ w := by
      rw [i_leT, i_leT]
      have e2 : (4 : Int32).toInt = 4 := by decide
      have e3 : (5 : Int32).toInt = 5 := by decide
      omega
    by_cases h2 : w ≤ 4
    · simp [h1, h2, this.mp h2]
    · have h3 : 5 ≤ w := by
        rcases Classical.em (5 ≤ w) with q | q
        · exact q
        · exact absurd (this.mpr q) h2
      simp [h1, h2, h3]
theorem two_t' {α : Type} (x n : Int32) (u v : α) : (if x < 0 then u else if x < n then v else u) = if inN x n = true then v else u := by
  rw [← two_t]
  by_cases h1 : x < 0
  · simp [h1]
  · by_cases h2 : x < n
    · have : ¬ n ≤ x := by rw [i_not_le]; exact h2
      simp [h1, h2, this]
    · have : n ≤ x := by rw [← i_not_lt]; exact h2
      simp [h1, h2, this]
theorem C_seen {σ : Sg} {h : Hp} (hw : Wf σ) (hc : RepC σ h) (w u v : Int32) : F_X6_seen w u v h = some ((s_seen σ w u v).1, rC h (s_seen σ w u v).2) := by
  unfold F_X6_seen s_seen
  rw [le_of_lt5]
  cases hp : inN w 5 with
  | false => rw [if_neg (by decide), c_r2]; rfl
  | true =>
    rw [if_pos rfl, if_pos rfl]
    have key : ∀ t : Int32, F_X6_seen_27 w u v t h = if (inN u 6 && inN v t) = true then (F_X2_colourSeen w u v h).bind fun v62 => some (v62, h) else some (-1, rC h 1) := by
      intro t
      unfold F_X6_seen_27
      rw [c_r1]
      show (if u < 0 then some (-1, rC h 1) else if 6 ≤ u then some (-1, rC h 1) else if v < 0 then some (-1, rC h 1) else if v < t then _ else some (-1, rC h 1)) = _
      rw [two_t' v t, two_t]
      cases inN u 6 <;> cases inN v t <;> rfl
    rw [key, key]
    unfold F_X2_colourSeen F_X2_colourSeen_11
    by_cases h4 : w = 4
    · rw [if_pos h4, if_pos h4, if_pos h4, if_pos h4]
      have := c_seen16 hw hc w u v 5 (by decide) 5 0 FU_ rfl (by unfold FU_; omega)
      rw [show F_X2_colourSeen_16 FU_ w u v 5 0 h = _ from this]
      cases (inN u 6 && inN v 6) <;> rfl
    · rw [if_neg h4, if_neg h4, if_neg h4, if_neg h4]
      have := c_seen16 hw hc w u v 6 (by decide) 6 0 FU_ rfl (by unfold FU_; omega)
      rw [show F_X2_colourSeen_16 FU_ w u v 6 0 h = _ from this]
      cases (inN u 6 && inN v 5) <;> rfl
theorem m_seen139 {σ : Sg} {h : Hp} (hw : Wf σ) (hm : RepM σ h) (k : Int32 → Int32 → Int32 → Int32 → Hp → Option (Int32 × Hp)) (w u v x y z : Int32) (i : Nat) (hp : inP x y z = true) : ((F_X7_cellAt x y z).bind fun q => F_X7_seen_139 k w u v (nI i) q h) = match grAt σ x y z with | none => k w u v (nI (i + 1)) h | some b => some (nI (sC σ b), h) := by
  have h40 := hw.1
  rw [f_cellAt' hp, ob_s]
  unfold F_X7_seen_139 grAt
  rw [if_pos hp]
  simp only [rA_n h 40 180 _ (ix3_lt hp) (by decide), hm.2.1 _ (ix3_lt hp), gvM_neg hw, nI_1]
  cases hg : sGr σ (ix3 x y z) with
  | none => rw [if_pos rfl]
  | some b =>
    have hb := hw.2.2.2.2.1 _ b hg
    rw [if_neg (by simp)]
    show rA_ h 47 40 (nI b) _ = _
    rw [rA_n h 47 40 _ (by omega) (by decide), (hm.2.2.2.1 b hb).2.2.2.2.2]
theorem i_sub5 {i : Nat} (h : i ≤ 5) : (5 : Int32) - nI i = nI (5 - i) := pk_sub h
theorem i_sub4 {i : Nat} (h : i ≤ 4) : (4 : Int32) - nI i = nI (4 - i) := pk_sub h
theorem m_seen51 {σ : Sg} {h : Hp} (hw : Wf σ) (hm : RepM σ h) {w a b : Nat} (hw5 : w < 5) (ha : a < 6) (hb : b < if w = 4 then 6 else 5) : ∀ (c i n : Nat), i + c = (if w = 4 then 5 else 6) → c < n → F_X7_seen_51 n (nI w) (nI a) (nI b) (nI i) h = some (seenF σ (nI w) (nI a) (nI b) c i, h) := by
  intro c
  have w4 : (nI w = 4) ↔ w = 4 := i_eq (a := w) (b := 4) (by omega) (by decide)
  induction c with
  | zero =>
    intro i n h1 h2
    obtain ⟨n, rfl⟩ : ∃ m, n = m + 1 := ⟨n - 1, by omega⟩
    rw [F_X7_seen_51]
    unfold F_X7_seen_64
    by_cases h4 : w = 4
    · rw [if_pos h4] at h1
      rw [if_pos (w4.mpr h4), if_pos (show (5 : Int32) ≤ nI i from (nI_le (by omega) (by omega) : nI 5 ≤ nI i))]; rfl
    · rw [if_neg h4] at h1
      rw [if_neg (fun q => h4 (w4.mp q)), if_pos (show (6 : Int32) ≤ nI i from (nI_le (by omega) (by omega) : nI 6 ≤ nI i))]; rfl
  | succ c ih =>
    intro i n h1 h2
    obtain ⟨n, rfl⟩ : ∃ m, n = m + 1 := ⟨n - 1, by omega⟩
    rw [F_X7_seen_51]
    have fin : ∀ x y z : Int32, lnP (nI w) (nI a) (nI b) (nI i) = (x, y, z) → inP x y z = true → ((F_X7_cellAt x y z).bind fun q => F_X7_seen_139 (F_X7_seen_51 n) (nI w) (nI a) (nI b) (nI i) q h) = some (seenF σ (nI w) (nI a) (nI b) (c + 1) i, h) := by
      intro x y z e hp
      rw [m_seen139 hw hm _ _ _ _ _ _ _ _ hp]
      unfold seenF lnG
      rw [e]
      cases grAt σ x y z with
      | none => exact ih (i + 1) n (by omega) (by omega)
      | some q => rfl
    have hw' : w = 0 ∨ w = 1 ∨ w = 2 ∨ w = 3 ∨ w = 4 := by omega
    unfold F_X7_seen_64
    rcases hw' with rfl | rfl | rfl | rfl | rfl
    · simp only [show ¬ (0 : Nat) = 4 by decide, if_false] at h1 hb
      rw [if_neg (by decide), if_neg (show ¬ (6 : Int32) ≤ nI i from (nI_ge (by omega) (by decide) : ¬ nI 6 ≤ nI i)), if_pos (by decide)]
      exact fin _ _ _ rfl (inP_at ha (by omega) hb)
    · simp only [show ¬ (1 : Nat) = 4 by decide, if_false] at h1 hb
      rw [if_neg (by decide), if_neg (show ¬ (6 : Int32) ≤ nI i from (nI_ge (by omega) (by decide) : ¬ nI 6 ≤ nI i)), if_neg (by decide), if_pos (by decide)]
      exact fin _ _ _ rfl (by rw [i_sub5 (by omega)]; exact inP_at (by omega) ha hb)
    · simp only [show ¬ (2 : Nat) = 4 by decide, if_false] at h1 hb
      rw [if_neg (by decide), if_neg (show ¬ (6 : Int32) ≤ nI i from (nI_ge (by omega) (by decide) : ¬ nI 6 ≤ nI i)), if_neg (by decide), if_neg (by decide), if_pos (by decide)]
      exact fin _ _ _ rfl (by rw [i_sub5 (by omega)]; exact inP_at ha (by omega) hb)
    · simp only [show ¬ (3 : Nat) = 4 by decide, if_false] at h1 hb
      rw [if_neg (by decide), if_neg (show ¬ (6 : Int32) ≤ nI i from (nI_ge (by omega) (by decide) : ¬ nI 6 ≤ nI i)), if_neg (by decide), if_neg (by decide), if_neg (by decide), if_pos (by decide)]
      exact fin _ _ _ rfl (inP_at (by omega) ha hb)
    · simp only [if_true] at h1 hb
      rw [if_pos (by decide), if_neg (show ¬ (5 : Int32) ≤ nI i from (nI_ge (by omega) (by decide) : ¬ nI 5 ≤ nI i)), if_neg (by decide), if_neg (by decide), if_neg (by decide), if_neg (by decide)]
      exact fin _ _ _ rfl (by rw [i_sub4 (by omega)]; exact inP_at ha hb (by omega))
theorem M_seen {σ : Sg} {h : Hp} (hw : Wf σ) (hm : RepM σ h) (w u v : Int32) : F_X7_seen w u v h = some ((s_seen σ w u v).1, rM h (s_seen σ w u v).2) := by
  unfold F_X7_seen s_seen
  rw [f_isIn, ob_s]
  cases hp : inN w 5 with
  | false => rw [if_pos b0_, m_r2]; rfl
  | true =>
    obtain ⟨q, hq, rfl⟩ := inN_n (n := 5) (by decide) hp
    have w4 : (nI q = 4) ↔ q = 4 := i_eq (a := q) (b := 4) (by omega) (by decide)
    rw [if_neg b1_, if_pos rfl, f_isIn, ob_s]
    cases hu : inN u 6 with
    | false => rw [if_pos b0_, m_r1]; rfl
    | true =>
      obtain ⟨a, ha, rfl⟩ := inN_n (n := 6) (by decide) hu
      rw [if_neg b1_]
      unfold F_X7_seen_36
      rw [f_isIn, ob_s, f_isIn, ob_s, m_r1]
      by_cases h4 : q = 4
      · rw [if_pos (w4.mpr h4), if_pos (w4.mpr h4), if_pos (w4.mpr h4)]
        cases hv : inN v 6 with
        | false => rfl
        | true =>
          obtain ⟨b, hb, rfl⟩ := inN_n (n := 6) (by decide) hv
          rw [if_neg b1_]
          have := m_seen51 hw hm hq ha (b := b) (by rw [if_pos h4]; exact hb) 5 0 FU_ (by rw [if_pos h4]) (by unfold FU_; omega)
          rw [show F_X7_seen_51 FU_ (nI q) (nI a) (nI b) 0 h = _ from this]; rfl
      · rw [if_neg (fun z => h4 (w4.mp z)), if_neg (fun z => h4 (w4.mp z)), if_neg (fun z => h4 (w4.mp z))]
        cases hv : inN v 5 with
        | false => rfl
        | true =>
          obtain ⟨b, hb, rfl⟩ := inN_n (n := 5) (by decide) hv
          rw [if_neg b1_]
          have := m_seen51 hw hm hq ha (b := b) (by rw [if_neg h4]; exact hb) 6 0 FU_ (by rw [if_neg h4]) (by unfold FU_; omega)
          rw [show F_X7_seen_51 FU_ (nI q) (nI a) (nI b) 0 h = _ from this]; rfl
