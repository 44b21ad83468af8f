/-! ===== count as a call ===== -/
def flS (σ : Sg) : Nat := sumN (fun i => b1n (flo σ (pcN σ i))) (mP σ)
def s_c22 (σ : Sg) (x : Int32) : Int32 := if x = nI 0 then nI (sumN (clC σ) 180) else if x = nI 1 then nI (pcL (thI σ)) else if x = nI 2 then nI (sN σ) else if x = nI 3 then nI (kyS σ) else if x = nI 4 then nI (flS σ) else if x = nI 5 then nI (sG σ) else -9
def s_count (σ : Sg) (f : Nat → Int32) (x : Int32) : Int32 := if x < 11 then s_c22 σ x else if 16 < x then s_c22 σ x else f (x - 10).toNatClampNeg
theorem cnt_mid {x : Int32} (h1 : ¬ x < 11) (h2 : ¬ 16 < x) : ∃ j, j < 7 ∧ x - 10 = nI j := by
  have h0 : 0 ≤ x := by
    rw [i_ltT, show (11 : Int32).toInt = 11 by decide] at h1
    rw [i_leT, show (0 : Int32).toInt = 0 by decide]; omega
  have h3 : x ≤ nI 16 := by
    rw [i_ltT, show (16 : Int32).toInt = 16 by decide] at h2
    rw [i_leT, nI_toInt (by decide)]; omega
  obtain ⟨g, hg, rfl⟩ := in_rng (m := 16) (by decide) h0 h3
  have h4 : 11 ≤ g := by
    rcases Nat.lt_or_ge g 11 with q | q
    · exact absurd (show nI g < 11 from nI_lt (b := 11) q (by decide)) h1
    · exact q
  exact ⟨g - 10, by omega, by rw [show (10 : Int32) = nI 10 from rfl, pk_sub (by omega)]⟩
theorem s_count_c {σ : Sg} {f g : Nat → Int32} (h : ∀ j, j < 7 → f j = g j) (x : Int32) : s_count σ f x = s_count σ g x := by
  unfold s_count
  by_cases h1 : x < 11
  · rw [if_pos h1, if_pos h1]
  · rw [if_neg h1, if_neg h1]
    by_cases h2 : 16 < x
    · rw [if_pos h2, if_pos h2]
    · rw [if_neg h2, if_neg h2]
      obtain ⟨j, hj, e⟩ := cnt_mid h1 h2
      rw [e, nI_clamp (by omega), h j hj]
theorem C_c22 {σ : Sg} {h : Hp} (hw : Wf σ) (hc : RepC σ h) (x : Int32) : F_X6_count_22 x h = some (s_c22 σ x) := by
  unfold F_X6_count_22 s_c22 F_X2_howMany F_X2_ever F_X4_currentGrip
  rw [C_countCells hw hc, ob_s, f_bitCount, ob_s, ob_s, ob_s, f_countKeys hw hc, ob_s, f_countFloating hw hc, ob_s, ob_s, hc.2.2.1, hc.2.2.2.2.2.1, thC hw hc]
  by_cases q0 : x = nI 0
  · rw [if_pos q0, if_pos q0]
  · rw [if_neg q0, if_neg q0]
    by_cases q1 : x = nI 1
    · rw [if_pos q1, if_pos q1]
    · rw [if_neg q1, if_neg q1]
      by_cases q2 : x = nI 2
      · rw [if_pos q2, if_pos q2]
      · rw [if_neg q2, if_neg q2]
        by_cases q3 : x = nI 3
        · rw [if_pos q3, if_pos q3]
        · rw [if_neg q3, if_neg q3]
          by_cases q4 : x = nI 4
          · rw [if_pos q4, if_pos q4]; rfl
          · rw [if_neg q4, if_neg q4]
            by_cases q5 : x = nI 5
            · rw [if_pos q5, if_pos q5]
            · rw [if_neg q5, if_neg q5]
theorem C_count {σ : Sg} {h : Hp} (hw : Wf σ) (hc : RepC σ h) (x : Int32) : F_X6_count x h = some (s_count σ (gA_ h 37) x) := by
  unfold F_X6_count s_count
  rw [C_c22 hw hc]
  by_cases h1 : x < 11
  · rw [if_pos h1, if_pos h1]
  · rw [if_neg h1, if_neg h1]
    by_cases h2 : 16 < x
    · rw [if_pos h2, if_pos h2]
    · rw [if_neg h2, if_neg h2]
      obtain ⟨j, hj, e⟩ := cnt_mid h1 h2
      rw [e, nI_clamp (by omega), rA_n _ 37 7 _ hj (by decide)]
theorem M_c22 {σ : Sg} {h : Hp} (hw : Wf σ) (hm : RepM σ h) (x : Int32) : MQr h (s_c22 σ x, 0) (F_X7_count_22 x h) := by
  unfold F_X7_count_22 s_c22
  obtain ⟨h1, e, r, m⟩ := f_findPieces hw hm
  have s := (w_X7_findPieces _ _ e).2.2.1 38 (by decide)
  rw [M_countCells hw hm, f_bits, ob_s, e, ob_s, ob_s, M_count3 hw m r, M_count4 hw m r, hm.2.2.1, hm.2.2.2.2.2.1, thM hw hm]
  by_cases q0 : x = nI 0
  · rw [if_pos q0, if_pos q0]; exact MQr.mk rfl rfl
  · rw [if_neg q0, if_neg q0]
    by_cases q1 : x = nI 1
    · rw [if_pos q1, if_pos q1]; exact MQr.mk rfl rfl
    · rw [if_neg q1, if_neg q1]
      by_cases q2 : x = nI 2
      · rw [if_pos q2, if_pos q2]; exact MQr.mk rfl rfl
      · rw [if_neg q2, if_neg q2]
        by_cases q3 : x = nI 3
        · rw [if_pos q3, if_pos q3]; exact MQr.mk rfl s
        · rw [if_neg q3, if_neg q3]
          by_cases q4 : x = nI 4
          · rw [if_pos q4, if_pos q4]; exact MQr.mk rfl s
          · rw [if_neg q4, if_neg q4]
            by_cases q5 : x = nI 5
            · rw [if_pos q5, if_pos q5]; exact MQr.mk rfl rfl
            · rw [if_neg q5, if_neg q5]; exact MQr.mk rfl rfl
theorem M_count {σ : Sg} {h : Hp} (hw : Wf σ) (hm : RepM σ h) (x : Int32) : MQr h (s_count σ (gA_ h 38) x, 0) (F_X7_count x h) := by
  have c := M_c22 hw hm x
  unfold F_X7_count s_count
  by_cases h1 : x < 11
  · rw [if_pos (show x ≤ 10 by rw [i_leT, show (10 : Int32).toInt = 10 by decide]; rw [i_ltT, show (11 : Int32).toInt = 11 by decide] at h1; omega), if_pos h1]; exact c
  · rw [if_neg (show ¬ x ≤ 10 by rw [i_leT, show (10 : Int32).toInt = 10 by decide]; rw [i_ltT, show (11 : Int32).toInt = 11 by decide] at h1; omega), if_neg h1]
    by_cases h2 : 16 < x
    · rw [if_pos (show 17 ≤ x by rw [i_leT, show (17 : Int32).toInt = 17 by decide]; rw [i_ltT, show (16 : Int32).toInt = 16 by decide] at h2; omega), if_pos h2]; exact c
    · rw [if_neg (show ¬ 17 ≤ x by rw [i_leT, show (17 : Int32).toInt = 17 by decide]; rw [i_ltT, show (16 : Int32).toInt = 16 by decide] at h2; omega), if_neg h2]
      obtain ⟨j, hj, e⟩ := cnt_mid h1 h2
      rw [e, nI_clamp (by omega), rA_n _ 38 7 _ hj (by decide)]
      exact MQr.mk rfl rfl
