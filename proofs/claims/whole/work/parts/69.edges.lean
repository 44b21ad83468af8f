theorem C_standsE {σ : Sg} {h : Hp} (hw : Wf σ) (hc : RepC σ h) {P : Int64} (hP : ∀ b, tb P b = true → sTh σ b = true) (hf : flo σ P = false) : ∃ h1, F_X4_stands P h = ((F_X4_isWithinEdges (nI (mS (mX σ) P (sN σ))) (nI (mS (mY σ) P (sN σ))) (nI (2 * wt σ P)) h1).bind fun v => bz_ v fun z => some (z, h1)) ∧ (∀ r, r < 7 → gA_ h1 31 r = eL σ P (sN σ) r) ∧ (∀ r, r < 7 → gA_ h1 32 r = eR σ P (sN σ) r) := by
  have h40 := hw.1
  have hPN : bl P (sN σ) := bl_sub (bl_th hw) (fun b q => by rw [tb_thI hw]; exact hP b q)
  unfold F_X4_stands
  obtain ⟨h2, e, r1, r2⟩ := f_clear h
  have s := w_X4_clearEdges _ _ e
  rw [C_floats hw hc hP, hf, ob_s, if_pos b0_, C_weight hw hc hPN, ob_s, e, ob_s, show (2 : Int32) = nI 2 from rfl, pk_mul]
  exact C_stands31 hw hP (nI (2 * wt σ P)) (sN σ) FU_ 0 h2 (by omega) (by unfold FU_; omega) (hc.sm s (by decide)) r1 r2
theorem C_standsF {σ : Sg} {h : Hp} (hw : Wf σ) (hc : RepC σ h) {P : Int64} (hP : ∀ b, tb P b = true → sTh σ b = true) (hf : flo σ P = true) : F_X4_stands P h = some (0, h) := by
  unfold F_X4_stands
  rw [C_floats hw hc hP, hf, ob_s, if_neg b1_]
/-! the reference: the rows empty -/
theorem M_stands2 (k : Int64 → Hp → Option (Int32 × Hp)) (P : Int64) : ∀ p n r h, p + r = 7 → p < n → ∃ h1, F_X7_stands_2 n k P (nI r) h = k P h1 ∧ Sm [] [] [49, 50] [] h h1 ∧ (∀ s, s < 7 → gA_ h1 49 s = if r ≤ s then 7 else gA_ h 49 s) ∧ (∀ s, s < 7 → gA_ h1 50 s = if r ≤ s then -1 else gA_ h 50 s) := by
  intro p
  induction p with
  | zero =>
    intro n r h hp hn
    obtain ⟨n, rfl⟩ : ∃ k, n = k + 1 := ⟨n - 1, by omega⟩
    have hr : r = 7 := by omega
    subst hr
    rw [F_X7_stands_2, if_pos (by decide)]
    exact ⟨h, rfl, sm_rf, fun s hs => by rw [if_neg (by omega)], fun s hs => by rw [if_neg (by omega)]⟩
  | succ p ih =>
    intro n r h hp hn
    obtain ⟨n, rfl⟩ : ∃ k, n = k + 1 := ⟨n - 1, by omega⟩
    rw [F_X7_stands_2, if_neg (show ¬ (6 : Int32) < nI r from (nI_nlt (by omega) (by decide) : ¬ nI 6 < nI r)), wA_n _ 49 7 _ _ (by omega) (by decide), wA_n _ 50 7 _ _ (by omega) (by decide), show nI r + 1 = nI (r + 1) from nI_add r 1]
    obtain ⟨h1, e, s, a, b⟩ := ih n (r + 1) (sA_ (sA_ h 49 r 7) 50 r (-1)) (by omega) (by omega)
    refine ⟨h1, e, sm_A (k := 49) (by decide) rfl (sm_A (k := 50) (by decide) rfl s), fun j hj => ?_, fun j hj => ?_⟩
    · rw [a j hj, show gA_ (sA_ (sA_ h 49 r 7) 50 r (-1)) 49 = upd (gA_ h 49) r 7 from rfl]
      by_cases q : j = r
      · subst q; rw [if_neg (by omega), pk_us, if_pos (Nat.le_refl _)]
      · rw [pk_un q]
        by_cases w : r ≤ j
        · rw [if_pos (by omega), if_pos w]
        · rw [if_neg (by omega), if_neg w]
    · rw [b j hj, show gA_ (sA_ (sA_ h 49 r 7) 50 r (-1)) 50 = upd (gA_ h 50) r (-1) from rfl]
      by_cases q : j = r
      · subst q; rw [if_neg (by omega), pk_us, if_pos (Nat.le_refl _)]
      · rw [pk_un q]
        by_cases w : r ≤ j
        · rw [if_pos (by omega), if_pos w]
        · rw [if_neg (by omega), if_neg w]
