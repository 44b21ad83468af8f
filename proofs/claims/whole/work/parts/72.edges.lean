theorem M_standsE {σ : Sg} {h : Hp} (hw : Wf σ) (hm : RepM σ h) {P : Int64} (hP : bl P (sN σ)) : ∃ h1, F_X7_stands P h = F_X7_stands_245 P (lI (mS (mX σ) P (sN σ))) (lI (mS (mY σ) P (sN σ))) h1 ∧ Sm [] [] [49, 50] [] h h1 ∧ (∀ r, r < 7 → gA_ h1 49 r = eL σ P (sN σ) r) ∧ (∀ r, r < 7 → gA_ h1 50 r = eR σ P (sN σ) r) := by
  have h64 : pcL P ≤ 64 := pcL_le (Nat.le_refl _) (fun i hi => tb_big hi)
  obtain ⟨h2, e, s, a, b⟩ := M_stands2 F_X7_stands_29 P 7 FU_ 0 h (by omega) (by unfold FU_; omega)
  obtain ⟨h3, e2, s2, a2, b2⟩ := M_st37 hw hP F_X7_stands_245 (pcL P) FU_ 0 P h2 rfl (by unfold FU_; omega) (Nat.zero_le _) (fun b => by rw [decide_eq_true (Nat.zero_le b), Bool.true_and]) (hm.sm s (by decide)) (fun r hr => by rw [a r hr, if_pos (Nat.zero_le _)]; rfl) (fun r hr => by rw [b r hr, if_pos (Nat.zero_le _)]; rfl)
  exact ⟨h3, e.trans e2, sm_C s (by decide) s2, a2, b2⟩
