/-! the reference: the loop over the bricks of the piece -/
def lI (n : Nat) : Int64 := Int64.ofNat n
theorem lI_t : ∀ a, a < 64 → (nI a).toInt64 = lI a := by decide +kernel
theorem lI_add (a b : Nat) : lI a + lI b = lI (a + b) := (Int64.ofNat_add a b).symm
theorem lI_mul (a b : Nat) : lI a * lI b = lI (a * b) := (Int64.ofNat_mul a b).symm
theorem skipE {σ : Sg} {P : Int64} {i : Nat} (f : Nat → Nat) (r : Nat) : ∀ j, i ≤ j → (∀ b, i ≤ b → b < j → tb P b = false) → mS f P j = mS f P i ∧ eL σ P j r = eL σ P i r ∧ eR σ P j r = eR σ P i r
  | 0, hj, _ => by
    have : i = 0 := by omega
    subst this; exact ⟨rfl, rfl, rfl⟩
  | j + 1, hj, h => by
    by_cases q : i = j + 1
    · subst q; exact ⟨rfl, rfl, rfl⟩
    · obtain ⟨a, b, c⟩ := skipE (σ := σ) f r j (by omega) (fun b h1 h2 => h b h1 (by omega))
      have hj0 := h j (by omega) (by omega)
      refine ⟨?_, ?_, ?_⟩
      · rw [← a]; unfold mS; rw [sumN, hj0, if_neg (by decide), Nat.add_zero]
      · rw [eL]; unfold onE; rw [hj0, Bool.false_and, if_neg (by decide)]; exact b
      · rw [eR]; unfold onE; rw [hj0, Bool.false_and, if_neg (by decide)]; exact c
theorem M_st37 {σ : Sg} (hw : Wf σ) {P : Int64} (hP : bl P (sN σ)) (k : Int64 → Int64 → Int64 → Hp → Option (Int32 × Hp)) : ∀ m n i X h, pcL X = m → m < n → i ≤ sN σ → (∀ b, tb X b = (decide (i ≤ b) && tb P b)) → RepM σ h → (∀ r, r < 7 → gA_ h 49 r = eL σ P i r) → (∀ r, r < 7 → gA_ h 50 r = eR σ P i r) → ∃ h1, F_X7_stands_37 n k P (lI (mS (mX σ) P i)) (lI (mS (mY σ) P i)) X h = k P (lI (mS (mX σ) P (sN σ))) (lI (mS (mY σ) P (sN σ))) h1 ∧ Sm [] [] [49, 50] [] h h1 ∧ (∀ r, r < 7 → gA_ h1 49 r = eL σ P (sN σ) r) ∧ (∀ r, r < 7 → gA_ h1 50 r = eR σ P (sN σ) r) := by
  have h40 := hw.1
  intro m
  induction m with
  | zero =>
    intro n i X h hp hn hi hX hm h1 h2
    obtain ⟨n, rfl⟩ : ∃ k, n = k + 1 := ⟨n - 1, by omega⟩
    have h0 := pcL_z hp
    have hz : ∀ b, i ≤ b → b < sN σ → tb P b = false := fun b q1 _ => by
      have := hX b
      rw [h0, tb_0, decide_eq_true q1, Bool.true_and] at this
      exact this.symm
    have sX := (skipE (σ := σ) (mX σ) 0 (sN σ) hi hz).1
    have sY := (skipE (σ := σ) (mY σ) 0 (sN σ) hi hz).1
    rw [F_X7_stands_37, if_pos h0, sX, sY]
    exact ⟨h, rfl, sm_rf, fun r hr => by rw [h1 r hr, (skipE (σ := σ) (mX σ) r (sN σ) hi hz).2.1], fun r hr => by rw [h2 r hr, (skipE (σ := σ) (mX σ) r (sN σ) hi hz).2.2]⟩
  | succ m ih =>
    intro n i X h hp hn hi hX hm h1 h2
    obtain ⟨n, rfl⟩ : ∃ k, n = k + 1 := ⟨n - 1, by omega⟩
    have h0 : ¬ X = 0 := fun e => by rw [e, pcL_0] at hp; omega
    obtain ⟨b, hb⟩ := lw_ex h0
    have hbX := hb.2.1
    rw [hX b, Bool.and_eq_true, decide_eq_true_iff] at hbX
    have hbN : b < sN σ := by
      rcases Nat.lt_or_ge b (sN σ) with q | q
      · exact q
      · rw [hP b q] at hbX; cases hbX.2
    have hz : ∀ c, i ≤ c → c < b → tb P c = false := fun c q1 q2 => by
      have := hb.2.2 c q2
      rw [hX c, decide_eq_true q1, Bool.true_and] at this
      exact this
    obtain ⟨a1, a2, a3, a4, a5, a6⟩ := hw.2.2.1 b hbN
    obtain ⟨p1, p2, p3, p4, p5, p6⟩ := hm.2.2.2.1 b hbN
    have l1 : 1 ≤ sLx σ b ∧ sLx σ b ≤ 4 := lX_le a1
    have l2 : 1 ≤ sLy σ b ∧ sLy σ b ≤ 4 := lY_le a1
    have sX1 := (skipE (σ := σ) (mX σ) 0 b hbX.1 hz).1
    have sY1 := (skipE (σ := σ) (mY σ) 0 b hbX.1 hz).1
    have e1 : lI (mS (mX σ) P i) + lI (sLy σ b) * lI (sLx σ b) * lI (2 * sX σ b + sLx σ b) = lI (mS (mX σ) P (b + 1)) := by
      rw [← sX1, lI_mul, lI_mul, lI_add]; unfold mS; rw [sumN, if_pos hbX.2]; unfold mX
      rw [Nat.mul_comm (sLy σ b), show 2 * sX σ b + sLx σ b = sX σ b + (sX σ b + sLx σ b) by omega]
    have e2 : lI (mS (mY σ) P i) + lI (sLy σ b) * lI (sLx σ b) * lI (2 * sY σ b + sLy σ b) = lI (mS (mY σ) P (b + 1)) := by
      rw [← sY1, lI_mul, lI_mul, lI_add]; unfold mS; rw [sumN, if_pos hbX.2]; unfold mY
      rw [Nat.mul_comm (sLy σ b), show 2 * sY σ b + sLy σ b = sY σ b + (sY σ b + sLy σ b) by omega]
    have hpp := pcL_pop hb
    have hX' : ∀ c, tb (X &&& (X - 1)) c = (decide (b + 1 ≤ c) && tb P c) := fun c => by
      rw [tb_pop' hb, hX c]
      by_cases q : c = b
      · subst q; rw [decide_eq_true (rfl : c = c), decide_eq_false (by omega : ¬ c + 1 ≤ c), Bool.not_true, Bool.and_false]; rfl
      · rw [decide_eq_false q, Bool.not_false, Bool.and_true]
        by_cases q2 : b + 1 ≤ c
        · rw [decide_eq_true q2, decide_eq_true (by omega : i ≤ c)]
        · rw [decide_eq_false q2, Bool.false_and]
          by_cases q3 : i ≤ c
          · rw [hz c q3 (by omega), Bool.and_false]
          · rw [decide_eq_false q3, Bool.false_and]
    rw [F_X7_stands_37, if_neg h0, f_first hb, ob_s, rA_n _ 42 40 _ (by omega) (by decide), rA_n _ 43 40 _ (by omega) (by decide), p1, p2, f_lengthX a1 a2, ob_s, rA_n _ 42 40 _ (by omega) (by decide), rA_n _ 43 40 _ (by omega) (by decide), p1, p2, f_lengthY a1 a2, ob_s, rA_n _ 44 40 _ (by omega) (by decide), p3, bd_e, rA_n _ 45 40 _ (by omega) (by decide), p4, bd_e, rA_n _ 46 40 _ (by omega) (by decide), p5]
    rw [show lX (sK σ b) (sT σ b) = sLx σ b from rfl, show lY (sK σ b) (sT σ b) = sLy σ b from rfl, show (2 : Int32) = nI 2 from rfl, pk_mul, pk_mul, nI_add, nI_add, lI_t _ (by omega), lI_t _ (by omega), lI_t _ (by omega), lI_t _ (by omega), e1, e2]
    unfold F_X7_stands_233
    have onz : ∀ r, onE σ P b r = (decide (sZ σ b = 0) && (decide (r = sY σ b) || decide (r = sY σ b + sLy σ b))) := fun r => by unfold onE; rw [hbX.2, Bool.true_and]
    by_cases hz0 : sZ σ b = 0
    · rw [if_pos ((nI_le0 (by omega)).mpr hz0), M_st155 hw hm _ _ _ _ _ hbN, bd_e]
      have s1 : Sm [] [] [49, 50] [] h (wm (wm h (sY σ b) (nI (sX σ b)) (nI (sX σ b + sLx σ b))) (sY σ b + sLy σ b) (nI (sX σ b)) (nI (sX σ b + sLx σ b))) := sm_C (wm_sm _ _ _ _) (by decide) (wm_sm _ _ _ _)
      have o1 : ∀ r, onE σ P b r = true ↔ r = sY σ b ∨ r = sY σ b + sLy σ b := fun r => by
        rw [onz, decide_eq_true hz0, Bool.true_and, Bool.or_eq_true, decide_eq_true_iff, decide_eq_true_iff]
      obtain ⟨h3, q1, q2, q3, q4⟩ := ih n (b + 1) (X &&& (X - 1)) _ (by omega) (by omega) (by omega) hX' (hm.sm s1 (by decide)) (fun r hr => by
          rw [wm2_49 h (by omega), h1 r hr, eL, (skipE (σ := σ) (mX σ) r b hbX.1 hz).2.1]
          by_cases w : r = sY σ b ∨ r = sY σ b + sLy σ b
          · rw [if_pos w, if_pos ((o1 r).mpr w)]
          · rw [if_neg w, if_neg (fun y => w ((o1 r).mp y))]) (fun r hr => by
          rw [wm2_50 h (by omega), h2 r hr, eR, (skipE (σ := σ) (mX σ) r b hbX.1 hz).2.2]
          by_cases w : r = sY σ b ∨ r = sY σ b + sLy σ b
          · rw [if_pos w, if_pos ((o1 r).mpr w)]
          · rw [if_neg w, if_neg (fun y => w ((o1 r).mp y))])
      exact ⟨h3, q1, sm_C s1 (by decide) q2, q3, q4⟩
    · rw [if_neg (fun r => hz0 ((nI_le0 (by omega)).mp r)), bd_e]
      exact ih n (b + 1) (X &&& (X - 1)) h (by omega) (by omega) (by omega) hX' hm (fun r hr => by
          rw [h1 r hr, eL, onz, decide_eq_false hz0, Bool.false_and, if_neg (by decide), (skipE (σ := σ) (mX σ) r b hbX.1 hz).2.1]) (fun r hr => by
          rw [h2 r hr, eR, onz, decide_eq_false hz0, Bool.false_and, if_neg (by decide), (skipE (σ := σ) (mX σ) r b hbX.1 hz).2.2])
