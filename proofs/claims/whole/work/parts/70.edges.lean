/-! the reference: one brick of the ground -/
def wm (h : Hp) (r : Nat) (u v : Int32) : Hp := sA_ (sA_ h 49 r (mn_ (gA_ h 49 r) u)) 50 r (mx_ (gA_ h 50 r) v)
theorem wm_49 (h : Hp) (y : Nat) (u v : Int32) (r : Nat) : gA_ (wm h y u v) 49 r = if r = y then mn_ (gA_ h 49 r) u else gA_ h 49 r := by
  unfold wm
  rw [gA_sA, if_neg (by decide), gA_sA, if_pos rfl]
  by_cases q : r = y
  · subst q; rw [pk_us, if_pos rfl]
  · rw [pk_un q, if_neg q]
theorem wm_50 (h : Hp) (y : Nat) (u v : Int32) (r : Nat) : gA_ (wm h y u v) 50 r = if r = y then mx_ (gA_ h 50 r) v else gA_ h 50 r := by
  unfold wm
  rw [gA_sA, if_pos rfl]
  by_cases q : r = y
  · subst q; rw [pk_us, if_pos rfl]
  · rw [pk_un q, if_neg q, gA_sA, if_neg (by decide)]
theorem wm_sm (h : Hp) (y : Nat) (u v : Int32) : Sm [] [] [49, 50] [] h (wm h y u v) := sm_A (k := 49) (by decide) rfl (sm_A (k := 50) (by decide) rfl sm_rf)
theorem wm2_49 (h : Hp) {y z : Nat} (hyz : y ≠ z) (u v : Int32) (r : Nat) : gA_ (wm (wm h y u v) z u v) 49 r = if r = y ∨ r = z then mn_ (gA_ h 49 r) u else gA_ h 49 r := by
  rw [wm_49, wm_49]
  by_cases q : r = z
  · rw [if_pos q, if_neg (by omega), if_pos (Or.inr q)]
  · rw [if_neg q]
    by_cases q2 : r = y
    · rw [if_pos q2, if_pos (Or.inl q2)]
    · rw [if_neg q2, if_neg (by omega)]
theorem wm2_50 (h : Hp) {y z : Nat} (hyz : y ≠ z) (u v : Int32) (r : Nat) : gA_ (wm (wm h y u v) z u v) 50 r = if r = y ∨ r = z then mx_ (gA_ h 50 r) v else gA_ h 50 r := by
  rw [wm_50, wm_50]
  by_cases q : r = z
  · rw [if_pos q, if_neg (by omega), if_pos (Or.inr q)]
  · rw [if_neg q]
    by_cases q2 : r = y
    · rw [if_pos q2, if_pos (Or.inl q2)]
    · rw [if_neg q2, if_neg (by omega)]
theorem M_st1 {σ : Sg} {h : Hp} (hw : Wf σ) (hm : RepM σ h) (k : Int64 → Int64 → Int64 → Int64 → Hp → Option (Int32 × Hp)) (x1 x3 x5 x7 : Int64) {b j : Nat} (hb : b < sN σ) (hj : j < 2) (n : Nat) : F_X7_stands_155 (n + 1) k x1 x3 x5 x7 (nI b) (nI (sLx σ b)) (nI (sLy σ b)) (nI j) h = F_X7_stands_155 n k x1 x3 x5 x7 (nI b) (nI (sLx σ b)) (nI (sLy σ b)) (nI (j + 1)) (wm h (sY σ b + j * sLy σ b) (nI (sX σ b)) (nI (sX σ b + sLx σ b))) := by
  have h40 := hw.1
  obtain ⟨a1, a2, a3, a4, a5, a6⟩ := hw.2.2.1 b hb
  obtain ⟨p1, p2, p3, p4, p5, p6⟩ := hm.2.2.2.1 b hb
  have hr : sY σ b + j * sLy σ b < 7 := by
    rcases (show j = 0 ∨ j = 1 by omega) with rfl | rfl
    · omega
    · omega
  rw [F_X7_stands_155, if_neg (show ¬ (2 : Int32) ≤ nI j from (nI_ge hj (by decide) : ¬ nI 2 ≤ nI j)), rA_n _ 45 40 _ (by omega) (by decide), p4, pk_mul, nI_add, rA_n _ 49 7 _ hr (by decide), rA_n _ 44 40 _ (by omega) (by decide), p3, wA_n _ 49 7 _ _ hr (by decide), rA_n _ 50 7 _ hr (by decide), rA_n _ 44 40 _ (by omega) (by decide), gA_sA, if_neg (by decide), gA_sA, if_neg (by decide), p3, nI_add, wA_n _ 50 7 _ _ hr (by decide), show nI j + 1 = nI (j + 1) from nI_add j 1]
  rfl
theorem M_st155 {σ : Sg} {h : Hp} (hw : Wf σ) (hm : RepM σ h) (k : Int64 → Int64 → Int64 → Int64 → Hp → Option (Int32 × Hp)) (x1 x3 x5 x7 : Int64) {b : Nat} (hb : b < sN σ) : F_X7_stands_155 FU_ k x1 x3 x5 x7 (nI b) (nI (sLx σ b)) (nI (sLy σ b)) 0 h = k x1 x3 x5 x7 (wm (wm h (sY σ b) (nI (sX σ b)) (nI (sX σ b + sLx σ b))) (sY σ b + sLy σ b) (nI (sX σ b)) (nI (sX σ b + sLx σ b))) := by
  show F_X7_stands_155 (99997 + 1 + 1 + 1) k x1 x3 x5 x7 (nI b) (nI (sLx σ b)) (nI (sLy σ b)) (nI 0) h = _
  rw [M_st1 hw hm k x1 x3 x5 x7 hb (by decide), M_st1 hw (hm.sm (wm_sm _ _ _ _) (by decide)) k x1 x3 x5 x7 hb (by decide), F_X7_stands_155, if_pos (by decide), Nat.zero_mul, Nat.add_zero, Nat.zero_add, Nat.one_mul]
