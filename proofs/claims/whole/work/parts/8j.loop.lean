/-! ===== the law's loop ===== -/
theorem law_step {xs : Nat → Int32} {L i : Nat} (hL : L ≤ 3584) (hi : i + 7 ≤ L) {σ : Sg} {h : Hp} (I : Jv σ h) (n : Nat) : ∃ h2, (∃ σ', Jv σ' h2) ∧ F_law_18 (n + 1) xs L (nI i) h = F_law_18 n xs L (nI (i + 7)) h2 := by
  have gen : ∀ G, F_law_18 n xs L = G → ∃ h2, (∃ σ', Jv σ' h2) ∧ F_law_18 (n + 1) xs L (nI i) h = G (nI (i + 7)) h2 := fun G hG => by
    have n1 : nI i + 1 = nI (i + 1) := nI_add i 1
    have n2 : nI i + 2 = nI (i + 2) := nI_add i 2
    have n3 : nI i + 3 = nI (i + 3) := nI_add i 3
    have n4 : nI i + 4 = nI (i + 4) := nI_add i 4
    have n5 : nI i + 5 = nI (i + 5) := nI_add i 5
    have n6 : nI i + 6 = nI (i + 6) := nI_add i 6
    have n7 : nI i + 7 = nI (i + 7) := nI_add i 7
    have z0 : ∀ f : Int32 → Option (Int32 × Hp), sl_ xs L (nI i) f = f (xs i) := fun f => sl_n xs L f (by omega) (by omega)
    have z1 : ∀ f : Int32 → Option (Int32 × Hp), sl_ xs L (nI (i + 1)) f = f (xs (i + 1)) := fun f => sl_n xs L f (by omega) (by omega)
    have z2 : ∀ f : Int32 → Option (Int32 × Hp), sl_ xs L (nI (i + 2)) f = f (xs (i + 2)) := fun f => sl_n xs L f (by omega) (by omega)
    have z3 : ∀ f : Int32 → Option (Int32 × Hp), sl_ xs L (nI (i + 3)) f = f (xs (i + 3)) := fun f => sl_n xs L f (by omega) (by omega)
    have z4 : ∀ f : Int32 → Option (Int32 × Hp), sl_ xs L (nI (i + 4)) f = f (xs (i + 4)) := fun f => sl_n xs L f (by omega) (by omega)
    have z5 : ∀ f : Int32 → Option (Int32 × Hp), sl_ xs L (nI (i + 5)) f = f (xs (i + 5)) := fun f => sl_n xs L f (by omega) (by omega)
    have z6 : ∀ f : Int32 → Option (Int32 × Hp), sl_ xs L (nI (i + 6)) f = f (xs (i + 6)) := fun f => sl_n xs L f (by omega) (by omega)
    have hend : ¬ nI L - 7 < nI i := by
      rw [show (7 : Int32) = nI 7 from rfl, pk_sub (by omega)]
      exact nI_nlt (by omega) (by omega)
    rw [F_law_18, hG, if_neg hend, z0]
    by_cases w0 : xs i &&& 31 = nI 0
    · obtain ⟨v, h1, h2, e6, e7, J⟩ := J_cell I (xs (i + 1)) (xs (i + 2)) (xs (i + 3)) (xs (i + 4))
      refine ⟨h2, J, ?_⟩
      rw [if_pos w0]
      simp only [n1, n2, n3, n4, n5, n6, z1, z2, z3, z4, z5, z6, e6, e7, ob_s]
      rw [if_pos trivial, F_law_985, n7]
    rw [if_neg w0]
    by_cases w1 : xs i &&& 31 = nI 1
    · obtain ⟨v, h1, h2, e6, e7, J⟩ := J_cellOf I (xs (i + 1)) (xs (i + 2)) (xs (i + 3))
      refine ⟨h2, J, ?_⟩
      rw [if_pos w1]
      simp only [n1, n2, n3, n4, n5, n6, z1, z2, z3, z4, z5, z6, e6, e7, ob_s]
      rw [if_pos trivial, F_law_985, n7]
    rw [if_neg w1]
    by_cases w2 : xs i &&& 31 = nI 2
    · refine ⟨h, ⟨σ, I⟩, ?_⟩
      rw [if_pos w2, C_inner I.1 I.2.2.1, ob_s, M_inner I.1 I.2.1, ob_s, if_pos rfl, F_law_985, n7]
    rw [if_neg w2]
    by_cases w3 : xs i &&& 31 = nI 3
    · obtain ⟨v, h1, h2, e6, e7, J⟩ := J_place I (xs (i + 1)) (xs (i + 2)) (xs (i + 3)) (xs (i + 4)) (xs (i + 5)) (xs (i + 6))
      refine ⟨h2, J, ?_⟩
      rw [if_pos w3]
      simp only [n1, n2, n3, n4, n5, n6, z1, z2, z3, z4, z5, z6, e6, e7, ob_s]
      rw [if_pos trivial, F_law_985, n7]
    rw [if_neg w3]
    by_cases w4 : xs i &&& 31 = nI 4
    · obtain ⟨v, h1, h2, e6, e7, J⟩ := J_take I (xs (i + 1))
      refine ⟨h2, J, ?_⟩
      rw [if_pos w4]
      simp only [n1, n2, n3, n4, n5, n6, z1, z2, z3, z4, z5, z6, e6, e7, ob_s]
      rw [if_pos trivial, F_law_985, n7]
    rw [if_neg w4]
    by_cases w5 : xs i &&& 31 = nI 5
    · obtain ⟨v, h1, h2, e6, e7, J⟩ := J_at I (xs (i + 1)) (xs (i + 2)) (xs (i + 3))
      refine ⟨h2, J, ?_⟩
      rw [if_pos w5]
      simp only [n1, n2, n3, n4, n5, n6, z1, z2, z3, z4, z5, z6, e6, e7, ob_s]
      rw [if_pos trivial, F_law_985, n7]
    rw [if_neg w5]
    by_cases w6 : xs i &&& 31 = nI 6
    · obtain ⟨v, h1, h2, e6, e7, J⟩ := J_studs I (xs (i + 1)) (xs (i + 2))
      refine ⟨h2, J, ?_⟩
      rw [if_pos w6]
      simp only [n1, n2, n3, n4, n5, n6, z1, z2, z3, z4, z5, z6, e6, e7, ob_s]
      rw [if_pos trivial, F_law_985, n7]
    rw [if_neg w6]
    by_cases w7 : xs i &&& 31 = nI 7
    · obtain ⟨v, h2, e6, e7, J⟩ := J_pieces I
      refine ⟨h2, J, ?_⟩
      rw [if_pos w7]
      simp only [n1, n2, n3, n4, n5, n6, z1, z2, z3, z4, z5, z6, e6, e7, ob_s]
      rw [if_pos trivial, F_law_985, n7]
    rw [if_neg w7]
    by_cases w8 : xs i &&& 31 = nI 8
    · obtain ⟨v, h1, h2, e6, e7, J⟩ := J_piece I (xs (i + 1))
      refine ⟨h2, J, ?_⟩
      rw [if_pos w8]
      simp only [n1, n2, n3, n4, n5, n6, z1, z2, z3, z4, z5, z6, e6, e7, ob_s]
      rw [if_pos trivial, F_law_985, n7]
    rw [if_neg w8]
    by_cases w9 : xs i &&& 31 = nI 9
    · obtain ⟨v, h1, h2, e6, e7, J⟩ := J_pieceOf I (xs (i + 1)) (xs (i + 2))
      refine ⟨h2, J, ?_⟩
      rw [if_pos w9]
      simp only [n1, n2, n3, n4, n5, n6, z1, z2, z3, z4, z5, z6, e6, e7, ob_s]
      rw [if_pos trivial, F_law_985, n7]
    rw [if_neg w9]
    by_cases w10 : xs i &&& 31 = nI 10
    · obtain ⟨v, h1, h2, e6, e7, J⟩ := J_key I (xs (i + 1))
      refine ⟨h2, J, ?_⟩
      rw [if_pos w10]
      simp only [n1, n2, n3, n4, n5, n6, z1, z2, z3, z4, z5, z6, e6, e7, ob_s]
      rw [if_pos trivial, F_law_985, n7]
    rw [if_neg w10]
    by_cases w11 : xs i &&& 31 = nI 11
    · obtain ⟨v, h1, h2, e6, e7, J⟩ := J_weak I (xs (i + 1))
      refine ⟨h2, J, ?_⟩
      rw [if_pos w11]
      simp only [n1, n2, n3, n4, n5, n6, z1, z2, z3, z4, z5, z6, e6, e7, ob_s]
      rw [if_pos trivial, F_law_985, n7]
    rw [if_neg w11]
    by_cases w12 : xs i &&& 31 = nI 12
    · obtain ⟨v, h1, h2, e6, e7, J⟩ := J_sound I
      refine ⟨h2, J, ?_⟩
      rw [if_pos w12]
      simp only [n1, n2, n3, n4, n5, n6, z1, z2, z3, z4, z5, z6, e6, e7, ob_s]
      rw [if_pos trivial, F_law_985, n7]
    rw [if_neg w12]
    by_cases w13 : xs i &&& 31 = nI 13
    · obtain ⟨v, h1, h2, e6, e7, J⟩ := J_grip I (xs (i + 1))
      refine ⟨h2, J, ?_⟩
      rw [if_pos w13]
      simp only [n1, n2, n3, n4, n5, n6, z1, z2, z3, z4, z5, z6, e6, e7, ob_s]
      rw [if_pos trivial, F_law_985, n7]
    rw [if_neg w13]
    by_cases w14 : xs i &&& 31 = nI 14
    · obtain ⟨v, h1, h2, e6, e7, J⟩ := J_fit I (xs (i + 1))
      refine ⟨h2, J, ?_⟩
      rw [if_pos w14]
      simp only [n1, n2, n3, n4, n5, n6, z1, z2, z3, z4, z5, z6, e6, e7, ob_s]
      rw [if_pos trivial, F_law_985, n7]
    rw [if_neg w14]
    by_cases w15 : xs i &&& 31 = nI 15
    · refine ⟨h, ⟨σ, I⟩, ?_⟩
      rw [if_pos w15, n1, z1]
      by_cases q : xs (i + 1) = 0
      · have e6 : F_X6_seams 0 h = _ := C_seams I.1 I.2.2.1 false
        have e7 : F_X7_seams 0 h = _ := M_seams I.1 I.2.1 false
        rw [if_pos q, F_law_627, e6, ob_s, n1, z1, if_pos q, F_law_644, e7, ob_s, if_pos rfl, F_law_985, n7]
      · have e6 : F_X6_seams 1 h = _ := C_seams I.1 I.2.2.1 true
        have e7 : F_X7_seams 1 h = _ := M_seams I.1 I.2.1 true
        rw [if_neg q, F_law_627, e6, ob_s, n1, z1, if_neg q, F_law_644, e7, ob_s, if_pos rfl, F_law_985, n7]
    rw [if_neg w15]
    by_cases w16 : xs i &&& 31 = nI 16
    · obtain ⟨v, h1, h2, e6, e7, J⟩ := J_cover I (xs (i + 1)) (xs (i + 2))
      refine ⟨h2, J, ?_⟩
      rw [if_pos w16]
      simp only [n1, n2, n3, n4, n5, n6, z1, z2, z3, z4, z5, z6, e6, e7, ob_s]
      rw [if_pos trivial, F_law_985, n7]
    rw [if_neg w16]
    by_cases w17 : xs i &&& 31 = nI 17
    · obtain ⟨v, h1, h2, e6, e7, J⟩ := J_coverSeams I (xs (i + 1)) (xs (i + 2))
      refine ⟨h2, J, ?_⟩
      rw [if_pos w17]
      simp only [n1, n2, n3, n4, n5, n6, z1, z2, z3, z4, z5, z6, e6, e7, ob_s]
      rw [if_pos trivial, F_law_985, n7]
    rw [if_neg w17]
    by_cases w18 : xs i &&& 31 = nI 18
    · obtain ⟨v, h1, h2, e6, e7, J⟩ := J_coverAt I (xs (i + 1)) (xs (i + 2)) (xs (i + 3))
      refine ⟨h2, J, ?_⟩
      rw [if_pos w18]
      simp only [n1, n2, n3, n4, n5, n6, z1, z2, z3, z4, z5, z6, e6, e7, ob_s]
      rw [if_pos trivial, F_law_985, n7]
    rw [if_neg w18]
    by_cases w19 : xs i &&& 31 = nI 19
    · obtain ⟨v, h1, h2, e6, e7, J⟩ := J_lay I (xs (i + 1)) (xs (i + 2))
      refine ⟨h2, J, ?_⟩
      rw [if_pos w19]
      simp only [n1, n2, n3, n4, n5, n6, z1, z2, z3, z4, z5, z6, e6, e7, ob_s]
      rw [if_pos trivial, F_law_985, n7]
    rw [if_neg w19]
    by_cases w20 : xs i &&& 31 = nI 20
    · obtain ⟨v, h1, h2, e6, e7, J⟩ := J_box I (xs (i + 1)) (xs (i + 2))
      refine ⟨h2, J, ?_⟩
      rw [if_pos w20]
      simp only [n1, n2, n3, n4, n5, n6, z1, z2, z3, z4, z5, z6, e6, e7, ob_s]
      rw [if_pos trivial, F_law_985, n7]
    rw [if_neg w20]
    by_cases w21 : xs i &&& 31 = nI 21
    · obtain ⟨v, h1, h2, e6, e7, J⟩ := J_lacking I
      refine ⟨h2, J, ?_⟩
      rw [if_pos w21]
      simp only [n1, n2, n3, n4, n5, n6, z1, z2, z3, z4, z5, z6, e6, e7, ob_s]
      rw [if_pos trivial, F_law_985, n7]
    rw [if_neg w21]
    by_cases w22 : xs i &&& 31 = nI 22
    · obtain ⟨v, h1, h2, e6, e7, J⟩ := J_lacks I (xs (i + 1))
      refine ⟨h2, J, ?_⟩
      rw [if_pos w22]
      simp only [n1, n2, n3, n4, n5, n6, z1, z2, z3, z4, z5, z6, e6, e7, ob_s]
      rw [if_pos trivial, F_law_985, n7]
    rw [if_neg w22]
    by_cases w23 : xs i &&& 31 = nI 23
    · obtain ⟨v, h1, h2, e6, e7, J⟩ := J_order I (xs (i + 1))
      refine ⟨h2, J, ?_⟩
      rw [if_pos w23]
      simp only [n1, n2, n3, n4, n5, n6, z1, z2, z3, z4, z5, z6, e6, e7, ob_s]
      rw [if_pos trivial, F_law_985, n7]
    rw [if_neg w23]
    by_cases w24 : xs i &&& 31 = nI 24
    · obtain ⟨v, h1, h2, e6, e7, J⟩ := J_seen I (xs (i + 1)) (xs (i + 2)) (xs (i + 3))
      refine ⟨h2, J, ?_⟩
      rw [if_pos w24]
      simp only [n1, n2, n3, n4, n5, n6, z1, z2, z3, z4, z5, z6, e6, e7, ob_s]
      rw [if_pos trivial, F_law_985, n7]
    rw [if_neg w24]
    by_cases w25 : xs i &&& 31 = nI 25
    · obtain ⟨v, h1, h2, e6, e7, J⟩ := J_brickOf I (xs (i + 1)) (xs (i + 2))
      refine ⟨h2, J, ?_⟩
      rw [if_pos w25]
      simp only [n1, n2, n3, n4, n5, n6, z1, z2, z3, z4, z5, z6, e6, e7, ob_s]
      rw [if_pos trivial, F_law_985, n7]
    rw [if_neg w25]
    by_cases w26 : xs i &&& 31 = nI 26
    · obtain ⟨v, h2, e6, e7, J⟩ := J_count I (xs (i + 1))
      refine ⟨h2, J, ?_⟩
      rw [if_pos w26]
      simp only [n1, n2, n3, n4, n5, n6, z1, z2, z3, z4, z5, z6, e6, e7, ob_s]
      rw [if_pos trivial, F_law_985, n7]
    rw [if_neg w26]
    exact ⟨h, ⟨σ, I⟩, by rw [F_law_985, n7]⟩
  exact gen _ rfl
theorem law_run {xs : Nat → Int32} {L : Nat} (hL : L ≤ 3584) : ∀ q n i σ h, L + 7 ≤ i + q → q < n → i ≤ 3584 → Jv σ h → ∃ h', F_law_18 n xs L (nI i) h = some (1, h') := by
  intro q
  induction q with
  | zero =>
    intro n i σ h hq hn hi I
    obtain ⟨n, rfl⟩ : ∃ j, n = j + 1 := ⟨n - 1, by omega⟩
    refine ⟨h, ?_⟩
    rw [F_law_18, if_pos]
    rw [zI_n, zI_n, show (7 : Int32) = zI 7 by decide, zI_sub, zI_lt (by omega) (by omega)]
    omega
  | succ q ih =>
    intro n i σ h hq hn hi I
    obtain ⟨n, rfl⟩ : ∃ j, n = j + 1 := ⟨n - 1, by omega⟩
    rcases Nat.lt_or_ge L (i + 7) with w | w
    · refine ⟨h, ?_⟩
      rw [F_law_18, if_pos]
      rw [zI_n, zI_n, show (7 : Int32) = zI 7 by decide, zI_sub, zI_lt (by omega) (by omega)]
      omega
    · obtain ⟨h2, ⟨σ', J⟩, e⟩ := law_step hL w I n (xs := xs)
      rw [e]
      exact ih n (i + 7) σ' h2 (by omega) (by omega) (by omega) J
theorem law_true (xs : Nat → Int32) (L : Nat) (hL : L ≤ 3584) : ∀ gr : Nat → Int32, (∀ j : Nat, j < 180 → gr j = -9) → ∃ h', F_law_18 FU_ xs L 0 (hp0 gr) = some (1, h') := fun gr hg =>
  law_run hL (L + 7) FU_ 0 sg0 (hp0 gr) (by omega) (by unfold FU_; omega) (by omega) (J_start gr hg)
