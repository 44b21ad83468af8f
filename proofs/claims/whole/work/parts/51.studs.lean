/-! ===== rectangles ===== -/
theorem len_t : ∀ k, k < 7 → ([1, 2, 3, 4, 2, 3, 4] : List Int32).getD k 0 = nI (lenN k) ∧ ([1, 1, 1, 1, 2, 2, 2] : List Int32).getD k 0 = nI (widN k) := by decide +kernel
theorem f_alongX {k t : Nat} (hk : k < 7) (ht : t < 2) (h : Hp) : F_X2_alongX (nI k) (nI t) h = some (nI (lX k t)) := by
  unfold F_X2_alongX lX
  rw [f_isKind, in7 hk, ob_s, if_neg b1_, rS_n _ _ hk (by decide), rS_n _ _ hk (by decide), (len_t k hk).1, (len_t k hk).2]
  by_cases h0 : t = 0
  · rw [if_pos (by rw [h0]; rfl), if_pos h0]
  · rw [if_neg (fun q => h0 ((nI_ze (by omega)).mp q)), if_neg h0]
theorem f_alongY {k t : Nat} (hk : k < 7) (ht : t < 2) (h : Hp) : F_X2_alongY (nI k) (nI t) h = some (nI (lY k t)) := by
  unfold F_X2_alongY lY
  have ht' : t = 0 ∨ t = 1 := by omega
  rcases ht' with rfl | rfl
  · rw [show (1 : Int32) - nI 0 = nI 1 by decide, f_alongX hk (by decide)]; rfl
  · rw [show (1 : Int32) - nI 1 = nI 0 by decide, f_alongX hk (by decide)]; rfl
theorem f_lengthX {k t : Nat} (hk : k < 7) (ht : t < 2) (h : Hp) : F_X7_lengthX (nI k) (nI t) h = some (nI (lX k t)) := by
  unfold F_X7_lengthX lX
  rw [rS_n _ _ hk (by decide), rS_n _ _ hk (by decide), (len_t k hk).1, (len_t k hk).2]
  by_cases h0 : t = 0
  · rw [if_pos (by rw [h0]; rfl), if_pos h0]
  · rw [if_neg (fun q => h0 ((nI_ze (by omega)).mp q)), if_neg h0]
theorem f_lengthY {k t : Nat} (hk : k < 7) (ht : t < 2) (h : Hp) : F_X7_lengthY (nI k) (nI t) h = some (nI (lY k t)) := by
  unfold F_X7_lengthY lY
  rw [rS_n _ _ hk (by decide), rS_n _ _ hk (by decide), (len_t k hk).1, (len_t k hk).2]
  by_cases h0 : t = 0
  · rw [if_pos (by rw [h0]; rfl), if_pos h0]
  · rw [if_neg (fun q => h0 ((nI_ze (by omega)).mp q)), if_neg h0]
def rowB (l : Nat) : Int64 := ls_ 1 (nI l) - 1
theorem tb_row : ∀ l, l < 5 → ∀ j, j < 64 → tb (rowB l) j = decide (j < l) := by decide +kernel
def fpA (l x y : Nat) : Nat → Int64
  | 0 => 0
  | i + 1 => fpA l x y i ||| ls_ (rowB l) (nI ((y + i) * 6 + x))
theorem tb_fpA {l x y : Nat} (hl : l < 5) (hx : x + l ≤ 6) : ∀ i, y + i ≤ 6 → ∀ s, tb (fpA l x y i) s = inR x l y i s
  | 0, _, s => by
    show tb 0 s = _
    rw [tb_0]; unfold inR
    exact (decide_eq_false (by omega)).symm
  | i + 1, hy, s => by
    have ih := tb_fpA (y := y) hl hx i (by omega) s
    show tb (fpA l x y i ||| _) s = _
    rw [tb_or, ih]
    rcases Nat.lt_or_ge s 64 with h64 | h64
    · rw [tb_shl _ (show (y + i) * 6 + x < 64 by omega) h64, tb_row l hl _ (by omega)]
      unfold inR
      rw [← Bool.decide_and, ← Bool.decide_or]
      refine decide_eq_decide.mpr ?_
      constructor
      · rintro (⟨q1, q2, q3, q4, q5⟩ | ⟨q1, q2⟩)
        · exact ⟨q1, q2, q3, q4, by omega⟩
        · have h36 : s < 36 := by omega
          have e1 : s / 6 = y + i := by omega
          have e2 : s % 6 = s - (y + i) * 6 := by omega
          exact ⟨h36, by omega, by omega, by omega, by omega⟩
      · rintro ⟨q1, q2, q3, q4, q5⟩
        by_cases q6 : s / 6 < y + i
        · exact Or.inl ⟨q1, q2, q3, q4, q6⟩
        · exact Or.inr ⟨by omega, by omega⟩
    · rw [tb_big h64, Bool.or_false]; unfold inR
      exact decide_eq_decide.mpr ⟨fun q => by omega, fun q => by omega⟩
theorem f_footprint {k t x y : Nat} (hk : k < 7) (ht : t < 2) (hx : x + lX k t ≤ 6) (hy : y + lY k t ≤ 6) (h : Hp) : F_X2_footprint (nI k) (nI t) (nI x) (nI y) h = some (fpA (lX k t) x y (lY k t)) := by
  have l1 := lX_le (t := t) hk
  have l2 := lY_le (t := t) hk
  unfold F_X2_footprint
  rw [f_alongX hk ht, ob_s, bd_e, f_alongY hk ht, ob_s]
  refine lp_FU (fun n i => F_X2_footprint_24 n (nI x) (nI y) (rowB (lX k t)) (nI (lY k t)) (fpA (lX k t) x y i) (nI i) h) _ (lY k t) (by omega) (fun n i hi => ?_) (fun n => ?_)
  · show F_X2_footprint_24 (n + 1) _ _ _ _ _ _ h = _
    rw [F_X2_footprint_24, if_neg (nI_ge hi (by omega)), bd_e, nI_add, show nI (y + i) * 6 = nI ((y + i) * 6) from pk_mul (y + i) 6, nI_add, nI_1]; rfl
  · show F_X2_footprint_24 (n + 1) _ _ _ _ _ _ h = _
    rw [F_X2_footprint_24, if_pos (nI_le (Nat.le_refl _) (by omega))]
theorem tb_fp {k t x y : Nat} (hk : k < 7) (hx : x + lX k t ≤ 6) (hy : y + lY k t ≤ 6) (s : Nat) : tb (fpA (lX k t) x y (lY k t)) s = inR x (lX k t) y (lY k t) s := by
  have l1 := lX_le (t := t) hk
  exact tb_fpA (by omega) hx _ (by omega) s
/-! how many spots two rectangles share -/
theorem ovl6' : ∀ a, a < 7 → ∀ la, la < 7 → ∀ b, b < 7 → ∀ lb, lb < 7 → (a + la ≤ 6 ∧ b + lb ≤ 6 → sumN (fun r => b1n (decide (a ≤ r ∧ r < a + la ∧ b ≤ r ∧ r < b + lb))) 6 = ovl a la b lb) := by decide +kernel
theorem ovl6 (a : Nat) (h1 : a < 7) (la : Nat) (h2 : la < 7) (h3 : a + la ≤ 6) (b : Nat) (h4 : b < 7) (lb : Nat) (h5 : lb < 7) (h6 : b + lb ≤ 6) : sumN (fun r => b1n (decide (a ≤ r ∧ r < a + la ∧ b ≤ r ∧ r < b + lb))) 6 = ovl a la b lb := ovl6' a h1 la h2 b h4 lb h5 ⟨h3, h6⟩
theorem sumN_k (c : Nat) (f : Nat → Nat) : ∀ n, sumN (fun i => c * f i) n = c * sumN f n
  | 0 => by simp [sumN]
  | n + 1 => by rw [sumN, sumN, sumN_k c f n, Nat.mul_add]
theorem sumN_ext0 {f : Nat → Nat} {m : Nat} (h : ∀ i, m ≤ i → f i = 0) (n : Nat) : sumN f (m + n) = sumN f m := by
  rw [sumN_add, sumN_0 (fun i _ => h (m + i) (by omega))]; rfl
theorem rect_cnt {x1 l1 y1 m1 x2 l2 y2 m2 : Nat} (h1 : x1 + l1 ≤ 6) (h2 : y1 + m1 ≤ 6) (h3 : x2 + l2 ≤ 6) (h4 : y2 + m2 ≤ 6) : sumN (fun s => b1n (inR x1 l1 y1 m1 s && inR x2 l2 y2 m2 s)) 64 = ovl x1 l1 x2 l2 * ovl y1 m1 y2 m2 := by
  rw [show 64 = 36 + 28 from rfl, sumN_ext0 (fun i hi => by unfold inR; have : ¬ i < 36 := by omega
                                                            simp [this, b1n])]
  rw [show 36 = 6 * 6 from rfl, sumN_mul]
  have e : ∀ q, q < 6 → sumN (fun r => b1n (inR x1 l1 y1 m1 (q * 6 + r) && inR x2 l2 y2 m2 (q * 6 + r))) 6 = ovl x1 l1 x2 l2 * b1n (decide (y1 ≤ q ∧ q < y1 + m1 ∧ y2 ≤ q ∧ q < y2 + m2)) := by
    intro q hq
    rw [← ovl6 x1 (by omega) l1 (by omega) h1 x2 (by omega) l2 (by omega) h3]
    by_cases hc : y1 ≤ q ∧ q < y1 + m1 ∧ y2 ≤ q ∧ q < y2 + m2
    · rw [decide_eq_true hc, show b1n true = 1 from rfl, Nat.mul_one]
      refine sumN_c (fun r hr => congrArg b1n ?_)
      unfold inR
      rw [← Bool.decide_and]
      refine decide_eq_decide.mpr ?_
      rw [show (q * 6 + r) % 6 = r by omega, show (q * 6 + r) / 6 = q by omega]
      constructor
      · rintro ⟨⟨_, a, b, _⟩, _, c, d, _⟩; exact ⟨a, b, c, d⟩
      · rintro ⟨a, b, c, d⟩; exact ⟨⟨by omega, a, b, hc.1, hc.2.1⟩, by omega, c, d, hc.2.2.1, hc.2.2.2⟩
    · rw [decide_eq_false hc, show b1n false = 0 from rfl, Nat.mul_zero]
      refine sumN_0 (fun r hr => ?_)
      have : (inR x1 l1 y1 m1 (q * 6 + r) && inR x2 l2 y2 m2 (q * 6 + r)) = false := by
        unfold inR
        rw [← Bool.decide_and]
        refine decide_eq_false ?_
        rw [show (q * 6 + r) % 6 = r by omega, show (q * 6 + r) / 6 = q by omega]
        rintro ⟨⟨_, _, _, a, b⟩, _, _, _, c, d⟩
        exact hc ⟨a, b, c, d⟩
      rw [this]; rfl
  rw [sumN_c e, sumN_k, ovl6 y1 (by omega) m1 (by omega) h2 y2 (by omega) m2 (by omega) h4]
theorem ovl_self (a l : Nat) : ovl a l a l = l := by unfold ovl; omega
theorem ab_1 {a b : Nat} (ha : a < 100) (hb : b < 100) : ab_ (nI a - nI b) = 1 ↔ (a = b + 1 ∨ b = a + 1) := by
  unfold ab_
  have e := pk_sub_toInt (a := a) (b := b) (by omega) (by omega)
  have e0 : (0 : Int32).toInt = 0 := by decide
  by_cases h : b ≤ a
  · rw [if_pos (by rw [i_leT, e, e0]; omega), pk_sub h, show (1 : Int32) = nI 1 from rfl, i_eq (by omega) (by decide)]; omega
  · rw [if_neg (by rw [i_leT, e, e0]; omega), show (0 : Int32) - (nI a - nI b) = -(nI a - nI b) by simp, neg_sub', pk_sub (by omega), show (1 : Int32) = nI 1 from rfl, i_eq (by omega) (by decide)]; omega
theorem stN_le {σ : Sg} (hw : Wf σ) {a b : Nat} (ha : a < sN σ) (hb : b < sN σ) : stN σ a b ≤ 16 := by
  have g1 : 1 ≤ sLx σ a ∧ sLx σ a ≤ 4 := lX_le (t := sT σ a) (hw.2.2.1 a ha).1
  have g2 : 1 ≤ sLy σ a ∧ sLy σ a ≤ 4 := lY_le (t := sT σ a) (hw.2.2.1 a ha).1
  unfold stN
  split
  · have h1 : ovl (sX σ a) (sLx σ a) (sX σ b) (sLx σ b) ≤ 4 := by unfold ovl; omega
    have h2 : ovl (sY σ a) (sLy σ a) (sY σ b) (sLy σ b) ≤ 4 := by unfold ovl; omega
    exact Nat.le_trans (Nat.mul_le_mul h1 h2) (by decide)
  · omega
theorem f_shared {σ : Sg} {h : Hp} (hw : Wf σ) (hc : RepC σ h) {a b : Nat} (ha : a < sN σ) (hb : b < sN σ) : F_X2_sharedStuds (nI a) (nI b) h = some (nI (stN σ a b)) := by
  have h40 := hw.1
  obtain ⟨a1, a2, a3, a4, a5, a6⟩ := hw.2.2.1 a ha
  obtain ⟨b1, b2, b3, b4, b5, b6⟩ := hw.2.2.1 b hb
  unfold F_X2_sharedStuds stN
  rw [f_exists hc, n_inN ha (by omega), ob_s, if_neg b1_, f_exists hc, n_inN hb (by omega), ob_s, if_neg b1_, rA_n h 16 40 _ (by omega) (by decide), rA_n h 16 40 _ (by omega) (by decide), (hc.2.2.2.1 a ha).2.2.2.2.1, (hc.2.2.2.1 b hb).2.2.2.2.1]
  by_cases hz : sZ σ a = sZ σ b + 1 ∨ sZ σ b = sZ σ a + 1
  · rw [if_pos ((ab_1 (by omega) (by omega)).mpr hz), if_pos hz, rL_n h 18 40 _ (by omega) (by decide), rL_n h 18 40 _ (by omega) (by decide), f_bitCount, ob_s]
    congr 2
    unfold pcL
    rw [← rect_cnt a3 a4 b3 b4]
    refine sumN_c (fun s _ => ?_)
    rw [tb_and, hc.2.2.2.2.2.2.2.2.1 a ha, hc.2.2.2.2.2.2.2.2.1 b hb]
  · rw [if_neg (fun q => hz ((ab_1 (by omega) (by omega)).mp q)), if_neg hz]; rfl
theorem f_sizeOf {σ : Sg} {h : Hp} (hw : Wf σ) (hc : RepC σ h) {a : Nat} (ha : a < sN σ) : F_X2_sizeOf (nI a) h = some (nI (sLx σ a * sLy σ a)) := by
  have h40 := hw.1
  obtain ⟨a1, a2, a3, a4, a5, a6⟩ := hw.2.2.1 a ha
  unfold F_X2_sizeOf
  rw [f_exists hc, n_inN ha (by omega), ob_s, if_neg b1_, rL_n h 18 40 _ (by omega) (by decide), f_bitCount, ob_s]
  congr 2
  unfold pcL
  have := rect_cnt a3 a4 a3 a4
  rw [ovl_self, ovl_self] at this
  rw [← this]
  refine sumN_c (fun s _ => ?_)
  rw [hc.2.2.2.2.2.2.2.2.1 a ha, Bool.and_self]
theorem area_t : ∀ k, k < 7 → ∀ t, t < 2 → lX k t * lY k t = lenN k * widN k := by decide
theorem f_cells {σ : Sg} {h : Hp} (hw : Wf σ) (hm : RepM σ h) {a : Nat} (ha : a < sN σ) : F_X7_cells (nI a) h = some (nI (sLx σ a * sLy σ a)) := by
  have h40 := hw.1
  obtain ⟨a1, a2, a3, a4, a5, a6⟩ := hw.2.2.1 a ha
  unfold F_X7_cells
  simp only [rA_n h 42 40 _ (show a < 40 by omega) (by decide), (hm.2.2.2.1 a ha).1, rS_n _ _ (show sK σ a < ([1, 2, 3, 4, 2, 3, 4] : List Int32).length from a1) (by decide), rS_n _ _ (show sK σ a < ([1, 1, 1, 1, 2, 2, 2] : List Int32).length from a1) (by decide), (len_t _ a1).1, (len_t _ a1).2]
  rw [pk_mul, ← area_t _ a1 _ a2]
theorem mn_n {a b : Nat} (ha : a < 2 ^ 31) (hb : b < 2 ^ 31) : mn_ (nI a) (nI b) = nI (min a b) := by
  unfold mn_
  by_cases h : b < a
  · rw [if_pos (nI_lt h ha), Nat.min_eq_right (by omega)]
  · rw [if_neg (nI_nlt (by omega) hb), Nat.min_eq_left (by omega)]
theorem mx_n {a b : Nat} (ha : a < 2 ^ 31) (hb : b < 2 ^ 31) : mx_ (nI a) (nI b) = nI (max a b) := by
  unfold mx_
  by_cases h : a < b
  · rw [if_pos (nI_lt h hb), Nat.max_eq_right (by omega)]
  · rw [if_neg (nI_nlt (by omega) ha), Nat.max_eq_left (by omega)]
theorem df_le0 {a b : Nat} (ha : a < 2 ^ 30) (hb : b < 2 ^ 30) : nI a - nI b ≤ 0 ↔ a ≤ b := by
  rw [i_leT, pk_sub_toInt ha hb, show (0 : Int32).toInt = 0 by decide]; omega
theorem f_studsOf {σ : Sg} {h : Hp} (hw : Wf σ) (hm : RepM σ h) {a b : Nat} (ha : a < sN σ) (hb : b < sN σ) : F_X7_studsOf (nI a) (nI b) h = some (nI (stN σ a b)) := by
  have h40 := hw.1
  obtain ⟨a1, a2, a3, a4, a5, a6⟩ := hw.2.2.1 a ha
  obtain ⟨b1, b2, b3, b4, b5, b6⟩ := hw.2.2.1 b hb
  obtain ⟨p1, p2, p3, p4, p5, p6⟩ := hm.2.2.2.1 a ha
  obtain ⟨q1, q2, q3, q4, q5, q6⟩ := hm.2.2.2.1 b hb
  unfold F_X7_studsOf stN
  simp only [rA_n h _ 40 _ (show a < 40 by omega) (by decide), rA_n h _ 40 _ (show b < 40 by omega) (by decide), p1, p2, p3, p4, p5, q1, q2, q3, q4, q5, f_lengthX a1 a2, f_lengthX b1 b2, f_lengthY a1 a2, f_lengthY b1 b2, ob_s, bd_e, nI_add]
  rw [show lX (sK σ a) (sT σ a) = sLx σ a from rfl, show lX (sK σ b) (sT σ b) = sLx σ b from rfl, show lY (sK σ a) (sT σ a) = sLy σ a from rfl, show lY (sK σ b) (sT σ b) = sLy σ b from rfl]
  rw [mn_n (by omega) (by omega), mx_n (by omega) (by omega), mn_n (by omega) (by omega), mx_n (by omega) (by omega)]
  by_cases hz : sZ σ a = sZ σ b + 1 ∨ sZ σ b = sZ σ a + 1
  · rw [if_pos ((ab_1 (by omega) (by omega)).mpr hz), if_pos hz]
    unfold ovl
    by_cases hx : min (sX σ a + sLx σ a) (sX σ b + sLx σ b) ≤ max (sX σ a) (sX σ b)
    · rw [if_pos ((df_le0 (by omega) (by omega)).mpr hx), Nat.sub_eq_zero_of_le hx, Nat.zero_mul]; rfl
    · rw [if_neg (fun q => hx ((df_le0 (by omega) (by omega)).mp q))]
      by_cases hy : min (sY σ a + sLy σ a) (sY σ b + sLy σ b) ≤ max (sY σ a) (sY σ b)
      · rw [if_pos ((df_le0 (by omega) (by omega)).mpr hy), Nat.sub_eq_zero_of_le hy, Nat.mul_zero]; rfl
      · rw [if_neg (fun q => hy ((df_le0 (by omega) (by omega)).mp q)), pk_sub (by omega), pk_sub (by omega), pk_mul]
  · rw [if_neg (fun q => hz ((ab_1 (by omega) (by omega)).mp q)), if_neg hz]; rfl
def s_studs (σ : Sg) (x y : Int32) : Int32 × Nat := if (inN x (nI (sN σ)) && inN y (nI (sN σ)) && !decide (x = y)) = true then if (sTh σ x.toNatClampNeg && sTh σ y.toNatClampNeg) = true then (nI (stN σ x.toNatClampNeg y.toNatClampNeg), 0) else (-3, 3) else (-1, 1)
theorem C_studs {σ : Sg} {h : Hp} (hw : Wf σ) (hc : RepC σ h) (x y : Int32) : F_X6_studs x y h = some ((s_studs σ x y).1, rC h (s_studs σ x y).2) := by
  have h40 := hw.1
  unfold F_X6_studs s_studs
  rw [f_exists hc, ob_s, c_r1, c_r3]
  cases hp : inN x (nI (sN σ)) with
  | false => rw [if_pos b0_]; rfl
  | true =>
    rw [if_neg b1_, f_exists hc, ob_s]
    cases hq : inN y (nI (sN σ)) with
    | false => rw [if_pos b0_]; rfl
    | true =>
      rw [if_neg b1_]
      by_cases hxy : x = y
      · rw [if_pos hxy, decide_eq_true hxy]; rfl
      · obtain ⟨a, ha, rfl⟩ := inN_n (by omega) hp
        obtain ⟨b, hb, rfl⟩ := inN_n (by omega) hq
        rw [if_neg hxy, decide_eq_false hxy, f_isThereC hw hc ha, ob_s, f_isThereC hw hc hb, ob_s, f_shared hw hc ha hb, nI_clamp (by omega), nI_clamp (by omega)]
        cases sTh σ a <;> cases sTh σ b <;> rfl
theorem M_studs {σ : Sg} {h : Hp} (hw : Wf σ) (hm : RepM σ h) (x y : Int32) : F_X7_studs x y h = some ((s_studs σ x y).1, rM h (s_studs σ x y).2) := by
  have h40 := hw.1
  unfold F_X7_studs s_studs
  rw [f_isBrick hm, ob_s, m_r1, m_r3]
  cases hp : inN x (nI (sN σ)) with
  | false => rw [if_pos b0_]; rfl
  | true =>
    rw [if_neg b1_, f_isBrick hm, ob_s]
    cases hq : inN y (nI (sN σ)) with
    | false => rw [if_pos b0_]; rfl
    | true =>
      rw [if_neg b1_]
      by_cases hxy : x = y
      · rw [if_pos hxy, decide_eq_true hxy]; rfl
      · obtain ⟨a, ha, rfl⟩ := inN_n (by omega) hp
        obtain ⟨b, hb, rfl⟩ := inN_n (by omega) hq
        rw [if_neg hxy, decide_eq_false hxy, f_isThereM hw hm ha, ob_s, f_isThereM hw hm hb, ob_s, f_studsOf hw hm ha hb, nI_clamp (by omega), nI_clamp (by omega)]
        cases sTh σ a <;> cases sTh σ b <;> rfl
