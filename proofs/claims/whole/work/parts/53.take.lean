/-! ===== writing a brick's cells ===== -/
def rowW (id : Nat) (v : Int32) (b : Nat) : Nat → Hp → Hp
  | 0, h => h
  | q + 1, h => sA_ (rowW id v b q h) id (b + q) v
def recW (id : Nat) (v : Int32) (x y z lx : Nat) : Nat → Hp → Hp
  | 0, h => h
  | r + 1, h => rowW id v (36 * z + 6 * (y + r) + x) lx (recW id v x y z lx r h)
theorem rowW_o {id : Nat} {v : Int32} {b : Nat} {j : Nat} (hj : j ≠ id) : ∀ (q : Nat) (h : Hp), gA_ (rowW id v b q h) j = gA_ h j
  | 0, _ => rfl
  | q + 1, h => by rw [rowW, gA_sA, if_neg hj, rowW_o hj q h]
theorem recW_o {id : Nat} {v : Int32} {x y z lx : Nat} {j : Nat} (hj : j ≠ id) : ∀ (q : Nat) (h : Hp), gA_ (recW id v x y z lx q h) j = gA_ h j
  | 0, _ => rfl
  | q + 1, h => by rw [recW, rowW_o hj, recW_o hj q h]
theorem rowW_s {id : Nat} {v : Int32} {b : Nat} : ∀ (q : Nat) (h : Hp), (rowW id v b q h).1 = h.1 ∧ (rowW id v b q h).2.1 = h.2.1 ∧ (rowW id v b q h).2.2.2 = h.2.2.2
  | 0, _ => ⟨rfl, rfl, rfl⟩
  | q + 1, h => rowW_s q h
theorem recW_s {id : Nat} {v : Int32} {x y z lx : Nat} : ∀ (q : Nat) (h : Hp), (recW id v x y z lx q h).1 = h.1 ∧ (recW id v x y z lx q h).2.1 = h.2.1 ∧ (recW id v x y z lx q h).2.2.2 = h.2.2.2
  | 0, _ => ⟨rfl, rfl, rfl⟩
  | q + 1, h => by
    have a := recW_s (id := id) (v := v) (x := x) (y := y) (z := z) (lx := lx) q h
    have b := rowW_s (id := id) (v := v) (b := 36 * z + 6 * (y + q) + x) lx (recW id v x y z lx q h)
    exact ⟨b.1.trans a.1, b.2.1.trans a.2.1, b.2.2.trans a.2.2⟩
theorem recW_I {id : Nat} {v : Int32} {x y z lx : Nat} (q : Nat) (h : Hp) (k : Nat) : gI_ (recW id v x y z lx q h) k = gI_ h k := congrFun (recW_s q h).1 k
theorem recW_J {id : Nat} {v : Int32} {x y z lx : Nat} (q : Nat) (h : Hp) (k : Nat) : gJ_ (recW id v x y z lx q h) k = gJ_ h k := congrFun (recW_s q h).2.1 k
theorem recW_L {id : Nat} {v : Int32} {x y z lx : Nat} (q : Nat) (h : Hp) (k : Nat) : gL_ (recW id v x y z lx q h) k = gL_ h k := congrFun (recW_s q h).2.2 k
theorem rowW_a {id : Nat} {v : Int32} {b : Nat} (i : Nat) : ∀ (q : Nat) (h : Hp), gA_ (rowW id v b q h) id i = if b ≤ i ∧ i < b + q then v else gA_ h id i
  | 0, h => by rw [if_neg (by omega)]; rfl
  | q + 1, h => by
    rw [rowW, gA_sA, if_pos rfl]
    by_cases hi : i = b + q
    · subst hi; rw [pk_us, if_pos (by omega)]
    · rw [pk_un hi, rowW_a i q h]
      by_cases hc : b ≤ i ∧ i < b + q
      · rw [if_pos hc, if_pos (by omega)]
      · rw [if_neg hc, if_neg (by omega)]
def inC6 (x lx y ly z i : Nat) : Bool := decide (i / 36 = z) && inR x lx y ly (i % 36)
theorem inC6_row {x lx y z i r : Nat} (hx : x + lx ≤ 6) (hy : y + r + 1 ≤ 6) (hz : z < 5) (hi : i < 180) : (inC6 x lx y (r + 1) z i = true) ↔ (36 * z + 6 * (y + r) + x ≤ i ∧ i < 36 * z + 6 * (y + r) + x + lx) ∨ inC6 x lx y r z i = true := by
  unfold inC6 inR
  rw [← Bool.decide_and, ← Bool.decide_and, decide_eq_true_iff, decide_eq_true_iff]
  have e6 : i % 36 % 6 = i % 6 := by omega
  rw [e6]
  constructor
  · rintro ⟨q1, q2, q3, q4, q5, q6⟩
    by_cases q7 : i % 36 / 6 < y + r
    · exact Or.inr ⟨q1, q2, q3, q4, q5, q7⟩
    · have : i % 36 / 6 = y + r := by omega
      exact Or.inl (by omega)
  · rintro (⟨q1, q2⟩ | ⟨q1, q2, q3, q4, q5, q6⟩)
    · have e1 : i / 36 = z := by omega
      have e2 : i % 36 = 6 * (y + r) + (i - 36 * z - 6 * (y + r)) := by omega
      have e3 : i % 36 / 6 = y + r := by omega
      have e4 : i % 6 = i - 36 * z - 6 * (y + r) := by omega
      exact ⟨e1, by omega, by omega, by omega, by omega, by omega⟩
    · exact ⟨q1, q2, q3, q4, q5, by omega⟩
theorem recW_a {id : Nat} {v : Int32} {x y z lx i : Nat} (hx : x + lx ≤ 6) (hz : z < 5) (hi : i < 180) : ∀ (r : Nat) (h : Hp), y + r ≤ 6 → gA_ (recW id v x y z lx r h) id i = if inC6 x lx y r z i = true then v else gA_ h id i
  | 0, h, _ => by
    rw [if_neg]; · rfl
    unfold inC6 inR; rw [← Bool.decide_and, decide_eq_true_iff]; omega
  | r + 1, h, hy => by
    rw [recW, rowW_a, recW_a hx hz hi r h (by omega)]
    have e := inC6_row (i := i) hx (r := r) (y := y) (by omega) hz hi
    by_cases h1 : 36 * z + 6 * (y + r) + x ≤ i ∧ i < 36 * z + 6 * (y + r) + x + lx
    · rw [if_pos h1, if_pos (e.mpr (Or.inl h1))]
    · rw [if_neg h1]
      by_cases h2 : inC6 x lx y r z i = true
      · rw [if_pos h2, if_pos (e.mpr (Or.inr h2))]
      · rw [if_neg h2, if_neg (fun q => (e.mp q).elim h1 h2)]
theorem recW_j {id : Nat} {v : Int32} {x y z lx : Nat} {ly : Nat} (h : Hp) {f : Nat → Int32} (j : Nat) (hj : j ≠ id) (hf : gA_ h j = f) : gA_ (recW id v x y z lx ly h) j = f := by rw [recW_o hj, hf]
theorem f_writeN {h : Hp} {b k t x y z : Nat} (hb : b < 40) (hk : k < 7) (ht : t < 2) (hx : x + lX k t ≤ 6) (hy : y + lY k t ≤ 6) (hz : z < 5) (e12 : gA_ h 12 b = nI k) (e13 : gA_ h 13 b = nI t) (e14 : gA_ h 14 b = nI x) (e15 : gA_ h 15 b = nI y) (e16 : gA_ h 16 b = nI z) (v : Int32) : F_X2_writeNumbers (nI b) v h = some (recW 21 v x y z (lX k t) (lY k t) h) := by
  unfold F_X2_writeNumbers
  rw [rA_n _ 12 40 _ hb (by decide), rA_n _ 13 40 _ hb (by decide), e12, e13, f_alongX hk ht, ob_s, rA_n _ 12 40 _ hb (by decide), rA_n _ 13 40 _ hb (by decide), e12, e13, f_alongY hk ht, ob_s]
  refine lp_FU (fun n i => F_X2_writeNumbers_36 n (nI b) v (nI (lX k t)) (nI (lY k t)) (nI i) (recW 21 v x y z (lX k t) i h)) _ (lY k t) (by omega) (fun n i hi => ?_) (fun n => ?_)
  · show F_X2_writeNumbers_36 (n + 1) _ _ _ _ _ _ = _
    rw [F_X2_writeNumbers_36, if_neg (nI_ge hi (by omega))]
    refine lp_FU (fun m j => F_X2_writeNumbers_46 m (F_X2_writeNumbers_108 (F_X2_writeNumbers_36 n)) (nI b) v (nI (lX k t)) (nI (lY k t)) (nI i) (nI j) (rowW 21 v (36 * z + 6 * (y + i) + x) j (recW 21 v x y z (lX k t) i h))) _ (lX k t) (by omega) (fun m j hj => ?_) (fun m => ?_)
    · show F_X2_writeNumbers_46 (m + 1) _ _ _ _ _ _ _ _ = _
      have g : ∀ c, c ≠ 21 → gA_ (rowW 21 v (36 * z + 6 * (y + i) + x) j (recW 21 v x y z (lX k t) i h)) c = gA_ h c := fun c hc => by rw [rowW_o hc, recW_o hc]
      have g1 : 36 * z + 6 * (y + i) + (x + j) < 180 := by omega
      rw [F_X2_writeNumbers_46, if_neg (nI_ge hj (by omega)), rA_n _ 14 40 _ hb (by decide), rA_n _ 15 40 _ hb (by decide), rA_n _ 16 40 _ hb (by decide), g 14 (by decide), g 15 (by decide), g 16 (by decide), e14, e15, e16, nI_add, nI_add, f_indexOf, ob_s, if_neg (i_n0 (by omega)), if_neg (show ¬ (180 : Int32) ≤ nI _ from (nI_ge g1 (by decide) : ¬ nI 180 ≤ _)), wA_n _ 21 180 _ _ g1 (by decide)]
      unfold F_X2_writeNumbers_102
      rw [show (1 : Int32) = nI 1 from rfl, nI_add, ← Nat.add_assoc]; rfl
    · show F_X2_writeNumbers_46 (m + 1) _ _ _ _ _ _ _ _ = _
      rw [F_X2_writeNumbers_46, if_pos (nI_le (Nat.le_refl _) (by omega))]
      unfold F_X2_writeNumbers_108
      rw [show (1 : Int32) = nI 1 from rfl, nI_add]; rfl
  · show F_X2_writeNumbers_36 (n + 1) _ _ _ _ _ _ = _
    rw [F_X2_writeNumbers_36, if_pos (nI_le (Nat.le_refl _) (by omega))]
theorem f_fills {h : Hp} {b k t x y z : Nat} (hb : b < 40) (hk : k < 7) (ht : t < 2) (hx : x + lX k t ≤ 6) (hy : y + lY k t ≤ 6) (hz : z < 5) (e12 : gA_ h 42 b = nI k) (e13 : gA_ h 43 b = nI t) (e14 : gA_ h 44 b = nI x) (e15 : gA_ h 45 b = nI y) (e16 : gA_ h 46 b = nI z) (v : Int32) : F_X7_fills (nI b) v h = some (recW 40 v x y z (lX k t) (lY k t) h) := by
  unfold F_X7_fills
  refine lp_FU (fun n i => F_X7_fills_2 n (nI b) v (nI i) (recW 40 v x y z (lX k t) i h)) _ (lY k t) (by omega) (fun n i hi => ?_) (fun n => ?_)
  · show F_X7_fills_2 (n + 1) _ _ _ _ = _
    have g : ∀ c, c ≠ 40 → gA_ (recW 40 v x y z (lX k t) i h) c = gA_ h c := fun c hc => recW_o hc _ _
    rw [F_X7_fills_2, rA_n _ 42 40 _ hb (by decide), rA_n _ 43 40 _ hb (by decide), g 42 (by decide), g 43 (by decide), e12, e13, f_lengthY hk ht, ob_s, if_neg (nI_ge hi (by omega))]
    refine lp_FU (fun m j => F_X7_fills_24 m (F_X7_fills_82 (F_X7_fills_2 n)) (nI b) v (nI i) (nI j) (rowW 40 v (36 * z + 6 * (y + i) + x) j (recW 40 v x y z (lX k t) i h))) _ (lX k t) (by omega) (fun m j hj => ?_) (fun m => ?_)
    · show F_X7_fills_24 (m + 1) _ _ _ _ _ _ = _
      have g : ∀ c, c ≠ 40 → gA_ (rowW 40 v (36 * z + 6 * (y + i) + x) j (recW 40 v x y z (lX k t) i h)) c = gA_ h c := fun c hc => by rw [rowW_o hc, recW_o hc]
      have g1 : 36 * z + 6 * (y + i) + (x + j) < 180 := by omega
      rw [F_X7_fills_24, rA_n _ 42 40 _ hb (by decide), rA_n _ 43 40 _ hb (by decide), g 42 (by decide), g 43 (by decide), e12, e13, f_lengthX hk ht, ob_s, if_neg (nI_ge hj (by omega)), rA_n _ 44 40 _ hb (by decide), rA_n _ 45 40 _ hb (by decide), rA_n _ 46 40 _ hb (by decide), g 44 (by decide), g 45 (by decide), g 46 (by decide), e14, e15, e16, nI_add, nI_add, f_cellAt, ob_s, wA_n _ 40 180 _ _ g1 (by decide)]
      rw [show (1 : Int32) = nI 1 from rfl, nI_add, ← Nat.add_assoc]; rfl
    · show F_X7_fills_24 (m + 1) _ _ _ _ _ _ = _
      have g : ∀ c, c ≠ 40 → gA_ (rowW 40 v (36 * z + 6 * (y + i) + x) (lX k t) (recW 40 v x y z (lX k t) i h)) c = gA_ h c := fun c hc => by rw [rowW_o hc, recW_o hc]
      rw [F_X7_fills_24, rA_n _ 42 40 _ hb (by decide), rA_n _ 43 40 _ hb (by decide), g 42 (by decide), g 43 (by decide), e12, e13, f_lengthX hk ht, ob_s, if_pos (nI_le (Nat.le_refl _) (by omega))]
      unfold F_X7_fills_82
      rw [show (1 : Int32) = nI 1 from rfl, nI_add]; rfl
  · show F_X7_fills_2 (n + 1) _ _ _ _ = _
    have g : ∀ c, c ≠ 40 → gA_ (recW 40 v x y z (lX k t) (lY k t) h) c = gA_ h c := fun c hc => recW_o hc _ _
    rw [F_X7_fills_2, rA_n _ 42 40 _ hb (by decide), rA_n _ 43 40 _ hb (by decide), g 42 (by decide), g 43 (by decide), e12, e13, f_lengthY hk ht, ob_s, if_pos (nI_le (Nat.le_refl _) (by omega))]
