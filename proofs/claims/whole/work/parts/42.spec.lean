/-! ===== the state that both stand for ===== -/
def lenN (k : Nat) : Nat := ([1, 2, 3, 4, 2, 3, 4] : List Nat).getD k 0
def widN (k : Nat) : Nat := ([1, 1, 1, 1, 2, 2, 2] : List Nat).getD k 0
def lX (k t : Nat) : Nat := if t = 0 then lenN k else widN k
def lY (k t : Nat) : Nat := if t = 0 then widN k else lenN k
/-- body, how many bricks ever, kind, turn, x, y, z, colour, there, grid, grip, box -/
abbrev Sg : Type := (Nat → Nat) × Nat × (Nat → Nat) × (Nat → Nat) × (Nat → Nat) × (Nat → Nat) × (Nat → Nat) × (Nat → Nat) × (Nat → Bool) × (Nat → Option Nat) × Nat × (Nat → Nat)
abbrev sBo (σ : Sg) : Nat → Nat := σ.1
abbrev sN (σ : Sg) : Nat := σ.2.1
abbrev sK (σ : Sg) : Nat → Nat := σ.2.2.1
abbrev sT (σ : Sg) : Nat → Nat := σ.2.2.2.1
abbrev sX (σ : Sg) : Nat → Nat := σ.2.2.2.2.1
abbrev sY (σ : Sg) : Nat → Nat := σ.2.2.2.2.2.1
abbrev sZ (σ : Sg) : Nat → Nat := σ.2.2.2.2.2.2.1
abbrev sC (σ : Sg) : Nat → Nat := σ.2.2.2.2.2.2.2.1
abbrev sTh (σ : Sg) : Nat → Bool := σ.2.2.2.2.2.2.2.2.1
abbrev sGr (σ : Sg) : Nat → Option Nat := σ.2.2.2.2.2.2.2.2.2.1
abbrev sG (σ : Sg) : Nat := σ.2.2.2.2.2.2.2.2.2.2.1
abbrev sBx (σ : Sg) : Nat → Nat := σ.2.2.2.2.2.2.2.2.2.2.2
abbrev sLx (σ : Sg) (b : Nat) : Nat := lX (sK σ b) (sT σ b)
abbrev sLy (σ : Sg) (b : Nat) : Nat := lY (sK σ b) (sT σ b)
def Wf (σ : Sg) : Prop := sN σ ≤ 40 ∧ (∀ i, sBo σ i ≤ 5) ∧ (∀ b, b < sN σ → sK σ b < 7 ∧ sT σ b < 2 ∧ sX σ b + sLx σ b ≤ 6 ∧ sY σ b + sLy σ b ≤ 6 ∧ sZ σ b < 5 ∧ 1 ≤ sC σ b ∧ sC σ b ≤ 5) ∧ (∀ b, sTh σ b = true → b < sN σ) ∧ (∀ i b, sGr σ i = some b → b < sN σ) ∧ (1 ≤ sG σ ∧ sG σ ≤ 40) ∧ ∀ k, sBx σ k ≤ 99
def gvM : Option Nat → Int32
  | none => -9
  | some b => nI b
def gvC : Option Nat → Int32
  | none => 0
  | some b => nI (b + 1)
def RepM (σ : Sg) (h : Hp) : Prop := (∀ i, i < 180 → gA_ h 39 i = nI (sBo σ i)) ∧ (∀ i, i < 180 → gA_ h 40 i = gvM (sGr σ i)) ∧ gI_ h 458 = nI (sN σ) ∧ (∀ b, b < sN σ → gA_ h 42 b = nI (sK σ b) ∧ gA_ h 43 b = nI (sT σ b) ∧ gA_ h 44 b = nI (sX σ b) ∧ gA_ h 45 b = nI (sY σ b) ∧ gA_ h 46 b = nI (sZ σ b) ∧ gA_ h 47 b = nI (sC σ b)) ∧ (∀ b, tb (gJ_ h 460) b = sTh σ b) ∧ gI_ h 459 = nI (sG σ) ∧ ∀ k, k < 7 → gA_ h 41 k = nI (sBx σ k)
/-- how far two stretches lie over one another -/
def ovl (a la b lb : Nat) : Nat := min (a + la) (b + lb) - max a b
def stN (σ : Sg) (a b : Nat) : Nat := if sZ σ a = sZ σ b + 1 ∨ sZ σ b = sZ σ a + 1 then ovl (sX σ a) (sLx σ a) (sX σ b) (sLx σ b) * ovl (sY σ a) (sLy σ a) (sY σ b) (sLy σ b) else 0
def nbr (σ : Sg) (a b : Nat) : Bool := decide (a < sN σ ∧ b < sN σ ∧ a ≠ b ∧ 0 < stN σ a b)
/-- the rectangle of x, y, by its spots -/
def inR (x lx y ly s : Nat) : Bool := decide (s < 36 ∧ x ≤ s % 6 ∧ s % 6 < x + lx ∧ y ≤ s / 6 ∧ s / 6 < y + ly)
def RepC (σ : Sg) (h : Hp) : Prop := (∀ i, i < 180 → gA_ h 8 i = nI (sBo σ i)) ∧ (∀ i, i < 180 → gA_ h 21 i = gvC (sGr σ i)) ∧ gI_ h 138 = nI (sN σ) ∧ (∀ b, b < sN σ → gA_ h 12 b = nI (sK σ b) ∧ gA_ h 13 b = nI (sT σ b) ∧ gA_ h 14 b = nI (sX σ b) ∧ gA_ h 15 b = nI (sY σ b) ∧ gA_ h 16 b = nI (sZ σ b) ∧ gA_ h 17 b = nI (sC σ b)) ∧ (∀ b, tb (gJ_ h 139) b = sTh σ b) ∧ gI_ h 259 = nI (sG σ) ∧ (∀ k, k < 7 → gA_ h 9 k = nI (sBx σ k)) ∧
  (∀ b, tb (gJ_ h 140) b = (sTh σ b && decide (sZ σ b = 0))) ∧ (∀ b, b < sN σ → ∀ s, tb (gL_ h 18 b) s = inR (sX σ b) (sLx σ b) (sY σ b) (sLy σ b) s) ∧ (∀ a, a < 40 → ∀ b, tb (gL_ h 19 a) b = nbr σ a b) ∧ (∀ z, z < 5 → ∀ s, tb (gL_ h 20 z) s = (decide (s < 36) && (sGr σ (36 * z + s)).isSome))
def RR (h : Hp) : Prop := ∀ j, j < 7 → gA_ h 37 j = gA_ h 38 j
/-- what stays while nothing of the model's own cells changes -/
theorem RepM.sm {σ : Sg} {h h' : Hp} {wI wJ wA wL : List Nat} (r : RepM σ h) (s : Sm wI wJ wA wL h h') (hw : (∀ k ∈ [458, 459], k ∉ wI) ∧ (460 ∉ wJ) ∧ ∀ k ∈ [39, 40, 41, 42, 43, 44, 45, 46, 47], k ∉ wA) : RepM σ h' := by
  obtain ⟨r1, r2, r3, r4, r5, r6, r7⟩ := r
  obtain ⟨w1, w2, w3⟩ := hw
  refine ⟨?_, ?_, ?_, ?_, ?_, ?_, ?_⟩
  · rw [s.2.2.1 39 (w3 39 (by decide))]; exact r1
  · rw [s.2.2.1 40 (w3 40 (by decide))]; exact r2
  · rw [s.1 458 (w1 458 (by decide))]; exact r3
  · rw [s.2.2.1 42 (w3 42 (by decide)), s.2.2.1 43 (w3 43 (by decide)), s.2.2.1 44 (w3 44 (by decide)), s.2.2.1 45 (w3 45 (by decide)), s.2.2.1 46 (w3 46 (by decide)), s.2.2.1 47 (w3 47 (by decide))]; exact r4
  · rw [s.2.1 460 w2]; exact r5
  · rw [s.1 459 (w1 459 (by decide))]; exact r6
  · rw [s.2.2.1 41 (w3 41 (by decide))]; exact r7
theorem RepC.sm {σ : Sg} {h h' : Hp} {wI wJ wA wL : List Nat} (r : RepC σ h) (s : Sm wI wJ wA wL h h') (hw : (∀ k ∈ [138, 259], k ∉ wI) ∧ (∀ k ∈ [139, 140], k ∉ wJ) ∧ (∀ k ∈ [8, 9, 12, 13, 14, 15, 16, 17, 21], k ∉ wA) ∧ ∀ k ∈ [18, 19, 20], k ∉ wL) : RepC σ h' := by
  obtain ⟨r1, r2, r3, r4, r5, r6, r7, r8, r9, r10, r11⟩ := r
  obtain ⟨w1, w2, w3, w4⟩ := hw
  refine ⟨?_, ?_, ?_, ?_, ?_, ?_, ?_, ?_, ?_, ?_, ?_⟩
  · rw [s.2.2.1 8 (w3 8 (by decide))]; exact r1
  · rw [s.2.2.1 21 (w3 21 (by decide))]; exact r2
  · rw [s.1 138 (w1 138 (by decide))]; exact r3
  · rw [s.2.2.1 12 (w3 12 (by decide)), s.2.2.1 13 (w3 13 (by decide)), s.2.2.1 14 (w3 14 (by decide)), s.2.2.1 15 (w3 15 (by decide)), s.2.2.1 16 (w3 16 (by decide)), s.2.2.1 17 (w3 17 (by decide))]; exact r4
  · rw [s.2.1 139 (w2 139 (by decide))]; exact r5
  · rw [s.1 259 (w1 259 (by decide))]; exact r6
  · rw [s.2.2.1 9 (w3 9 (by decide))]; exact r7
  · rw [s.2.1 140 (w2 140 (by decide))]; exact r8
  · rw [s.2.2.2 18 (w4 18 (by decide))]; exact r9
  · rw [s.2.2.2 19 (w4 19 (by decide))]; exact r10
  · rw [s.2.2.2 20 (w4 20 (by decide))]; exact r11
theorem RR.sm {h h' : Hp} {wI wJ wA wL : List Nat} (r : RR h) (s : Sm wI wJ wA wL h h') (hw : 37 ∉ wA ∧ 38 ∉ wA) : RR h' := fun j hj => by
  rw [s.2.2.1 37 hw.1, s.2.2.1 38 hw.2]; exact r j hj
theorem lenN_le : ∀ k, k < 7 → 1 ≤ lenN k ∧ lenN k ≤ 4 ∧ 1 ≤ widN k ∧ widN k ≤ 2 := by decide
theorem lX_le {k t : Nat} (hk : k < 7) : 1 ≤ lX k t ∧ lX k t ≤ 4 := by
  have := lenN_le k hk
  unfold lX; split <;> omega
theorem lY_le {k t : Nat} (hk : k < 7) : 1 ≤ lY k t ∧ lY k t ≤ 4 := by
  have := lenN_le k hk
  unfold lY; split <;> omega
/-! ===== the small methods ===== -/
def inN (x n : Int32) : Bool := decide (0 ≤ x ∧ x < n)
def inP (x y z : Int32) : Bool := inN x 6 && inN y 6 && inN z 5
theorem i_not_le (a b : Int32) : ¬ a ≤ b ↔ b < a := by rw [i_leT, i_ltT]; omega
theorem i_not_lt (a b : Int32) : ¬ a < b ↔ b ≤ a := by rw [i_leT, i_ltT]; omega
/-- the two tests of an index -/
theorem two_t {α : Type} (x n : Int32) (u v : α) : (if x < 0 then u else if n ≤ x then u else v) = if inN x n = true then v else u := by
  unfold inN
  by_cases h1 : x < 0
  · have : ¬ 0 ≤ x := by rw [i_not_le]; exact h1
    simp [h1, this]
  · by_cases h2 : n ≤ x
    · have : ¬ x < n := by rw [i_not_lt]; exact h2
      simp [h1, h2, this]
    · have g1 : 0 ≤ x := by rw [← i_not_lt]; exact h1
      have g2 : x < n := by rw [← i_not_le]; exact h2
      simp [h1, h2, g1, g2]
theorem f_isIn (x n : Int32) : F_X7_isIn x n = some (bi_ (inN x n)) := by
  unfold F_X7_isIn
  rw [two_t]
  cases inN x n <;> rfl
theorem f_isKind (x : Int32) : F_X6_isKind x = some (bi_ (inN x 7)) := f_isIn x 7
theorem f_isPlace (x y z : Int32) : F_X6_isPlace x y z = some (bi_ (inP x y z)) := by
  unfold F_X6_isPlace inP
  rw [two_t, two_t, two_t]
  cases inN x 6 <;> cases inN y 6 <;> cases inN z 5 <;> rfl
theorem f_isCell (x y z : Int32) : F_X7_isCell x y z = some (bi_ (inP x y z)) := by
  unfold F_X7_isCell inP
  simp only [f_isIn, ob_s, bi_0]
  cases inN x 6 <;> cases inN y 6 <;> cases inN z 5 <;> rfl
theorem inN_n {x : Int32} {n : Nat} (hn : n < 2 ^ 31) (h : inN x (nI n) = true) : ∃ a, a < n ∧ x = nI a := by
  have h := of_decide_eq_true h
  rcases i_cases x hn with q | q | q
  · have := h.1; rw [i_ltT] at q; rw [i_leT] at this; omega
  · have := h.2; rw [i_leT] at q; rw [i_ltT] at this; omega
  · exact q
theorem n_inN {a n : Nat} (ha : a < n) (hn : n < 2 ^ 31) : inN (nI a) (nI n) = true := decide_eq_true ⟨nI_pos' (by omega), nI_lt ha hn⟩
theorem n_inN' {a n : Nat} (ha : n ≤ a) (hn : a < 2 ^ 31) : inN (nI a) (nI n) = false := by
  unfold inN
  have : ¬ nI a < nI n := nI_nlt ha hn
  simp [this]
theorem inP_n {x y z : Int32} (h : inP x y z = true) : ∃ a b c : Nat, a < 6 ∧ b < 6 ∧ c < 5 ∧ x = nI a ∧ y = nI b ∧ z = nI c := by
  unfold inP at h
  rw [Bool.and_eq_true, Bool.and_eq_true] at h
  obtain ⟨a, ha, ea⟩ := inN_n (n := 6) (by decide) h.1.1
  obtain ⟨b, hb, eb⟩ := inN_n (n := 6) (by decide) h.1.2
  obtain ⟨c, hc, ec⟩ := inN_n (n := 5) (by decide) h.2
  exact ⟨a, b, c, ha, hb, hc, ea, eb, ec⟩
theorem inP_at {a b c : Nat} (ha : a < 6) (hb : b < 6) (hc : c < 5) : inP (nI a) (nI b) (nI c) = true := by
  have : ∀ a, a < 6 → ∀ b, b < 6 → ∀ c, c < 5 → inP (nI a) (nI b) (nI c) = true := by decide +kernel
  exact this a ha b hb c hc
theorem f_indexOf {a b c : Nat} : F_X6_indexOf (nI a) (nI b) (nI c) = some (nI (36 * c + 6 * b + a)) := by
  unfold F_X6_indexOf
  rw [i_lit 6, pk_mul, nI_add, pk_mul, nI_add]
  congr 2; omega
theorem f_cellAt {a b c : Nat} : F_X7_cellAt (nI a) (nI b) (nI c) = some (nI (36 * c + 6 * b + a)) := by
  unfold F_X7_cellAt
  rw [i_lit 6, i_lit 36, pk_mul, pk_mul, nI_add, nI_add]
