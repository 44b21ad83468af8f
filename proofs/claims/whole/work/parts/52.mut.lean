/-! ===== the calls that change the state: grip, box, cell ===== -/
def CS (c : Bool) (σ : Sg) (h : Hp) (a : Int32 × Nat × Sg) (o : Option (Int32 × Hp)) : Prop := ∃ h1, o = some (a.1, h1) ∧ ((a.2.1 ≠ 0 ∧ a.2.2 = σ ∧ h1 = rC h a.2.1) ∨ (a.2.1 = 0 ∧ RepC a.2.2 h1 ∧ gA_ h1 37 = gA_ h 37 ∧ (c = true → gI_ h1 206 = 0 ∧ gI_ h1 328 = 0)))
def MS (σ : Sg) (h : Hp) (a : Int32 × Nat × Sg) (o : Option (Int32 × Hp)) : Prop := ∃ h1, o = some (a.1, h1) ∧ ((a.2.1 ≠ 0 ∧ a.2.2 = σ ∧ h1 = rM h a.2.1) ∨ (a.2.1 = 0 ∧ RepM a.2.2 h1 ∧ gA_ h1 38 = gA_ h 38))
theorem CS.no {c : Bool} {σ : Sg} {h : Hp} {o : Option (Int32 × Hp)} {v : Int32} (j : Nat) (hj : j ≠ 0) (e : o = some (v, rC h j)) : CS c σ h (v, j, σ) o := ⟨rC h j, e, Or.inl ⟨hj, rfl, rfl⟩⟩
theorem MS.no {σ : Sg} {h : Hp} {o : Option (Int32 × Hp)} {v : Int32} (j : Nat) (hj : j ≠ 0) (e : o = some (v, rM h j)) : MS σ h (v, j, σ) o := ⟨rM h j, e, Or.inl ⟨hj, rfl, rfl⟩⟩
theorem CS.yes {c : Bool} {σ σ' : Sg} {h h1 : Hp} {o : Option (Int32 × Hp)} {v : Int32} (e : o = some (v, h1)) (r : RepC σ' h1) (r37 : gA_ h1 37 = gA_ h 37) (r2 : c = true → gI_ h1 206 = 0 ∧ gI_ h1 328 = 0) : CS c σ h (v, 0, σ') o := ⟨h1, e, Or.inr ⟨rfl, r, r37, r2⟩⟩
theorem MS.yes {σ σ' : Sg} {h h1 : Hp} {o : Option (Int32 × Hp)} {v : Int32} (e : o = some (v, h1)) (r : RepM σ' h1) (r38 : gA_ h1 38 = gA_ h 38) : MS σ h (v, 0, σ') o := ⟨h1, e, Or.inr ⟨rfl, r, r38⟩⟩
theorem f_forget (h : Hp) : F_X6_forgetAnswers h = some (sI_ (sI_ h 206 0) 328 0) := rfl
theorem f_isBC (x : Int32) : F_X6_isBrickColour x = some (bi_ (inN (x - 1) 5)) := by
  unfold F_X6_isBrickColour inN
  rw [show (5 : Int32) = nI 5 from rfl, show (1 : Int32) = nI 1 from rfl]
  rcases i_cases x (n := 6) (by decide) with q | q | ⟨j, hj, rfl⟩
  · have q1 : x < nI 1 := by rw [i_ltT] at q ⊢; have e0 : (0 : Int32).toInt = 0 := by decide
                             have e1 : (nI 1).toInt = 1 := by decide
                             omega
    rw [if_pos q1]
    have : decide (0 ≤ x - nI 1 ∧ x - nI 1 < nI 5) = false := by
      refine decide_eq_false (fun ⟨a, b⟩ => ?_)
      have hx := Int32.toInt_lt x; have hx2 := Int32.le_toInt x
      rw [i_leT, Int32.toInt_sub, show (nI 1).toInt = 1 by decide, show (0 : Int32).toInt = 0 by decide, Int.bmod_def] at a
      rw [i_ltT, Int32.toInt_sub, show (nI 1).toInt = 1 by decide, show (nI 5).toInt = 5 by decide, Int.bmod_def] at b
      rw [i_ltT, show (0 : Int32).toInt = 0 by decide] at q
      split at a <;> split at b <;> omega
    rw [this]; rfl
  · have q1 : ¬ x < nI 1 := by rw [i_leT, show (nI 6).toInt = 6 by decide] at q
                               rw [i_ltT, show (nI 1).toInt = 1 by decide]; omega
    have q2 : nI 5 < x := by rw [i_leT, show (nI 6).toInt = 6 by decide] at q
                             rw [i_ltT, show (nI 5).toInt = 5 by decide]; omega
    rw [if_neg q1, if_pos q2]
    have : decide (0 ≤ x - nI 1 ∧ x - nI 1 < nI 5) = false := by
      refine decide_eq_false (fun ⟨a, b⟩ => ?_)
      have hx := Int32.toInt_lt x; have hx2 := Int32.le_toInt x
      rw [i_ltT, Int32.toInt_sub, show (nI 1).toInt = 1 by decide, show (nI 5).toInt = 5 by decide, Int.bmod_def] at b
      rw [i_leT, show (nI 6).toInt = 6 by decide] at q
      split at b <;> omega
    rw [this]; rfl
  · have : ∀ j, j < 6 → (if nI j < nI 1 then some (0 : Int32) else if nI 5 < nI j then some 0 else some (nI 1)) = some (bi_ (decide (0 ≤ nI j - nI 1 ∧ nI j - nI 1 < nI 5))) := by decide +kernel
    exact this j hj
/-! grip -/
def gripS (σ : Sg) (g : Nat) : Sg := (sBo σ, sN σ, sK σ, sT σ, sX σ, sY σ, sZ σ, sC σ, sTh σ, sGr σ, g, sBx σ)
def boxS (σ : Sg) (k v : Nat) : Sg := (sBo σ, sN σ, sK σ, sT σ, sX σ, sY σ, sZ σ, sC σ, sTh σ, sGr σ, sG σ, fun j => if j = k then v else sBx σ j)
def cellS (σ : Sg) (i v : Nat) : Sg := (fun j => if j = i then v else sBo σ j, sN σ, sK σ, sT σ, sX σ, sY σ, sZ σ, sC σ, sTh σ, sGr σ, sG σ, sBx σ)
theorem Wf_grip {σ : Sg} (hw : Wf σ) {g : Nat} (h1 : 1 ≤ g) (h2 : g ≤ 40) : Wf (gripS σ g) := ⟨hw.1, hw.2.1, hw.2.2.1, hw.2.2.2.1, hw.2.2.2.2.1, ⟨h1, h2⟩, hw.2.2.2.2.2.2⟩
theorem Wf_box {σ : Sg} (hw : Wf σ) {k v : Nat} (h2 : v ≤ 99) : Wf (boxS σ k v) := ⟨hw.1, hw.2.1, hw.2.2.1, hw.2.2.2.1, hw.2.2.2.2.1, hw.2.2.2.2.2.1, fun j => by
  show (if j = k then v else sBx σ j) ≤ 99
  split
  · exact h2
  · exact hw.2.2.2.2.2.2 j⟩
theorem Wf_cell {σ : Sg} (hw : Wf σ) {i v : Nat} (h2 : v ≤ 5) : Wf (cellS σ i v) := ⟨hw.1, fun j => by
  show (if j = i then v else sBo σ j) ≤ 5
  split
  · exact h2
  · exact hw.2.1 j, hw.2.2.1, hw.2.2.2.1, hw.2.2.2.2.1, hw.2.2.2.2.2.1, hw.2.2.2.2.2.2⟩
def s_grip (σ : Sg) (x : Int32) : Int32 × Nat × Sg := if 1 ≤ x then if x ≤ 40 then (nI (sG σ), 0, gripS σ x.toNatClampNeg) else (-6, 6, σ) else (-4, 4, σ)
theorem in_rng {x : Int32} {m : Nat} (hm : m < 1000) (h0 : 0 ≤ x) (h1 : x ≤ nI m) : ∃ g, g ≤ m ∧ x = nI g := by
  obtain ⟨g, hg, e⟩ := inN_n (x := x) (n := m + 1) (by omega) (decide_eq_true ⟨h0, by
    rw [i_leT, nI_toInt (by omega)] at h1
    rw [i_ltT, nI_toInt (by omega)]; omega⟩)
  exact ⟨g, by omega, e⟩
theorem one_le {x : Int32} (h : 1 ≤ x) : 0 ≤ x := by
  rw [i_leT] at h ⊢
  rw [show (1 : Int32).toInt = 1 by decide] at h
  rw [show (0 : Int32).toInt = 0 by decide]; omega
theorem s_grip_wf {σ : Sg} (hw : Wf σ) (x : Int32) : Wf (s_grip σ x).2.2 := by
  unfold s_grip
  split
  · rename_i h1
    split
    · rename_i h2
      obtain ⟨g, hg, rfl⟩ := in_rng (m := 40) (by decide) (one_le h1) h2
      have h1' : 1 ≤ g := (i_le (a := 1) (b := g) (by decide) (by omega)).mp h1
      show Wf (gripS σ (nI g).toNatClampNeg)
      rw [nI_clamp (by omega)]; exact Wf_grip hw h1' hg
    · exact hw
  · exact hw
theorem C_grip {σ : Sg} {h : Hp} (hc : RepC σ h) (x : Int32) : CS true σ h (s_grip σ x) (F_X6_grip x h) := by
  unfold F_X6_grip s_grip
  by_cases h1 : 1 ≤ x
  · rw [if_pos h1, if_pos h1]
    by_cases h2 : x ≤ 40
    · rw [if_pos h2, if_pos h2, f_forget, ob_s]
      obtain ⟨g, hg, rfl⟩ := in_rng (m := 40) (by decide) (one_le h1) h2
      rw [nI_clamp (by omega)]
      refine CS.yes (h1 := sI_ (sI_ (sI_ h 206 0) 328 0) 259 (nI g)) ?_ ?_ rfl (fun _ => ⟨rfl, rfl⟩)
      · show some (gI_ h 259, _) = _
        rw [hc.2.2.2.2.2.1]
      · exact ⟨hc.1, hc.2.1, hc.2.2.1, hc.2.2.2.1, hc.2.2.2.2.1, rfl, hc.2.2.2.2.2.2.1, hc.2.2.2.2.2.2.2⟩
    · rw [if_neg h2, if_neg h2, c_r6]; exact CS.no 6 (by decide) rfl
  · rw [if_neg h1, if_neg h1, c_r4]; exact CS.no 4 (by decide) rfl
theorem M_grip {σ : Sg} {h : Hp} (hm : RepM σ h) (x : Int32) : MS σ h (s_grip σ x) (F_X7_grip x h) := by
  unfold F_X7_grip s_grip F_X7_wrong
  by_cases h1 : 1 ≤ x
  · rw [if_pos h1, if_pos h1]
    by_cases h2 : x ≤ 40
    · rw [if_pos h2, if_pos h2, ob_s, if_pos rfl, bd_e]
      obtain ⟨g, hg, rfl⟩ := in_rng (m := 40) (by decide) (one_le h1) h2
      rw [nI_clamp (by omega)]
      refine MS.yes (h1 := sI_ h 459 (nI g)) ?_ ?_ rfl
      · rw [hm.2.2.2.2.2.1]
      · exact ⟨hm.1, hm.2.1, hm.2.2.1, hm.2.2.2.1, hm.2.2.2.2.1, rfl, hm.2.2.2.2.2.2⟩
    · rw [if_neg h2, if_neg h2, ob_s, if_neg (by decide), m_r6]; exact MS.no 6 (by decide) rfl
  · rw [if_neg h1, if_neg h1, ob_s, if_neg (by decide), m_r4]; exact MS.no 4 (by decide) rfl
/-! box -/
def s_box (σ : Sg) (x y : Int32) : Int32 × Nat × Sg := if inN x 7 = true then if 0 ≤ y then if y ≤ 99 then (nI (sBx σ x.toNatClampNeg), 0, boxS σ x.toNatClampNeg y.toNatClampNeg) else (-6, 6, σ) else (-4, 4, σ) else (-1, 1, σ)
theorem s_box_wf {σ : Sg} (hw : Wf σ) (x y : Int32) : Wf (s_box σ x y).2.2 := by
  unfold s_box
  split
  · split
    · rename_i h1
      split
      · rename_i h2
        obtain ⟨g, hg, rfl⟩ := in_rng (m := 99) (by decide) h1 h2
        show Wf (boxS σ _ (nI g).toNatClampNeg)
        rw [nI_clamp (by omega)]; exact Wf_box hw hg
      · exact hw
    · exact hw
  · exact hw
theorem upd_n {f : Nat → Int32} {g : Nat → Nat} {n : Nat} (hf : ∀ i, i < n → f i = nI (g i)) (k v : Nat) : ∀ i, i < n → upd f k (nI v) i = nI (if i = k then v else g i) := by
  intro i hi
  by_cases h : i = k
  · subst h; rw [pk_us, if_pos rfl]
  · rw [pk_un h, if_neg h, hf i hi]
theorem C_box {σ : Sg} {h : Hp} (hc : RepC σ h) (x y : Int32) : CS false σ h (s_box σ x y) (F_X6_box x y h) := by
  unfold F_X6_box s_box
  rw [f_isKind, ob_s]
  cases hp : inN x 7 with
  | false => rw [if_pos b0_, c_r1]; exact CS.no 1 (by decide) rfl
  | true =>
    rw [if_neg b1_, if_pos rfl]
    by_cases h1 : 0 ≤ y
    · rw [if_pos h1, if_pos h1]
      by_cases h2 : y ≤ 99
      · rw [if_pos h2, if_pos h2]
        obtain ⟨g, hg, rfl⟩ := in_rng (m := 99) (by decide) h1 h2
        obtain ⟨k, hk, rfl⟩ := inN_n (n := 7) (by decide) hp
        rw [nI_clamp (by omega), nI_clamp (by omega)]
        unfold F_X1_fill
        rw [f_isKind, hp, ob_s, if_neg b1_, rA_n h 9 7 _ hk (by decide), wA_n h 9 7 _ _ hk (by decide), ob_s]
        refine CS.yes (h1 := sA_ h 9 k (nI g)) ?_ ?_ rfl (fun q => by cases q)
        · rw [hc.2.2.2.2.2.2.1 k hk]
        · exact ⟨hc.1, hc.2.1, hc.2.2.1, hc.2.2.2.1, hc.2.2.2.2.1, hc.2.2.2.2.2.1, upd_n hc.2.2.2.2.2.2.1 k g, hc.2.2.2.2.2.2.2⟩
      · rw [if_neg h2, if_neg h2, c_r6]; exact CS.no 6 (by decide) rfl
    · rw [if_neg h1, if_neg h1, c_r4]; exact CS.no 4 (by decide) rfl
theorem M_box {σ : Sg} {h : Hp} (hm : RepM σ h) (x y : Int32) : MS σ h (s_box σ x y) (F_X7_box x y h) := by
  unfold F_X7_box s_box F_X7_box_20 F_X7_wrong
  rw [f_isIn, ob_s]
  cases hp : inN x 7 with
  | false => rw [if_pos b0_, if_neg (by decide), m_r1]; exact MS.no 1 (by decide) rfl
  | true =>
    rw [if_neg b1_, if_pos rfl]
    by_cases h1 : 0 ≤ y
    · rw [if_pos h1, if_pos h1]
      by_cases h2 : y ≤ 99
      · rw [if_pos h2, if_pos h2, ob_s, if_pos rfl]
        obtain ⟨g, hg, rfl⟩ := in_rng (m := 99) (by decide) h1 h2
        obtain ⟨k, hk, rfl⟩ := inN_n (n := 7) (by decide) hp
        rw [nI_clamp (by omega), nI_clamp (by omega), rA_n h 41 7 _ hk (by decide), wA_n h 41 7 _ _ hk (by decide)]
        refine MS.yes (h1 := sA_ h 41 k (nI g)) ?_ ?_ rfl
        · rw [hm.2.2.2.2.2.2 k hk]
        · exact ⟨hm.1, hm.2.1, hm.2.2.1, hm.2.2.2.1, hm.2.2.2.2.1, hm.2.2.2.2.2.1, upd_n hm.2.2.2.2.2.2 k g⟩
      · rw [if_neg h2, if_neg h2, ob_s, if_neg (by decide), m_r6]; exact MS.no 6 (by decide) rfl
    · rw [if_neg h1, if_neg h1, ob_s, if_neg (by decide), m_r4]; exact MS.no 4 (by decide) rfl
/-! cell -/
def s_cell (σ : Sg) (x y z v : Int32) : Int32 × Nat × Sg := if (inP x y z && inN v 6) = true then (nI (sBo σ (ix3 x y z)), 0, cellS σ (ix3 x y z) v.toNatClampNeg) else (-1, 1, σ)
theorem s_cell_wf {σ : Sg} (hw : Wf σ) (x y z v : Int32) : Wf (s_cell σ x y z v).2.2 := by
  unfold s_cell
  split
  · rename_i h1
    rw [Bool.and_eq_true] at h1
    obtain ⟨g, hg, rfl⟩ := inN_n (n := 6) (by decide) h1.2
    show Wf (cellS σ _ (nI g).toNatClampNeg)
    rw [nI_clamp (by omega)]; exact Wf_cell hw (by omega)
  · exact hw
theorem two_u {α : Type} (x : Int32) (m : Nat) (hm : m < 1000) (u v : α) : (if x < 0 then u else if x ≤ nI m then v else u) = if inN x (nI (m + 1)) = true then v else u := by
  rw [← two_t]
  by_cases h1 : x < 0
  · rw [if_pos h1, if_pos h1]
  · rw [if_neg h1, if_neg h1]
    by_cases h2 : x ≤ nI m
    · rw [if_pos h2, if_neg]
      rw [i_leT, nI_toInt (by omega)] at h2 ⊢; omega
    · rw [if_neg h2, if_pos]
      rw [i_leT, nI_toInt (by omega)] at h2 ⊢; omega
theorem C_cell {σ : Sg} {h : Hp} (hc : RepC σ h) (x y z v : Int32) : CS true σ h (s_cell σ x y z v) (F_X6_cell x y z v h) := by
  unfold F_X6_cell s_cell
  rw [f_isPlace, ob_s, c_r1]
  cases hp : inP x y z with
  | false => rw [if_pos b0_]; exact CS.no 1 (by decide) rfl
  | true =>
    rw [if_neg b1_, show (5 : Int32) = nI 5 from rfl, two_u v 5 (by decide), show nI (5 + 1) = 6 from rfl]
    cases hq : inN v 6 with
    | false => exact CS.no 1 (by decide) rfl
    | true =>
      rw [if_pos (show (true && true) = true from rfl), if_pos rfl, f_forget, ob_s]
      obtain ⟨g, hg, rfl⟩ := inN_n (n := 6) (by decide) hq
      have hi := ix3_lt hp
      unfold F_X0_paint
      rw [f_isPlace, hp, ob_s, if_neg b1_, f_indexOf' hp, ob_s, rA_n _ 8 180 _ hi (by decide), wA_n _ 8 180 _ _ hi (by decide), ob_s, nI_clamp (by omega)]
      refine CS.yes (h1 := sA_ (sI_ (sI_ h 206 0) 328 0) 8 (ix3 x y z) (nI g)) ?_ ?_ rfl (fun _ => ⟨rfl, rfl⟩)
      · show some (gA_ h 8 _, _) = _
        rw [hc.1 _ hi]
      · exact ⟨upd_n hc.1 _ g, hc.2.1, hc.2.2.1, hc.2.2.2.1, hc.2.2.2.2.1, hc.2.2.2.2.2.1, hc.2.2.2.2.2.2.1, hc.2.2.2.2.2.2.2⟩
theorem M_cell {σ : Sg} {h : Hp} (hm : RepM σ h) (x y z v : Int32) : MS σ h (s_cell σ x y z v) (F_X7_cell x y z v h) := by
  unfold F_X7_cell s_cell
  rw [f_isCell, ob_s, m_r1]
  cases hp : inP x y z with
  | false => rw [if_pos b0_]; exact MS.no 1 (by decide) rfl
  | true =>
    rw [if_neg b1_, f_isIn, ob_s]
    cases hq : inN v 6 with
    | false => exact MS.no 1 (by decide) rfl
    | true =>
      rw [if_neg b1_, if_pos (show (true && true) = true from rfl)]
      obtain ⟨g, hg, rfl⟩ := inN_n (n := 6) (by decide) hq
      have hi := ix3_lt hp
      rw [f_cellAt' hp, ob_s, rA_n _ 39 180 _ hi (by decide), ob_s, wA_n _ 39 180 _ _ hi (by decide), nI_clamp (by omega)]
      refine MS.yes (h1 := sA_ h 39 (ix3 x y z) (nI g)) ?_ ?_ rfl
      · rw [hm.1 _ hi]
      · exact ⟨upd_n hm.1 _ g, hm.2.1, hm.2.2.1, hm.2.2.2.1, hm.2.2.2.2.1, hm.2.2.2.2.2.1, hm.2.2.2.2.2.2⟩
