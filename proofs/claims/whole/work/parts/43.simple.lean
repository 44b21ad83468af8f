/-! ===== refusals ===== -/
theorem b0_ : bi_ false = 0 := rfl
theorem b1_ : ¬ bi_ true = 0 := by decide
def rC (h : Hp) (j : Nat) : Hp := if j = 0 then h else sA_ h 37 j (gA_ h 37 j + 1)
def rM (h : Hp) (j : Nat) : Hp := if j = 0 then h else sA_ h 38 j (gA_ h 38 j + 1)
theorem rC_0 (h : Hp) : rC h 0 = h := rfl
theorem rM_0 (h : Hp) : rM h 0 = h := rfl
theorem f_refC {c : Int32} (j : Nat) (hc : -c = nI j) (hj : 1 ≤ j) (hj7 : j < 7) (h : Hp) : F_X6_refuse c h = some (c, rC h j) := by
  unfold F_X6_refuse rC
  rw [hc, if_neg (i_n0 (by omega)), if_neg (show ¬ (7 : Int32) ≤ nI j from (nI_ge hj7 (by decide) : ¬ nI 7 ≤ nI j)), rA_n h 37 7 _ hj7 (by decide), wA_n h 37 7 _ _ hj7 (by decide), if_neg (by omega)]
theorem f_refM {c : Int32} (j : Nat) (hc : -c = nI j) (hj : 1 ≤ j) (hj7 : j < 7) (h : Hp) : F_X7_refuse c h = some (c, rM h j) := by
  unfold F_X7_refuse rM
  rw [hc, rA_n h 38 7 _ hj7 (by decide), wA_n h 38 7 _ _ hj7 (by decide), if_neg (by omega)]
theorem c_r1 (h : Hp) : F_X6_refuse (-1) h = some (-1, rC h 1) := f_refC 1 (by decide) (by decide) (by decide) h
theorem c_r2 (h : Hp) : F_X6_refuse (-2) h = some (-2, rC h 2) := f_refC 2 (by decide) (by decide) (by decide) h
theorem c_r3 (h : Hp) : F_X6_refuse (-3) h = some (-3, rC h 3) := f_refC 3 (by decide) (by decide) (by decide) h
theorem c_r4 (h : Hp) : F_X6_refuse (-4) h = some (-4, rC h 4) := f_refC 4 (by decide) (by decide) (by decide) h
theorem c_r6 (h : Hp) : F_X6_refuse (-6) h = some (-6, rC h 6) := f_refC 6 (by decide) (by decide) (by decide) h
theorem m_r1 (h : Hp) : F_X7_refuse (-1) h = some (-1, rM h 1) := f_refM 1 (by decide) (by decide) (by decide) h
theorem m_r2 (h : Hp) : F_X7_refuse (-2) h = some (-2, rM h 2) := f_refM 2 (by decide) (by decide) (by decide) h
theorem m_r3 (h : Hp) : F_X7_refuse (-3) h = some (-3, rM h 3) := f_refM 3 (by decide) (by decide) (by decide) h
theorem m_r4 (h : Hp) : F_X7_refuse (-4) h = some (-4, rM h 4) := f_refM 4 (by decide) (by decide) (by decide) h
theorem m_r6 (h : Hp) : F_X7_refuse (-6) h = some (-6, rM h 6) := f_refM 6 (by decide) (by decide) (by decide) h
theorem sm_rC (h : Hp) (j : Nat) : Sm [] [] [37] [] h (rC h j) := by
  unfold rC
  split
  · exact sm_rf
  · exact sm_A (k := 37) (by decide) rfl sm_rf
theorem sm_rM (h : Hp) (j : Nat) : Sm [] [] [38] [] h (rM h j) := by
  unfold rM
  split
  · exact sm_rf
  · exact sm_A (k := 38) (by decide) rfl sm_rf
/-- both refuse alike -/
theorem RR.both {h h1 : Hp} {j : Nat} (r : RR h) (e37 : gA_ h1 37 = gA_ (rC h j) 37) (e38 : gA_ h1 38 = gA_ h 38) : RR (rM h1 j) := by
  intro i hi
  unfold rM
  by_cases hj : j = 0
  · subst hj
    rw [if_pos rfl, e37, e38]; exact r i hi
  · rw [if_neg hj, gA_sA, gA_sA, if_neg (by decide), if_pos rfl, e37]
    unfold rC
    rw [if_neg hj, gA_sA, if_pos rfl]
    by_cases hij : i = j
    · subst hij; rw [pk_us, pk_us, e38, r i hi]
    · rw [pk_un hij, pk_un hij, e38, r i hi]
/-! ===== bricks by number ===== -/
theorem f_exists {σ : Sg} {h : Hp} (hc : RepC σ h) (x : Int32) : F_X2_exists x h = some (bi_ (inN x (nI (sN σ)))) := by
  unfold F_X2_exists
  rw [hc.2.2.1, two_t]
  cases inN x (nI (sN σ)) <;> rfl
theorem f_isBrick {σ : Sg} {h : Hp} (hm : RepM σ h) (x : Int32) : F_X7_isBrick x h = some (bi_ (inN x (nI (sN σ)))) := by
  unfold F_X7_isBrick
  rw [hm.2.2.1, f_isIn, ob_s, bz_bi]
theorem f_isThereC {σ : Sg} {h : Hp} (hw : Wf σ) (hc : RepC σ h) {b : Nat} (hb : b < sN σ) : F_X2_isThere (nI b) h = some (bi_ (sTh σ b)) := by
  have h40 := hw.1
  unfold F_X2_isThere
  rw [f_exists hc, n_inN hb (by omega), ob_s, if_neg (by decide)]
  have e := lu1_1 (gJ_ h 139) (k := b) (by omega)
  rw [hc.2.2.2.2.1 b] at e
  cases hq : sTh σ b with
  | true => rw [if_pos (e.mpr hq)]; rfl
  | false => rw [if_neg (fun q => by have := e.mp q; rw [hq] at this; cases this)]; rfl
theorem f_isThereM {σ : Sg} {h : Hp} (hw : Wf σ) (hm : RepM σ h) {b : Nat} (hb : b < sN σ) : F_X7_isThere (nI b) h = some (bi_ (sTh σ b)) := by
  have h40 := hw.1
  unfold F_X7_isThere
  have e := la1_1 (gJ_ h 460) (k := b) (by omega)
  rw [hm.2.2.2.2.1 b] at e
  cases hq : sTh σ b with
  | true => rw [if_pos (e.mpr hq)]; rfl
  | false => rw [if_neg (fun q => by have := e.mp q; rw [hq] at this; cases this)]; rfl
/-! ===== cell, cellOf, at ===== -/
def ix3 (x y z : Int32) : Nat := 36 * z.toNatClampNeg + 6 * y.toNatClampNeg + x.toNatClampNeg
theorem ix3_n {a b c : Nat} (ha : a < 6) (hb : b < 6) (hc : c < 5) : ix3 (nI a) (nI b) (nI c) = 36 * c + 6 * b + a := by
  unfold ix3; rw [nI_clamp (by omega), nI_clamp (by omega), nI_clamp (by omega)]
theorem ix3_lt {x y z : Int32} (h : inP x y z = true) : ix3 x y z < 180 := by
  obtain ⟨a, b, c, ha, hb, hc, rfl, rfl, rfl⟩ := inP_n h
  rw [ix3_n ha hb hc]; omega
theorem f_indexOf' {x y z : Int32} (h : inP x y z = true) : F_X6_indexOf x y z = some (nI (ix3 x y z)) := by
  obtain ⟨a, b, c, ha, hb, hc, rfl, rfl, rfl⟩ := inP_n h
  rw [ix3_n ha hb hc]; exact f_indexOf
theorem f_cellAt' {x y z : Int32} (h : inP x y z = true) : F_X7_cellAt x y z = some (nI (ix3 x y z)) := by
  obtain ⟨a, b, c, ha, hb, hc, rfl, rfl, rfl⟩ := inP_n h
  rw [ix3_n ha hb hc]; exact f_cellAt
def boAt (σ : Sg) (x y z : Int32) : Nat := if inP x y z = true then sBo σ (ix3 x y z) else 0
theorem f_colourAt {σ : Sg} {h : Hp} (hc : RepC σ h) (x y z : Int32) : F_X0_colourAt x y z h = some (nI (boAt σ x y z)) := by
  unfold F_X0_colourAt boAt
  rw [f_isPlace, ob_s]
  cases hp : inP x y z with
  | false => rfl
  | true =>
    rw [if_neg b1_, f_indexOf' hp, ob_s, rA_n h 8 180 _ (ix3_lt hp) (by decide), hc.1 _ (ix3_lt hp), if_pos rfl]
def s_cellOf (σ : Sg) (x y z : Int32) : Int32 × Nat := if inP x y z = true then (nI (sBo σ (ix3 x y z)), 0) else (-1, 1)
theorem C_cellOf {σ : Sg} {h : Hp} (hc : RepC σ h) (x y z : Int32) : F_X6_cellOf x y z h = some ((s_cellOf σ x y z).1, rC h (s_cellOf σ x y z).2) := by
  unfold F_X6_cellOf s_cellOf
  rw [f_isPlace, ob_s]
  cases hp : inP x y z with
  | false => rw [if_pos b0_, c_r1]; rfl
  | true => rw [if_neg b1_, f_colourAt hc, if_pos rfl]; unfold boAt; rw [if_pos hp]; rfl
theorem M_cellOf {σ : Sg} {h : Hp} (hm : RepM σ h) (x y z : Int32) : F_X7_cellOf x y z h = some ((s_cellOf σ x y z).1, rM h (s_cellOf σ x y z).2) := by
  unfold F_X7_cellOf s_cellOf
  rw [f_isCell, ob_s]
  cases hp : inP x y z with
  | false => rw [if_pos b0_, m_r1]; rfl
  | true => rw [if_neg b1_, f_cellAt' hp, ob_s, rA_n h 39 180 _ (ix3_lt hp) (by decide), hm.1 _ (ix3_lt hp), if_pos rfl]; rfl
def grAt (σ : Sg) (x y z : Int32) : Option Nat := if inP x y z = true then sGr σ (ix3 x y z) else none
theorem gvC_pred (o : Option Nat) : gvC o - 1 = match o with | none => -1 | some b => nI b := by
  cases o with
  | none => rfl
  | some b => exact nI_pred b
def gvB (o : Option Nat) : Int32 := match o with
  | none => -1
  | some b => nI b
theorem f_brickAt {σ : Sg} {h : Hp} (hc : RepC σ h) (x y z : Int32) : F_X2_brickAt x y z h = some (gvB (grAt σ x y z)) := by
  unfold F_X2_brickAt grAt
  rw [f_isPlace, ob_s]
  cases hp : inP x y z with
  | false => rfl
  | true =>
    rw [if_neg b1_, f_indexOf' hp, ob_s, rA_n h 21 180 _ (ix3_lt hp) (by decide), hc.2.1 _ (ix3_lt hp), if_pos rfl, gvC_pred]
    cases sGr σ (ix3 x y z) <;> rfl
theorem nI_nm1 {b : Nat} (h : b < 2 ^ 31) : ¬ nI b = -1 := by
  intro q
  have := congrArg Int32.toInt q
  rw [nI_toInt h] at this
  have e : (-1 : Int32).toInt = -1 := by decide
  rw [e] at this; omega
theorem gr_lt {σ : Sg} (hw : Wf σ) {x y z : Int32} {b : Nat} (h : grAt σ x y z = some b) : b < sN σ := by
  unfold grAt at h
  split at h
  · exact hw.2.2.2.2.1 _ b h
  · cases h
theorem gvB_m1 {σ : Sg} (hw : Wf σ) {x y z : Int32} : gvB (grAt σ x y z) = -1 ↔ grAt σ x y z = none := by
  cases hg : grAt σ x y z with
  | none => exact ⟨fun _ => rfl, fun _ => rfl⟩
  | some b => exact ⟨fun q => absurd q (nI_nm1 (by have := gr_lt hw hg; have := hw.1; omega)), fun q => by cases q⟩
def s_at (σ : Sg) (x y z : Int32) : Int32 × Nat := if inP x y z = true then (gvM (sGr σ (ix3 x y z)), 0) else (-1, 1)
theorem C_at {σ : Sg} {h : Hp} (hw : Wf σ) (hc : RepC σ h) (x y z : Int32) : F_X6_at x y z h = some ((s_at σ x y z).1, rC h (s_at σ x y z).2) := by
  unfold F_X6_at s_at
  rw [f_isPlace, ob_s]
  cases hp : inP x y z with
  | false => rw [if_pos b0_, c_r1]; rfl
  | true =>
    rw [if_neg b1_, f_brickAt hc, ob_s, if_pos rfl]
    have e : grAt σ x y z = sGr σ (ix3 x y z) := by unfold grAt; rw [if_pos hp]
    cases hg : sGr σ (ix3 x y z) with
    | none => rw [if_pos ((gvB_m1 hw).mpr (e.trans hg))]; rfl
    | some b => rw [if_neg (fun q => by rw [gvB_m1 hw, e, hg] at q; cases q), e, hg]; rfl
theorem M_at {σ : Sg} {h : Hp} (hm : RepM σ h) (x y z : Int32) : F_X7_at x y z h = some ((s_at σ x y z).1, rM h (s_at σ x y z).2) := by
  unfold F_X7_at s_at
  rw [f_isCell, ob_s]
  cases hp : inP x y z with
  | false => rw [if_pos b0_, m_r1]; rfl
  | true => rw [if_neg b1_, f_cellAt' hp, ob_s, rA_n h 40 180 _ (ix3_lt hp) (by decide), hm.2.1 _ (ix3_lt hp), if_pos rfl]; rfl
/-! ===== brickOf ===== -/
def s_brickOf (σ : Sg) (x w : Int32) : Int32 × Nat := if inN x (nI (sN σ)) = true then
  if w = nI 0 then (nI (sK σ x.toNatClampNeg), 0) else if w = nI 1 then (nI (sT σ x.toNatClampNeg), 0) else if w = nI 2 then (nI (sX σ x.toNatClampNeg), 0) else if w = nI 3 then (nI (sY σ x.toNatClampNeg), 0) else if w = nI 4 then (nI (sZ σ x.toNatClampNeg), 0) else if w = nI 5 then (nI (sC σ x.toNatClampNeg), 0) else if w = nI 6 then (bi_ (!sTh σ x.toNatClampNeg), 0) else (-2, 2)
  else (-1, 1)
theorem M_brickOf {σ : Sg} {h : Hp} (hw : Wf σ) (hm : RepM σ h) (x w : Int32) : F_X7_brickOf x w h = some ((s_brickOf σ x w).1, rM h (s_brickOf σ x w).2) := by
  have h40 := hw.1
  unfold F_X7_brickOf s_brickOf
  rw [f_isBrick hm, ob_s]
  cases hp : inN x (nI (sN σ)) with
  | false => rw [if_pos b0_, m_r1]; rfl
  | true =>
    obtain ⟨b, hb, rfl⟩ := inN_n (by omega) hp
    obtain ⟨g1, g2, g3, g4, g5, g6⟩ := hm.2.2.2.1 b hb
    rw [if_neg b1_, if_pos rfl, nI_clamp (by omega)]
    simp only [rA_n h _ 40 _ (show b < 40 by omega) (by decide), g1, g2, g3, g4, g5, g6, f_isThereM hw hm hb, ob_s, m_r2]
    repeat' split
    all_goals first | rfl | (cases hq : sTh σ b <;> simp_all [bi_] <;> rfl)
theorem told_n {σ : Sg} {h : Hp} (hw : Wf σ) (hc : RepC σ h) {b : Nat} (hb : b < sN σ) (w : Int32) : F_X2_told (nI b) w h = some (if w = nI 0 then nI (sK σ b) else if w = nI 1 then nI (sT σ b) else if w = nI 2 then nI (sX σ b) else if w = nI 3 then nI (sY σ b) else if w = nI 4 then nI (sZ σ b) else if w = nI 5 then nI (sC σ b) else bi_ (!sTh σ b)) := by
  have h40 := hw.1
  unfold F_X2_told
  obtain ⟨g1, g2, g3, g4, g5, g6⟩ := hc.2.2.2.1 b hb
  rw [f_exists hc, n_inN hb (by omega), ob_s, if_neg b1_]
  simp only [rA_n h _ 40 _ (show b < 40 by omega) (by decide), g1, g2, g3, g4, g5, g6, f_isThereC hw hc hb, ob_s]
  repeat' split
  all_goals first | rfl | (cases hq : sTh σ b <;> simp_all [bi_] <;> rfl)
theorem C_brickOf {σ : Sg} {h : Hp} (hw : Wf σ) (hc : RepC σ h) (x w : Int32) : F_X6_brickOf x w h = some ((s_brickOf σ x w).1, rC h (s_brickOf σ x w).2) := by
  have h40 := hw.1
  unfold F_X6_brickOf s_brickOf
  rw [f_exists hc, ob_s]
  cases hp : inN x (nI (sN σ)) with
  | false => rw [if_pos b0_, c_r1]; rfl
  | true =>
    obtain ⟨b, hb, rfl⟩ := inN_n (by omega) hp
    rw [if_neg b1_, if_pos rfl, nI_clamp (by omega), told_n hw hc hb]
    rcases i_cases w (n := 7) (by decide) with q | q | ⟨j, hj, rfl⟩
    · rw [if_pos q, c_r2]
      have ne : ∀ j, j < 7 → ¬ w = nI j := fun j hj e => by rw [e] at q; exact nI_pos (by omega) q
      simp only [ne 0 (by decide), ne 1 (by decide), ne 2 (by decide), ne 3 (by decide), ne 4 (by decide), ne 5 (by decide), ne 6 (by decide), if_false]
      rfl
    · have h1 : ¬ w < 0 := by rw [i_not_lt, i_leT]; rw [i_leT, nI_toInt (by decide)] at q; have : (0 : Int32).toInt = 0 := by decide
                              omega
      have h2 : ¬ w ≤ 6 := by rw [i_not_le, i_ltT]; rw [i_leT, nI_toInt (by decide)] at q; have : (6 : Int32).toInt = 6 := by decide
                              omega
      rw [if_neg h1, if_neg h2, c_r2]
      have ne : ∀ j, j < 7 → ¬ w = nI j := fun j hj e => by rw [e] at q; exact nI_ge hj (by decide) q
      simp only [ne 0 (by decide), ne 1 (by decide), ne 2 (by decide), ne 3 (by decide), ne 4 (by decide), ne 5 (by decide), ne 6 (by decide), if_false]
      rfl
    · rw [if_neg (i_n0 (by omega)), if_pos (show nI j ≤ (6 : Int32) from (nI_le (by omega) (by decide) : nI j ≤ nI 6)), ob_s]
      have hj' : j = 0 ∨ j = 1 ∨ j = 2 ∨ j = 3 ∨ j = 4 ∨ j = 5 ∨ j = 6 := by omega
      rcases hj' with rfl | rfl | rfl | rfl | rfl | rfl | rfl <;> rfl
