/-! ===== laying the best cover ===== -/
def tdK (v : Nat) : Nat := v % 10
def tdT (v : Nat) : Nat := v / 10 % 10
def tdX (v : Nat) : Nat := v / 100 % 10
def tdY (v : Nat) : Nat := v / 1000
def layL (col z : Nat) : List Nat → Sg → Sg
  | [], σ => σ
  | v :: l, σ => layL col z l (placeS σ (tdK v) (tdT v) (tdX v) (tdY v) z col)
theorem drop_c (l : List Nat) {i : Nat} (h : i < l.length) : l.drop i = l.getD i 0 :: l.drop (i + 1) := by
  rw [List.drop_eq_getElem_cons h]
  congr 1
  show l[i] = (l[i]?).getD 0
  rw [List.getElem?_eq_getElem h]; rfl
theorem drop_e (l : List Nat) : l.drop l.length = [] := List.drop_length
theorem cvL_len (σ : Sg) (col z : Nat) : (cvL σ col z).length = cvN σ col z := tlL_len _ _
theorem told_ok {σ : Sg} {col z i : Nat} (hM : cvM σ col z ≤ 16) (hi : i < cvN σ col z) : ∃ s set, s < 12 ∧ set = stI (opn σ col z) (wRt σ z) (wBh σ z) i 0 ∧ tdK ((cvL σ col z).getD i 0) = shK s ∧ tdT ((cvL σ col z).getD i 0) = shT s ∧ tdX ((cvL σ col z).getD i 0) = nmG (opn σ col z) (ffN set) 36 % 6 ∧ tdY ((cvL σ col z).getD i 0) = nmG (opn σ col z) (ffN set) 36 / 6 ∧ bwS (opn σ col z) (wRt σ z) (wBh σ z) set = some s ∧ shK s < 7 ∧ shT s < 2 ∧ nmG (opn σ col z) (ffN set) 36 % 6 + lX (shK s) (shT s) ≤ 6 ∧ nmG (opn σ col z) (ffN set) 36 / 6 + lY (shK s) (shT s) ≤ 6 ∧ (cvL σ col z).getD i 0 < 10000 := by
  obtain ⟨s, hs12, hs, hf, hb, v, -, eg⟩ := step_at hM hi
  obtain ⟨-, -, t3, t4⟩ := sh_t s hs12
  obtain ⟨k1, k2, k3⟩ := nmG_e (p := opn σ col z) (i := ffN (stI (opn σ col z) (wRt σ z) (wBh σ z) i 0)) (n := 36) hf
  have hfit := cvK_nz v
  have lx := lX_le (t := shT s) t3
  have ly := lY_le (t := shT s) t3
  have hfit' : Fit (opn σ col z) (nmG (opn σ col z) (ffN (stI (opn σ col z) (wRt σ z) (wBh σ z) i 0)) 36) (lX (shK s) (shT s)) (lY (shK s) (shT s)) := hfit
  have a1 := (hfit' 0 (by omega) (lX (shK s) (shT s) - 1) (by omega)).1
  have a2 := (hfit' (lY (shK s) (shT s) - 1) (by omega) 0 (by omega)).2.1
  refine ⟨s, _, hs12, rfl, ?_, ?_, ?_, ?_, hb, t3, t4, by omega, by omega, ?_⟩
  · rw [eg]; unfold tdK tvS; omega
  · rw [eg]; unfold tdT tvS; omega
  · rw [eg]; unfold tdX tvS; omega
  · rw [eg]; unfold tdY tvS; omega
  · rw [eg]; unfold tvS; omega
theorem v_dec {v : Nat} (h : v < 10000) : ir_ (nI v) 10 = nI (tdK v) ∧ ir_ (nI v / 10) 10 = nI (tdT v) ∧ ir_ (nI v / 100) 10 = nI (tdX v) ∧ nI v / 1000 = nI (tdY v) := by
  rw [i_lit 10, i_lit 100, i_lit 1000]
  refine ⟨i_rem (by omega) (by decide) (by decide), ?_, ?_, i_div (by omega) (by decide) (by decide)⟩
  · rw [i_div (by omega) (by decide) (by decide), i_rem (by omega) (by decide) (by decide)]; rfl
  · rw [i_div (by omega) (by decide) (by decide), i_rem (by omega) (by decide) (by decide)]; rfl
theorem sN_place (σ : Sg) (k t x y z c : Nat) : sN (placeS σ k t x y z c) = sN σ + 1 := rfl
theorem C_lay51 {σ : Sg} {col z : Nat} (hcol : 1 ≤ col ∧ col ≤ 5) (hz : z < 5) (hM : cvM σ col z ≤ 16) : ∀ q n i σi h, q + i = cvN σ col z → q < n → RepC σi h → Wf σi → sN σi + q ≤ 40 → CVr σ col z h → ∃ h1, F_X6_lay_51 n (nI col) (nI z) (nI (cvN σ col z)) (nI i) h = some (nI (cvN σ col z), h1) ∧ RepC (layL col z ((cvL σ col z).drop i) σi) h1 ∧ Wf (layL col z ((cvL σ col z).drop i) σi) ∧ gA_ h1 37 = gA_ h 37 ∧ gI_ h1 206 = 0 ∧ gI_ h1 328 = 0 := by
  have hN := cvN_le hM
  intro q
  induction q with
  | zero =>
    intro n i σi h hq hn hc hw h40 hV
    obtain ⟨n, rfl⟩ : ∃ j, n = j + 1 := ⟨n - 1, by omega⟩
    have e : i = cvN σ col z := by omega
    have s1 : Sm [206, 328] [] [] [] h (sI_ (sI_ h 206 0) 328 0) := sm_I (k := 206) (by decide) rfl (sm_I (k := 328) (by decide) rfl sm_rf)
    rw [F_X6_lay_51, if_pos ((i_le (by omega) (by omega)).mpr (by omega)), f_forget, ob_s, e, ← cvL_len, drop_e]
    exact ⟨_, rfl, hc.sm s1 (by decide), hw, rfl, rfl, rfl⟩
  | succ q ih =>
    intro n i σi h hq hn hc hw h40 hV
    obtain ⟨n, rfl⟩ : ∃ j, n = j + 1 := ⟨n - 1, by omega⟩
    have hi : i < cvN σ col z := by omega
    obtain ⟨s, set, hs12, -, e1, e2, e3, e4, -, t3, t4, l1, l2, hv⟩ := told_ok hM hi
    obtain ⟨d1, d2, d3, d4⟩ := v_dec hv
    have et : cvAt σ (nI i) col z = nI ((cvL σ col z).getD i 0) := by
      unfold cvAt
      rw [if_pos (n_inN hi (by omega)), nI_clamp (by omega)]
    obtain ⟨h1, ea, ra⟩ := f_add hw (show sN σi < 40 by omega) (k := tdK ((cvL σ col z).getD i 0)) (t := tdT ((cvL σ col z).getD i 0)) (x := tdX ((cvL σ col z).getD i 0)) (y := tdY ((cvL σ col z).getD i 0)) (z := z) (c := col) (by rw [e1]; exact t3) (by rw [e2]; exact t4) (by rw [e1, e2, e3]; exact l1) (by rw [e1, e2, e4]; exact l2) hz hcol hc
    have sa := w_X2_add _ _ _ _ _ _ _ _ _ ea
    have hw1 : Wf (placeS σi (tdK ((cvL σ col z).getD i 0)) (tdT ((cvL σ col z).getD i 0)) (tdX ((cvL σ col z).getD i 0)) (tdY ((cvL σ col z).getD i 0)) z col) := Wf_place hw (by omega) (by rw [e1]; exact t3) (by rw [e2]; exact t4) (by rw [e1, e2, e3]; exact l1) (by rw [e1, e2, e4]; exact l2) hz hcol
    rw [F_X6_lay_51, if_neg (show ¬ nI (cvN σ col z) ≤ nI i from nI_ge hi (by omega)), f_toldAt hM hV, et, ob_s, d1, d2, d3, d4, ea, ob_s]
    dsimp only
    rw [show nI i + 1 = nI (i + 1) from nI_add i 1, drop_c _ (show i < (cvL σ col z).length from by rw [cvL_len]; exact hi)]
    obtain ⟨h2, f1, f2, f3, f4, f5⟩ := ih n (i + 1) _ h1 (by omega) (by omega) ra hw1 (by rw [sN_place]; omega) (hV.sm sa (by decide))
    exact ⟨h2, f1, f2, f3, by rw [f4, sa.2.2.1 37 (by decide)], f5⟩
noncomputable def s_lay (σ : Sg) (x y : Int32) : Int32 × Nat × Sg := if (inN (x - 1) 5 && inN y 5) = true then if cvM σ x.toNatClampNeg y.toNatClampNeg ≤ 16 then if sN σ + cvN σ x.toNatClampNeg y.toNatClampNeg ≤ 40 then (nI (cvN σ x.toNatClampNeg y.toNatClampNeg), 0, layL x.toNatClampNeg y.toNatClampNeg (cvL σ x.toNatClampNeg y.toNatClampNeg) σ) else (-6, 6, σ) else (-6, 6, σ) else (-1, 1, σ)
def CLy (σ : Sg) (h : Hp) (a : Int32 × Nat × Sg) (o : Option (Int32 × Hp)) : Prop := ∃ h1, o = some (a.1, h1) ∧ ((a.2.1 ≠ 0 ∧ a.2.2 = σ ∧ gA_ h1 37 = gA_ (rC h a.2.1) 37 ∧ CVI σ h1 ∧ Sm [203, 204, 205, 206, 207] [] [22, 23, 24, 25, 26, 27, 28, 29, 30, 37] [] h h1) ∨ (a.2.1 = 0 ∧ RepC a.2.2 h1 ∧ Wf a.2.2 ∧ gA_ h1 37 = gA_ h 37 ∧ gI_ h1 206 = 0 ∧ gI_ h1 328 = 0))
theorem C_lay {σ : Sg} {h : Hp} (hw : Wf σ) (hc : RepC σ h) (hk : CVI σ h) (x y : Int32) : CLy σ h (s_lay σ x y) (F_X6_lay x y h) := by
  have h40 := hw.1
  have sm37 : ∀ h1 j, Sm [203, 204, 205, 206, 207] [] [22, 23, 24, 25, 26, 27, 28, 29, 30, 37] [] h1 (rC h1 j) := fun h1 j => sm_C (sm_rC h1 j) (by decide) sm_rf
  have no : CLy σ h (-1, 1, σ) ((some ((-1 : Int32), h)).bind fun ((v3, h3) : Int32 × Hp) => if v3 = 0 then (F_X3_length h3).bind fun v21 => (F_X2_ever h3).bind fun v30 => if v30 + v21 ≤ 40 then F_X6_lay_51 FU_ x y v21 0 h3 else (F_X6_refuse (-6) h3).bind fun ((v44, h44) : Int32 × Hp) => some (v44, h44) else (F_X6_refuse v3 h3).bind fun ((v13, h13) : Int32 × Hp) => some (v13, h13)) := by
    rw [ob_s]
    dsimp only
    rw [if_neg (by decide), c_r1, ob_s]
    exact ⟨rC h 1, rfl, Or.inl ⟨(by decide : (1 : Nat) ≠ 0), rfl, rfl, hk.sm (sm_rC h 1) (by decide), sm37 h 1⟩⟩
  unfold F_X6_lay F_X6_refusalOfCover s_lay
  rw [f_isBC, ob_s, lt5_t]
  cases hx : inN (x - 1) 5 with
  | false => rw [if_pos b0_, Bool.false_and, if_neg (show ¬ false = true by decide)]; exact no
  | true =>
    rw [if_neg b1_, Bool.true_and]
    cases hy : inN y 5 with
    | false => rw [if_neg (show ¬ false = true by decide), if_neg (show ¬ false = true by decide)]; exact no
    | true =>
      obtain ⟨col, hcol, rfl⟩ := col_n hx
      obtain ⟨z, hz, rfl⟩ := inN_n (n := 5) (by decide) hy
      rw [if_pos rfl, if_pos rfl, nI_clamp (by omega), nI_clamp (by omega)]
      obtain ⟨h1, e, r, c1, e37⟩ := C_findBest hw hc hk hcol hz
      have s1 := w_X3_findBest _ _ _ _ _ e
      have ref : ∀ j, Sm [203, 204, 205, 206, 207] [] [22, 23, 24, 25, 26, 27, 28, 29, 30, 37] [] h (rC h1 j) := fun j => sm_C s1 (by decide) (sm37 h1 j)
      rw [e, ob_s]
      by_cases hM : cvM σ col z ≤ 16
      · have hN := cvN_le hM
        rw [if_pos hM, decide_eq_true hM]
        dsimp only
        rw [if_neg b1_, ob_s]
        dsimp only
        unfold F_X3_length F_X2_ever
        rw [if_pos rfl, ob_s, ob_s, (r.2.2.2 hM).1, c1.2.2.1, nI_add, c_r6, ob_s]
        by_cases hl : sN σ + cvN σ col z ≤ 40
        · rw [if_pos hl, if_pos (show nI (sN σ + cvN σ col z) ≤ (40 : Int32) from (nI_le hl (by decide) : nI (sN σ + cvN σ col z) ≤ nI 40))]
          obtain ⟨h2, f1, f2, f3, f4, f5, f6⟩ := C_lay51 hcol hz hM (cvN σ col z) FU_ 0 σ h1 (by omega) (by unfold FU_; omega) c1 hw hl r
          exact ⟨h2, f1, Or.inr ⟨rfl, f2, f3, f4.trans e37, f5, f6⟩⟩
        · rw [if_neg hl, if_neg (show ¬ nI (sN σ + cvN σ col z) ≤ (40 : Int32) from (nI_ge (by omega) (by omega) : ¬ nI (sN σ + cvN σ col z) ≤ nI 40))]
          exact ⟨rC h1 6, rfl, Or.inl ⟨(by decide : (6 : Nat) ≠ 0), rfl, rC_37 e37 6, Or.inr ⟨col, z, hcol, hz, r.sm (sm_rC h1 6) (by decide)⟩, ref 6⟩⟩
      · rw [if_neg hM, decide_eq_false hM]
        dsimp only
        rw [if_pos b0_, ob_s]
        dsimp only
        rw [if_neg (by decide), c_r6, ob_s]
        exact ⟨rC h1 6, rfl, Or.inl ⟨(by decide : (6 : Nat) ≠ 0), rfl, rC_37 e37 6, Or.inr ⟨col, z, hcol, hz, r.sm (sm_rC h1 6) (by decide)⟩, ref 6⟩⟩
/-! the reference -/
theorem M_lay54 {σ : Sg} {col z : Nat} (hcol : 1 ≤ col ∧ col ≤ 5) (hz : z < 5) (hM : cvM σ col z ≤ 16) : ∀ q n i σi h, q + i = cvN σ col z → q < n → RepM σi h → Wf σi → sN σi + q ≤ 40 → MF σ col z h → (∀ t, t < 2 ^ cvM σ col z → MDt σ col z h t) → (∀ k, opn σ col z k = true → gA_ h 54 (rkG (opn σ col z) k) = nI (36 * z + k)) → ∃ h1, F_X7_lay_54 n (nI col) (nI z) (nI (cvN σ col z)) (nI (stI (opn σ col z) (wRt σ z) (wBh σ z) i 0)) (nI i) h = some (nI (cvN σ col z), h1) ∧ RepM (layL col z ((cvL σ col z).drop i) σi) h1 ∧ gA_ h1 38 = gA_ h 38 := by
  have hN := cvN_le hM
  have h16 := p16 hM
  intro q
  induction q with
  | zero =>
    intro n i σi h hq hn hm hw h40 hF hD h54
    obtain ⟨n, rfl⟩ : ∃ j, n = j + 1 := ⟨n - 1, by omega⟩
    have e : i = cvN σ col z := by omega
    rw [F_X7_lay_54, if_pos ((i_le (by omega) (by omega)).mpr (by omega)), e, ← cvL_len, drop_e]
    exact ⟨h, rfl, hm, rfl⟩
  | succ q ih =>
    intro n i σi h hq hn hm hw h40 hF hD h54
    obtain ⟨n, rfl⟩ : ∃ j, n = j + 1 := ⟨n - 1, by omega⟩
    have hi : i < cvN σ col z := by omega
    obtain ⟨s, set, hs12, eset, e1, e2, e3, e4, eb', t3, t4, l1, l2, hv⟩ := told_ok hM hi
    obtain ⟨s', hs12', hs, hf, hb, -, est, -⟩ := step_at hM hi
    rw [← eset] at hs hf hb est
    have ess : s' = s := by rw [eb'] at hb; exact (Option.some.inj hb).symm
    subst ess
    obtain ⟨k1, k2, k3⟩ := nmG_e (p := opn σ col z) (i := ffN set) (n := 36) hf
    obtain ⟨d1, d2⟩ := val_d hs12
    obtain ⟨kc1, kc2⟩ := k_coord k1
    have e54 := h54 _ k2
    rw [k3] at e54
    obtain ⟨f58, -⟩ := hF ((ffN set * 7 + shK s') * 2 + shT s') (by omega) _ (shK s') (shT s') k2 t3 t4 (by rw [k3])
    obtain ⟨h1, ea, ra⟩ := f_adds (show sN σi < 40 by omega) (k := shK s') (t := shT s') (x := nmG (opn σ col z) (ffN set) 36 % 6) (y := nmG (opn σ col z) (ffN set) 36 / 6) (z := z) (c := col) t3 t4 l1 l2 hz hm
    have sa := w_X7_adds _ _ _ _ _ _ _ _ ea
    have hw1 : Wf (placeS σi (shK s') (shT s') (nmG (opn σ col z) (ffN set) 36 % 6) (nmG (opn σ col z) (ffN set) 36 / 6) z col) := Wf_place hw (by omega) t3 t4 l1 l2 hz hcol
    rw [← eset, F_X7_lay_54, if_neg (show ¬ nI (cvN σ col z) ≤ nI i from nI_ge hi (by omega)), M_next hM hF hD hs hf eb', ob_s, f_firstOpen (by omega) (ff_tr (by omega)) (by omega), ob_s, rA_n _ 54 36 _ (by omega) (by decide), e54, ob_s, d1, d2, f_shapeAt, ob_s, rA_n _ 58 224 _ (by omega) (by decide), f58, way_R hs12, (c36 hz k1).1, kc1, kc2, ea, ob_s, nI_or, ← est, show nI i + 1 = nI (i + 1) from nI_add i 1, drop_c _ (show i < (cvL σ col z).length from by rw [cvL_len]; exact hi)]
    obtain ⟨h2, g1, g2, g3⟩ := ih n (i + 1) _ h1 (by omega) (by omega) ra hw1 (by rw [sN_place]; omega) (hF.sm (sa.2.2.1 58 (by decide)) (sa.2.2.1 59 (by decide))) (fun t ht => by
      unfold MDt
      rw [sa.2.2.1 55 (by decide), sa.2.2.1 56 (by decide)]
      exact hD t ht) (fun k hk => by rw [sa.2.2.1 54 (by decide)]; exact h54 k hk)
    refine ⟨h2, g1, ?_, by rw [g3, sa.2.2.1 38 (by decide)]⟩
    rw [layL, e1, e2, e3, e4]; exact g2
def MLy (σ : Sg) (h : Hp) (a : Int32 × Nat × Sg) (o : Option (Int32 × Hp)) : Prop := ∃ h1, o = some (a.1, h1) ∧ RepM a.2.2 h1 ∧ gA_ h1 38 = gA_ (rM h a.2.1) 38
theorem M_lay {σ : Sg} {h : Hp} (hw : Wf σ) (hm : RepM σ h) (x y : Int32) : MLy σ h (s_lay σ x y) (F_X7_lay x y h) := by
  have h40 := hw.1
  have refM : ∀ h1 j, RepM σ h1 → RepM σ (rM h1 j) := fun h1 j hm => hm.sm (sm_rM h1 j) (by decide)
  unfold F_X7_lay s_lay
  cases hx : inN (x - 1) 5 with
  | false =>
    unfold F_X7_wrongCover
    rw [f_isIn, hx, ob_s, if_pos b0_, Bool.false_and, if_neg (show ¬ false = true by decide), ob_s]
    dsimp only
    rw [if_neg (by decide), m_r1, ob_s]
    exact ⟨rM h 1, rfl, refM h 1 hm, rfl⟩
  | true =>
    rw [Bool.true_and]
    cases hy : inN y 5 with
    | false =>
      unfold F_X7_wrongCover
      rw [f_isIn, hx, ob_s, if_neg b1_, f_isIn, hy, ob_s, if_pos b0_, if_neg (show ¬ false = true by decide), ob_s]
      dsimp only
      rw [if_neg (by decide), m_r1, ob_s]
      exact ⟨rM h 1, rfl, refM h 1 hm, rfl⟩
    | true =>
      obtain ⟨col, hcol, rfl⟩ := col_n hx
      obtain ⟨z, hz, rfl⟩ := inN_n (n := 5) (by decide) hy
      obtain ⟨h1, e, C1, e38⟩ := M_wrong hw hm hcol hz
      rw [if_pos rfl, nI_clamp (by omega), nI_clamp (by omega), show F_X7_wrongCover (nI col) (nI z) h = _ from e, ob_s]
      dsimp only
      by_cases hM : cvM σ col z ≤ 16
      · have hN := cvN_le hM
        obtain ⟨h2, e2, A2, f38⟩ := M_covers hw hz hM C1
        rw [if_pos hM, if_pos hM, if_pos rfl, e2, ob_s, show rA_ h2 55 65536 (0 : Int32) = rA_ h2 55 65536 (nI 0) from rfl, rA_n _ 55 65536 _ (by decide) (by decide), (A2.2.2.1 0 (Nat.pow_pos (by decide))).1, show bN (vW σ col z 0) = cvN σ col z from rfl, A2.1.1.2.2.1, nI_add, m_r6, ob_s]
        by_cases hl : sN σ + cvN σ col z ≤ 40
        · rw [if_pos hl, if_pos (show nI (sN σ + cvN σ col z) ≤ (40 : Int32) from (nI_le hl (by decide) : nI (sN σ + cvN σ col z) ≤ nI 40))]
          obtain ⟨h3, g1, g2, g3⟩ := M_lay54 hcol hz hM (cvN σ col z) FU_ 0 σ h2 (by omega) (by unfold FU_; omega) A2.1.1 hw hl A2.2.1 A2.2.2.1 A2.1.2.2.2
          exact ⟨h3, g1, g2, g3.trans (f38.trans e38)⟩
        · rw [if_neg hl, if_neg (show ¬ nI (sN σ + cvN σ col z) ≤ (40 : Int32) from (nI_ge (by omega) (by omega) : ¬ nI (sN σ + cvN σ col z) ≤ nI 40))]
          exact ⟨rM h2 6, rfl, refM h2 6 A2.1.1, rM_38 (f38.trans e38) 6⟩
      · rw [if_neg hM, if_neg hM, if_neg (by decide), m_r6, ob_s]
        exact ⟨rM h1 6, rfl, refM h1 6 C1.1, rM_38 e38 6⟩
