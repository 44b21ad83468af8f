/-! ===== pieceOf and sound ===== -/
/-- a call of the class that changes only what is no part of the state -/
def CQr (h : Hp) (a : Int32 × Nat) (o : Option (Int32 × Hp)) : Prop := ∃ h1, o = some (a.1, h1) ∧ gA_ h1 37 = gA_ (rC h a.2) 37
theorem CQr.mk {h h1 : Hp} {o : Option (Int32 × Hp)} {v : Int32} {j : Nat} (e : o = some (v, h1)) (r : gA_ h1 37 = gA_ (rC h j) 37) : CQr h (v, j) o := ⟨h1, e, r⟩
theorem low_in {σ : Sg} (hw : Wf σ) {A : Int64} (hA : bl A 40) {l : Nat} (hl : lw A l) : tb (pc1 σ A) l = true := (pc1_b hw hA hl l).mpr (Cx.refl _ _ _)
theorem pc1_nz {σ : Sg} (hw : Wf σ) {A : Int64} (hA : bl A 40) (h : ¬ A = 0) : ¬ pc1 σ A = 0 := fun q => by
  obtain ⟨l, hl⟩ := lw_ex h
  have := low_in hw hA hl
  rw [q, tb_0] at this; cases this
theorem f_pieceNumbered {σ : Sg} {h : Hp} (hw : Wf σ) (hc : RepC σ h) (x : Int32) : F_X4_pieceNumbered x h = some (if inN x (nI (mP σ)) = true then pcN σ x.toNatClampNeg else 0) := by
  obtain ⟨g1, g2, g3⟩ := mP_r hw
  unfold F_X4_pieceNumbered F_X2_there
  rcases i_cases x (show 40 < 2 ^ 31 by decide) with q | q | ⟨i, hi, rfl⟩
  · rw [if_pos q, if_neg (fun w => by have := (of_decide_eq_true w).1; rw [i_leT] at this; rw [i_ltT] at q; omega)]
  · have n1 : ¬ x < 0 := by
      rw [i_leT] at q; rw [i_ltT]
      have : (nI 40).toInt = 40 := by decide
      have : (0 : Int32).toInt = 0 := by decide
      omega
    have n2 : ¬ x < 40 := by
      rw [i_leT] at q; rw [i_ltT]
      have : (nI 40).toInt = (40 : Int32).toInt := by decide
      omega
    rw [if_neg n1, if_neg n2, if_neg (fun w => by
      have w := (of_decide_eq_true w).2
      rw [i_leT] at q; rw [i_ltT] at w
      have : (nI (mP σ)).toInt = mP σ := nI_i (by omega)
      have : (nI 40).toInt = 40 := by decide
      omega)]
  · rw [if_neg (i_n0 (by omega)), if_pos (show nI i < (40 : Int32) from (i_lt (b := 40) (by omega) (by decide)).mpr hi), ob_s, thC hw hc, nI_clamp (by omega)]
    by_cases hm : i < mP σ
    · rw [n_inN hm (by omega), if_pos rfl]
      refine lp_FU (fun n j => F_X4_pieceNumbered_23 n (nI i) (rst σ (thI σ) j) (nI j) h) _ i (by omega) (fun n j hj => ?_) (fun n => ?_)
      · show F_X4_pieceNumbered_23 (n + 1) _ _ _ _ = _
        rw [F_X4_pieceNumbered_23, if_neg (show ¬ nI i ≤ nI j from nI_ge hj (by omega)), if_neg (g3 j (by omega)), f_reach hw hc, ob_s, bd_e, show nI j + 1 = nI (j + 1) from nI_add j 1]; rfl
      · show F_X4_pieceNumbered_23 (n + 1) _ _ _ _ = _
        rw [F_X4_pieceNumbered_23, if_pos ((i_le (by omega) (by omega)).mpr (Nat.le_refl _)), f_reach hw hc, ob_s]; rfl
    · rw [n_inN' (by omega) (by omega), if_neg (by decide)]
      refine lp_FU (fun n j => F_X4_pieceNumbered_23 n (nI i) (rst σ (thI σ) j) (nI j) h) _ (mP σ) (by omega) (fun n j hj => ?_) (fun n => ?_)
      · show F_X4_pieceNumbered_23 (n + 1) _ _ _ _ = _
        rw [F_X4_pieceNumbered_23, if_neg (show ¬ nI i ≤ nI j from nI_ge (by omega) (by omega)), if_neg (g3 j (by omega)), f_reach hw hc, ob_s, bd_e, show nI j + 1 = nI (j + 1) from nI_add j 1]; rfl
      · show F_X4_pieceNumbered_23 (n + 1) _ _ _ _ = _
        rw [F_X4_pieceNumbered_23, f_reach hw hc, ob_s, if_pos g2, g2]
        have : rch σ 0 (0 &&& -0) = 0 := pc1_0 σ
        rw [this]; split <;> rfl
noncomputable def s_pieceOf (σ : Sg) (x w : Int32) : Int32 × Nat := if inN x (nI (mP σ)) = true then if w = nI 0 then (nI (wt σ (pcN σ x.toNatClampNeg)), 0) else if w = nI 1 then (bi_ (flo σ (pcN σ x.toNatClampNeg)), 0) else if w = nI 2 then (bi_ (stdB σ (pcN σ x.toNatClampNeg)), 0) else if w = nI 3 then (nI (pcL (pcN σ x.toNatClampNeg)), 0) else (-2, 2) else (-1, 1)
theorem bi_if {β : Type} (b : Bool) (h : β) : (if bi_ b = 0 then some ((0 : Int32), h) else some ((1 : Int32), h)) = some (bi_ b, h) := by cases b <;> rfl
theorem C_pieceOf {σ : Sg} {h : Hp} (hw : Wf σ) (hc : RepC σ h) (x w : Int32) : CQr h (s_pieceOf σ x w) (F_X6_pieceOf x w h) := by
  have g1 := (mP_r hw).1
  unfold F_X6_pieceOf s_pieceOf
  rw [f_pieceNumbered hw hc, ob_s, c_r1, c_r2]
  cases hp : inN x (nI (mP σ)) with
  | false => rw [if_neg (show ¬ false = true by decide), if_neg (show ¬ false = true by decide), if_pos rfl]; exact CQr.mk rfl rfl
  | true =>
    obtain ⟨i, hi, rfl⟩ := inN_n (by omega) hp
    rw [if_pos rfl, if_pos rfl, nI_clamp (by omega), if_neg (show ¬ pcN σ i = 0 from pc1_nz hw (bl_rst (bl_th' hw) i) ((mP_r hw).2.2 i hi))]
    obtain ⟨h1, es, ss⟩ := C_stands hw hc (pcN_th hw i)
    rw [C_weight hw hc (bl_pcN hw i), C_floats hw hc (pcN_th hw i), es, f_bitCount, ob_s, ob_s, ob_s, ob_s]
    dsimp only
    rw [bi_if, bi_if]
    by_cases q0 : w = nI 0
    · rw [if_pos q0, if_pos q0]; exact CQr.mk rfl rfl
    · rw [if_neg q0, if_neg q0]
      by_cases q1 : w = nI 1
      · rw [if_pos q1, if_pos q1]; exact CQr.mk rfl rfl
      · rw [if_neg q1, if_neg q1]
        by_cases q2 : w = nI 2
        · rw [if_pos q2, if_pos q2]; exact CQr.mk rfl (ss.2.2.1 37 (by decide))
        · rw [if_neg q2, if_neg q2]
          by_cases q3 : w = nI 3
          · rw [if_pos q3, if_pos q3]; exact CQr.mk rfl rfl
          · rw [if_neg q3, if_neg q3]; exact CQr.mk rfl rfl
theorem M_pieceOf {σ : Sg} {h : Hp} (hw : Wf σ) (hm : RepM σ h) (x w : Int32) : MQr h (s_pieceOf σ x w) (F_X7_pieceOf x w h) := by
  have g1 := (mP_r hw).1
  obtain ⟨h1, e, hf, hm1⟩ := f_findPieces hw hm
  have s1 := w_X7_findPieces _ _ e
  have e38 : gA_ h1 38 = gA_ h 38 := s1.2.2.1 38 (by decide)
  have r38 : ∀ j, gA_ (rM h1 j) 38 = gA_ (rM h j) 38 := fun j => by
    unfold rM
    by_cases q : j = 0
    · rw [if_pos q, if_pos q, e38]
    · rw [if_neg q, if_neg q]
      show upd (gA_ h1 38) j _ = upd (gA_ h 38) j _
      rw [e38]
  unfold F_X7_pieceOf s_pieceOf
  rw [e, ob_s, hf.2.1, f_isIn, ob_s, m_r1, m_r2]
  cases hp : inN x (nI (mP σ)) with
  | false => rw [if_neg (by decide), if_pos b0_]; exact MQr.mk rfl (r38 1)
  | true =>
    obtain ⟨i, hi, rfl⟩ := inN_n (by omega) hp
    obtain ⟨h2, es, ss⟩ := M_stands hw hm1 (bl_pcN hw i)
    rw [if_pos rfl, nI_clamp (by omega), if_neg b1_, rL_n _ 53 40 _ (by omega) (by decide), rL_n _ 53 40 _ (by omega) (by decide), rL_n _ 53 40 _ (by omega) (by decide), rL_n _ 53 40 _ (by omega) (by decide), hf.2.2 i hi, M_weight hw hm1 (bl_pcN hw i), M_floats hw hm1 (bl_pcN hw i), es, f_bits, ob_s, ob_s, ob_s, ob_s]
    dsimp only
    rw [bi_if, bi_if]
    by_cases q0 : w = nI 0
    · rw [if_pos q0, if_pos q0]; exact MQr.mk rfl e38
    · rw [if_neg q0, if_neg q0]
      by_cases q1 : w = nI 1
      · rw [if_pos q1, if_pos q1]; exact MQr.mk rfl e38
      · rw [if_neg q1, if_neg q1]
        by_cases q2 : w = nI 2
        · rw [if_pos q2, if_pos q2]; exact MQr.mk rfl ((ss.2.2.1 38 (by decide)).trans e38)
        · rw [if_neg q2, if_neg q2]
          by_cases q3 : w = nI 3
          · rw [if_pos q3, if_pos q3]; exact MQr.mk rfl e38
          · rw [if_neg q3, if_neg q3]; exact MQr.mk rfl (r38 2)
/-! sound -/
def wkV (σ : Sg) (P : Int64) (b : Nat) : Nat := if pc1 σ (outP P b) = outP P b then 0 else wkN σ P b
noncomputable def spB (σ : Sg) (P : Int64) : Bool := stdB σ P && (List.range (sN σ)).all fun b => !tb P b || decide (wkV σ P b = 0)
theorem all_t {σ : Sg} {P : Int64} : ((List.range (sN σ)).all fun b => !tb P b || decide (wkV σ P b = 0)) = true ↔ ∀ b, b < sN σ → ¬ (tb P b = true ∧ ¬ wkV σ P b = 0) := by
  rw [List.all_eq_true]
  constructor
  · intro h b hb ⟨q1, q2⟩
    have := h b (List.mem_range.mpr hb)
    rw [q1, decide_eq_false q2] at this; cases this
  · intro h b hb
    have w := h b (List.mem_range.mp hb)
    cases q : tb P b with
    | false => rfl
    | true =>
      by_cases u : wkV σ P b = 0
      · rw [decide_eq_true u]; rfl
      · exact absurd ⟨q, u⟩ w
theorem wkV_le (σ : Sg) (P : Int64) (b : Nat) : wkV σ P b ≤ 40 := by
  unfold wkV; split
  · omega
  · exact wk_le σ P b
theorem C_isSoundPiece {σ : Sg} {h : Hp} (hw : Wf σ) (hc : RepC σ h) {P : Int64} (hP : ∀ b, tb P b = true → sTh σ b = true) (hcon : ∀ a c, tb P a = true → tb P c = true → Cx (nbr σ) P a c) : ∃ h1, F_X4_isSoundPiece P h = some (bi_ (spB σ P), h1) ∧ Sm [] [] [31, 32] [] h h1 := by
  have h40 := hw.1
  have key : ∃ h1, F_X4_isSoundPiece P h = some (bi_ (spB σ P), h1) := by
    unfold F_X4_isSoundPiece
    obtain ⟨h1, es, ss⟩ := C_stands hw hc hP
    have hc1 : RepC σ h1 := hc.sm ss (by decide)
    refine ⟨h1, ?_⟩
    rw [es, ob_s]
    dsimp only
    unfold spB
    cases hst : stdB σ P with
    | false => rw [if_pos b0_]; rfl
    | true =>
      rw [if_neg b1_, Bool.true_and]
      have stp : ∀ n i, i < sN σ → F_X4_isSoundPiece_12 (n + 1) P (nI i) h1 = if tb P i = true ∧ ¬ wkV σ P i = 0 then some (0, h1) else F_X4_isSoundPiece_12 n P (nI (i + 1)) h1 := fun n i hi => by
        have gen : ∀ G, F_X4_isSoundPiece_12 n = G → F_X4_isSoundPiece_12 (n + 1) P (nI i) h1 = if tb P i = true ∧ ¬ wkV σ P i = 0 then some (0, h1) else G P (nI (i + 1)) h1 := fun G hG => by
          rw [F_X4_isSoundPiece_12, hG]
          unfold F_X2_ever F_X4_isSoundPiece_44
          rw [ob_s, hc1.2.2.1, if_neg (show ¬ nI (sN σ) ≤ nI i from nI_ge hi (by omega)), f_countWeak hw hc1 hP hcon hi, ob_s, show nI i + 1 = nI (i + 1) from nI_add i 1]
          show (if lu_ P (nI i) &&& 1 = 1 then if nI (wkV σ P i) ≤ 0 then _ else _ else _) = _
          have hv := wkV_le σ P i
          by_cases q : tb P i = true
          · rw [if_pos ((lu1_1 _ (by omega)).mpr q)]
            by_cases u : wkV σ P i = 0
            · rw [if_pos ((nI_le0 (by omega)).mpr u), if_neg (fun w => w.2 u)]
            · rw [if_neg (fun w => u ((nI_le0 (by omega)).mp w)), if_pos ⟨q, u⟩]
          · rw [if_neg (fun w => q ((lu1_1 _ (by omega)).mp w)), if_neg (fun w => q w.1)]
        exact gen _ rfl
      rcases Classical.em (∃ i, i < sN σ ∧ (tb P i = true ∧ ¬ wkV σ P i = 0)) with q | q
      · obtain ⟨i, hi, hb⟩ := q
        have e0 : ((List.range (sN σ)).all fun b => !tb P b || decide (wkV σ P b = 0)) = false := by
          cases w : ((List.range (sN σ)).all fun b => !tb P b || decide (wkV σ P b = 0)) with
          | false => rfl
          | true => exact absurd hb (all_t.mp w i hi)
        rw [e0]
        exact lp_bad (fun n i => F_X4_isSoundPiece_12 n P (nI i) h1) (some (bi_ false, h1)) (sN σ) (fun i => tb P i = true ∧ ¬ wkV σ P i = 0) (fun n i hi w => by
          show F_X4_isSoundPiece_12 (n + 1) P (nI i) h1 = F_X4_isSoundPiece_12 n P (nI (i + 1)) h1
          rw [stp n i hi, if_neg w]) (fun n i hi w => by
          show F_X4_isSoundPiece_12 (n + 1) P (nI i) h1 = _
          rw [stp n i hi, if_pos w]; rfl) FU_ 0 i (Nat.zero_le _) hi hb (by unfold FU_; omega)
      · rw [all_t.mpr (fun b hb w => q ⟨b, hb, w⟩)]
        refine lp_FU (fun n i => F_X4_isSoundPiece_12 n P (nI i) h1) _ (sN σ) (by omega) (fun n i hi => ?_) (fun n => ?_)
        · show F_X4_isSoundPiece_12 (n + 1) P (nI i) h1 = F_X4_isSoundPiece_12 n P (nI (i + 1)) h1
          rw [stp n i hi, if_neg (fun w => q ⟨i, hi, w⟩)]
        · show F_X4_isSoundPiece_12 (n + 1) P (nI (sN σ)) h1 = _
          rw [F_X4_isSoundPiece_12]
          unfold F_X2_ever
          rw [ob_s, hc1.2.2.1, if_pos ((i_le (by omega) (by omega)).mpr (Nat.le_refl _))]; rfl
  obtain ⟨h1, e⟩ := key
  exact ⟨h1, e, w_X4_isSoundPiece _ _ _ _ e⟩
theorem pc1_con {σ : Sg} (hw : Wf σ) {A : Int64} (hA : bl A 40) : ∀ a c, tb (pc1 σ A) a = true → tb (pc1 σ A) c = true → Cx (nbr σ) (pc1 σ A) a c := fun a c h1 h2 => by
  rcases Classical.em (A = 0) with q | q
  · rw [q, pc1_0, tb_0] at h1; cases h1
  · obtain ⟨l, hl⟩ := lw_ex q
    have c1 := (pc1_b hw hA hl a).mp h1
    have c2 := (pc1_b hw hA hl c).mp h2
    have c3 : Cx (nbr σ) A a c := (Cx.symm (nbr_c σ) hl.2.1 c1).trans c2
    exact (c3 (fun d => Cx (nbr σ) A l d ∧ Cx (nbr σ) (pc1 σ A) a d) ⟨c1, Cx.refl _ _ _⟩ (fun d e ⟨q0, q1⟩ q2 q3 => ⟨q0.step q2 q3, q1.step q2 ((pc1_b hw hA hl e).mpr (q0.step q2 q3))⟩)).2
noncomputable def sdA (σ : Sg) : Nat → Int64 → Bool
  | 0, _ => true
  | p + 1, A => if A = 0 then true else spB σ (pc1 σ A) && sdA σ p (cutP σ A)
theorem sdA_0 (σ : Sg) : ∀ p, sdA σ p 0 = true
  | 0 => rfl
  | p + 1 => by rw [sdA, if_pos rfl]
theorem C_isSound10 {σ : Sg} (hw : Wf σ) : ∀ p n i A h, p + i = 40 → p < n → RepC σ h → (∀ b, tb A b = true → sTh σ b = true) → ∃ h1, F_X4_isSound_10 n A (nI i) h = some (bi_ (sdA σ p A), h1) := by
  have h40 := hw.1
  intro p
  induction p with
  | zero =>
    intro n i A h hp hn hc hA
    obtain ⟨n, rfl⟩ : ∃ k, n = k + 1 := ⟨n - 1, by omega⟩
    have e : i = 40 := by omega
    subst e
    rw [F_X4_isSound_10, if_pos (by decide)]
    exact ⟨h, rfl⟩
  | succ p ih =>
    intro n i A h hp hn hc hA
    obtain ⟨n, rfl⟩ : ∃ k, n = k + 1 := ⟨n - 1, by omega⟩
    have hbl : bl A 40 := bl_sub (bl_th' hw) (fun b q => by rw [tb_thI hw]; exact hA b q)
    rw [F_X4_isSound_10, if_neg (show ¬ (40 : Int32) ≤ nI i from (nI_ge (by omega) (by decide) : ¬ nI 40 ≤ nI i)), sdA]
    by_cases q : A = 0
    · rw [if_pos q, if_pos q]; exact ⟨h, rfl⟩
    · rw [if_neg q, if_neg q, f_reach hw hc, ob_s, bd_e]
      obtain ⟨h1, e, s⟩ := C_isSoundPiece hw hc (P := pc1 σ A) (fun b u => hA b (pc1_sub hw hbl u)) (pc1_con hw hbl)
      have e' : F_X4_isSoundPiece (rch σ A (A &&& -A)) h = some (bi_ (spB σ (pc1 σ A)), h1) := e
      rw [e', ob_s]
      dsimp only
      cases spB σ (pc1 σ A) with
      | false => rw [if_pos b0_]; exact ⟨h1, rfl⟩
      | true =>
        rw [if_neg b1_, Bool.true_and, show nI i + 1 = nI (i + 1) from nI_add i 1]
        exact ih n (i + 1) (cutP σ A) h1 (by omega) (by omega) (hc.sm s (by decide)) (fun b u => hA b (by unfold cutP at u; rw [tb_and, Bool.and_eq_true] at u; exact u.1))
theorem C_isSound {σ : Sg} {h : Hp} (hw : Wf σ) (hc : RepC σ h) : ∃ h1, F_X4_isSound h = some (bi_ (sdA σ 40 (thI σ)), h1) ∧ Sm [] [] [31, 32] [] h h1 := by
  have key : ∃ h1, F_X4_isSound h = some (bi_ (sdA σ 40 (thI σ)), h1) := by
    unfold F_X4_isSound F_X2_there
    rw [ob_s, thC hw hc]
    exact C_isSound10 hw 40 FU_ 0 (thI σ) h (by omega) (by unfold FU_; omega) hc (fun b q => by rw [← tb_thI hw]; exact q)
  obtain ⟨h1, e⟩ := key
  exact ⟨h1, e, w_X4_isSound _ _ _ e⟩
theorem C_sound {σ : Sg} {h : Hp} (hw : Wf σ) (hc : RepC σ h) : CQr h (bi_ (sdA σ 40 (thI σ)), 0) (F_X6_sound h) := by
  obtain ⟨h1, e, s⟩ := C_isSound hw hc
  unfold F_X6_sound
  rw [e, ob_s]
  dsimp only
  rw [bi_if]
  exact CQr.mk rfl (s.2.2.1 37 (by decide))
theorem wk_le0 {σ : Sg} {P : Int64} {b : Nat} : (if pc1 σ (outP P b) = outP P b then (-1 : Int32) else nI (wkN σ P b)) ≤ 0 ↔ wkV σ P b = 0 := by
  unfold wkV
  have hk := wk_le σ P b
  by_cases q : pc1 σ (outP P b) = outP P b
  · rw [if_pos q, if_pos q]; exact ⟨fun _ => rfl, fun _ => by decide⟩
  · rw [if_neg q, if_neg q, nI_le0 (by omega)]
theorem M_isSound48 {σ : Sg} {h : Hp} (hw : Wf σ) (hm : RepM σ h) (hl : Lk σ h) {P : Int64} (hP : bl P (sN σ)) (k : Int64 → Hp → Option (Int32 × Hp)) (y : Int64) : ∀ m n X, pcL X = m → m < n → (∀ b, tb X b = true → tb P b = true) → ((∀ b, tb X b = true → wkV σ P b = 0) → F_X7_isSound_48 n k y P X h = k y h) ∧ ((∃ b, tb X b = true ∧ ¬ wkV σ P b = 0) → F_X7_isSound_48 n k y P X h = some (0, h)) := by
  intro m
  induction m with
  | zero =>
    intro n X hp hn hX
    obtain ⟨n, rfl⟩ : ∃ k, n = k + 1 := ⟨n - 1, by omega⟩
    have e := pcL_z hp
    subst e
    rw [F_X7_isSound_48, if_pos rfl]
    exact ⟨fun _ => rfl, fun ⟨b, hb, _⟩ => by rw [tb_0] at hb; cases hb⟩
  | succ m ih =>
    intro n X hp hn hX
    obtain ⟨n, rfl⟩ : ∃ k, n = k + 1 := ⟨n - 1, by omega⟩
    have hnz : ¬ X = 0 := fun q => by rw [q, pcL_0] at hp; omega
    obtain ⟨b, hb⟩ := lw_ex hnz
    have hbN : b < sN σ := by
      rcases Nat.lt_or_ge b (sN σ) with u | u
      · exact u
      · have := hX b hb.2.1; rw [hP b u] at this; cases this
    have hpop := pcL_pop hb
    rw [F_X7_isSound_48, if_neg hnz, f_first hb, ob_s, f_weakAt hw hm hl hP hbN, ob_s, bd_e]
    have hsub : ∀ c, tb (X &&& (X - 1)) c = true → tb X c = true := fun c q => by rw [tb_and, Bool.and_eq_true] at q; exact q.1
    obtain ⟨i1, i2⟩ := ih n (X &&& (X - 1)) (by omega) (by omega) (fun c q => hX c (hsub c q))
    constructor
    · intro hall
      rw [if_pos (wk_le0.mpr (hall b hb.2.1)), i1 (fun c q => hall c (hsub c q))]
    · rintro ⟨c, hc, hbad⟩
      by_cases q : wkV σ P b = 0
      · rw [if_pos (wk_le0.mpr q)]
        refine i2 ⟨c, ?_, hbad⟩
        rw [tb_pop' hb, hc]
        have : c ≠ b := fun e => hbad (by rw [e]; exact q)
        simp [this]
      · rw [if_neg (fun w => q (wk_le0.mp w))]
theorem M_isSound2 {σ : Sg} (hw : Wf σ) : ∀ p n A h, pcL A ≤ p → p < n → RepM σ h → Lk σ h → bl A (sN σ) → ∃ h1, F_X7_isSound_2 n A h = some (bi_ (sdA σ p A), h1) := by
  have h40 := hw.1
  intro p
  induction p with
  | zero =>
    intro n A h hp hn hm hl hA
    obtain ⟨n, rfl⟩ : ∃ k, n = k + 1 := ⟨n - 1, by omega⟩
    have e := pcL_z (show pcL A = 0 by omega)
    subst e
    rw [F_X7_isSound_2, if_pos rfl]
    exact ⟨h, rfl⟩
  | succ p ih =>
    intro n A h hp hn hm hl hA
    obtain ⟨n, rfl⟩ : ∃ k, n = k + 1 := ⟨n - 1, by omega⟩
    rw [F_X7_isSound_2, sdA]
    by_cases q : A = 0
    · rw [if_pos q, if_pos q]; exact ⟨h, rfl⟩
    · have hbp := bl_pc1 hw hA h40
      rw [if_neg q, if_neg q, f_pieceIn hw hl hA, ob_s, bd_e, M_floats hw hm hbp, ob_s]
      have hlt := cut_lt hw (bl_mono hA h40) q
      cases hf : flo σ (pc1 σ A) with
      | true =>
        have : spB σ (pc1 σ A) = false := by
          cases w : spB σ (pc1 σ A) with
          | false => rfl
          | true =>
            unfold spB at w
            rw [Bool.and_eq_true, stdB_t, hf] at w
            cases w.1.1
        rw [if_neg b1_, this]; exact ⟨h, rfl⟩
      | false =>
        obtain ⟨h1, es, ss⟩ := M_stands hw hm hbp
        have hm1 : RepM σ h1 := hm.sm ss (by decide)
        have hl1 : Lk σ h1 := fun a ha => by rw [ss.2.2.2 48 (by decide)]; exact hl a ha
        rw [if_pos b0_, es, ob_s]
        dsimp only
        unfold spB
        cases hst : stdB σ (pc1 σ A) with
        | false => rw [if_pos b0_]; exact ⟨h1, rfl⟩
        | true =>
          rw [if_neg b1_, Bool.true_and]
          have h64 : pcL (pc1 σ A) ≤ 64 := pcL_le (Nat.le_refl _) (fun i hi => tb_big hi)
          obtain ⟨i1, i2⟩ := M_isSound48 hw hm1 hl1 hbp (F_X7_isSound_83 (F_X7_isSound_2 n)) (A &&& (pc1 σ A ^^^ (-1))) (pcL (pc1 σ A)) FU_ (pc1 σ A) rfl (by unfold FU_; omega) (fun _ u => u)
          rcases Classical.em (∃ b, tb (pc1 σ A) b = true ∧ ¬ wkV σ (pc1 σ A) b = 0) with u | u
          · have e0 : ((List.range (sN σ)).all fun b => !tb (pc1 σ A) b || decide (wkV σ (pc1 σ A) b = 0)) = false := by
              cases w : ((List.range (sN σ)).all fun b => !tb (pc1 σ A) b || decide (wkV σ (pc1 σ A) b = 0)) with
              | false => rfl
              | true =>
                obtain ⟨b, hb, hbad⟩ := u
                have hbN : b < sN σ := by
                  rcases Nat.lt_or_ge b (sN σ) with v | v
                  · exact v
                  · rw [hbp b v] at hb; cases hb
                exact absurd ⟨hb, hbad⟩ (all_t.mp w b hbN)
            rw [i2 u, e0]; exact ⟨h1, rfl⟩
          · rw [i1 (fun b hb => by
              rcases Classical.em (wkV σ (pc1 σ A) b = 0) with v | v
              · exact v
              · exact absurd ⟨b, hb, v⟩ u), all_t.mpr (fun b _ v => u ⟨b, v⟩), Bool.true_and, F_X7_isSound_83]
            exact ih n (cutP σ A) h1 (by omega) (by omega) hm1 hl1 (bl_cut hA)
theorem M_isSound {σ : Sg} {h : Hp} (hw : Wf σ) (hm : RepM σ h) (hl : Lk σ h) {A : Int64} (hA : bl A (sN σ)) : ∃ h1, F_X7_isSound A h = some (bi_ (sdA σ 40 A), h1) ∧ Sm [] [] [49, 50, 51, 52] [] h h1 := by
  have hp : pcL A ≤ 40 := pcL_le (by decide) (bl_mono hA hw.1)
  obtain ⟨h1, e⟩ := M_isSound2 hw 40 FU_ A h hp (by unfold FU_; omega) hm hl hA
  exact ⟨h1, e, w_X7_isSound _ _ _ _ e⟩
theorem M_sound {σ : Sg} {h : Hp} (hw : Wf σ) (hm : RepM σ h) : MQr h (bi_ (sdA σ 40 (thI σ)), 0) (F_X7_sound h) := by
  have s0 := lk1_sm σ (sN σ) h
  have hm1 : RepM σ (lk1 σ (sN σ) h) := hm.sm s0 (by decide)
  unfold F_X7_sound
  rw [f_links hw hm, ob_s, thM hw hm1]
  obtain ⟨h1, e, s⟩ := M_isSound hw hm1 (links_Lk hw h) (bl_th hw)
  rw [e, ob_s]
  dsimp only
  rw [bi_if]
  exact MQr.mk rfl ((s.2.2.1 38 (by decide)).trans (s0.2.2.1 38 (by decide)))
