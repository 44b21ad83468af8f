/-! ===== the pieces of the bricks that are there ===== -/
def thI (σ : Sg) : Int64 := ofB (sTh σ) 40
theorem tb_thI {σ : Sg} (hw : Wf σ) (b : Nat) : tb (thI σ) b = sTh σ b := by
  unfold thI
  rw [tb_ofB _ _ _ (by decide)]
  by_cases h : b < 40
  · rw [decide_eq_true h]; rfl
  · rw [decide_eq_false h]
    cases q : sTh σ b with
    | false => rfl
    | true => have := hw.2.2.2.1 b q; have := hw.1; omega
theorem thC {σ : Sg} {h : Hp} (hw : Wf σ) (hc : RepC σ h) : gJ_ h 139 = thI σ := tb_ext (fun i _ => by rw [hc.2.2.2.2.1 i, tb_thI hw])
theorem thM {σ : Sg} {h : Hp} (hw : Wf σ) (hm : RepM σ h) : gJ_ h 460 = thI σ := tb_ext (fun i _ => by rw [hm.2.2.2.2.1 i, tb_thI hw])
theorem bl_th {σ : Sg} (hw : Wf σ) : bl (thI σ) (sN σ) := fun i hi => by
  rw [tb_thI hw]
  cases q : sTh σ i with
  | false => rfl
  | true => have := hw.2.2.2.1 i q; omega
theorem bl_th' {σ : Sg} (hw : Wf σ) : bl (thI σ) 40 := bl_mono (bl_th hw) hw.1
def mP (σ : Sg) : Nat := npc σ 40 (thI σ)
def pcN (σ : Sg) (i : Nat) : Int64 := pc1 σ (rst σ (thI σ) i)
theorem bl_rst {σ : Sg} {A : Int64} {m : Nat} (h : bl A m) : ∀ i, bl (rst σ A i) m
  | 0 => h
  | i + 1 => bl_cut (bl_rst h i)
theorem mP_r {σ : Sg} (hw : Wf σ) : mP σ ≤ 40 ∧ rst σ (thI σ) (mP σ) = 0 ∧ ∀ i, i < mP σ → ¬ rst σ (thI σ) i = 0 := npc_r hw 40 _ (bl_th' hw) (pcL_le (by decide) (bl_th' hw))
theorem f_countPieces {σ : Sg} {h : Hp} (hw : Wf σ) (hc : RepC σ h) : F_X4_countPieces h = some (nI (mP σ)) := by
  have key : ∀ p n i c A, p + i = 40 → p < n → F_X4_countPieces_13 n A (nI c) (nI i) h = some (nI (c + npc σ p A)) := by
    intro p
    induction p with
    | zero =>
      intro n i c A hp hn
      obtain ⟨n, rfl⟩ : ∃ k, n = k + 1 := ⟨n - 1, by omega⟩
      rw [F_X4_countPieces_13, if_pos (show (40 : Int32) ≤ nI i from (nI_le (by omega) (by omega) : nI 40 ≤ nI i))]; rfl
    | succ p ih =>
      intro n i c A hp hn
      obtain ⟨n, rfl⟩ : ∃ k, n = k + 1 := ⟨n - 1, by omega⟩
      rw [F_X4_countPieces_13, if_neg (show ¬ (40 : Int32) ≤ nI i from (nI_ge (by omega) (by decide) : ¬ nI 40 ≤ nI i)), npc]
      by_cases h0 : A = 0
      · rw [if_pos h0, if_pos h0]; rfl
      · rw [if_neg h0, if_neg h0, f_reach hw hc, ob_s, bd_e, show nI i + 1 = nI (i + 1) from nI_add i 1, show nI c + 1 = nI (c + 1) from nI_add c 1]
        have := ih n (i + 1) (c + 1) (cutP σ A) (by omega) (by omega)
        rw [show c + (npc σ p (cutP σ A) + 1) = c + 1 + npc σ p (cutP σ A) by omega]
        exact this
  unfold F_X4_countPieces F_X2_there
  rw [ob_s, thC hw hc]
  have := key 40 FU_ 0 0 (thI σ) (by omega) (by unfold FU_; omega)
  rw [Nat.zero_add] at this
  exact this
theorem C_pieces {σ : Sg} {h : Hp} (hw : Wf σ) (hc : RepC σ h) : F_X6_pieces h = some (nI (mP σ)) := by
  unfold F_X6_pieces; rw [f_countPieces hw hc]; rfl
/-- what findPieces leaves -/
def FP (σ : Sg) (h : Hp) : Prop := Lk σ h ∧ gI_ h 467 = nI (mP σ) ∧ ∀ i, i < mP σ → gL_ h 53 i = pcN σ i
theorem f_findPieces {σ : Sg} {h : Hp} (hw : Wf σ) (hm : RepM σ h) : ∃ h1, F_X7_findPieces h = some h1 ∧ FP σ h1 ∧ RepM σ h1 := by
  have h40 := hw.1
  obtain ⟨g1, g2, g3⟩ := mP_r hw
  have key : ∀ p n i A h, p + i = mP σ → p < n → A = rst σ (thI σ) i → Lk σ h → gI_ h 467 = nI i → (∀ j, j < i → gL_ h 53 j = pcN σ j) → ∃ h1, F_X7_findPieces_14 n A h = some h1 ∧ FP σ h1 := by
    intro p
    induction p with
    | zero =>
      intro n i A h hp hn hA hl h4 h5
      obtain ⟨n, rfl⟩ : ∃ k, n = k + 1 := ⟨n - 1, by omega⟩
      have hi : i = mP σ := by omega
      subst hi
      rw [F_X7_findPieces_14, if_pos (by rw [hA]; exact g2)]
      exact ⟨h, rfl, hl, h4, h5⟩
    | succ p ih =>
      intro n i A h hp hn hA hl h4 h5
      obtain ⟨n, rfl⟩ : ∃ k, n = k + 1 := ⟨n - 1, by omega⟩
      have hb : bl A (sN σ) := by rw [hA]; exact bl_rst (bl_th hw) i
      rw [F_X7_findPieces_14, if_neg (by rw [hA]; exact g3 i (by omega)), f_pieceIn hw hl hb, ob_s, h4, wL_n _ 53 40 _ _ (by omega) (by decide), gI_sL, h4, rL_n _ 53 40 _ (by omega) (by decide), gL_sL, if_pos rfl, vL_us, bd_e, bd_e, show nI i + 1 = nI (i + 1) from nI_add i 1]
      refine ih n (i + 1) _ _ (by omega) (by omega) (by rw [hA]; rfl) (fun a ha => ?_) ?_ (fun j hj => ?_)
      · rw [gL_sI, gL_sL, if_neg (by decide)]; exact hl a ha
      · rw [gI_sI, if_pos rfl]
      · rw [gL_sI, gL_sL, if_pos rfl]
        by_cases q : j = i
        · subst q; rw [vL_us, hA]; rfl
        · rw [vL_un q]; exact h5 j (by omega)
  unfold F_X7_findPieces
  rw [f_links hw hm, ob_s, bd_e]
  have m1 := hm.L48 (lk1_sm σ (sN σ) h)
  obtain ⟨h1, e, r⟩ := key (mP σ) FU_ 0 (gJ_ (sI_ (lk1 σ (sN σ) h) 467 0) 460) (sI_ (lk1 σ (sN σ) h) 467 0) (by omega) (by unfold FU_; omega) (by rw [gJ_sI, thM hw m1]; rfl) (fun a ha => links_Lk hw h a ha) rfl (fun j hj => by omega)
  refine ⟨h1, e, r, ?_⟩
  refine RepM.sm ?_ (w_X7_findPieces_14 _ _ _ e) (by decide)
  exact m1.sm (sm_I (k := 467) (wI := [467]) (wJ := []) (wA := []) (wL := []) (by decide) rfl sm_rf) (by decide)
theorem M_pieces {σ : Sg} {h : Hp} (hw : Wf σ) (hm : RepM σ h) : ∃ h1, F_X7_pieces h = some (nI (mP σ), h1) := by
  obtain ⟨h1, e, r, m⟩ := f_findPieces hw hm
  unfold F_X7_pieces
  rw [e, ob_s, r.2.1]
  exact ⟨h1, rfl⟩
/-! which piece a brick is in -/
theorem pc_ix {σ : Sg} (hw : Wf σ) {b : Nat} (hb : sTh σ b = true) : ∃ i, i < mP σ ∧ tb (pcN σ i) b = true ∧ ∀ j, j < i → tb (pcN σ j) b = false := by
  obtain ⟨g1, g2, g3⟩ := mP_r hw
  have key : ∀ p i, p + i = mP σ → tb (rst σ (thI σ) i) b = true → (∀ j, j < i → tb (pcN σ j) b = false) → ∃ i, i < mP σ ∧ tb (pcN σ i) b = true ∧ ∀ j, j < i → tb (pcN σ j) b = false := by
    intro p
    induction p with
    | zero =>
      intro i hp hr _
      rw [show i = mP σ by omega, g2, tb_0] at hr; cases hr
    | succ p ih =>
      intro i hp hr hj
      cases q : tb (pcN σ i) b with
      | true => exact ⟨i, by omega, q, hj⟩
      | false =>
        refine ih (i + 1) (by omega) ?_ (fun j hj2 => ?_)
        · rw [rst]; unfold cutP; rw [tb_min, hr]
          show (true && !tb (pcN σ i) b) = true
          rw [q]; rfl
        · by_cases q2 : j = i
          · rw [q2]; exact q
          · exact hj j (by omega)
  exact key (mP σ) 0 (by omega) (by rw [rst, tb_thI hw]; exact hb) (fun j hj => by omega)
theorem f_numberOfPiece {σ : Sg} {h : Hp} (hw : Wf σ) (hc : RepC σ h) {b i : Nat} (hb : b < 40) (hi : i < mP σ) (h1 : tb (pcN σ i) b = true) (h2 : ∀ j, j < i → tb (pcN σ j) b = false) : F_X4_numberOfPiece (nI b) h = some (nI i) := by
  obtain ⟨g1, g2, g3⟩ := mP_r hw
  unfold F_X4_numberOfPiece F_X2_there
  rw [ob_s, thC hw hc]
  refine lp_FU (fun n j => F_X4_numberOfPiece_14 n (nI b) (rst σ (thI σ) j) (nI j) (nI j) h) _ i (by omega) (fun n j hj => ?_) (fun n => ?_)
  · show F_X4_numberOfPiece_14 (n + 1) _ _ _ _ _ = _
    rw [F_X4_numberOfPiece_14, if_neg (show ¬ (40 : Int32) ≤ nI j from (nI_ge (by omega) (by decide) : ¬ nI 40 ≤ nI j)), if_neg (g3 j (by omega)), f_reach hw hc, ob_s, if_neg (fun q => by
      have := (lu1_1 _ (by omega)).mp q
      have e := h2 j hj
      unfold pcN pc1 at e
      rw [e] at this; cases this), bd_e, show nI j + 1 = nI (j + 1) from nI_add j 1]; rfl
  · show F_X4_numberOfPiece_14 (n + 1) _ _ _ _ _ = _
    rw [F_X4_numberOfPiece_14, if_neg (show ¬ (40 : Int32) ≤ nI i from (nI_ge (by omega) (by decide) : ¬ nI 40 ≤ nI i)), if_neg (g3 i hi), f_reach hw hc, ob_s, if_pos ((lu1_1 _ (by omega)).mpr (by unfold pcN pc1 at h1; exact h1))]
theorem f_pieceOfBrick {σ : Sg} {h : Hp} (hw : Wf σ) (hf : FP σ h) {b i : Nat} (hb : b < 40) (hi : i < mP σ) (h1 : tb (pcN σ i) b = true) (h2 : ∀ j, j < i → tb (pcN σ j) b = false) : F_X7_pieceOfBrick (nI b) h = some (nI i) := by
  obtain ⟨g1, g2, g3⟩ := mP_r hw
  unfold F_X7_pieceOfBrick
  refine lp_FU (fun n j => F_X7_pieceOfBrick_2 n (nI b) (nI j) h) _ i (by omega) (fun n j hj => ?_) (fun n => ?_)
  · show F_X7_pieceOfBrick_2 (n + 1) _ _ _ = _
    rw [F_X7_pieceOfBrick_2, rL_n _ 53 40 _ (by omega) (by decide), hf.2.2 j (by omega), if_pos ((la1_0 _ (by omega)).mpr (h2 j hj)), show nI j + 1 = nI (j + 1) from nI_add j 1]
  · show F_X7_pieceOfBrick_2 (n + 1) _ _ _ = _
    rw [F_X7_pieceOfBrick_2, rL_n _ 53 40 _ (by omega) (by decide), hf.2.2 i hi, if_neg (fun q => by have := (la1_0 _ (by omega)).mp q; rw [h1] at this; cases this)]
