/-! ===== counts ===== -/
theorem rst_no {σ : Sg} (A : Int64) {b j : Nat} : ∀ i, j < i → tb (rst σ A i) b = true → tb (pc1 σ (rst σ A j)) b = false
  | 0, hj, _ => by omega
  | i + 1, hj, h => by
    rw [rst] at h; unfold cutP at h
    rw [tb_min, Bool.and_eq_true] at h
    by_cases q : j = i
    · subst q
      have := h.2
      cases r : tb (pc1 σ (rst σ A j)) b with
      | false => rfl
      | true => rw [r] at this; cases this
    · exact rst_no A i (by omega) h.1
theorem pixN_of {σ : Sg} (hw : Wf σ) {b i : Nat} (hi : i ≤ 40) (h : tb (pcN σ i) b = true) : pixN σ b = i :=
  pix_r h (fun j hj => rst_no (thI σ) i hj (pc1_sub hw (bl_rst (bl_th' hw) i) h)) 40 0 (by omega) (by omega)
theorem bsum_cut {σ : Sg} (hw : Wf σ) {A : Int64} (hA : bl A 40) (f : Nat → Nat) : bsum f A = bsum f (pc1 σ A) + bsum f (cutP σ A) := by
  unfold bsum
  rw [← sumN_g]
  refine sumN_c (fun i _ => ?_)
  unfold cutP
  rw [tb_min]
  have := fun q => pc1_sub hw hA (c := i) q
  cases q1 : tb A i <;> cases q2 : tb (pc1 σ A) i
  · rfl
  · rw [q1, q2] at this; cases this rfl
  · simp
  · simp
theorem sum_rst {σ : Sg} (hw : Wf σ) (f : Nat → Nat) : ∀ i, sumN (fun j => bsum f (pcN σ j)) i + bsum f (rst σ (thI σ) i) = bsum f (thI σ)
  | 0 => by rw [sumN, Nat.zero_add]; rfl
  | i + 1 => by
    have ih := sum_rst hw f i
    have e := bsum_cut (σ := σ) hw (bl_rst (σ := σ) (bl_th' hw) i) f
    rw [sumN, rst]
    unfold pcN at *
    omega
theorem sum_pc {σ : Sg} (hw : Wf σ) (f : Nat → Nat) : sumN (fun j => bsum f (pcN σ j)) (mP σ) = bsum f (thI σ) := by
  have := sum_rst hw f (mP σ)
  rw [(mP_r hw).2.1, bsum_0] at this
  exact this
theorem f_countFloating {σ : Sg} {h : Hp} (hw : Wf σ) (hc : RepC σ h) : F_X4_countFloating h = some (nI (sumN (fun i => b1n (flo σ (pcN σ i))) (mP σ))) := by
  obtain ⟨g1, g2, g3⟩ := mP_r hw
  unfold F_X4_countFloating F_X2_there
  rw [ob_s, thC hw hc]
  refine lp_FU (fun n j => F_X4_countFloating_13 n (rst σ (thI σ) j) (nI (sumN (fun i => b1n (flo σ (pcN σ i))) j)) (nI j) h) _ (mP σ) (by omega) (fun n j hj => ?_) (fun n => ?_)
  · show F_X4_countFloating_13 (n + 1) _ _ _ _ = _
    rw [F_X4_countFloating_13, if_neg (show ¬ (40 : Int32) ≤ nI j from (nI_ge (by omega) (by decide) : ¬ nI 40 ≤ nI j)), if_neg (g3 j hj), f_reach hw hc, ob_s, bd_e]
    unfold F_X4_countFloating_58
    show ((F_X4_floats (pcN σ j) h).bind _) = _
    rw [C_floats hw hc (pcN_th hw j), ob_s, show nI j + 1 = nI (j + 1) from nI_add j 1, sumN]
    cases flo σ (pcN σ j) with
    | false => rw [if_pos b0_]; rfl
    | true => rw [if_neg b1_, show nI (sumN (fun i => b1n (flo σ (pcN σ i))) j) + 1 = nI (sumN (fun i => b1n (flo σ (pcN σ i))) j + 1) from nI_add _ 1]; rfl
  · show F_X4_countFloating_13 (n + 1) _ _ _ _ = _
    rw [F_X4_countFloating_13, if_pos g2]
    split <;> rfl
theorem M_count4 {σ : Sg} {h : Hp} (hw : Wf σ) (hm : RepM σ h) (hf : FP σ h) : F_X7_count_192 FU_ 0 0 h = some (nI (sumN (fun i => b1n (flo σ (pcN σ i))) (mP σ)), h) := by
  obtain ⟨g1, g2, g3⟩ := mP_r hw
  refine lp_FU (fun n j => F_X7_count_192 n (nI (sumN (fun i => b1n (flo σ (pcN σ i))) j)) (nI j) h) _ (mP σ) (by omega) (fun n j hj => ?_) (fun n => ?_)
  · show F_X7_count_192 (n + 1) _ _ _ = _
    rw [F_X7_count_192, hf.2.1, if_neg (nI_ge hj (by omega)), rL_n _ 53 40 _ (by omega) (by decide), hf.2.2 j hj, M_floats hw hm (bl_pcN hw j), ob_s]
    unfold F_X7_count_219
    rw [show nI j + 1 = nI (j + 1) from nI_add j 1, sumN]
    cases flo σ (pcN σ j) with
    | false => rw [if_pos b0_, show nI (sumN (fun i => b1n (flo σ (pcN σ i))) j) + 0 = nI (sumN (fun i => b1n (flo σ (pcN σ i))) j + 0) from nI_add _ 0]; rfl
    | true => rw [if_neg b1_, show nI (sumN (fun i => b1n (flo σ (pcN σ i))) j) + 1 = nI (sumN (fun i => b1n (flo σ (pcN σ i))) j + 1) from nI_add _ 1]; rfl
  · show F_X7_count_192 (n + 1) _ _ _ = _
    rw [F_X7_count_192, hf.2.1, if_pos (nI_le (Nat.le_refl _) (by omega))]
/-! keys -/
def kyS (σ : Sg) : Nat := bsum (fun b => b1n (kyN σ b)) (thI σ)
theorem f_countKeys {σ : Sg} {h : Hp} (hw : Wf σ) (hc : RepC σ h) : F_X4_countKeys h = some (nI (kyS σ)) := by
  have h40 := hw.1
  have e : kyS σ = sumN (fun i => if tb (thI σ) i = true then b1n (kyN σ i) else 0) (sN σ) := by
    unfold kyS bsum
    rw [show 64 = sN σ + (64 - sN σ) by omega, sumN_ext0 (fun i hi => by rw [bl_th hw i hi]; rfl)]
  rw [e]
  unfold F_X4_countKeys
  refine lp_FU (fun n i => F_X4_countKeys_4 n (nI (sumN (fun i => if tb (thI σ) i = true then b1n (kyN σ i) else 0) i)) (nI i) h) _ (sN σ) (by omega) (fun n i hi => ?_) (fun n => ?_)
  · show F_X4_countKeys_4 (n + 1) _ _ _ = _
    rw [F_X4_countKeys_4]
    unfold F_X2_ever F_X4_countKeys_49 F_X2_there
    rw [ob_s, hc.2.2.1, if_neg (nI_ge hi (by omega)), f_isThereC hw hc hi, ob_s, show nI i + 1 = nI (i + 1) from nI_add i 1, sumN, tb_thI hw]
    cases ht : sTh σ i with
    | false => rw [if_pos b0_]; rfl
    | true =>
      obtain ⟨p1, p2, p3⟩ := pixN_r hw ht
      rw [if_neg b1_, ob_s, thC hw hc, f_pieceWith hw hc ht p2, ob_s, f_isKey hw hc, ob_s, if_pos (show true = true from rfl)]
      show (if bi_ (kyN σ i) = 0 then _ else _) = _
      cases kyN σ i with
      | false => rw [if_pos b0_]; rfl
      | true => rw [if_neg b1_, show nI (sumN (fun i => if tb (thI σ) i = true then b1n (kyN σ i) else 0) i) + 1 = nI (sumN (fun i => if tb (thI σ) i = true then b1n (kyN σ i) else 0) i + 1) from nI_add _ 1]; rfl
  · show F_X4_countKeys_4 (n + 1) _ _ _ = _
    rw [F_X4_countKeys_4]
    unfold F_X2_ever
    rw [ob_s, hc.2.2.1, if_pos (nI_le (Nat.le_refl _) (by omega))]
theorem M_count133 {σ : Sg} {h : Hp} (hw : Wf σ) (hm : RepM σ h) (hf : FP σ h) {i : Nat} (hi : i < mP σ) (k : Int32 → Int32 → Hp → Option (Int32 × Hp)) : ∀ m n c x, (∀ b, tb x b = true → tb (pcN σ i) b = true) → pcL x = m → m < n → F_X7_count_133 n k (nI c) (nI i) x h = k (nI (c + bsum (fun b => b1n (kyN σ b)) x)) (nI i) h := by
  have g40 := (mP_r hw).1
  intro m
  induction m with
  | zero =>
    intro n c x hx hp hn
    obtain ⟨n, rfl⟩ : ∃ k, n = k + 1 := ⟨n - 1, by omega⟩
    have h0 := pcL_z hp
    subst h0
    rw [F_X7_count_133, if_pos rfl, bsum_0]; rfl
  | succ m ih =>
    intro n c x hx hp hn
    obtain ⟨n, rfl⟩ : ∃ k, n = k + 1 := ⟨n - 1, by omega⟩
    have h0 : ¬ x = 0 := fun e => by rw [e, pcL_0] at hp; omega
    obtain ⟨b, hb⟩ := lw_ex h0
    have hbp := hx b hb.2.1
    have hbN := hw.2.2.2.1 b (pcN_th hw i b hbp)
    have hpp := pcL_pop hb
    have hk := wk_le σ (pcN σ i) b
    have ii := fun c => ih n c (x &&& (x - 1)) (fun d hd => hx d (by rw [tb_and, Bool.and_eq_true] at hd; exact hd.1)) (by omega) (by omega)
    rw [F_X7_count_133, if_neg h0, rL_n _ 53 40 _ (by omega) (by decide), hf.2.2 i hi, f_first hb, ob_s, f_weakAt hw hm hf.1 (bl_pcN hw i) hbN, ob_s, bsum_pop hb]
    unfold F_X7_count_164
    rw [bd_e]
    have ek : kyN σ b = !decide (pc1 σ (outP (pcN σ i) b) = outP (pcN σ i) b) := by unfold kyN; rw [pixN_of hw (by omega) hbp]
    rw [ek]
    by_cases q : pc1 σ (outP (pcN σ i) b) = outP (pcN σ i) b
    · rw [if_pos q, if_pos (by decide), decide_eq_true q, show nI c + 0 = nI c from nI_add c 0, show b1n (!true) = 0 from rfl, Nat.zero_add]; exact ii c
    · rw [if_neg q, if_neg (i_n0 (by omega)), decide_eq_false q, show nI c + 1 = nI (c + 1) from nI_add c 1, show b1n (!false) = 1 from rfl, ← Nat.add_assoc]; exact ii (c + 1)
theorem M_count3 {σ : Sg} {h : Hp} (hw : Wf σ) (hm : RepM σ h) (hf : FP σ h) : F_X7_count_117 FU_ 0 0 h = some (nI (kyS σ), h) := by
  obtain ⟨g1, g2, g3⟩ := mP_r hw
  unfold kyS
  rw [← sum_pc hw]
  refine lp_FU (fun n j => F_X7_count_117 n (nI (sumN (fun j => bsum (fun b => b1n (kyN σ b)) (pcN σ j)) j)) (nI j) h) _ (mP σ) (by omega) (fun n j hj => ?_) (fun n => ?_)
  · show F_X7_count_117 (n + 1) _ _ _ = _
    have h64 : pcL (pcN σ j) ≤ 64 := pcL_le (Nat.le_refl _) (fun i hi => tb_big hi)
    rw [F_X7_count_117, hf.2.1, if_neg (nI_ge hj (by omega)), rL_n _ 53 40 _ (by omega) (by decide), hf.2.2 j hj, M_count133 hw hm hf hj _ _ FU_ _ _ (fun _ q => q) rfl (by unfold FU_; omega)]
    unfold F_X7_count_178
    rw [show nI j + 1 = nI (j + 1) from nI_add j 1, sumN]
  · show F_X7_count_117 (n + 1) _ _ _ = _
    rw [F_X7_count_117, hf.2.1, if_pos (nI_le (Nat.le_refl _) (by omega))]
