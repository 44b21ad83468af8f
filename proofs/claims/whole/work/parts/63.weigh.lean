/-! ===== floats, weight, studs between ===== -/
def grI (σ : Sg) : Int64 := ofB (fun b => decide (sZ σ b = 0)) 40
def flo (σ : Sg) (x : Int64) : Bool := decide (x &&& grI σ = 0)
theorem flo_t {σ : Sg} {x : Int64} (hx : bl x 40) : flo σ x = true ↔ ∀ i, tb x i = true → sZ σ i ≠ 0 := by
  unfold flo
  rw [decide_eq_true_iff, tb_z]
  constructor
  · intro h i hi q
    have h40 : i < 40 := by
      rcases Nat.lt_or_ge i 40 with r | r
      · exact r
      · rw [hx i r] at hi; cases hi
    have := h i (by omega)
    unfold grI at this
    rw [tb_and, tb_ofB _ _ _ (by decide), hi, decide_eq_true h40, decide_eq_true q] at this
    cases this
  · intro h i _
    unfold grI
    rw [tb_and, tb_ofB _ _ _ (by decide)]
    cases q : tb x i with
    | false => rfl
    | true => rw [decide_eq_false (h i q), Bool.and_false]; rfl
theorem flo_pop {σ : Sg} {x : Int64} (hx : bl x 40) {b : Nat} (hb : lw x b) : flo σ x = (!decide (sZ σ b = 0) && flo σ (x &&& (x - 1))) := by
  have hx' : bl (x &&& (x - 1)) 40 := bl_and hx
  have e : flo σ x = true ↔ (!decide (sZ σ b = 0) && flo σ (x &&& (x - 1))) = true := by
    rw [flo_t hx, Bool.and_eq_true, flo_t hx', Bool.not_eq_true', decide_eq_false_iff_not]
    constructor
    · intro h
      refine ⟨h b hb.2.1, fun i hi => h i ?_⟩
      rw [tb_and, Bool.and_eq_true] at hi; exact hi.1
    · rintro ⟨h1, h2⟩ i hi
      by_cases q : i = b
      · rw [q]; exact h1
      · exact h2 i (by rw [tb_pop' hb, hi, decide_eq_false q]; rfl)
  cases q : (!decide (sZ σ b = 0) && flo σ (x &&& (x - 1))) with
  | true => exact e.mpr q
  | false => exact Bool.eq_false_iff.mpr (fun q2 => by have := e.mp q2; rw [q] at this; cases this)
theorem C_floats {σ : Sg} {h : Hp} (hw : Wf σ) (hc : RepC σ h) {x : Int64} (hx : ∀ b, tb x b = true → sTh σ b = true) : F_X4_floats x h = some (bi_ (flo σ x)) := by
  have e : x &&& gJ_ h 140 = x &&& grI σ := by
    refine tb_ext (fun i _ => ?_)
    unfold grI
    rw [tb_and, tb_and, hc.2.2.2.2.2.2.2.1, tb_ofB _ _ _ (by decide)]
    cases q : tb x i with
    | false => rfl
    | true =>
      have h1 := hx i q
      have := hw.2.2.2.1 i h1
      have := hw.1
      rw [h1, decide_eq_true (by omega : i < 40)]
  unfold F_X4_floats F_X2_ground flo
  rw [ob_s, e]
  by_cases q : x &&& grI σ = 0
  · rw [if_pos q, decide_eq_true q]; rfl
  · rw [if_neg q, decide_eq_false q]; rfl
theorem M_floats {σ : Sg} {h : Hp} (hw : Wf σ) (hm : RepM σ h) {x : Int64} (hx : bl x (sN σ)) : F_X7_floats x h = some (bi_ (flo σ x)) := by
  have h40 := hw.1
  have key : ∀ m n f x, bl x (sN σ) → pcL x = m → m < n → F_X7_floats_5 n (bi_ f) x h = some (bi_ (f && flo σ x)) := by
    intro m
    induction m with
    | zero =>
      intro n f x hx hp hn
      obtain ⟨n, rfl⟩ : ∃ k, n = k + 1 := ⟨n - 1, by omega⟩
      have h0 := pcL_z hp
      subst h0
      have : flo σ 0 = true := (flo_t (bl_0 _)).mpr (fun i hi => by rw [tb_0] at hi; cases hi)
      rw [F_X7_floats_5, if_pos rfl, bz_bi, this, Bool.and_true]
    | succ m ih =>
      intro n f x hx hp hn
      obtain ⟨n, rfl⟩ : ∃ k, n = k + 1 := ⟨n - 1, by omega⟩
      have h0 : ¬ x = 0 := fun e => by rw [e, pcL_0] at hp; omega
      obtain ⟨b, hb⟩ := lw_ex h0
      have hbN := lw_lt hb hx
      have hz := (hw.2.2.1 b hbN).2.2.2.2.1
      have hpp := pcL_pop hb
      have i0 := ih n false (x &&& (x - 1)) (bl_and hx) (by omega) (by omega)
      have i1 := ih n true (x &&& (x - 1)) (bl_and hx) (by omega) (by omega)
      rw [F_X7_floats_5, if_neg h0]
      unfold F_X7_floats_33 F_X7_floats_34
      rw [bd_e, flo_pop (bl_mono hx h40) hb]
      cases f with
      | false => rw [if_pos b0_]; exact i0
      | true =>
        rw [if_neg b1_, f_first hb, ob_s, rA_n _ 46 40 _ (by omega) (by decide), (hm.2.2.2.1 b hbN).2.2.2.2.1, bd_e]
        by_cases q : sZ σ b = 0
        · rw [if_pos ((nI_le0 (by omega)).mpr q), decide_eq_true q]; exact i0
        · rw [if_neg (fun r => q ((nI_le0 (by omega)).mp r)), decide_eq_false q]; exact i1
  have h64 : pcL x ≤ 64 := pcL_le (Nat.le_refl _) (fun i hi => tb_big hi)
  exact key (pcL x) FU_ true x hx rfl (by unfold FU_; omega)
def wt (σ : Sg) (x : Int64) : Nat := bsum (fun b => sLx σ b * sLy σ b) x
theorem M_weight {σ : Sg} {h : Hp} (hw : Wf σ) (hm : RepM σ h) {x : Int64} (hx : bl x (sN σ)) : F_X7_weight x h = some (nI (wt σ x)) := by
  have key : ∀ m n c x, bl x (sN σ) → pcL x = m → m < n → F_X7_weight_5 n (nI c) x h = some (nI (c + wt σ x)) := by
    intro m
    induction m with
    | zero =>
      intro n c x hx hp hn
      obtain ⟨n, rfl⟩ : ∃ k, n = k + 1 := ⟨n - 1, by omega⟩
      have h0 := pcL_z hp
      subst h0
      unfold wt
      rw [F_X7_weight_5, if_pos rfl, bsum_0]; rfl
    | succ m ih =>
      intro n c x hx hp hn
      obtain ⟨n, rfl⟩ : ∃ k, n = k + 1 := ⟨n - 1, by omega⟩
      have h0 : ¬ x = 0 := fun e => by rw [e, pcL_0] at hp; omega
      obtain ⟨b, hb⟩ := lw_ex h0
      have hbN := lw_lt hb hx
      have hpp := pcL_pop hb
      rw [F_X7_weight_5, if_neg h0, f_first hb, ob_s, f_cells hw hm hbN, ob_s, bd_e, nI_add, ih n _ (x &&& (x - 1)) (bl_and hx) (by omega) (by omega)]
      unfold wt
      rw [bsum_pop hb, Nat.add_assoc]
  have h64 : pcL x ≤ 64 := pcL_le (Nat.le_refl _) (fun i hi => tb_big hi)
  have := key (pcL x) FU_ 0 x hx rfl (by unfold FU_; omega)
  rw [Nat.zero_add] at this; exact this
theorem C_weight {σ : Sg} {h : Hp} (hw : Wf σ) (hc : RepC σ h) {x : Int64} (hx : bl x (sN σ)) : F_X4_weight x h = some (nI (wt σ x)) := by
  have h40 := hw.1
  have key : ∀ m n c i x, bl x (sN σ) → pcL x = m → m + i ≤ 40 → m < n → F_X4_weight_8 n (nI c) x (nI i) h = some (nI (c + wt σ x)) := by
    intro m
    induction m with
    | zero =>
      intro n c i x hx hp hi hn
      obtain ⟨n, rfl⟩ : ∃ k, n = k + 1 := ⟨n - 1, by omega⟩
      have h0 := pcL_z hp
      subst h0
      unfold wt
      rw [F_X4_weight_8, bsum_0, if_pos rfl]
      split <;> rfl
    | succ m ih =>
      intro n c i x hx hp hi hn
      obtain ⟨n, rfl⟩ : ∃ k, n = k + 1 := ⟨n - 1, by omega⟩
      have h0 : ¬ x = 0 := fun e => by rw [e, pcL_0] at hp; omega
      obtain ⟨b, hb⟩ := lw_ex h0
      have hbN := lw_lt hb hx
      have hpp := pcL_pop hb
      rw [F_X4_weight_8, if_neg (show ¬ (40 : Int32) ≤ nI i from (nI_ge (by omega) (by decide) : ¬ nI 40 ≤ nI i)), if_neg h0, f_least hb, ob_s, f_sizeOf hw hc hbN, ob_s, bd_e, nI_add, show nI i + 1 = nI (i + 1) from nI_add i 1, ih n _ (i + 1) (x &&& (x - 1)) (bl_and hx) (by omega) (by omega) (by omega)]
      unfold wt
      rw [bsum_pop hb, Nat.add_assoc]
  have h64 : pcL x ≤ 40 := pcL_le (by decide) (bl_mono hx h40)
  have := key (pcL x) FU_ 0 0 x hx rfl (by omega) (by unfold FU_; omega)
  rw [Nat.zero_add] at this; exact this
theorem C_between {σ : Sg} {h : Hp} (hw : Wf σ) (hc : RepC σ h) {x : Int64} (hx : bl x (sN σ)) {a : Nat} (ha : a < sN σ) : F_X4_studsBetween (nI a) x h = some (nI (bsum (stN σ a) x)) := by
  have h40 := hw.1
  have e : bsum (stN σ a) x = sumN (fun i => if tb x i = true then stN σ a i else 0) (sN σ) := by
    unfold bsum
    rw [show 64 = sN σ + (64 - sN σ) by omega, sumN_ext0 (fun i hi => by rw [hx i hi]; rfl)]
  rw [e]
  unfold F_X4_studsBetween
  refine lp_FU (fun n i => F_X4_studsBetween_6 n (nI a) x (nI (sumN (fun i => if tb x i = true then stN σ a i else 0) i)) (nI i) h) _ (sN σ) (by omega) (fun n i hi => ?_) (fun n => ?_)
  · show F_X4_studsBetween_6 (n + 1) _ _ _ _ _ = _
    unfold F_X2_ever at *
    rw [F_X4_studsBetween_6]
    unfold F_X2_ever F_X4_studsBetween_44
    rw [ob_s, hc.2.2.1, if_neg (nI_ge hi (by omega)), show nI i + 1 = nI (i + 1) from nI_add i 1, sumN]
    by_cases q : tb x i = true
    · rw [if_pos ((lu1_1 x (by omega)).mpr q), if_pos q, f_shared hw hc ha hi, ob_s, nI_add]
    · rw [if_neg (fun r => q ((lu1_1 x (by omega)).mp r)), if_neg q]; rfl
  · show F_X4_studsBetween_6 (n + 1) _ _ _ _ _ = _
    rw [F_X4_studsBetween_6]
    unfold F_X2_ever
    rw [ob_s, hc.2.2.1, if_pos (nI_le (Nat.le_refl _) (by omega))]
