/-! ===== the order: the class, around the walk ===== -/
theorem or_z (x : Int64) : x ||| 0 = x := tb_ext (fun i _ => by rw [tb_or, tb_0, Bool.or_false])
theorem fp_z {σ : Sg} {h : Hp} (hw : Wf σ) (hc : RepC σ h) {a b : Nat} (ha : a < sN σ) (hb : b < sN σ) : gL_ h 18 a &&& gL_ h 18 b = 0 ↔ ¬ (0 < ovl (sX σ a) (sLx σ a) (sX σ b) (sLx σ b) ∧ 0 < ovl (sY σ a) (sLy σ a) (sY σ b) (sLy σ b)) := by
  obtain ⟨a1, a2, a3, a4, a5, a6⟩ := hw.2.2.1 a ha
  obtain ⟨b1, b2, b3, b4, b5, b6⟩ := hw.2.2.1 b hb
  have e : pcL (gL_ h 18 a &&& gL_ h 18 b) = ovl (sX σ a) (sLx σ a) (sX σ b) (sLx σ b) * ovl (sY σ a) (sLy σ a) (sY σ b) (sLy σ b) := by
    unfold pcL
    rw [← rect_cnt a3 a4 b3 b4]
    refine sumN_c (fun s _ => ?_)
    rw [tb_and, hc.2.2.2.2.2.2.2.2.1 a ha, hc.2.2.2.2.2.2.2.2.1 b hb]
  constructor
  · intro q ⟨w1, w2⟩
    rw [q, pcL_0] at e
    have := Nat.mul_pos w1 w2
    omega
  · intro q
    refine pcL_z ?_
    rw [e]
    rcases Nat.eq_zero_or_pos (ovl (sX σ a) (sLx σ a) (sX σ b) (sLx σ b)) with w | w
    · rw [w, Nat.zero_mul]
    · rcases Nat.eq_zero_or_pos (ovl (sY σ a) (sLy σ a) (sY σ b) (sLy σ b)) with v | v
      · rw [v, Nat.mul_zero]
      · exact absurd ⟨w, v⟩ q
theorem C_above {σ : Sg} {h : Hp} (hw : Wf σ) (hc : RepC σ h) {c : Nat} (hcN : c < sN σ) : F_X2_coveringFromAbove (nI c) (thI σ) h = some (abI σ c) := by
  have h40 := hw.1
  have e : abI σ c = ofB (fun o => sTh σ o && abv σ o c) (sN σ) := tb_ext (fun i _ => by
    rw [tb_abI hw, tb_ofB _ _ _ (by omega)]
    by_cases q : i < sN σ
    · rw [decide_eq_true q]; rfl
    · rw [decide_eq_false q]
      cases w : sTh σ i with
      | false => rfl
      | true => exact absurd (hw.2.2.2.1 i w) q)
  rw [e]
  unfold F_X2_coveringFromAbove
  refine lp_FU (fun n i => F_X2_coveringFromAbove_6 n (nI c) (thI σ) (ofB (fun o => sTh σ o && abv σ o c) i) (nI i) h) _ (sN σ) (by omega) (fun n i hi => ?_) (fun n => ?_)
  · show F_X2_coveringFromAbove_6 (n + 1) _ _ _ _ _ = _
    rw [F_X2_coveringFromAbove_6, hc.2.2.1, if_neg (show ¬ nI (sN σ) ≤ nI i from nI_ge hi (by omega)), f_exists hc, n_inN hcN (by omega), ob_s, if_neg b1_]
    unfold F_X2_coveringFromAbove_78
    rw [show nI i + 1 = nI (i + 1) from nI_add i 1, rA_n _ 16 40 _ (by omega) (by decide), rA_n _ 16 40 _ (by omega) (by decide), (hc.2.2.2.1 i hi).2.2.2.2.1, (hc.2.2.2.1 c hcN).2.2.2.2.1, rL_n _ 18 40 _ (by omega) (by decide), rL_n _ 18 40 _ (by omega) (by decide), bd_e]
    have hzi := (hw.2.2.1 i hi).2.2.2.2.1
    have hzc := (hw.2.2.1 c hcN).2.2.2.2.1
    show _ = F_X2_coveringFromAbove_6 n (nI c) (thI σ) (ofB (fun o => sTh σ o && abv σ o c) (i + 1)) (nI (i + 1)) h
    rw [ofB]
    cases ht : sTh σ i with
    | false =>
      rw [if_neg (fun q => by have := (lu1_1 _ (by omega)).mp q; rw [tb_thI hw, ht] at this; cases this), Bool.false_and, if_neg (by decide), or_z]
    | true =>
      rw [if_pos ((lu1_1 _ (by omega)).mpr (by rw [tb_thI hw]; exact ht)), Bool.true_and]
      unfold abv
      by_cases hz : sZ σ i ≤ sZ σ c
      · rw [if_pos ((i_le (by omega) (by omega)).mpr hz), if_neg (fun q => by have := of_decide_eq_true q; omega), or_z]
      · rw [if_neg (fun q => hz ((i_le (by omega) (by omega)).mp q))]
        by_cases hf : gL_ h 18 i &&& gL_ h 18 c = 0
        · rw [if_pos hf, if_neg (fun q => (fp_z hw hc hi hcN).mp hf (of_decide_eq_true q).2), or_z]
        · rw [if_neg hf, if_pos (decide_eq_true ⟨by omega, by
            rcases Classical.em (0 < ovl (sX σ i) (sLx σ i) (sX σ c) (sLx σ c) ∧ 0 < ovl (sY σ i) (sLy σ i) (sY σ c) (sLy σ c)) with w | w
            · exact w
            · exact absurd ((fp_z hw hc hi hcN).mpr w) hf⟩)]
  · show F_X2_coveringFromAbove_6 (n + 1) _ _ _ _ _ = _
    rw [F_X2_coveringFromAbove_6, hc.2.2.1, if_pos ((i_le (by omega) (by omega)).mpr (Nat.le_refl _))]
theorem C_coll {σ : Sg} (hw : Wf σ) (hN : nB σ ≤ 12) : ∀ q n i h, q + i = sN σ → q < n → RepC σ h → gI_ h 326 = nI (rk σ i) → (∀ c, c < i → sTh σ c = true → gA_ h 33 (rk σ c) = nI c ∧ gL_ h 34 (rk σ c) = abI σ c) → ∃ h1, F_X5_collectBricks_7 n (nI i) h = some h1 ∧ CO σ h1 := by
  have h40 := hw.1
  intro q
  induction q with
  | zero =>
    intro n i h hq hn hc e1 e2
    obtain ⟨n, rfl⟩ : ∃ j, n = j + 1 := ⟨n - 1, by omega⟩
    have e : i = sN σ := by omega
    subst e
    refine ⟨h, ?_, hc, e1, fun c hct => e2 c (hw.2.2.2.1 c hct) hct⟩
    rw [F_X5_collectBricks_7]
    unfold F_X2_ever
    rw [ob_s, hc.2.2.1, if_pos ((i_le (by omega) (by omega)).mpr (Nat.le_refl _))]
  | succ q ih =>
    intro n i h hq hn hc e1 e2
    obtain ⟨n, rfl⟩ : ∃ j, n = j + 1 := ⟨n - 1, by omega⟩
    have hi : i < sN σ := by omega
    rw [F_X5_collectBricks_7]
    unfold F_X2_ever
    rw [ob_s, hc.2.2.1, if_neg (show ¬ nI (sN σ) ≤ nI i from nI_ge hi (by omega)), f_isThereC hw hc hi, ob_s]
    unfold F_X5_collectBricks_82
    rw [show nI i + 1 = nI (i + 1) from nI_add i 1]
    cases ht : sTh σ i with
    | false =>
      rw [if_pos b0_]
      exact ih n (i + 1) h (by omega) (by omega) hc (by rw [e1, rk_s, ht]; rfl) (fun c hci hct => e2 c (by
        rcases Nat.lt_or_ge c i with w | w
        · exact w
        · have : c = i := by omega
          subst this; rw [ht] at hct; cases hct) hct)
    | true =>
      have hr := rk_nB hw ht
      rw [if_neg b1_, e1, if_neg (show ¬ (12 : Int32) ≤ nI (rk σ i) from (nI_ge (by omega) (by decide) : ¬ nI 12 ≤ nI (rk σ i))), wA_n _ 33 12 _ _ (by omega) (by decide)]
      have s1 : Sm [] [] [33] [] h (sA_ h 33 (rk σ i) (nI i)) := sm_A (k := 33) (by decide) rfl sm_rf
      have hc1 : RepC σ (sA_ h 33 (rk σ i) (nI i)) := hc.sm s1 (by decide)
      unfold F_X2_there
      rw [ob_s, thC hw hc1, C_above hw hc1 hi, ob_s, s1.1 326 (by decide), e1, wL_n _ 34 12 _ _ (by omega) (by decide), bd_e]
      have s2 : Sm [326] [] [33] [34] (sA_ h 33 (rk σ i) (nI i)) (sI_ (sL_ (sA_ h 33 (rk σ i) (nI i)) 34 (rk σ i) (abI σ i)) 326 (gI_ (sL_ (sA_ h 33 (rk σ i) (nI i)) 34 (rk σ i) (abI σ i)) 326 + 1)) := sm_L (k := 34) (by decide) rfl (sm_I (k := 326) (by decide) rfl sm_rf)
      have e326 : gI_ (sI_ (sL_ (sA_ h 33 (rk σ i) (nI i)) 34 (rk σ i) (abI σ i)) 326 (gI_ (sL_ (sA_ h 33 (rk σ i) (nI i)) 34 (rk σ i) (abI σ i)) 326 + 1)) 326 = nI (rk σ (i + 1)) := by
        rw [gI_sI, if_pos rfl]
        show gI_ h 326 + 1 = _
        rw [e1, rk_s, ht]; exact nI_add _ 1
      refine ih n (i + 1) _ (by omega) (by omega) (hc1.sm s2 (by decide)) e326 (fun c hci hct => ?_)
      show upd (gA_ h 33) (rk σ i) (nI i) (rk σ c) = nI c ∧ vp_updL (gL_ h 34) (rk σ i) (abI σ i) (rk σ c) = abI σ c
      by_cases w : c = i
      · subst w; rw [pk_us, vL_us]; exact ⟨rfl, rfl⟩
      · have : rk σ c ≠ rk σ i := fun u => w (rk_inj hct ht u)
        rw [pk_un this, vL_un this]
        exact e2 c (by omega) hct
theorem C_clear {σ : Sg} (hN : nB σ ≤ 12) (k : Hp → Option Hp) : ∀ q n x h, q + x = 2 ^ nB σ → q < n → CO σ h → (∀ m, m < x → gA_ h 36 m = 0) → ∃ h1, F_X5_findRow_35 n k (nI x) h = k h1 ∧ CO σ h1 ∧ (∀ m, m < 2 ^ nB σ → gA_ h1 36 m = 0) ∧ Sm [] [] [36] [] h h1 := by
  have h12 := two_le12 hN
  intro q
  induction q with
  | zero =>
    intro n x h hq hn hC h0
    obtain ⟨n, rfl⟩ : ∃ j, n = j + 1 := ⟨n - 1, by omega⟩
    have e : x = 2 ^ nB σ := by omega
    refine ⟨h, ?_, hC, fun m hm => h0 m (by omega), sm_rf⟩
    rw [F_X5_findRow_35, hC.2.1, sh1 _ (by omega), if_pos (show nI (2 ^ nB σ) ≤ nI x from (i_le (by omega) (by omega)).mpr (by omega))]
    split <;> rfl
  | succ q ih =>
    intro n x h hq hn hC h0
    obtain ⟨n, rfl⟩ : ∃ j, n = j + 1 := ⟨n - 1, by omega⟩
    rw [F_X5_findRow_35, hC.2.1, sh1 _ (by omega), if_neg (show ¬ (4096 : Int32) ≤ nI x from (nI_ge (by omega) (by decide) : ¬ nI 4096 ≤ nI x)), if_neg (show ¬ nI (2 ^ nB σ) ≤ nI x from nI_ge (by omega) (by omega)), wA_n _ 36 4096 _ _ (by omega) (by decide), show nI x + 1 = nI (x + 1) from nI_add x 1]
    have s1 : Sm [] [] [36] [] h (sA_ h 36 x 0) := sm_A (k := 36) (by decide) rfl sm_rf
    obtain ⟨h1, e, C1, z1, s2⟩ := ih n (x + 1) (sA_ h 36 x 0) (by omega) (by omega) (hC.sm (sm_C s1 (by decide) sm_rf)) (fun m hm => by
      show upd (gA_ h 36) x 0 m = 0
      by_cases w : m = x
      · subst w; rw [pk_us]
      · rw [pk_un w]; exact h0 m (by omega))
    exact ⟨h1, e, C1, z1, sm_C s1 (by decide) s2⟩
theorem popN_le (m : Nat) : ∀ N, popN N m ≤ N
  | 0 => Nat.le_refl _
  | N + 1 => by
    have := popN_le m N
    show popN N m + b1n (m.testBit N) ≤ N + 1
    cases m.testBit N
    · have : b1n false = 0 := rfl
      omega
    · have : b1n true = 1 := rfl
      omega
theorem popN_full {m : Nat} : ∀ N, popN N m = N → ∀ i, i < N → m.testBit i = true
  | 0, _, i, hi => by omega
  | N + 1, h, i, hi => by
    have h1 : popN N m + b1n (m.testBit N) = N + 1 := h
    have h2 := popN_le m N
    cases ht : m.testBit N with
    | false =>
      rw [ht] at h1
      have : b1n false = 0 := rfl
      omega
    | true =>
      rw [ht] at h1
      have : b1n true = 1 := rfl
      by_cases q : i = N
      · subst q; exact ht
      · exact popN_full N (by omega) i (by omega)
theorem rowM_sd {σ : Sg} (hw : Wf σ) : ∀ k m l, rowM σ (nB σ) k m = some l → popN (nB σ) m + k = nB σ → sdA σ 40 (putM σ m) = true → sdA σ 40 (thI σ) = true
  | 0, m, l, _, hp, hs => by
    have e : putM σ m = thI σ := tb_ext (fun i _ => by
      rw [tb_putM hw, tb_thI hw]
      cases ht : sTh σ i with
      | false => rfl
      | true => rw [popN_full (nB σ) (by omega) _ (rk_nB hw ht)]; rfl)
    rw [← e]; exact hs
  | k + 1, m, l, h, hp, hs => by
    rw [rowM_s] at h
    obtain ⟨i, -, hi, hr⟩ := fsO_of _ _ h
    unfold rowF at hr
    by_cases q : okM σ m i = true
    · rw [if_pos q] at hr
      cases hk : rowM σ (nB σ) k (m ||| 2 ^ i) with
      | none => rw [hk] at hr; cases hr
      | some l' =>
        unfold okM at q
        rw [Bool.and_eq_true, Bool.and_eq_true] at q
        have ht : m.testBit i = false := by
          cases w : m.testBit i with
          | false => rfl
          | true => rw [w] at q; cases q.1
        have := popN_in ht (nB σ)
        rw [if_pos (by omega)] at this
        exact rowM_sd hw k _ l' hk (by omega) q.2.2
    · rw [if_neg q] at hr; cases hr
noncomputable def theRow (σ : Sg) : Option (List Nat) := rowM σ (nB σ) (nB σ) 0
def OCr (σ : Sg) (h : Hp) : Prop := match theRow σ with
  | some l => gI_ h 327 = nI (nB σ) ∧ RowIn (gA_ h 35) 0 l
  | none => gI_ h 327 = 0
theorem OCr_s {σ : Sg} {h : Hp} {l : List Nat} (e : theRow σ = some l) (h1 : gI_ h 327 = nI (nB σ)) (h2 : RowIn (gA_ h 35) 0 l) : OCr σ h := by unfold OCr; rw [e]; exact ⟨h1, h2⟩
theorem OCr_n {σ : Sg} {h : Hp} (e : theRow σ = none) (h1 : gI_ h 327 = 0) : OCr σ h := by unfold OCr; rw [e]; exact h1
theorem C_findRow {σ : Sg} {h : Hp} (hw : Wf σ) (hN : nB σ ≤ 12) (hc : RepC σ h) (hk : gI_ h 328 = 0 ∨ OCr σ h) : ∃ h1, F_X5_findRow h = some h1 ∧ OCr σ h1 ∧ RepC σ h1 ∧ gA_ h1 37 = gA_ h 37 := by
  have h40 := hw.1
  have h12 := two_le12 hN
  have key : ∃ h1, F_X5_findRow h = some h1 ∧ OCr σ h1 := by
    unfold F_X5_findRow
    by_cases q : gI_ h 328 = 0
    · rw [if_pos q, bd_e, bd_e]
      have s0 : Sm [327, 328] [] [] [] h (sI_ (sI_ h 328 1) 327 0) := sm_I (k := 328) (by decide) rfl (sm_I (k := 327) (by decide) rfl sm_rf)
      have hc0 : RepC σ (sI_ (sI_ h 328 1) 327 0) := hc.sm s0 (by decide)
      obtain ⟨h2, e2, s2⟩ := C_isSound hw hc0
      have z2 : gI_ h2 327 = 0 := by rw [s2.1 327 (by decide)]; rfl
      have hc2 : RepC σ h2 := hc0.sm s2 (by decide)
      rw [e2, ob_s]
      dsimp only
      cases hsd : sdA σ 40 (thI σ) with
      | false =>
        rw [if_pos b0_]
        refine ⟨h2, rfl, OCr_n ?_ z2⟩
        cases ht : theRow σ with
        | none => rfl
        | some l =>
          have := rowM_sd hw _ 0 l ht (by rw [popN_0]; omega) (by rw [putM_0 hw]; exact sdA_0 σ 40)
          rw [hsd] at this; cases this
      | true =>
        rw [if_neg b1_]
        unfold F_X5_collectBricks
        rw [bd_e]
        have s3 : Sm [326] [] [33] [34] h2 (sI_ h2 326 0) := sm_I (k := 326) (by decide) rfl sm_rf
        obtain ⟨h4, e4, C4⟩ := C_coll hw hN (sN σ) FU_ 0 (sI_ h2 326 0) (by omega) (by unfold FU_; omega) (hc2.sm s3 (by decide)) (by rw [gI_sI, if_pos rfl]; rfl) (fun c hc0 => by omega)
        have s4 := w_X5_collectBricks_7 _ _ _ e4
        rw [show ((F_X5_collectBricks_7 FU_ 0 (sI_ h2 326 0)).bind fun h30 => F_X5_findRow_35 FU_ F_X5_findRow_65 0 h30) = F_X5_findRow_35 FU_ F_X5_findRow_65 0 h4 from by
          have e4' : F_X5_collectBricks_7 FU_ 0 (sI_ h2 326 0) = some h4 := e4
          rw [e4', ob_s]]
        obtain ⟨h5, e5, C5, z5, s5⟩ := C_clear hN F_X5_findRow_65 (2 ^ nB σ) FU_ 0 h4 (by omega) (by unfold FU_; omega) C4 (fun m hm => by omega)
        have e5' : F_X5_findRow_35 FU_ F_X5_findRow_65 0 h4 = F_X5_findRow_65 h5 := e5
        rw [e5', F_X5_findRow_65]
        obtain ⟨h6, e6, C6, D6, u6, r6⟩ := C_goes hw hN (nB σ) RF_ 0 0 h5 (by unfold RF_; omega) (by omega) (by rw [popN_0]; omega) (Nat.pow_pos (by decide)) (by rw [putM_0 hw]; exact sdA_0 σ 40) C5 (fun m hm w => absurd (z5 m hm) w)
        rw [putM_0 hw] at e6
        have e6' : F_X5_goesOn RF_ 0 0 0 h5 = some (bi_ (theRow σ).isSome, h6) := e6
        have s6 := w_X5_goesOn _ _ _ _ _ _ _ e6
        rw [e6', ob_s]
        dsimp only
        have z6 : gI_ h6 327 = 0 := by
          rw [s6.1 327 (by decide), s5.1 327 (by decide), s4.1 327 (by decide), s3.1 327 (by decide), z2]
        cases ht : theRow σ with
        | none =>
          rw [show bi_ (none : Option (List Nat)).isSome = 0 from rfl, if_pos rfl]
          exact ⟨h6, rfl, OCr_n ht z6⟩
        | some l =>
          rw [show bi_ (some l).isSome = 1 from rfl, if_neg (by decide), bd_e]
          exact ⟨_, rfl, OCr_s ht (by rw [gI_sI, if_pos rfl]; exact C6.2.1) (r6 l ht)⟩
    · rw [if_neg q]
      exact ⟨h, rfl, hk.resolve_left q⟩
  obtain ⟨h1, e, o⟩ := key
  have s := w_X5_findRow _ _ e
  exact ⟨h1, e, o, hc.sm s (by decide), s.2.2.1 37 (by decide)⟩
noncomputable def s_order (σ : Sg) (x : Int32) : Int32 × Nat := if nB σ ≤ 12 then ((match theRow σ with
  | some l => if inN x (nI (nB σ)) = true then nI (l.getD x.toNatClampNeg 0) else -9
  | none => -9), 0) else (-6, 6)
theorem C_order {σ : Sg} {h : Hp} (hw : Wf σ) (hc : RepC σ h) (hk : gI_ h 328 = 0 ∨ OCr σ h) (x : Int32) : ∃ h1, F_X6_order x h = some ((s_order σ x).1, h1) ∧ gA_ h1 37 = gA_ (rC h (s_order σ x).2) 37 ∧ (gI_ h1 328 = 0 ∨ OCr σ h1) := by
  have h64 : pcL (thI σ) ≤ 64 := pcL_le (Nat.le_refl _) (fun i hi => tb_big hi)
  unfold F_X6_order F_X2_howMany s_order
  rw [thC hw hc, f_bitCount, ob_s, ob_s, c_r6, nB_pc hw]
  rw [nB_pc hw] at h64
  by_cases hN : nB σ ≤ 12
  · rw [if_pos hN, if_pos (show nI (nB σ) ≤ (12 : Int32) from (i_le (b := 12) (by omega) (by decide)).mpr hN)]
    obtain ⟨h1, e, o, hc1, r⟩ := C_findRow hw hN hc hk
    rw [e, ob_s]
    refine ⟨h1, ?_, r, Or.inr o⟩
    unfold F_X5_brickAtStep
    have o' := o
    unfold OCr at o'
    cases ht : theRow σ with
    | none =>
      rw [ht] at o'
      dsimp only at o' ⊢
      rw [o']
      by_cases w : x < 0
      · rw [if_pos w]; rfl
      · rw [if_neg w, if_pos (by rw [i_ltT] at w; rw [i_leT]; omega)]; rfl
    | some l =>
      rw [ht] at o'
      dsimp only at o' ⊢
      rw [o'.1, two_t]
      cases hp : inN x (nI (nB σ)) with
      | false => rw [if_neg (by decide), if_neg (by decide)]; rfl
      | true =>
        obtain ⟨i, hi, rfl⟩ := inN_n (by omega) hp
        rw [if_pos rfl, if_pos rfl, nI_clamp (by omega), rA_n _ 35 12 _ (by omega) (by decide), ob_s]
        have hl := rowM_len _ _ _ ht
        have := o'.2 i (by omega)
        rw [Nat.zero_add] at this
        rw [this]
  · rw [if_neg hN, if_neg (show ¬ nI (nB σ) ≤ (12 : Int32) from fun w => hN ((i_le (b := 12) (by omega) (by decide)).mp w)), ob_s]
    exact ⟨rC h 6, rfl, rfl, by
      have s := sm_rC h 6
      rcases hk with w | w
      · left; rw [s.1 328 (by decide)]; exact w
      · right
        unfold OCr at w ⊢
        cases ht : theRow σ with
        | none => rw [ht] at w; dsimp only at w ⊢; rw [s.1 327 (by decide)]; exact w
        | some l => rw [ht] at w; dsimp only at w ⊢; rw [s.1 327 (by decide), s.2.2.1 35 (by decide)]; exact w⟩
