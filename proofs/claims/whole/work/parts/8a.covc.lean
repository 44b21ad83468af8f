/-! ===== the class: the cover's calls ===== -/
noncomputable def cvN (σ : Sg) (col z : Nat) : Nat := bN (vW σ col z 0)
noncomputable def cvL (σ : Sg) (col z : Nat) : List Nat := tlL (opn σ col z) (wRt σ z) (wBh σ z) (cvN σ col z) 0
noncomputable def cvD (σ : Sg) (col z : Nat) : Int32 := nI (sgS σ col z) - nI (bS (vW σ col z 0))
/-- what findBest leaves -/
def CVr (σ : Sg) (col z : Nat) (h : Hp) : Prop := gI_ h 206 = nI col ∧ gI_ h 207 = nI z ∧ gI_ h 203 = nI (cvM σ col z) ∧ (cvM σ col z ≤ 16 → gI_ h 204 = nI (cvN σ col z) ∧ gI_ h 205 = cvD σ col z ∧ RowIn (gA_ h 30) 0 (cvL σ col z))
def CVI (σ : Sg) (h : Hp) : Prop := gI_ h 206 = 0 ∨ ∃ col z, (1 ≤ col ∧ col ≤ 5) ∧ z < 5 ∧ CVr σ col z h
theorem CVr.sm {σ : Sg} {col z : Nat} {h h' : Hp} {wI wJ wA wL : List Nat} (c : CVr σ col z h) (s : Sm wI wJ wA wL h h') (hw : (∀ k ∈ [203, 204, 205, 206, 207], k ∉ wI) ∧ 30 ∉ wA) : CVr σ col z h' := by
  obtain ⟨w1, w2⟩ := hw
  unfold CVr
  rw [s.1 206 (w1 206 (by decide)), s.1 207 (w1 207 (by decide)), s.1 203 (w1 203 (by decide)), s.1 204 (w1 204 (by decide)), s.1 205 (w1 205 (by decide)), s.2.2.1 30 w2]
  exact c
theorem CVI.sm {σ : Sg} {h h' : Hp} {wI wJ wA wL : List Nat} (c : CVI σ h) (s : Sm wI wJ wA wL h h') (hw : (∀ k ∈ [203, 204, 205, 206, 207], k ∉ wI) ∧ 30 ∉ wA) : CVI σ h' := by
  rcases c with q | ⟨col, z, h1, h2, r⟩
  · left; rw [s.1 206 (hw.1 206 (by decide))]; exact q
  · exact Or.inr ⟨col, z, h1, h2, r.sm s hw⟩
theorem cvN_le {σ : Sg} {col z : Nat} (hM : cvM σ col z ≤ 16) : cvN σ col z ≤ cvM σ col z := by
  have hpos : 0 < 2 ^ rkG (opn σ col z) 36 := Nat.pow_pos (by decide)
  have hM' : rkG (opn σ col z) 36 ≤ 16 := hM
  obtain ⟨-, h2, -⟩ := VW_b (p := opn σ col z) opn_p hM' (wRt_le σ z) (wBh_le σ z) 16 0 hpos (by omega)
  have : bN (VW (opn σ col z) (wRt σ z) (wBh σ z) 0) ≤ rkG (opn σ col z) 36 := by omega
  exact this
theorem f_fill28 (h : Hp) : F_J7_fill_53178_28 0 h = some (rowW 28 0 0 2048 h) := by
  unfold F_J7_fill_53178_28
  refine lp_FU (fun n i => F_J7_fill_53178_28_5 n 0 (nI i) 2048 (rowW 28 0 0 i h)) _ 2048 (by decide) (fun n i hi => ?_) (fun n => ?_)
  · show F_J7_fill_53178_28_5 (n + 1) _ _ _ _ = _
    rw [F_J7_fill_53178_28_5, if_neg (show ¬ (2048 : Int32) ≤ nI i from (nI_ge hi (by decide) : ¬ nI 2048 ≤ nI i)), wA_n _ 28 2048 _ _ hi (by decide), show nI i + 1 = nI (i + 1) from nI_add i 1]
    show _ = F_J7_fill_53178_28_5 n _ _ _ (rowW 28 0 0 (i + 1) h)
    rw [rowW, Nat.zero_add]
  · show F_J7_fill_53178_28_5 (n + 1) _ _ _ _ = _
    rw [F_J7_fill_53178_28_5, if_pos (by decide)]
theorem fb69 (h : Hp) {M : Nat} (hM : M ≤ 36) (e : gI_ h 203 = nI M) : F_X3_findBest_69 h = some (bi_ (decide (M ≤ 16)), h) := by
  unfold F_X3_findBest_69
  rw [e]
  by_cases q : M ≤ 16
  · rw [if_neg (show ¬ (16 : Int32) < nI M from (nI_nlt q (by decide) : ¬ nI 16 < nI M)), decide_eq_true q]; rfl
  · rw [if_pos (show (16 : Int32) < nI M from (nI_lt (by omega) (by omega) : nI 16 < nI M)), decide_eq_false q]; rfl
theorem C_fb16 {σ : Sg} {h : Hp} (hw : Wf σ) (hc : RepC σ h) {col z : Nat} (hcol : 1 ≤ col ∧ col ≤ 5) (hz : z < 5) : ∃ h1, F_X3_findBest_16 (nI col) (nI z) h = some (bi_ (decide (cvM σ col z ≤ 16)), h1) ∧ CVr σ col z h1 := by
  have hM36 := cvM_le σ col z
  unfold F_X3_findBest_16
  rw [bd_e, bd_e, bd_e, bd_e]
  have s0 : Sm [204, 205, 206, 207] [] [] [] h (sI_ (sI_ (sI_ (sI_ h 206 (nI col)) 207 (nI z)) 204 0) 205 0) := sm_I (k := 206) (by decide) rfl (sm_I (k := 207) (by decide) rfl (sm_I (k := 204) (by decide) rfl (sm_I (k := 205) (by decide) rfl sm_rf)))
  obtain ⟨h1, e1, C1⟩ := C_collect hw (hc.sm s0 (by decide)) hcol.2 hz (show gI_ (sI_ (sI_ (sI_ (sI_ h 206 (nI col)) 207 (nI z)) 204 0) 205 0) 206 = nI col from rfl) (show gI_ (sI_ (sI_ (sI_ (sI_ h 206 (nI col)) 207 (nI z)) 204 0) 205 0) 207 = nI z from rfl)
  have s1 := w_X3_collectCells _ _ e1
  have z1 : gI_ h1 204 = 0 := by rw [s1.1 204 (by decide)]; rfl
  rw [e1, ob_s]
  by_cases hM : cvM σ col z ≤ 16
  · rw [C1.2.2.2.1, if_neg (show ¬ (16 : Int32) < nI (cvM σ col z) from (nI_nlt hM (by decide) : ¬ nI 16 < nI (cvM σ col z)))]
    obtain ⟨h2, e2, C2, W2⟩ := C_weigh hw C1
    have s2 := w_X3_weighPairs _ _ e2
    obtain ⟨h3, e3, C3, W3, F3⟩ := C_findFits C2 W2 hM
    have s3 := w_X3_findFits _ _ e3
    rw [e2, ob_s, e3, ob_s, f_fill28, ob_s]
    have s4 : Sm [] [] [28] [] h3 (rowW 28 0 0 2048 h3) := ⟨fun k _ => congrFun (rowW_s 2048 h3).1 k, fun k _ => congrFun (rowW_s 2048 h3).2.1 k, fun k hk => rowW_o (fun e => hk (by rw [e]; decide)) 2048 h3, fun k _ => congrFun (rowW_s 2048 h3).2.2 k⟩
    have A4 : CA σ col z (rowW 28 0 0 2048 h3) := ⟨C3.sm s4 (by decide), W3.sm (s4.2.2.1 24 (by decide)) (s4.2.2.1 25 (by decide)), F3.sm (s4.2.2.1 26 (by decide)) (s4.2.2.1 27 (by decide)), fun j hj => Or.inl (by rw [rowW_a, if_pos (by omega)])⟩
    have z4 : gI_ (rowW 28 0 0 2048 h3) 204 = nI 0 := by
      rw [s4.1 204 (by decide), s3.1 204 (by decide), s2.1 204 (by decide), z1]; rfl
    have hN := cvN_le hM
    obtain ⟨h5, e5, r1, r2, -, r4⟩ := C_tell6 hw hz hM (cvN σ col z) FU_ 0 0 0 (rowW 28 0 0 2048 h3) rfl (by unfold FU_; omega) (Nat.pow_pos (by decide)) (by omega) A4 z4
    have e5' : F_X3_tell (rowW 28 0 0 2048 h3) = some h5 := e5
    have s5 := w_X3_tell _ _ e5'
    have f203 : gI_ h5 203 = nI (cvM σ col z) := by rw [s5.1 203 (by decide)]; exact A4.1.2.2.2.1
    rw [e5', ob_s, fb69 h5 hM36 f203]
    refine ⟨h5, rfl, ?_, ?_, f203, fun _ => ⟨?_, ?_, r4⟩⟩
    · rw [s5.1 206 (by decide)]; exact A4.1.2.1
    · rw [s5.1 207 (by decide)]; exact A4.1.2.2.1
    · rw [r1, Nat.zero_add]
    · rw [r2, Nat.zero_add]; rfl
  · rw [C1.2.2.2.1, if_pos (show (16 : Int32) < nI (cvM σ col z) from (nI_lt (by omega) (by omega) : nI 16 < nI (cvM σ col z))), fb69 h1 hM36 C1.2.2.2.1]
    exact ⟨h1, rfl, C1.2.1, C1.2.2.1, C1.2.2.2.1, fun w => absurd w hM⟩
theorem C_findBest {σ : Sg} {h : Hp} (hw : Wf σ) (hc : RepC σ h) (hk : CVI σ h) {col z : Nat} (hcol : 1 ≤ col ∧ col ≤ 5) (hz : z < 5) : ∃ h1, F_X3_findBest (nI col) (nI z) h = some (bi_ (decide (cvM σ col z ≤ 16)), h1) ∧ CVr σ col z h1 ∧ RepC σ h1 ∧ gA_ h1 37 = gA_ h 37 := by
  have hM36 := cvM_le σ col z
  have key : ∃ h1, F_X3_findBest (nI col) (nI z) h = some (bi_ (decide (cvM σ col z ≤ 16)), h1) ∧ CVr σ col z h1 := by
    unfold F_X3_findBest
    by_cases q1 : nI col = gI_ h 206
    · rw [if_pos q1]
      by_cases q2 : nI z = gI_ h 207
      · rw [if_pos q2]
        rcases hk with q | ⟨c', z', hc', hz', r⟩
        · rw [q] at q1
          have := (nI_ze (by omega)).mp q1; omega
        · have e1 : c' = col := by
            have := q1.trans r.1
            have := (i_eq (by omega) (by omega)).mp this; omega
          have e2 : z' = z := by
            have := q2.trans r.2.1
            have := (i_eq (by omega) (by omega)).mp this; omega
          subst e1; subst e2
          rw [fb69 h hM36 r.2.2.1]
          exact ⟨h, rfl, r⟩
      · rw [if_neg q2]; exact C_fb16 hw hc hcol hz
    · rw [if_neg q1]; exact C_fb16 hw hc hcol hz
  obtain ⟨h1, e, r⟩ := key
  have s := w_X3_findBest _ _ _ _ _ e
  exact ⟨h1, e, r, hc.sm s (by decide), s.2.2.1 37 (by decide)⟩
noncomputable def s_cov (σ : Sg) (x y : Int32) (f : Nat → Nat → Int32) : Int32 × Nat := if (inN (x - 1) 5 && inN y 5) = true then if cvM σ x.toNatClampNeg y.toNatClampNeg ≤ 16 then (f x.toNatClampNeg y.toNatClampNeg, 0) else (-6, 6) else (-1, 1)
theorem rC_37 {h h1 : Hp} (e : gA_ h1 37 = gA_ h 37) (j : Nat) : gA_ (rC h1 j) 37 = gA_ (rC h j) 37 := by
  unfold rC
  by_cases q : j = 0
  · rw [if_pos q, if_pos q, e]
  · rw [if_neg q, if_neg q]
    show upd (gA_ h1 37) j _ = upd (gA_ h 37) j _
    rw [e]
theorem rM_38 {h h1 : Hp} (e : gA_ h1 38 = gA_ h 38) (j : Nat) : gA_ (rM h1 j) 38 = gA_ (rM h j) 38 := by
  unfold rM
  by_cases q : j = 0
  · rw [if_pos q, if_pos q, e]
  · rw [if_neg q, if_neg q]
    show upd (gA_ h1 38) j _ = upd (gA_ h 38) j _
    rw [e]
/-- a call of the class that may renew the cover kept -/
def CQv (σ : Sg) (h : Hp) (a : Int32 × Nat) (o : Option (Int32 × Hp)) : Prop := ∃ h1, o = some (a.1, h1) ∧ gA_ h1 37 = gA_ (rC h a.2) 37 ∧ CVI σ h1
theorem lt5_t {α : Type} (x : Int32) (u v : α) : (if x < 0 then u else if x < 5 then v else u) = if inN x 5 = true then v else u := by
  unfold inN
  by_cases h1 : x < 0
  · have : ¬ 0 ≤ x := by rw [i_not_le]; exact h1
    simp [h1, this]
  · have g1 : 0 ≤ x := by rw [← i_not_lt]; exact h1
    by_cases h2 : x < 5
    · simp [h1, h2, g1]
    · simp [h1, h2]
theorem C_covG {σ : Sg} {h : Hp} (hw : Wf σ) (hc : RepC σ h) (hk : CVI σ h) (x y : Int32) (f : Nat → Nat → Int32) (G : Hp → Option (Int32 × Hp)) (hG : ∀ col z h1, (1 ≤ col ∧ col ≤ 5) → z < 5 → x = nI col → y = nI z → cvM σ col z ≤ 16 → CVr σ col z h1 → RepC σ h1 → G h1 = some (f col z, h1)) : CQv σ h (s_cov σ x y f) ((F_X6_refusalOfCover x y h).bind fun ((v3, h3) : Int32 × Hp) => if v3 = 0 then G h3 else (F_X6_refuse v3 h3).bind fun ((v13, h13) : Int32 × Hp) => some (v13, h13)) := by
  have no : CQv σ h (-1, 1) ((some ((-1 : Int32), h)).bind fun ((v3, h3) : Int32 × Hp) => if v3 = 0 then G h3 else (F_X6_refuse v3 h3).bind fun ((v13, h13) : Int32 × Hp) => some (v13, h13)) := by
    rw [ob_s]
    dsimp only
    rw [if_neg (by decide), c_r1, ob_s]
    exact ⟨rC h 1, rfl, rfl, hk.sm (sm_rC h 1) (by decide)⟩
  unfold F_X6_refusalOfCover s_cov
  rw [f_isBC, ob_s, lt5_t]
  cases hx : inN (x - 1) 5 with
  | false => rw [if_pos b0_, Bool.false_and, if_neg (by decide)]; exact no
  | true =>
    rw [if_neg b1_, Bool.true_and]
    cases hy : inN y 5 with
    | false => rw [if_neg (by decide), if_neg (by decide)]; exact no
    | true =>
      obtain ⟨col, hcol, rfl⟩ := col_n hx
      obtain ⟨z, hz, rfl⟩ := inN_n (n := 5) (by decide) hy
      rw [if_pos rfl, if_pos rfl, nI_clamp (by omega), nI_clamp (by omega)]
      obtain ⟨h1, e, r, c1, e37⟩ := C_findBest hw hc hk hcol hz
      rw [e, ob_s]
      by_cases hM : cvM σ col z ≤ 16
      · rw [if_pos hM, decide_eq_true hM]
        dsimp only
        rw [if_neg b1_, ob_s]
        dsimp only
        rw [if_pos rfl, hG col z h1 hcol hz rfl rfl hM r c1]
        exact ⟨h1, rfl, e37, Or.inr ⟨col, z, hcol, hz, r⟩⟩
      · rw [if_neg hM, decide_eq_false hM]
        dsimp only
        rw [if_pos b0_, ob_s]
        dsimp only
        rw [if_neg (by decide), c_r6, ob_s]
        exact ⟨rC h1 6, rfl, rC_37 e37 6, Or.inr ⟨col, z, hcol, hz, r.sm (sm_rC h1 6) (by decide)⟩⟩
theorem C_cover {σ : Sg} {h : Hp} (hw : Wf σ) (hc : RepC σ h) (hk : CVI σ h) (x y : Int32) : CQv σ h (s_cov σ x y fun c z => nI (cvN σ c z)) (F_X6_cover x y h) :=
  C_covG hw hc hk x y _ (fun h3 => (F_X3_length h3).bind fun v23 => some (v23, h3)) (fun col z h1 _ _ _ _ hM r _ => by
    unfold F_X3_length
    rw [ob_s, (r.2.2.2 hM).1])
theorem C_coverSeams {σ : Sg} {h : Hp} (hw : Wf σ) (hc : RepC σ h) (hk : CVI σ h) (x y : Int32) : CQv σ h (s_cov σ x y fun c z => cvD σ c z) (F_X6_coverSeams x y h) :=
  C_covG hw hc hk x y _ (fun h3 => (F_X3_newSeams h3).bind fun v23 => some (v23, h3)) (fun col z h1 _ _ _ _ hM r _ => by
    unfold F_X3_newSeams
    rw [ob_s, (r.2.2.2 hM).2.1])
noncomputable def cvAt (σ : Sg) (w : Int32) (c z : Nat) : Int32 := if inN w (nI (cvN σ c z)) = true then nI ((cvL σ c z).getD w.toNatClampNeg 0) else -9
theorem f_toldAt {σ : Sg} {col z : Nat} {h : Hp} (hM : cvM σ col z ≤ 16) (r : CVr σ col z h) (w : Int32) : F_X3_toldAt w h = some (cvAt σ w col z) := by
  have hN := cvN_le hM
  obtain ⟨r1, r2, r3⟩ := r.2.2.2 hM
  unfold F_X3_toldAt cvAt
  rw [r1, two_t]
  cases hp : inN w (nI (cvN σ col z)) with
  | false => rw [if_neg (by decide), if_neg (by decide)]
  | true =>
    obtain ⟨i, hi, rfl⟩ := inN_n (by omega) hp
    rw [if_pos rfl, if_pos rfl, nI_clamp (by omega), rA_n _ 30 16 _ (by omega) (by decide)]
    have := r3 i (by unfold cvL; rw [tlL_len]; exact hi)
    rw [Nat.zero_add] at this
    rw [this]
theorem C_coverAt {σ : Sg} {h : Hp} (hw : Wf σ) (hc : RepC σ h) (hk : CVI σ h) (x y w : Int32) : CQv σ h (s_cov σ x y fun c z => cvAt σ w c z) (F_X6_coverAt x y w h) :=
  C_covG hw hc hk x y _ (fun h3 => (F_X3_toldAt w h3).bind fun v27 => some (v27, h3)) (fun col z h1 _ _ _ _ hM r _ => by
    rw [f_toldAt hM r, ob_s])
