/-! ===== each call: both answer alike ===== -/
theorem Sgo.g {F6 F7 : Hp → Option (Int32 × Hp)} {σ : Sg} {h : Hp} {a : Int32 × Nat} {wI wJ wA wL vI vJ vA vL : List Nat} (I : Jv σ h) (C : ∃ h1, F6 h = some (a.1, h1) ∧ gA_ h1 37 = gA_ (rC h a.2) 37 ∧ CVI σ h1 ∧ OCI σ h1) (M : ∀ h1, RepM σ h1 → MQr h1 a (F7 h1))
    (w6 : ∀ r h1, F6 h = some (r, h1) → Sm wI wJ wA wL h h1) (d1 : (∀ k ∈ [138, 259, 458, 459], k ∉ wI) ∧ (∀ k ∈ [139, 140, 460], k ∉ wJ) ∧ (∀ k ∈ [8, 9, 12, 13, 14, 15, 16, 17, 21, 38, 39, 40, 41, 42, 43, 44, 45, 46, 47], k ∉ wA) ∧ ∀ k ∈ [18, 19, 20], k ∉ wL)
    (w7 : ∀ h1 r h2, F7 h1 = some (r, h2) → Sm vI vJ vA vL h1 h2) (d2 : (∀ k ∈ [138, 259, 458, 459, 203, 204, 205, 206, 207, 327, 328], k ∉ vI) ∧ (∀ k ∈ [139, 140, 460], k ∉ vJ) ∧ (∀ k ∈ [8, 9, 12, 13, 14, 15, 16, 17, 21, 30, 35, 37, 39, 40, 41, 42, 43, 44, 45, 46, 47], k ∉ vA) ∧ ∀ k ∈ [18, 19, 20], k ∉ vL) : Sgo F6 F7 h := by
  obtain ⟨h1, e6, e37, cv, oc⟩ := C
  have s1 := w6 _ _ e6
  have hm1 : RepM σ h1 := I.2.1.sm s1 ⟨fun k hk => d1.1 k (by revert k; decide), d1.2.1 460 (by decide), fun k hk => d1.2.2.1 k (by revert k; decide)⟩
  obtain ⟨h2, e7, f38⟩ := M h1 hm1
  exact ⟨a.1, h1, h2, e6, e7, σ, Jq I s1 d1 cv oc e37 (w7 _ _ _ e7) d2 f38⟩
theorem Sgo.q {F6 F7 : Hp → Option (Int32 × Hp)} {σ : Sg} {h : Hp} {a : Int32 × Nat} {wI wJ wA wL vI vJ vA vL : List Nat} (I : Jv σ h) (C : CQr h a (F6 h)) (M : ∀ h1, RepM σ h1 → MQr h1 a (F7 h1))
    (w6 : ∀ r h1, F6 h = some (r, h1) → Sm wI wJ wA wL h h1) (d1 : (∀ k ∈ [138, 259, 458, 459], k ∉ wI) ∧ (∀ k ∈ [139, 140, 460], k ∉ wJ) ∧ (∀ k ∈ [8, 9, 12, 13, 14, 15, 16, 17, 21, 38, 39, 40, 41, 42, 43, 44, 45, 46, 47], k ∉ wA) ∧ ∀ k ∈ [18, 19, 20], k ∉ wL)
    (w7 : ∀ h1 r h2, F7 h1 = some (r, h2) → Sm vI vJ vA vL h1 h2) (d2 : (∀ k ∈ [138, 259, 458, 459, 203, 204, 205, 206, 207, 327, 328], k ∉ vI) ∧ (∀ k ∈ [139, 140, 460], k ∉ vJ) ∧ (∀ k ∈ [8, 9, 12, 13, 14, 15, 16, 17, 21, 30, 35, 37, 39, 40, 41, 42, 43, 44, 45, 46, 47], k ∉ vA) ∧ ∀ k ∈ [18, 19, 20], k ∉ vL)
    (dV : (∀ k ∈ [203, 204, 205, 206, 207, 327, 328], k ∉ wI) ∧ ∀ k ∈ [30, 35], k ∉ wA) : Sgo F6 F7 h := by
  obtain ⟨h1, e6, e37⟩ := C
  have s1 := w6 _ _ e6
  exact Sgo.g I ⟨h1, e6, e37, I.2.2.2.2.1.sm s1 ⟨fun k hk => dV.1 k (by revert k; decide), dV.2 30 (by decide)⟩, I.2.2.2.2.2.sm s1 ⟨fun k hk => dV.1 k (by revert k; decide), dV.2 35 (by decide)⟩⟩ M w6 d1 w7 d2
theorem CQr.of {h : Hp} {a : Int32 × Nat} {o : Option (Int32 × Hp)} (e : o = some (a.1, rC h a.2)) : CQr h a o := ⟨_, e, rfl⟩
theorem MQr.of {h : Hp} {a : Int32 × Nat} {o : Option (Int32 × Hp)} (e : o = some (a.1, rM h a.2)) : MQr h a o := ⟨_, e, rfl⟩
theorem J_cell {σ : Sg} {h : Hp} (I : Jv σ h) (x1 x2 x3 x4 : Int32) : Sgo (F_X6_cell x1 x2 x3 x4) (F_X7_cell x1 x2 x3 x4) h :=
  Sgo.c I (s_cell_wf I.1 x1 x2 x3 x4) (C_cell I.2.2.1 x1 x2 x3 x4) (fun h1 hm => M_cell hm x1 x2 x3 x4) (fun r h1 e => w_X6_cell _ _ _ _ _ _ _ e) (by decide) (fun h1 r h2 e => w_X7_cell _ _ _ _ _ _ _ e) (by decide)
theorem J_place {σ : Sg} {h : Hp} (I : Jv σ h) (x1 x2 x3 x4 x5 x6 : Int32) : Sgo (F_X6_place x1 x2 x3 x4 x5 x6) (F_X7_place x1 x2 x3 x4 x5 x6) h :=
  Sgo.c I (s_place_wf I.1 x1 x2 x3 x4 x5 x6) (C_place I.1 I.2.2.1 x1 x2 x3 x4 x5 x6) (fun h1 hm => M_place I.1 hm x1 x2 x3 x4 x5 x6) (fun r h1 e => w_X6_place _ _ _ _ _ _ _ _ _ e) (by decide) (fun h1 r h2 e => w_X7_place _ _ _ _ _ _ _ _ _ e) (by decide)
theorem J_take {σ : Sg} {h : Hp} (I : Jv σ h) (x1 : Int32) : Sgo (F_X6_take x1) (F_X7_take x1) h :=
  Sgo.c I (s_take_wf I.1 x1) (C_take I.1 I.2.2.1 x1) (fun h1 hm => M_take I.1 hm x1) (fun r h1 e => w_X6_take _ _ _ _ e) (by decide) (fun h1 r h2 e => w_X7_take _ _ _ _ e) (by decide)
theorem J_grip {σ : Sg} {h : Hp} (I : Jv σ h) (x1 : Int32) : Sgo (F_X6_grip x1) (F_X7_grip x1) h :=
  Sgo.c I (s_grip_wf I.1 x1) (C_grip I.2.2.1 x1) (fun h1 hm => M_grip hm x1) (fun r h1 e => w_X6_grip _ _ _ _ e) (by decide) (fun h1 r h2 e => w_X7_grip _ _ _ _ e) (by decide)
theorem J_cellOf {σ : Sg} {h : Hp} (I : Jv σ h) (x1 x2 x3 : Int32) : Sgo (F_X6_cellOf x1 x2 x3) (F_X7_cellOf x1 x2 x3) h :=
  Sgo.q (a := s_cellOf σ x1 x2 x3) I (CQr.of (C_cellOf I.2.2.1 x1 x2 x3)) (fun h1 hm => MQr.of (M_cellOf hm x1 x2 x3)) (fun r h1 e => w_X6_cellOf _ _ _ _ _ _ e) (by decide) (fun h1 r h2 e => w_X7_cellOf _ _ _ _ _ _ e) (by decide) (by decide)
theorem J_at {σ : Sg} {h : Hp} (I : Jv σ h) (x1 x2 x3 : Int32) : Sgo (F_X6_at x1 x2 x3) (F_X7_at x1 x2 x3) h :=
  Sgo.q (a := s_at σ x1 x2 x3) I (CQr.of (C_at I.1 I.2.2.1 x1 x2 x3)) (fun h1 hm => MQr.of (M_at hm x1 x2 x3)) (fun r h1 e => w_X6_at _ _ _ _ _ _ e) (by decide) (fun h1 r h2 e => w_X7_at _ _ _ _ _ _ e) (by decide) (by decide)
theorem J_studs {σ : Sg} {h : Hp} (I : Jv σ h) (x1 x2 : Int32) : Sgo (F_X6_studs x1 x2) (F_X7_studs x1 x2) h :=
  Sgo.q (a := s_studs σ x1 x2) I (CQr.of (C_studs I.1 I.2.2.1 x1 x2)) (fun h1 hm => MQr.of (M_studs I.1 hm x1 x2)) (fun r h1 e => w_X6_studs _ _ _ _ _ e) (by decide) (fun h1 r h2 e => w_X7_studs _ _ _ _ _ e) (by decide) (by decide)
theorem J_piece {σ : Sg} {h : Hp} (I : Jv σ h) (x1 : Int32) : Sgo (F_X6_piece x1) (F_X7_piece x1) h :=
  Sgo.q (a := s_at1 σ x1 (fun b => nI (pixN σ b))) I (CQr.of (C_piece I.1 I.2.2.1 x1)) (fun h1 hm => M_piece I.1 hm x1) (fun r h1 e => w_X6_piece _ _ _ _ e) (by decide) (fun h1 r h2 e => w_X7_piece _ _ _ _ e) (by decide) (by decide)
theorem J_key {σ : Sg} {h : Hp} (I : Jv σ h) (x1 : Int32) : Sgo (F_X6_key x1) (F_X7_key x1) h :=
  Sgo.q (a := s_at1 σ x1 (fun b => bi_ (kyN σ b))) I (CQr.of (C_key I.1 I.2.2.1 x1)) (fun h1 hm => M_key I.1 hm x1) (fun r h1 e => w_X6_key _ _ _ _ e) (by decide) (fun h1 r h2 e => w_X7_key _ _ _ _ e) (by decide) (by decide)
theorem J_weak {σ : Sg} {h : Hp} (I : Jv σ h) (x1 : Int32) : Sgo (F_X6_weak x1) (F_X7_weak x1) h :=
  Sgo.q (a := s_at1 σ x1 (fun b => nI (wyN σ b))) I (CQr.of (C_weak I.1 I.2.2.1 x1)) (fun h1 hm => M_weak I.1 hm x1) (fun r h1 e => w_X6_weak _ _ _ _ e) (by decide) (fun h1 r h2 e => w_X7_weak _ _ _ _ e) (by decide) (by decide)
theorem J_fit {σ : Sg} {h : Hp} (I : Jv σ h) (x1 : Int32) : Sgo (F_X6_fit x1) (F_X7_fit x1) h :=
  Sgo.q (a := s_fit σ x1) I (CQr.of (C_fit I.1 I.2.2.1 x1)) (fun h1 hm => MQr.of (M_fit I.1 hm x1)) (fun r h1 e => w_X6_fit _ _ _ _ e) (by decide) (fun h1 r h2 e => w_X7_fit _ _ _ _ e) (by decide) (by decide)
theorem J_seen {σ : Sg} {h : Hp} (I : Jv σ h) (x1 x2 x3 : Int32) : Sgo (F_X6_seen x1 x2 x3) (F_X7_seen x1 x2 x3) h :=
  Sgo.q (a := s_seen σ x1 x2 x3) I (CQr.of (C_seen I.1 I.2.2.1 x1 x2 x3)) (fun h1 hm => MQr.of (M_seen I.1 hm x1 x2 x3)) (fun r h1 e => w_X6_seen _ _ _ _ _ _ e) (by decide) (fun h1 r h2 e => w_X7_seen _ _ _ _ _ _ e) (by decide) (by decide)
theorem J_brickOf {σ : Sg} {h : Hp} (I : Jv σ h) (x1 x2 : Int32) : Sgo (F_X6_brickOf x1 x2) (F_X7_brickOf x1 x2) h :=
  Sgo.q (a := s_brickOf σ x1 x2) I (CQr.of (C_brickOf I.1 I.2.2.1 x1 x2)) (fun h1 hm => MQr.of (M_brickOf I.1 hm x1 x2)) (fun r h1 e => w_X6_brickOf _ _ _ _ _ e) (by decide) (fun h1 r h2 e => w_X7_brickOf _ _ _ _ _ e) (by decide) (by decide)
theorem J_pieceOf {σ : Sg} {h : Hp} (I : Jv σ h) (x1 x2 : Int32) : Sgo (F_X6_pieceOf x1 x2) (F_X7_pieceOf x1 x2) h :=
  Sgo.q (a := s_pieceOf σ x1 x2) I (C_pieceOf I.1 I.2.2.1 x1 x2) (fun h1 hm => M_pieceOf I.1 hm x1 x2) (fun r h1 e => w_X6_pieceOf _ _ _ _ _ e) (by decide) (fun h1 r h2 e => w_X7_pieceOf _ _ _ _ _ e) (by decide) (by decide)
theorem J_sound {σ : Sg} {h : Hp} (I : Jv σ h) : Sgo F_X6_sound F_X7_sound h :=
  Sgo.q (a := (bi_ (sdA σ 40 (thI σ)), 0)) I (C_sound I.1 I.2.2.1) (fun h1 hm => M_sound I.1 hm) (fun r h1 e => w_X6_sound _ _ _ e) (by decide) (fun h1 r h2 e => w_X7_sound _ _ _ e) (by decide) (by decide)
theorem J_lacking {σ : Sg} {h : Hp} (I : Jv σ h) : Sgo F_X6_lacking F_X7_lacking h := by
  refine Sgo.q (a := (nI (sumN (lkN σ) 7), 0)) I ?_ (fun h1 hm => ?_) (fun r h1 e => w_X6_lacking _ _ _ e) (by decide) (fun h1 r h2 e => w_X7_lacking _ _ _ e) (by decide) (by decide)
  · obtain ⟨h1, e⟩ := C_lacking I.1 I.2.2.1
    exact ⟨h1, e, (w_X6_lacking _ _ _ e).2.2.1 37 (by decide)⟩
  · obtain ⟨h2, e⟩ := M_lacking I.1 hm
    exact ⟨h2, e, (w_X7_lacking _ _ _ e).2.2.1 38 (by decide)⟩
theorem C_lacks' {σ : Sg} {h : Hp} (hw : Wf σ) (hc : RepC σ h) (k : Int32) : CQr h (s_lacks σ k) (F_X6_lacks k h) := by
  unfold F_X6_lacks s_lacks
  rw [f_isKind, ob_s]
  cases hp : inN k 7 with
  | false => rw [if_pos b0_, c_r1]; exact CQr.mk rfl rfl
  | true =>
    obtain ⟨j, hj, rfl⟩ := inN_n (n := 7) (by decide) hp
    obtain ⟨h1, e1, hb⟩ := c_settle hw hc
    refine CQr.mk (h1 := h1) ?_ ((w_X1_settle _ _ e1).2.2.1 37 (by decide))
    rw [if_neg b1_, e1, ob_s]
    unfold F_X1_shortOf
    rw [f_isKind, in7 hj, ob_s, if_neg b1_, rA_n h1 11 7 _ hj (by decide), hb j hj, nI_clamp (by omega)]; rfl
theorem M_lacks' {σ : Sg} {h : Hp} (hw : Wf σ) (hm : RepM σ h) (k : Int32) : MQr h (s_lacks σ k) (F_X7_lacks k h) := by
  unfold F_X7_lacks s_lacks
  rw [f_isIn, ob_s]
  cases hp : inN k 7 with
  | false => rw [if_pos b0_, m_r1]; exact MQr.mk rfl rfl
  | true =>
    obtain ⟨j, hj, rfl⟩ := inN_n (n := 7) (by decide) hp
    obtain ⟨h1, e1, hb⟩ := m_find hw hm
    refine MQr.mk (h1 := h1) ?_ ((w_X7_findLacking _ _ e1).2.2.1 38 (by decide))
    rw [if_neg b1_, e1, ob_s, rA_n h1 61 7 _ hj (by decide), hb j hj, nI_clamp (by omega)]
theorem J_lacks {σ : Sg} {h : Hp} (I : Jv σ h) (x1 : Int32) : Sgo (F_X6_lacks x1) (F_X7_lacks x1) h :=
  Sgo.q (a := s_lacks σ x1) I (C_lacks' I.1 I.2.2.1 x1) (fun h1 hm => M_lacks' I.1 hm x1) (fun r h1 e => w_X6_lacks _ _ _ _ e) (by decide) (fun h1 r h2 e => w_X7_lacks _ _ _ _ e) (by decide) (by decide)
theorem J_order {σ : Sg} {h : Hp} (I : Jv σ h) (x1 : Int32) : Sgo (F_X6_order x1) (F_X7_order x1) h := by
  obtain ⟨h1, e, e37, oc⟩ := C_order I.1 I.2.2.1 I.2.2.2.2.2 x1
  exact Sgo.g (a := s_order σ x1) I ⟨h1, e, e37, I.2.2.2.2.1.sm (w_X6_order _ _ _ _ e) (by decide), oc⟩ (fun h1 hm => M_order I.1 hm x1) (fun r h1 e => w_X6_order _ _ _ _ e) (by decide) (fun h1 r h2 e => w_X7_order _ _ _ _ e) (by decide)
theorem J_cover {σ : Sg} {h : Hp} (I : Jv σ h) (x1 x2 : Int32) : Sgo (F_X6_cover x1 x2) (F_X7_cover x1 x2) h := by
  obtain ⟨h1, e, e37, cv⟩ := C_cover I.1 I.2.2.1 I.2.2.2.2.1 x1 x2
  exact Sgo.g (a := s_cov σ x1 x2 (fun c z => nI (cvN σ c z))) I ⟨h1, e, e37, cv, I.2.2.2.2.2.sm (w_X6_cover _ _ _ _ _ e) (by decide)⟩ (fun h1 hm => M_cover I.1 hm x1 x2) (fun r h1 e => w_X6_cover _ _ _ _ _ e) (by decide) (fun h1 r h2 e => w_X7_cover _ _ _ _ _ e) (by decide)
theorem J_coverSeams {σ : Sg} {h : Hp} (I : Jv σ h) (x1 x2 : Int32) : Sgo (F_X6_coverSeams x1 x2) (F_X7_coverSeams x1 x2) h := by
  obtain ⟨h1, e, e37, cv⟩ := C_coverSeams I.1 I.2.2.1 I.2.2.2.2.1 x1 x2
  exact Sgo.g (a := s_cov σ x1 x2 (fun c z => cvD σ c z)) I ⟨h1, e, e37, cv, I.2.2.2.2.2.sm (w_X6_coverSeams _ _ _ _ _ e) (by decide)⟩ (fun h1 hm => M_coverSeams I.1 hm x1 x2) (fun r h1 e => w_X6_coverSeams _ _ _ _ _ e) (by decide) (fun h1 r h2 e => w_X7_coverSeams _ _ _ _ _ e) (by decide)
theorem J_coverAt {σ : Sg} {h : Hp} (I : Jv σ h) (x1 x2 x3 : Int32) : Sgo (F_X6_coverAt x1 x2 x3) (F_X7_coverAt x1 x2 x3) h := by
  obtain ⟨h1, e, e37, cv⟩ := C_coverAt I.1 I.2.2.1 I.2.2.2.2.1 x1 x2 x3
  exact Sgo.g (a := s_cov σ x1 x2 (fun c z => cvAt σ x3 c z)) I ⟨h1, e, e37, cv, I.2.2.2.2.2.sm (w_X6_coverAt _ _ _ _ _ _ e) (by decide)⟩ (fun h1 hm => M_coverAt I.1 hm x1 x2 x3) (fun r h1 e => w_X6_coverAt _ _ _ _ _ _ e) (by decide) (fun h1 r h2 e => w_X7_coverAt _ _ _ _ _ _ e) (by decide)
theorem J_lay {σ : Sg} {h : Hp} (I : Jv σ h) (x1 x2 : Int32) : Sgo (F_X6_lay x1 x2) (F_X7_lay x1 x2) h := by
  obtain ⟨hw, hm, hc, rr, cv, oc⟩ := I
  obtain ⟨h1, e6, r6⟩ := C_lay hw hc cv x1 x2
  have s1 := w_X6_lay _ _ _ _ _ e6
  obtain ⟨h2, e7, rm, f38⟩ := M_lay hw (hm.sm s1 (by decide)) x1 x2
  have s2 := w_X7_lay _ _ _ _ _ e7
  have e38 : gA_ h1 38 = gA_ h 38 := s1.2.2.1 38 (by decide)
  have f37 : gA_ h2 37 = gA_ h1 37 := s2.2.2.1 37 (by decide)
  refine ⟨_, h1, h2, e6, e7, (s_lay σ x1 x2).2.2, ?_⟩
  rcases r6 with ⟨n0, es, r37, cv1, sm1⟩ | ⟨z0, rc, wf, r37, k1, k2⟩
  · rw [es] at rm ⊢
    exact ⟨hw, rm, (hc.sm sm1 (by decide)).sm s2 (by decide), RRq rr r37 e38 f37 f38, cv1.sm s2 (by decide), (oc.sm sm1 (by decide)).sm s2 (by decide)⟩
  · exact ⟨wf, rm, rc.sm s2 (by decide), RRq rr (by rw [z0]; exact r37) e38 f37 f38, CVI.sm (Or.inl k1) s2 (by decide), OCI.sm (Or.inl k2) s2 (by decide)⟩
theorem J_box {σ : Sg} {h : Hp} (I : Jv σ h) (x1 x2 : Int32) : Sgo (F_X6_box x1 x2) (F_X7_box x1 x2) h := by
  obtain ⟨hw, hm, hc, rr, cv, oc⟩ := I
  obtain ⟨h1, e6, r6⟩ := C_box hc x1 x2
  have s1 := w_X6_box _ _ _ _ _ e6
  have hm1 : RepM σ h1 := hm.sm s1 (by decide)
  obtain ⟨h2, e7, r7⟩ := M_box hm1 x1 x2
  have s2 := w_X7_box _ _ _ _ _ e7
  have e38 : gA_ h1 38 = gA_ h 38 := s1.2.2.1 38 (by decide)
  have f37 : gA_ h2 37 = gA_ h1 37 := s2.2.2.1 37 (by decide)
  have cv2 : CVI σ h2 := (cv.sm s1 (by decide)).sm s2 (by decide)
  have oc2 : OCI σ h2 := (oc.sm s1 (by decide)).sm s2 (by decide)
  have hwf := s_box_wf hw x1 x2
  have cvb : CVI (s_box σ x1 x2).2.2 h2 ∧ OCI (s_box σ x1 x2).2.2 h2 := by
    unfold s_box
    split
    · split
      · split
        · exact ⟨CVI_bx _ _ cv2, OCI_bx _ _ oc2⟩
        · exact ⟨cv2, oc2⟩
      · exact ⟨cv2, oc2⟩
    · exact ⟨cv2, oc2⟩
  refine ⟨_, h1, h2, e6, e7, (s_box σ x1 x2).2.2, ?_⟩
  rcases r6 with ⟨n0, es, eh⟩ | ⟨z0, rc, r37, -⟩
  · rcases r7 with ⟨-, -, eh2⟩ | ⟨z0', -⟩
    · rw [es]
      exact ⟨hw, by rw [eh2]; exact hm1.sm (sm_rM h1 _) (by decide), (by rw [eh]; exact hc.sm (sm_rC h _) (by decide) : RepC σ h1).sm s2 (by decide), RRq rr (by rw [eh]) e38 f37 (by rw [eh2]), cv2, oc2⟩
    · exact absurd z0' n0
  · rcases r7 with ⟨n0, -⟩ | ⟨-, rm, r38⟩
    · exact absurd z0 n0
    · exact ⟨hwf, rm, rc.sm s2 (by decide), RRq (j := 0) rr (by rw [rC_0]; exact r37) e38 f37 (by rw [rM_0]; exact r38), cvb.1, cvb.2⟩
/-! calls that change nothing of the class -/
theorem J_pieces {σ : Sg} {h : Hp} (I : Jv σ h) : ∃ v h2, F_X6_pieces h = some v ∧ F_X7_pieces h = some (v, h2) ∧ ∃ σ', Jv σ' h2 := by
  obtain ⟨h2, e7⟩ := M_pieces I.1 I.2.1
  have s2 := w_X7_pieces _ _ _ e7
  exact ⟨_, h2, C_pieces I.1 I.2.2.1, e7, σ, Jq (j := 0) (wI := []) (wJ := []) (wA := []) (wL := []) I sm_rf (by decide) I.2.2.2.2.1 I.2.2.2.2.2 rfl s2 (by decide) (s2.2.2.1 38 (by decide))⟩
theorem J_count {σ : Sg} {h : Hp} (I : Jv σ h) (x1 : Int32) : ∃ v h2, F_X6_count x1 h = some v ∧ F_X7_count x1 h = some (v, h2) ∧ ∃ σ', Jv σ' h2 := by
  obtain ⟨h2, e7, f38⟩ := M_count I.1 I.2.1 x1
  have s2 := w_X7_count _ _ _ _ e7
  have e : s_count σ (gA_ h 37) x1 = s_count σ (gA_ h 38) x1 := s_count_c I.2.2.2.1 x1
  refine ⟨_, h2, (C_count I.1 I.2.2.1 x1).trans (by rw [e]), e7, σ, Jq (j := 0) (wI := []) (wJ := []) (wA := []) (wL := []) I sm_rf (by decide) I.2.2.2.2.1 I.2.2.2.2.2 rfl s2 (by decide) f38⟩
/-! ===== the start ===== -/
def sg0 : Sg := (fun _ => 0, 0, fun _ => 0, fun _ => 0, fun _ => 0, fun _ => 0, fun _ => 0, fun _ => 0, fun _ => false, fun _ => none, 8, fun _ => 0)
theorem J_start (gr : Nat → Int32) (hg : ∀ j, j < 180 → gr j = -9) : Jv sg0 (hp0 gr) := by
  refine ⟨?_, ?_, ?_, ?_, Or.inl rfl, Or.inl rfl⟩
  · exact ⟨Nat.zero_le _, fun _ => Nat.zero_le _, fun b hb => absurd hb (Nat.not_lt_zero b), fun b hb => (by cases hb), fun i b hb => (by cases hb), ⟨by decide, by decide⟩, fun _ => Nat.zero_le _⟩
  · exact ⟨fun i _ => rfl, fun i hi => hg i hi, rfl, fun b hb => absurd hb (Nat.not_lt_zero b), fun b => tb_0 b, rfl, fun k _ => rfl⟩
  · refine ⟨fun i _ => rfl, fun i hi => rfl, rfl, fun b hb => absurd hb (Nat.not_lt_zero b), fun b => tb_0 b, rfl, fun k _ => rfl, fun b => tb_0 b, fun b hb => absurd hb (Nat.not_lt_zero b), fun a _ b => ?_, fun z _ s => ?_⟩
    · refine (tb_0 b).trans ?_
      unfold nbr
      exact (decide_eq_false (fun w => absurd w.1 (Nat.not_lt_zero a))).symm
    · refine (tb_0 s).trans ?_
      show false = (decide (s < 36) && false)
      rw [Bool.and_false]
  · exact fun j _ => rfl
