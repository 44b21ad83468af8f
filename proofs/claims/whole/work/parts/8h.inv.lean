/-! ===== the box does not matter to covers and rows ===== -/
theorem rgo_bx (σ : Sg) (k v : Nat) (A : Int64) : ∀ p R O, rgo (boxS σ k v) A p R O = rgo σ A p R O
  | 0, R, O => rfl
  | p + 1, R, O => by
    rw [rgo, rgo, show nbI (boxS σ k v) = nbI σ from rfl, rgo_bx σ k v A p]
theorem pc1_bx (σ : Sg) (k v : Nat) (A : Int64) : pc1 (boxS σ k v) A = pc1 σ A := rgo_bx σ k v A 40 _ _
theorem cutP_bx (σ : Sg) (k v : Nat) (A : Int64) : cutP (boxS σ k v) A = cutP σ A := by unfold cutP; rw [pc1_bx]
theorem wkc_bx (σ : Sg) (k v x : Nat) : ∀ p A, wkc (boxS σ k v) x p A = wkc σ x p A
  | 0, A => rfl
  | p + 1, A => by
    rw [wkc, wkc, pc1_bx, cutP_bx, wkc_bx σ k v x p, show badP (boxS σ k v) x (pc1 σ A) = badP σ x (pc1 σ A) from rfl]
theorem wkV_bx (σ : Sg) (k v : Nat) (P : Int64) (b : Nat) : wkV (boxS σ k v) P b = wkV σ P b := by
  unfold wkV wkN
  rw [pc1_bx, wkc_bx, show flo (boxS σ k v) P = flo σ P from rfl]
theorem eL_bx (σ : Sg) (k v : Nat) (P : Int64) (r : Nat) : ∀ b, eL (boxS σ k v) P b r = eL σ P b r
  | 0 => rfl
  | b + 1 => by rw [eL, eL, eL_bx σ k v P r b, show onE (boxS σ k v) P b r = onE σ P b r from rfl]; rfl
theorem eR_bx (σ : Sg) (k v : Nat) (P : Int64) (r : Nat) : ∀ b, eR (boxS σ k v) P b r = eR σ P b r
  | 0 => rfl
  | b + 1 => by rw [eR, eR, eR_bx σ k v P r b, show onE (boxS σ k v) P b r = onE σ P b r from rfl]; rfl
theorem stdB_bx (σ : Sg) (k v : Nat) (P : Int64) : stdB (boxS σ k v) P = stdB σ P := by
  have e1 : elZ (boxS σ k v) P = elZ σ P := funext (fun r => by unfold elZ; exact congrArg Int32.toInt (eL_bx σ k v P r _))
  have e2 : erZ (boxS σ k v) P = erZ σ P := funext (fun r => by unfold erZ; exact congrArg Int32.toInt (eR_bx σ k v P r _))
  have e3 : onZ (boxS σ k v) P = onZ σ P := funext (fun r => by unfold onZ; rw [e2])
  refine bool_of ?_
  rw [stdB_t, stdB_t, e1, e2, e3]
  exact Iff.rfl
theorem spB_bx (σ : Sg) (k v : Nat) (P : Int64) : spB (boxS σ k v) P = spB σ P := by
  unfold spB
  rw [stdB_bx, show wkV (boxS σ k v) P = wkV σ P from funext (wkV_bx σ k v P)]; rfl
theorem sdA_bx (σ : Sg) (k v : Nat) : ∀ p A, sdA (boxS σ k v) p A = sdA σ p A
  | 0, A => rfl
  | p + 1, A => by rw [sdA, sdA, pc1_bx, cutP_bx, spB_bx, sdA_bx σ k v p]
theorem nmS_bx (σ : Sg) (k v i : Nat) : ∀ n, nmS (boxS σ k v) i n = nmS σ i n
  | 0 => rfl
  | n + 1 => by rw [nmS, nmS, nmS_bx σ k v i n, show rk (boxS σ k v) = rk σ from rfl]; rfl
theorem nmI_bx (σ : Sg) (k v i : Nat) : nmI (boxS σ k v) i = nmI σ i := nmS_bx σ k v i _
theorem okM_bx (σ : Sg) (k v m i : Nat) : okM (boxS σ k v) m i = okM σ m i := by
  unfold okM
  rw [sdA_bx, nmI_bx, show putM (boxS σ k v) = putM σ from rfl, show abI (boxS σ k v) = abI σ from rfl]
theorem rowM_bx (σ : Sg) (k v N : Nat) : ∀ c m, rowM (boxS σ k v) N c m = rowM σ N c m
  | 0, m => rfl
  | c + 1, m => by
    rw [rowM_s, rowM_s, show rowF (boxS σ k v) N c m = rowF σ N c m from funext (fun i => by unfold rowF; rw [okM_bx, nmI_bx, rowM_bx σ k v N c])]
theorem theRow_bx (σ : Sg) (k v : Nat) : theRow (boxS σ k v) = theRow σ := rowM_bx σ k v _ _ _
theorem cvM_bx (σ : Sg) (k v : Nat) : cvM (boxS σ k v) = cvM σ := rfl
theorem opn_bx (σ : Sg) (k v : Nat) : opn (boxS σ k v) = opn σ := rfl
theorem wRt_bx (σ : Sg) (k v : Nat) : wRt (boxS σ k v) = wRt σ := rfl
theorem wBh_bx (σ : Sg) (k v : Nat) : wBh (boxS σ k v) = wBh σ := rfl
theorem cvN_bx (σ : Sg) (k v c z : Nat) : cvN (boxS σ k v) c z = cvN σ c z := by
  unfold cvN vW; rw [opn_bx, wRt_bx, wBh_bx]
theorem cvL_bx (σ : Sg) (k v c z : Nat) : cvL (boxS σ k v) c z = cvL σ c z := by
  unfold cvL; rw [cvN_bx, opn_bx, wRt_bx, wBh_bx]
theorem cvD_bx (σ : Sg) (k v c z : Nat) : cvD (boxS σ k v) c z = cvD σ c z := by
  unfold cvD vW; rw [opn_bx, wRt_bx, wBh_bx]; rfl
theorem CVI_bx {σ : Sg} {h : Hp} (k v : Nat) (c : CVI σ h) : CVI (boxS σ k v) h := by
  rcases c with q | ⟨col, z, h1, h2, r⟩
  · exact Or.inl q
  · refine Or.inr ⟨col, z, h1, h2, ?_⟩
    unfold CVr
    rw [cvM_bx, cvN_bx, cvL_bx, cvD_bx]
    exact r
def OCI (σ : Sg) (h : Hp) : Prop := gI_ h 328 = 0 ∨ OCr σ h
theorem OCI_bx {σ : Sg} {h : Hp} (k v : Nat) (c : OCI σ h) : OCI (boxS σ k v) h := by
  rcases c with q | q
  · exact Or.inl q
  · right
    unfold OCr at q ⊢
    rw [theRow_bx, show nB (boxS σ k v) = nB σ from rfl]
    exact q
theorem OCI.sm {σ : Sg} {h h' : Hp} {wI wJ wA wL : List Nat} (c : OCI σ h) (s : Sm wI wJ wA wL h h') (hw : (∀ k ∈ [327, 328], k ∉ wI) ∧ 35 ∉ wA) : OCI σ h' := by
  rcases c with q | q
  · left; rw [s.1 328 (hw.1 328 (by decide))]; exact q
  · right
    unfold OCr at q ⊢
    rw [s.1 327 (hw.1 327 (by decide)), s.2.2.1 35 hw.2]
    exact q
/-! ===== what holds between the calls ===== -/
def Jv (σ : Sg) (h : Hp) : Prop := Wf σ ∧ RepM σ h ∧ RepC σ h ∧ RR h ∧ CVI σ h ∧ OCI σ h
def nC : List Nat × List Nat × List Nat × List Nat := ([138, 259], [139, 140], [8, 9, 12, 13, 14, 15, 16, 17, 21], [18, 19, 20])
theorem RRq {h h1 h2 : Hp} {j : Nat} (rr : RR h) (e37 : gA_ h1 37 = gA_ (rC h j) 37) (e38 : gA_ h1 38 = gA_ h 38) (f37 : gA_ h2 37 = gA_ h1 37) (f38 : gA_ h2 38 = gA_ (rM h1 j) 38) : RR h2 := fun i hi => by
  have := RR.both rr e37 e38 i hi
  rw [(sm_rM h1 j).2.2.1 37 (by decide)] at this
  rw [f37, f38]; exact this
theorem Jq {σ : Sg} {h h1 h2 : Hp} {j : Nat} {wI wJ wA wL vI vJ vA vL : List Nat} (I : Jv σ h) (s1 : Sm wI wJ wA wL h h1)
    (d1 : (∀ k ∈ [138, 259, 458, 459], k ∉ wI) ∧ (∀ k ∈ [139, 140, 460], k ∉ wJ) ∧ (∀ k ∈ [8, 9, 12, 13, 14, 15, 16, 17, 21, 38, 39, 40, 41, 42, 43, 44, 45, 46, 47], k ∉ wA) ∧ ∀ k ∈ [18, 19, 20], k ∉ wL)
    (cv : CVI σ h1) (oc : OCI σ h1) (e37 : gA_ h1 37 = gA_ (rC h j) 37) (s2 : Sm vI vJ vA vL h1 h2)
    (d2 : (∀ k ∈ [138, 259, 458, 459, 203, 204, 205, 206, 207, 327, 328], k ∉ vI) ∧ (∀ k ∈ [139, 140, 460], k ∉ vJ) ∧ (∀ k ∈ [8, 9, 12, 13, 14, 15, 16, 17, 21, 30, 35, 37, 39, 40, 41, 42, 43, 44, 45, 46, 47], k ∉ vA) ∧ ∀ k ∈ [18, 19, 20], k ∉ vL)
    (f38 : gA_ h2 38 = gA_ (rM h1 j) 38) : Jv σ h2 := by
  obtain ⟨hw, hm, hc, rr, -, -⟩ := I
  obtain ⟨a1, a2, a3, a4⟩ := d1
  obtain ⟨b1, b2, b3, b4⟩ := d2
  have hm1 : RepM σ h1 := hm.sm s1 ⟨fun k hk => a1 k (by revert k; decide), a2 460 (by decide), fun k hk => a3 k (by revert k; decide)⟩
  have hc1 : RepC σ h1 := hc.sm s1 ⟨fun k hk => a1 k (by revert k; decide), fun k hk => a2 k (by revert k; decide), fun k hk => a3 k (by revert k; decide), a4⟩
  exact ⟨hw, hm1.sm s2 ⟨fun k hk => b1 k (by revert k; decide), b2 460 (by decide), fun k hk => b3 k (by revert k; decide)⟩, hc1.sm s2 ⟨fun k hk => b1 k (by revert k; decide), fun k hk => b2 k (by revert k; decide), fun k hk => b3 k (by revert k; decide), b4⟩, RRq rr e37 (s1.2.2.1 38 (a3 38 (by decide))) (s2.2.2.1 37 (b3 37 (by decide))) f38, cv.sm s2 ⟨fun k hk => b1 k (by revert k; decide), b3 30 (by decide)⟩, oc.sm s2 ⟨fun k hk => b1 k (by revert k; decide), b3 35 (by decide)⟩⟩
/-- both answer alike, and what holds goes on to hold -/
def Sgo (F6 F7 : Hp → Option (Int32 × Hp)) (h : Hp) : Prop := ∃ v h1 h2, F6 h = some (v, h1) ∧ F7 h1 = some (v, h2) ∧ ∃ σ', Jv σ' h2
theorem Sgo.c {F6 F7 : Hp → Option (Int32 × Hp)} {σ : Sg} {h : Hp} {a : Int32 × Nat × Sg} {wI wJ wA wL vI vJ vA vL : List Nat} (I : Jv σ h) (hwf : Wf a.2.2) (C : CS true σ h a (F6 h)) (M : ∀ h1, RepM σ h1 → MS σ h1 a (F7 h1))
    (w6 : ∀ r h1, F6 h = some (r, h1) → Sm wI wJ wA wL h h1) (d6 : (∀ k ∈ [458, 459], k ∉ wI) ∧ (460 ∉ wJ) ∧ ∀ k ∈ [38, 39, 40, 41, 42, 43, 44, 45, 46, 47], k ∉ wA)
    (w7 : ∀ h1 r h2, F7 h1 = some (r, h2) → Sm vI vJ vA vL h1 h2) (d7 : (∀ k ∈ [138, 259, 203, 204, 205, 206, 207, 327, 328], k ∉ vI) ∧ (∀ k ∈ [139, 140], k ∉ vJ) ∧ (∀ k ∈ [8, 9, 12, 13, 14, 15, 16, 17, 21, 30, 35, 37], k ∉ vA) ∧ ∀ k ∈ [18, 19, 20], k ∉ vL) : Sgo F6 F7 h := by
  obtain ⟨hw, hm, hc, rr, cv, oc⟩ := I
  obtain ⟨h1, e6, r6⟩ := C
  have s1 := w6 _ _ e6
  have hm1 : RepM σ h1 := hm.sm s1 ⟨d6.1, d6.2.1, fun k hk => d6.2.2 k (by revert k; decide)⟩
  obtain ⟨h2, e7, r7⟩ := M h1 hm1
  have s2 := w7 _ _ _ e7
  obtain ⟨b1, b2, b3, b4⟩ := d7
  have f37 : gA_ h2 37 = gA_ h1 37 := s2.2.2.1 37 (b3 37 (by decide))
  have e38 : gA_ h1 38 = gA_ h 38 := s1.2.2.1 38 (d6.2.2 38 (by decide))
  have dC : (∀ k ∈ [138, 259], k ∉ vI) ∧ (∀ k ∈ [139, 140], k ∉ vJ) ∧ (∀ k ∈ [8, 9, 12, 13, 14, 15, 16, 17, 21], k ∉ vA) ∧ ∀ k ∈ [18, 19, 20], k ∉ vL := ⟨fun k hk => b1 k (by revert k; decide), b2, fun k hk => b3 k (by revert k; decide), b4⟩
  have dV : (∀ k ∈ [203, 204, 205, 206, 207], k ∉ vI) ∧ 30 ∉ vA := ⟨fun k hk => b1 k (by revert k; decide), b3 30 (by decide)⟩
  have dO : (∀ k ∈ [327, 328], k ∉ vI) ∧ 35 ∉ vA := ⟨fun k hk => b1 k (by revert k; decide), b3 35 (by decide)⟩
  refine ⟨a.1, h1, h2, e6, e7, a.2.2, ?_⟩
  rcases r6 with ⟨n0, es, eh⟩ | ⟨z0, rc, r37, rk2⟩
  · rcases r7 with ⟨-, -, eh2⟩ | ⟨z0', -⟩
    · have hc1 : RepC σ h1 := by rw [eh]; exact hc.sm (sm_rC h _) (by decide)
      have cv1 : CVI σ h1 := by rw [eh]; exact cv.sm (sm_rC h _) (by decide)
      have oc1 : OCI σ h1 := by rw [eh]; exact oc.sm (sm_rC h _) (by decide)
      rw [es]
      exact ⟨hw, by rw [eh2]; exact hm1.sm (sm_rM h1 _) (by decide), hc1.sm s2 dC, RRq rr (by rw [eh]) e38 f37 (by rw [eh2]), cv1.sm s2 dV, oc1.sm s2 dO⟩
    · exact absurd z0' n0
  · rcases r7 with ⟨n0, -⟩ | ⟨-, rm, r38⟩
    · exact absurd z0 n0
    · obtain ⟨k1, k2⟩ := rk2 rfl
      exact ⟨hwf, rm, rc.sm s2 dC, RRq (j := 0) rr (by rw [rC_0]; exact r37) e38 f37 (by rw [rM_0]; exact r38), CVI.sm (Or.inl k1) s2 dV, OCI.sm (Or.inl k2) s2 dO⟩
