/-! ===== the cells to be covered ===== -/
def opn (σ : Sg) (col z k : Nat) : Bool := decide (k < 36) && (decide (sBo σ (36 * z + k) = col) && (sGr σ (36 * z + k)).isNone)
def cvM (σ : Sg) (col z : Nat) : Nat := rkG (opn σ col z) 36
theorem opn_lt {σ : Sg} {col z k : Nat} (h : opn σ col z k = true) : k < 36 := by
  unfold opn at h
  rw [Bool.and_eq_true] at h
  exact of_decide_eq_true h.1
theorem cvM_le (σ : Sg) (col z : Nat) : cvM σ col z ≤ 36 := rkG_le _ 36
theorem k_coord {k : Nat} (hk : k < 36) : ir_ (nI k) 6 = nI (k % 6) ∧ nI k / 6 = nI (k / 6) := by
  rw [i_lit 6]
  exact ⟨i_rem (by omega) (by decide) (by decide), i_div (by omega) (by decide) (by decide)⟩
theorem f_colK {σ : Sg} {h : Hp} (hc : RepC σ h) {z k : Nat} (hz : z < 5) (hk : k < 36) : F_X0_colourAt (nI (k % 6)) (nI (k / 6)) (nI z) h = some (nI (sBo σ (36 * z + k))) := by
  rw [f_colourAt hc, boAt_n (by omega) (by omega) hz, show 36 * z + 6 * (k / 6) + k % 6 = 36 * z + k by omega]
theorem f_brK {σ : Sg} {h : Hp} (hc : RepC σ h) {z k : Nat} (hz : z < 5) (hk : k < 36) : F_X2_brickAt (nI (k % 6)) (nI (k / 6)) (nI z) h = some (gvB (sGr σ (36 * z + k))) := by
  rw [f_brickAt hc, grAt_n (by omega) (by omega) hz, show 36 * z + 6 * (k / 6) + k % 6 = 36 * z + k by omega]
theorem gvB_n {σ : Sg} (hw : Wf σ) (i : Nat) : gvB (sGr σ i) = -1 ↔ (sGr σ i).isNone = true := by
  cases q : sGr σ i with
  | none => exact ⟨fun _ => rfl, fun _ => rfl⟩
  | some b =>
    have := hw.2.2.2.2.1 i b q
    have h40 := hw.1
    exact ⟨fun w => absurd w (nI_nm1 (by omega)), fun w => by cases w⟩
def num (p : Nat → Bool) (k : Nat) : Int32 := if p k = true then nI (rkG p k) else -1
/-- what collectCells leaves -/
def CC (σ : Sg) (col z : Nat) (h : Hp) : Prop := RepC σ h ∧ gI_ h 206 = nI col ∧ gI_ h 207 = nI z ∧ gI_ h 203 = nI (cvM σ col z) ∧ (∀ k, k < 36 → gA_ h 23 k = num (opn σ col z) k) ∧ ∀ k, opn σ col z k = true → rkG (opn σ col z) k < 16 → gA_ h 22 (rkG (opn σ col z) k) = nI k
theorem C_coll7 {σ : Sg} (hw : Wf σ) {col z : Nat} (hcol : col ≤ 5) (hz : z < 5) : ∀ q n k h, q + k = 36 → q < n → RepC σ h → gI_ h 206 = nI col → gI_ h 207 = nI z → gI_ h 203 = nI (rkG (opn σ col z) k) → (∀ j, j < k → gA_ h 23 j = num (opn σ col z) j) → (∀ j, j < k → opn σ col z j = true → rkG (opn σ col z) j < 16 → gA_ h 22 (rkG (opn σ col z) j) = nI j) → ∃ h1, F_X3_collectCells_7 n (nI k) h = some h1 ∧ CC σ col z h1 := by
  intro q
  induction q with
  | zero =>
    intro n k h hq hn hc e6 e7 e3 a23 a22
    obtain ⟨n, rfl⟩ : ∃ j, n = j + 1 := ⟨n - 1, by omega⟩
    have e : k = 36 := by omega
    subst e
    exact ⟨h, by rw [F_X3_collectCells_7, if_pos (by decide)], hc, e6, e7, e3, a23, fun j hj => a22 j (opn_lt hj) hj⟩
  | succ q ih =>
    intro n k h hq hn hc e6 e7 e3 a23 a22
    obtain ⟨n, rfl⟩ : ∃ j, n = j + 1 := ⟨n - 1, by omega⟩
    have hk : k < 36 := by omega
    have hr := rkG_le (opn σ col z) k
    obtain ⟨k1, k2⟩ := k_coord hk
    have hBo := hw.2.1 (36 * z + k)
    have s1 : Sm [203] [] [22, 23] [] h (sA_ h 23 k (-1)) := sm_A (k := 23) (by decide) rfl sm_rf
    have c1 : RepC σ (sA_ h 23 k (-1)) := hc.sm s1 (by decide)
    have n1 : nI k + 1 = nI (k + 1) := nI_add k 1
    rw [F_X3_collectCells_7, if_neg (show ¬ (36 : Int32) ≤ nI k from (nI_ge hk (by decide) : ¬ nI 36 ≤ nI k)), wA_n _ 23 36 _ _ hk (by decide), k1, k2, show gI_ (sA_ h 23 k (-1)) 207 = nI z from e7, show gI_ (sA_ h 23 k (-1)) 206 = nI col from e6, show gI_ (sA_ h 23 k (-1)) 203 = nI (rkG (opn σ col z) k) from e3, f_colK c1 hz hk, ob_s, f_brK c1 hz hk, ob_s]
    unfold F_X3_collectCells_96 F_X3_collectCells_106
    rw [n1]
    have no : opn σ col z k = false → ∃ h1, F_X3_collectCells_7 n (nI (k + 1)) (sA_ h 23 k (-1)) = some h1 ∧ CC σ col z h1 := fun ho => by
      refine ih n (k + 1) _ (by omega) (by omega) c1 e6 e7 ?_ (fun j hj => ?_) (fun j hj oj rj => ?_)
      · rw [rkG_s, ho]; exact e3
      · show upd (gA_ h 23) k (-1) j = _
        by_cases w : j = k
        · subst w; rw [pk_us]; unfold num; rw [ho]; rfl
        · rw [pk_un w]; exact a23 j (by omega)
      · refine a22 j ?_ oj rj
        rcases Nat.lt_or_ge j k with w | w
        · exact w
        · have : j = k := by omega
          subst this; rw [ho] at oj; cases oj
    by_cases b1 : sBo σ (36 * z + k) = col
    · rw [if_pos (by rw [b1])]
      by_cases b2 : (sGr σ (36 * z + k)).isNone = true
      · have ho : opn σ col z k = true := by unfold opn; rw [decide_eq_true hk, decide_eq_true b1, b2]; rfl
        rw [if_pos ((gvB_n hw _).mpr b2), wA_n _ 23 36 _ _ hk (by decide), show gI_ (sA_ (sA_ h 23 k (-1)) 23 k (nI (rkG (opn σ col z) k))) 203 = nI (rkG (opn σ col z) k) from e3]
        have hs : rkG (opn σ col z) (k + 1) = rkG (opn σ col z) k + 1 := by rw [rkG_s, ho]; rfl
        have fin : ∀ h2, Sm [203] [] [22, 23] [] (sA_ h 23 k (-1)) h2 → gI_ h2 206 = nI col → gI_ h2 207 = nI z → gI_ h2 203 = nI (rkG (opn σ col z) k) → gA_ h2 23 = upd (upd (gA_ h 23) k (-1)) k (nI (rkG (opn σ col z) k)) → (∀ j, j < k + 1 → opn σ col z j = true → rkG (opn σ col z) j < 16 → gA_ h2 22 (rkG (opn σ col z) j) = nI j) → ∃ h1, F_X3_collectCells_7 n (nI (k + 1)) (sI_ h2 203 (nI (rkG (opn σ col z) k) + 1)) = some h1 ∧ CC σ col z h1 := fun h2 s2 f6 f7 f3 f23 f22 => by
          have s3 : Sm [203] [] [22, 23] [] h2 (sI_ h2 203 (nI (rkG (opn σ col z) k) + 1)) := sm_I (k := 203) (by decide) rfl sm_rf
          refine ih n (k + 1) _ (by omega) (by omega) ((c1.sm s2 (by decide)).sm s3 (by decide)) f6 f7 ?_ (fun j hj => ?_) f22
          · rw [gI_sI, if_pos rfl, hs]; exact nI_add _ 1
          · show gA_ h2 23 j = _
            rw [f23]
            by_cases w : j = k
            · subst w; rw [pk_us]; unfold num; rw [ho]; rfl
            · rw [pk_un w, pk_un w]; exact a23 j (by omega)
        by_cases g : 16 ≤ rkG (opn σ col z) k
        · rw [if_pos (show (16 : Int32) ≤ nI (rkG (opn σ col z) k) from (nI_le g (by omega) : nI 16 ≤ _)), bd_e]
          refine fin _ (sm_A (k := 23) (by decide) rfl sm_rf) e6 e7 e3 rfl (fun j hj oj rj => ?_)
          refine a22 j ?_ oj rj
          rcases Nat.lt_or_ge j k with w | w
          · exact w
          · have : j = k := by omega
            subst this; omega
        · rw [if_neg (show ¬ (16 : Int32) ≤ nI (rkG (opn σ col z) k) from (nI_ge (by omega) (by decide) : ¬ nI 16 ≤ _)), wA_n _ 22 16 _ _ (by omega) (by decide), bd_e, show gI_ (sA_ (sA_ (sA_ h 23 k (-1)) 23 k (nI (rkG (opn σ col z) k))) 22 (rkG (opn σ col z) k) (nI k)) 203 = nI (rkG (opn σ col z) k) from e3]
          refine fin _ (sm_A (k := 23) (by decide) rfl (sm_A (k := 22) (by decide) rfl sm_rf)) e6 e7 e3 rfl (fun j hj oj rj => ?_)
          show upd (gA_ h 22) (rkG (opn σ col z) k) (nI k) (rkG (opn σ col z) j) = nI j
          by_cases w : j = k
          · subst w; rw [pk_us]
          · rw [pk_un (fun u => w (rkG_inj oj ho u))]
            exact a22 j (by omega) oj rj
      · rw [if_neg (fun w => b2 ((gvB_n hw _).mp w))]
        refine no ?_
        unfold opn
        cases q2 : (sGr σ (36 * z + k)).isNone with
        | false => simp
        | true => exact absurd q2 b2
    · rw [if_neg (fun w => b1 ((i_eq (by omega) (by omega)).mp w))]
      refine no ?_
      unfold opn
      rw [decide_eq_false b1]; simp
theorem C_collect {σ : Sg} {h : Hp} (hw : Wf σ) (hc : RepC σ h) {col z : Nat} (hcol : col ≤ 5) (hz : z < 5) (e6 : gI_ h 206 = nI col) (e7 : gI_ h 207 = nI z) : ∃ h1, F_X3_collectCells h = some h1 ∧ CC σ col z h1 := by
  unfold F_X3_collectCells
  rw [bd_e]
  have s : Sm [203] [] [] [] h (sI_ h 203 0) := sm_I (k := 203) (by decide) rfl sm_rf
  exact C_coll7 hw hcol hz 36 FU_ 0 (sI_ h 203 0) (by omega) (by unfold FU_; omega) (hc.sm s (by decide)) e6 e7 (by rw [gI_sI, if_pos rfl]; rfl) (fun j hj => by omega) (fun j hj => by omega)
/-! weights -/
def wRt (σ : Sg) (z k : Nat) : Nat := b1n (sRt σ (nI (k % 6)) (nI (k / 6)) (nI z - 1)) + b1n (sRt σ (nI (k % 6)) (nI (k / 6)) (nI z + 1))
def wBh (σ : Sg) (z k : Nat) : Nat := b1n (sBh σ (nI (k % 6)) (nI (k / 6)) (nI z - 1)) + b1n (sBh σ (nI (k % 6)) (nI (k / 6)) (nI z + 1))
theorem b1_le (b : Bool) : b1n b ≤ 1 := by cases b <;> decide
theorem wRt_le (σ : Sg) (z k : Nat) : wRt σ z k ≤ 2 := by
  unfold wRt
  have := b1_le (sRt σ (nI (k % 6)) (nI (k / 6)) (nI z - 1))
  have := b1_le (sRt σ (nI (k % 6)) (nI (k / 6)) (nI z + 1))
  omega
theorem wBh_le (σ : Sg) (z k : Nat) : wBh σ z k ≤ 2 := by
  unfold wBh
  have := b1_le (sBh σ (nI (k % 6)) (nI (k / 6)) (nI z - 1))
  have := b1_le (sBh σ (nI (k % 6)) (nI (k / 6)) (nI z + 1))
  omega
theorem b_sum (a b : Bool) : (nI (b1n a) + nI (b1n b)) = nI (b1n a + b1n b) := nI_add _ _
theorem C_weigh1 {σ : Sg} {h : Hp} (hw : Wf σ) (hc : RepC σ h) {z k : Nat} (hk : k < 36) (e7 : gI_ h 207 = nI z) (n : Nat) : F_X3_weighPairs_2 (n + 1) (nI k) h = F_X3_weighPairs_2 n (nI (k + 1)) (sA_ (sA_ h 24 k (nI (wRt σ z k))) 25 k (nI (wBh σ z k))) := by
  have gen : ∀ G, F_X3_weighPairs_2 n = G → F_X3_weighPairs_2 (n + 1) (nI k) h = G (nI (k + 1)) (sA_ (sA_ h 24 k (nI (wRt σ z k))) 25 k (nI (wBh σ z k))) := fun G hG => by
    obtain ⟨k1, k2⟩ := k_coord hk
    have n1 : nI k + 1 = nI (k + 1) := nI_add k 1
    have p122 : ∀ (a b : Bool) h2, (if bi_ b = 0 then F_X3_weighPairs_122 G (nI k) (nI k) (nI (b1n a)) 0 h2 else F_X3_weighPairs_122 G (nI k) (nI k) (nI (b1n a)) 1 h2) = G (nI (k + 1)) (sA_ h2 25 k (nI (b1n a + b1n b))) := fun a b h2 => by
      have e : ∀ v, F_X3_weighPairs_122 G (nI k) (nI k) (nI (b1n a)) v h2 = G (nI (k + 1)) (sA_ h2 25 k (nI (b1n a) + v)) := fun v => by
        unfold F_X3_weighPairs_122
        rw [wA_n _ 25 36 _ _ hk (by decide), n1]
      rw [e, e, ← b_sum]
      cases b <;> rfl
    have p99 : ∀ (a : Bool) h2, RepC σ h2 → gI_ h2 207 = nI z → F_X3_weighPairs_99 G (nI k) (nI (k % 6)) (nI (k / 6)) (nI k) (nI (b1n a)) h2 = G (nI (k + 1)) (sA_ h2 25 k (nI (b1n a + b1n (sBh σ (nI (k % 6)) (nI (k / 6)) (nI z + 1))))) := fun a h2 c2 e2 => by
      unfold F_X3_weighPairs_99
      rw [e2, f_seamB hw c2, ob_s, p122]
    have p69 : ∀ (a b : Bool), (if bi_ b = 0 then F_X3_weighPairs_69 G (nI k) (nI (k % 6)) (nI (k / 6)) (nI k) (nI (b1n a)) 0 h else F_X3_weighPairs_69 G (nI k) (nI (k % 6)) (nI (k / 6)) (nI k) (nI (b1n a)) 1 h) = G (nI (k + 1)) (sA_ (sA_ h 24 k (nI (b1n a + b1n b))) 25 k (nI (wBh σ z k))) := fun a b => by
      have e : ∀ v, F_X3_weighPairs_69 G (nI k) (nI (k % 6)) (nI (k / 6)) (nI k) (nI (b1n a)) v h = G (nI (k + 1)) (sA_ (sA_ h 24 k (nI (b1n a) + v)) 25 k (nI (wBh σ z k))) := fun v => by
        have s : Sm [] [] [24] [] h (sA_ h 24 k (nI (b1n a) + v)) := sm_A (k := 24) (by decide) rfl sm_rf
        have c2 := hc.sm s (by decide)
        have e2 : gI_ (sA_ h 24 k (nI (b1n a) + v)) 207 = nI z := e7
        unfold F_X3_weighPairs_69
        rw [wA_n _ 24 36 _ _ hk (by decide), e2, f_seamB hw c2, ob_s]
        unfold wBh
        cases sBh σ (nI (k % 6)) (nI (k / 6)) (nI z - 1) with
        | false => rw [if_pos b0_]; exact p99 false _ c2 e2
        | true => rw [if_neg b1_]; exact p99 true _ c2 e2
      rw [e, e, ← b_sum]
      cases b <;> rfl
    rw [F_X3_weighPairs_2, hG, if_neg (show ¬ (36 : Int32) ≤ nI k from (nI_ge hk (by decide) : ¬ nI 36 ≤ nI k)), k1, k2, e7, f_seamR hw hc, ob_s]
    unfold F_X3_weighPairs_46
    rw [e7, f_seamR hw hc, ob_s]
    unfold wRt
    cases sRt σ (nI (k % 6)) (nI (k / 6)) (nI z - 1) with
    | false => rw [if_pos b0_]; exact p69 false _
    | true => rw [if_neg b1_]; exact p69 true _
  exact gen _ rfl
def CW (σ : Sg) (z : Nat) (h : Hp) : Prop := ∀ k, k < 36 → gA_ h 24 k = nI (wRt σ z k) ∧ gA_ h 25 k = nI (wBh σ z k)
theorem C_weigh {σ : Sg} {h : Hp} (hw : Wf σ) {col z : Nat} (hC : CC σ col z h) : ∃ h1, F_X3_weighPairs h = some h1 ∧ CC σ col z h1 ∧ CW σ z h1 := by
  have key : ∀ q n k h, q + k = 36 → q < n → RepC σ h → gI_ h 207 = nI z → (∀ j, j < k → gA_ h 24 j = nI (wRt σ z j) ∧ gA_ h 25 j = nI (wBh σ z j)) → ∃ h1, F_X3_weighPairs_2 n (nI k) h = some h1 ∧ CW σ z h1 := by
    intro q
    induction q with
    | zero =>
      intro n k h hq hn hc e7 a
      obtain ⟨n, rfl⟩ : ∃ j, n = j + 1 := ⟨n - 1, by omega⟩
      have e : k = 36 := by omega
      subst e
      exact ⟨h, by rw [F_X3_weighPairs_2, if_pos (by decide)], a⟩
    | succ q ih =>
      intro n k h hq hn hc e7 a
      obtain ⟨n, rfl⟩ : ∃ j, n = j + 1 := ⟨n - 1, by omega⟩
      rw [C_weigh1 hw hc (show k < 36 by omega) e7]
      have s3 : Sm [] [] [24, 25] [] h (sA_ (sA_ h 24 k (nI (wRt σ z k))) 25 k (nI (wBh σ z k))) := sm_A (k := 24) (by decide) rfl (sm_A (k := 25) (by decide) rfl sm_rf)
      refine ih n (k + 1) _ (by omega) (by omega) (hc.sm s3 (by decide)) e7 (fun j hj => ?_)
      show upd (gA_ h 24) k (nI (wRt σ z k)) j = _ ∧ upd (gA_ h 25) k (nI (wBh σ z k)) j = _
      by_cases w : j = k
      · subst w; rw [pk_us, pk_us]; exact ⟨rfl, rfl⟩
      · rw [pk_un w, pk_un w]; exact a j (by omega)
  obtain ⟨h1, e, w⟩ := key 36 FU_ 0 h (by omega) (by unfold FU_; omega) hC.1 hC.2.2.1 (fun j hj => by omega)
  have s := w_X3_weighPairs h h1 e
  refine ⟨h1, e, ⟨hC.1.sm s (by decide), ?_, ?_, ?_, ?_, ?_⟩, w⟩
  · rw [s.1 206 (by decide)]; exact hC.2.1
  · rw [s.1 207 (by decide)]; exact hC.2.2.1
  · rw [s.1 203 (by decide)]; exact hC.2.2.2.1
  · rw [s.2.2.1 23 (by decide)]; exact hC.2.2.2.2.1
  · rw [s.2.2.1 22 (by decide)]; exact hC.2.2.2.2.2
