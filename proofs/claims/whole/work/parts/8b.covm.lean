/-! ===== the reference: the cells to be covered, costs, shapes ===== -/
def numM (p : Nat → Bool) (k : Nat) : Int32 := if p k = true then nI (rkG p k) else -9
def MC (σ : Sg) (col z : Nat) (h : Hp) : Prop := RepM σ h ∧ gI_ h 472 = nI (cvM σ col z) ∧ (∀ k, k < 36 → gA_ h 57 k = numM (opn σ col z) k) ∧ ∀ k, opn σ col z k = true → gA_ h 54 (rkG (opn σ col z) k) = nI (36 * z + k)
theorem MC.sm {σ : Sg} {col z : Nat} {h h' : Hp} {wI wA : List Nat} (c : MC σ col z h) (s : Sm wI [] wA [] h h') (hw : (∀ k ∈ [458, 459, 472], k ∉ wI) ∧ ∀ k ∈ [39, 40, 41, 42, 43, 44, 45, 46, 47, 54, 57], k ∉ wA) : MC σ col z h' := by
  obtain ⟨w1, w2⟩ := hw
  refine ⟨c.1.sm s ⟨fun k hk => w1 k (by revert k; decide), by decide, fun k hk => w2 k (by revert k; decide)⟩, ?_, ?_, ?_⟩
  · rw [s.1 472 (w1 472 (by decide))]; exact c.2.1
  · rw [s.2.2.1 57 (w2 57 (by decide))]; exact c.2.2.1
  · rw [s.2.2.1 54 (w2 54 (by decide))]; exact c.2.2.2
theorem M_wrong27 {σ : Sg} (hw : Wf σ) {col z : Nat} (hcol : col ≤ 5) (hz : z < 5) (K : Hp → Option (Int32 × Hp)) : ∀ q n k h, q + k = 36 → q < n → RepM σ h → gI_ h 472 = nI (rkG (opn σ col z) k) → (∀ j, j < k → gA_ h 57 j = numM (opn σ col z) j) → (∀ j, j < k → opn σ col z j = true → gA_ h 54 (rkG (opn σ col z) j) = nI (36 * z + j)) → ∃ h1, F_X7_wrongCover_27 n K (nI col) (nI z) (nI k) h = K h1 ∧ MC σ col z h1 ∧ gA_ h1 38 = gA_ h 38 := by
  intro q
  induction q with
  | zero =>
    intro n k h hq hn hm e2 a57 a54
    obtain ⟨n, rfl⟩ : ∃ j, n = j + 1 := ⟨n - 1, by omega⟩
    have e : k = 36 := by omega
    subst e
    exact ⟨h, by rw [F_X7_wrongCover_27, if_pos (by decide)], ⟨hm, e2, a57, fun j hj => a54 j (opn_lt hj) hj⟩, rfl⟩
  | succ q ih =>
    intro n k h hq hn hm e2 a57 a54
    obtain ⟨n, rfl⟩ : ∃ j, n = j + 1 := ⟨n - 1, by omega⟩
    have hk : k < 36 := by omega
    have hr := rkG_le (opn σ col z) k
    have hBo := hw.2.1 (36 * z + k)
    have ec : (36 : Int32) * nI z + nI k = nI (36 * z + k) := by rw [i_lit 36, pk_mul, nI_add]
    have s1 : Sm [472] [] [54, 57] [] h (sA_ h 57 k (-9)) := sm_A (k := 57) (by decide) rfl sm_rf
    have m1 : RepM σ (sA_ h 57 k (-9)) := hm.sm s1 (by decide)
    rw [F_X7_wrongCover_27, if_neg (show ¬ (36 : Int32) ≤ nI k from (nI_ge hk (by decide) : ¬ nI 36 ≤ nI k)), wA_n _ 57 36 _ _ hk (by decide), ec, rA_n _ 39 180 _ (by omega) (by decide), m1.1 _ (by omega), rA_n _ 40 180 _ (by omega) (by decide), m1.2.1 _ (by omega), show gI_ (sA_ h 57 k (-9)) 472 = nI (rkG (opn σ col z) k) from e2]
    unfold F_X7_wrongCover_108
    rw [show nI k + 1 = nI (k + 1) from nI_add k 1]
    have no : opn σ col z k = false → ∃ h1, F_X7_wrongCover_27 n K (nI col) (nI z) (nI (k + 1)) (sA_ h 57 k (-9)) = K h1 ∧ MC σ col z h1 ∧ gA_ h1 38 = gA_ h 38 := fun ho => by
      refine ih n (k + 1) _ (by omega) (by omega) m1 ?_ (fun j hj => ?_) (fun j hj oj => ?_)
      · rw [rkG_s, ho]; exact e2
      · show upd (gA_ h 57) k (-9) j = _
        by_cases w : j = k
        · subst w; rw [pk_us]; unfold numM; rw [ho]; rfl
        · rw [pk_un w]; exact a57 j (by omega)
      · refine a54 j ?_ oj
        rcases Nat.lt_or_ge j k with w | w
        · exact w
        · have : j = k := by omega
          subst this; rw [ho] at oj; cases oj
    by_cases b1 : sBo σ (36 * z + k) = col
    · rw [if_pos (by rw [b1])]
      by_cases b2 : sGr σ (36 * z + k) = none
      · have ho : opn σ col z k = true := by unfold opn; rw [decide_eq_true hk, decide_eq_true b1, b2]; rfl
        rw [if_pos ((gvM_neg hw _).mpr b2), wA_n _ 57 36 _ _ hk (by decide), show gI_ (sA_ (sA_ h 57 k (-9)) 57 k (nI (rkG (opn σ col z) k))) 472 = nI (rkG (opn σ col z) k) from e2, wA_n _ 54 36 _ _ (by omega) (by decide), bd_e]
        have s2 : Sm [472] [] [54, 57] [] (sA_ h 57 k (-9)) (sI_ (sA_ (sA_ (sA_ h 57 k (-9)) 57 k (nI (rkG (opn σ col z) k))) 54 (rkG (opn σ col z) k) (nI (36 * z + k))) 472 (gI_ (sA_ (sA_ (sA_ h 57 k (-9)) 57 k (nI (rkG (opn σ col z) k))) 54 (rkG (opn σ col z) k) (nI (36 * z + k))) 472 + 1)) := sm_A (k := 57) (by decide) rfl (sm_A (k := 54) (by decide) rfl (sm_I (k := 472) (by decide) rfl sm_rf))
        have hs : rkG (opn σ col z) (k + 1) = rkG (opn σ col z) k + 1 := by rw [rkG_s, ho]; rfl
        refine ih n (k + 1) _ (by omega) (by omega) (m1.sm s2 (by decide)) ?_ (fun j hj => ?_) (fun j hj oj => ?_)
        · rw [gI_sI, if_pos rfl, hs]
          show gI_ h 472 + 1 = _
          rw [e2]; exact nI_add _ 1
        · show upd (upd (gA_ h 57) k (-9)) k (nI (rkG (opn σ col z) k)) j = _
          by_cases w : j = k
          · subst w; rw [pk_us]; unfold numM; rw [ho]; rfl
          · rw [pk_un w, pk_un w]; exact a57 j (by omega)
        · show upd (gA_ h 54) (rkG (opn σ col z) k) (nI (36 * z + k)) (rkG (opn σ col z) j) = _
          by_cases w : j = k
          · subst w; rw [pk_us]
          · rw [pk_un (fun u => w (rkG_inj oj ho u))]; exact a54 j (by omega) oj
      · rw [if_neg (fun w => b2 ((gvM_neg hw _).mp w))]
        refine no ?_
        unfold opn
        cases q2 : sGr σ (36 * z + k) with
        | none => exact absurd q2 b2
        | some b => simp
    · rw [if_neg (fun w => b1 ((i_eq (by omega) (by omega)).mp w))]
      refine no ?_
      unfold opn
      rw [decide_eq_false b1]; simp
theorem M_wrong {σ : Sg} {h : Hp} (hw : Wf σ) (hm : RepM σ h) {col z : Nat} (hcol : 1 ≤ col ∧ col ≤ 5) (hz : z < 5) : ∃ h1, F_X7_wrongCover (nI col) (nI z) h = some ((if cvM σ col z ≤ 16 then 0 else -6), h1) ∧ MC σ col z h1 ∧ gA_ h1 38 = gA_ h 38 := by
  have hM36 := cvM_le σ col z
  have i1 : inN (nI col - 1) 5 = true := by
    rw [show nI col - 1 = nI (col - 1) from nI_m1 hcol.1]
    exact n_inN (n := 5) (by omega) (by decide)
  unfold F_X7_wrongCover
  rw [f_isIn, i1, ob_s, if_neg b1_, f_isIn, show inN (nI z) 5 = true from n_inN (n := 5) hz (by decide), ob_s, if_neg b1_, bd_e]
  have s0 : Sm [472] [] [] [] h (sI_ h 472 0) := sm_I (k := 472) (by decide) rfl sm_rf
  obtain ⟨h1, e, r, e38⟩ := M_wrong27 hw hcol.2 hz F_X7_wrongCover_114 36 FU_ 0 (sI_ h 472 0) (by omega) (by unfold FU_; omega) (hm.sm s0 (by decide)) (by rw [gI_sI, if_pos rfl]; rfl) (fun j hj => by omega) (fun j hj => by omega)
  refine ⟨h1, ?_, r, e38⟩
  refine Eq.trans e ?_
  unfold F_X7_wrongCover_114
  rw [r.2.1]
  by_cases q : cvM σ col z ≤ 16
  · rw [if_pos (show nI (cvM σ col z) ≤ (16 : Int32) from (nI_le q (by decide) : nI (cvM σ col z) ≤ nI 16)), if_pos q]
  · rw [if_neg (show ¬ nI (cvM σ col z) ≤ (16 : Int32) from (nI_ge (by omega) (by omega) : ¬ nI (cvM σ col z) ≤ nI 16)), if_neg q]
/-! costs -/
theorem gr_dn {σ : Sg} {x y z : Nat} (hx : x < 6) (hy : y < 6) (hz : z < 5) : grAt σ (nI x) (nI y) (nI z - 1) = if 1 ≤ z then sGr σ (36 * (z - 1) + 6 * y + x) else none := by
  by_cases q : 1 ≤ z
  · rw [if_pos q, show nI z - 1 = nI (z - 1) from nI_m1 q, grAt_n hx hy (by omega)]
  · have : z = 0 := by omega
    subst this
    rw [if_neg q]
    unfold grAt
    rw [if_neg]
    intro w
    obtain ⟨a, b, c, ha, hb, hc', ea, eb, ec⟩ := inP_n w
    exact absurd ec.symm (nI_nm1 (by omega))
theorem gr_up {σ : Sg} {x y z : Nat} (hx : x < 6) (hy : y < 6) (hz : z < 5) : grAt σ (nI x) (nI y) (nI z + 1) = if z < 4 then sGr σ (36 * (z + 1) + 6 * y + x) else none := by
  rw [show nI z + 1 = nI (z + 1) from nI_add z 1]
  by_cases q : z < 4
  · rw [if_pos q, grAt_n hx hy (by omega)]
  · have : z = 4 := by omega
    subst this
    rw [if_neg q]
    unfold grAt
    rw [if_neg]
    intro w
    obtain ⟨a, b, c, ha, hb, hc', ea, eb, ec⟩ := inP_n w
    have := (i_eq (by omega) (by omega)).mp ec
    omega
theorem two_no (b : Option Nat) : twoB none b = false := by cases b <;> rfl
theorem twoIf {c : Prop} [Decidable c] (a b : Option Nat) : twoB (if c then a else none) (if c then b else none) = (decide c && twoB a b) := by
  by_cases q : c
  · rw [if_pos q, if_pos q, decide_eq_true q]; rfl
  · rw [if_neg q, if_neg q, decide_eq_false q]; rfl
theorem wRt_e {σ : Sg} {z k : Nat} (hz : z < 5) (hk : k < 36) (h5 : k % 6 < 5) : wRt σ z k = b1n (decide (1 ≤ z) && twoB (sGr σ (36 * z + k - 36)) (sGr σ (36 * z + (k + 1) - 36))) + b1n (decide (z < 4) && twoB (sGr σ (36 * z + k + 36)) (sGr σ (36 * z + (k + 1) + 36))) := by
  unfold wRt sRt
  rw [show nI (k % 6) + 1 = nI (k % 6 + 1) from nI_add _ 1, gr_dn (by omega) (by omega) hz, gr_dn (by omega) (by omega) hz, gr_up (by omega) (by omega) hz, gr_up (by omega) (by omega) hz, twoIf, twoIf]
  congr 1
  · by_cases q : 1 ≤ z
    · rw [show 36 * (z - 1) + 6 * (k / 6) + k % 6 = 36 * z + k - 36 by omega, show 36 * (z - 1) + 6 * (k / 6) + (k % 6 + 1) = 36 * z + (k + 1) - 36 by omega]
    · rw [decide_eq_false q]; rfl
  · rw [show 36 * (z + 1) + 6 * (k / 6) + k % 6 = 36 * z + k + 36 by omega, show 36 * (z + 1) + 6 * (k / 6) + (k % 6 + 1) = 36 * z + (k + 1) + 36 by omega]
theorem wBh_e {σ : Sg} {z k : Nat} (hz : z < 5) (hk : k < 36) (h5 : k / 6 < 5) : wBh σ z k = b1n (decide (1 ≤ z) && twoB (sGr σ (36 * z + k - 36)) (sGr σ (36 * z + (k + 6) - 36))) + b1n (decide (z < 4) && twoB (sGr σ (36 * z + k + 36)) (sGr σ (36 * z + (k + 6) + 36))) := by
  unfold wBh sBh
  rw [show nI (k / 6) + 1 = nI (k / 6 + 1) from nI_add _ 1, gr_dn (by omega) (by omega) hz, gr_dn (by omega) (by omega) hz, gr_up (by omega) (by omega) hz, gr_up (by omega) (by omega) hz, twoIf, twoIf]
  congr 1
  · by_cases q : 1 ≤ z
    · rw [show 36 * (z - 1) + 6 * (k / 6) + k % 6 = 36 * z + k - 36 by omega, show 36 * (z - 1) + 6 * (k / 6 + 1) + k % 6 = 36 * z + (k + 6) - 36 by omega]
    · rw [decide_eq_false q]; rfl
  · rw [show 36 * (z + 1) + 6 * (k / 6) + k % 6 = 36 * z + k + 36 by omega, show 36 * (z + 1) + 6 * (k / 6 + 1) + k % 6 = 36 * z + (k + 6) + 36 by omega]
theorem M_cost {σ : Sg} {h : Hp} (hw : Wf σ) (hm : RepM σ h) {z k j : Nat} (hz : z < 5) (hk : k < 36) (hj : j < 36) : F_X7_cost (nI (36 * z + k)) (nI (36 * z + j)) h = some (nI (b1n (decide (1 ≤ z) && twoB (sGr σ (36 * z + k - 36)) (sGr σ (36 * z + j - 36))) + b1n (decide (z < 4) && twoB (sGr σ (36 * z + k + 36)) (sGr σ (36 * z + j + 36))))) := by
  have p26 : ∀ a : Bool, F_X7_cost_26 (nI (36 * z + k)) (nI (36 * z + j)) (nI (b1n a)) h = some (nI (b1n a + b1n (decide (z < 4) && twoB (sGr σ (36 * z + k + 36)) (sGr σ (36 * z + j + 36))))) := fun a => by
    unfold F_X7_cost_26
    rw [i_lit 36, nI_add, nI_add]
    by_cases q : z < 4
    · rw [if_neg (show ¬ (180 : Int32) ≤ nI (36 * z + k + 36) from (nI_ge (by omega) (by decide) : ¬ nI 180 ≤ nI (36 * z + k + 36))), f_isSeam hw hm (by omega) (by omega), ob_s, decide_eq_true q, Bool.true_and]
      cases twoB (sGr σ (36 * z + k + 36)) (sGr σ (36 * z + j + 36)) with
      | false => rw [if_pos b0_]; exact congrArg some (nI_add _ 0)
      | true => rw [if_neg b1_]; exact congrArg some (nI_add _ 1)
    · rw [if_pos (show (180 : Int32) ≤ nI (36 * z + k + 36) from (nI_le (by omega) (by omega) : nI 180 ≤ nI (36 * z + k + 36))), decide_eq_false q]
      exact congrArg some (nI_add _ 0)
  unfold F_X7_cost F_X7_cost_25
  by_cases q : 1 ≤ z
  · rw [if_neg (show ¬ nI (36 * z + k) < (36 : Int32) from (nI_nlt (by omega) (by omega) : ¬ nI (36 * z + k) < nI 36)), i_lit 36, pk_sub (by omega), pk_sub (by omega), f_isSeam hw hm (by omega) (by omega), ob_s, decide_eq_true q, Bool.true_and]
    cases twoB (sGr σ (36 * z + k - 36)) (sGr σ (36 * z + j - 36)) with
    | false => rw [if_pos b0_]; exact p26 false
    | true => rw [if_neg b1_]; exact p26 true
  · rw [if_pos (show nI (36 * z + k) < (36 : Int32) from (nI_lt (by omega) (by decide) : nI (36 * z + k) < nI 36)), decide_eq_false q]
    exact p26 false
theorem M_costR {σ : Sg} {h : Hp} (hw : Wf σ) (hm : RepM σ h) {z k : Nat} (hz : z < 5) (hk : k < 36) (h5 : k % 6 < 5) : F_X7_cost (nI (36 * z + k)) (nI (36 * z + (k + 1))) h = some (nI (wRt σ z k)) := by
  rw [M_cost hw hm hz hk (by omega), wRt_e hz hk h5]
theorem M_costB {σ : Sg} {h : Hp} (hw : Wf σ) (hm : RepM σ h) {z k : Nat} (hz : z < 5) (hk : k < 36) (h5 : k / 6 < 5) : F_X7_cost (nI (36 * z + k)) (nI (36 * z + (k + 6))) h = some (nI (wBh σ z k)) := by
  rw [M_cost hw hm hz hk (by omega), wBh_e hz hk h5]
/-! shapes -/
theorem numM_pos {p : Nat → Bool} {k : Nat} (h : rkG p k < 2 ^ 31) : 0 ≤ numM p k ↔ p k = true := by
  unfold numM
  by_cases q : p k = true
  · rw [if_pos q]; exact ⟨fun _ => q, fun _ => nI_pos' h⟩
  · rw [if_neg q]; exact ⟨fun w => absurd w (by decide), fun w => absurd w q⟩
theorem M_shape {σ : Sg} {h : Hp} {col z : Nat} (hz : z < 5) (hM : cvM σ col z ≤ 16) (hC : MC σ col z h) {k kd t : Nat} (hk : opn σ col z k = true) (hkd : kd < 7) (ht : t < 2) : F_X7_shape (nI (rkG (opn σ col z) k)) (nI kd) (nI t) h = some (nI (cvK (opn σ col z) k (lX kd t) (lY kd t))) := by
  have hk36 := opn_lt hk
  have hkM := opn_rk hk
  have lx := lX_le (t := t) hkd
  have ly := lY_le (t := t) hkd
  obtain ⟨k1, k2⟩ := k_coord hk36
  have cell : ∀ (K : Int32 → Int32 → Int32 → Int32 → Int32 → Hp → Option Int32) n i j m, i < lY kd t → j < lX kd t → (okc (opn σ col z) k i j → F_X7_shape_30 (n + 1) K (nI kd) (nI t) (nI k) (nI m) (nI i) (nI j) h = F_X7_shape_30 n K (nI kd) (nI t) (nI k) (nI (m ||| 2 ^ rkG (opn σ col z) (k + 6 * i + j))) (nI i) (nI (j + 1)) h) ∧ (¬ okc (opn σ col z) k i j → F_X7_shape_30 (n + 1) K (nI kd) (nI t) (nI k) (nI m) (nI i) (nI j) h = some 0) := fun K n i j m hi hj => by
    have key : ∀ G, F_X7_shape_30 n K = G → F_X7_shape_30 (n + 1) K (nI kd) (nI t) (nI k) (nI m) (nI i) (nI j) h = if (6 : Int32) ≤ nI (k % 6 + j) then some 0 else if nI (k / 6 + i) < 6 then rA_ h 57 36 (nI (k + 6 * i + j)) fun v83 => if (0 : Int32) ≤ v83 then bd_ (nI m ||| (is_ 1 v83)) fun y100 => G (nI kd) (nI t) (nI k) y100 (nI i) (nI (j + 1)) h else some 0 else some 0 := fun G hG => by
      rw [F_X7_shape_30, hG, f_lengthX hkd ht, ob_s, if_neg (show ¬ nI (lX kd t) ≤ nI j from nI_ge hj (by omega)), k1, k2, nI_add, nI_add, i_lit 6, pk_mul, nI_add, nI_add, show nI j + 1 = nI (j + 1) from nI_add j 1]
    constructor
    · intro hok
      have hq := hok.2.2
      have hqM := opn_rk hq
      have hq36 := opn_lt hq
      rw [key _ rfl, if_neg (show ¬ (6 : Int32) ≤ nI (k % 6 + j) from (nI_ge hok.1 (by decide) : ¬ nI 6 ≤ nI (k % 6 + j))), if_pos (show nI (k / 6 + i) < (6 : Int32) from (nI_lt hok.2.1 (by decide) : nI (k / 6 + i) < nI 6)), rA_n _ 57 36 _ hq36 (by decide), hC.2.2.1 _ hq36, show numM (opn σ col z) (k + 6 * i + j) = nI (rkG (opn σ col z) (k + 6 * i + j)) from (by unfold numM; rw [if_pos hq]), if_pos (show 0 ≤ nI (rkG (opn σ col z) (k + 6 * i + j)) from nI_pos' (by omega)), bd_e, sh1 _ (by omega), nI_or]
    · intro hok
      rw [key _ rfl]
      by_cases q1 : 6 ≤ k % 6 + j
      · rw [if_pos (show (6 : Int32) ≤ nI (k % 6 + j) from (nI_le q1 (by omega) : nI 6 ≤ nI (k % 6 + j)))]
      · rw [if_neg (show ¬ (6 : Int32) ≤ nI (k % 6 + j) from (nI_ge (by omega) (by decide) : ¬ nI 6 ≤ nI (k % 6 + j)))]
        by_cases q2 : k / 6 + i < 6
        · have hq36 : k + 6 * i + j < 36 := by omega
          rw [if_pos (show nI (k / 6 + i) < (6 : Int32) from (nI_lt q2 (by decide) : nI (k / 6 + i) < nI 6)), rA_n _ 57 36 _ hq36 (by decide), hC.2.2.1 _ hq36, if_neg (fun w => hok ⟨by omega, q2, (numM_pos (by have := rkG_le (opn σ col z) (k + 6 * i + j); omega)).mp w⟩)]
        · rw [if_neg (show ¬ nI (k / 6 + i) < (6 : Int32) from (nI_nlt (by omega) (by omega) : ¬ nI (k / 6 + i) < nI 6))]
  have row : ∀ n0 i, i < lY kd t → ((∀ j, j < lX kd t → okc (opn σ col z) k i j) → F_X7_shape_17 (n0 + 1) (nI kd) (nI t) (nI k) (nI (mrec (opn σ col z) k (lX kd t) i)) (nI i) h = F_X7_shape_17 n0 (nI kd) (nI t) (nI k) (nI (mrec (opn σ col z) k (lX kd t) (i + 1))) (nI (i + 1)) h) ∧ ((∃ j, j < lX kd t ∧ ¬ okc (opn σ col z) k i j) → F_X7_shape_17 (n0 + 1) (nI kd) (nI t) (nI k) (nI (mrec (opn σ col z) k (lX kd t) i)) (nI i) h = some 0) := fun n0 i hi => by
    have e : ∀ G, F_X7_shape_17 n0 = G → F_X7_shape_17 (n0 + 1) (nI kd) (nI t) (nI k) (nI (mrec (opn σ col z) k (lX kd t) i)) (nI i) h = F_X7_shape_30 FU_ (F_X7_shape_108 G) (nI kd) (nI t) (nI k) (nI (mrec (opn σ col z) k (lX kd t) i)) (nI i) 0 h := fun G hG => by
      rw [F_X7_shape_17, hG, f_lengthY hkd ht, ob_s, if_neg (show ¬ nI (lY kd t) ≤ nI i from nI_ge hi (by omega))]
    constructor
    · intro hall
      rw [e _ rfl]
      refine (lp_FU (fun n j => F_X7_shape_30 n (F_X7_shape_108 (F_X7_shape_17 n0)) (nI kd) (nI t) (nI k) (nI (mrow (opn σ col z) (mrec (opn σ col z) k (lX kd t) i) (k + 6 * i) j)) (nI i) (nI j) h) _ (lX kd t) (by omega) (fun n j hj => (cell _ n i j _ hi hj).1 (hall j hj)) (fun n => ?_))
      show F_X7_shape_30 (n + 1) _ _ _ _ _ _ _ _ = _
      rw [F_X7_shape_30, f_lengthX hkd ht, ob_s, if_pos ((i_le (by omega) (by omega)).mpr (Nat.le_refl _)), F_X7_shape_108, show nI i + 1 = nI (i + 1) from nI_add i 1]
      rfl
    · rintro ⟨j, hj, hbad⟩
      rw [e _ rfl]
      exact lp_bad (fun n j => F_X7_shape_30 n (F_X7_shape_108 (F_X7_shape_17 n0)) (nI kd) (nI t) (nI k) (nI (mrow (opn σ col z) (mrec (opn σ col z) k (lX kd t) i) (k + 6 * i) j)) (nI i) (nI j) h) (some 0) (lX kd t) (fun j => ¬ okc (opn σ col z) k i j) (fun n j hj q => (cell _ n i j _ hi hj).1 (Classical.not_not.mp q)) (fun n j hj q => (cell _ n i j _ hi hj).2 q) FU_ 0 j (Nat.zero_le _) hj hbad (by unfold FU_; omega)
  unfold F_X7_shape
  rw [rA_n _ 54 36 _ (by omega) (by decide), hC.2.2.2 k hk, show ir_ (nI (36 * z + k)) 36 = nI k from (by rw [i_lit 36, i_rem (by omega) (by decide) (by decide)]; congr 1; omega)]
  rcases Classical.em (Fit (opn σ col z) k (lX kd t) (lY kd t)) with hF | hF
  · rw [cvK_f hF]
    refine lp_FU (fun n i => F_X7_shape_17 n (nI kd) (nI t) (nI k) (nI (mrec (opn σ col z) k (lX kd t) i)) (nI i) h) _ (lY kd t) (by omega) (fun n i hi => (row n i hi).1 (hF i hi)) (fun n => ?_)
    show F_X7_shape_17 (n + 1) _ _ _ _ _ _ = _
    rw [F_X7_shape_17, f_lengthY hkd ht, ob_s, if_pos ((i_le (by omega) (by omega)).mpr (Nat.le_refl _))]
  · rw [cvK_n hF]
    have hex : ∃ i, i < lY kd t ∧ ∃ j, j < lX kd t ∧ ¬ okc (opn σ col z) k i j := by
      rcases Classical.em (∃ i, i < lY kd t ∧ ∃ j, j < lX kd t ∧ ¬ okc (opn σ col z) k i j) with w | w
      · exact w
      · exact absurd (fun i hi j hj => Classical.byContradiction (fun u => w ⟨i, hi, j, hj, u⟩)) hF
    obtain ⟨i, hi, hbad⟩ := hex
    exact lp_bad (fun n i => F_X7_shape_17 n (nI kd) (nI t) (nI k) (nI (mrec (opn σ col z) k (lX kd t) i)) (nI i) h) (some (nI 0)) (lY kd t) (fun i => ∃ j, j < lX kd t ∧ ¬ okc (opn σ col z) k i j) (fun n i hi q => (row n i hi).1 (fun j hj => Classical.byContradiction (fun u => q ⟨j, hj, u⟩))) (fun n i hi q => (row n i hi).2 q) FU_ 0 i (Nat.zero_le _) hi hbad (by unfold FU_; omega)
