/-! ===== the reference: the best cover of every rest ===== -/
def ngI (b : Nat) : Int32 := zI (-(b : Int))
theorem ngI_0 : ngI 0 = 0 := by decide
theorem ngI_s {a b : Nat} : ngI a - nI b = ngI (b + a) := by
  unfold ngI
  rw [zI_n, zI_sub]
  congr 1
  omega
theorem ngI_lt {a b : Nat} (ha : a ≤ 1000) (hb : b ≤ 1000) : ngI a < ngI b ↔ b < a := by
  unfold ngI
  rw [zI_lt (by omega) (by omega)]
  omega
theorem ngI_eq {a b : Nat} (ha : a ≤ 1000) (hb : b ≤ 1000) : ngI a = ngI b ↔ a = b := by
  unfold ngI
  rw [i_eqT, zI_i (by omega), zI_i (by omega)]
  omega
theorem bS_lt (w : Nat) : bS w ≤ 99 := by unfold bS bN; omega
theorem b_lex (a w : Nat) : a < w ↔ (bN a < bN w ∨ (bN a = bN w ∧ bS w < bS a)) := by unfold bS bN; omega
theorem b_eq (a w : Nat) : a = w ↔ (bN a = bN w ∧ bS a = bS w) := by unfold bS bN; omega
/-- 55, 56 at a set -/
def MDt (σ : Sg) (col z : Nat) (h : Hp) (t : Nat) : Prop := gA_ h 55 t = nI (bN (vW σ col z t)) ∧ gA_ h 56 t = ngI (bS (vW σ col z t))
/-- the value of the j-th try -/
noncomputable def aR (σ : Sg) (col z set j : Nat) : Option Nat := if mkR (opn σ col z) (nmG (opn σ col z) (ffN set) 36) (j / 2) (j % 2) ≠ 0 ∧ mkR (opn σ col z) (nmG (opn σ col z) (ffN set) 36) (j / 2) (j % 2) &&& set = 0 then some (100 - cvS (opn σ col z) (wRt σ z) (wBh σ z) (mkR (opn σ col z) (nmG (opn σ col z) (ffN set) 36) (j / 2) (j % 2)) + vW σ col z (set ||| mkR (opn σ col z) (nmG (opn σ col z) (ffN set) 36) (j / 2) (j % 2))) else none
theorem sh_j : ∀ s, s < 12 → ¬ (shT s = 1 ∧ lenN (shK s) = widN (shK s)) ∧ (shK s * 2 + shT s) / 2 = shK s ∧ (shK s * 2 + shT s) % 2 = shT s ∧ shK s * 2 + shT s < 14 := by decide
theorem j_sh : ∀ j, j < 14 → (j % 2 = 1 ∧ lenN (j / 2) = widN (j / 2)) ∨ ∃ s, s < 12 ∧ shK s = j / 2 ∧ shT s = j % 2 := by decide
theorem mkR_s {p : Nat → Bool} {k s : Nat} (hs : s < 12) : mkR p k (shK s) (shT s) = mkS p k s := by
  unfold mkR mkS shX shY
  rw [if_neg (sh_j s hs).1]
theorem aR_s {σ : Sg} {col z set s : Nat} (hs : s < 12) : aR σ col z set (shK s * 2 + shT s) = aS (opn σ col z) (wRt σ z) (wBh σ z) (vW σ col z) set s := by
  obtain ⟨-, h2, h3, -⟩ := sh_j s hs
  unfold aR aS wayM
  rw [h2, h3, mkR_s hs]
theorem aR_n {σ : Sg} {col z set j : Nat} (hj : j < 14) : aR σ col z set j = none ∨ ∃ s, s < 12 ∧ aR σ col z set j = aS (opn σ col z) (wRt σ z) (wBh σ z) (vW σ col z) set s := by
  rcases j_sh j hj with q | ⟨s, hs, e1, e2⟩
  · left
    unfold aR mkR
    rw [if_pos q, if_neg (fun w => w.1 rfl)]
  · right
    refine ⟨s, hs, ?_⟩
    rw [← aR_s hs, e1, e2]
    congr 1; omega
theorem aR_min {σ : Sg} {col z set : Nat} (hM : cvM σ col z ≤ 16) (hs : set < 2 ^ cvM σ col z) (hf : ffN set < cvM σ col z) : mnO (aR σ col z set) 1700 14 = vW σ col z set := by
  have hM' : rkG (opn σ col z) 36 ≤ 16 := hM
  have hs' : set < 2 ^ rkG (opn σ col z) 36 := hs
  have hu := VW_u (wR := wRt σ z) (wB := wBh σ z) opn_p hM' hs'
  rw [if_pos (show ffN set < rkG (opn σ col z) 36 from hf)] at hu
  obtain ⟨-, h2, h3⟩ := VW_b (p := opn σ col z) opn_p hM' (wRt_le σ z) (wBh_le σ z) 16 set hs' (by omega)
  obtain ⟨s, hs12, es⟩ := h3 hf
  have hle : VW (opn σ col z) (wRt σ z) (wBh σ z) set ≤ 1600 := by
    unfold bN at h2; omega
  have es' : aR σ col z set (shK s * 2 + shT s) = some (VW (opn σ col z) (wRt σ z) (wBh σ z) set) := by rw [aR_s hs12]; exact es
  have l1 := mnO_le (init := 1700) es' 14 (sh_j s hs12).2.2.2
  rcases mnO_at (aR σ col z set) 1700 14 with q | ⟨j, hj, q⟩
  · omega
  · rcases aR_n (σ := σ) (col := col) (z := z) (set := set) hj with w | ⟨t, ht, w⟩
    · rw [w] at q; cases q
    · rw [w] at q
      have l2 := mnO_le (init := 1000000) q 12 ht
      have hu' : VW (opn σ col z) (wRt σ z) (wBh σ z) set = mnO (aS (opn σ col z) (wRt σ z) (wBh σ z) (vW σ col z) set) 1000000 12 := hu
      have : mnO (aR σ col z set) 1700 14 = VW (opn σ col z) (wRt σ z) (wBh σ z) set := by omega
      exact this
theorem or_gt {m set : Nat} (h0 : m ≠ 0) (h : m &&& set = 0) : set < set ||| m := by
  have h1 : set ≤ set ||| m := Nat.left_le_or
  rcases Nat.lt_or_ge set (set ||| m) with q | q
  · exact q
  · exfalso
    have e : set ||| m = set := by omega
    refine h0 (Nat.eq_of_testBit_eq (fun i => ?_))
    have a := and0 h i
    have b : (set ||| m).testBit i = set.testBit i := by rw [e]
    rw [Nat.testBit_or] at b
    rw [Nat.zero_testBit]
    cases q1 : m.testBit i with
    | false => rfl
    | true =>
      rw [q1] at a b
      cases q2 : set.testBit i with
      | false => rw [q2] at b; cases b
      | true => rw [q2] at a; cases a
theorem M_tries {σ : Sg} {h : Hp} {col z : Nat} (hM : cvM σ col z ≤ 16) (hF : MF σ col z h) {set : Nat} (hs : set < 2 ^ cvM σ col z) (hf : ffN set < cvM σ col z) (hD : ∀ t, set < t → t < 2 ^ cvM σ col z → MDt σ col z h t) {kd t : Nat} (hkd : kd < 7) (ht : t < 2) {w : Nat} (hw : w ≤ 1700) (e55 : gA_ h 55 set = nI (bN w)) (e56 : gA_ h 56 set = ngI (bS w)) : ∃ h1, F_X7_tries (nI set) (nI (ffN set)) (nI kd) (nI t) h = some h1 ∧ Sm [] [] [55, 56] [] h h1 ∧ (∀ u, u ≠ set → gA_ h1 55 u = gA_ h 55 u ∧ gA_ h1 56 u = gA_ h 56 u) ∧ gA_ h1 55 set = nI (bN (match aR σ col z set (kd * 2 + t) with
    | some a => min w a
    | none => w)) ∧ gA_ h1 56 set = ngI (bS (match aR σ col z set (kd * 2 + t) with
    | some a => min w a
    | none => w)) := by
  have h16 := p16 hM
  have hM' : rkG (opn σ col z) 36 ≤ 16 := hM
  obtain ⟨k1, k2, k3⟩ := nmG_e (p := opn σ col z) (i := ffN set) (n := 36) hf
  obtain ⟨f58, f59⟩ := hF ((ffN set * 7 + kd) * 2 + t) (by omega) _ kd t k2 hkd ht (by rw [k3])
  have hml := mkR_lt (σ := σ) (col := col) (z := z) (k := nmG (opn σ col z) (ffN set) 36) (kd := kd) (t := t)
  have ej : (kd * 2 + t) / 2 = kd ∧ (kd * 2 + t) % 2 = t := by omega
  unfold F_X7_tries aR
  rw [ej.1, ej.2, f_shapeAt, ob_s, rA_n _ 58 224 _ (by omega) (by decide), f58, nI_and]
  have hal : mkR (opn σ col z) (nmG (opn σ col z) (ffN set) 36) kd t &&& set ≤ mkR (opn σ col z) (nmG (opn σ col z) (ffN set) 36) kd t := Nat.and_le_left
  have same : ¬ (mkR (opn σ col z) (nmG (opn σ col z) (ffN set) 36) kd t ≠ 0 ∧ mkR (opn σ col z) (nmG (opn σ col z) (ffN set) 36) kd t &&& set = 0) → ∃ h1, (some h : Option Hp) = some h1 ∧ Sm [] [] [55, 56] [] h h1 ∧ (∀ u, u ≠ set → gA_ h1 55 u = gA_ h 55 u ∧ gA_ h1 56 u = gA_ h 56 u) ∧ gA_ h1 55 set = nI (bN w) ∧ gA_ h1 56 set = ngI (bS w) := fun _ => ⟨h, rfl, sm_rf, fun _ _ => ⟨rfl, rfl⟩, e55, e56⟩
  by_cases q0 : mkR (opn σ col z) (nmG (opn σ col z) (ffN set) 36) kd t = 0
  · rw [if_pos (by rw [q0]; rfl), if_neg (fun u => u.1 q0)]
    exact same (fun u => u.1 q0)
  · rw [if_neg (fun u => q0 ((nI_ze (by omega)).mp u))]
    by_cases q1 : mkR (opn σ col z) (nmG (opn σ col z) (ffN set) 36) kd t &&& set = 0
    · have v : mkR (opn σ col z) (nmG (opn σ col z) (ffN set) 36) kd t ≠ 0 ∧ mkR (opn σ col z) (nmG (opn σ col z) (ffN set) 36) kd t &&& set = 0 := ⟨q0, q1⟩
      have hor := or_lt2 hs hml
      obtain ⟨d55, d56⟩ := hD (set ||| mkR (opn σ col z) (nmG (opn σ col z) (ffN set) 36) kd t) (or_gt q0 q1) hor
      have hpp := popN_or (show set &&& mkR (opn σ col z) (nmG (opn σ col z) (ffN set) 36) kd t = 0 from (by rw [Nat.and_comm]; exact q1)) (rkG (opn σ col z) 36)
      have hpl := popN_le (set ||| mkR (opn σ col z) (nmG (opn σ col z) (ffN set) 36) kd t) (rkG (opn σ col z) 36)
      obtain ⟨b1, b2, -⟩ := VW_b (p := opn σ col z) opn_p hM' (wRt_le σ z) (wBh_le σ z) 16 _ (show set ||| mkR (opn σ col z) (nmG (opn σ col z) (ffN set) 36) kd t < 2 ^ rkG (opn σ col z) 36 from hor) (by omega)
      have hsp := cvS_le (p := opn σ col z) (wRt_le σ z) (wBh_le σ z) (mkR (opn σ col z) (nmG (opn σ col z) (ffN set) 36) kd t)
      obtain ⟨a1, a2⟩ := b_step (sp := cvS (opn σ col z) (wRt σ z) (wBh σ z) (mkR (opn σ col z) (nmG (opn σ col z) (ffN set) 36) kd t)) (V := vW σ col z (set ||| mkR (opn σ col z) (nmG (opn σ col z) (ffN set) 36) kd t)) (by have : bS (vW σ col z (set ||| mkR (opn σ col z) (nmG (opn σ col z) (ffN set) 36) kd t)) ≤ _ := b1; omega)
      rw [if_pos (by rw [q1]; rfl), if_pos v, nI_or, rA_n _ 55 65536 _ (by omega) (by decide), d55, rA_n _ 56 65536 _ (by omega) (by decide), d56, ob_s, rA_n _ 59 224 _ (by omega) (by decide), f59, rA_n _ 55 65536 _ (by omega) (by decide), e55, rA_n _ 55 65536 _ (by omega) (by decide), e55, rA_n _ 56 65536 _ (by omega) (by decide), e56, show (1 : Int32) + nI (bN (vW σ col z (set ||| mkR (opn σ col z) (nmG (opn σ col z) (ffN set) 36) kd t))) = nI (bN (vW σ col z (set ||| mkR (opn σ col z) (nmG (opn σ col z) (ffN set) 36) kd t)) + 1) from (by rw [show (1 : Int32) = nI 1 from rfl, nI_add, Nat.add_comm]), ngI_s, ← a1, ← a2]
      generalize 100 - cvS (opn σ col z) (wRt σ z) (wBh σ z) (mkR (opn σ col z) (nmG (opn σ col z) (ffN set) 36) kd t) + vW σ col z (set ||| mkR (opn σ col z) (nmG (opn σ col z) (ffN set) 36) kd t) = a at a1 a2 ⊢
      have ha : bN a ≤ 17 := by
        have : bN (vW σ col z (set ||| mkR (opn σ col z) (nmG (opn σ col z) (ffN set) 36) kd t)) ≤ _ := b2
        omega
      have hwb : bN w ≤ 17 := by unfold bN; omega
      have sa := bS_lt a
      have sw := bS_lt w
      have upd' : a < w → ∃ h1, F_X7_tries_98 (nI set) (nI (bN a)) (ngI (bS a)) h = some h1 ∧ Sm [] [] [55, 56] [] h h1 ∧ (∀ u, u ≠ set → gA_ h1 55 u = gA_ h 55 u ∧ gA_ h1 56 u = gA_ h 56 u) ∧ gA_ h1 55 set = nI (bN (min w a)) ∧ gA_ h1 56 set = ngI (bS (min w a)) := fun hlt => by
        unfold F_X7_tries_98
        rw [wA_n _ 55 65536 _ _ (by omega) (by decide), wA_n _ 56 65536 _ _ (by omega) (by decide), Nat.min_eq_right (by omega)]
        refine ⟨_, rfl, sm_A (k := 55) (by decide) rfl (sm_A (k := 56) (by decide) rfl sm_rf), fun u hu => ?_, ?_, ?_⟩
        · show upd (gA_ h 55) set _ u = _ ∧ upd (gA_ h 56) set _ u = _
          rw [pk_un hu, pk_un hu]; exact ⟨rfl, rfl⟩
        · show upd (gA_ h 55) set _ set = _
          rw [pk_us]
        · show upd (gA_ h 56) set _ set = _
          rw [pk_us]
      have keep' : ¬ a < w → ∃ h1, (some h : Option Hp) = some h1 ∧ Sm [] [] [55, 56] [] h h1 ∧ (∀ u, u ≠ set → gA_ h1 55 u = gA_ h 55 u ∧ gA_ h1 56 u = gA_ h 56 u) ∧ gA_ h1 55 set = nI (bN (min w a)) ∧ gA_ h1 56 set = ngI (bS (min w a)) := fun hge => by
        rw [Nat.min_eq_left (by omega)]
        exact ⟨h, rfl, sm_rf, fun _ _ => ⟨rfl, rfl⟩, e55, e56⟩
      have lx := b_lex a w
      by_cases c1 : bN w < bN a
      · rw [if_pos ((i_lt (by omega) (by omega)).mpr c1)]
        exact keep' (fun u => by have := lx.mp u; omega)
      · rw [if_neg (fun u => c1 ((i_lt (by omega) (by omega)).mp u))]
        by_cases c2 : bN a = bN w
        · rw [if_pos (by rw [c2])]
          by_cases c3 : bS w < bS a
          · rw [if_pos ((ngI_lt (by omega) (by omega)).mpr c3)]
            exact upd' (lx.mpr (Or.inr ⟨c2, c3⟩))
          · rw [if_neg (fun u => c3 ((ngI_lt (by omega) (by omega)).mp u))]
            exact keep' (fun u => by have := lx.mp u; omega)
        · rw [if_neg (fun u => c2 ((i_eq (by omega) (by omega)).mp u))]
          exact upd' (lx.mpr (Or.inl (by omega)))
    · rw [if_neg (fun u => q1 ((nI_ze (by omega)).mp u)), if_neg (fun u => q1 u.2)]
      exact same (fun u => q1 u.2)
