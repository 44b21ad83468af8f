/-! ===== the reference: what a shape spares; all shapes ===== -/
theorem c36 {z k : Nat} (hz : z < 5) (hk : k < 36) : ir_ (nI (36 * z + k)) 36 = nI k ∧ ir_ (nI (36 * z + k)) 6 = nI (k % 6) ∧ ir_ (nI (36 * z + k) / 6) 6 = nI (k / 6) := by
  refine ⟨?_, ?_, ?_⟩
  · rw [i_lit 36, i_rem (by omega) (by decide) (by decide)]; congr 1; omega
  · rw [i_lit 6, i_rem (by omega) (by decide) (by decide)]; congr 1; omega
  · rw [i_lit 6, i_div (by omega) (by decide) (by decide), i_rem (by omega) (by decide) (by decide)]; congr 1; omega
theorem M_isOf {σ : Sg} {h : Hp} {col z : Nat} (hz : z < 5) (hM : cvM σ col z ≤ 16) (hC : MC σ col z h) {m k : Nat} (hm : m < 65536) (hk : k < 36) : F_X7_isOf (nI m) (nI (36 * z + k)) h = some (bi_ (opn σ col z k && m.testBit (rkG (opn σ col z) k))) := by
  unfold F_X7_isOf
  rw [(c36 hz hk).1, rA_n _ 57 36 _ hk (by decide), hC.2.2.1 k hk]
  unfold numM
  cases hp : opn σ col z k with
  | false => rw [if_neg (show ¬ false = true by decide), if_pos (show (-9 : Int32) < 0 by decide)]; rfl
  | true =>
    have := opn_rk hp
    rw [if_pos rfl, if_neg (i_n0 (by omega)), Bool.true_and]
    cases ht : m.testBit (rkG (opn σ col z) k) with
    | true => rw [if_pos ((ia_bit (by omega) (by omega)).mpr ht)]; rfl
    | false => rw [if_neg (fun w => by have := (ia_bit (by omega) (by omega)).mp w; rw [ht] at this; cases this)]; rfl
theorem M_spares {σ : Sg} {h : Hp} (hw : Wf σ) {col z : Nat} (hz : z < 5) (hM : cvM σ col z ≤ 16) (hC : MC σ col z h) {m : Nat} (hm : m < 65536) : F_X7_spares (nI m) h = some (nI (cvS (opn σ col z) (wRt σ z) (wBh σ z) m)) := by
  have hR := wRt_le σ z
  have hB := wBh_le σ z
  have e : cvS (opn σ col z) (wRt σ z) (wBh σ z) m = sumN (fun i => if m.testBit i = true then cvT (opn σ col z) (wRt σ z) (wBh σ z) m (nmG (opn σ col z) i 36) else 0) (cvM σ col z) := by
    unfold cvS cvM
    rw [← sum_rk (p := opn σ col z) 36 (fun k => if m.testBit (rkG (opn σ col z) k) = true then cvT (opn σ col z) (wRt σ z) (wBh σ z) m k else 0) 36 (Nat.le_refl _)]
    exact sumN_c (fun i hi => by rw [(nmG_e hi).2.2])
  rw [e]
  unfold F_X7_spares
  refine lp_FU (fun n i => F_X7_spares_4 n (nI m) (nI (sumN (fun i => if m.testBit i = true then cvT (opn σ col z) (wRt σ z) (wBh σ z) m (nmG (opn σ col z) i 36) else 0) i)) (nI i) h) _ (cvM σ col z) (by omega) (fun n i hi => ?_) (fun n => ?_)
  · show F_X7_spares_4 (n + 1) _ _ _ _ = F_X7_spares_4 n _ _ _ _
    obtain ⟨k1, k2, k3⟩ := nmG_e (p := opn σ col z) (i := i) (n := 36) hi
    have gen : ∀ G a, F_X7_spares_4 n = G → F_X7_spares_4 (n + 1) (nI m) (nI a) (nI i) h = G (nI m) (nI (a + if m.testBit i = true then cvT (opn σ col z) (wRt σ z) (wBh σ z) m (nmG (opn σ col z) i 36) else 0)) (nI (i + 1)) h := fun G a hG => by
      have e54 := hC.2.2.2 _ k2
      rw [k3] at e54
      obtain ⟨q1, q2, q3⟩ := c36 hz k1
      rw [F_X7_spares_4, hG, hC.2.1, if_neg (show ¬ nI (cvM σ col z) ≤ nI i from nI_ge hi (by omega))]
      unfold F_X7_spares_104
      rw [show nI i + 1 = nI (i + 1) from nI_add i 1]
      cases ht : m.testBit i with
      | false => rw [if_pos ((ia_bit0 (by omega) (by omega)).mpr ht), if_neg (by decide)]; rfl
      | true =>
        have p65 : ∀ a, F_X7_spares_65 G (nI m) (nI a) (nI i) (nI (36 * z + nmG (opn σ col z) i 36)) h = G (nI m) (nI (a + if (decide (nmG (opn σ col z) i 36 / 6 < 5) && (opn σ col z (nmG (opn σ col z) i 36 + 6) && m.testBit (rkG (opn σ col z) (nmG (opn σ col z) i 36 + 6)))) = true then wBh σ z (nmG (opn σ col z) i 36) else 0)) (nI (i + 1)) h := fun a => by
          unfold F_X7_spares_65 F_X7_spares_104
          rw [q3, show nI i + 1 = nI (i + 1) from nI_add i 1]
          by_cases w : nmG (opn σ col z) i 36 / 6 < 5
          · rw [if_neg (show ¬ (5 : Int32) ≤ nI (nmG (opn σ col z) i 36 / 6) from (nI_ge w (by decide) : ¬ nI 5 ≤ nI (nmG (opn σ col z) i 36 / 6))), show nI (36 * z + nmG (opn σ col z) i 36) + 6 = nI (36 * z + (nmG (opn σ col z) i 36 + 6)) from nI_add _ 6, M_isOf hz hM hC hm (by omega), ob_s, M_costB hw hC.1 hz k1 w, ob_s, nI_add, decide_eq_true w, Bool.true_and]
            cases (opn σ col z (nmG (opn σ col z) i 36 + 6) && m.testBit (rkG (opn σ col z) (nmG (opn σ col z) i 36 + 6))) with
            | true => rw [if_neg b1_, if_pos rfl]
            | false => rw [if_pos b0_, if_neg (show ¬ false = true by decide)]; rfl
          · rw [if_pos (show (5 : Int32) ≤ nI (nmG (opn σ col z) i 36 / 6) from (nI_le (by omega) (by omega) : nI 5 ≤ nI (nmG (opn σ col z) i 36 / 6))), decide_eq_false w, Bool.false_and, if_neg (show ¬ false = true by decide)]; rfl
        rw [if_neg (fun w => by have := (ia_bit0 (by omega) (by omega)).mp w; rw [ht] at this; cases this), if_pos rfl, rA_n _ 54 36 _ (by omega) (by decide), e54, q2]
        unfold cvT
        by_cases w : nmG (opn σ col z) i 36 % 6 < 5
        · rw [if_neg (show ¬ (5 : Int32) ≤ nI (nmG (opn σ col z) i 36 % 6) from (nI_ge w (by decide) : ¬ nI 5 ≤ nI (nmG (opn σ col z) i 36 % 6))), show nI (36 * z + nmG (opn σ col z) i 36) + 1 = nI (36 * z + (nmG (opn σ col z) i 36 + 1)) from nI_add _ 1, M_isOf hz hM hC hm (by omega), ob_s, M_costR hw hC.1 hz k1 w, ob_s, nI_add, decide_eq_true w, Bool.true_and, p65, p65]
          cases (opn σ col z (nmG (opn σ col z) i 36 + 1) && m.testBit (rkG (opn σ col z) (nmG (opn σ col z) i 36 + 1))) with
          | true => rw [if_neg b1_, if_pos rfl, Nat.add_assoc]
          | false => rw [if_pos b0_, if_neg (show ¬ false = true by decide), Nat.zero_add]
        · rw [if_pos (show (5 : Int32) ≤ nI (nmG (opn σ col z) i 36 % 6) from (nI_le (by omega) (by omega) : nI 5 ≤ nI (nmG (opn σ col z) i 36 % 6))), p65, decide_eq_false w, Bool.false_and, if_neg (show ¬ false = true by decide), Nat.zero_add]
    exact gen _ _ rfl
  · show F_X7_spares_4 (n + 1) _ _ _ _ = _
    rw [F_X7_spares_4, hC.2.1, if_pos ((i_le (by omega) (by omega)).mpr (Nat.le_refl _))]
/-! all shapes -/
noncomputable def mkR (p : Nat → Bool) (k kd t : Nat) : Nat := if t = 1 ∧ lenN kd = widN kd then 0 else cvK p k (lX kd t) (lY kd t)
def MFw (σ : Sg) (col z : Nat) (h : Hp) (w : Nat) : Prop := ∀ k kd t, opn σ col z k = true → kd < 7 → t < 2 → (rkG (opn σ col z) k * 7 + kd) * 2 + t = w → gA_ h 58 w = nI (mkR (opn σ col z) k kd t) ∧ gA_ h 59 w = nI (cvS (opn σ col z) (wRt σ z) (wBh σ z) (mkR (opn σ col z) k kd t))
def MF (σ : Sg) (col z : Nat) (h : Hp) : Prop := ∀ w, w < cvM σ col z * 14 → MFw σ col z h w
theorem mkR_lt {σ : Sg} {col z k kd t : Nat} : mkR (opn σ col z) k kd t < 2 ^ cvM σ col z := by
  unfold mkR
  split
  · exact Nat.pow_pos (by decide)
  · exact cvK_lt opn_p
theorem f_shapeAt (a b c : Nat) : F_X7_shapeAt (nI a) (nI b) (nI c) = some (nI ((a * 7 + b) * 2 + c)) := by
  unfold F_X7_shapeAt
  rw [i_lit 7, i_lit 2, pk_mul, nI_add, pk_mul, nI_add]
theorem lw_eq : ∀ k, k < 7 → ((nI (lenN k) = nI (widN k)) ↔ lenN k = widN k) := fun k hk => by
  have := lenN_le k hk
  exact i_eq (by omega) (by omega)
theorem M_cov1 {σ : Sg} {h : Hp} (hw : Wf σ) {col z : Nat} (hz : z < 5) (hM : cvM σ col z ≤ 16) (hC : MC σ col z h) {k kd t : Nat} (hk : opn σ col z k = true) (hkd : kd < 7) (ht : t < 2) (K : Int32 → Int32 → Hp → Option Hp) (n : Nat) : F_X7_covers_20 (n + 1) K (nI (rkG (opn σ col z) k)) (nI kd) (nI t) h = F_X7_covers_20 n K (nI (rkG (opn σ col z) k)) (nI kd) (nI (t + 1)) (sA_ (sA_ h 58 ((rkG (opn σ col z) k * 7 + kd) * 2 + t) (nI (mkR (opn σ col z) k kd t))) 59 ((rkG (opn σ col z) k * 7 + kd) * 2 + t) (nI (cvS (opn σ col z) (wRt σ z) (wBh σ z) (mkR (opn σ col z) k kd t)))) := by
  have hkM := opn_rk hk
  have h16 := p16 hM
  have hwx : (rkG (opn σ col z) k * 7 + kd) * 2 + t < 224 := by omega
  have gen : ∀ G, F_X7_covers_20 n K = G → F_X7_covers_20 (n + 1) K (nI (rkG (opn σ col z) k)) (nI kd) (nI t) h = G (nI (rkG (opn σ col z) k)) (nI kd) (nI (t + 1)) (sA_ (sA_ h 58 ((rkG (opn σ col z) k * 7 + kd) * 2 + t) (nI (mkR (opn σ col z) k kd t))) 59 ((rkG (opn σ col z) k * 7 + kd) * 2 + t) (nI (cvS (opn σ col z) (wRt σ z) (wBh σ z) (mkR (opn σ col z) k kd t)))) := fun G hG => by
    have p54 : ∀ m, m < 65536 → F_X7_covers_54 G (nI (rkG (opn σ col z) k)) (nI kd) (nI t) (nI m) h = G (nI (rkG (opn σ col z) k)) (nI kd) (nI (t + 1)) (sA_ (sA_ h 58 ((rkG (opn σ col z) k * 7 + kd) * 2 + t) (nI m)) 59 ((rkG (opn σ col z) k * 7 + kd) * 2 + t) (nI (cvS (opn σ col z) (wRt σ z) (wBh σ z) m))) := fun m hm => by
      have s1 : Sm [] [] [58, 59] [] h (sA_ h 58 ((rkG (opn σ col z) k * 7 + kd) * 2 + t) (nI m)) := sm_A (k := 58) (by decide) rfl sm_rf
      unfold F_X7_covers_54
      rw [f_shapeAt, ob_s, wA_n _ 58 224 _ _ hwx (by decide), ob_s, M_spares hw hz hM (hC.sm s1 (by decide)) hm, ob_s, wA_n _ 59 224 _ _ hwx (by decide), show nI t + 1 = nI (t + 1) from nI_add t 1]
    have hml := mkR_lt (σ := σ) (col := col) (z := z) (k := k) (kd := kd) (t := t)
    have p47 : ¬ (t = 1 ∧ lenN kd = widN kd) → F_X7_covers_47 G (nI (rkG (opn σ col z) k)) (nI kd) (nI t) h = G (nI (rkG (opn σ col z) k)) (nI kd) (nI (t + 1)) (sA_ (sA_ h 58 ((rkG (opn σ col z) k * 7 + kd) * 2 + t) (nI (mkR (opn σ col z) k kd t))) 59 ((rkG (opn σ col z) k * 7 + kd) * 2 + t) (nI (cvS (opn σ col z) (wRt σ z) (wBh σ z) (mkR (opn σ col z) k kd t)))) := fun hq => by
      have e : mkR (opn σ col z) k kd t = cvK (opn σ col z) k (lX kd t) (lY kd t) := by unfold mkR; rw [if_neg hq]
      unfold F_X7_covers_47
      rw [M_shape hz hM hC hk hkd ht, ob_s, ← e, p54 _ (by omega)]
    rw [F_X7_covers_20, hG, if_neg (show ¬ (2 : Int32) ≤ nI t from (nI_ge ht (by decide) : ¬ nI 2 ≤ nI t))]
    by_cases q : t = 1
    · subst q
      rw [if_pos (show nI 1 = (1 : Int32) from rfl), rS_n _ _ (show kd < ([1, 2, 3, 4, 2, 3, 4] : List Int32).length from hkd) (by decide), rS_n _ _ (show kd < ([1, 1, 1, 1, 2, 2, 2] : List Int32).length from hkd) (by decide), (len_t kd hkd).1, (len_t kd hkd).2]
      by_cases v : lenN kd = widN kd
      · have e : mkR (opn σ col z) k kd 1 = 0 := by unfold mkR; rw [if_pos ⟨rfl, v⟩]
        rw [if_pos ((lw_eq kd hkd).mpr v), e]
        exact p54 0 (by decide)
      · rw [if_neg (fun u => v ((lw_eq kd hkd).mp u))]
        exact p47 (fun u => v u.2)
    · rw [if_neg (show ¬ nI t = (1 : Int32) from fun u => q ((i_eq (b := 1) (by omega) (by decide)).mp u))]
      exact p47 (fun u => q u.1)
  exact gen _ rfl
theorem M_cov20 {σ : Sg} (hw : Wf σ) {col z : Nat} (hz : z < 5) (hM : cvM σ col z ≤ 16) {k kd : Nat} (hk : opn σ col z k = true) (hkd : kd < 7) (K : Int32 → Int32 → Hp → Option Hp) : ∀ q n t h, q + t = 2 → q < n → MC σ col z h → (∀ w, w < (rkG (opn σ col z) k * 7 + kd) * 2 + t → MFw σ col z h w) → ∃ h1, F_X7_covers_20 n K (nI (rkG (opn σ col z) k)) (nI kd) (nI t) h = K (nI (rkG (opn σ col z) k)) (nI kd) h1 ∧ MC σ col z h1 ∧ (∀ w, w < (rkG (opn σ col z) k * 7 + kd) * 2 + 2 → MFw σ col z h1 w) := by
  intro q
  induction q with
  | zero =>
    intro n t h hq hn hC hF
    obtain ⟨n, rfl⟩ : ∃ j, n = j + 1 := ⟨n - 1, by omega⟩
    have e : t = 2 := by omega
    subst e
    exact ⟨h, by rw [F_X7_covers_20, if_pos (by decide)], hC, hF⟩
  | succ q ih =>
    intro n t h hq hn hC hF
    obtain ⟨n, rfl⟩ : ∃ j, n = j + 1 := ⟨n - 1, by omega⟩
    rw [M_cov1 hw hz hM hC hk hkd (show t < 2 by omega)]
    have s1 : Sm [] [] [58, 59] [] h (sA_ (sA_ h 58 ((rkG (opn σ col z) k * 7 + kd) * 2 + t) (nI (mkR (opn σ col z) k kd t))) 59 ((rkG (opn σ col z) k * 7 + kd) * 2 + t) (nI (cvS (opn σ col z) (wRt σ z) (wBh σ z) (mkR (opn σ col z) k kd t)))) := sm_A (k := 58) (by decide) rfl (sm_A (k := 59) (by decide) rfl sm_rf)
    refine ih n (t + 1) _ (by omega) (by omega) (hC.sm s1 (by decide)) (fun w hw k' kd' t' hk' hkd' ht' ew => ?_)
    show upd (gA_ h 58) _ _ w = _ ∧ upd (gA_ h 59) _ _ w = _
    by_cases u : w = (rkG (opn σ col z) k * 7 + kd) * 2 + t
    · have e1 : rkG (opn σ col z) k' = rkG (opn σ col z) k := by omega
      have e2 : kd' = kd := by omega
      have e3 : t' = t := by omega
      have e4 := rkG_inj hk' hk e1
      subst e4; subst e2; subst e3
      rw [u, pk_us, pk_us]; exact ⟨rfl, rfl⟩
    · rw [pk_un u, pk_un u]
      exact hF w (by omega) k' kd' t' hk' hkd' ht' ew
theorem M_cov12 {σ : Sg} (hw : Wf σ) {col z : Nat} (hz : z < 5) (hM : cvM σ col z ≤ 16) {k : Nat} (hk : opn σ col z k = true) (K : Int32 → Hp → Option Hp) : ∀ q n kd h, q + kd = 7 → q < n → MC σ col z h → (∀ w, w < (rkG (opn σ col z) k * 7 + kd) * 2 → MFw σ col z h w) → ∃ h1, F_X7_covers_12 n K (nI (rkG (opn σ col z) k)) (nI kd) h = K (nI (rkG (opn σ col z) k)) h1 ∧ MC σ col z h1 ∧ (∀ w, w < (rkG (opn σ col z) k * 7 + 7) * 2 → MFw σ col z h1 w) := by
  intro q
  induction q with
  | zero =>
    intro n kd h hq hn hC hF
    obtain ⟨n, rfl⟩ : ∃ j, n = j + 1 := ⟨n - 1, by omega⟩
    have e : kd = 7 := by omega
    subst e
    exact ⟨h, by rw [F_X7_covers_12, if_pos (by decide)], hC, hF⟩
  | succ q ih =>
    intro n kd h hq hn hC hF
    obtain ⟨n, rfl⟩ : ∃ j, n = j + 1 := ⟨n - 1, by omega⟩
    obtain ⟨h1, e1, C1, F1⟩ := M_cov20 hw hz hM hk (show kd < 7 by omega) (F_X7_covers_92 (F_X7_covers_12 n K)) 2 FU_ 0 h (by omega) (by unfold FU_; omega) hC hF
    obtain ⟨h2, e2, r2⟩ := ih n (kd + 1) h1 (by omega) (by omega) C1 (fun w hw => F1 w (by omega))
    refine ⟨h2, ?_, r2⟩
    have e1' : F_X7_covers_20 FU_ (F_X7_covers_92 (F_X7_covers_12 n K)) (nI (rkG (opn σ col z) k)) (nI kd) 0 h = F_X7_covers_92 (F_X7_covers_12 n K) (nI (rkG (opn σ col z) k)) (nI kd) h1 := e1
    rw [F_X7_covers_12, if_neg (show ¬ (7 : Int32) ≤ nI kd from (nI_ge (show kd < 7 by omega) (by decide) : ¬ nI 7 ≤ nI kd)), e1', F_X7_covers_92, show nI kd + 1 = nI (kd + 1) from nI_add kd 1, e2]
theorem M_cov2 {σ : Sg} (hw : Wf σ) {col z : Nat} (hz : z < 5) (hM : cvM σ col z ≤ 16) (K : Hp → Option Hp) : ∀ q n c h, q + c = cvM σ col z → q < n → MC σ col z h → (∀ w, w < c * 14 → MFw σ col z h w) → ∃ h1, F_X7_covers_2 n K (nI c) h = K h1 ∧ MC σ col z h1 ∧ MF σ col z h1 := by
  intro q
  induction q with
  | zero =>
    intro n c h hq hn hC hF
    obtain ⟨n, rfl⟩ : ∃ j, n = j + 1 := ⟨n - 1, by omega⟩
    have e : c = cvM σ col z := by omega
    subst e
    exact ⟨h, by rw [F_X7_covers_2, hC.2.1, if_pos ((i_le (by omega) (by omega)).mpr (Nat.le_refl _))], hC, hF⟩
  | succ q ih =>
    intro n c h hq hn hC hF
    obtain ⟨n, rfl⟩ : ∃ j, n = j + 1 := ⟨n - 1, by omega⟩
    obtain ⟨k, k36, hk, hr⟩ := rkG_ex 36 (show c < rkG (opn σ col z) 36 from (by unfold cvM at hq; omega))
    subst hr
    obtain ⟨h1, e1, C1, F1⟩ := M_cov12 hw hz hM hk (F_X7_covers_98 (F_X7_covers_2 n K)) 7 FU_ 0 h (by omega) (by unfold FU_; omega) hC (fun w hw => hF w (by omega))
    obtain ⟨h2, e2, r2⟩ := ih n (rkG (opn σ col z) k + 1) h1 (by omega) (by omega) C1 (fun w hw => F1 w (by omega))
    refine ⟨h2, ?_, r2⟩
    have e1' : F_X7_covers_12 FU_ (F_X7_covers_98 (F_X7_covers_2 n K)) (nI (rkG (opn σ col z) k)) 0 h = F_X7_covers_98 (F_X7_covers_2 n K) (nI (rkG (opn σ col z) k)) h1 := e1
    rw [F_X7_covers_2, hC.2.1, if_neg (show ¬ nI (cvM σ col z) ≤ nI (rkG (opn σ col z) k) from nI_ge (by omega) (by omega)), e1', F_X7_covers_98, show nI (rkG (opn σ col z) k) + 1 = nI (rkG (opn σ col z) k + 1) from nI_add _ 1, e2]
