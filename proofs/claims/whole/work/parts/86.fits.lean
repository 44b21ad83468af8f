/-! ===== the class: which bricks fit ===== -/
theorem nI_ltc {a : Nat} (c : Nat) (ha : a < 2 ^ 31) (hc : c < 2 ^ 31) : nI a < (OfNat.ofNat c : Int32) ↔ a < c := i_lt ha hc
theorem opn_rk {σ : Sg} {col z k : Nat} (h : opn σ col z k = true) : rkG (opn σ col z) k < cvM σ col z := rkG_lt (opn_lt h) h
theorem f_numAt {σ : Sg} {h : Hp} {col z : Nat} (hC : CC σ col z h) (hM : cvM σ col z ≤ 16) {x y : Nat} (hx : x ≤ 20) (hy : y ≤ 20) : F_X3_numberAt (nI x) (nI y) h = some (if x < 6 ∧ y < 6 then num (opn σ col z) (6 * y + x) else -1) := by
  unfold F_X3_numberAt
  by_cases q1 : 6 ≤ x
  · rw [if_pos (show (6 : Int32) ≤ nI x from (nI_le q1 (by omega) : nI 6 ≤ nI x)), if_neg (by omega)]
  · rw [if_neg (show ¬ (6 : Int32) ≤ nI x from (nI_ge (by omega) (by decide) : ¬ nI 6 ≤ nI x))]
    by_cases q2 : y < 6
    · have hk : 6 * y + x < 36 := by omega
      rw [if_pos (show nI y < (6 : Int32) from (i_lt (b := 6) (by omega) (by decide)).mpr q2), if_pos ⟨by omega, q2⟩, i_lit 6, pk_mul, nI_add, show y * 6 + x = 6 * y + x by omega, rA_n _ 23 36 _ hk (by decide), hC.2.2.2.2.1 _ hk]
      rw [if_neg]
      unfold num
      by_cases q3 : opn σ col z (6 * y + x) = true
      · have := opn_rk q3
        rw [if_pos q3]
        exact (nI_ge (show rkG (opn σ col z) (6 * y + x) < 16 by omega) (by decide) : ¬ nI 16 ≤ nI (rkG (opn σ col z) (6 * y + x)))
      · rw [if_neg q3]; decide
    · rw [if_neg (show ¬ nI y < (6 : Int32) from fun w => q2 ((i_lt (b := 6) (by omega) (by decide)).mp w)), if_neg (by omega)]
theorem num_pos {p : Nat → Bool} {k : Nat} (h : rkG p k < 2 ^ 31) : 0 ≤ num p k ↔ p k = true := by
  unfold num
  by_cases q : p k = true
  · rw [if_pos q]; exact ⟨fun _ => q, fun _ => nI_pos' h⟩
  · rw [if_neg q]; exact ⟨fun w => absurd w (by decide), fun w => absurd w q⟩
theorem C_ff1 {σ : Sg} {h : Hp} {col z : Nat} (hC : CC σ col z h) (hW : CW σ z h) (hM : cvM σ col z ≤ 16) {k : Nat} (hk : opn σ col z k = true) {l d i j way m v : Nat} (hl : l ≤ 4) (hd : d ≤ 4) (hi : i < d) (hj : j < l) (hv : v ≤ 1000) (K : Int32 → Int32 → Int32 → Int32 → Int32 → Int32 → Int32 → Hp → Option Hp) (n : Nat) :
    (okc (opn σ col z) k i j → F_X3_findFit_64 (n + 1) K (nI (rkG (opn σ col z) k)) (nI l) (nI d) (nI way) (nI m) (nI v) (nI i) (nI j) h = F_X3_findFit_64 n K (nI (rkG (opn σ col z) k)) (nI l) (nI d) (nI way) (nI (m ||| 2 ^ rkG (opn σ col z) (k + 6 * i + j))) (nI (v + rSp (wRt σ z) (wBh σ z) k l d i j)) (nI i) (nI (j + 1)) h) ∧
    (¬ okc (opn σ col z) k i j → F_X3_findFit_64 (n + 1) K (nI (rkG (opn σ col z) k)) (nI l) (nI d) (nI way) (nI m) (nI v) (nI i) (nI j) h = some h) := by
  have hk36 := opn_lt hk
  have hkM := opn_rk hk
  obtain ⟨k1, k2⟩ := k_coord hk36
  have e22 := hC.2.2.2.2.2 k hk (by omega)
  have n1 : nI j + 1 = nI (j + 1) := nI_add j 1
  have n2 : nI i + 1 = nI (i + 1) := nI_add i 1
  have key : ∀ G, F_X3_findFit_64 n K = G → F_X3_findFit_64 (n + 1) K (nI (rkG (opn σ col z) k)) (nI l) (nI d) (nI way) (nI m) (nI v) (nI i) (nI j) h = (F_X3_numberAt (nI (k % 6 + j)) (nI (k / 6 + i)) h).bind fun v95 => if (0 : Int32) ≤ v95 then bd_ (nI m ||| (is_ 1 v95)) fun y113 => if nI l ≤ nI (j + 1) then (F_X3_findFit_141 G) (nI (rkG (opn σ col z) k)) (nI l) (nI d) (nI way) y113 (nI i) (nI j) v95 (nI v) (0 : Int32) h else rA_ h 22 16 v95 fun v135 => rA_ h 24 36 v135 fun v136 => (F_X3_findFit_141 G) (nI (rkG (opn σ col z) k)) (nI l) (nI d) (nI way) y113 (nI i) (nI j) v95 (nI v) v136 h else some h := fun G hG => by
    rw [F_X3_findFit_64, hG, if_neg (show ¬ nI l ≤ nI j from nI_ge hj (by omega)), rA_n _ 22 16 _ (by omega) (by decide), rA_n _ 22 16 _ (by omega) (by decide), e22, k1, k2, nI_add, nI_add, n1]
  constructor
  · intro hok
    rw [key _ rfl, f_numAt hC hM (by omega) (by omega), ob_s, if_pos (show k % 6 + j < 6 ∧ k / 6 + i < 6 from ⟨hok.1, hok.2.1⟩), show 6 * (k / 6 + i) + (k % 6 + j) = k + 6 * i + j by omega]
    have hq := hok.2.2
    have hq36 := opn_lt hq
    have hqM := opn_rk hq
    have en : num (opn σ col z) (k + 6 * i + j) = nI (rkG (opn σ col z) (k + 6 * i + j)) := by unfold num; rw [if_pos hq]
    have e22q := hC.2.2.2.2.2 _ hq (by omega)
    obtain ⟨w24, w25⟩ := hW _ hq36
    have hw1 := wRt_le σ z (k + 6 * i + j)
    have hw2 := wBh_le σ z (k + 6 * i + j)
    rw [en, if_pos (show 0 ≤ nI (rkG (opn σ col z) (k + 6 * i + j)) from nI_pos' (by omega)), bd_e, sh1 _ (by omega), nI_or, rA_n _ 22 16 _ (by omega) (by decide), e22q, rA_n _ 24 36 _ hq36 (by decide), w24]
    have p141 : ∀ a y, F_X3_findFit_141 (F_X3_findFit_64 n K) (nI (rkG (opn σ col z) k)) (nI l) (nI d) (nI way) y (nI i) (nI j) (nI (rkG (opn σ col z) (k + 6 * i + j))) (nI v) (nI a) h = F_X3_findFit_64 n K (nI (rkG (opn σ col z) k)) (nI l) (nI d) (nI way) y (nI (v + (a + if i + 1 < d then wBh σ z (k + 6 * i + j) else 0))) (nI i) (nI (j + 1)) h := fun a y => by
      unfold F_X3_findFit_141 F_X3_findFit_171
      rw [rA_n _ 22 16 _ (by omega) (by decide), e22q, rA_n _ 25 36 _ hq36 (by decide), w25, n1, n2, show nI v + nI a = nI (v + a) from nI_add v a]
      by_cases u : i + 1 < d
      · rw [if_neg (show ¬ nI d ≤ nI (i + 1) from nI_ge u (by omega)), if_pos u, nI_add, Nat.add_assoc]
      · rw [if_pos ((i_le (by omega) (by omega)).mpr (by omega)), if_neg u, show (0 : Int32) = nI 0 from rfl, nI_add]; rfl
    unfold rSp
    by_cases u : j + 1 < l
    · rw [if_neg (show ¬ nI l ≤ nI (j + 1) from nI_ge u (by omega)), if_pos u, p141]
    · rw [if_pos ((i_le (by omega) (by omega)).mpr (show l ≤ j + 1 by omega)), if_neg u, show (0 : Int32) = nI 0 from rfl, p141]
  · intro hok
    rw [key _ rfl, f_numAt hC hM (by omega) (by omega), ob_s]
    rw [if_neg]
    by_cases u : k % 6 + j < 6 ∧ k / 6 + i < 6
    · rw [if_pos u, show 6 * (k / 6 + i) + (k % 6 + j) = k + 6 * i + j by omega, num_pos (by have := rkG_le (opn σ col z) (k + 6 * i + j); omega)]
      exact fun w => hok ⟨u.1, u.2, w⟩
    · rw [if_neg u]; decide
def sPart (wR wB : Nat → Nat) (k l d i : Nat) : Nat := sumN (fun i => sumN (fun j => rSp wR wB k l d i j) l) i
theorem rSp_le {wR wB : Nat → Nat} (hR : ∀ k, wR k ≤ 2) (hB : ∀ k, wB k ≤ 2) (k l d i j : Nat) : rSp wR wB k l d i j ≤ 4 := by
  have := hR (k + 6 * i + j)
  have := hB (k + 6 * i + j)
  unfold rSp
  split <;> split <;> omega
theorem sPart_le {wR wB : Nat → Nat} (hR : ∀ k, wR k ≤ 2) (hB : ∀ k, wB k ≤ 2) {k l d i j : Nat} (hl : l ≤ 4) (hi : i ≤ 4) (hj : j ≤ 4) : sPart wR wB k l d i + sumN (fun j => rSp wR wB k l d i j) j ≤ 1000 := by
  have h1 : ∀ i, sumN (fun j => rSp wR wB k l d i j) l ≤ 16 := fun i => by
    have := sumN_le (f := fun j => rSp wR wB k l d i j) (c := 4) (fun j => rSp_le hR hB k l d i j) l
    omega
  have h2 := sumN_le (f := fun i => sumN (fun j => rSp wR wB k l d i j) l) (c := 16) h1 i
  have h3 := sumN_le (f := fun j => rSp wR wB k l d i j) (c := 4) (fun j => rSp_le hR hB k l d i j) j
  unfold sPart
  omega
theorem C_ff54 {σ : Sg} {h : Hp} {col z : Nat} (hC : CC σ col z h) (hW : CW σ z h) (hM : cvM σ col z ≤ 16) {k : Nat} (hk : opn σ col z k = true) {l d way : Nat} (hl : l ≤ 4) (hd : d ≤ 4) (K : Int32 → Int32 → Int32 → Hp → Option Hp) :
    (Fit (opn σ col z) k l d → F_X3_findFit_54 FU_ K (nI (rkG (opn σ col z) k)) (nI l) (nI d) (nI way) 0 0 0 h = K (nI way) (nI (mrec (opn σ col z) k l d)) (nI (sPart (wRt σ z) (wBh σ z) k l d d)) h) ∧
    (¬ Fit (opn σ col z) k l d → F_X3_findFit_54 FU_ K (nI (rkG (opn σ col z) k)) (nI l) (nI d) (nI way) 0 0 0 h = some h) := by
  have hR := wRt_le σ z
  have hB := wBh_le σ z
  have row : ∀ n0 i, i < d → ((∀ j, j < l → okc (opn σ col z) k i j) → F_X3_findFit_54 (n0 + 1) K (nI (rkG (opn σ col z) k)) (nI l) (nI d) (nI way) (nI (mrec (opn σ col z) k l i)) (nI (sPart (wRt σ z) (wBh σ z) k l d i)) (nI i) h = F_X3_findFit_54 n0 K (nI (rkG (opn σ col z) k)) (nI l) (nI d) (nI way) (nI (mrec (opn σ col z) k l (i + 1))) (nI (sPart (wRt σ z) (wBh σ z) k l d (i + 1))) (nI (i + 1)) h) ∧ ((∃ j, j < l ∧ ¬ okc (opn σ col z) k i j) → F_X3_findFit_54 (n0 + 1) K (nI (rkG (opn σ col z) k)) (nI l) (nI d) (nI way) (nI (mrec (opn σ col z) k l i)) (nI (sPart (wRt σ z) (wBh σ z) k l d i)) (nI i) h = some h) := fun n0 i hi => by
    have e : ∀ G, F_X3_findFit_54 n0 K = G → F_X3_findFit_54 (n0 + 1) K (nI (rkG (opn σ col z) k)) (nI l) (nI d) (nI way) (nI (mrec (opn σ col z) k l i)) (nI (sPart (wRt σ z) (wBh σ z) k l d i)) (nI i) h = F_X3_findFit_64 FU_ (F_X3_findFit_180 G) (nI (rkG (opn σ col z) k)) (nI l) (nI d) (nI way) (nI (mrec (opn σ col z) k l i)) (nI (sPart (wRt σ z) (wBh σ z) k l d i)) (nI i) 0 h := fun G hG => by
      rw [F_X3_findFit_54, hG, if_neg (show ¬ nI d ≤ nI i from nI_ge hi (by omega))]
    constructor
    · intro hall
      rw [e _ rfl]
      refine (lp_FU (fun n j => F_X3_findFit_64 n (F_X3_findFit_180 (F_X3_findFit_54 n0 K)) (nI (rkG (opn σ col z) k)) (nI l) (nI d) (nI way) (nI (mrow (opn σ col z) (mrec (opn σ col z) k l i) (k + 6 * i) j)) (nI (sPart (wRt σ z) (wBh σ z) k l d i + sumN (fun j => rSp (wRt σ z) (wBh σ z) k l d i j) j)) (nI i) (nI j) h) _ l (by omega) (fun n j hj => ?_) (fun n => ?_))
      · have := (C_ff1 hC hW hM hk (way := way) (m := mrow (opn σ col z) (mrec (opn σ col z) k l i) (k + 6 * i) j) hl hd hi hj (sPart_le hR hB (k := k) (d := d) hl (show i ≤ 4 by omega) (show j ≤ 4 by omega)) (F_X3_findFit_180 (F_X3_findFit_54 n0 K)) n).1 (hall j hj)
        rw [Nat.add_assoc (sPart (wRt σ z) (wBh σ z) k l d i)] at this
        exact this
      · show F_X3_findFit_64 (n + 1) _ _ _ _ _ _ _ _ _ _ = _
        rw [F_X3_findFit_64, if_pos ((i_le (by omega) (by omega)).mpr (Nat.le_refl _)), F_X3_findFit_180, show nI i + 1 = nI (i + 1) from nI_add i 1]
        rfl
    · rintro ⟨j, hj, hbad⟩
      rw [e _ rfl]
      exact lp_bad (fun n j => F_X3_findFit_64 n (F_X3_findFit_180 (F_X3_findFit_54 n0 K)) (nI (rkG (opn σ col z) k)) (nI l) (nI d) (nI way) (nI (mrow (opn σ col z) (mrec (opn σ col z) k l i) (k + 6 * i) j)) (nI (sPart (wRt σ z) (wBh σ z) k l d i + sumN (fun j => rSp (wRt σ z) (wBh σ z) k l d i j) j)) (nI i) (nI j) h) (some h) l (fun j => ¬ okc (opn σ col z) k i j) (fun n j hj q => by
        have := (C_ff1 hC hW hM hk (way := way) (m := mrow (opn σ col z) (mrec (opn σ col z) k l i) (k + 6 * i) j) hl hd hi hj (sPart_le hR hB (k := k) (d := d) hl (show i ≤ 4 by omega) (show j ≤ 4 by omega)) (F_X3_findFit_180 (F_X3_findFit_54 n0 K)) n).1 (Classical.not_not.mp q)
        rw [Nat.add_assoc (sPart (wRt σ z) (wBh σ z) k l d i)] at this
        exact this) (fun n j hj q => (C_ff1 hC hW hM hk (way := way) (m := mrow (opn σ col z) (mrec (opn σ col z) k l i) (k + 6 * i) j) hl hd hi hj (sPart_le hR hB (k := k) (d := d) hl (show i ≤ 4 by omega) (show j ≤ 4 by omega)) (F_X3_findFit_180 (F_X3_findFit_54 n0 K)) n).2 q) FU_ 0 j (Nat.zero_le _) hj hbad (by unfold FU_; omega)
  constructor
  · intro hF
    refine lp_FU (fun n i => F_X3_findFit_54 n K (nI (rkG (opn σ col z) k)) (nI l) (nI d) (nI way) (nI (mrec (opn σ col z) k l i)) (nI (sPart (wRt σ z) (wBh σ z) k l d i)) (nI i) h) _ d (by omega) (fun n i hi => (row n i hi).1 (hF i hi)) (fun n => ?_)
    show F_X3_findFit_54 (n + 1) _ _ _ _ _ _ _ _ _ = _
    rw [F_X3_findFit_54, if_pos ((i_le (by omega) (by omega)).mpr (Nat.le_refl _))]
  · intro hF
    have hex : ∃ i, i < d ∧ ∃ j, j < l ∧ ¬ okc (opn σ col z) k i j := by
      rcases Classical.em (∃ i, i < d ∧ ∃ j, j < l ∧ ¬ okc (opn σ col z) k i j) with w | w
      · exact w
      · exact absurd (fun i hi j hj => Classical.byContradiction (fun u => w ⟨i, hi, j, hj, u⟩)) hF
    obtain ⟨i, hi, hbad⟩ := hex
    exact lp_bad (fun n i => F_X3_findFit_54 n K (nI (rkG (opn σ col z) k)) (nI l) (nI d) (nI way) (nI (mrec (opn σ col z) k l i)) (nI (sPart (wRt σ z) (wBh σ z) k l d i)) (nI i) h) (some h) d (fun i => ∃ j, j < l ∧ ¬ okc (opn σ col z) k i j) (fun n i hi q => (row n i hi).1 (fun j hj => Classical.byContradiction (fun u => q ⟨j, hj, u⟩))) (fun n i hi q => (row n i hi).2 q) FU_ 0 i (Nat.zero_le _) hi hbad (by unfold FU_; omega)
/-! shapes -/
def shK (s : Nat) : Nat := ([6, 6, 5, 5, 4, 3, 3, 2, 2, 1, 1, 0] : List Nat).getD s 0
def shT (s : Nat) : Nat := ([0, 1, 0, 1, 0, 0, 1, 0, 1, 0, 1, 0] : List Nat).getD s 0
theorem sh_t : ∀ s, s < 12 → ([6, 6, 5, 5, 4, 3, 3, 2, 2, 1, 1, 0] : List Int32).getD s 0 = nI (shK s) ∧ ([0, 1, 0, 1, 0, 0, 1, 0, 1, 0, 1, 0] : List Int32).getD s 0 = nI (shT s) ∧ shK s < 7 ∧ shT s < 2 := by decide +kernel
def shX (s : Nat) : Nat := lX (shK s) (shT s)
def shY (s : Nat) : Nat := lY (shK s) (shT s)
noncomputable def mkS (p : Nat → Bool) (k s : Nat) : Nat := cvK p k (shX s) (shY s)
theorem C_findFit {σ : Sg} {h : Hp} {col z : Nat} (hC : CC σ col z h) (hW : CW σ z h) (hM : cvM σ col z ≤ 16) {k s : Nat} (hk : opn σ col z k = true) (hs : s < 12) : ∃ h1, F_X3_findFit (nI (rkG (opn σ col z) k)) (nI s) h = some h1 ∧ (∀ w, gA_ h1 26 w = if w = rkG (opn σ col z) k * 12 + s then nI (mkS (opn σ col z) k s) else gA_ h 26 w) ∧ (∀ w, w ≠ rkG (opn σ col z) k * 12 + s → gA_ h1 27 w = gA_ h 27 w) ∧ (mkS (opn σ col z) k s ≠ 0 → gA_ h1 27 (rkG (opn σ col z) k * 12 + s) = nI (cvS (opn σ col z) (wRt σ z) (wBh σ z) (mkS (opn σ col z) k s))) := by
  obtain ⟨t1, t2, t3, t4⟩ := sh_t s hs
  have hkM := opn_rk hk
  have lx := lX_le (t := shT s) t3
  have ly := lY_le (t := shT s) t3
  have hwy : rkG (opn σ col z) k * 12 + s < 192 := by omega
  unfold F_X3_findFit
  rw [rS_n _ _ hs (by decide), rS_n _ _ hs (by decide), t1, t2, f_alongX t3 t4, ob_s, rS_n _ _ hs (by decide), rS_n _ _ hs (by decide), t1, t2, f_alongY t3 t4, ob_s, i_lit 12, pk_mul, nI_add, wA_n _ 26 192 _ _ hwy (by decide)]
  have s0 : Sm [] [] [26] [] h (sA_ h 26 (rkG (opn σ col z) k * 12 + s) 0) := sm_A (k := 26) (by decide) rfl sm_rf
  have C0 : CC σ col z (sA_ h 26 (rkG (opn σ col z) k * 12 + s) 0) := ⟨hC.1.sm s0 (by decide), hC.2⟩
  obtain ⟨g1, g2⟩ := C_ff54 C0 hW hM hk (way := rkG (opn σ col z) k * 12 + s) lx.2 ly.2 F_X3_findFit_186
  rcases Classical.em (Fit (opn σ col z) k (lX (shK s) (shT s)) (lY (shK s) (shT s))) with q | q
  · have e := g1 q
    rw [show F_X3_findFit_54 FU_ F_X3_findFit_186 (nI (rkG (opn σ col z) k)) (nI (lX (shK s) (shT s))) (nI (lY (shK s) (shT s))) (nI (rkG (opn σ col z) k * 12 + s)) 0 0 0 (sA_ h 26 (rkG (opn σ col z) k * 12 + s) 0) = _ from e]
    unfold F_X3_findFit_186
    rw [wA_n _ 26 192 _ _ hwy (by decide), wA_n _ 27 192 _ _ hwy (by decide)]
    refine ⟨_, rfl, fun w => ?_, fun w hw => ?_, fun _ => ?_⟩
    · show upd (upd (gA_ h 26) (rkG (opn σ col z) k * 12 + s) 0) (rkG (opn σ col z) k * 12 + s) (nI (mrec (opn σ col z) k (lX (shK s) (shT s)) (lY (shK s) (shT s)))) w = _
      by_cases u : w = rkG (opn σ col z) k * 12 + s
      · subst u
        rw [pk_us, if_pos rfl]
        unfold mkS shX shY
        rw [cvK_f q]
      · rw [pk_un u, pk_un u, if_neg u]
    · show upd (gA_ h 27) _ _ w = gA_ h 27 w
      rw [pk_un hw]
    · show upd (gA_ h 27) _ (nI (sPart (wRt σ z) (wBh σ z) k (lX (shK s) (shT s)) (lY (shK s) (shT s)) (lY (shK s) (shT s)))) _ = _
      rw [pk_us]
      unfold mkS shX shY
      rw [cvS_r q (by omega) (by omega)]; rfl
  · have e := g2 q
    rw [show F_X3_findFit_54 FU_ F_X3_findFit_186 (nI (rkG (opn σ col z) k)) (nI (lX (shK s) (shT s))) (nI (lY (shK s) (shT s))) (nI (rkG (opn σ col z) k * 12 + s)) 0 0 0 (sA_ h 26 (rkG (opn σ col z) k * 12 + s) 0) = _ from e]
    have m0 : mkS (opn σ col z) k s = 0 := cvK_n q
    refine ⟨_, rfl, fun w => ?_, fun w hw => rfl, fun w => absurd m0 w⟩
    show upd (gA_ h 26) (rkG (opn σ col z) k * 12 + s) 0 w = _
    by_cases u : w = rkG (opn σ col z) k * 12 + s
    · subst u
      rw [pk_us, if_pos rfl, m0]; rfl
    · rw [pk_un u, if_neg u]
