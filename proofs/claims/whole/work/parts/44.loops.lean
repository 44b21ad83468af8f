/-! ===== loops along a known course ===== -/
theorem lp_run {R : Type} (G : Nat → Nat → R) (r : R) (e : Nat) (hs : ∀ n i, i < e → G (n + 1) i = G n (i + 1)) (hx : ∀ n, G (n + 1) e = r) : ∀ n i, i ≤ e → e - i < n → G n i = r := by
  intro n
  induction n with
  | zero => intro i _ h; omega
  | succ n ih =>
    intro i h1 h2
    by_cases hi : i = e
    · subst hi; exact hx n
    · rw [hs n i (by omega)]; exact ih (i + 1) (by omega) (by omega)
theorem lp_FU {R : Type} (G : Nat → Nat → R) (r : R) (e : Nat) (he : e < 100000) (hs : ∀ n i, i < e → G (n + 1) i = G n (i + 1)) (hx : ∀ n, G (n + 1) e = r) : G FU_ 0 = r := lp_run G r e hs hx FU_ 0 (Nat.zero_le _) (by unfold FU_; omega)
def sumN (f : Nat → Nat) : Nat → Nat
  | 0 => 0
  | n + 1 => sumN f n + f n
theorem sumN_c {f g : Nat → Nat} : ∀ {n : Nat}, (∀ i, i < n → f i = g i) → sumN f n = sumN g n
  | 0, _ => rfl
  | n + 1, h => by rw [sumN, sumN, sumN_c (fun i hi => h i (by omega)), h n (by omega)]
theorem sumN_add (f : Nat → Nat) (m : Nat) : ∀ n, sumN f (m + n) = sumN f m + sumN (fun i => f (m + i)) n
  | 0 => rfl
  | n + 1 => by
    have := sumN_add f m n
    show sumN f (m + n) + f (m + n) = sumN f m + (sumN (fun i => f (m + i)) n + f (m + n))
    omega
theorem sumN_mul (f : Nat → Nat) (n : Nat) : ∀ m, sumN f (m * n) = sumN (fun i => sumN (fun j => f (i * n + j)) n) m
  | 0 => by rw [Nat.zero_mul]; rfl
  | m + 1 => by rw [Nat.succ_mul, sumN_add, sumN_mul f n m]; rfl
theorem sumN_le {f : Nat → Nat} {c : Nat} (h : ∀ i, f i ≤ c) : ∀ n, sumN f n ≤ n * c
  | 0 => Nat.zero_le _
  | n + 1 => by have := sumN_le h n; have := h n; rw [Nat.succ_mul]; show sumN f n + f n ≤ _; omega
theorem sumN_g {f g : Nat → Nat} (n : Nat) : sumN (fun i => f i + g i) n = sumN f n + sumN g n := by
  induction n with
  | zero => rfl
  | succ n ih => show sumN _ n + (f n + g n) = (sumN f n + f n) + (sumN g n + g n); rw [ih]; omega
theorem cut6 {f : Nat → Nat} (h0 : f 0 = 0) (h5 : f 5 = 0) : sumN f 6 = sumN (fun i => f (i + 1)) 4 := by
  simp only [sumN, h0, h5, Nat.zero_add, Nat.reduceAdd, Nat.add_zero]
theorem cut5 {f : Nat → Nat} (h0 : f 0 = 0) (h4 : f 4 = 0) : sumN f 5 = sumN (fun i => f (i + 1)) 3 := by
  simp only [sumN, h0, h4, Nat.zero_add, Nat.reduceAdd, Nat.add_zero]
theorem sumN_0 {f : Nat → Nat} : ∀ {n : Nat}, (∀ i, i < n → f i = 0) → sumN f n = 0
  | 0, _ => rfl
  | n + 1, h => by rw [sumN, sumN_0 (fun i hi => h i (by omega)), h n (by omega)]
/-- over z, y, x -/
theorem sum3 (f : Nat → Nat) : sumN f 180 = sumN (fun z => sumN (fun y => sumN (fun x => f (36 * z + 6 * y + x)) 6) 6) 5 := by
  rw [show 180 = 5 * 36 from rfl, sumN_mul]
  refine sumN_c (fun z _ => ?_)
  rw [show 36 = 6 * 6 from rfl, sumN_mul]
  refine sumN_c (fun y _ => ?_)
  refine sumN_c (fun x _ => ?_)
  congr 1; omega
theorem i_0 : (0 : Int32) = nI 0 := rfl
theorem nI_ze {a : Nat} (h : a < 2 ^ 31) : nI a = 0 ↔ a = 0 := by rw [i_0, i_eq h (by decide)]
theorem nI_le0 {a : Nat} (h : a < 2 ^ 31) : nI a ≤ 0 ↔ a = 0 := by rw [i_0, i_le h (by decide)]; omega
/-! ===== inner cells ===== -/
theorem boAt_le {σ : Sg} (hw : Wf σ) (x y z : Int32) : boAt σ x y z ≤ 5 := by
  unfold boAt; split
  · exact hw.2.1 _
  · omega
def inB (σ : Sg) (x y z : Int32) : Bool := (boAt σ x y z != 0) && ((boAt σ (x - 1) y z != 0) && ((boAt σ (x + 1) y z != 0) && ((boAt σ x (y - 1) z != 0) && ((boAt σ x (y + 1) z != 0) && ((boAt σ x y (z - 1) != 0) && (boAt σ x y (z + 1) != 0))))))
theorem and_chain (a b : Bool) (o : Option Int32) (h : o = some (bi_ b)) : (if a = false then some (0 : Int32) else o) = some (bi_ (a && b)) := by
  cases a <;> simp [h, bi_]
theorem f_isInnerC {σ : Sg} {h : Hp} (hw : Wf σ) (hc : RepC σ h) (x y z : Int32) : F_X0_isInner x y z h = some (bi_ (inB σ x y z)) := by
  have e : ∀ x y z, (nI (boAt σ x y z) = 0) ↔ (boAt σ x y z != 0) = false := fun x y z => by
    rw [nI_ze (by have := boAt_le hw x y z; omega)]; simp
  unfold F_X0_isInner inB
  simp only [f_colourAt hc, ob_s, e]
  refine and_chain _ _ _ (and_chain _ _ _ (and_chain _ _ _ (and_chain _ _ _ (and_chain _ _ _ (and_chain _ _ _ ?_)))))
  cases (boAt σ x y (z + 1) != 0) <;> rfl
theorem f_isBody {σ : Sg} {h : Hp} (hw : Wf σ) (hm : RepM σ h) (x y z : Int32) : F_X7_isBody x y z h = some (bi_ (boAt σ x y z != 0)) := by
  unfold F_X7_isBody boAt
  rw [f_isCell, ob_s]
  cases hp : inP x y z with
  | false => rfl
  | true =>
    rw [if_neg b1_, f_cellAt' hp, ob_s, rA_n h 39 180 _ (ix3_lt hp) (by decide), hm.1 _ (ix3_lt hp), if_pos rfl]
    have := hw.2.1 (ix3 x y z)
    by_cases h0 : sBo σ (ix3 x y z) = 0
    · rw [if_pos ((nI_le0 (by omega)).mpr h0), h0]; rfl
    · rw [if_neg (fun q => h0 ((nI_le0 (by omega)).mp q)), show (sBo σ (ix3 x y z) != 0) = true by simp [h0]]; rfl
theorem f_isInnerM {σ : Sg} {h : Hp} (hw : Wf σ) (hm : RepM σ h) (x y z : Int32) : F_X7_isInner x y z h = some (bi_ (inB σ x y z)) := by
  unfold F_X7_isInner inB
  simp only [f_isBody hw hm, ob_s, bi_0]
  refine and_chain _ _ _ (and_chain _ _ _ (and_chain _ _ _ (and_chain _ _ _ (and_chain _ _ _ (and_chain _ _ _ ?_)))))
  cases (boAt σ x y (z + 1) != 0) <;> rfl
def b1n (b : Bool) : Nat := match b with
  | true => 1
  | false => 0
theorem bi_n (b : Bool) : bi_ b = nI (b1n b) := by cases b <;> rfl
def inC (σ : Sg) (c : Nat) : Nat := b1n (inB σ (nI (c % 6)) (nI (c / 6 % 6)) (nI (c / 36)))
theorem c_coord {c : Nat} (hc : c < 180) : ir_ (nI c) 6 = nI (c % 6) ∧ ir_ (nI c / 6) 6 = nI (c / 6 % 6) ∧ nI c / 36 = nI (c / 36) := by
  refine ⟨i_rem (by omega) (by decide) (by decide), ?_, i_div (by omega) (by decide) (by decide)⟩
  rw [show nI c / 6 = nI (c / 6) from i_div (by omega) (by decide) (by decide)]
  exact i_rem (by omega) (by decide) (by decide)
theorem M_inner {σ : Sg} {h : Hp} (hw : Wf σ) (hm : RepM σ h) : F_X7_inner h = some (nI (sumN (inC σ) 180)) := by
  unfold F_X7_inner
  refine lp_FU (fun n i => F_X7_inner_4 n (nI (sumN (inC σ) i)) (nI i) h) _ 180 (by decide) (fun n i hi => ?_) (fun n => ?_)
  · show F_X7_inner_4 (n + 1) _ _ h = _
    rw [F_X7_inner_4, if_neg (show ¬ (180 : Int32) ≤ nI i from (nI_ge hi (by decide) : ¬ nI 180 ≤ nI i))]
    obtain ⟨e1, e2, e3⟩ := c_coord hi
    rw [e1, e2, e3, f_isInnerM hw hm, ob_s]
    have e4 : sumN (inC σ) (i + 1) = sumN (inC σ) i + b1n (inB σ (nI (i % 6)) (nI (i / 6 % 6)) (nI (i / 36))) := rfl
    rw [e4]
    unfold F_X7_inner_39
    cases inB σ (nI (i % 6)) (nI (i / 6 % 6)) (nI (i / 36)) with
    | false => rw [if_pos b0_]; show F_X7_inner_4 n (nI _ + nI 0) (nI i + 1) h = _; rw [nI_add, nI_1]; rfl
    | true => rw [if_neg b1_]; show F_X7_inner_4 n (nI _ + nI 1) (nI i + 1) h = _; rw [nI_add, nI_1]; rfl
  · show F_X7_inner_4 (n + 1) _ _ h = _
    rw [F_X7_inner_4, if_pos (show (180 : Int32) ≤ nI 180 by decide)]
theorem boAt_off {σ : Sg} {x y z : Int32} (h : inP x y z = false) : boAt σ x y z = 0 := by unfold boAt; rw [h]; rfl
theorem inB_x0 (σ : Sg) (y z : Int32) : inB σ (nI 0) y z = false := by
  have : boAt σ (nI 0 - 1) y z = 0 := boAt_off (by unfold inP; rw [show inN (nI 0 - 1) 6 = false by decide]; rfl)
  unfold inB; rw [this]; simp
theorem inB_x5 (σ : Sg) (y z : Int32) : inB σ (nI 5) y z = false := by
  have : boAt σ (nI 5 + 1) y z = 0 := boAt_off (by unfold inP; rw [show inN (nI 5 + 1) 6 = false by decide]; rfl)
  unfold inB; rw [this]; simp
theorem inB_y0 (σ : Sg) (x z : Int32) : inB σ x (nI 0) z = false := by
  have : boAt σ x (nI 0 - 1) z = 0 := boAt_off (by unfold inP; rw [show inN (nI 0 - 1) 6 = false by decide]; simp)
  unfold inB; rw [this]; simp
theorem inB_y5 (σ : Sg) (x z : Int32) : inB σ x (nI 5) z = false := by
  have : boAt σ x (nI 5 + 1) z = 0 := boAt_off (by unfold inP; rw [show inN (nI 5 + 1) 6 = false by decide]; simp)
  unfold inB; rw [this]; simp
theorem inB_z0 (σ : Sg) (x y : Int32) : inB σ x y (nI 0) = false := by
  have : boAt σ x y (nI 0 - 1) = 0 := boAt_off (by unfold inP; rw [show inN (nI 0 - 1) 5 = false by decide]; simp)
  unfold inB; rw [this]; simp
theorem inB_z4 (σ : Sg) (x y : Int32) : inB σ x y (nI 4) = false := by
  have : boAt σ x y (nI 4 + 1) = 0 := boAt_off (by unfold inP; rw [show inN (nI 4 + 1) 5 = false by decide]; simp)
  unfold inB; rw [this]; simp
theorem inner3 (σ : Sg) : sumN (inC σ) 180 = sumN (fun z => sumN (fun y => sumN (fun x => b1n (inB σ (nI (x + 1)) (nI (y + 1)) (nI (z + 1)))) 4) 4) 3 := by
  have key : ∀ z, z < 5 → ∀ y, y < 6 → ∀ x, x < 6 → inC σ (36 * z + 6 * y + x) = b1n (inB σ (nI x) (nI y) (nI z)) := by
    intro z hz y hy x hx
    unfold inC
    rw [show (36 * z + 6 * y + x) % 6 = x by omega, show (36 * z + 6 * y + x) / 6 % 6 = y by omega, show (36 * z + 6 * y + x) / 36 = z by omega]
  rw [sum3]
  have e1 : ∀ z, z < 5 → sumN (fun y => sumN (fun x => inC σ (36 * z + 6 * y + x)) 6) 6 = sumN (fun y => sumN (fun x => b1n (inB σ (nI (x + 1)) (nI (y + 1)) (nI z))) 4) 4 := by
    intro z hz
    have e2 : ∀ y, y < 6 → sumN (fun x => inC σ (36 * z + 6 * y + x)) 6 = sumN (fun x => b1n (inB σ (nI (x + 1)) (nI y) (nI z))) 4 := by
      intro y hy
      rw [sumN_c (fun x hx => key z hz y hy x hx)]
      exact cut6 (by rw [inB_x0]; rfl) (by rw [inB_x5]; rfl)
    rw [sumN_c e2]
    exact cut6 (sumN_0 (fun x _ => by rw [inB_y0]; rfl)) (sumN_0 (fun x _ => by rw [inB_y5]; rfl))
  rw [sumN_c e1]
  exact cut5 (sumN_0 (fun y _ => sumN_0 (fun x _ => by rw [inB_z0]; rfl))) (sumN_0 (fun y _ => sumN_0 (fun x _ => by rw [inB_z4]; rfl)))
theorem l_in19 {σ : Sg} {h : Hp} (hw : Wf σ) (hc : RepC σ h) (k : Int32 → Int32 → Int32 → Hp → Option Int32) (a : Nat) (y z : Int32) : F_X0_countInner_19 FU_ k (nI a) z y 1 h = k (nI (a + sumN (fun x => b1n (inB σ (nI (x + 1)) y z)) 4)) z y h := by
  refine lp_FU (fun n i => F_X0_countInner_19 n k (nI (a + sumN (fun x => b1n (inB σ (nI (x + 1)) y z)) i)) z y (nI (i + 1)) h) _ 4 (by decide) (fun n i hi => ?_) (fun n => ?_)
  · show F_X0_countInner_19 (n + 1) k _ _ _ _ h = _
    rw [F_X0_countInner_19, if_neg (show ¬ (5 : Int32) ≤ nI (i + 1) from (nI_ge (by omega) (by decide) : ¬ nI 5 ≤ nI (i + 1))), f_isInnerC hw hc, ob_s]
    unfold F_X0_countInner_39
    have e4 : sumN (fun x => b1n (inB σ (nI (x + 1)) y z)) (i + 1) = sumN (fun x => b1n (inB σ (nI (x + 1)) y z)) i + b1n (inB σ (nI (i + 1)) y z) := rfl
    rw [e4]
    cases inB σ (nI (i + 1)) y z with
    | false => rw [if_pos b0_, nI_1]; rfl
    | true => rw [if_neg b1_, nI_1, nI_1]; rfl
  · show F_X0_countInner_19 (n + 1) k _ _ _ _ h = _
    rw [F_X0_countInner_19, if_pos (show (5 : Int32) ≤ nI (4 + 1) by decide)]
theorem l_in11 {σ : Sg} {h : Hp} (hw : Wf σ) (hc : RepC σ h) (k : Int32 → Int32 → Hp → Option Int32) (a : Nat) (z : Int32) : F_X0_countInner_11 FU_ k (nI a) z 1 h = k (nI (a + sumN (fun y => sumN (fun x => b1n (inB σ (nI (x + 1)) (nI (y + 1)) z)) 4) 4)) z h := by
  refine lp_FU (fun n i => F_X0_countInner_11 n k (nI (a + sumN (fun y => sumN (fun x => b1n (inB σ (nI (x + 1)) (nI (y + 1)) z)) 4) i)) z (nI (i + 1)) h) _ 4 (by decide) (fun n i hi => ?_) (fun n => ?_)
  · show F_X0_countInner_11 (n + 1) k _ _ _ h = _
    rw [F_X0_countInner_11, if_neg (show ¬ (5 : Int32) ≤ nI (i + 1) from (nI_ge (by omega) (by decide) : ¬ nI 5 ≤ nI (i + 1))), l_in19 hw hc]
    unfold F_X0_countInner_45
    rw [nI_1, Nat.add_assoc]; rfl
  · show F_X0_countInner_11 (n + 1) k _ _ _ h = _
    rw [F_X0_countInner_11, if_pos (show (5 : Int32) ≤ nI (4 + 1) by decide)]
theorem C_inner {σ : Sg} {h : Hp} (hw : Wf σ) (hc : RepC σ h) : F_X6_inner h = some (nI (sumN (inC σ) 180)) := by
  rw [inner3]
  unfold F_X6_inner F_X0_countInner
  have e : F_X0_countInner_4 FU_ 0 1 h = some (nI (sumN (fun z => sumN (fun y => sumN (fun x => b1n (inB σ (nI (x + 1)) (nI (y + 1)) (nI (z + 1)))) 4) 4) 3)) := by
    refine lp_FU (fun n i => F_X0_countInner_4 n (nI (sumN (fun z => sumN (fun y => sumN (fun x => b1n (inB σ (nI (x + 1)) (nI (y + 1)) (nI (z + 1)))) 4) 4) i)) (nI (i + 1)) h) _ 3 (by decide) (fun n i hi => ?_) (fun n => ?_)
    · show F_X0_countInner_4 (n + 1) _ _ h = _
      rw [F_X0_countInner_4, if_neg (show ¬ (4 : Int32) ≤ nI (i + 1) from (nI_ge (by omega) (by decide) : ¬ nI 4 ≤ nI (i + 1))), l_in11 hw hc]
      unfold F_X0_countInner_51
      rw [nI_1]; rfl
    · show F_X0_countInner_4 (n + 1) _ _ h = _
      rw [F_X0_countInner_4, if_pos (show (4 : Int32) ≤ nI (3 + 1) by decide)]
  rw [e]; rfl
