/-! ===== bricks on the open cells: masks and what they spare ===== -/
def mrow (p : Nat → Bool) (m b : Nat) : Nat → Nat
  | 0 => m
  | j + 1 => mrow p m b j ||| 2 ^ rkG p (b + j)
def mrec (p : Nat → Bool) (b l : Nat) : Nat → Nat
  | 0 => 0
  | i + 1 => mrow p (mrec p b l i) (b + 6 * i) l
theorem mrow_t {p : Nat → Bool} {m b r : Nat} : ∀ l, (mrow p m b l).testBit r = true ↔ (m.testBit r = true ∨ ∃ j, j < l ∧ rkG p (b + j) = r)
  | 0 => ⟨fun h => Or.inl h, fun h => h.elim id (fun ⟨j, hj, _⟩ => by omega)⟩
  | l + 1 => by
    rw [mrow, tB_or, Bool.or_eq_true, mrow_t l, decide_eq_true_iff]
    constructor
    · rintro ((h | ⟨j, hj, e⟩) | h)
      · exact Or.inl h
      · exact Or.inr ⟨j, by omega, e⟩
      · exact Or.inr ⟨l, by omega, h⟩
    · rintro (h | ⟨j, hj, e⟩)
      · exact Or.inl (Or.inl h)
      · by_cases q : j = l
        · subst q; exact Or.inr e
        · exact Or.inl (Or.inr ⟨j, by omega, e⟩)
theorem mrec_t {p : Nat → Bool} {b l r : Nat} : ∀ d, (mrec p b l d).testBit r = true ↔ ∃ i, i < d ∧ ∃ j, j < l ∧ rkG p (b + 6 * i + j) = r
  | 0 => ⟨fun h => (by rw [mrec, Nat.zero_testBit] at h; cases h), fun ⟨i, hi, _⟩ => by omega⟩
  | d + 1 => by
    rw [mrec, mrow_t, mrec_t d]
    constructor
    · rintro (⟨i, hi, h⟩ | ⟨j, hj, e⟩)
      · exact ⟨i, by omega, h⟩
      · exact ⟨d, by omega, j, hj, e⟩
    · rintro ⟨i, hi, j, hj, e⟩
      by_cases q : i = d
      · subst q; exact Or.inr ⟨j, hj, e⟩
      · exact Or.inl ⟨i, by omega, j, hj, e⟩
/-- the cell i, j of a brick that begins at k may be covered -/
def okc (p : Nat → Bool) (k i j : Nat) : Prop := k % 6 + j < 6 ∧ k / 6 + i < 6 ∧ p (k + 6 * i + j) = true
def Fit (p : Nat → Bool) (k l d : Nat) : Prop := ∀ i, i < d → ∀ j, j < l → okc p k i j
noncomputable def cvK (p : Nat → Bool) (k l d : Nat) : Nat := @ite _ (Fit p k l d) (Classical.propDecidable _) (mrec p k l d) 0
theorem cvK_f {p : Nat → Bool} {k l d : Nat} (h : Fit p k l d) : cvK p k l d = mrec p k l d := by unfold cvK; rw [if_pos h]
theorem cvK_n {p : Nat → Bool} {k l d : Nat} (h : ¬ Fit p k l d) : cvK p k l d = 0 := by unfold cvK; rw [if_neg h]
theorem cvK_nz {p : Nat → Bool} {k l d : Nat} (h : cvK p k l d ≠ 0) : Fit p k l d := by
  rcases Classical.em (Fit p k l d) with q | q
  · exact q
  · exact absurd (cvK_n q) h
theorem lt_of_bits {m N : Nat} (h : ∀ i, m.testBit i = true → i < N) : m < 2 ^ N := Nat.lt_pow_two_of_testBit m (fun i hi => by
  cases q : m.testBit i with
  | false => rfl
  | true => have := h i q; omega)
theorem cvK_lt {p : Nat → Bool} (hp : ∀ k, p k = true → k < 36) {k l d : Nat} : cvK p k l d < 2 ^ rkG p 36 := by
  rcases Classical.em (Fit p k l d) with q | q
  · rw [cvK_f q]
    refine lt_of_bits (fun r hr => ?_)
    obtain ⟨i, hi, j, hj, e⟩ := (mrec_t d).mp hr
    have h3 := (q i hi j hj).2.2
    have := rkG_lt (hp _ h3) h3
    omega
  · rw [cvK_n q]; exact Nat.pow_pos (by decide)
theorem cvK_at {p : Nat → Bool} {k l d : Nat} (hl : 0 < l) (hd : 0 < d) (h : Fit p k l d) : cvK p k l d ≠ 0 := fun q => by
  have : (mrec p k l d).testBit (rkG p (k + 6 * 0 + 0)) = true := (mrec_t d).mpr ⟨0, hd, 0, hl, rfl⟩
  rw [← cvK_f h, q, Nat.zero_testBit] at this; cases this
/-- in the rectangle -/
def inK (k l d q : Nat) : Bool := decide (k % 6 ≤ q % 6 ∧ q % 6 < k % 6 + l ∧ k / 6 ≤ q / 6 ∧ q / 6 < k / 6 + d)
theorem cvK_in {p : Nat → Bool} {k l d : Nat} (h : Fit p k l d) (hl : 0 < l) (hd : 0 < d) {q : Nat} : (p q && (cvK p k l d).testBit (rkG p q)) = inK k l d q := by
  have a1 := (h 0 hd (l - 1) (by omega)).1
  have a2 := (h (d - 1) (by omega) 0 hl).2.1
  refine bool_of ?_
  rw [Bool.and_eq_true, cvK_f h, mrec_t]
  unfold inK
  rw [decide_eq_true_iff]
  constructor
  · rintro ⟨hq, i, hi, j, hj, e⟩
    have e := rkG_inj (h i hi j hj).2.2 hq e
    subst e
    refine ⟨?_, ?_, ?_, ?_⟩ <;> omega
  · rintro ⟨h1, h2, h3, h4⟩
    have e : q = k + 6 * (q / 6 - k / 6) + (q % 6 - k % 6) := by omega
    have w := (h (q / 6 - k / 6) (by omega) (q % 6 - k % 6) (by omega)).2.2
    rw [← e] at w
    exact ⟨w, q / 6 - k / 6, by omega, q % 6 - k % 6, by omega, by rw [← e]⟩
def cvT (p : Nat → Bool) (wR wB : Nat → Nat) (m k : Nat) : Nat := (if (decide (k % 6 < 5) && (p (k + 1) && m.testBit (rkG p (k + 1)))) = true then wR k else 0) + (if (decide (k / 6 < 5) && (p (k + 6) && m.testBit (rkG p (k + 6)))) = true then wB k else 0)
def cvS (p : Nat → Bool) (wR wB : Nat → Nat) (m : Nat) : Nat := sumN (fun k => if p k = true then (if m.testBit (rkG p k) = true then cvT p wR wB m k else 0) else 0) 36
theorem cvT_le {p : Nat → Bool} {wR wB : Nat → Nat} (hR : ∀ k, wR k ≤ 2) (hB : ∀ k, wB k ≤ 2) (m k : Nat) : cvT p wR wB m k ≤ 4 := by
  have := hR k
  have := hB k
  unfold cvT
  split <;> split <;> omega
theorem sumN_kl (c : Nat) {f g : Nat → Nat} (h : ∀ i, f i ≤ c * g i) : ∀ n, sumN f n ≤ c * sumN g n
  | 0 => Nat.zero_le _
  | n + 1 => by
    have := sumN_kl c h n
    have := h n
    show sumN f n + f n ≤ c * (sumN g n + g n)
    rw [Nat.mul_add]; omega
theorem cvS_le {p : Nat → Bool} {wR wB : Nat → Nat} (hR : ∀ k, wR k ≤ 2) (hB : ∀ k, wB k ≤ 2) (m : Nat) : cvS p wR wB m ≤ 4 * popN (rkG p 36) m := by
  have e : popN (rkG p 36) m = sumN (fun k => if p k = true then b1n (m.testBit (rkG p k)) else 0) 36 := by
    rw [← sum_rk 36 (fun k => b1n (m.testBit (rkG p k))) 36 (Nat.le_refl _)]
    exact sumN_c (fun i hi => by rw [(nmG_e hi).2.2])
  rw [e]
  refine sumN_kl 4 (fun k => ?_) 36
  cases p k with
  | false => exact Nat.le_refl _
  | true =>
    rw [if_pos rfl, if_pos rfl]
    cases m.testBit (rkG p k) with
    | false => exact Nat.le_refl _
    | true => rw [if_pos rfl]; exact cvT_le hR hB m k
theorem window {g : Nat → Nat} {a l : Nat} (h : a + l ≤ 6) : sumN (fun x => if a ≤ x ∧ x < a + l then g x else 0) 6 = sumN (fun j => g (a + j)) l := by
  have e : 6 = a + (l + (6 - a - l)) := by omega
  rw [e, sumN_add, sumN_add, sumN_0 (fun i hi => if_neg (by omega)), sumN_0 (n := 6 - a - l) (fun i hi => if_neg (by omega)), Nat.zero_add, Nat.add_zero]
  exact sumN_c (fun i hi => if_pos (by omega))
/-- what a brick spares, cell by cell -/
def rSp (wR wB : Nat → Nat) (k l d i j : Nat) : Nat := (if j + 1 < l then wR (k + 6 * i + j) else 0) + (if i + 1 < d then wB (k + 6 * i + j) else 0)
theorem cvS_r {p : Nat → Bool} {wR wB : Nat → Nat} {k l d : Nat} (h : Fit p k l d) (hl : 0 < l) (hd : 0 < d) : cvS p wR wB (cvK p k l d) = sumN (fun i => sumN (fun j => rSp wR wB k l d i j) l) d := by
  have a1 := (h 0 hd (l - 1) (by omega)).1
  have a2 := (h (d - 1) (by omega) 0 hl).2.1
  unfold cvS
  rw [show 36 = 6 * 6 from rfl, sumN_mul, ← window (a := k / 6) (l := d) (g := fun y => sumN (fun j => rSp wR wB k l d (y - k / 6) j) l) (by omega) |>.trans (sumN_c (fun i _ => by rw [Nat.add_sub_cancel_left]))]
  refine sumN_c (fun y hy => ?_)
  rw [← window (a := k % 6) (l := l) (g := fun x => rSp wR wB k l d (y - k / 6) (x - k % 6)) (by omega) |>.trans (sumN_c (fun j _ => by rw [Nat.add_sub_cancel_left]))]
  have hin : ∀ q, (if p q = true then (if (cvK p k l d).testBit (rkG p q) = true then cvT p wR wB (cvK p k l d) q else 0) else 0) = if inK k l d q = true then cvT p wR wB (cvK p k l d) q else 0 := fun q => by
    rw [← cvK_in h hl hd]
    cases p q with
    | false => rfl
    | true => rfl
  by_cases w : k / 6 ≤ y ∧ y < k / 6 + d
  · rw [if_pos w]
    refine sumN_c (fun x hx => ?_)
    have e1 : (y * 6 + x) % 6 = x := by omega
    have e2 : (y * 6 + x) / 6 = y := by omega
    rw [hin]
    by_cases v : k % 6 ≤ x ∧ x < k % 6 + l
    · have i0 : inK k l d (y * 6 + x) = true := by unfold inK; rw [e1, e2]; exact decide_eq_true ⟨v.1, v.2, w.1, w.2⟩
      rw [if_pos v, if_pos i0]
      unfold cvT rSp
      rw [cvK_in h hl hd, cvK_in h hl hd, e1, e2]
      have ek : k + 6 * (y - k / 6) + (x - k % 6) = y * 6 + x := by omega
      rw [ek]
      congr 1
      · by_cases u : x - k % 6 + 1 < l
        · rw [if_pos u, if_pos]
          unfold inK
          rw [decide_eq_true (show x < 5 by omega), decide_eq_true ⟨by omega, by omega, by omega, by omega⟩]; rfl
        · rw [if_neg u, if_neg]
          unfold inK
          intro q
          rw [Bool.and_eq_true, decide_eq_true_iff, decide_eq_true_iff] at q
          omega
      · by_cases u : y - k / 6 + 1 < d
        · rw [if_pos u, if_pos]
          unfold inK
          rw [decide_eq_true (show y < 5 by omega), decide_eq_true ⟨by omega, by omega, by omega, by omega⟩]; rfl
        · rw [if_neg u, if_neg]
          unfold inK
          intro q
          rw [Bool.and_eq_true, decide_eq_true_iff, decide_eq_true_iff] at q
          omega
    · rw [if_neg v, if_neg]
      unfold inK
      rw [decide_eq_true_iff, e1, e2]
      omega
  · rw [if_neg w]
    refine sumN_0 (fun x hx => ?_)
    have e2 : (y * 6 + x) / 6 = y := by omega
    rw [hin, if_neg]
    unfold inK
    rw [decide_eq_true_iff, e2]
    omega
