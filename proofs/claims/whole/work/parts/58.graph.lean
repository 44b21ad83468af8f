/-! ===== lowest bits, counts ===== -/
theorem f_first {x : Int64} {b : Nat} (h : lw x b) : F_X7_first x = some (nI b) := by
  unfold F_X7_first
  have h64 := h.1
  refine lp_FU (fun n i => F_X7_first_2 n x (nI i)) _ b (by omega) (fun n i hi => ?_) (fun n => ?_)
  · show F_X7_first_2 (n + 1) _ _ = _
    rw [F_X7_first_2, if_pos ((la1_0 x (by omega)).mpr (h.2.2 i hi)), show nI i + 1 = nI (i + 1) from nI_add i 1]
  · show F_X7_first_2 (n + 1) _ _ = _
    rw [F_X7_first_2, if_neg (fun q => by have := (la1_0 x h64).mp q; rw [h.2.1] at this; cases this)]
theorem lt_cnt : ∀ b, b < 64 → sumN (fun i => b1n (decide (i < b))) 64 = b := by decide +kernel
theorem eq_cnt : ∀ b, b < 64 → sumN (fun i => b1n (decide (i = b))) 64 = 1 := by decide +kernel
theorem f_least {x : Int64} {b : Nat} (h : lw x b) : F_X6_least x = some (nI b) := by
  unfold F_X6_least
  have h64 := h.1
  rw [f_bitCount, ob_s]
  have hl : lw (x &&& -x) b := ⟨h64, by rw [tb_low h h64]; exact decide_eq_true rfl, fun j hj => by rw [tb_low h (by omega)]; exact decide_eq_false (by omega)⟩
  have e : pcL ((x &&& -x) - 1) = b := by
    unfold pcL
    refine Eq.trans (sumN_c (fun i hi => congrArg b1n ?_)) (lt_cnt b h64)
    rw [tb_pred _ hi, lw_neg hl hi]
    by_cases q : i < b
    · rw [if_pos q, decide_eq_true q]; rfl
    · rw [if_neg q, decide_eq_false q]
      by_cases q2 : i = b
      · rw [if_pos q2]; rfl
      · rw [if_neg q2, tb_low h hi, decide_eq_false q2]; rfl
  rw [e]
def bsum (f : Nat → Nat) (x : Int64) : Nat := sumN (fun i => if tb x i = true then f i else 0) 64
theorem sum_one (c b : Nat) (hb : b < 64) : sumN (fun i => if i = b then c else 0) 64 = c := by
  have : sumN (fun i => if i = b then c else 0) 64 = sumN (fun i => c * b1n (decide (i = b))) 64 := sumN_c (fun i _ => by
    by_cases q : i = b
    · rw [if_pos q, decide_eq_true q]; exact (Nat.mul_one c).symm
    · rw [if_neg q, decide_eq_false q]; rfl)
  rw [this, sumN_k, eq_cnt b hb, Nat.mul_one]
theorem bsum_pop {f : Nat → Nat} {x : Int64} {b : Nat} (h : lw x b) : bsum f x = f b + bsum f (x &&& (x - 1)) := by
  unfold bsum
  rw [← sum_one (f b) b h.1, ← sumN_g]
  refine sumN_c (fun i hi => ?_)
  rw [tb_pop h hi]
  by_cases q : i = b
  · subst q
    rw [h.2.1, if_pos rfl, if_pos rfl, decide_eq_true rfl]; rfl
  · rw [if_neg q, decide_eq_false q, Bool.not_false, Bool.and_true, Nat.zero_add]
theorem bsum_0 (f : Nat → Nat) : bsum f 0 = 0 := sumN_0 (fun i _ => by rw [tb_0]; rfl)
theorem pcL_b (x : Int64) : pcL x = bsum (fun _ => 1) x := by
  unfold pcL bsum
  refine sumN_c (fun i _ => ?_)
  cases tb x i <;> rfl
theorem pcL_pop {x : Int64} {b : Nat} (h : lw x b) : pcL x = pcL (x &&& (x - 1)) + 1 := by
  rw [pcL_b, pcL_b, bsum_pop h, Nat.add_comm]
theorem pcL_0 : pcL 0 = 0 := by rw [pcL_b, bsum_0]
theorem sumN_z {f : Nat → Nat} : ∀ {n : Nat}, sumN f n = 0 → ∀ i, i < n → f i = 0
  | 0, _, i, hi => by omega
  | n + 1, h, i, hi => by
    rw [sumN] at h
    by_cases q : i = n
    · subst q; omega
    · exact sumN_z (n := n) (by omega) i (by omega)
theorem pcL_z {x : Int64} (h : pcL x = 0) : x = 0 := tb_z.mpr (fun i hi => by
  have := sumN_z h i hi
  cases q : tb x i with
  | false => rfl
  | true => rw [q] at this; cases this)
theorem pcL_le {x : Int64} {m : Nat} (hm : m ≤ 64) (h : bl x m) : pcL x ≤ m := by
  unfold pcL
  rw [show 64 = m + (64 - m) by omega, sumN_add, sumN_0 (f := fun i => b1n (tb x (m + i))) (fun i _ => by rw [h (m + i) (by omega)]; rfl), Nat.add_zero]
  have := sumN_le (f := fun i => b1n (tb x i)) (c := 1) (fun i => by cases tb x i <;> decide) m
  omega
theorem f_bits (x : Int64) : F_X7_bits x = some (nI (pcL x)) := by
  unfold F_X7_bits
  have key : ∀ m n c x, pcL x = m → m < n → F_X7_bits_4 n (nI c) x = some (nI (c + m)) := by
    intro m
    induction m with
    | zero =>
      intro n c x hx hn
      obtain ⟨n, rfl⟩ : ∃ k, n = k + 1 := ⟨n - 1, by omega⟩
      rw [F_X7_bits_4, if_pos (pcL_z hx)]; rfl
    | succ m ih =>
      intro n c x hx hn
      obtain ⟨n, rfl⟩ : ∃ k, n = k + 1 := ⟨n - 1, by omega⟩
      have hne : ¬ x = 0 := fun e => by rw [e, pcL_0] at hx; omega
      obtain ⟨b, hb⟩ := lw_ex hne
      have := pcL_pop hb
      rw [F_X7_bits_4, if_neg hne, bd_e, show nI c + 1 = nI (c + 1) from nI_add c 1, ih n (c + 1) _ (by omega) (by omega)]
      congr 2; omega
  have h64 : pcL x ≤ 64 := pcL_le (Nat.le_refl _) (fun i hi => tb_big hi)
  have := key (pcL x) FU_ 0 x rfl (by unfold FU_; omega)
  rw [Nat.zero_add] at this
  exact this
/-! ===== what is reached ===== -/
def Cn (nb : Nat → Nat → Bool) (A S : Int64) (b : Nat) : Prop := ∀ P : Nat → Prop, (∀ b, tb S b = true → P b) → (∀ a b, P a → nb a b = true → tb A b = true → P b) → P b
theorem Cn.base {nb : Nat → Nat → Bool} {A S : Int64} {b : Nat} (h : tb S b = true) : Cn nb A S b := fun _ h1 _ => h1 b h
theorem Cn.step {nb : Nat → Nat → Bool} {A S : Int64} {a b : Nat} (h : Cn nb A S a) (h1 : nb a b = true) (h2 : tb A b = true) : Cn nb A S b := fun P p1 p2 => p2 a b (h P p1 p2) h1 h2
def Iv (nb : Nat → Nat → Bool) (A S R O : Int64) : Prop := (∀ b, tb S b = true → tb R b = true) ∧ (∀ b, tb O b = true → tb R b = true) ∧ (∀ b, tb R b = true → Cn nb A S b) ∧ (∀ a, tb R a = true → tb O a = false → ∀ b, nb a b = true → tb A b = true → tb R b = true)
theorem Iv.start (nb : Nat → Nat → Bool) (A S : Int64) : Iv nb A S S S := ⟨fun _ h => h, fun _ h => h, fun _ h => .base h, fun a h1 h2 => by rw [h1] at h2; cases h2⟩
theorem Iv.done {nb : Nat → Nat → Bool} {A S R O : Int64} (h : Iv nb A S R O) (h0 : O = 0) (b : Nat) : tb R b = true ↔ Cn nb A S b := by
  exact ⟨h.2.2.1 b, fun q => q (fun b => tb R b = true) h.1 (fun a b ih q1 q2 => h.2.2.2 _ ih (by rw [h0, tb_0]) _ q1 q2)⟩
def pot (A R O : Int64) : Nat := pcL O + pcL (A &&& (R ^^^ (-1)))
theorem tb_pop' {x : Int64} {b : Nat} (h : lw x b) (i : Nat) : tb (x &&& (x - 1)) i = (tb x i && !decide (i = b)) := by
  rcases Nat.lt_or_ge i 64 with q | q
  · exact tb_pop h q
  · rw [tb_big q, tb_big q]; rfl
theorem Iv.step {nb : Nat → Nat → Bool} {A S R O N : Int64} {b : Nat} (h : Iv nb A S R O) (hb : lw O b) (hN : ∀ j, tb N j = nb b j) : Iv nb A S (R ||| (N &&& A) &&& (R ^^^ (-1))) ((O &&& (O - 1)) ||| (N &&& A) &&& (R ^^^ (-1))) ∧ pot A (R ||| (N &&& A) &&& (R ^^^ (-1))) ((O &&& (O - 1)) ||| (N &&& A) &&& (R ^^^ (-1))) + 1 = pot A R O := by
  have hbR := h.2.1 b hb.2.1
  constructor
  · refine ⟨fun j hj => ?_, fun j hj => ?_, fun j hj => ?_, fun a ha ho j hj hA => ?_⟩
    · rw [tb_or, h.1 j hj]; rfl
    · rw [tb_or, tb_pop' hb, Bool.or_eq_true, Bool.and_eq_true] at hj
      rw [tb_or, Bool.or_eq_true]
      exact hj.elim (fun q => Or.inl (h.2.1 j q.1)) Or.inr
    · rw [tb_or, Bool.or_eq_true, tb_min, tb_and, Bool.and_eq_true, Bool.and_eq_true] at hj
      rcases hj with q | ⟨⟨q1, q2⟩, _⟩
      · exact h.2.2.1 j q
      · exact .step (h.2.2.1 b hbR) (by rw [← hN]; exact q1) q2
    · rw [tb_or, tb_pop' hb, Bool.or_eq_false_iff] at ho
      rw [tb_or, Bool.or_eq_true, tb_min, tb_and] at ha
      rw [tb_or, Bool.or_eq_true, tb_min, tb_and]
      have haR : tb R a = true := by
        rcases ha with q | q
        · exact q
        · have q3 := ho.2; rw [tb_min, tb_and, q] at q3; cases q3
      by_cases hab : a = b
      · subst hab
        cases q : tb R j with
        | true => exact Or.inl rfl
        | false => exact Or.inr (by rw [hN, hj, hA]; rfl)
      · have : tb O a = false := by
          have q := ho.1
          rw [decide_eq_false hab, Bool.not_false, Bool.and_true] at q
          exact q
        exact Or.inl (h.2.2.2 a haR this j hj hA)
  · unfold pot
    rw [pcL_pop hb]
    have e1 : pcL ((O &&& (O - 1)) ||| (N &&& A) &&& (R ^^^ (-1))) = pcL (O &&& (O - 1)) + pcL ((N &&& A) &&& (R ^^^ (-1))) := by
      unfold pcL
      rw [← sumN_g]
      refine sumN_c (fun i hi => ?_)
      rw [tb_or, tb_pop hb hi, tb_min, tb_and]
      have := h.2.1 i
      cases q1 : tb O i <;> cases q2 : tb R i <;> cases decide (i = b) <;> cases tb N i <;> cases tb A i <;> first | rfl | (rw [q1, q2] at this; cases this rfl)
    have e2 : pcL (A &&& (R ^^^ (-1))) = pcL (A &&& ((R ||| (N &&& A) &&& (R ^^^ (-1))) ^^^ (-1))) + pcL ((N &&& A) &&& (R ^^^ (-1))) := by
      unfold pcL
      rw [← sumN_g]
      refine sumN_c (fun i hi => ?_)
      rw [tb_min, tb_min, tb_or, tb_min, tb_and]
      cases tb R i <;> cases tb N i <;> cases tb A i <;> rfl
    omega
