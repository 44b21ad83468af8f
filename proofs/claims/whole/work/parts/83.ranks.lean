/-! ===== ranks, trailing ones, masks ===== -/
def rkG (p : Nat → Bool) (b : Nat) : Nat := sumN (fun c => b1n (p c)) b
theorem rkG_s (p : Nat → Bool) (b : Nat) : rkG p (b + 1) = rkG p b + b1n (p b) := rfl
theorem rkG_mono {p : Nat → Bool} {a : Nat} : ∀ b, a ≤ b → rkG p a ≤ rkG p b
  | 0, h => by have : a = 0 := by omega
               subst this; exact Nat.le_refl _
  | b + 1, h => by
    rcases Nat.lt_or_ge b a with q | q
    · have : a = b + 1 := by omega
      subst this; exact Nat.le_refl _
    · have := rkG_mono (p := p) b q
      rw [rkG_s]; omega
theorem rkG_lt {p : Nat → Bool} {a b : Nat} (h : a < b) (ha : p a = true) : rkG p a < rkG p b := by
  have h1 := rkG_mono (p := p) (a := a + 1) b h
  rw [rkG_s, ha] at h1
  have : b1n true = 1 := rfl
  omega
theorem rkG_inj {p : Nat → Bool} {a b : Nat} (ha : p a = true) (hb : p b = true) (h : rkG p a = rkG p b) : a = b := by
  rcases Nat.lt_trichotomy a b with q | q | q
  · have := rkG_lt q ha; omega
  · exact q
  · have := rkG_lt q hb; omega
theorem rkG_ex {p : Nat → Bool} {i : Nat} : ∀ n, i < rkG p n → ∃ c, c < n ∧ p c = true ∧ rkG p c = i
  | 0, h => by have : rkG p 0 = 0 := rfl
               omega
  | n + 1, h => by
    rcases Nat.lt_or_ge i (rkG p n) with q | q
    · obtain ⟨c, c1, c2⟩ := rkG_ex n q
      exact ⟨c, by omega, c2⟩
    · rw [rkG_s] at h
      cases ht : p n with
      | false => rw [ht] at h; have : b1n false = 0 := rfl; omega
      | true =>
        rw [ht] at h
        have : b1n true = 1 := rfl
        exact ⟨n, by omega, ht, by omega⟩
theorem rkG_le (p : Nat → Bool) : ∀ n, rkG p n ≤ n
  | 0 => Nat.le_refl _
  | n + 1 => by
    have := rkG_le p n
    rw [rkG_s]
    cases p n
    · have : b1n false = 0 := rfl
      omega
    · have : b1n true = 1 := rfl
      omega
def nmG (p : Nat → Bool) (i : Nat) : Nat → Nat
  | 0 => 0
  | n + 1 => if p n = true ∧ rkG p n = i then n else nmG p i n
theorem nmG_r {p : Nat → Bool} {c : Nat} (hc : p c = true) : ∀ n, c < n → nmG p (rkG p c) n = c
  | 0, h => by omega
  | n + 1, h => by
    rw [nmG]
    by_cases q : p n = true ∧ rkG p n = rkG p c
    · rw [if_pos q]; exact rkG_inj q.1 hc q.2
    · rw [if_neg q]
      refine nmG_r hc n ?_
      rcases Nat.lt_or_ge c n with w | w
      · exact w
      · have : c = n := by omega
        subst this; exact absurd ⟨hc, rfl⟩ q
theorem nmG_e {p : Nat → Bool} {i n : Nat} (h : i < rkG p n) : nmG p i n < n ∧ p (nmG p i n) = true ∧ rkG p (nmG p i n) = i := by
  obtain ⟨c, c1, c2, c3⟩ := rkG_ex n h
  have : nmG p i n = c := by rw [← c3]; exact nmG_r c2 n c1
  rw [this]; exact ⟨c1, c2, c3⟩
/-- sums over the open ones -/
theorem sum_rk {p : Nat → Bool} (N : Nat) (g : Nat → Nat) : ∀ n, n ≤ N → sumN (fun i => g (nmG p i N)) (rkG p n) = sumN (fun k => if p k = true then g k else 0) n
  | 0, _ => rfl
  | n + 1, h => by
    have ih := sum_rk (p := p) N g n (by omega)
    show sumN (fun i => g (nmG p i N)) (rkG p n + b1n (p n)) = sumN (fun k => if p k = true then g k else 0) n + (if p n = true then g n else 0)
    rw [← ih]
    cases ht : p n with
    | false => rw [if_neg (by decide)]; rfl
    | true =>
      rw [if_pos rfl]
      show sumN (fun i => g (nmG p i N)) (rkG p n) + g (nmG p (rkG p n) N) = _
      rw [nmG_r ht N (by omega)]
/-! trailing ones -/
def ffA : Nat → Nat → Nat
  | 0, _ => 0
  | n + 1, c => if c % 2 = 1 then ffA n (c / 2) + 1 else 0
def tr (c f : Nat) : Prop := (∀ j, j < f → c.testBit j = true) ∧ c.testBit f = false
theorem tr_one {c f g : Nat} (h1 : tr c f) (h2 : tr c g) : f = g := by
  rcases Nat.lt_trichotomy f g with q | q | q
  · have := h2.1 f q; rw [h1.2] at this; cases this
  · exact q
  · have := h1.1 g q; rw [h2.2] at this; cases this
theorem tb0 (c : Nat) : c.testBit 0 = decide (c % 2 = 1) := Nat.testBit_zero c
theorem tbS (c j : Nat) : c.testBit (j + 1) = (c / 2).testBit j := Nat.testBit_succ c j
theorem ffA_tr : ∀ n c, c < 2 ^ n → tr c (ffA n c)
  | 0, c, h => by
    have : c = 0 := by omega
    subst this
    exact ⟨fun j hj => by rw [ffA] at hj; omega, Nat.zero_testBit _⟩
  | n + 1, c, h => by
    have hp : 2 ^ (n + 1) = 2 * 2 ^ n := by rw [Nat.pow_succ, Nat.mul_comm]
    rw [ffA]
    by_cases q : c % 2 = 1
    · rw [if_pos q]
      obtain ⟨i1, i2⟩ := ffA_tr n (c / 2) (by omega)
      refine ⟨fun j hj => ?_, by rw [tbS]; exact i2⟩
      cases j with
      | zero => rw [tb0, decide_eq_true q]
      | succ j => rw [tbS]; exact i1 j (by omega)
    · rw [if_neg q]
      exact ⟨fun j hj => by omega, by rw [tb0, decide_eq_false q]⟩
def ffN (c : Nat) : Nat := ffA 32 c
theorem ff_tr {c : Nat} (h : c < 2 ^ 31) : tr c (ffN c) := ffA_tr 32 c (by omega)
theorem ff_of {c f : Nat} (h : c < 2 ^ 31) (ht : tr c f) : ffN c = f := tr_one (ff_tr h) ht
theorem tb_succ : ∀ f c, tr c f → ∀ j, (c + 1).testBit j = (decide (j = f) || (decide (f < j) && c.testBit j))
  | 0, c, h, j => by
    have h0 : ¬ c % 2 = 1 := by have := h.2; rw [tb0] at this; exact of_decide_eq_false this
    cases j with
    | zero => rw [tb0, decide_eq_true (show (c + 1) % 2 = 1 by omega)]; rfl
    | succ j => rw [tbS, tbS, show (c + 1) / 2 = c / 2 by omega]; simp
  | f + 1, c, h, j => by
    have h0 : c % 2 = 1 := by have := h.1 0 (by omega); rw [tb0] at this; exact of_decide_eq_true this
    have hc : tr (c / 2) f := ⟨fun j hj => by rw [← tbS]; exact h.1 (j + 1) (by omega), by rw [← tbS]; exact h.2⟩
    cases j with
    | zero => rw [tb0, decide_eq_false (show ¬ (c + 1) % 2 = 1 by omega)]; simp
    | succ j =>
      rw [tbS, tbS, show (c + 1) / 2 = c / 2 + 1 by omega, tb_succ f (c / 2) hc j]
      simp
def bt (x : Int32) (i : Nat) : Bool := x.toBitVec.getLsbD i
theorem bt_n (c i : Nat) : bt (nI c) i = (decide (i < 32) && c.testBit i) := by
  unfold bt
  show (BitVec.ofNat 32 c).getLsbD i = _
  rw [BitVec.getLsbD_ofNat]
theorem bt_ext {x y : Int32} (h : ∀ i, i < 32 → bt x i = bt y i) : x = y := Int32.toBitVec_inj.mp (BitVec.eq_of_getLsbD_eq h)
theorem bt_m1 : ∀ i, i < 32 → bt (-1) i = true := by decide +kernel
theorem ones_m {c f : Nat} (hc : c < 2 ^ 31) (h : tr c f) : nI c &&& ((nI c + 1) ^^^ (-1)) = nI (2 ^ f - 1) := by
  refine bt_ext (fun i hi => ?_)
  have e : nI c + 1 = nI (c + 1) := nI_add c 1
  have e2 : bt (nI c &&& (nI (c + 1) ^^^ (-1))) i = (bt (nI c) i && (bt (nI (c + 1)) i ^^ bt (-1) i)) := by
    unfold bt
    rw [Int32.toBitVec_and, Int32.toBitVec_xor, BitVec.getLsbD_and, BitVec.getLsbD_xor]
  rw [e, e2, bt_m1 i hi, bt_n, bt_n, bt_n, decide_eq_true hi, tb_succ f c h i, Nat.testBit_two_pow_sub_one]
  rcases Nat.lt_trichotomy i f with q | q | q
  · rw [h.1 i q]
    have h1 : ¬ i = f := by omega
    have h2 : ¬ f < i := by omega
    simp [h1, h2, q]
  · subst q; rw [h.2]; simp
  · have h1 : ¬ i = f := by omega
    have h2 : ¬ i < f := by omega
    cases c.testBit i <;> simp [h1, h2, q]
theorem bc_ones : ∀ f, f < 31 → F_J6_bitCount_0f7a4 (nI (2 ^ f - 1)) = some (nI f) := by decide +kernel
theorem f_firstFree {c f : Nat} (hc : c < 2 ^ 31) (h : tr c f) (hf : f < 31) : F_X3_firstFree (nI c) = some (nI f) := by
  unfold F_X3_firstFree
  rw [ones_m hc h, bc_ones f hf, ob_s]
theorem f_firstOpen {c f : Nat} (hc : c < 2 ^ 31) (h : tr c f) (hf : f < 32) : F_X7_firstOpen (nI c) = some (nI f) := by
  unfold F_X7_firstOpen
  refine lp_FU (fun n i => F_X7_firstOpen_2 n (nI c) (nI i)) _ f (by omega) (fun n i hi => ?_) (fun n => ?_)
  · show F_X7_firstOpen_2 (n + 1) _ _ = _
    rw [F_X7_firstOpen_2, if_pos ((ia_bit hc (by omega)).mpr (h.1 i hi)), show nI i + 1 = nI (i + 1) from nI_add i 1]
  · show F_X7_firstOpen_2 (n + 1) _ _ = _
    rw [F_X7_firstOpen_2, if_neg (fun q => by have := (ia_bit hc (by omega)).mp q; rw [h.2] at this; cases this)]
/-! counts of masks -/
theorem and0 {a b : Nat} (h : a &&& b = 0) (i : Nat) : (a.testBit i && b.testBit i) = false := by
  rw [← Nat.testBit_and, h, Nat.zero_testBit]
theorem popN_or {a b : Nat} (h : a &&& b = 0) : ∀ N, popN N (a ||| b) = popN N a + popN N b
  | 0 => rfl
  | N + 1 => by
    have ih := popN_or h N
    show popN N (a ||| b) + b1n ((a ||| b).testBit N) = popN N a + b1n (a.testBit N) + (popN N b + b1n (b.testBit N))
    rw [ih, Nat.testBit_or]
    have := and0 h N
    cases h1 : a.testBit N <;> cases h2 : b.testBit N
    · have : b1n (false || false) = 0 := rfl
      have : b1n false = 0 := rfl
      omega
    · have : b1n (false || true) = 1 := rfl
      have : b1n false = 0 := rfl
      have : b1n true = 1 := rfl
      omega
    · have : b1n (true || false) = 1 := rfl
      have : b1n false = 0 := rfl
      have : b1n true = 1 := rfl
      omega
    · rw [h1, h2] at this; cases this
theorem popN_pos {a N : Nat} (h0 : a ≠ 0) (hN : a < 2 ^ N) : 0 < popN N a := by
  rcases Nat.eq_zero_or_pos (popN N a) with q | q
  · exfalso
    refine h0 (Nat.eq_of_testBit_eq (fun i => ?_))
    rw [Nat.zero_testBit]
    rcases Nat.lt_or_ge i N with w | w
    · have := sumN_z q i w
      cases ht : a.testBit i with
      | false => rfl
      | true => rw [ht] at this; cases this
    · exact Nat.testBit_lt_two_pow (Nat.lt_of_lt_of_le hN (Nat.pow_le_pow_right (by decide) w))
  · exact q
theorem or_lt2 {a b N : Nat} (ha : a < 2 ^ N) (hb : b < 2 ^ N) : a ||| b < 2 ^ N := Nat.or_lt_two_pow ha hb
theorem p16 {M : Nat} (h : M ≤ 16) : 2 ^ M ≤ 65536 := Nat.pow_le_pow_right (n := 2) (by decide) h
theorem tb_hi {a N i : Nat} (h : a < 2 ^ N) (hi : N ≤ i) : a.testBit i = false := Nat.testBit_lt_two_pow (Nat.lt_of_lt_of_le h (Nat.pow_le_pow_right (by decide) hi))
theorem ff_le {c M : Nat} (hM : M ≤ 16) (hc : c < 2 ^ M) : ffN c ≤ M := by
  have := p16 hM
  have t := ff_tr (c := c) (by omega)
  rcases Nat.lt_or_ge M (ffN c) with q | q
  · have w := t.1 M q
    rw [tb_hi hc (Nat.le_refl _)] at w; cases w
  · exact q
theorem ff_full {c M : Nat} (hM : M ≤ 16) (hc : c < 2 ^ M) : ffN c = M ↔ c = 2 ^ M - 1 := by
  have h16 := p16 hM
  have t := ff_tr (c := c) (by omega)
  constructor
  · intro q
    refine Nat.eq_of_testBit_eq (fun i => ?_)
    rw [Nat.testBit_two_pow_sub_one]
    rcases Nat.lt_or_ge i M with w | w
    · rw [t.1 i (by omega), decide_eq_true w]
    · rw [tb_hi hc w, decide_eq_false (by omega)]
  · intro q
    refine ff_of (by omega) ⟨fun j hj => ?_, ?_⟩
    · rw [q, Nat.testBit_two_pow_sub_one, decide_eq_true hj]
    · rw [q, Nat.testBit_two_pow_sub_one, decide_eq_false (by omega)]
theorem popN_ff {c M : Nat} (hM : M ≤ 16) (hc : c < 2 ^ M) (h : popN M c = M) : ffN c = M := by
  have h16 := p16 hM
  have t := ff_tr (c := c) (by omega)
  have := ff_le hM hc
  rcases Nat.lt_or_ge (ffN c) M with q | q
  · have w := popN_full M h (ffN c) q
    rw [t.2] at w; cases w
  · omega
