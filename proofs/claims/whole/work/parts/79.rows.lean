/-! ===== masks in ints ===== -/
theorem nI_and (a b : Nat) : nI a &&& nI b = nI (a &&& b) := Int32.toBitVec_inj.mp (by
  show BitVec.ofNat 32 a &&& BitVec.ofNat 32 b = BitVec.ofNat 32 (a &&& b)
  rw [BitVec.ofNat_and])
theorem nI_or (a b : Nat) : nI a ||| nI b = nI (a ||| b) := Int32.toBitVec_inj.mp (by
  show BitVec.ofNat 32 a ||| BitVec.ofNat 32 b = BitVec.ofNat 32 (a ||| b)
  rw [BitVec.ofNat_or])
theorem sh1 : ∀ i, i < 31 → is_ 1 (nI i) = nI (2 ^ i) := by decide +kernel
theorem sh31 : ∀ i, i < 32 → ((nI i &&& 31).toBitVec.smod 32).toNat = i := by decide +kernel
theorem ia_n {m i : Nat} (hm : m < 2 ^ 31) (hi : i < 32) : ia_ (nI m) (nI i) = nI (m / 2 ^ i) := pk_shrN hm _ i (sh31 i hi)
theorem ia_bit {m i : Nat} (hm : m < 2 ^ 31) (hi : i < 32) : (ia_ (nI m) (nI i) &&& 1 = 1) ↔ m.testBit i = true := by
  rw [ia_n hm hi, show (1 : Int32) = nI 1 from rfl, nI_and, Nat.and_one_is_mod, i_eq (by omega) (by decide), Nat.testBit_eq_decide_div_mod_eq, decide_eq_true_iff]
theorem ia_bit0 {m i : Nat} (hm : m < 2 ^ 31) (hi : i < 32) : (ia_ (nI m) (nI i) &&& 1 = 0) ↔ m.testBit i = false := by
  rw [ia_n hm hi, show (1 : Int32) = nI 1 from rfl, nI_and, Nat.and_one_is_mod, nI_ze (by omega), Nat.testBit_eq_decide_div_mod_eq, decide_eq_false_iff_not]
  omega
theorem tB_or {m i j : Nat} : (m ||| 2 ^ i).testBit j = (m.testBit j || decide (i = j)) := by rw [Nat.testBit_or, Nat.testBit_two_pow]
theorem or_self {m i : Nat} (h : m.testBit i = true) : m ||| 2 ^ i = m := Nat.eq_of_testBit_eq (fun j => by
  rw [tB_or]
  by_cases q : i = j
  · subst q; rw [h]; rfl
  · simp [q])
theorem or_ne {m i : Nat} (h : m.testBit i = false) : m ||| 2 ^ i ≠ m := fun q => by
  have : (m ||| 2 ^ i).testBit i = true := by rw [tB_or]; simp
  rw [q, h] at this; cases this
theorem or_lt {m i N : Nat} (hm : m < 2 ^ N) (hi : i < N) : m ||| 2 ^ i < 2 ^ N := Nat.or_lt_two_pow hm (Nat.pow_lt_pow_right (by decide) hi)
theorem two_le12 {N : Nat} (h : N ≤ 12) : 2 ^ N ≤ 4096 := Nat.pow_le_pow_right (n := 2) (by decide) h
def popN (N m : Nat) : Nat := sumN (fun i => b1n (m.testBit i)) N
theorem popN_in {m i : Nat} (h : m.testBit i = false) : ∀ N, popN N (m ||| 2 ^ i) = popN N m + if i < N then 1 else 0
  | 0 => by rw [if_neg (by omega)]; rfl
  | N + 1 => by
    have ih := popN_in h N
    show popN N (m ||| 2 ^ i) + b1n ((m ||| 2 ^ i).testBit N) = popN N m + b1n (m.testBit N) + _
    rw [ih, tB_or]
    by_cases q : i = N
    · subst q
      rw [h, if_neg (by omega), if_pos (by omega)]; simp [b1n]
    · have e : (m.testBit N || decide (i = N)) = m.testBit N := by simp [q]
      rw [e]
      by_cases w : i < N
      · rw [if_pos w, if_pos (by omega)]; omega
      · rw [if_neg w, if_neg (by omega)]; omega
theorem popN_0 : ∀ N, popN N 0 = 0
  | 0 => rfl
  | N + 1 => by
    show popN N 0 + b1n (Nat.testBit 0 N) = 0
    rw [popN_0 N, Nat.zero_testBit]; rfl
/-! ===== the bricks that are there, by number ===== -/
def rk (σ : Sg) (b : Nat) : Nat := sumN (fun c => b1n (sTh σ c)) b
theorem rk_s (σ : Sg) (b : Nat) : rk σ (b + 1) = rk σ b + b1n (sTh σ b) := rfl
theorem rk_mono {σ : Sg} {a : Nat} : ∀ b, a ≤ b → rk σ a ≤ rk σ b
  | 0, h => by have : a = 0 := by omega
               subst this; exact Nat.le_refl _
  | b + 1, h => by
    rcases Nat.lt_or_ge b a with q | q
    · have : a = b + 1 := by omega
      subst this; exact Nat.le_refl _
    · have := rk_mono (σ := σ) b q
      rw [rk_s]; omega
theorem rk_lt {σ : Sg} {a b : Nat} (h : a < b) (ha : sTh σ a = true) : rk σ a < rk σ b := by
  have h1 := rk_mono (σ := σ) (a := a + 1) b h
  rw [rk_s, ha] at h1
  have : b1n true = 1 := rfl
  omega
theorem rk_inj {σ : Sg} {a b : Nat} (ha : sTh σ a = true) (hb : sTh σ b = true) (h : rk σ a = rk σ b) : a = b := by
  rcases Nat.lt_trichotomy a b with q | q | q
  · have := rk_lt q ha; omega
  · exact q
  · have := rk_lt q hb; omega
theorem rk_ex {σ : Sg} {i : Nat} : ∀ n, i < rk σ n → ∃ c, c < n ∧ sTh σ c = true ∧ rk σ c = i
  | 0, h => by have : rk σ 0 = 0 := rfl
               omega
  | n + 1, h => by
    rcases Nat.lt_or_ge i (rk σ n) with q | q
    · obtain ⟨c, c1, c2⟩ := rk_ex n q
      exact ⟨c, by omega, c2⟩
    · rw [rk_s] at h
      cases ht : sTh σ n with
      | false => rw [ht] at h; have : b1n false = 0 := rfl; omega
      | true =>
        rw [ht] at h
        have : b1n true = 1 := rfl
        exact ⟨n, by omega, ht, by omega⟩
def nB (σ : Sg) : Nat := rk σ (sN σ)
theorem nB_pc {σ : Sg} (hw : Wf σ) : pcL (thI σ) = nB σ := by
  have h40 := hw.1
  unfold pcL nB rk
  have e : 64 = sN σ + (64 - sN σ) := by omega
  rw [e, sumN_ext0 (m := sN σ) (fun i hi => by rw [bl_th hw i hi]; rfl)]
  exact sumN_c (fun i _ => by rw [tb_thI hw])
theorem rk_nB {σ : Sg} (hw : Wf σ) {c : Nat} (h : sTh σ c = true) : rk σ c < nB σ := rk_lt (hw.2.2.2.1 c h) h
def nmS (σ : Sg) (i : Nat) : Nat → Nat
  | 0 => 0
  | n + 1 => if sTh σ n = true ∧ rk σ n = i then n else nmS σ i n
theorem nmS_r {σ : Sg} {c : Nat} (hc : sTh σ c = true) : ∀ n, c < n → nmS σ (rk σ c) n = c
  | 0, h => by omega
  | n + 1, h => by
    rw [nmS]
    by_cases q : sTh σ n = true ∧ rk σ n = rk σ c
    · rw [if_pos q]; exact rk_inj q.1 hc q.2
    · rw [if_neg q]
      refine nmS_r hc n ?_
      rcases Nat.lt_or_ge c n with w | w
      · exact w
      · have : c = n := by omega
        subst this; exact absurd ⟨hc, rfl⟩ q
def nmI (σ : Sg) (i : Nat) : Nat := nmS σ i (sN σ)
theorem nmI_r {σ : Sg} (hw : Wf σ) {c : Nat} (hc : sTh σ c = true) : nmI σ (rk σ c) = c := nmS_r hc _ (hw.2.2.2.1 c hc)
def putM (σ : Sg) (m : Nat) : Int64 := ofB (fun b => sTh σ b && m.testBit (rk σ b)) 40
theorem tb_putM {σ : Sg} (hw : Wf σ) (m b : Nat) : tb (putM σ m) b = (sTh σ b && m.testBit (rk σ b)) := by
  have h40 := hw.1
  unfold putM
  rw [tb_ofB _ _ _ (by decide)]
  by_cases h : b < 40
  · rw [decide_eq_true h]; rfl
  · rw [decide_eq_false h]
    cases q : sTh σ b with
    | false => rfl
    | true => have := hw.2.2.2.1 b q; omega
theorem putM_th {σ : Sg} (hw : Wf σ) {m b : Nat} (h : tb (putM σ m) b = true) : sTh σ b = true := by
  rw [tb_putM hw, Bool.and_eq_true] at h; exact h.1
theorem bl_putM {σ : Sg} (hw : Wf σ) (m : Nat) : bl (putM σ m) (sN σ) := bl_sub (bl_th hw) (fun b q => by rw [tb_thI hw]; exact putM_th hw q)
theorem putM_0 {σ : Sg} (hw : Wf σ) : putM σ 0 = 0 := tb_z.mpr (fun i _ => by rw [tb_putM hw, Nat.zero_testBit, Bool.and_false])
theorem putM_or {σ : Sg} (hw : Wf σ) (m : Nat) {c : Nat} (hc : sTh σ c = true) : putM σ m ||| ls_ 1 (nI c) = putM σ (m ||| 2 ^ rk σ c) := by
  have h40 := hw.1
  have hcN := hw.2.2.2.1 c hc
  refine tb_ext (fun j _ => ?_)
  rw [tb_set (by omega), tb_putM hw, tb_putM hw, tB_or]
  by_cases q : j = c
  · subst q; rw [hc]; simp
  · cases ht : sTh σ j with
    | false => simp [q]
    | true =>
      have : ¬ rk σ c = rk σ j := fun e => q (rk_inj ht hc e.symm)
      simp [q, this]
theorem putM_at {σ : Sg} (hw : Wf σ) {m c : Nat} (hc : sTh σ c = true) : tb (putM σ (m ||| 2 ^ rk σ c)) c = true := by rw [tb_putM hw, hc, tB_or]; simp
theorem putM_out {σ : Sg} (hw : Wf σ) {m c : Nat} (hc : sTh σ c = true) (hm : m.testBit (rk σ c) = false) (b : Nat) : tb (putM σ m) b = (tb (putM σ (m ||| 2 ^ rk σ c)) b && !decide (b = c)) := by
  rw [tb_putM hw, tb_putM hw, tB_or]
  by_cases q : b = c
  · subst q; rw [hm]; simp
  · cases ht : sTh σ b with
    | false => simp
    | true =>
      have : ¬ rk σ c = rk σ b := fun e => q (rk_inj ht hc e.symm)
      simp [q, this]
/-! ===== what lies above, and the first row ===== -/
def abv (σ : Sg) (a b : Nat) : Bool := decide (sZ σ b < sZ σ a ∧ 0 < ovl (sX σ a) (sLx σ a) (sX σ b) (sLx σ b) ∧ 0 < ovl (sY σ a) (sLy σ a) (sY σ b) (sLy σ b))
def abI (σ : Sg) (c : Nat) : Int64 := ofB (fun o => sTh σ o && abv σ o c) 40
theorem tb_abI {σ : Sg} (hw : Wf σ) (c o : Nat) : tb (abI σ c) o = (sTh σ o && abv σ o c) := by
  have h40 := hw.1
  unfold abI
  rw [tb_ofB _ _ _ (by decide)]
  by_cases h : o < 40
  · rw [decide_eq_true h]; rfl
  · rw [decide_eq_false h]
    cases q : sTh σ o with
    | false => rfl
    | true => have := hw.2.2.2.1 o q; omega
noncomputable def okM (σ : Sg) (m i : Nat) : Bool := !m.testBit i && (decide (abI σ (nmI σ i) &&& putM σ m = 0) && sdA σ 40 (putM σ (m ||| 2 ^ i)))
def fsO {α : Type} (f : Nat → Option α) : Nat → Nat → Option α
  | 0, _ => none
  | q + 1, j => match f j with
    | some a => some a
    | none => fsO f q (j + 1)
theorem fsO_n {α : Type} {f : Nat → Option α} {q j : Nat} (h : f j = none) : fsO f (q + 1) j = fsO f q (j + 1) := by rw [fsO, h]
theorem fsO_s {α : Type} {f : Nat → Option α} {q j : Nat} {a : α} (h : f j = some a) : fsO f (q + 1) j = some a := by rw [fsO, h]
noncomputable def rowM (σ : Sg) (N : Nat) : Nat → Nat → Option (List Nat)
  | 0, _ => some []
  | k + 1, m => fsO (fun i => if okM σ m i = true then (rowM σ N k (m ||| 2 ^ i)).map (nmI σ i :: ·) else none) N 0
noncomputable def rowF (σ : Sg) (N k m i : Nat) : Option (List Nat) := if okM σ m i = true then (rowM σ N k (m ||| 2 ^ i)).map (nmI σ i :: ·) else none
theorem rowM_s (σ : Sg) (N k m : Nat) : rowM σ N (k + 1) m = fsO (rowF σ N k m) N 0 := rfl
theorem fsO_of {α : Type} {f : Nat → Option α} {a : α} : ∀ q j, fsO f q j = some a → ∃ i, j ≤ i ∧ i < j + q ∧ f i = some a
  | 0, j, h => by rw [fsO] at h; cases h
  | q + 1, j, h => by
    cases hf : f j with
    | some b => rw [fsO_s hf] at h; exact ⟨j, Nat.le_refl _, by omega, by rw [hf, h]⟩
    | none =>
      rw [fsO_n hf] at h
      obtain ⟨i, i1, i2, i3⟩ := fsO_of q (j + 1) h
      exact ⟨i, by omega, by omega, i3⟩
theorem rowM_len {σ : Sg} {N : Nat} : ∀ k m l, rowM σ N k m = some l → l.length = k
  | 0, m, l, h => by rw [rowM] at h; cases h; rfl
  | k + 1, m, l, h => by
    rw [rowM_s] at h
    obtain ⟨i, -, -, hi⟩ := fsO_of _ _ h
    unfold rowF at hi
    by_cases q : okM σ m i = true
    · rw [if_pos q] at hi
      cases hr : rowM σ N k (m ||| 2 ^ i) with
      | none => rw [hr] at hi; cases hi
      | some l' =>
        rw [hr] at hi
        have := rowM_len k _ l' hr
        cases hi
        rw [List.length_cons, this]
    · rw [if_neg q] at hi; cases hi
def RowIn (g : Nat → Int32) (s : Nat) (l : List Nat) : Prop := ∀ j, j < l.length → g (s + j) = nI (l.getD j 0)
theorem RowIn.cons {g : Nat → Int32} {s c : Nat} {l : List Nat} (h0 : g s = nI c) (h : RowIn g (s + 1) l) : RowIn g s (c :: l) := fun j hj => by
  cases j with
  | zero => rw [Nat.add_zero, h0]; rfl
  | succ j =>
    have := h j (by rw [List.length_cons] at hj; omega)
    rw [show s + (j + 1) = s + 1 + j by omega, this]; rfl
