/-! ===== arrays at known places ===== -/
theorem ib_n {j n : Nat} (hj : j < n) (hn : n < 2 ^ 31) : ib_ (nI j) n = true := decide_eq_true (nI_in hj hn)
theorem rA_n {β : Type} (h : Hp) (k n : Nat) {j : Nat} (f : Int32 → Option β) (hj : j < n) (hn : n < 2 ^ 31) : rA_ h k n (nI j) f = f (gA_ h k j) := by
  unfold rA_; rw [if_pos (ib_n hj hn), nI_clamp (by omega)]
theorem rL_n {β : Type} (h : Hp) (k n : Nat) {j : Nat} (f : Int64 → Option β) (hj : j < n) (hn : n < 2 ^ 31) : rL_ h k n (nI j) f = f (gL_ h k j) := by
  unfold rL_; rw [if_pos (ib_n hj hn), nI_clamp (by omega)]
theorem wA_n {β : Type} (h : Hp) (k n : Nat) {j : Nat} (v : Int32) (f : Hp → Option β) (hj : j < n) (hn : n < 2 ^ 31) : wA_ h k n (nI j) v f = f (sA_ h k j v) := by
  unfold wA_; rw [if_pos (ib_n hj hn), nI_clamp (by omega)]
theorem wL_n {β : Type} (h : Hp) (k n : Nat) {j : Nat} (v : Int64) (f : Hp → Option β) (hj : j < n) (hn : n < 2 ^ 31) : wL_ h k n (nI j) v f = f (sL_ h k j v) := by
  unfold wL_; rw [if_pos (ib_n hj hn), nI_clamp (by omega)]
theorem rS_n {β : Type} (xs : List Int32) {j : Nat} (f : Int32 → Option β) (hj : j < xs.length) (hn : xs.length < 2 ^ 31) : rS_ xs (nI j) f = f (xs.getD j 0) := by
  unfold rS_; rw [if_pos (ib_n hj hn), nI_clamp (by omega)]
theorem sl_n {β : Type} (xs : Nat → Int32) (L : Nat) {j : Nat} (f : Int32 → Option β) (hj : j < L) (hn : L < 2 ^ 31) : sl_ xs L (nI j) f = f (xs j) := by
  unfold sl_; rw [if_pos (ib_n hj hn), nI_clamp (by omega)]
theorem ob_s {α β : Type} (a : α) (f : α → Option β) : (some a).bind f = f a := rfl
theorem bd_e {α β : Type} (a : α) (f : α → β) : bd_ a f = f a := rfl
/-- 1 or 0 -/
def bi_ (b : Bool) : Int32 := match b with
  | true => 1
  | false => 0
theorem bi_t : bi_ true = 1 := rfl
theorem bi_f : bi_ false = 0 := rfl
theorem bi_0 {b : Bool} : bi_ b = 0 ↔ b = false := by cases b <;> decide
theorem bi_1 {b : Bool} : bi_ b = 1 ↔ b = true := by cases b <;> decide
theorem bz_bi {β : Type} (b : Bool) (f : Int32 → Option β) : bz_ (bi_ b) f = f (bi_ b) := by cases b <;> rfl
theorem sm_ite {α : Type} {c : Prop} [Decidable c] {a b : α} : (if c then some a else some b) = some (if c then a else b) := by split <;> rfl
theorem bi_dec {c : Prop} [Decidable c] : (if c then (1 : Int32) else 0) = bi_ (decide c) := by
  by_cases h : c <;> simp [h, bi_]
theorem i_lit (n : Nat) : (OfNat.ofNat n : Int32) = nI n := rfl
theorem i_cases (x : Int32) {n : Nat} (hn : n < 2 ^ 31) : x < 0 ∨ nI n ≤ x ∨ ∃ j : Nat, j < n ∧ x = nI j := pk_ix x hn
theorem i_n0 {j : Nat} (h : j < 2 ^ 31) : ¬ nI j < 0 := nI_pos h
theorem i_le {a b : Nat} (ha : a < 2 ^ 31) (hb : b < 2 ^ 31) : nI a ≤ nI b ↔ a ≤ b := nI_leI ha hb
theorem i_lt {a b : Nat} (ha : a < 2 ^ 31) (hb : b < 2 ^ 31) : nI a < nI b ↔ a < b := nI_ltI ha hb
theorem i_eq {a b : Nat} (ha : a < 2 ^ 31) (hb : b < 2 ^ 31) : nI a = nI b ↔ a = b := nI_eq ha hb
theorem i_rem {a d : Nat} (ha : a < 2 ^ 31) (h0 : 0 < d) (hd : d < 2 ^ 31) : ir_ (nI a) (nI d) = nI (a % d) := pk_rem ha h0 hd
theorem i_div {a d : Nat} (ha : a < 2 ^ 31) (h0 : 0 < d) (hd : d < 2 ^ 31) : nI a / nI d = nI (a / d) := pk_div ha h0 hd
theorem i_ltT (a b : Int32) : a < b ↔ a.toInt < b.toInt := Int32.lt_iff_toInt_lt
theorem i_leT (a b : Int32) : a ≤ b ↔ a.toInt ≤ b.toInt := Int32.le_iff_toInt_le
theorem i_eqT (a b : Int32) : a = b ↔ a.toInt = b.toInt := Int32.toInt_inj.symm
/-! ===== bits of a long ===== -/
def tb (x : Int64) (i : Nat) : Bool := x.toBitVec.getLsbD i
theorem tb_ext {x y : Int64} (h : ∀ i, i < 64 → tb x i = tb y i) : x = y := Int64.toBitVec_inj.mp (BitVec.eq_of_getLsbD_eq h)
theorem tb_and (x y : Int64) (i : Nat) : tb (x &&& y) i = (tb x i && tb y i) := by simp [tb]
theorem tb_or (x y : Int64) (i : Nat) : tb (x ||| y) i = (tb x i || tb y i) := by simp [tb]
theorem tb_0 (i : Nat) : tb 0 i = false := by simp [tb]
theorem tb_big {x : Int64} {i : Nat} (h : 64 ≤ i) : tb x i = false := by
  unfold tb; exact BitVec.getLsbD_of_ge _ _ h
theorem tb_not (x : Int64) {i : Nat} (hi : i < 64) : tb (x ^^^ (-1)) i = !tb x i := by
  have e : tb (-1) i = true := by
    have : ∀ i, i < 64 → tb (-1) i = true := by decide +kernel
    exact this i hi
  unfold tb at e ⊢
  rw [Int64.toBitVec_xor, BitVec.getLsbD_xor, e]
  simp
theorem tb_z {x : Int64} : x = 0 ↔ ∀ i, i < 64 → tb x i = false := ⟨fun h i _ => by rw [h, tb_0], fun h => tb_ext (fun i hi => by rw [h i hi, tb_0])⟩
theorem tb_nz {x : Int64} (h : ¬ x = 0) : ∃ i, i < 64 ∧ tb x i = true := by
  rcases Classical.em (∃ i, i < 64 ∧ tb x i = true) with q | q
  · exact q
  · exfalso
    refine h (tb_z.mpr (fun i hi => ?_))
    cases hb : tb x i with
    | false => rfl
    | true => exact absurd ⟨i, hi, hb⟩ q
theorem tb_neg (x : Int64) (i : Nat) : tb (-x) i = (tb x i ^^ decide (i < 64) && decide (∃ j < i, tb x j = true)) := by
  unfold tb
  rw [Int64.toBitVec_neg, BitVec.getLsbD_neg]
theorem tb_pred (x : Int64) {i : Nat} (hi : i < 64) : tb (x - 1) i = !tb (-x) i := by
  unfold tb
  have e : (x - 1).toBitVec = ~~~(-x).toBitVec := by
    rw [Int64.toBitVec_neg, BitVec.not_neg, Int64.toBitVec_sub]; rfl
  rw [e, BitVec.getLsbD_not]
  simp [hi]
/-- b is the least of x -/
def lw (x : Int64) (b : Nat) : Prop := b < 64 ∧ tb x b = true ∧ ∀ j, j < b → tb x j = false
theorem lw_ex {x : Int64} (h : ¬ x = 0) : ∃ b, lw x b := by
  obtain ⟨i, hi, ht⟩ := tb_nz h
  obtain ⟨k, hk, hm⟩ := pk_least (fun i => tb x i = true) ⟨i, ht⟩
  refine ⟨k, ?_, hk, fun j hj => ?_⟩
  · rcases Nat.lt_or_ge k 64 with q | q
    · exact q
    · rw [tb_big q] at hk; cases hk
  · cases hb : tb x j with
    | false => rfl
    | true => exact absurd hb (hm j hj)
theorem lw_one {x : Int64} {a b : Nat} (ha : lw x a) (hb : lw x b) : a = b := by
  rcases Nat.lt_trichotomy a b with q | q | q
  · have := hb.2.2 a q; rw [ha.2.1] at this; cases this
  · exact q
  · have := ha.2.2 b q; rw [hb.2.1] at this; cases this
theorem lw_nz {x : Int64} {b : Nat} (h : lw x b) : ¬ x = 0 := fun e => by have := h.2.1; rw [e, tb_0] at this; cases this
theorem lw_neg {x : Int64} {b : Nat} (h : lw x b) {i : Nat} (hi : i < 64) : tb (-x) i = if i < b then false else if i = b then true else !tb x i := by
  rw [tb_neg]
  by_cases h1 : i < b
  · rw [if_pos h1, h.2.2 i h1]
    have : ¬ ∃ j < i, tb x j = true := fun ⟨j, hj, ht⟩ => by rw [h.2.2 j (by omega)] at ht; cases ht
    simp [this]
  · rw [if_neg h1]
    by_cases h2 : i = b
    · rw [if_pos h2, h2, h.2.1]
      have : ¬ ∃ j < b, tb x j = true := fun ⟨j, hj, ht⟩ => by rw [h.2.2 j hj] at ht; cases ht
      simp [this]
    · rw [if_neg h2]
      have : ∃ j < i, tb x j = true := ⟨b, by omega, h.2.1⟩
      simp [this, hi]
theorem tb_low {x : Int64} {b : Nat} (h : lw x b) {i : Nat} (hi : i < 64) : tb (x &&& -x) i = decide (i = b) := by
  rw [tb_and, lw_neg h hi]
  by_cases h1 : i < b
  · rw [if_pos h1]; simp; omega
  · rw [if_neg h1]
    by_cases h2 : i = b
    · rw [if_pos h2, h2, h.2.1]; simp
    · rw [if_neg h2]; simp [h2]
theorem tb_pop {x : Int64} {b : Nat} (h : lw x b) {i : Nat} (hi : i < 64) : tb (x &&& (x - 1)) i = (tb x i && !decide (i = b)) := by
  rw [tb_and, tb_pred x hi, lw_neg h hi]
  by_cases h1 : i < b
  · rw [if_pos h1, h.2.2 i h1]; simp
  · rw [if_neg h1]
    by_cases h2 : i = b
    · rw [if_pos h2, h2]; simp
    · rw [if_neg h2]; simp [h2]
theorem sh_amt : ∀ k, k < 64 → ((nI k).toInt64 &&& 63).toBitVec.smod 64 = BitVec.ofNat 64 k := by decide +kernel
theorem sh_amu : ∀ k, k < 64 → ((nI k).toInt64.toUInt64 &&& Int64.toUInt64 63).toNat % 64 = k := by decide +kernel
theorem tb_shl (x : Int64) {k : Nat} (hk : k < 64) {i : Nat} (hi : i < 64) : tb (ls_ x (nI k)) i = (decide (k ≤ i) && tb x (i - k)) := by
  unfold tb ls_
  have e : (x <<< ((nI k).toInt64 &&& 63)).toBitVec = x.toBitVec <<< k := by
    rw [Int64.toBitVec_shiftLeft, sh_amt k hk]
    show x.toBitVec <<< (BitVec.ofNat 64 k).toNat = _
    rw [BitVec.toNat_ofNat, Nat.mod_eq_of_lt (by omega)]
  rw [e, BitVec.getLsbD_shiftLeft]
  simp [hi]
  rw [Bool.and_comm]
  by_cases h : k ≤ i
  · have : ¬ i < k := by omega
    simp [h, this]
  · have : i < k := by omega
    simp [h, this]
theorem tb_1 (i : Nat) : tb 1 i = decide (i = 0) := by
  rcases Nat.lt_or_ge i 64 with h | h
  · have : ∀ i, i < 64 → tb 1 i = decide (i = 0) := by decide +kernel
    exact this i h
  · rw [tb_big h]; simp; omega
theorem tb_bit {k : Nat} (hk : k < 64) {i : Nat} (hi : i < 64) : tb (ls_ 1 (nI k)) i = decide (i = k) := by
  rw [tb_shl _ hk hi, tb_1]
  by_cases h : i = k
  · subst h; simp
  · by_cases h2 : k ≤ i
    · have : ¬ i - k = 0 := by omega
      simp [h, this]
    · simp [h, h2]
theorem tb_lu (x : Int64) {k : Nat} (hk : k < 64) (i : Nat) : tb (lu_ x (nI k)) i = tb x (k + i) := by
  unfold tb lu_
  have e : ((x.toUInt64 >>> ((nI k).toInt64.toUInt64 &&& Int64.toUInt64 63)).toInt64).toBitVec = x.toBitVec >>> k := by
    show (x.toUInt64 >>> _).toBitVec = _
    rw [UInt64.toBitVec_shiftRight]
    show x.toBitVec >>> _ = _
    have h2 : (((nI k).toInt64.toUInt64 &&& Int64.toUInt64 63).toBitVec % 64).toNat = k := by
      rw [BitVec.toNat_umod]
      exact sh_amu k hk
    show x.toBitVec >>> (((nI k).toInt64.toUInt64 &&& Int64.toUInt64 63).toBitVec % 64).toNat = _
    rw [h2]
  rw [e, BitVec.getLsbD_ushiftRight]
theorem tb_la (x : Int64) {k : Nat} (hk : k < 64) {i : Nat} (hi : k + i < 64) : tb (la_ x (nI k)) i = tb x (k + i) := by
  unfold tb la_
  have e : (x >>> ((nI k).toInt64 &&& 63)).toBitVec = x.toBitVec.sshiftRight k := by
    rw [Int64.toBitVec_shiftRight, sh_amt k hk]
    show x.toBitVec.sshiftRight (BitVec.ofNat 64 k).toNat = _
    rw [BitVec.toNat_ofNat, Nat.mod_eq_of_lt (by omega)]
  rw [e, BitVec.getLsbD_sshiftRight]
  have h2 : ¬ 64 ≤ i := by omega
  simp [h2, hi]
theorem and1 (x : Int64) : x &&& 1 = if tb x 0 then 1 else 0 := by
  refine tb_ext (fun i hi => ?_)
  rw [tb_and, tb_1]
  by_cases h0 : i = 0
  · subst h0
    cases tb x 0 <;> decide
  · simp only [h0, decide_false, Bool.and_false]
    split
    · rw [tb_1]; simp [h0]
    · rw [tb_0]
theorem lu1 (x : Int64) {k : Nat} (hk : k < 64) : lu_ x (nI k) &&& 1 = if tb x k then 1 else 0 := by rw [and1, tb_lu x hk]; rfl
theorem la1 (x : Int64) {k : Nat} (hk : k < 64) : la_ x (nI k) &&& 1 = if tb x k then 1 else 0 := by rw [and1, tb_la x hk (by omega)]; rfl
theorem lu1_1 (x : Int64) {k : Nat} (hk : k < 64) : (lu_ x (nI k) &&& 1 = 1) ↔ tb x k = true := by rw [lu1 x hk]; cases tb x k <;> decide
theorem la1_1 (x : Int64) {k : Nat} (hk : k < 64) : (la_ x (nI k) &&& 1 = 1) ↔ tb x k = true := by rw [la1 x hk]; cases tb x k <;> decide
theorem la1_0 (x : Int64) {k : Nat} (hk : k < 64) : (la_ x (nI k) &&& 1 = 0) ↔ tb x k = false := by rw [la1 x hk]; cases tb x k <;> decide
/-- sets of bricks below m -/
def bl (x : Int64) (m : Nat) : Prop := ∀ i, m ≤ i → tb x i = false
theorem bl_and {x y : Int64} {m : Nat} (h : bl x m) : bl (x &&& y) m := fun i hi => by rw [tb_and, h i hi]; rfl
theorem bl_and2 {x y : Int64} {m : Nat} (h : bl y m) : bl (x &&& y) m := fun i hi => by rw [tb_and, h i hi]; simp
theorem bl_or {x y : Int64} {m : Nat} (h : bl x m) (h2 : bl y m) : bl (x ||| y) m := fun i hi => by rw [tb_or, h i hi, h2 i hi]; rfl
theorem bl_0 (m : Nat) : bl 0 m := fun i _ => tb_0 i
theorem bl_mono {x : Int64} {m m' : Nat} (h : bl x m) (hm : m ≤ m') : bl x m' := fun i hi => h i (by omega)
theorem lw_lt {x : Int64} {b m : Nat} (h : lw x b) (hx : bl x m) : b < m := by
  rcases Nat.lt_or_ge b m with q | q
  · exact q
  · have := hx b q; rw [h.2.1] at this; cases this
