/-! ===== whole numbers in ints and longs ===== -/
def zI (z : Int) : Int32 := Int32.ofInt z
def zL (z : Int) : Int64 := Int64.ofInt z
theorem zI_n (n : Nat) : nI n = zI n := Int32.ofInt_eq_ofNat.symm
theorem zL_n (n : Nat) : lI n = zL n := Int64.ofInt_eq_ofNat.symm
theorem zI_add (a b : Int) : zI a + zI b = zI (a + b) := (Int32.ofInt_add a b).symm
theorem zI_sub (a b : Int) : zI a - zI b = zI (a - b) := (Int32.ofInt_sub a b).symm
theorem zI_mul (a b : Int) : zI a * zI b = zI (a * b) := (Int32.ofInt_mul a b).symm
theorem zL_sub (a b : Int) : zL a - zL b = zL (a - b) := (Int64.ofInt_sub a b).symm
theorem zL_mul (a b : Int) : zL a * zL b = zL (a * b) := (Int64.ofInt_mul a b).symm
theorem zI_t (x : Int32) : x = zI x.toInt := (Int32.ofInt_toInt x).symm
theorem zI_i {z : Int} (h : z.natAbs ≤ 1000000000) : (zI z).toInt = z := Int32.toInt_ofInt_of_le (by omega) (by omega)
theorem zL_i {z : Int} (h : z.natAbs ≤ 1000000000) : (zL z).toInt = z := Int64.toInt_ofInt_of_le (by omega) (by omega)
theorem zI_L {z : Int} (h : z.natAbs ≤ 1000000000) : (zI z).toInt64 = zL z := by
  rw [← Int64.toInt_inj, Int32.toInt_toInt64, zI_i h, zL_i h]
theorem zI_lt {a b : Int} (ha : a.natAbs ≤ 1000000000) (hb : b.natAbs ≤ 1000000000) : zI a < zI b ↔ a < b := by rw [i_ltT, zI_i ha, zI_i hb]
theorem zI_le {a b : Int} (ha : a.natAbs ≤ 1000000000) (hb : b.natAbs ≤ 1000000000) : zI a ≤ zI b ↔ a ≤ b := by rw [i_leT, zI_i ha, zI_i hb]
theorem zI_0 : (0 : Int32) = zI 0 := by decide
theorem zL_0 : (0 : Int64) = zL 0 := by decide
theorem zL_2 : (2 : Int64) = zL 2 := by decide
theorem zI_neg {a : Int} (ha : a.natAbs ≤ 1000000000) : zI a < 0 ↔ a < 0 := by rw [zI_0, zI_lt ha (by decide)]
theorem zI_pos {a : Int} (ha : a.natAbs ≤ 1000000000) : 0 ≤ zI a ↔ 0 ≤ a := by rw [zI_0, zI_le (by decide) ha]
theorem zI_pos' {a : Int} (ha : a.natAbs ≤ 1000000000) : 0 < zI a ↔ 0 < a := by rw [zI_0, zI_lt (by decide) ha]
theorem zL_pos {a : Int} (ha : a.natAbs ≤ 1000000000) : 0 ≤ zL a ↔ 0 ≤ a := by rw [zL_0, Int64.le_iff_toInt_le, zL_i (by decide), zL_i ha]
theorem ab_mul {a b : Int} {A B : Nat} (ha : a.natAbs ≤ A) (hb : b.natAbs ≤ B) : (a * b).natAbs ≤ A * B := by rw [Int.natAbs_mul]; exact Nat.mul_le_mul ha hb
theorem ab_add {a b : Int} {A B : Nat} (ha : a.natAbs ≤ A) (hb : b.natAbs ≤ B) : (a + b).natAbs ≤ A + B := by omega
theorem ab_sub {a b : Int} {A B : Nat} (ha : a.natAbs ≤ A) (hb : b.natAbs ≤ B) : (a - b).natAbs ≤ A + B := by omega
theorem ab_le {a : Int} {A B : Nat} (ha : a.natAbs ≤ A) (h : A ≤ B) : a.natAbs ≤ B := by omega
theorem ab_n {a A : Nat} (h : a ≤ A) : (a : Int).natAbs ≤ A := by omega
/-! ===== the class: within the edges ===== -/
theorem ic_ {α : Type} {c d : Prop} [Decidable c] [Decidable d] (h : c ↔ d) {u v : α} : (if c then u else v) = if d then u else v := by
  by_cases q : d
  · rw [if_pos q, if_pos (h.mpr q)]
  · rw [if_neg q, if_neg (fun w => q (h.mp w))]
def tSp (er : Nat → Int) (Y p lo hi : Nat) : Bool := decide ((lo : Int) * p ≤ Y) && (decide ((Y : Int) ≤ hi * p) && (decide (0 ≤ er lo) && decide (0 ≤ er hi)))
def tLf (el er : Nat → Int) (X Y p lo hi : Nat) : Bool := tSp er Y p lo hi && decide (lnA el Y p lo hi ≤ X * rse lo hi)
def tRt (er : Nat → Int) (X Y p lo hi : Nat) : Bool := tSp er Y p lo hi && decide (X * rse lo hi ≤ lnA er Y p lo hi)
def rsN (lo hi : Nat) : Nat := max 1 (hi - lo)
theorem rsN_i {lo hi : Nat} (h : lo ≤ hi) : (rsN lo hi : Int) = rse lo hi := by unfold rsN rse; omega
theorem lnA_ab {L : Nat → Int} (hL : ∀ r, r < 7 → (L r).natAbs ≤ 7) {X Y p lo hi : Nat} (hX : X ≤ 10000) (hY : Y ≤ 10000) (hp : p ≤ 3000) (hl : lo ≤ hi) (hh : hi < 7) : ((X : Int) * rse lo hi - lnA L Y p lo hi).natAbs ≤ 1000000000 := by
  unfold lnA
  have hr : (rse lo hi).natAbs ≤ 7 := by unfold rse; omega
  refine ab_le (ab_sub (ab_mul (ab_n hX) hr) (ab_add (ab_mul (hL lo (by omega)) (ab_mul hr (ab_n hp))) (ab_mul (ab_sub (hL hi hh) (hL lo (by omega))) (ab_sub (ab_n hY) (ab_mul (ab_n (show lo ≤ 7 by omega)) (ab_n hp)))))) (by decide)
theorem C_ie1 {h : Hp} {el er : Nat → Int} (e31 : ∀ r, r < 7 → gA_ h 31 r = zI (el r)) (e32 : ∀ r, r < 7 → gA_ h 32 r = zI (er r)) (bl7 : ∀ r, r < 7 → (el r).natAbs ≤ 7) (br7 : ∀ r, r < 7 → (er r).natAbs ≤ 7) {X Y p lo hi : Nat} (hX : X ≤ 10000) (hY : Y ≤ 10000) (hp : p ≤ 3000) (hl : lo ≤ hi) (hh : hi < 7) (k : Int32 → Int32 → Int32 → Int32 → Int32 → Int32 → Hp → Option Int32) (n : Nat) (a b : Bool) (G : Int32 → Int32 → Int32 → Int32 → Int32 → Int32 → Int32 → Hp → Option Int32) (hG : F_X4_isWithinEdges_20 n k = G) : F_X4_isWithinEdges_20 (n + 1) k (nI X) (nI Y) (nI p) (bi_ a) (bi_ b) (nI lo) (nI hi) h = G (nI X) (nI Y) (nI p) (bi_ (a || tLf el er X Y p lo hi)) (bi_ (b || tRt er X Y p lo hi)) (nI lo) (nI (hi + 1)) h := by
  have hlp : ((lo : Int) * p).natAbs ≤ 1000000000 := ab_le (ab_mul (ab_n (show lo ≤ 7 by omega)) (ab_n hp)) (by decide)
  have hhp : ((hi : Int) * p).natAbs ≤ 1000000000 := ab_le (ab_mul (ab_n (show hi ≤ 7 by omega)) (ab_n hp)) (by decide)
  have hYa : ((Y : Int)).natAbs ≤ 1000000000 := ab_le (ab_n hY) (by decide)
  have e1 : nI lo * nI p = zI ((lo : Int) * p) := by rw [zI_n, zI_n, zI_mul]
  have e2 : nI hi * nI p = zI ((hi : Int) * p) := by rw [zI_n, zI_n, zI_mul]
  have n1 : nI hi + 1 = nI (hi + 1) := nI_add hi 1
  rw [F_X4_isWithinEdges_20, hG, if_neg (show ¬ (6 : Int32) < nI hi from (nI_nlt (by omega) (by decide) : ¬ nI 6 < nI hi)), e1, e2, ic_ (show (nI Y < zI ((lo : Int) * p)) ↔ ((Y : Int) < lo * p) from by rw [zI_n Y, zI_lt hYa hlp]), ic_ (show (zI ((hi : Int) * p) < nI Y) ↔ ((hi : Int) * p < Y) from by rw [zI_n Y, zI_lt hhp hYa])]
  by_cases c1 : (Y : Int) < lo * p
  · have t : tSp er Y p lo hi = false := by unfold tSp; rw [decide_eq_false (by omega)]; rfl
    rw [if_pos c1, F_X4_isWithinEdges_47, F_X4_isWithinEdges_48, if_pos rfl, F_X4_isWithinEdges_188, n1]
    unfold tLf tRt
    rw [t, Bool.false_and, Bool.false_and, Bool.or_false, Bool.or_false]
  · rw [if_neg c1]
    by_cases c2 : (hi : Int) * p < Y
    · have t : tSp er Y p lo hi = false := by unfold tSp; rw [decide_eq_false (show ¬ (Y : Int) ≤ hi * p by omega)]; simp
      rw [if_pos c2, F_X4_isWithinEdges_47, F_X4_isWithinEdges_48, if_pos rfl, F_X4_isWithinEdges_188, n1]
      unfold tLf tRt
      rw [t, Bool.false_and, Bool.false_and, Bool.or_false, Bool.or_false]
    · rw [if_neg c2, F_X4_isWithinEdges_48, if_neg (by decide), rA_n _ 32 7 _ (by omega) (by decide), e32 lo (by omega), ic_ (show (zI (er lo) < 0) ↔ (er lo < 0) from by rw [zI_neg (ab_le (br7 lo (by omega)) (by decide))])]
      by_cases c3 : er lo < 0
      · have t : tSp er Y p lo hi = false := by unfold tSp; rw [decide_eq_false (show ¬ 0 ≤ er lo by omega)]; simp
        rw [if_pos c3, F_X4_isWithinEdges_188, n1]
        unfold tLf tRt
        rw [t, Bool.false_and, Bool.false_and, Bool.or_false, Bool.or_false]
      · rw [if_neg c3, rA_n _ 32 7 _ hh (by decide), e32 hi hh, ic_ (show (zI (er hi) < 0) ↔ (er hi < 0) from by rw [zI_neg (ab_le (br7 hi hh) (by decide))])]
        by_cases c4 : er hi < 0
        · have t : tSp er Y p lo hi = false := by unfold tSp; rw [decide_eq_false (show ¬ 0 ≤ er hi by omega)]; simp
          rw [if_pos c4, F_X4_isWithinEdges_188, n1]
          unfold tLf tRt
          rw [t, Bool.false_and, Bool.false_and, Bool.or_false, Bool.or_false]
        · have t : tSp er Y p lo hi = true := by
            unfold tSp
            rw [decide_eq_true (show (lo : Int) * p ≤ Y by omega), decide_eq_true (show (Y : Int) ≤ hi * p by omega), decide_eq_true (show 0 ≤ er lo by omega), decide_eq_true (show 0 ≤ er hi by omega)]; rfl
          have hr1 : mx_ 1 (nI hi - nI lo) = nI (rsN lo hi) := by
            rw [pk_sub hl, show (1 : Int32) = nI 1 from rfl, mx_n (by omega) (by omega)]; rfl
          have hrn : nI (rsN lo hi) = zI (rse lo hi) := by rw [zI_n, rsN_i hl]
          have hln : ∀ L : Nat → Int, zI (L lo) * (nI (rsN lo hi) * nI p) + ((zI (L hi) - zI (L lo)) * (nI Y - zI ((lo : Int) * p))) = zI (lnA L Y p lo hi) := fun L => by
            rw [hrn, zI_n p, zI_n Y, zI_mul, zI_mul, zI_sub, zI_sub, zI_mul, zI_add]; rfl
          have hxr : nI X * nI (rsN lo hi) = zI ((X : Int) * rse lo hi) := by rw [hrn, zI_n X, zI_mul]
          rw [if_neg c4, hr1, bd_e, rA_n _ 31 7 _ (by omega) (by decide), rA_n _ 31 7 _ hh (by decide), e31 lo (by omega), e31 hi hh]
          unfold F_X4_lineAt
          rw [e1, hln el, ob_s, rA_n _ 32 7 _ (by omega) (by decide), rA_n _ 32 7 _ hh (by decide), e32 lo (by omega), e32 hi hh, hln er, ob_s, hxr, zI_sub, zI_sub, ic_ (show (zI ((X : Int) * rse lo hi - lnA el Y p lo hi) < 0) ↔ ((X : Int) * rse lo hi - lnA el Y p lo hi < 0) from by rw [zI_neg (lnA_ab bl7 hX hY hp hl hh)])]
          have k2 : ∀ s : Bool, F_X4_isWithinEdges_169 G (nI X) (nI Y) (nI p) (bi_ b) (nI lo) (nI hi) (zI ((X : Int) * rse lo hi - lnA er Y p lo hi)) (bi_ s) h = G (nI X) (nI Y) (nI p) (bi_ s) (bi_ (b || tRt er X Y p lo hi)) (nI lo) (nI (hi + 1)) h := fun s => by
            rw [F_X4_isWithinEdges_169, ic_ (show (0 < zI ((X : Int) * rse lo hi - lnA er Y p lo hi)) ↔ (0 < (X : Int) * rse lo hi - lnA er Y p lo hi) from by rw [zI_pos' (lnA_ab br7 hX hY hp hl hh)])]
            unfold tRt
            rw [t, Bool.true_and]
            cases b with
            | true => rw [if_neg b1_, F_X4_isWithinEdges_181, F_X4_isWithinEdges_186, F_X4_isWithinEdges_188, n1]; rfl
            | false =>
              rw [if_pos b0_]
              by_cases c5 : 0 < (X : Int) * rse lo hi - lnA er Y p lo hi
              · rw [if_pos c5, F_X4_isWithinEdges_186, F_X4_isWithinEdges_188, n1, decide_eq_false (by omega)]; rfl
              · rw [if_neg c5, F_X4_isWithinEdges_181, F_X4_isWithinEdges_186, F_X4_isWithinEdges_188, n1, decide_eq_true (by omega)]; rfl
          unfold tLf
          rw [t, Bool.true_and]
          cases a with
          | true => rw [if_neg b1_, F_X4_isWithinEdges_164]; exact k2 true
          | false =>
            rw [if_pos b0_]
            by_cases c5 : (X : Int) * rse lo hi - lnA el Y p lo hi < 0
            · rw [if_pos c5, decide_eq_false (by omega)]; exact k2 false
            · rw [if_neg c5, F_X4_isWithinEdges_164, decide_eq_true (by omega)]; exact k2 true
theorem C_ie20 {h : Hp} {el er : Nat → Int} (e31 : ∀ r, r < 7 → gA_ h 31 r = zI (el r)) (e32 : ∀ r, r < 7 → gA_ h 32 r = zI (er r)) (bl7 : ∀ r, r < 7 → (el r).natAbs ≤ 7) (br7 : ∀ r, r < 7 → (er r).natAbs ≤ 7) {X Y p lo : Nat} (hX : X ≤ 10000) (hY : Y ≤ 10000) (hp : p ≤ 3000) (k : Int32 → Int32 → Int32 → Int32 → Int32 → Int32 → Hp → Option Int32) : ∀ q n hi a b, q + hi = 7 → q < n → lo ≤ hi → ∃ a' b', F_X4_isWithinEdges_20 n k (nI X) (nI Y) (nI p) (bi_ a) (bi_ b) (nI lo) (nI hi) h = k (nI X) (nI Y) (nI p) (bi_ a') (bi_ b') (nI lo) h ∧ (a' = true ↔ (a = true ∨ ∃ j, hi ≤ j ∧ j < 7 ∧ tLf el er X Y p lo j = true)) ∧ (b' = true ↔ (b = true ∨ ∃ j, hi ≤ j ∧ j < 7 ∧ tRt er X Y p lo j = true)) := by
  intro q
  induction q with
  | zero =>
    intro n hi a b hq hn hl
    obtain ⟨n, rfl⟩ : ∃ k, n = k + 1 := ⟨n - 1, by omega⟩
    have e : hi = 7 := by omega
    subst e
    refine ⟨a, b, ?_, ⟨fun q => Or.inl q, fun q => q.elim (fun w => w) (fun ⟨j, j1, j2, _⟩ => by omega)⟩, ⟨fun q => Or.inl q, fun q => q.elim (fun w => w) (fun ⟨j, j1, j2, _⟩ => by omega)⟩⟩
    rw [F_X4_isWithinEdges_20, if_pos (by decide)]
  | succ q ih =>
    intro n hi a b hq hn hl
    obtain ⟨n, rfl⟩ : ∃ k, n = k + 1 := ⟨n - 1, by omega⟩
    obtain ⟨a', b', e, w1, w2⟩ := ih n (hi + 1) (a || tLf el er X Y p lo hi) (b || tRt er X Y p lo hi) (by omega) (by omega) (by omega)
    have key : ∀ (c : Bool) (t : Nat → Bool), ((c || t hi) = true ∨ ∃ j, hi + 1 ≤ j ∧ j < 7 ∧ t j = true) ↔ (c = true ∨ ∃ j, hi ≤ j ∧ j < 7 ∧ t j = true) := fun c t => by
      rw [Bool.or_eq_true]
      constructor
      · rintro ((u | u) | ⟨j, j1, j2, j3⟩)
        · exact Or.inl u
        · exact Or.inr ⟨hi, Nat.le_refl _, by omega, u⟩
        · exact Or.inr ⟨j, by omega, j2, j3⟩
      · rintro (u | ⟨j, j1, j2, j3⟩)
        · exact Or.inl (Or.inl u)
        · by_cases e : j = hi
          · subst e; exact Or.inl (Or.inr j3)
          · exact Or.inr ⟨j, by omega, j2, j3⟩
    refine ⟨a', b', ?_, w1.trans (key a (tLf el er X Y p lo)), w2.trans (key b (tRt er X Y p lo))⟩
    rw [C_ie1 e31 e32 bl7 br7 hX hY hp hl (by omega) k n a b _ rfl, e]
theorem C_ie9 {h : Hp} {el er : Nat → Int} (e31 : ∀ r, r < 7 → gA_ h 31 r = zI (el r)) (e32 : ∀ r, r < 7 → gA_ h 32 r = zI (er r)) (bl7 : ∀ r, r < 7 → (el r).natAbs ≤ 7) (br7 : ∀ r, r < 7 → (er r).natAbs ≤ 7) {X Y p : Nat} (hX : X ≤ 10000) (hY : Y ≤ 10000) (hp : p ≤ 3000) (k : Int32 → Int32 → Hp → Option Int32) : ∀ q n lo a b, q + lo = 7 → q < n → ∃ a' b', F_X4_isWithinEdges_9 n k (nI X) (nI Y) (nI p) (bi_ a) (bi_ b) (nI lo) h = k (bi_ a') (bi_ b') h ∧ (a' = true ↔ (a = true ∨ ∃ i j, lo ≤ i ∧ i ≤ j ∧ j < 7 ∧ tLf el er X Y p i j = true)) ∧ (b' = true ↔ (b = true ∨ ∃ i j, lo ≤ i ∧ i ≤ j ∧ j < 7 ∧ tRt er X Y p i j = true)) := by
  intro q
  induction q with
  | zero =>
    intro n lo a b hq hn
    obtain ⟨n, rfl⟩ : ∃ k, n = k + 1 := ⟨n - 1, by omega⟩
    have e : lo = 7 := by omega
    subst e
    refine ⟨a, b, ?_, ⟨fun q => Or.inl q, fun q => q.elim (fun w => w) (fun ⟨i, j, j0, j1, j2, _⟩ => by omega)⟩, ⟨fun q => Or.inl q, fun q => q.elim (fun w => w) (fun ⟨i, j, j0, j1, j2, _⟩ => by omega)⟩⟩
    rw [F_X4_isWithinEdges_9, if_pos (by decide)]
  | succ q ih =>
    intro n lo a b hq hn
    obtain ⟨n, rfl⟩ : ∃ k, n = k + 1 := ⟨n - 1, by omega⟩
    obtain ⟨a1, b1, e1, w1, w2⟩ := C_ie20 (lo := lo) e31 e32 bl7 br7 hX hY hp (F_X4_isWithinEdges_194 (F_X4_isWithinEdges_9 n k)) (7 - lo) FU_ lo a b (by omega) (by unfold FU_; omega) (Nat.le_refl _)
    obtain ⟨a', b', e, v1, v2⟩ := ih n (lo + 1) a1 b1 (by omega) (by omega)
    have key : ∀ (c d : Bool) (t : Nat → Nat → Bool), (d = true ↔ (c = true ∨ ∃ j, lo ≤ j ∧ j < 7 ∧ t lo j = true)) → ((d = true ∨ ∃ i j, lo + 1 ≤ i ∧ i ≤ j ∧ j < 7 ∧ t i j = true) ↔ (c = true ∨ ∃ i j, lo ≤ i ∧ i ≤ j ∧ j < 7 ∧ t i j = true)) := fun c d t hd => by
      rw [hd]
      constructor
      · rintro ((u | ⟨j, j1, j2, j3⟩) | ⟨i, j, j0, j1, j2, j3⟩)
        · exact Or.inl u
        · exact Or.inr ⟨lo, j, Nat.le_refl _, j1, j2, j3⟩
        · exact Or.inr ⟨i, j, by omega, j1, j2, j3⟩
      · rintro (u | ⟨i, j, j0, j1, j2, j3⟩)
        · exact Or.inl (Or.inl u)
        · by_cases e : i = lo
          · subst e; exact Or.inl (Or.inr ⟨j, j1, j2, j3⟩)
          · exact Or.inr ⟨i, j, by omega, j1, j2, j3⟩
    refine ⟨a', b', ?_, v1.trans (key a a1 (tLf el er X Y p) w1), v2.trans (key b b1 (tRt er X Y p) w2)⟩
    rw [F_X4_isWithinEdges_9, if_neg (show ¬ (6 : Int32) < nI lo from (nI_nlt (by omega) (by decide) : ¬ nI 6 < nI lo)), e1, F_X4_isWithinEdges_194, show nI lo + 1 = nI (lo + 1) from nI_add lo 1, e]
theorem tSp_S {er : Nat → Int} {Y p i j : Nat} (h1 : i ≤ j) (h2 : j < 7) : tSp er Y p i j = true ↔ Spn (fun r => r < 7 ∧ 0 ≤ er r) Y p i j := by
  unfold tSp Spn
  rw [Bool.and_eq_true, Bool.and_eq_true, Bool.and_eq_true, decide_eq_true_iff, decide_eq_true_iff, decide_eq_true_iff, decide_eq_true_iff]
  constructor
  · rintro ⟨a, b, c, d⟩; exact ⟨h1, h2, ⟨by omega, c⟩, ⟨h2, d⟩, a, b⟩
  · rintro ⟨_, _, c, d, a, b⟩; exact ⟨a, b, c.2, d.2⟩
theorem C_ie {h : Hp} {el er : Nat → Int} (e31 : ∀ r, r < 7 → gA_ h 31 r = zI (el r)) (e32 : ∀ r, r < 7 → gA_ h 32 r = zI (er r)) (bl7 : ∀ r, r < 7 → (el r).natAbs ≤ 7) (br7 : ∀ r, r < 7 → (er r).natAbs ≤ 7) {X Y p : Nat} (hX : X ≤ 10000) (hY : Y ≤ 10000) (hp : p ≤ 3000) : ∃ v : Bool, F_X4_isWithinEdges (nI X) (nI Y) (nI p) h = some (bi_ v) ∧ (v = true ↔ (ClsL el (fun r => r < 7 ∧ 0 ≤ er r) X Y p ∧ ClsR er (fun r => r < 7 ∧ 0 ≤ er r) X Y p)) := by
  obtain ⟨a, b, e, w1, w2⟩ := C_ie9 e31 e32 bl7 br7 hX hY hp F_X4_isWithinEdges_200 7 FU_ 0 false false (by omega) (by unfold FU_; omega)
  refine ⟨a && b, ?_, ?_⟩
  · unfold F_X4_isWithinEdges
    refine e.trans ?_
    rw [F_X4_isWithinEdges_200]
    cases a <;> cases b <;> rfl
  · rw [Bool.and_eq_true, w1, w2]
    refine and_congr ?_ ?_
    · constructor
      · rintro (u | ⟨i, j, j0, j1, j2, j3⟩)
        · cases u
        · unfold tLf at j3
          rw [Bool.and_eq_true, tSp_S j1 j2, decide_eq_true_iff] at j3
          exact ⟨i, j, j3.1, j3.2⟩
      · rintro ⟨i, j, s, q⟩
        refine Or.inr ⟨i, j, Nat.zero_le _, s.1, s.2.1, ?_⟩
        unfold tLf
        rw [Bool.and_eq_true, tSp_S s.1 s.2.1, decide_eq_true_iff]
        exact ⟨s, q⟩
    · constructor
      · rintro (u | ⟨i, j, j0, j1, j2, j3⟩)
        · cases u
        · unfold tRt at j3
          rw [Bool.and_eq_true, tSp_S j1 j2, decide_eq_true_iff] at j3
          exact ⟨i, j, j3.1, j3.2⟩
      · rintro ⟨i, j, s, q⟩
        refine Or.inr ⟨i, j, Nat.zero_le _, s.1, s.2.1, ?_⟩
        unfold tRt
        rw [Bool.and_eq_true, tSp_S s.1 s.2.1, decide_eq_true_iff]
        exact ⟨s, q⟩
