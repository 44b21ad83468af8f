/-! ===== numbers of given bits; the reached set ===== -/
def ofB (p : Nat → Bool) : Nat → Int64
  | 0 => 0
  | n + 1 => ofB p n ||| (if p n = true then ls_ 1 (nI n) else 0)
theorem tb_ofB (p : Nat → Bool) (i : Nat) : ∀ n, n ≤ 64 → tb (ofB p n) i = (decide (i < n) && p i)
  | 0, _ => by rw [ofB, tb_0, decide_eq_false (by omega)]; rfl
  | n + 1, hn => by
    rw [ofB]
    by_cases q : p n = true
    · rw [if_pos q, tb_set (by omega), tb_ofB p i n (by omega)]
      by_cases h : i = n
      · subst h; rw [decide_eq_true (rfl : i = i), decide_eq_true (by omega : i < i + 1), q, Bool.or_true]; rfl
      · rw [decide_eq_false h, Bool.or_false]
        congr 1
        exact decide_eq_decide.mpr ⟨fun _ => by omega, fun _ => by omega⟩
    · rw [if_neg q, tb_or, tb_0, Bool.or_false, tb_ofB p i n (by omega)]
      by_cases h : i = n
      · subst h; rw [Bool.eq_false_iff.mpr q, Bool.and_false, Bool.and_false]
      · congr 1
        exact decide_eq_decide.mpr ⟨fun _ => by omega, fun _ => by omega⟩
def nbI (σ : Sg) (a : Nat) : Int64 := ofB (nbr σ a) 40
theorem tb_nbI {σ : Sg} (hw : Wf σ) (a b : Nat) : tb (nbI σ a) b = nbr σ a b := by
  unfold nbI
  rw [tb_ofB _ _ _ (by decide)]
  by_cases h : b < 40
  · rw [decide_eq_true h]; rfl
  · rw [decide_eq_false h]
    unfold nbr
    have := hw.1
    rw [decide_eq_false (by omega)]; rfl
def lo (x : Int64) : Nat := pcL ((x &&& -x) - 1)
theorem lo_n {x : Int64} {b : Nat} (h : lw x b) : lo x = b := by
  have e := f_least h
  unfold F_X6_least at e
  rw [f_bitCount, ob_s, Option.some.injEq] at e
  have h64 : pcL ((x &&& -x) - 1) ≤ 64 := pcL_le (Nat.le_refl _) (fun i hi => tb_big hi)
  have := h.1
  unfold lo
  exact (i_eq (by omega) (by omega)).mp e
def rgo (σ : Sg) (A : Int64) : Nat → Int64 → Int64 → Int64
  | 0, R, _ => R
  | p + 1, R, O => if O = 0 then R else rgo σ A p (R ||| (nbI σ (lo O) &&& A) &&& (R ^^^ (-1))) ((O &&& (O - 1)) ||| (nbI σ (lo O) &&& A) &&& (R ^^^ (-1)))
def rch (σ : Sg) (A S : Int64) : Int64 := rgo σ A 40 S S
theorem rgo_0 (σ : Sg) (A R : Int64) : ∀ p, rgo σ A p R 0 = R
  | 0 => rfl
  | p + 1 => by rw [rgo, if_pos rfl]
theorem rgo_b {σ : Sg} (hw : Wf σ) (A S : Int64) : ∀ p R O, Iv (nbr σ) A S R O → pot A R O ≤ p → ∀ b, tb (rgo σ A p R O) b = true ↔ Cn (nbr σ) A S b
  | 0, R, O, hi, hp, b => by
    rw [rgo]
    exact hi.done (pcL_z (by unfold pot at hp; omega)) b
  | p + 1, R, O, hi, hp, b => by
    rw [rgo]
    by_cases h0 : O = 0
    · rw [if_pos h0]; exact hi.done h0 b
    · rw [if_neg h0]
      obtain ⟨c, hc⟩ := lw_ex h0
      rw [lo_n hc]
      obtain ⟨h1, h2⟩ := hi.step hc (N := nbI σ c) (fun j => tb_nbI hw c j)
      exact rgo_b hw A S p _ _ h1 (by omega) b
theorem pot_s {A S : Int64} (hA : bl A 40) (hS : ∀ b, tb S b = true → tb A b = true) : pot A S S ≤ 40 := by
  have e : pot A S S = pcL A := by
    unfold pot pcL
    rw [← sumN_g]
    refine sumN_c (fun i _ => ?_)
    rw [tb_min]
    have := hS i
    cases q1 : tb S i <;> cases q2 : tb A i <;> first | rfl | (rw [q1, q2] at this; cases this rfl)
  rw [e]; exact pcL_le (by decide) hA
theorem rch_b {σ : Sg} (hw : Wf σ) {A S : Int64} (hA : bl A 40) (hS : ∀ b, tb S b = true → tb A b = true) (b : Nat) : tb (rch σ A S) b = true ↔ Cn (nbr σ) A S b :=
  rgo_b hw A S 40 S S (Iv.start _ _ _) (pot_s hA hS) b
theorem Cn.sub {nb : Nat → Nat → Bool} {A S : Int64} (hS : ∀ b, tb S b = true → tb A b = true) {b : Nat} (h : Cn nb A S b) : tb A b = true := h (fun b => tb A b = true) hS (fun _ _ _ _ q => q)
theorem f_neigh {σ : Sg} {h : Hp} (hw : Wf σ) (hc : RepC σ h) {b : Nat} (hb : b < 64) : F_X2_neighboursOf (nI b) h = some (nbI σ b) := by
  have h40 := hw.1
  unfold F_X2_neighboursOf
  rw [f_exists hc, ob_s]
  by_cases q : b < sN σ
  · rw [n_inN q (by omega), if_neg b1_, rL_n _ 19 40 _ (by omega) (by decide)]
    congr 1
    exact tb_ext (fun i _ => by rw [hc.2.2.2.2.2.2.2.2.2.1 b (by omega) i, tb_nbI hw])
  · rw [n_inN' (by omega) (by omega), if_pos b0_]
    congr 1
    refine tb_ext (fun i _ => ?_)
    rw [tb_0, tb_nbI hw]
    unfold nbr
    rw [decide_eq_false (by omega)]
theorem f_reach9 {σ : Sg} {h : Hp} (hw : Wf σ) (hc : RepC σ h) (A : Int64) : ∀ p n i R O, p + i = 40 → p < n → F_X4_reach_9 n A R O (nI i) h = some (rgo σ A p R O)
  | 0, n, i, R, O, hp, hn => by
    obtain ⟨n, rfl⟩ : ∃ k, n = k + 1 := ⟨n - 1, by omega⟩
    rw [F_X4_reach_9, if_pos (show (40 : Int32) ≤ nI i from (nI_le (by omega) (by omega) : nI 40 ≤ nI i)), rgo]
  | p + 1, n, i, R, O, hp, hn => by
    obtain ⟨n, rfl⟩ : ∃ k, n = k + 1 := ⟨n - 1, by omega⟩
    rw [F_X4_reach_9, if_neg (show ¬ (40 : Int32) ≤ nI i from (nI_ge (by omega) (by decide) : ¬ nI 40 ≤ nI i)), rgo]
    by_cases h0 : O = 0
    · rw [if_pos h0, if_pos h0]
    · rw [if_neg h0, if_neg h0]
      obtain ⟨c, hcc⟩ := lw_ex h0
      rw [f_least hcc, ob_s, f_neigh hw hc hcc.1, ob_s, bd_e, bd_e, lo_n hcc, show nI i + 1 = nI (i + 1) from nI_add i 1]
      exact f_reach9 hw hc A p n (i + 1) _ _ (by omega) (by omega)
theorem f_reach {σ : Sg} {h : Hp} (hw : Wf σ) (hc : RepC σ h) (S A : Int64) : F_X4_reach S A h = some (rch σ A S) := f_reach9 hw hc A 40 FU_ 0 S S (by omega) (by unfold FU_; omega)
/-- the rows of the neighbours, as links leaves them -/
def Lk (σ : Sg) (h : Hp) : Prop := ∀ a, a < sN σ → gL_ h 48 a = nbI σ a
theorem f_pieceIn8 {σ : Sg} {h : Hp} (hw : Wf σ) (hl : Lk σ h) (A S : Int64) (hA : bl A (sN σ)) (hS : ∀ b, tb S b = true → tb A b = true) : ∀ p n R O, Iv (nbr σ) A S R O → pot A R O ≤ p → p < n → F_X7_pieceIn_8 n A R O h = some (rgo σ A p R O)
  | 0, n, R, O, hi, hp, hn => by
    obtain ⟨n, rfl⟩ : ∃ k, n = k + 1 := ⟨n - 1, by omega⟩
    rw [F_X7_pieceIn_8, if_pos (pcL_z (by unfold pot at hp; omega)), rgo]
  | p + 1, n, R, O, hi, hp, hn => by
    obtain ⟨n, rfl⟩ : ∃ k, n = k + 1 := ⟨n - 1, by omega⟩
    rw [F_X7_pieceIn_8, rgo]
    by_cases h0 : O = 0
    · rw [if_pos h0, if_pos h0]
    · rw [if_neg h0, if_neg h0]
      obtain ⟨c, hc⟩ := lw_ex h0
      have hcN : c < sN σ := by
        have h1 := Cn.sub hS (hi.2.2.1 c (hi.2.1 c hc.2.1))
        rcases Nat.lt_or_ge c (sN σ) with q | q
        · exact q
        · rw [hA c q] at h1; cases h1
      have h40 := hw.1
      rw [f_first hc, ob_s, bd_e, rL_n _ 48 40 _ (by omega) (by decide), bd_e, hl c hcN, lo_n hc]
      obtain ⟨h1, h2⟩ := hi.step hc (N := nbI σ c) (fun j => tb_nbI hw c j)
      exact f_pieceIn8 hw hl A S hA hS p n _ _ h1 (by omega) (by omega)
theorem low_sub (A : Int64) (b : Nat) (h : tb (A &&& -A) b = true) : tb A b = true := by
  rw [tb_and, Bool.and_eq_true] at h; exact h.1
/-- the piece of the lowest of A -/
def pc1 (σ : Sg) (A : Int64) : Int64 := rch σ A (A &&& -A)
theorem f_pieceIn {σ : Sg} {h : Hp} (hw : Wf σ) (hl : Lk σ h) {A : Int64} (hA : bl A (sN σ)) : F_X7_pieceIn A h = some (pc1 σ A) := by
  have h40 := hw.1
  exact f_pieceIn8 hw hl A _ hA (low_sub A) 40 FU_ _ _ (Iv.start _ _ _) (pot_s (bl_mono hA h40) (low_sub A)) (by unfold FU_; omega)
