/-! ===== weak, key ===== -/
def badP (σ : Sg) (x : Nat) (Q : Int64) : Bool := flo σ Q && decide (sG σ * bsum (stN σ x) Q < wt σ Q)
def wkc (σ : Sg) (x : Nat) : Nat → Int64 → Nat
  | 0, _ => 0
  | p + 1, A => if A = 0 then 0 else b1n (badP σ x (pc1 σ A)) + wkc σ x p (cutP σ A)
theorem bsum_le {f : Nat → Nat} {x : Int64} {c : Nat} (h : ∀ b, tb x b = true → f b ≤ c) : bsum f x ≤ 64 * c := by
  unfold bsum
  refine sumN_le (fun i => ?_) 64
  split
  · exact h i (by assumption)
  · exact Nat.zero_le _
theorem wt_le {σ : Sg} (hw : Wf σ) {x : Int64} (hx : bl x (sN σ)) : wt σ x ≤ 1024 := by
  refine bsum_le (c := 16) (fun b hb => ?_)
  have hbN : b < sN σ := by
    rcases Nat.lt_or_ge b (sN σ) with q | q
    · exact q
    · rw [hx b q] at hb; cases hb
  have g := (hw.2.2.1 b hbN).1
  exact Nat.mul_le_mul (lX_le g).2 (lY_le g).2
theorem sb_le {σ : Sg} (hw : Wf σ) {x : Int64} (hx : bl x (sN σ)) {a : Nat} (ha : a < sN σ) : bsum (stN σ a) x ≤ 1024 := by
  refine bsum_le (c := 16) (fun b hb => ?_)
  have hbN : b < sN σ := by
    rcases Nat.lt_or_ge b (sN σ) with q | q
    · exact q
    · rw [hx b q] at hb; cases hb
  exact stN_le hw ha hbN
theorem grip_t {σ : Sg} (hw : Wf σ) {x : Int64} (hx : bl x (sN σ)) {a : Nat} (ha : a < sN σ) : nI (wt σ x) ≤ nI (sG σ) * nI (bsum (stN σ a) x) ↔ ¬ sG σ * bsum (stN σ a) x < wt σ x := by
  have h1 := wt_le hw hx
  have h2 := sb_le hw hx ha
  have h3 := hw.2.2.2.2.2.1.2
  have h4 := Nat.mul_le_mul h3 h2
  rw [pk_mul, i_le (by omega) (by omega)]; omega
theorem bl_sub {x y : Int64} {m : Nat} (hy : bl y m) (h : ∀ b, tb x b = true → tb y b = true) : bl x m := fun i hi => by
  cases q : tb x i with
  | false => rfl
  | true => have := h i q; rw [hy i hi] at this; cases this
theorem bl_pc1 {σ : Sg} (hw : Wf σ) {A : Int64} {m : Nat} (hA : bl A m) (hm : m ≤ 40) : bl (pc1 σ A) m := bl_sub hA (fun _ h => pc1_sub hw (bl_mono hA hm) h)
theorem M_loop92 {σ : Sg} {h : Hp} (hw : Wf σ) (hm : RepM σ h) {a : Nat} (ha : a < sN σ) (k : Int32 → Int64 → Int32 → Int32 → Int64 → Int32 → Hp → Option Int32) (x4 : Int64) (x6 x7 : Int32) (x8 : Int64) : ∀ m n c x, bl x (sN σ) → pcL x = m → m < n → F_X7_weakAt_92 n k (nI a) x4 x6 x7 x8 (nI c) x h = k (nI a) x4 x6 x7 x8 (nI (c + bsum (stN σ a) x)) h := by
  intro m
  induction m with
  | zero =>
    intro n c x hx hp hn
    obtain ⟨n, rfl⟩ : ∃ k, n = k + 1 := ⟨n - 1, by omega⟩
    have h0 := pcL_z hp
    subst h0
    rw [F_X7_weakAt_92, if_pos rfl, bsum_0]; rfl
  | succ m ih =>
    intro n c x hx hp hn
    obtain ⟨n, rfl⟩ : ∃ k, n = k + 1 := ⟨n - 1, by omega⟩
    have h0 : ¬ x = 0 := fun e => by rw [e, pcL_0] at hp; omega
    obtain ⟨b, hb⟩ := lw_ex h0
    have hbN := lw_lt hb hx
    have hpp := pcL_pop hb
    rw [F_X7_weakAt_92, if_neg h0, f_first hb, ob_s, f_studsOf hw hm ha hbN, ob_s, bd_e, nI_add, ih n _ (x &&& (x - 1)) (bl_and hx) (by omega) (by omega), bsum_pop hb, Nat.add_assoc]
theorem M_loop42 {σ : Sg} {h : Hp} (hw : Wf σ) (hm : RepM σ h) (hl : Lk σ h) {a : Nat} (ha : a < sN σ) : ∀ p n c A, bl A (sN σ) → pcL A ≤ p → p < n → F_X7_weakAt_42 n (nI a) A (nI c) 0 h = some (nI (c + wkc σ a p A)) := by
  have h40 := hw.1
  intro p
  induction p with
  | zero =>
    intro n c A hA hp hn
    obtain ⟨n, rfl⟩ : ∃ k, n = k + 1 := ⟨n - 1, by omega⟩
    rw [F_X7_weakAt_42, if_pos (pcL_z (by omega))]; rfl
  | succ p ih =>
    intro n c A hA hp hn
    obtain ⟨n, rfl⟩ : ∃ k, n = k + 1 := ⟨n - 1, by omega⟩
    rw [F_X7_weakAt_42, wkc]
    by_cases h0 : A = 0
    · rw [if_pos h0, if_pos h0]; rfl
    · have hq := bl_pc1 hw hA h40
      have hlt := cut_lt hw (bl_mono hA h40) h0
      have i0 := fun c => ih n c (cutP σ A) (bl_cut hA) (by omega) (by omega)
      rw [if_neg h0, if_neg h0, if_pos rfl, f_pieceIn hw hl hA, ob_s, bd_e, M_floats hw hm hq, ob_s]
      unfold badP
      cases hf : flo σ (pc1 σ A) with
      | false => rw [if_pos b0_, Bool.false_and, show b1n false = 0 from rfl, Nat.zero_add]; exact i0 c
      | true =>
        rw [if_neg b1_]
        have h64 : pcL (pc1 σ A) ≤ 64 := pcL_le (Nat.le_refl _) (fun i hi => tb_big hi)
        have e := M_loop92 hw hm ha (F_X7_weakAt_126 (F_X7_weakAt_42 n)) (A &&& (pc1 σ A ^^^ (-1))) (nI c) 0 (pc1 σ A) (pcL (pc1 σ A)) FU_ 0 (pc1 σ A) hq rfl (by unfold FU_; omega)
        rw [Nat.zero_add] at e
        refine Eq.trans e ?_
        unfold F_X7_weakAt_126 F_X7_weakAt_149
        rw [M_weight hw hm hq, ob_s, hm.2.2.2.2.2.1, Bool.true_and]
        by_cases q : sG σ * bsum (stN σ a) (pc1 σ A) < wt σ (pc1 σ A)
        · rw [if_neg (fun r => (grip_t hw hq ha).mp r q), decide_eq_true q, show b1n true = 1 from rfl, show nI c + 1 = nI (c + 1) from nI_add c 1, ← Nat.add_assoc]
          exact i0 (c + 1)
        · rw [if_pos ((grip_t hw hq ha).mpr q), decide_eq_false q, show b1n false = 0 from rfl, Nat.zero_add, show nI c + 0 = nI c from nI_add c 0]
          exact i0 c
def outP (P : Int64) (x : Nat) : Int64 := P &&& (ls_ 1 (nI x) ^^^ (-1))
def wkN (σ : Sg) (P : Int64) (x : Nat) : Nat := if flo σ P = true then 0 else wkc σ x 40 (outP P x)
theorem pc1_0 (σ : Sg) : pc1 σ 0 = 0 := by
  unfold pc1 rch
  rw [show (0 : Int64) &&& -0 = 0 by decide, rgo_0]
theorem f_weakAt {σ : Sg} {h : Hp} (hw : Wf σ) (hm : RepM σ h) (hl : Lk σ h) {P : Int64} (hP : bl P (sN σ)) {a : Nat} (ha : a < sN σ) : F_X7_weakAt P (nI a) h = some (if pc1 σ (outP P a) = outP P a then -1 else nI (wkN σ P a)) := by
  have h40 := hw.1
  have hy : bl (outP P a) (sN σ) := bl_and hP
  unfold F_X7_weakAt
  rw [bd_e]
  show (if outP P a = 0 then _ else _) = _
  by_cases h0 : outP P a = 0
  · rw [if_pos h0, h0, if_pos (pc1_0 σ)]
  · rw [if_neg h0]
    show ((F_X7_pieceIn (outP P a) h).bind _) = _
    rw [f_pieceIn hw hl hy, ob_s]
    show (if pc1 σ (outP P a) = outP P a then _ else _) = _
    by_cases h1 : pc1 σ (outP P a) = outP P a
    · rw [if_pos h1, if_pos h1]
    · rw [if_neg h1, if_neg h1, M_floats hw hm hP, ob_s]
      unfold wkN
      cases hf : flo σ P with
      | false =>
        have := M_loop42 hw hm hl ha 40 FU_ 0 (outP P a) hy (pcL_le (by decide) (bl_mono hy h40)) (by unfold FU_; omega)
        rw [Nat.zero_add] at this
        rw [if_neg (by decide)]; exact this
      | true =>
        rw [if_pos rfl]
        show F_X7_weakAt_42 (99999 + 1) _ _ _ _ _ = _
        rw [F_X7_weakAt_42]
        show (if outP P a = 0 then _ else _) = _
        rw [if_neg h0, if_neg b1_]; rfl
theorem C_loop64 {σ : Sg} {h : Hp} (hw : Wf σ) (hc : RepC σ h) {a : Nat} (ha : a < sN σ) : ∀ p n c i A, (∀ b, tb A b = true → sTh σ b = true) → p + i = 40 → p < n → F_X4_countWeak_64 n (nI a) A (nI c) (nI i) h = some (nI (c + wkc σ a p A)) := by
  have h40 := hw.1
  intro p
  induction p with
  | zero =>
    intro n c i A hA hp hn
    obtain ⟨n, rfl⟩ : ∃ k, n = k + 1 := ⟨n - 1, by omega⟩
    rw [F_X4_countWeak_64, if_pos (show (40 : Int32) ≤ nI i from (nI_le (by omega) (by omega) : nI 40 ≤ nI i))]; rfl
  | succ p ih =>
    intro n c i A hA hp hn
    obtain ⟨n, rfl⟩ : ∃ k, n = k + 1 := ⟨n - 1, by omega⟩
    have hAN : bl A (sN σ) := bl_sub (bl_th hw) (fun b q => by rw [tb_thI hw]; exact hA b q)
    rw [F_X4_countWeak_64, if_neg (show ¬ (40 : Int32) ≤ nI i from (nI_ge (by omega) (by decide) : ¬ nI 40 ≤ nI i)), wkc]
    by_cases h0 : A = 0
    · rw [if_pos h0, if_pos h0]; rfl
    · have hq := bl_pc1 hw hAN h40
      have hqs : ∀ b, tb (pc1 σ A) b = true → sTh σ b = true := fun b q => hA b (pc1_sub hw (bl_mono hAN h40) q)
      have i0 := fun c => ih n c (i + 1) (cutP σ A) (fun b q => hA b (by unfold cutP at q; rw [tb_and, Bool.and_eq_true] at q; exact q.1)) (by omega) (by omega)
      rw [if_neg h0, if_neg h0, f_reach hw hc, ob_s, bd_e]
      unfold F_X4_countWeak_136
      rw [show nI i + 1 = nI (i + 1) from nI_add i 1]
      show ((F_X4_floats (pc1 σ A) h).bind _) = _
      rw [C_floats hw hc hqs, ob_s]
      unfold badP
      cases hf : flo σ (pc1 σ A) with
      | false => rw [if_pos b0_, Bool.false_and, show b1n false = 0 from rfl, Nat.zero_add]; exact i0 c
      | true =>
        rw [if_neg b1_]
        show ((F_X4_weight (pc1 σ A) h).bind _) = _
        rw [C_weight hw hc hq, ob_s]
        show ((F_X4_studsBetween (nI a) (pc1 σ A) h).bind _) = _
        rw [C_between hw hc hq ha, ob_s, hc.2.2.2.2.2.1, Bool.true_and]
        by_cases q : sG σ * bsum (stN σ a) (pc1 σ A) < wt σ (pc1 σ A)
        · rw [if_neg (fun r => (grip_t hw hq ha).mp r q), decide_eq_true q, show b1n true = 1 from rfl, show nI c + 1 = nI (c + 1) from nI_add c 1, ← Nat.add_assoc]
          exact i0 (c + 1)
        · rw [if_pos ((grip_t hw hq ha).mpr q), decide_eq_false q, show b1n false = 0 from rfl, Nat.zero_add]
          exact i0 c
theorem f_countWeak {σ : Sg} {h : Hp} (hw : Wf σ) (hc : RepC σ h) {P : Int64} (hP : ∀ b, tb P b = true → sTh σ b = true) (hcon : ∀ a c, tb P a = true → tb P c = true → Cx (nbr σ) P a c) {a : Nat} (ha : a < sN σ) : F_X4_countWeak (nI a) P h = some (nI (if pc1 σ (outP P a) = outP P a then 0 else wkN σ P a)) := by
  have h40 := hw.1
  have hPN : bl P (sN σ) := bl_sub (bl_th hw) (fun b q => by rw [tb_thI hw]; exact hP b q)
  unfold F_X4_countWeak
  rw [C_floats hw hc hP, ob_s]
  unfold wkN
  cases hf : flo σ P with
  | true =>
    rw [if_neg b1_, if_pos rfl]
    split <;> rfl
  | false =>
    rw [if_pos b0_, f_neigh hw hc (by omega), ob_s, f_bitCount, ob_s, if_neg (show ¬ false = true by decide)]
    have h64 : pcL (nbI σ a &&& P) ≤ 64 := pcL_le (Nat.le_refl _) (fun i hi => tb_big hi)
    by_cases q : 2 ≤ pcL (nbI σ a &&& P)
    · rw [if_pos (show (2 : Int32) ≤ _ from (nI_le q (by omega) : nI 2 ≤ _)), bd_e, f_reach hw hc, ob_s]
      show (if pc1 σ (outP P a) = outP P a then _ else _) = _
      by_cases h1 : pc1 σ (outP P a) = outP P a
      · rw [if_pos h1, if_pos h1]; rfl
      · rw [if_neg h1, if_neg h1]
        have := C_loop64 hw hc ha 40 FU_ 0 0 (outP P a) (fun b q => hP b (by unfold outP at q; rw [tb_and, Bool.and_eq_true] at q; exact q.1)) (by omega) (by unfold FU_; omega)
        rw [Nat.zero_add] at this
        exact this
    · rw [if_neg (show ¬ (2 : Int32) ≤ _ from (nI_ge (by omega) (by decide) : ¬ nI 2 ≤ _)), if_pos (show pc1 σ (outP P a) = outP P a from leaf hw (bl_mono hPN h40) (x := a) (by omega) hcon (by omega))]; rfl
theorem pcN_con {σ : Sg} (hw : Wf σ) (i : Nat) : ∀ a c, tb (pcN σ i) a = true → tb (pcN σ i) c = true → Cx (nbr σ) (pcN σ i) a c := fun a c h1 h2 => by
  have := (pcN_cx hw h1 c).mp h2
  exact (this (fun d => Cx (nbr σ) (thI σ) a d ∧ Cx (nbr σ) (pcN σ i) a d) ⟨Cx.refl _ _ _, Cx.refl _ _ _⟩ (fun d e ⟨q0, q1⟩ q2 q3 => ⟨q0.step q2 q3, q1.step q2 ((pcN_cx hw h1 e).mpr (q0.step q2 q3))⟩)).2
theorem pcN_th {σ : Sg} (hw : Wf σ) (i : Nat) : ∀ b, tb (pcN σ i) b = true → sTh σ b = true := fun b h => by
  rw [← tb_thI hw]
  exact rst_th _ i (pc1_sub hw (bl_rst (bl_th' hw) i) h)
