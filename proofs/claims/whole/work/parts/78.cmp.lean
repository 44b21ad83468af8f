/-! ===== sound sets, component by component ===== -/
def cmp (σ : Sg) (A : Int64) (b : Nat) : Int64 := rch σ A (ls_ 1 (nI b) &&& A)
theorem bl_lt {x : Int64} {m b : Nat} (h : bl x m) (hb : tb x b = true) : b < m := by
  rcases Nat.lt_or_ge b m with q | q
  · exact q
  · rw [h b q] at hb; cases hb
theorem bit_in {A : Int64} (hA : bl A 40) {b : Nat} (hb : tb A b = true) (j : Nat) : tb (ls_ 1 (nI b) &&& A) j = true ↔ j = b := by
  have h40 := bl_lt hA hb
  rw [tb_and, Bool.and_eq_true]
  constructor
  · intro ⟨q1, q2⟩
    have := bl_lt hA q2
    rw [tb_bit (by omega) (by omega), decide_eq_true_iff] at q1
    exact q1
  · intro e
    subst e
    rw [tb_bit (by omega) (by omega), decide_eq_true_iff]
    exact ⟨rfl, hb⟩
theorem cmp_b {σ : Sg} (hw : Wf σ) {A : Int64} (hA : bl A 40) {b : Nat} (hb : tb A b = true) (d : Nat) : tb (cmp σ A b) d = true ↔ Cx (nbr σ) A b d :=
  (rch_b hw hA (fun j q => by rw [(bit_in hA hb j).mp q]; exact hb) d).trans (Cn_Cx (bit_in hA hb) d)
theorem cmp_sub {σ : Sg} (hw : Wf σ) {A : Int64} (hA : bl A 40) {b : Nat} (hb : tb A b = true) {d : Nat} (h : tb (cmp σ A b) d = true) : tb A d = true := ((cmp_b hw hA hb d).mp h).sub hb
theorem cmp_eq {σ : Sg} (hw : Wf σ) {A : Int64} (hA : bl A 40) {b c : Nat} (hb : tb A b = true) (h : Cx (nbr σ) A b c) : cmp σ A c = cmp σ A b := by
  have hc := h.sub hb
  refine tb_ext (fun i _ => bool_of ?_)
  rw [cmp_b hw hA hb, cmp_b hw hA hc]
  exact ⟨fun q => h.trans q, fun q => (Cx.symm (nbr_c σ) hb h).trans q⟩
theorem cmp_con {σ : Sg} (hw : Wf σ) {A : Int64} (hA : bl A 40) {b : Nat} (hb : tb A b = true) : ∀ a c, tb (cmp σ A b) a = true → tb (cmp σ A b) c = true → Cx (nbr σ) (cmp σ A b) a c := fun a c h1 h2 => by
  have c1 := (cmp_b hw hA hb a).mp h1
  have c2 := (cmp_b hw hA hb c).mp h2
  have c3 : Cx (nbr σ) A a c := (Cx.symm (nbr_c σ) hb c1).trans c2
  exact (c3 (fun d => Cx (nbr σ) A b d ∧ Cx (nbr σ) (cmp σ A b) a d) ⟨c1, Cx.refl _ _ _⟩ (fun d e ⟨q0, q1⟩ q2 q3 => ⟨q0.step q2 q3, q1.step q2 ((cmp_b hw hA hb e).mpr (q0.step q2 q3))⟩)).2
theorem tb_cut {σ : Sg} {A : Int64} (b : Nat) : tb (cutP σ A) b = (tb A b && !tb (pc1 σ A) b) := tb_min b
theorem pc1_cmp {σ : Sg} (hw : Wf σ) {A : Int64} (hA : bl A 40) {l : Nat} (hl : lw A l) : pc1 σ A = cmp σ A l := by
  refine tb_ext (fun i _ => bool_of ?_)
  rw [pc1_b hw hA hl, cmp_b hw hA hl.2.1]
theorem cmp_cut {σ : Sg} (hw : Wf σ) {A : Int64} (hA : bl A 40) {b : Nat} (hb : tb (cutP σ A) b = true) : cmp σ (cutP σ A) b = cmp σ A b := by
  have hbA : tb A b = true := by rw [tb_cut, Bool.and_eq_true] at hb; exact hb.1
  have hnz : ¬ A = 0 := fun q => by rw [q, tb_0] at hbA; cases hbA
  obtain ⟨l, hl⟩ := lw_ex hnz
  refine tb_ext (fun i _ => bool_of ?_)
  rw [cmp_b hw (bl_cut hA) hb, cmp_b hw hA hbA]
  constructor
  · exact fun q => q.mono (fun d w => by rw [tb_cut, Bool.and_eq_true] at w; exact w.1)
  · intro q
    exact (q (fun d => tb (cutP σ A) d = true ∧ Cx (nbr σ) (cutP σ A) b d) ⟨hb, Cx.refl _ _ _⟩ (fun d e ⟨q0, q1⟩ q2 q3 => by
      have he : tb (cutP σ A) e = true := by
        rw [tb_cut, q3]
        cases w : tb (pc1 σ A) e with
        | false => rfl
        | true =>
          have w2 := (pc1_b hw hA hl e).mp w
          have hd : tb A d = true := by rw [tb_cut, Bool.and_eq_true] at q0; exact q0.1
          have w3 := (pc1_b hw hA hl d).mpr (w2.step (by rw [nbr_c]; exact q2) hd)
          rw [tb_cut, w3, Bool.and_eq_true] at q0
          cases q0.2
      exact ⟨he, q1.step q2 he⟩)).2
theorem sdA_c {σ : Sg} (hw : Wf σ) : ∀ p A, bl A 40 → pcL A ≤ p → (sdA σ p A = true ↔ ∀ b, tb A b = true → spB σ (cmp σ A b) = true) := by
  intro p
  induction p with
  | zero =>
    intro A hA hp
    have e := pcL_z (show pcL A = 0 by omega)
    subst e
    exact ⟨fun _ b hb => (by rw [tb_0] at hb; cases hb), fun _ => rfl⟩
  | succ p ih =>
    intro A hA hp
    rw [sdA]
    by_cases q : A = 0
    · subst q
      rw [if_pos rfl]
      exact ⟨fun _ b hb => (by rw [tb_0] at hb; cases hb), fun _ => rfl⟩
    · have hlt := cut_lt hw hA q
      obtain ⟨l, hl⟩ := lw_ex q
      rw [if_neg q, Bool.and_eq_true, ih (cutP σ A) (bl_cut hA) (by omega), pc1_cmp hw hA hl]
      constructor
      · intro ⟨h1, h2⟩ b hb
        cases w : tb (pc1 σ A) b with
        | true =>
          rw [cmp_eq hw hA hl.2.1 ((pc1_b hw hA hl b).mp w)]; exact h1
        | false =>
          have hc : tb (cutP σ A) b = true := by rw [tb_cut, hb, w]; rfl
          rw [← cmp_cut hw hA hc]; exact h2 b hc
      · intro h
        refine ⟨h l hl.2.1, fun b hb => ?_⟩
        rw [cmp_cut hw hA hb]
        exact h b (by rw [tb_cut, Bool.and_eq_true] at hb; exact hb.1)
theorem sd_step {σ : Sg} (hw : Wf σ) {A B : Int64} (hB : bl B 40) {c : Nat} (hc : tb B c = true) (hAB : ∀ b, tb A b = (tb B b && !decide (b = c))) (hs : sdA σ 40 A = true) : sdA σ 40 B = spB σ (cmp σ B c) := by
  have hA : bl A 40 := bl_sub hB (fun b q => by rw [hAB, Bool.and_eq_true] at q; exact q.1)
  have sA := (sdA_c hw 40 A hA (pcL_le (by decide) hA)).mp hs
  refine bool_of ((sdA_c hw 40 B hB (pcL_le (by decide) hB)).trans ⟨fun h => h c hc, fun h b hb => ?_⟩)
  rcases Classical.em (Cx (nbr σ) B b c) with q | q
  · rw [← cmp_eq hw hB hb q]; exact h
  · have hbc : b ≠ c := fun e => q (by rw [e]; exact Cx.refl _ _ _)
    have hbA : tb A b = true := by rw [hAB, hb]; simp [hbc]
    have e : cmp σ B b = cmp σ A b := by
      refine tb_ext (fun i _ => bool_of ?_)
      rw [cmp_b hw hB hb, cmp_b hw hA hbA]
      constructor
      · intro w
        exact (w (fun d => Cx (nbr σ) B b d ∧ Cx (nbr σ) A b d) ⟨Cx.refl _ _ _, Cx.refl _ _ _⟩ (fun d e ⟨q0, q1⟩ q2 q3 => by
          have qe := q0.step q2 q3
          have hec : e ≠ c := fun u => q (by rw [← u]; exact qe)
          exact ⟨qe, q1.step q2 (by rw [hAB, q3]; simp [hec])⟩)).2
      · exact fun w => w.mono (fun d u => by rw [hAB, Bool.and_eq_true] at u; exact u.1)
    rw [e]; exact sA b hbA
