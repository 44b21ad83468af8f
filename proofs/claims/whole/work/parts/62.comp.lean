/-! ===== components ===== -/
def Cx (nb : Nat → Nat → Bool) (A : Int64) (x b : Nat) : Prop := ∀ P : Nat → Prop, P x → (∀ a b, P a → nb a b = true → tb A b = true → P b) → P b
theorem Cx.refl (nb : Nat → Nat → Bool) (A : Int64) (x : Nat) : Cx nb A x x := fun _ h _ => h
theorem Cx.step {nb : Nat → Nat → Bool} {A : Int64} {x a b : Nat} (h : Cx nb A x a) (h1 : nb a b = true) (h2 : tb A b = true) : Cx nb A x b := fun P p1 p2 => p2 a b (h P p1 p2) h1 h2
theorem Cx.trans {nb : Nat → Nat → Bool} {A : Int64} {x y z : Nat} (h1 : Cx nb A x y) (h2 : Cx nb A y z) : Cx nb A x z := h2 (fun c => Cx nb A x c) h1 (fun _ _ q1 q2 q3 => q1.step q2 q3)
theorem Cx.sub {nb : Nat → Nat → Bool} {A : Int64} {x b : Nat} (hx : tb A x = true) (h : Cx nb A x b) : tb A b = true := h (fun c => tb A c = true) hx (fun _ _ _ _ q => q)
theorem Cx.symm {nb : Nat → Nat → Bool} (hs : ∀ a b, nb a b = nb b a) {A : Int64} {x b : Nat} (hx : tb A x = true) (h : Cx nb A x b) : Cx nb A b x :=
  (h (fun c => Cx nb A c x ∧ tb A c = true) ⟨Cx.refl _ _ _, hx⟩ (fun a c q1 q2 q3 => ⟨((Cx.refl nb A c).step (by rw [hs]; exact q2) q1.2).trans q1.1, q3⟩)).1
theorem Cx.mono {nb : Nat → Nat → Bool} {A B : Int64} (hAB : ∀ b, tb A b = true → tb B b = true) {x b : Nat} (h : Cx nb A x b) : Cx nb B x b := h (fun c => Cx nb B x c) (Cx.refl _ _ _) (fun _ c q1 q2 q3 => q1.step q2 (hAB c q3))
theorem Cn_Cx {nb : Nat → Nat → Bool} {A S : Int64} {x : Nat} (hS : ∀ j, tb S j = true ↔ j = x) (b : Nat) : Cn nb A S b ↔ Cx nb A x b := by
  constructor
  · intro h
    exact h (fun c => Cx nb A x c) (fun c q => by rw [(hS c).mp q]; exact Cx.refl _ _ _) (fun _ _ q1 q2 q3 => q1.step q2 q3)
  · intro h
    exact h (fun c => Cn nb A S c) (.base ((hS x).mpr rfl)) (fun _ _ q1 q2 q3 => Cn.step q1 q2 q3)
theorem low_one {A : Int64} {l : Nat} (hl : lw A l) (j : Nat) : tb (A &&& -A) j = true ↔ j = l := by
  rcases Nat.lt_or_ge j 64 with h | h
  · rw [tb_low hl h]; exact decide_eq_true_iff
  · rw [tb_big h]
    have := hl.1
    exact ⟨fun q => (by cases q), fun q => (by omega)⟩
theorem pc1_b {σ : Sg} (hw : Wf σ) {A : Int64} (hA : bl A 40) {l : Nat} (hl : lw A l) (c : Nat) : tb (pc1 σ A) c = true ↔ Cx (nbr σ) A l c :=
  (rch_b hw hA (low_sub A) c).trans (Cn_Cx (low_one hl) c)
theorem pc1_sub {σ : Sg} (hw : Wf σ) {A : Int64} (hA : bl A 40) {c : Nat} (h : tb (pc1 σ A) c = true) : tb A c = true :=
  Cn.sub (low_sub A) ((rch_b hw hA (low_sub A) c).mp h)
theorem rst_th {σ : Sg} (A : Int64) {c : Nat} : ∀ i, tb (rst σ A i) c = true → tb A c = true
  | 0, h => h
  | i + 1, h => by
    rw [rst] at h; unfold cutP at h
    rw [tb_and, Bool.and_eq_true] at h
    exact rst_th A i h.1
theorem rst_cl {σ : Sg} (hw : Wf σ) {A : Int64} (hA : bl A 40) {a c : Nat} (hn : nbr σ a c = true) (hc : tb A c = true) : ∀ i, tb (rst σ A i) a = true → tb (rst σ A i) c = true
  | 0, _ => hc
  | i + 1, h => by
    have hb := bl_rst (σ := σ) hA i
    rw [rst] at h ⊢
    unfold cutP at h ⊢
    rw [tb_min, Bool.and_eq_true] at h
    have ih := rst_cl hw hA hn hc i h.1
    rw [tb_min, ih, Bool.true_and]
    cases q : tb (pc1 σ (rst σ A i)) c with
    | false => rfl
    | true =>
      have h0 : ¬ rst σ A i = 0 := fun e => by rw [e, tb_0] at ih; cases ih
      obtain ⟨l, hl⟩ := lw_ex h0
      have q2 := (pc1_b hw hb hl c).mp q
      have q3 : tb (pc1 σ (rst σ A i)) a = true := (pc1_b hw hb hl a).mpr (q2.step (by rw [nbr_c]; exact hn) h.1)
      rw [q3] at h; cases h.2
theorem pcN_cx {σ : Sg} (hw : Wf σ) {b i : Nat} (hb : tb (pcN σ i) b = true) (c : Nat) : tb (pcN σ i) c = true ↔ Cx (nbr σ) (thI σ) b c := by
  have hA := bl_th' hw
  have hR := bl_rst (σ := σ) hA i
  have hbr := pc1_sub hw hR hb
  have h0 : ¬ rst σ (thI σ) i = 0 := fun e => by rw [e, tb_0] at hbr; cases hbr
  obtain ⟨l, hl⟩ := lw_ex h0
  have e := pc1_b hw hR hl
  constructor
  · intro h
    have q1 := (e b).mp hb
    have q2 := (e c).mp h
    have q3 := (q1.symm (nbr_c σ) hl.2.1).trans q2
    exact q3.mono (fun d hd => rst_th _ i hd)
  · intro h
    refine h (fun d => tb (pcN σ i) d = true) hb (fun a d q1 q2 q3 => ?_)
    have q4 := pc1_sub hw hR q1
    exact (e d).mpr (((e a).mp q1).step q2 (rst_cl hw hA q2 q3 i q4))
theorem bit_th {σ : Sg} (hw : Wf σ) {b : Nat} (hb : sTh σ b = true) (j : Nat) : tb (ls_ 1 (nI b) &&& thI σ) j = true ↔ j = b := by
  have h1 := hw.2.2.2.1 b hb
  have h40 := hw.1
  rcases Nat.lt_or_ge j 64 with h | h
  · rw [tb_and, tb_bit (by omega) h, tb_thI hw, Bool.and_eq_true, decide_eq_true_iff]
    exact ⟨fun q => q.1, fun q => ⟨q, by rw [q]; exact hb⟩⟩
  · rw [tb_big h]
    exact ⟨fun q => (by cases q), fun q => (by omega)⟩
theorem f_pieceWith {σ : Sg} {h : Hp} (hw : Wf σ) (hc : RepC σ h) {b i : Nat} (hb : sTh σ b = true) (hi : tb (pcN σ i) b = true) : F_X4_pieceWith (nI b) (thI σ) h = some (pcN σ i) := by
  unfold F_X4_pieceWith
  rw [f_reach hw hc, ob_s]
  congr 1
  have hs : ∀ j, tb (ls_ 1 (nI b) &&& thI σ) j = true → tb (thI σ) j = true := fun j q => by rw [tb_and, Bool.and_eq_true] at q; exact q.2
  refine tb_ext (fun c _ => ?_)
  have e : tb (rch σ (thI σ) (ls_ 1 (nI b) &&& thI σ)) c = true ↔ tb (pcN σ i) c = true := by
    rw [rch_b hw (bl_th' hw) hs, Cn_Cx (bit_th hw hb), pcN_cx hw hi]
  cases q : tb (pcN σ i) c with
  | true => exact e.mpr q
  | false => exact Bool.eq_false_iff.mpr (fun q2 => by have := e.mp q2; rw [q] at this; cases this)
/-! a leaf parts nothing -/
theorem sumN_mono {f g : Nat → Nat} : ∀ n, (∀ i, i < n → f i ≤ g i) → sumN f n ≤ sumN g n
  | 0, _ => Nat.le_refl _
  | n + 1, h => Nat.add_le_add (sumN_mono n (fun i hi => h i (by omega))) (h n (by omega))
theorem pcL_two {x : Int64} {a c : Nat} (ha : tb x a = true) (hc : tb x c = true) (hac : a ≠ c) : 2 ≤ pcL x := by
  have h1 : a < 64 := by
    rcases Nat.lt_or_ge a 64 with q | q
    · exact q
    · rw [tb_big q] at ha; cases ha
  have h2 : c < 64 := by
    rcases Nat.lt_or_ge c 64 with q | q
    · exact q
    · rw [tb_big q] at hc; cases hc
  have : sumN (fun i => b1n (decide (i = a)) + b1n (decide (i = c))) 64 ≤ pcL x := by
    refine sumN_mono 64 (fun i _ => ?_)
    by_cases q1 : i = a
    · subst q1; rw [ha, decide_eq_true (rfl : i = i), decide_eq_false hac]; decide
    · by_cases q2 : i = c
      · subst q2; rw [hc, decide_eq_false q1, decide_eq_true (rfl : i = i)]; decide
      · rw [decide_eq_false q1, decide_eq_false q2]; exact Nat.zero_le _
  rw [sumN_g, eq_cnt a h1, eq_cnt c h2] at this
  exact this
theorem leaf {σ : Sg} (hw : Wf σ) {P : Int64} (hP : bl P 40) {x : Nat} (hx : x < 64) (hcon : ∀ a c, tb P a = true → tb P c = true → Cx (nbr σ) P a c) (h2 : pcL (nbI σ x &&& P) < 2) : pc1 σ (P &&& (ls_ 1 (nI x) ^^^ (-1))) = P &&& (ls_ 1 (nI x) ^^^ (-1)) := by
  have hQ : bl (P &&& (ls_ 1 (nI x) ^^^ (-1))) 40 := bl_and hP
  have eQ : ∀ c, tb (P &&& (ls_ 1 (nI x) ^^^ (-1))) c = true ↔ tb P c = true ∧ c ≠ x := fun c => by
    rw [tb_clr hx, Bool.and_eq_true, Bool.not_eq_true', decide_eq_false_iff_not]
  refine tb_ext (fun c _ => ?_)
  cases q : tb (P &&& (ls_ 1 (nI x) ^^^ (-1))) c with
  | false => exact Bool.eq_false_iff.mpr (fun q2 => by have := pc1_sub hw hQ q2; rw [q] at this; cases this)
  | true =>
    have h0 : ¬ P &&& (ls_ 1 (nI x) ^^^ (-1)) = 0 := fun e => by rw [e, tb_0] at q; cases q
    obtain ⟨l, hl⟩ := lw_ex h0
    refine (pc1_b hw hQ hl c).mpr ?_
    have hlP := (eQ l).mp hl.2.1
    have hcP := (eQ c).mp q
    have := hcon l c hlP.1 hcP.1 (fun d => tb P d = true ∧ (d ≠ x → Cx (nbr σ) (P &&& (ls_ 1 (nI x) ^^^ (-1))) l d) ∧ (d = x → ∃ a, a ≠ x ∧ nbr σ x a = true ∧ tb P a = true ∧ Cx (nbr σ) (P &&& (ls_ 1 (nI x) ^^^ (-1))) l a)) ⟨hlP.1, fun _ => Cx.refl _ _ _, fun q => absurd q hlP.2⟩ (fun a d ⟨p0, p1, p2⟩ q1 q2 => ?_)
    · exact this.2.1 hcP.2
    · refine ⟨q2, fun hd => ?_, fun hd => ?_⟩
      · by_cases ha : a = x
        · obtain ⟨a', r1, r2, r3, r4⟩ := p2 ha
          by_cases e : a' = d
          · rw [← e]; exact r4
          · exfalso
            have t1 : tb (nbI σ x &&& P) a' = true := by rw [tb_and, tb_nbI hw, r2, r3]; rfl
            have t2 : tb (nbI σ x &&& P) d = true := by rw [tb_and, tb_nbI hw, q2, ← ha, q1]; rfl
            have := pcL_two t1 t2 e
            omega
        · exact (p1 ha).step q1 ((eQ d).mpr ⟨q2, hd⟩)
      · by_cases ha : a = x
        · exact p2 ha
        · exact ⟨a, ha, by rw [nbr_c, ← hd]; exact q1, p0, p1 ha⟩
