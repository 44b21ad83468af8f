/-! ===== what stands ===== -/
theorem mn_i (a b : Int32) : (mn_ a b).toInt = min a.toInt b.toInt := by
  unfold mn_
  by_cases q : b < a
  · rw [if_pos q]; rw [i_ltT] at q; omega
  · rw [if_neg q]; rw [i_ltT] at q; omega
theorem mx_i (a b : Int32) : (mx_ a b).toInt = max a.toInt b.toInt := by
  unfold mx_
  by_cases q : a < b
  · rw [if_pos q]; rw [i_ltT] at q; omega
  · rw [if_neg q]; rw [i_ltT] at q; omega
theorem nI_i {n : Nat} (h : n ≤ 1000000000) : (nI n).toInt = n := by rw [zI_n, zI_i (by omega)]
theorem eB {σ : Sg} (hw : Wf σ) (P : Int64) (r : Nat) : ∀ b, b ≤ sN σ → (0 ≤ (eL σ P b r).toInt ∧ (eL σ P b r).toInt ≤ 7) ∧ (-1 ≤ (eR σ P b r).toInt ∧ (eR σ P b r).toInt ≤ 6) ∧ (0 ≤ (eR σ P b r).toInt → (eL σ P b r).toInt < (eR σ P b r).toInt) ∧ (0 ≤ (eR σ P b r).toInt ↔ ∃ c, c < b ∧ onE σ P c r = true)
  | 0, _ => by
    have e1 : (eL σ P 0 r).toInt = 7 := by rw [eL]; decide
    have e2 : (eR σ P 0 r).toInt = -1 := by rw [eR]; decide
    rw [e1, e2]
    exact ⟨by omega, by omega, by omega, ⟨fun q => by omega, fun ⟨c, hc, _⟩ => by omega⟩⟩
  | b + 1, hb => by
    obtain ⟨⟨a1, a2⟩, ⟨b1, b2⟩, c1, c2⟩ := eB hw P r b (by omega)
    obtain ⟨hk, -, hx, -⟩ := hw.2.2.1 b (by omega)
    have hl := lX_le (t := sT σ b) hk
    have hx' : sX σ b + lX (sK σ b) (sT σ b) ≤ 6 := hx
    by_cases q : onE σ P b r = true
    · have e1 : (eL σ P (b + 1) r).toInt = min (eL σ P b r).toInt (sX σ b : Nat) := by rw [eL, if_pos q, mn_i, nI_i (by omega)]
      have e2 : (eR σ P (b + 1) r).toInt = max (eR σ P b r).toInt (sX σ b + lX (sK σ b) (sT σ b) : Nat) := by rw [eR, if_pos q, mx_i, nI_i (by omega)]
      rw [e1, e2]
      refine ⟨by omega, by omega, fun _ => by omega, ⟨fun _ => ⟨b, by omega, q⟩, fun _ => by omega⟩⟩
    · have e1 : eL σ P (b + 1) r = eL σ P b r := by rw [eL, if_neg q]
      have e2 : eR σ P (b + 1) r = eR σ P b r := by rw [eR, if_neg q]
      rw [e1, e2]
      refine ⟨⟨a1, a2⟩, ⟨b1, b2⟩, c1, c2.trans ⟨fun ⟨c, hc, w⟩ => ⟨c, by omega, w⟩, fun ⟨c, hc, w⟩ => ⟨c, ?_, w⟩⟩⟩
      rcases Nat.lt_or_ge c b with u | u
      · exact u
      · have : c = b := by omega
        subst this; exact absurd w q
def elZ (σ : Sg) (P : Int64) (r : Nat) : Int := (eL σ P (sN σ) r).toInt
def erZ (σ : Sg) (P : Int64) (r : Nat) : Int := (eR σ P (sN σ) r).toInt
def onZ (σ : Sg) (P : Int64) (r : Nat) : Prop := r < 7 ∧ 0 ≤ erZ σ P r
noncomputable def stdB (σ : Sg) (P : Int64) : Bool := @decide (flo σ P = false ∧ Ref (elZ σ P) (erZ σ P) (onZ σ P) (mS (mX σ) P (sN σ) : Nat) (mS (mY σ) P (sN σ) : Nat) (2 * wt σ P : Nat)) (Classical.propDecidable _)
theorem stdB_t (σ : Sg) (P : Int64) : stdB σ P = true ↔ (flo σ P = false ∧ Ref (elZ σ P) (erZ σ P) (onZ σ P) (mS (mX σ) P (sN σ) : Nat) (mS (mY σ) P (sN σ) : Nat) (2 * wt σ P : Nat)) := by
  unfold stdB
  exact @decide_eq_true_iff _ (Classical.propDecidable _)
theorem bool_of {v : Bool} {w : Bool} (h : v = true ↔ w = true) : v = w := by
  cases v <;> cases w
  · rfl
  · exact absurd (h.mpr rfl) (by decide)
  · exact absurd (h.mp rfl) (by decide)
  · rfl
theorem el_ab {σ : Sg} (hw : Wf σ) (P : Int64) (r : Nat) (_ : r < 7) : (elZ σ P r).natAbs ≤ 7 := by
  have := eB hw P r (sN σ) (Nat.le_refl _); unfold elZ; omega
theorem er_ab {σ : Sg} (hw : Wf σ) (P : Int64) (r : Nat) (_ : r < 7) : (erZ σ P r).natAbs ≤ 7 := by
  have := eB hw P r (sN σ) (Nat.le_refl _); unfold erZ; omega
theorem onE_t {σ : Sg} {P : Int64} {b r : Nat} : onE σ P b r = true ↔ (tb P b = true ∧ sZ σ b = 0 ∧ (r = sY σ b ∨ r = sY σ b + sLy σ b)) := by
  unfold onE
  rw [Bool.and_eq_true, Bool.and_eq_true, Bool.or_eq_true, decide_eq_true_iff, decide_eq_true_iff, decide_eq_true_iff]
theorem flo_f {σ : Sg} {P : Int64} (hP : bl P 40) (h : flo σ P = false) : ∃ b, tb P b = true ∧ sZ σ b = 0 := by
  rcases Classical.em (∃ b, tb P b = true ∧ sZ σ b = 0) with q | q
  · exact q
  · have := (flo_t hP).mpr (fun i hi hz => q ⟨i, hi, hz⟩)
    rw [h] at this; cases this
theorem two_on {σ : Sg} (hw : Wf σ) {P : Int64} (hP : bl P (sN σ)) (h : flo σ P = false) : ∃ r s, onZ σ P r ∧ onZ σ P s ∧ r < s := by
  obtain ⟨b, hb, hz⟩ := flo_f (bl_mono hP hw.1) h
  have hbN : b < sN σ := by
    rcases Nat.lt_or_ge b (sN σ) with u | u
    · exact u
    · rw [hP b u] at hb; cases hb
  obtain ⟨hk, -, -, hy, -⟩ := hw.2.2.1 b hbN
  have hl := lY_le (t := sT σ b) hk
  have hy' : sY σ b + lY (sK σ b) (sT σ b) ≤ 6 := hy
  refine ⟨sY σ b, sY σ b + lY (sK σ b) (sT σ b), ⟨by omega, ?_⟩, ⟨by omega, ?_⟩, by omega⟩
  · exact (eB hw P _ (sN σ) (Nat.le_refl _)).2.2.2.mpr ⟨b, hbN, onE_t.mpr ⟨hb, hz, Or.inl rfl⟩⟩
  · exact (eB hw P _ (sN σ) (Nat.le_refl _)).2.2.2.mpr ⟨b, hbN, onE_t.mpr ⟨hb, hz, Or.inr rfl⟩⟩
theorem on_flo {σ : Sg} (hw : Wf σ) {P : Int64} (hP : bl P (sN σ)) {r : Nat} (h : onZ σ P r) : flo σ P = false := by
  obtain ⟨c, hc, q⟩ := (eB hw P r (sN σ) (Nat.le_refl _)).2.2.2.mp h.2
  have q := onE_t.mp q
  cases hf : flo σ P with
  | false => rfl
  | true => exact absurd q.2.1 ((flo_t (bl_mono hP hw.1)).mp hf c q.1)
theorem mS_le {σ : Sg} (hw : Wf σ) (P : Int64) : mS (mX σ) P (sN σ) ≤ 10000 ∧ mS (mY σ) P (sN σ) ≤ 10000 := by
  have h40 := hw.1
  have e : ∀ f : Nat → Nat, (∀ b, b < sN σ → f b ≤ 192) → mS f P (sN σ) ≤ 10000 := fun f hf => by
    have h1 : mS f P (sN σ) ≤ sumN (fun _ => 192) (sN σ) := sumN_mono _ (fun i hi => by
      show (if tb P i = true then f i else 0) ≤ 192
      split
      · exact hf i hi
      · omega)
    have h2 := sumN_le (f := fun _ => 192) (c := 192) (fun _ => Nat.le_refl _) (sN σ)
    omega
  refine ⟨e _ (fun b hb => ?_), e _ (fun b hb => ?_)⟩
  · obtain ⟨hk, -, hx, -⟩ := hw.2.2.1 b hb
    have a1 := lX_le (t := sT σ b) hk
    have a2 := lY_le (t := sT σ b) hk
    have hx' : sX σ b + lX (sK σ b) (sT σ b) ≤ 6 := hx
    exact (Nat.mul_le_mul (Nat.mul_le_mul a1.2 a2.2) (show sX σ b + (sX σ b + lX (sK σ b) (sT σ b)) ≤ 12 by omega) : mX σ b ≤ 4 * 4 * 12)
  · obtain ⟨hk, -, -, hx, -⟩ := hw.2.2.1 b hb
    have a1 := lX_le (t := sT σ b) hk
    have a2 := lY_le (t := sT σ b) hk
    have hx' : sY σ b + lY (sK σ b) (sT σ b) ≤ 6 := hx
    exact (Nat.mul_le_mul (Nat.mul_le_mul a1.2 a2.2) (show sY σ b + (sY σ b + lY (sK σ b) (sT σ b)) ≤ 12 by omega) : mY σ b ≤ 4 * 4 * 12)
theorem wt_pos {σ : Sg} (hw : Wf σ) {P : Int64} (hP : bl P (sN σ)) (h : ¬ P = 0) : 0 < wt σ P := by
  obtain ⟨b, hb⟩ := lw_ex h
  have hbN := lw_lt hb hP
  obtain ⟨hk, -⟩ := hw.2.2.1 b hbN
  have a1 := lX_le (t := sT σ b) hk
  have a2 := lY_le (t := sT σ b) hk
  have := Nat.mul_le_mul a1.1 a2.1
  unfold wt
  rw [bsum_pop hb]
  have e : 1 ≤ sLx σ b * sLy σ b := this
  omega
theorem C_stands {σ : Sg} {h : Hp} (hw : Wf σ) (hc : RepC σ h) {P : Int64} (hP : ∀ b, tb P b = true → sTh σ b = true) : ∃ h1, F_X4_stands P h = some (bi_ (stdB σ P), h1) ∧ Sm [] [] [31, 32] [] h h1 := by
  have hPN : bl P (sN σ) := bl_sub (bl_th hw) (fun b q => by rw [tb_thI hw]; exact hP b q)
  have key : ∃ h1, F_X4_stands P h = some (bi_ (stdB σ P), h1) := by
    cases hf : flo σ P with
    | true =>
      refine ⟨h, ?_⟩
      rw [C_standsF hw hc hP hf]
      have : stdB σ P = false := by
        cases q : stdB σ P with
        | false => rfl
        | true => rw [stdB_t, hf] at q; cases q.1
      rw [this]; rfl
    | false =>
      obtain ⟨h1, e, a, b⟩ := C_standsE hw hc hP hf
      obtain ⟨m1, m2⟩ := mS_le hw P
      have hwt := wt_le hw hPN
      obtain ⟨v, ev, iv⟩ := C_ie (h := h1) (el := elZ σ P) (er := erZ σ P) (fun r hr => by rw [a r hr]; exact zI_t _) (fun r hr => by rw [b r hr]; exact zI_t _) (el_ab hw P) (er_ab hw P) m1 m2 (show 2 * wt σ P ≤ 3000 by omega)
      refine ⟨h1, ?_⟩
      rw [e, ev, ob_s, bz_bi]
      have hnz : ¬ P = 0 := fun q => by
        obtain ⟨b, hb, -⟩ := flo_f (bl_mono hPN hw.1) hf
        rw [q, tb_0] at hb; cases hb
      have hwp := wt_pos hw hPN hnz
      have : v = stdB σ P := bool_of (iv.trans (by
        rw [stdB_t]
        have g := geo (L := elZ σ P) (R := erZ σ P) (on := onZ σ P) (X := (mS (mX σ) P (sN σ) : Nat)) (Y := (mS (mY σ) P (sN σ) : Nat)) (p := (2 * wt σ P : Nat)) (by omega) (fun r hr => hr.1) (fun r hr => (eB hw P r (sN σ) (Nat.le_refl _)).2.2.1 hr.2) (two_on hw hPN hf)
        exact ⟨fun u => ⟨hf, g.mpr u⟩, fun u => g.mp u.2⟩))
      rw [this]
  obtain ⟨h1, e⟩ := key
  exact ⟨h1, e, w_X4_stands _ _ _ _ e⟩
theorem M_stands {σ : Sg} {h : Hp} (hw : Wf σ) (hm : RepM σ h) {P : Int64} (hP : bl P (sN σ)) : ∃ h1, F_X7_stands P h = some (bi_ (stdB σ P), h1) ∧ Sm [] [] [49, 50, 51, 52] [] h h1 := by
  have key : ∃ h1, F_X7_stands P h = some (bi_ (stdB σ P), h1) := by
    obtain ⟨h1, e, s, a, b⟩ := M_standsE hw hm hP
    obtain ⟨m1, m2⟩ := mS_le hw P
    have hwt := wt_le hw hP
    obtain ⟨m, h2, e2, s2, J1, J2, J3⟩ := M_st251 (el := elZ σ P) (er := erZ σ P) (er_ab hw P) F_X7_stands_330 P (lI (mS (mX σ) P (sN σ))) (lI (mS (mY σ) P (sN σ))) 7 FU_ 0 0 h1 (by omega) (by unfold FU_; omega) (fun r hr => by rw [a r hr]; exact zI_t _) (fun r hr => by rw [b r hr]; exact zI_t _) ⟨by omega, fun i hi => by omega, fun s hs => by omega⟩
    refine ⟨h2, ?_⟩
    rw [e, F_X7_stands_245]
    refine e2.trans ?_
    have hm2 : RepM σ h2 := (hm.sm s (by decide)).sm s2 (by decide)
    have ci : ∀ i, i < m → ∃ s, onZ σ P s ∧ (gA_ h2 52 i).toInt = s ∧ ((gA_ h2 51 i).toInt = elZ σ P s ∨ (gA_ h2 51 i).toInt = erZ σ P s) := fun i hi => by
      obtain ⟨s, s1, s2, s3, s4⟩ := J2 i hi
      have q1 := el_ab hw P s s1
      have q2 := er_ab hw P s s1
      refine ⟨s, ⟨s1, s2⟩, by rw [s3, nI_i (by omega)], ?_⟩
      rcases s4 with u | u
      · left; rw [u, zI_i (by omega)]
      · right; rw [u, zI_i (by omega)]
    have bx : ∀ i, i < m → ((gA_ h2 51 i).toInt).natAbs ≤ 7 := fun i hi => by
      obtain ⟨s, s1, s2, s3⟩ := ci i hi
      have q1 := el_ab hw P s s1.1
      have q2 := er_ab hw P s s1.1
      rcases s3 with u | u <;> omega
    have by7 : ∀ i, i < m → ((gA_ h2 52 i).toInt).natAbs ≤ 7 := fun i hi => by
      obtain ⟨s, s1, s2, s3⟩ := ci i hi
      have := s1.1
      omega
    rw [F_X7_stands_330, M_weight hw hm2 hP, ob_s, bd_e, show (2 : Int64) * (nI (wt σ P)).toInt64 = lI (2 * wt σ P) from by rw [zI_n, zI_L (by omega), zL_2, zL_mul, zL_n]; rfl]
    obtain ⟨v, ev, iv⟩ := M_st345 (h := h2) (cx := fun i => (gA_ h2 51 i).toInt) (cy := fun i => (gA_ h2 52 i).toInt) (by omega) (fun i _ => zI_t _) (fun i _ => zI_t _) bx by7 m1 m2 (show 2 * wt σ P ≤ 3000 by omega)
    rw [ev]
    have cj : ∀ (x : Int) (y : Nat), Cor (elZ σ P) (erZ σ P) (onZ σ P) x y → ∃ i, i < m ∧ (gA_ h2 51 i).toInt = x ∧ (gA_ h2 52 i).toInt = y := fun x y ⟨c1, c2⟩ => by
      obtain ⟨⟨i, i1, i2, i3⟩, ⟨j, j1, j2, j3⟩⟩ := J3 y c1.1 c1.2
      have q1 := el_ab hw P y c1.1
      have q2 := er_ab hw P y c1.1
      have q3 := c1.1
      rcases c2 with u | u
      · exact ⟨i, i1, by rw [i3, zI_i (by omega), u], by rw [i2, nI_i (by omega)]⟩
      · exact ⟨j, j1, by rw [j3, zI_i (by omega), u], by rw [j2, nI_i (by omega)]⟩
    have : v = stdB σ P := bool_of (iv.trans (by
      rw [stdB_t]
      constructor
      · rintro ⟨hm0, hnb⟩
        obtain ⟨s0, hs0, -⟩ := ci 0 hm0
        refine ⟨on_flo hw hP hs0, fun ax ay bx' cy' ha hb hB => ?_⟩
        obtain ⟨i, i1, i2, i3⟩ := cj ax ay ha
        obtain ⟨j, j1, j2, j3⟩ := cj bx' cy' hb
        by_cases q : i = j
        · subst q
          have e1 : bx' = ax := by omega
          have e2 : (cy' : Int) = ay := by omega
          rw [e1, e2, Int.sub_self, Int.sub_self, Int.zero_mul, Int.zero_mul]
          exact Int.le_refl _
        · have hbor : Bor (fun i => (gA_ h2 51 i).toInt) (fun i => (gA_ h2 52 i).toInt) m i j := ⟨q, fun c hc => by
            obtain ⟨s, s1, s2, s3⟩ := ci c hc
            have w := hB (gA_ h2 51 c).toInt s ⟨s1, s3⟩
            unfold crX
            dsimp only
            rw [i2, i3, j2, j3, s2]
            exact w⟩
          have nb := hnb i i1 j j1
          rcases Int.lt_or_le (gX (fun i => (gA_ h2 51 i).toInt) (fun i => (gA_ h2 52 i).toInt) (mS (mX σ) P (sN σ) : Nat) (mS (mY σ) P (sN σ) : Nat) (2 * wt σ P : Nat) i j) 0 with w | w
          · exact absurd ⟨hbor, w⟩ nb
          · unfold gX at w
            dsimp only at w
            rw [i2, i3, j2, j3] at w
            exact w
      · rintro ⟨hf, hR⟩
        obtain ⟨r, s, hr, -, -⟩ := two_on hw hP hf
        obtain ⟨i, i1, -⟩ := cj (elZ σ P r) r ⟨hr, Or.inl rfl⟩
        refine ⟨by omega, fun a ha b hb hbad => ?_⟩
        obtain ⟨s, s1, s2, s3⟩ := ci a ha
        obtain ⟨t, t1, t2, t3⟩ := ci b hb
        have w := hR (gA_ h2 51 a).toInt s (gA_ h2 51 b).toInt t ⟨s1, s3⟩ ⟨t1, t3⟩ (fun x y hc => by
          obtain ⟨c, c1, c2, c3⟩ := cj x y hc
          have u := hbad.1.2 c c1
          unfold crX at u
          dsimp only at u
          rw [s2, t2, c2, c3] at u
          exact u)
        have u := hbad.2
        unfold gX at u
        dsimp only at u
        rw [s2, t2] at u
        exact absurd u (by omega)))
    rw [this]
  obtain ⟨h1, e⟩ := key
  exact ⟨h1, e, w_X7_stands _ _ _ _ e⟩
