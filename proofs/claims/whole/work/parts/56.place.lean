/-! ===== add, place ===== -/
def PreC (σ : Sg) (k t x y z c : Nat) (h : Hp) : Prop := (∀ i, i < 180 → gA_ h 8 i = nI (sBo σ i)) ∧ (∀ i, i < 180 → gA_ h 21 i = gvC (sGr σ i)) ∧ gI_ h 138 = nI (sN σ + 1) ∧ (∀ b, b < sN σ + 1 → gA_ h 12 b = nI (sK (placeS σ k t x y z c) b) ∧ gA_ h 13 b = nI (sT (placeS σ k t x y z c) b) ∧ gA_ h 14 b = nI (sX (placeS σ k t x y z c) b) ∧ gA_ h 15 b = nI (sY (placeS σ k t x y z c) b) ∧ gA_ h 16 b = nI (sZ (placeS σ k t x y z c) b) ∧ gA_ h 17 b = nI (sC (placeS σ k t x y z c) b)) ∧ (∀ b, tb (gJ_ h 139) b = sTh (placeS σ k t x y z c) b) ∧ gI_ h 259 = nI (sG σ) ∧ (∀ k, k < 7 → gA_ h 9 k = nI (sBx σ k)) ∧ (∀ b, tb (gJ_ h 140) b = (sTh (placeS σ k t x y z c) b && decide (sZ (placeS σ k t x y z c) b = 0))) ∧ (∀ b, b < sN σ + 1 → ∀ s, tb (gL_ h 18 b) s = inR (sX (placeS σ k t x y z c) b) (sLx (placeS σ k t x y z c) b) (sY (placeS σ k t x y z c) b) (sLy (placeS σ k t x y z c) b) s) ∧ (∀ a, a < 40 → ∀ b, tb (gL_ h 19 a) b = nbr σ a b) ∧ (∀ z, z < 5 → ∀ s, tb (gL_ h 20 z) s = (decide (s < 36) && (sGr σ (36 * z + s)).isSome))
theorem f_add133 {σ : Sg} (hw : Wf σ) (h40 : sN σ < 40) {k t x y z c : Nat} (hk : k < 7) (ht : t < 2) (hx : x + lX k t ≤ 6) (hy : y + lY k t ≤ 6) (hz : z < 5) (hcc : 1 ≤ c ∧ c ≤ 5) {h : Hp} (hp : PreC σ k t x y z c h) : ∃ h1, F_X2_add_133 (nI z) (nI (sN σ)) h = some (nI (sN σ), h1) ∧ RepC (placeS σ k t x y z c) h1 := by
  have hw' := Wf_place hw h40 hk ht hx hy hz hcc
  obtain ⟨p1, p2, p3, p4, p5, p6, p7, p8, p9, p10, p11⟩ := hp
  obtain ⟨e1, e2, e3, e4, e5, e6⟩ := p4 (sN σ) (by omega)
  obtain ⟨n1, n2, n3, n4, n5, n6⟩ := pl_new σ k t x y z c
  rw [n1] at e1; rw [n2] at e2; rw [n3] at e3; rw [n4] at e4; rw [n5] at e5; rw [n6] at e6
  have e18 := p9 (sN σ) (by omega)
  unfold sLx sLy at e18
  rw [n1, n2, n3, n4] at e18
  unfold F_X2_add_133
  rw [rL_n _ 20 5 _ hz (by decide), rL_n _ 18 40 _ h40 (by decide), wL_n _ 20 5 _ _ hz (by decide)]
  rw [f_writeN (k := k) (t := t) (x := x) (y := y) (z := z) h40 hk ht hx hy hz (by exact e1) (by exact e2) (by exact e3) (by exact e4) (by exact e5), ob_s]
  rw [f_join (σ := placeS σ k t x y z c) (n := sN σ) hw' rfl (by rw [recW_I]; exact p3) (by rw [recW_o (by decide)]; exact fun b hb => (p4 b hb).2.2.2.2.1) (by rw [recW_L]; exact p9), ob_s]
  refine ⟨_, rfl, ?_⟩
  have g := jn_sm (placeS σ k t x y z c) (sN σ) (sN σ) (recW 21 (nI (sN σ) + 1) x y z (lX k t) (lY k t) (sL_ h 20 z (gL_ h 20 z ||| gL_ h 18 (sN σ))))
  refine ⟨fun i hi => ?_, fun i hi => ?_, ?_, fun b hb => ?_, fun b => ?_, ?_, fun k hk => ?_, fun b => ?_, fun b hb s => ?_, fun a ha b => ?_, fun z' hz' s => ?_⟩
  · rw [g.2.2.1 8 (by decide), recW_o (by decide)]; exact p1 i hi
  · rw [g.2.2.1 21 (by decide), recW_a hx hz hi _ _ hy]
    show (if _ then nI (sN σ) + 1 else gA_ h 21 i) = gvC (if inC6 x (lX k t) y (lY k t) z i = true then some (sN σ) else sGr σ i)
    rw [p2 i hi]
    by_cases q : inC6 x (lX k t) y (lY k t) z i = true
    · rw [if_pos q, if_pos q]; exact nI_add (sN σ) 1
    · rw [if_neg q, if_neg q]
  · rw [g.1 138 (by decide), recW_I]; exact p3
  · rw [g.2.2.1 12 (by decide), g.2.2.1 13 (by decide), g.2.2.1 14 (by decide), g.2.2.1 15 (by decide), g.2.2.1 16 (by decide), g.2.2.1 17 (by decide), recW_o (by decide), recW_o (by decide), recW_o (by decide), recW_o (by decide), recW_o (by decide), recW_o (by decide)]; exact p4 b hb
  · rw [g.2.1 139 (by decide), recW_J]; exact p5 b
  · rw [g.1 259 (by decide), recW_I]; exact p6
  · rw [g.2.2.1 9 (by decide), recW_o (by decide)]; exact p7 k hk
  · rw [g.2.1 140 (by decide), recW_J]; exact p8 b
  · rw [g.2.2.2 18 (by decide), recW_L]; exact p9 b hb s
  · rw [jn_b _ _ h40 _ _ _ (Nat.le_refl _), recW_L]
    show (tb (gL_ h 19 a) b || _) = _
    rw [p10 a ha b, nbr_place]
  · rw [g.2.2.2 20 (by decide), recW_L, gL_sL, if_pos rfl]
    show _ = (decide (s < 36) && (if inC6 x (lX k t) y (lY k t) z (36 * z' + s) = true then some (sN σ) else sGr σ (36 * z' + s)).isSome)
    rcases Nat.lt_or_ge s 36 with h36 | h36
    · rw [inC6_at h36, decide_eq_true h36]
      by_cases hzz : z' = z
      · subst hzz
        rw [vL_us, tb_or, p11 _ hz', e18 s, decide_eq_true h36, decide_eq_true rfl]
        cases inR x (lX k t) y (lY k t) s <;> cases sGr σ (36 * z' + s) <;> rfl
      · rw [vL_un hzz, p11 _ hz', decide_eq_false hzz, decide_eq_true h36]; rfl
    · rw [decide_eq_false (by omega : ¬ s < 36), Bool.false_and]
      by_cases hzz : z' = z
      · subst hzz
        rw [vL_us, tb_or, p11 _ hz', e18 s, decide_eq_false (by omega : ¬ s < 36)]
        unfold inR
        rw [decide_eq_false (by omega : ¬ (s < 36 ∧ _))]; rfl
      · rw [vL_un hzz, p11 _ hz', decide_eq_false (by omega : ¬ s < 36)]; rfl
theorem upd_p {f : Nat → Int32} {g : Nat → Nat} {n : Nat} (hf : ∀ i, i < n → f i = nI (g i)) (v : Nat) {b : Nat} (hb : b < n + 1) : upd f n (nI v) b = nI (if b = n then v else g b) := by
  by_cases h : b = n
  · subst h; rw [pk_us, if_pos rfl]
  · rw [pk_un h, if_neg h, hf b (by omega)]
theorem f_add {σ : Sg} (hw : Wf σ) (h40 : sN σ < 40) {k t x y z c : Nat} (hk : k < 7) (ht : t < 2) (hx : x + lX k t ≤ 6) (hy : y + lY k t ≤ 6) (hz : z < 5) (hcc : 1 ≤ c ∧ c ≤ 5) {h : Hp} (hc : RepC σ h) : ∃ h1, F_X2_add (nI k) (nI t) (nI x) (nI y) (nI z) (nI c) h = some (nI (sN σ), h1) ∧ RepC (placeS σ k t x y z c) h1 := by
  have l1 := lX_le (t := t) hk
  have l2 := lY_le (t := t) hk
  unfold F_X2_add
  rw [hc.2.2.1, if_neg (show ¬ (40 : Int32) ≤ _ from (nI_ge h40 (by decide) : ¬ nI 40 ≤ _)), f_isPlace, inP_at (by omega) (by omega) hz, ob_s, if_neg b1_]
  rw [wA_n _ 12 40 _ _ h40 (by decide), wA_n _ 13 40 _ _ h40 (by decide), wA_n _ 14 40 _ _ h40 (by decide), wA_n _ 15 40 _ _ h40 (by decide), wA_n _ 16 40 _ _ h40 (by decide), wA_n _ 17 40 _ _ h40 (by decide), f_footprint hk ht hx hy, ob_s, wL_n _ 18 40 _ _ h40 (by decide), bd_e, bd_e]
  have eN : gI_ h 138 + 1 = nI (sN σ + 1) := by rw [hc.2.2.1]; exact nI_add (sN σ) 1
  have f4 : ∀ b, b < sN σ + 1 → upd (gA_ h 12) (sN σ) (nI k) b = nI (sK (placeS σ k t x y z c) b) ∧ upd (gA_ h 13) (sN σ) (nI t) b = nI (sT (placeS σ k t x y z c) b) ∧ upd (gA_ h 14) (sN σ) (nI x) b = nI (sX (placeS σ k t x y z c) b) ∧ upd (gA_ h 15) (sN σ) (nI y) b = nI (sY (placeS σ k t x y z c) b) ∧ upd (gA_ h 16) (sN σ) (nI z) b = nI (sZ (placeS σ k t x y z c) b) ∧ upd (gA_ h 17) (sN σ) (nI c) b = nI (sC (placeS σ k t x y z c) b) := fun b hb =>
    ⟨upd_p (fun i hi => (hc.2.2.2.1 i hi).1) k hb, upd_p (fun i hi => (hc.2.2.2.1 i hi).2.1) t hb, upd_p (fun i hi => (hc.2.2.2.1 i hi).2.2.1) x hb, upd_p (fun i hi => (hc.2.2.2.1 i hi).2.2.2.1) y hb, upd_p (fun i hi => (hc.2.2.2.1 i hi).2.2.2.2.1) z hb, upd_p (fun i hi => (hc.2.2.2.1 i hi).2.2.2.2.2) c hb⟩
  have f5 : ∀ b, tb (gJ_ h 139 ||| ls_ 1 (nI (sN σ))) b = sTh (placeS σ k t x y z c) b := fun b => by
    rw [tb_set (by omega), hc.2.2.2.2.1 b]; rfl
  have f9 : ∀ b, b < sN σ + 1 → ∀ s, tb (vp_updL (gL_ h 18) (sN σ) (fpA (lX k t) x y (lY k t)) b) s = inR (sX (placeS σ k t x y z c) b) (sLx (placeS σ k t x y z c) b) (sY (placeS σ k t x y z c) b) (sLy (placeS σ k t x y z c) b) s := fun b hb s => by
    unfold sLx sLy
    by_cases q : b = sN σ
    · subst q
      obtain ⟨n1, n2, n3, n4, n5, n6⟩ := pl_new σ k t x y z c
      rw [n1, n2, n3, n4, vL_us, tb_fp hk hx hy]
    · obtain ⟨n1, n2, n3, n4, n5, n6⟩ := pl_old (k := k) (t := t) (x := x) (y := y) (z := z) (c := c) q
      rw [n1, n2, n3, n4, vL_un q]
      exact hc.2.2.2.2.2.2.2.2.1 b (by omega) s
  have hT : sTh σ (sN σ) = false := by
    cases q : sTh σ (sN σ) with
    | false => rfl
    | true => have := hw.2.2.2.1 _ q; omega
  by_cases hz0 : z = 0
  · rw [if_pos (show nI z = 0 by rw [hz0]; rfl), bd_e]
    refine f_add133 hw h40 hk ht hx hy hz hcc ⟨hc.1, hc.2.1, eN, f4, f5, hc.2.2.2.2.2.1, hc.2.2.2.2.2.2.1, fun b => ?_, f9, hc.2.2.2.2.2.2.2.2.2.1, hc.2.2.2.2.2.2.2.2.2.2⟩
    show tb (gJ_ h 140 ||| ls_ 1 (nI (sN σ))) b = ((sTh σ b || decide (b = sN σ)) && decide (sZ (placeS σ k t x y z c) b = 0))
    rw [tb_set (by omega), hc.2.2.2.2.2.2.2.1 b]
    by_cases q : b = sN σ
    · subst q
      rw [(pl_new σ k t x y z c).2.2.2.2.1, decide_eq_true hz0, decide_eq_true rfl, Bool.or_true, Bool.or_true]; rfl
    · rw [(pl_old q).2.2.2.2.1, decide_eq_false q, Bool.or_false, Bool.or_false]
  · rw [if_neg (show ¬ nI z = 0 from fun q => hz0 ((nI_ze (by omega)).mp q))]
    refine f_add133 hw h40 hk ht hx hy hz hcc ⟨hc.1, hc.2.1, eN, f4, f5, hc.2.2.2.2.2.1, hc.2.2.2.2.2.2.1, fun b => ?_, f9, hc.2.2.2.2.2.2.2.2.2.1, hc.2.2.2.2.2.2.2.2.2.2⟩
    show tb (gJ_ h 140) b = ((sTh σ b || decide (b = sN σ)) && decide (sZ (placeS σ k t x y z c) b = 0))
    rw [hc.2.2.2.2.2.2.2.1 b]
    by_cases q : b = sN σ
    · subst q
      rw [(pl_new σ k t x y z c).2.2.2.2.1, decide_eq_false hz0, hT, Bool.and_false, Bool.false_and]
    · rw [(pl_old q).2.2.2.2.1, decide_eq_false q, Bool.or_false]
