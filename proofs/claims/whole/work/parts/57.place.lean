theorem lp_bad {R : Type} (G : Nat → Nat → R) (r : R) (e : Nat) (bad : Nat → Prop) (hs : ∀ n i, i < e → ¬ bad i → G (n + 1) i = G n (i + 1)) (hb : ∀ n i, i < e → bad i → G (n + 1) i = r) : ∀ n i j, i ≤ j → j < e → bad j → e - i < n → G n i = r
  | 0, _, _, _, _, _, hn => by omega
  | n + 1, i, j, hij, hj, hbj, hn => by
    by_cases hbi : bad i
    · exact hb n i (by omega) hbi
    · rw [hs n i (by omega) hbi]
      by_cases h : i = j
      · subst h; exact absurd hbj hbi
      · exact lp_bad G r e bad hs hb n (i + 1) j (by omega) hj hbj (by omega)
def busy (σ : Sg) (x lx y ly z : Nat) : Bool := (List.range lx).any fun i => (List.range ly).any fun j => (sGr σ (36 * z + 6 * (y + j) + (x + i))).isSome
theorem busy_t {σ : Sg} {x lx y ly z : Nat} : busy σ x lx y ly z = true ↔ ∃ i, i < lx ∧ ∃ j, j < ly ∧ (sGr σ (36 * z + 6 * (y + j) + (x + i))).isSome = true := by
  unfold busy
  rw [List.any_eq_true]
  constructor
  · rintro ⟨i, hi, h⟩
    rw [List.any_eq_true] at h
    obtain ⟨j, hj, h⟩ := h
    exact ⟨i, List.mem_range.mp hi, j, List.mem_range.mp hj, h⟩
  · rintro ⟨i, hi, j, hj, h⟩
    exact ⟨i, List.mem_range.mpr hi, List.any_eq_true.mpr ⟨j, List.mem_range.mpr hj, h⟩⟩
theorem f_overlaps {σ : Sg} {h : Hp} (hc : RepC σ h) {k t x y z : Nat} (hk : k < 7) (hx : x + lX k t ≤ 6) (hy : y + lY k t ≤ 6) (hz : z < 5) : F_X2_overlapsAny (fpA (lX k t) x y (lY k t)) (nI z) h = some (bi_ (busy σ x (lX k t) y (lY k t) z)) := by
  unfold F_X2_overlapsAny
  rw [if_neg (i_n0 (by omega)), if_neg (show ¬ (5 : Int32) ≤ nI z from (nI_ge hz (by decide) : ¬ nI 5 ≤ _)), rL_n _ 20 5 _ hz (by decide)]
  have e : ∀ s, tb (gL_ h 20 z &&& fpA (lX k t) x y (lY k t)) s = ((decide (s < 36) && (sGr σ (36 * z + s)).isSome) && inR x (lX k t) y (lY k t) s) := fun s => by
    rw [tb_and, hc.2.2.2.2.2.2.2.2.2.2 z hz, tb_fp hk hx hy]
  cases hb : busy σ x (lX k t) y (lY k t) z with
  | true =>
    obtain ⟨i, hi, j, hj, q⟩ := busy_t.mp hb
    rw [if_neg]; · rfl
    intro q0
    have := e (6 * (y + j) + (x + i))
    rw [q0, tb_0, show 36 * z + (6 * (y + j) + (x + i)) = 36 * z + 6 * (y + j) + (x + i) by omega, q, decide_eq_true (by omega)] at this
    unfold inR at this
    have e1 : (6 * (y + j) + (x + i)) % 6 = x + i := by omega
    have e2 : (6 * (y + j) + (x + i)) / 6 = y + j := by omega
    rw [e1, e2, decide_eq_true (by omega)] at this
    cases this
  | false =>
    rw [if_pos]; · rfl
    refine tb_z.mpr (fun s hs => ?_)
    rw [e s]
    cases q1 : inR x (lX k t) y (lY k t) s with
    | false => exact Bool.and_false _
    | true =>
      unfold inR at q1
      have q1 := of_decide_eq_true q1
      cases q2 : (sGr σ (36 * z + s)).isSome with
      | false => rw [Bool.and_false]; rfl
      | true =>
        have : busy σ x (lX k t) y (lY k t) z = true := busy_t.mpr ⟨s % 6 - x, by omega, s / 6 - y, by omega, by rw [show 36 * z + 6 * (y + (s / 6 - y)) + (x + (s % 6 - x)) = 36 * z + s by omega]; exact q2⟩
        rw [hb] at this; cases this
def s_placeN (σ : Sg) (k t x y z c : Nat) : Int32 × Nat × Sg := if 6 < x + lX k t then (-6, 6, σ) else if y + lY k t ≤ 6 then if busy σ x (lX k t) y (lY k t) z = true then (-3, 3, σ) else if sN σ < 40 then (nI (sN σ), 0, placeS σ k t x y z c) else (-6, 6, σ) else (-6, 6, σ)
def s_place (σ : Sg) (x1 x2 x3 x4 x5 x6 : Int32) : Int32 × Nat × Sg := if (inN x1 7 && (inN x2 2 && (inN (x6 - 1) 5 && inP x3 x4 x5))) = true then s_placeN σ x1.toNatClampNeg x2.toNatClampNeg x3.toNatClampNeg x4.toNatClampNeg x5.toNatClampNeg x6.toNatClampNeg else (-1, 1, σ)
theorem s_placeN_wf {σ : Sg} (hw : Wf σ) {k t x y z c : Nat} (hk : k < 7) (ht : t < 2) (hz : z < 5) (hcc : 1 ≤ c ∧ c ≤ 5) : Wf (s_placeN σ k t x y z c).2.2 := by
  unfold s_placeN
  split
  · exact hw
  · split
    · split
      · exact hw
      · split
        · exact Wf_place hw (by assumption) hk ht (by omega) (by assumption) hz hcc
        · exact hw
    · exact hw
theorem col_n {x : Int32} (h : inN (x - 1) 5 = true) : ∃ c, (1 ≤ c ∧ c ≤ 5) ∧ x = nI c := by
  obtain ⟨a, ha, e⟩ := inN_n (n := 5) (by decide) h
  refine ⟨a + 1, by omega, ?_⟩
  rw [← nI_add, ← e]
  show x = x - 1 + 1
  exact (Int32.sub_add_cancel x 1).symm
theorem place_args {x1 x2 x3 x4 x5 x6 : Int32} (h : (inN x1 7 && (inN x2 2 && (inN (x6 - 1) 5 && inP x3 x4 x5))) = true) : ∃ k t x y z c : Nat, k < 7 ∧ t < 2 ∧ x < 6 ∧ y < 6 ∧ z < 5 ∧ (1 ≤ c ∧ c ≤ 5) ∧ x1 = nI k ∧ x2 = nI t ∧ x3 = nI x ∧ x4 = nI y ∧ x5 = nI z ∧ x6 = nI c := by
  rw [Bool.and_eq_true, Bool.and_eq_true, Bool.and_eq_true] at h
  obtain ⟨h1, h2, h3, h4⟩ := h
  obtain ⟨k, hk, e1⟩ := inN_n (n := 7) (by decide) h1
  obtain ⟨t, ht, e2⟩ := inN_n (n := 2) (by decide) h2
  obtain ⟨c, hc, e6⟩ := col_n h3
  obtain ⟨x, y, z, hx, hy, hz, e3, e4, e5⟩ := inP_n h4
  exact ⟨k, t, x, y, z, c, hk, ht, hx, hy, hz, hc, e1, e2, e3, e4, e5, e6⟩
theorem s_place_n {σ : Sg} {k t x y z c : Nat} (hk : k < 7) (ht : t < 2) (hx : x < 6) (hy : y < 6) (hz : z < 5) (hc : 1 ≤ c ∧ c ≤ 5) (h : (inN (nI k) 7 && (inN (nI t) 2 && (inN (nI c - 1) 5 && inP (nI x) (nI y) (nI z)))) = true) : s_place σ (nI k) (nI t) (nI x) (nI y) (nI z) (nI c) = s_placeN σ k t x y z c := by
  unfold s_place
  rw [if_pos h, nI_clamp (by omega), nI_clamp (by omega), nI_clamp (by omega), nI_clamp (by omega), nI_clamp (by omega), nI_clamp (by omega)]
theorem s_place_wf {σ : Sg} (hw : Wf σ) (x1 x2 x3 x4 x5 x6 : Int32) : Wf (s_place σ x1 x2 x3 x4 x5 x6).2.2 := by
  by_cases h : (inN x1 7 && (inN x2 2 && (inN (x6 - 1) 5 && inP x3 x4 x5))) = true
  · obtain ⟨k, t, x, y, z, c, hk, ht, hx, hy, hz, hc, rfl, rfl, rfl, rfl, rfl, rfl⟩ := place_args h
    rw [s_place_n hk ht hx hy hz hc h]; exact s_placeN_wf hw hk ht hz hc
  · unfold s_place; rw [if_neg h]; exact hw
theorem two_v {α : Type} (x : Int32) (u v : α) : (if x < 0 then u else if 1 < x then u else v) = if inN x 2 = true then v else u := by
  rw [← two_t]
  have : (1 : Int32) < x ↔ 2 ≤ x := by
    rw [i_ltT, i_leT, show (1 : Int32).toInt = 1 by decide, show (2 : Int32).toInt = 2 by decide]; omega
  by_cases h1 : x < 0
  · rw [if_pos h1, if_pos h1]
  · rw [if_neg h1, if_neg h1]
    by_cases h2 : 1 < x
    · rw [if_pos h2, if_pos (this.mp h2)]
    · rw [if_neg h2, if_neg (fun q => h2 (this.mpr q))]
theorem six_lt {a : Nat} (h : a < 1000) : (6 : Int32) < nI a ↔ 6 < a := i_lt (a := 6) (by decide) (by omega)
theorem le_six {a : Nat} (h : a < 1000) : nI a ≤ (6 : Int32) ↔ a ≤ 6 := i_le (b := 6) (by omega) (by decide)
theorem C_place {σ : Sg} {h : Hp} (hw : Wf σ) (hc : RepC σ h) (x1 x2 x3 x4 x5 x6 : Int32) : CS true σ h (s_place σ x1 x2 x3 x4 x5 x6) (F_X6_place x1 x2 x3 x4 x5 x6 h) := by
  unfold F_X6_place
  rw [f_isKind, ob_s, two_v, f_isBC, ob_s, f_isPlace, ob_s, c_r1, c_r3, c_r6]
  by_cases hv : (inN x1 7 && (inN x2 2 && (inN (x6 - 1) 5 && inP x3 x4 x5))) = true
  · obtain ⟨k, t, x, y, z, c, hk, ht, hx, hy, hz, hcc, rfl, rfl, rfl, rfl, rfl, rfl⟩ := place_args hv
    rw [s_place_n hk ht hx hy hz hcc hv]
    rw [Bool.and_eq_true, Bool.and_eq_true, Bool.and_eq_true] at hv
    obtain ⟨h1, h2, h3, h4⟩ := hv
    have l1 := lX_le (t := t) hk
    have l2 := lY_le (t := t) hk
    rw [h1, h2, h3, h4, if_neg b1_, if_pos rfl, if_neg b1_, if_neg b1_, f_alongX hk ht, ob_s, nI_add, f_alongY hk ht]
    simp only [ob_s, nI_add]
    unfold s_placeN
    by_cases g1 : 6 < x + lX k t
    · rw [if_pos ((six_lt (by omega)).mpr g1), if_pos g1]; exact CS.no 6 (by decide) rfl
    · rw [if_neg (fun q => g1 ((six_lt (by omega)).mp q)), if_neg g1]
      by_cases g2 : y + lY k t ≤ 6
      · rw [if_pos ((le_six (by omega)).mpr g2), if_pos g2, f_footprint hk ht (by omega) g2, ob_s, f_overlaps hc hk (by omega) g2 hz, ob_s]
        cases hb : busy σ x (lX k t) y (lY k t) z with
        | true => rw [if_neg b1_]; exact CS.no 3 (by decide) rfl
        | false =>
          rw [if_pos b0_, if_neg (by decide)]
          unfold F_X2_ever
          rw [ob_s, hc.2.2.1]
          have h40 := hw.1
          by_cases g3 : sN σ < 40
          · rw [if_pos (show nI (sN σ) < 40 from nI_lt g3 (by decide)), if_pos g3, f_forget, ob_s]
            have hc' : RepC σ (sI_ (sI_ h 206 0) 328 0) := ⟨hc.1, hc.2.1, hc.2.2.1, hc.2.2.2.1, hc.2.2.2.2.1, hc.2.2.2.2.2.1, hc.2.2.2.2.2.2.1, hc.2.2.2.2.2.2.2⟩
            obtain ⟨h1, e, r⟩ := f_add (x := x) hw g3 hk ht (by omega) g2 hz hcc hc'
            have s := w_X2_add _ _ _ _ _ _ _ _ _ e
            rw [e, ob_s]
            refine CS.yes rfl r ?_ (fun _ => ⟨?_, ?_⟩)
            · rw [s.2.2.1 37 (by decide)]; rfl
            · rw [s.1 206 (by decide)]; rfl
            · rw [s.1 328 (by decide)]; rfl
          · rw [if_neg (show ¬ nI (sN σ) < (40 : Int32) from (nI_nlt (by omega) (by omega) : ¬ nI (sN σ) < nI 40)), if_neg g3]; exact CS.no 6 (by decide) rfl
      · rw [if_neg (fun q => g2 ((le_six (by omega)).mp q)), if_neg g2]; exact CS.no 6 (by decide) rfl
  · have e : s_place σ x1 x2 x3 x4 x5 x6 = (-1, 1, σ) := by unfold s_place; rw [if_neg hv]
    rw [e]
    cases h1 : inN x1 7 with
    | false => rw [if_pos b0_]; exact CS.no 1 (by decide) rfl
    | true =>
      rw [if_neg b1_]
      cases h2 : inN x2 2 with
      | false => exact CS.no 1 (by decide) rfl
      | true =>
        rw [if_pos rfl]
        cases h3 : inN (x6 - 1) 5 with
        | false => rw [if_pos b0_]; exact CS.no 1 (by decide) rfl
        | true =>
          rw [if_neg b1_]
          cases h4 : inP x3 x4 x5 with
          | false => rw [if_pos b0_]; exact CS.no 1 (by decide) rfl
          | true => rw [h1, h2, h3, h4] at hv; exact absurd rfl hv

theorem f_adds {σ : Sg} (h40 : sN σ < 40) {k t x y z c : Nat} (hk : k < 7) (ht : t < 2) (hx : x + lX k t ≤ 6) (hy : y + lY k t ≤ 6) (hz : z < 5) {h : Hp} (hm : RepM σ h) : ∃ h1, F_X7_adds (nI k) (nI t) (nI x) (nI y) (nI z) (nI c) h = some h1 ∧ RepM (placeS σ k t x y z c) h1 := by
  have eN := hm.2.2.1
  unfold F_X7_adds
  rw [eN, wA_n _ 42 40 _ _ h40 (by decide)]
  simp only [gI_sA, eN]
  rw [wA_n _ 43 40 _ _ h40 (by decide)]
  simp only [gI_sA, eN]
  rw [wA_n _ 44 40 _ _ h40 (by decide)]
  simp only [gI_sA, eN]
  rw [wA_n _ 45 40 _ _ h40 (by decide)]
  simp only [gI_sA, eN]
  rw [wA_n _ 46 40 _ _ h40 (by decide)]
  simp only [gI_sA, eN]
  rw [wA_n _ 47 40 _ _ h40 (by decide)]
  simp only [gI_sA, eN]
  rw [f_fills (k := k) (t := t) (x := x) (y := y) (z := z) h40 hk ht hx hy hz (by exact pk_us) (by exact pk_us) (by exact pk_us) (by exact pk_us) (by exact pk_us), ob_s, bd_e, bd_e]
  simp only [recW_J, recW_I, gI_sA, gI_sJ, gJ_sA, eN]
  refine ⟨_, rfl, fun i hi => ?_, fun i hi => ?_, ?_, fun b hb => ?_, fun b => ?_, ?_, fun k hk => ?_⟩
  · rw [gA_sI, gA_sJ, recW_o (by decide)]; exact hm.1 i hi
  · rw [gA_sI, gA_sJ, recW_a hx hz hi _ _ hy]
    show (if _ then nI (sN σ) else gA_ h 40 i) = gvM (if inC6 x (lX k t) y (lY k t) z i = true then some (sN σ) else sGr σ i)
    rw [hm.2.1 i hi]
    by_cases q : inC6 x (lX k t) y (lY k t) z i = true
    · rw [if_pos q, if_pos q]; rfl
    · rw [if_neg q, if_neg q]
  · rw [gI_sI, if_pos rfl]; exact nI_add (sN σ) 1
  · rw [gA_sI, gA_sJ, gA_sI, gA_sJ, gA_sI, gA_sJ, gA_sI, gA_sJ, gA_sI, gA_sJ, gA_sI, gA_sJ, recW_o (by decide), recW_o (by decide), recW_o (by decide), recW_o (by decide), recW_o (by decide), recW_o (by decide)]
    exact ⟨upd_p (fun i hi => (hm.2.2.2.1 i hi).1) k hb, upd_p (fun i hi => (hm.2.2.2.1 i hi).2.1) t hb, upd_p (fun i hi => (hm.2.2.2.1 i hi).2.2.1) x hb, upd_p (fun i hi => (hm.2.2.2.1 i hi).2.2.2.1) y hb, upd_p (fun i hi => (hm.2.2.2.1 i hi).2.2.2.2.1) z hb, upd_p (fun i hi => (hm.2.2.2.1 i hi).2.2.2.2.2) c hb⟩
  · rw [gJ_sI, gJ_sJ, if_pos rfl, tb_set (by omega), hm.2.2.2.2.1 b]; rfl
  · rw [gI_sI, if_neg (by decide), gI_sJ, recW_I]; exact hm.2.2.2.2.2.1
  · rw [gA_sI, gA_sJ, recW_o (by decide)]; exact hm.2.2.2.2.2.2 k hk
theorem gv_neg (o : Option Nat) (h : ∀ b, o = some b → b < 40) : gvM o < 0 ↔ o.isSome = false := by
  cases o with
  | none => exact ⟨fun _ => rfl, fun _ => by decide⟩
  | some b => exact ⟨fun q => absurd q (i_n0 (by have := h b rfl; omega)), fun q => by cases q⟩
theorem M_place {σ : Sg} {h : Hp} (hw : Wf σ) (hm : RepM σ h) (x1 x2 x3 x4 x5 x6 : Int32) : MS σ h (s_place σ x1 x2 x3 x4 x5 x6) (F_X7_place x1 x2 x3 x4 x5 x6 h) := by
  unfold F_X7_place
  rw [f_isIn, ob_s, f_isIn, ob_s, f_isIn, ob_s, f_isCell, ob_s, m_r1, m_r6]
  by_cases hv : (inN x1 7 && (inN x2 2 && (inN (x6 - 1) 5 && inP x3 x4 x5))) = true
  · obtain ⟨k, t, x, y, z, c, hk, ht, hx, hy, hz, hcc, rfl, rfl, rfl, rfl, rfl, rfl⟩ := place_args hv
    rw [s_place_n hk ht hx hy hz hcc hv]
    rw [Bool.and_eq_true, Bool.and_eq_true, Bool.and_eq_true] at hv
    obtain ⟨h1, h2, h3, h4⟩ := hv
    have l1 := lX_le (t := t) hk
    have l2 := lY_le (t := t) hk
    have h40 := hw.1
    rw [h1, h2, h3, h4, if_neg b1_, if_neg b1_, if_neg b1_, if_neg b1_, f_lengthX hk ht, ob_s, f_lengthY hk ht, ob_s, nI_add, nI_add]
    unfold s_placeN
    by_cases g1 : 6 < x + lX k t
    · rw [if_pos ((six_lt (by omega)).mpr g1), if_pos g1]; exact MS.no 6 (by decide) rfl
    · rw [if_neg (fun q => g1 ((six_lt (by omega)).mp q)), if_neg g1]
      by_cases g2 : y + lY k t ≤ 6
      · rw [if_pos ((le_six (by omega)).mpr g2), if_pos g2]
        have rd : ∀ i j, i < lX k t → j < lY k t → ∀ (β : Type) (f : Int32 → Option β), ((F_X7_cellAt (nI x + nI i) (nI y + nI j) (nI z)).bind fun v => rA_ h 40 180 v f) = f (gvM (sGr σ (36 * z + 6 * (y + j) + (x + i)))) := fun i j hi hj β f => by
          have g : 36 * z + 6 * (y + j) + (x + i) < 180 := by omega
          rw [nI_add, nI_add, f_cellAt, ob_s, rA_n _ 40 180 _ g (by decide), hm.2.1 _ g]
        have ng : ∀ i, gvM (sGr σ i) < 0 ↔ (sGr σ i).isSome = false := fun i => gv_neg _ (fun b q => by have := hw.2.2.2.2.1 i b q; omega)
        cases hb : busy σ x (lX k t) y (lY k t) z with
        | true =>
          rw [if_pos rfl]
          obtain ⟨i0, hi0, hq0⟩ := busy_t.mp hb
          refine MS.no 3 (by decide) ?_
          refine lp_bad (fun n i => F_X7_place_88 n F_X7_place_146 (nI k) (nI t) (nI x) (nI y) (nI z) (nI c) (nI (lX k t)) (nI (lY k t)) (nI i) h) _ (lX k t) (fun i => ∃ j, j < lY k t ∧ (sGr σ (36 * z + 6 * (y + j) + (x + i))).isSome = true) (fun n i hi nb => ?_) (fun n i hi bb => ?_) FU_ 0 i0 (by omega) hi0 hq0 (by unfold FU_; omega)
          · show F_X7_place_88 (n + 1) _ _ _ _ _ _ _ _ _ _ _ = _
            rw [F_X7_place_88, if_neg (nI_ge hi (by omega))]
            refine lp_FU (fun m j => F_X7_place_98 m (F_X7_place_140 (F_X7_place_88 n F_X7_place_146)) (nI k) (nI t) (nI x) (nI y) (nI z) (nI c) (nI (lX k t)) (nI (lY k t)) (nI i) (nI j) h) _ (lY k t) (by omega) (fun m j hj => ?_) (fun m => ?_)
            · show F_X7_place_98 (m + 1) _ _ _ _ _ _ _ _ _ _ _ _ = _
              have q : (sGr σ (36 * z + 6 * (y + j) + (x + i))).isSome = false := by
                cases q : (sGr σ (36 * z + 6 * (y + j) + (x + i))).isSome with
                | false => rfl
                | true => exact absurd ⟨j, hj, q⟩ nb
              rw [F_X7_place_98, if_neg (nI_ge hj (by omega)), rd i j hi hj, if_pos ((ng _).mpr q), show nI j + 1 = nI (j + 1) from nI_add j 1]
            · show F_X7_place_98 (m + 1) _ _ _ _ _ _ _ _ _ _ _ _ = _
              rw [F_X7_place_98, if_pos (nI_le (Nat.le_refl _) (by omega))]
              unfold F_X7_place_140
              rw [show nI i + 1 = nI (i + 1) from nI_add i 1]
          · show F_X7_place_88 (n + 1) _ _ _ _ _ _ _ _ _ _ _ = _
            rw [F_X7_place_88, if_neg (nI_ge hi (by omega))]
            obtain ⟨j0, hj0, hq⟩ := bb
            refine lp_bad (fun m j => F_X7_place_98 m (F_X7_place_140 (F_X7_place_88 n F_X7_place_146)) (nI k) (nI t) (nI x) (nI y) (nI z) (nI c) (nI (lX k t)) (nI (lY k t)) (nI i) (nI j) h) _ (lY k t) (fun j => (sGr σ (36 * z + 6 * (y + j) + (x + i))).isSome = true) (fun m j hj q => ?_) (fun m j hj q => ?_) FU_ 0 j0 (by omega) hj0 hq (by unfold FU_; omega)
            · show F_X7_place_98 (m + 1) _ _ _ _ _ _ _ _ _ _ _ _ = _
              rw [F_X7_place_98, if_neg (nI_ge hj (by omega)), rd i j hi hj, if_pos ((ng _).mpr (Bool.eq_false_iff.mpr q)), show nI j + 1 = nI (j + 1) from nI_add j 1]
            · show F_X7_place_98 (m + 1) _ _ _ _ _ _ _ _ _ _ _ _ = _
              rw [F_X7_place_98, if_neg (nI_ge hj (by omega)), rd i j hi hj, if_neg (fun q2 => by have := (ng _).mp q2; rw [q] at this; cases this), m_r3]; rfl
        | false =>
          have nb : ∀ i j, i < lX k t → j < lY k t → (sGr σ (36 * z + 6 * (y + j) + (x + i))).isSome = false := fun i j hi hj => by
            cases q : (sGr σ (36 * z + 6 * (y + j) + (x + i))).isSome with
            | false => rfl
            | true => have := busy_t.mpr ⟨i, hi, j, hj, q⟩; rw [hb] at this; cases this
          rw [if_neg (by decide)]
          have e : (F_X7_place_88 FU_ F_X7_place_146) (nI k) (nI t) (nI x) (nI y) (nI z) (nI c) (nI (lX k t)) (nI (lY k t)) 0 h = F_X7_place_146 (nI k) (nI t) (nI x) (nI y) (nI z) (nI c) h := by
            refine lp_FU (fun n i => F_X7_place_88 n F_X7_place_146 (nI k) (nI t) (nI x) (nI y) (nI z) (nI c) (nI (lX k t)) (nI (lY k t)) (nI i) h) _ (lX k t) (by omega) (fun n i hi => ?_) (fun n => ?_)
            · show F_X7_place_88 (n + 1) _ _ _ _ _ _ _ _ _ _ _ = _
              rw [F_X7_place_88, if_neg (nI_ge hi (by omega))]
              refine lp_FU (fun m j => F_X7_place_98 m (F_X7_place_140 (F_X7_place_88 n F_X7_place_146)) (nI k) (nI t) (nI x) (nI y) (nI z) (nI c) (nI (lX k t)) (nI (lY k t)) (nI i) (nI j) h) _ (lY k t) (by omega) (fun m j hj => ?_) (fun m => ?_)
              · show F_X7_place_98 (m + 1) _ _ _ _ _ _ _ _ _ _ _ _ = _
                rw [F_X7_place_98, if_neg (nI_ge hj (by omega)), rd i j hi hj, if_pos ((ng _).mpr (nb i j hi hj)), show nI j + 1 = nI (j + 1) from nI_add j 1]
              · show F_X7_place_98 (m + 1) _ _ _ _ _ _ _ _ _ _ _ _ = _
                rw [F_X7_place_98, if_pos (nI_le (Nat.le_refl _) (by omega))]
                unfold F_X7_place_140
                rw [show nI i + 1 = nI (i + 1) from nI_add i 1]
            · show F_X7_place_88 (n + 1) _ _ _ _ _ _ _ _ _ _ _ = _
              rw [F_X7_place_88, if_pos (nI_le (Nat.le_refl _) (by omega))]
          rw [e]
          unfold F_X7_place_146
          rw [hm.2.2.1]
          by_cases g3 : sN σ < 40
          · rw [if_neg (show ¬ nI (sN σ) = (40 : Int32) from fun q => by have := (i_eq (b := 40) (by omega) (by decide)).mp q; omega), if_pos g3]
            obtain ⟨h1, e, r⟩ := f_adds (x := x) (c := c) g3 hk ht (by omega) g2 hz hm
            have s := w_X7_adds _ _ _ _ _ _ _ _ e
            rw [e, ob_s, r.2.2.1]
            refine MS.yes ?_ r ?_
            · rw [show nI (sN (placeS σ k t x y z c)) - 1 = nI (sN σ) from nI_pred (sN σ)]
            · rw [s.2.2.1 38 (by decide)]
          · rw [if_pos (show nI (sN σ) = 40 by rw [show sN σ = 40 by omega]; rfl), if_neg g3, m_r6]; exact MS.no 6 (by decide) rfl
      · rw [if_neg (fun q => g2 ((le_six (by omega)).mp q)), if_neg g2]; exact MS.no 6 (by decide) rfl
  · have e : s_place σ x1 x2 x3 x4 x5 x6 = (-1, 1, σ) := by unfold s_place; rw [if_neg hv]
    rw [e]
    cases h1 : inN x1 7 with
    | false => rw [if_pos b0_]; exact MS.no 1 (by decide) rfl
    | true =>
      rw [if_neg b1_]
      cases h2 : inN x2 2 with
      | false => rw [if_pos b0_]; exact MS.no 1 (by decide) rfl
      | true =>
        rw [if_neg b1_]
        cases h3 : inN (x6 - 1) 5 with
        | false => rw [if_pos b0_]; exact MS.no 1 (by decide) rfl
        | true =>
          rw [if_neg b1_]
          cases h4 : inP x3 x4 x5 with
          | false => rw [if_pos b0_]; exact MS.no 1 (by decide) rfl
          | true => rw [h1, h2, h3, h4] at hv; exact absurd rfl hv
