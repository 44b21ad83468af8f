/-! ===== the reference: the next brick of the best cover ===== -/
theorem M_nx15 {σ : Sg} {h : Hp} {col z : Nat} (hM : cvM σ col z ≤ 16) (hF : MF σ col z h) (hD : ∀ t, t < 2 ^ cvM σ col z → MDt σ col z h t) {set : Nat} (hs : set < 2 ^ cvM σ col z) (hf : ffN set < cvM σ col z) {kd t : Nat} (hkd : kd < 7) (ht : t < 2) (K : Int32 → Int32 → Int32 → Hp → Option Int32) (n : Nat) : F_X7_next_15 (n + 1) K (nI set) (nI (ffN set)) (nI kd) (nI t) h = if aR σ col z set (kd * 2 + t) = some (vW σ col z set) then some (nI (kd + 10 * t)) else F_X7_next_15 n K (nI set) (nI (ffN set)) (nI kd) (nI (t + 1)) h := by
  have h16 := p16 hM
  have hM' : rkG (opn σ col z) 36 ≤ 16 := hM
  obtain ⟨k1, k2, k3⟩ := nmG_e (p := opn σ col z) (i := ffN set) (n := 36) hf
  obtain ⟨f58, f59⟩ := hF ((ffN set * 7 + kd) * 2 + t) (by omega) _ kd t k2 hkd ht (by rw [k3])
  have hml := mkR_lt (σ := σ) (col := col) (z := z) (k := nmG (opn σ col z) (ffN set) 36) (kd := kd) (t := t)
  have ej : (kd * 2 + t) / 2 = kd ∧ (kd * 2 + t) % 2 = t := by omega
  have hal : mkR (opn σ col z) (nmG (opn σ col z) (ffN set) 36) kd t &&& set ≤ mkR (opn σ col z) (nmG (opn σ col z) (ffN set) 36) kd t := Nat.and_le_left
  obtain ⟨c55, c56⟩ := hD set hs
  obtain ⟨-, bs2, -⟩ := VW_b (p := opn σ col z) opn_p hM' (wRt_le σ z) (wBh_le σ z) 16 set hs (by omega)
  have bs2' : bN (vW σ col z set) ≤ 16 := by have : bN (vW σ col z set) ≤ _ := bs2; omega
  have gen : ∀ G, F_X7_next_15 n K = G → F_X7_next_15 (n + 1) K (nI set) (nI (ffN set)) (nI kd) (nI t) h = if aR σ col z set (kd * 2 + t) = some (vW σ col z set) then some (nI (kd + 10 * t)) else G (nI set) (nI (ffN set)) (nI kd) (nI (t + 1)) h := fun G hG => by
    rw [F_X7_next_15, hG, if_neg (show ¬ (2 : Int32) ≤ nI t from (nI_ge ht (by decide) : ¬ nI 2 ≤ nI t)), f_shapeAt, ob_s, rA_n _ 58 224 _ (by omega) (by decide), f58, nI_and]
    unfold F_X7_next_106 aR
    rw [ej.1, ej.2, show nI t + 1 = nI (t + 1) from nI_add t 1]
    by_cases q0 : mkR (opn σ col z) (nmG (opn σ col z) (ffN set) 36) kd t = 0
    · rw [if_pos (by rw [q0]; rfl), if_neg (fun u => by rw [if_neg (fun w => w.1 q0)] at u; cases u)]
    · rw [if_neg (fun u => q0 ((nI_ze (by omega)).mp u))]
      by_cases q1 : mkR (opn σ col z) (nmG (opn σ col z) (ffN set) 36) kd t &&& set = 0
      · have v : mkR (opn σ col z) (nmG (opn σ col z) (ffN set) 36) kd t ≠ 0 ∧ mkR (opn σ col z) (nmG (opn σ col z) (ffN set) 36) kd t &&& set = 0 := ⟨q0, q1⟩
        have hor := or_lt2 hs hml
        obtain ⟨d55, d56⟩ := hD (set ||| mkR (opn σ col z) (nmG (opn σ col z) (ffN set) 36) kd t) hor
        have hpp := popN_or (show set &&& mkR (opn σ col z) (nmG (opn σ col z) (ffN set) 36) kd t = 0 from (by rw [Nat.and_comm]; exact q1)) (rkG (opn σ col z) 36)
        have hpl := popN_le (set ||| mkR (opn σ col z) (nmG (opn σ col z) (ffN set) 36) kd t) (rkG (opn σ col z) 36)
        obtain ⟨b1, b2, -⟩ := VW_b (p := opn σ col z) opn_p hM' (wRt_le σ z) (wBh_le σ z) 16 _ (show set ||| mkR (opn σ col z) (nmG (opn σ col z) (ffN set) 36) kd t < 2 ^ rkG (opn σ col z) 36 from hor) (by omega)
        have hsp := cvS_le (p := opn σ col z) (wRt_le σ z) (wBh_le σ z) (mkR (opn σ col z) (nmG (opn σ col z) (ffN set) 36) kd t)
        obtain ⟨a1, a2⟩ := b_step (sp := cvS (opn σ col z) (wRt σ z) (wBh σ z) (mkR (opn σ col z) (nmG (opn σ col z) (ffN set) 36) kd t)) (V := vW σ col z (set ||| mkR (opn σ col z) (nmG (opn σ col z) (ffN set) 36) kd t)) (by have : bS (vW σ col z (set ||| mkR (opn σ col z) (nmG (opn σ col z) (ffN set) 36) kd t)) ≤ _ := b1; omega)
        rw [if_pos (by rw [q1]; rfl), if_pos v, nI_or, rA_n _ 55 65536 _ (by omega) (by decide), d55, rA_n _ 55 65536 _ (by omega) (by decide), c55, rA_n _ 56 65536 _ (by omega) (by decide), d56, ob_s, rA_n _ 59 224 _ (by omega) (by decide), f59, rA_n _ 56 65536 _ (by omega) (by decide), c56, show (1 : Int32) + nI (bN (vW σ col z (set ||| mkR (opn σ col z) (nmG (opn σ col z) (ffN set) 36) kd t))) = nI (bN (vW σ col z (set ||| mkR (opn σ col z) (nmG (opn σ col z) (ffN set) 36) kd t)) + 1) from (by rw [show (1 : Int32) = nI 1 from rfl, nI_add, Nat.add_comm]), ngI_s, ← a1, ← a2, show (10 : Int32) = nI 10 from rfl, pk_mul, nI_add]
        have ha : bN (100 - cvS (opn σ col z) (wRt σ z) (wBh σ z) (mkR (opn σ col z) (nmG (opn σ col z) (ffN set) 36) kd t) + vW σ col z (set ||| mkR (opn σ col z) (nmG (opn σ col z) (ffN set) 36) kd t)) ≤ 17 := by
          have : bN (vW σ col z (set ||| mkR (opn σ col z) (nmG (opn σ col z) (ffN set) 36) kd t)) ≤ _ := b2
          omega
        generalize 100 - cvS (opn σ col z) (wRt σ z) (wBh σ z) (mkR (opn σ col z) (nmG (opn σ col z) (ffN set) 36) kd t) + vW σ col z (set ||| mkR (opn σ col z) (nmG (opn σ col z) (ffN set) 36) kd t) = a at ha ⊢
        have sa := bS_lt a
        have sw := bS_lt (vW σ col z set)
        have eqv := b_eq a (vW σ col z set)
        by_cases c1 : bN a = bN (vW σ col z set)
        · rw [if_pos (by rw [c1])]
          by_cases c2 : bS a = bS (vW σ col z set)
          · rw [if_pos (by rw [c2]), if_pos (by rw [eqv.mpr ⟨c1, c2⟩])]
          · rw [if_neg (fun u => c2 ((ngI_eq (by omega) (by omega)).mp u)), if_neg (fun u => c2 (eqv.mp (Option.some.inj u)).2)]
        · rw [if_neg (fun u => c1 ((i_eq (by omega) (by omega)).mp u)), if_neg (fun u => c1 (eqv.mp (Option.some.inj u)).1)]
      · rw [if_neg (fun u => q1 ((nI_ze (by omega)).mp u)), if_neg (fun u => by rw [if_neg (fun w => q1 w.2)] at u; cases u)]
  exact gen _ rfl
noncomputable def nxV (σ : Sg) (col z set : Nat) : Nat → Option Nat
  | 0 => none
  | c + 1 => if aR σ col z set (c * 2 + 0) = some (vW σ col z set) then some (c + 10 * 0) else if aR σ col z set (c * 2 + 1) = some (vW σ col z set) then some (c + 10 * 1) else nxV σ col z set c
theorem M_nx8 {σ : Sg} {h : Hp} {col z : Nat} (hM : cvM σ col z ≤ 16) (hF : MF σ col z h) (hD : ∀ t, t < 2 ^ cvM σ col z → MDt σ col z h t) {set : Nat} (hs : set < 2 ^ cvM σ col z) (hf : ffN set < cvM σ col z) : ∀ c n, c ≤ 7 → c < n → F_X7_next_8 n (nI set) (nI (ffN set)) (nI c - 1) h = some (match nxV σ col z set c with
    | some v => nI v
    | none => -9) := by
  intro c
  induction c with
  | zero =>
    intro n hc hn
    obtain ⟨n, rfl⟩ : ∃ j, n = j + 1 := ⟨n - 1, by omega⟩
    rw [F_X7_next_8, if_pos (by decide)]; rfl
  | succ c ih =>
    intro n hc hn
    obtain ⟨n, rfl⟩ : ∃ j, n = j + 1 := ⟨n - 1, by omega⟩
    have e0 : nI (c + 1) - 1 = nI c := nI_m1 (show 1 ≤ c + 1 by omega)
    have gen : ∀ G, F_X7_next_8 n = G → F_X7_next_8 (n + 1) (nI set) (nI (ffN set)) (nI (c + 1) - 1) h = F_X7_next_15 FU_ (F_X7_next_112 G) (nI set) (nI (ffN set)) (nI c) (nI 0) h := fun G hG => by
      rw [F_X7_next_8, hG, e0, if_neg (i_n0 (by omega))]; rfl
    have two : ∀ m (K : Int32 → Int32 → Int32 → Hp → Option Int32), F_X7_next_15 (m + 3) K (nI set) (nI (ffN set)) (nI c) (nI 0) h = if aR σ col z set (c * 2 + 0) = some (vW σ col z set) then some (nI (c + 10 * 0)) else if aR σ col z set (c * 2 + 1) = some (vW σ col z set) then some (nI (c + 10 * 1)) else K (nI set) (nI (ffN set)) (nI c) h := fun m K => by
      rw [M_nx15 hM hF hD hs hf (show c < 7 by omega) (show 0 < 2 by decide), M_nx15 hM hF hD hs hf (show c < 7 by omega) (show 0 + 1 < 2 by decide), F_X7_next_15, if_pos (show (2 : Int32) ≤ nI (0 + 1 + 1) by decide)]
    rw [gen _ rfl, show FU_ = 99997 + 3 from rfl, two, nxV]
    by_cases c1 : aR σ col z set (c * 2 + 0) = some (vW σ col z set)
    · rw [if_pos c1, if_pos c1]
    · rw [if_neg c1, if_neg c1]
      by_cases c2 : aR σ col z set (c * 2 + 1) = some (vW σ col z set)
      · rw [if_pos c2, if_pos c2]
      · rw [if_neg c2, if_neg c2, F_X7_next_112, nI_dec]
        exact ih n (by omega) (by omega)
theorem fsO_if {H : Nat → Prop} [DecidablePred H] {q j : Nat} : fsO (fun s => if H s then some s else none) (q + 1) j = if H j then some j else fsO (fun s => if H s then some s else none) q (j + 1) := by
  by_cases c : H j
  · rw [fsO_s (a := j) (by rw [if_pos c]), if_pos c]
  · rw [fsO_n (by rw [if_neg c]), if_neg c]
theorem map_if {α β : Type} {c : Prop} [Decidable c] (f : α → β) (a b : Option α) : (if c then a else b).map f = if c then a.map f else b.map f := by split <;> rfl
theorem nx_bw (σ : Sg) (col z set : Nat) : nxV σ col z set 7 = (bwS (opn σ col z) (wRt σ z) (wBh σ z) set).map (fun s => shK s + 10 * shT s) := by
  have d9 : aR σ col z set 9 = none := by
    unfold aR mkR
    rw [if_pos (show (9 % 2 = 1 ∧ lenN (9 / 2) = widN (9 / 2)) by decide), if_neg (fun w => w.1 rfl)]
  have d1 : aR σ col z set 1 = none := by
    unfold aR mkR
    rw [if_pos (show (1 % 2 = 1 ∧ lenN (1 / 2) = widN (1 / 2)) by decide), if_neg (fun w => w.1 rfl)]
  have hb : bwS (opn σ col z) (wRt σ z) (wBh σ z) set = fsO (fun s => if aS (opn σ col z) (wRt σ z) (wBh σ z) (vW σ col z) set s = some (vW σ col z set) then some s else none) 12 0 := rfl
  rw [hb, fsO_if, fsO_if, fsO_if, fsO_if, fsO_if, fsO_if, fsO_if, fsO_if, fsO_if, fsO_if, fsO_if, fsO_if]
  rw [map_if, map_if, map_if, map_if, map_if, map_if, map_if, map_if, map_if, map_if, map_if, map_if]
  rw [nxV, nxV, nxV, nxV, nxV, nxV, nxV, nxV]
  rw [show aR σ col z set (6 * 2 + 0) = _ from aR_s (s := 0) (by decide), show aR σ col z set (6 * 2 + 1) = _ from aR_s (s := 1) (by decide), show aR σ col z set (5 * 2 + 0) = _ from aR_s (s := 2) (by decide), show aR σ col z set (5 * 2 + 1) = _ from aR_s (s := 3) (by decide), show aR σ col z set (4 * 2 + 0) = _ from aR_s (s := 4) (by decide), show aR σ col z set (4 * 2 + 1) = none from d9, show aR σ col z set (3 * 2 + 0) = _ from aR_s (s := 5) (by decide), show aR σ col z set (3 * 2 + 1) = _ from aR_s (s := 6) (by decide), show aR σ col z set (2 * 2 + 0) = _ from aR_s (s := 7) (by decide), show aR σ col z set (2 * 2 + 1) = _ from aR_s (s := 8) (by decide), show aR σ col z set (1 * 2 + 0) = _ from aR_s (s := 9) (by decide), show aR σ col z set (1 * 2 + 1) = _ from aR_s (s := 10) (by decide), show aR σ col z set (0 * 2 + 0) = _ from aR_s (s := 11) (by decide), show aR σ col z set (0 * 2 + 1) = none from d1]
  rw [if_neg (show ¬ (none : Option Nat) = some (vW σ col z set) by simp), if_neg (show ¬ (none : Option Nat) = some (vW σ col z set) by simp)]
  rfl
theorem M_next {σ : Sg} {h : Hp} {col z : Nat} (hM : cvM σ col z ≤ 16) (hF : MF σ col z h) (hD : ∀ t, t < 2 ^ cvM σ col z → MDt σ col z h t) {set s : Nat} (hs : set < 2 ^ cvM σ col z) (hf : ffN set < cvM σ col z) (hb : bwS (opn σ col z) (wRt σ z) (wBh σ z) set = some s) : F_X7_next (nI set) h = some (nI (shK s + 10 * shT s)) := by
  have h16 := p16 hM
  unfold F_X7_next
  rw [f_firstOpen (by omega) (ff_tr (by omega)) (by omega), ob_s]
  have e := M_nx8 hM hF hD hs hf 7 FU_ (Nat.le_refl _) (by unfold FU_; omega)
  rw [nx_bw, hb] at e
  exact e
/-! step by step -/
noncomputable def stpS (p : Nat → Bool) (wR wB : Nat → Nat) (set : Nat) : Nat := set ||| wayM p set ((bwS p wR wB set).getD 0)
noncomputable def stI (p : Nat → Bool) (wR wB : Nat → Nat) : Nat → Nat → Nat
  | 0, set => set
  | n + 1, set => stI p wR wB n (stpS p wR wB set)
theorem stI_s (p : Nat → Bool) (wR wB : Nat → Nat) : ∀ n set, stI p wR wB (n + 1) set = stpS p wR wB (stI p wR wB n set)
  | 0, set => rfl
  | n + 1, set => by rw [stI, stI_s p wR wB n, stI]
theorem tlL_get (p : Nat → Bool) (wR wB : Nat → Nat) : ∀ r i set, i < r → (tlL p wR wB r set).getD i 0 = tvS p (stI p wR wB i set) ((bwS p wR wB (stI p wR wB i set)).getD 0)
  | 0, i, set, h => by omega
  | r + 1, 0, set, h => rfl
  | r + 1, i + 1, set, h => by
    have := tlL_get p wR wB r i (stpS p wR wB set) (by omega)
    rw [tlL]
    exact this
theorem stI_b {p : Nat → Bool} (hp : ∀ k, p k = true → k < 36) (hM : rkG p 36 ≤ 16) {wR wB : Nat → Nat} (hR : ∀ k, wR k ≤ 2) (hB : ∀ k, wB k ≤ 2) : ∀ n set, set < 2 ^ rkG p 36 → n ≤ bN (VW p wR wB set) → stI p wR wB n set < 2 ^ rkG p 36 ∧ bN (VW p wR wB (stI p wR wB n set)) + n = bN (VW p wR wB set)
  | 0, set, hs, _ => ⟨hs, rfl⟩
  | n + 1, set, hs, hn => by
    have hfl := ff_le hM hs
    have hf : ffN set < rkG p 36 := by
      rcases Nat.lt_or_ge (ffN set) (rkG p 36) with w | w
      · exact w
      · have := (full_b hp hM hR hB hs).mpr ((ff_full hM hs).mp (by omega))
        omega
    obtain ⟨s, es, -, -, -, eb, -⟩ := bw_ex hp hM hR hB hs hf
    have e : stpS p wR wB set = set ||| wayM p set s := by unfold stpS; rw [es]; rfl
    rw [stI, e]
    obtain ⟨i1, i2⟩ := stI_b hp hM hR hB n (set ||| wayM p set s) (or_lt2 hs (way_lt hp set s)) (by omega)
    exact ⟨i1, by omega⟩
/-- one step from a rest that is not full -/
theorem step_at {σ : Sg} {col z : Nat} (hM : cvM σ col z ≤ 16) {i : Nat} (hi : i < cvN σ col z) : ∃ s, s < 12 ∧ stI (opn σ col z) (wRt σ z) (wBh σ z) i 0 < 2 ^ cvM σ col z ∧ ffN (stI (opn σ col z) (wRt σ z) (wBh σ z) i 0) < cvM σ col z ∧ bwS (opn σ col z) (wRt σ z) (wBh σ z) (stI (opn σ col z) (wRt σ z) (wBh σ z) i 0) = some s ∧ wayM (opn σ col z) (stI (opn σ col z) (wRt σ z) (wBh σ z) i 0) s ≠ 0 ∧ stI (opn σ col z) (wRt σ z) (wBh σ z) (i + 1) 0 = stI (opn σ col z) (wRt σ z) (wBh σ z) i 0 ||| wayM (opn σ col z) (stI (opn σ col z) (wRt σ z) (wBh σ z) i 0) s ∧ (cvL σ col z).getD i 0 = tvS (opn σ col z) (stI (opn σ col z) (wRt σ z) (wBh σ z) i 0) s := by
  have hM' : rkG (opn σ col z) 36 ≤ 16 := hM
  have hR := wRt_le σ z
  have hB := wBh_le σ z
  have hpos : 0 < 2 ^ rkG (opn σ col z) 36 := Nat.pow_pos (by decide)
  have hN : cvN σ col z = bN (VW (opn σ col z) (wRt σ z) (wBh σ z) 0) := rfl
  obtain ⟨b1, b2⟩ := stI_b (p := opn σ col z) opn_p hM' hR hB i 0 hpos (by omega)
  have hfl := ff_le hM' b1
  have hf : ffN (stI (opn σ col z) (wRt σ z) (wBh σ z) i 0) < rkG (opn σ col z) 36 := by
    rcases Nat.lt_or_ge (ffN (stI (opn σ col z) (wRt σ z) (wBh σ z) i 0)) (rkG (opn σ col z) 36) with w | w
    · exact w
    · have := (full_b opn_p hM' hR hB b1).mpr ((ff_full hM' b1).mp (by omega))
      omega
  obtain ⟨s, es, hs12, v, -, -, -⟩ := bw_ex opn_p hM' hR hB b1 hf
  refine ⟨s, hs12, b1, hf, es, v.1, ?_, ?_⟩
  · rw [stI_s]; unfold stpS; rw [es]; rfl
  · unfold cvL
    rw [tlL_get _ _ _ _ i 0 hi, es]; rfl
theorem way_R {σ : Sg} {col z set s : Nat} (hs12 : s < 12) : mkR (opn σ col z) (nmG (opn σ col z) (ffN set) 36) (shK s) (shT s) = wayM (opn σ col z) set s := mkR_s hs12
theorem val_d {s : Nat} (hs : s < 12) : ir_ (nI (shK s + 10 * shT s)) 10 = nI (shK s) ∧ nI (shK s + 10 * shT s) / 10 = nI (shT s) := by
  obtain ⟨-, -, t3, t4⟩ := sh_t s hs
  constructor
  · rw [i_lit 10, i_rem (by omega) (by decide) (by decide)]; congr 1; omega
  · rw [i_lit 10, i_div (by omega) (by decide) (by decide)]; congr 1; omega
theorem M_coverG {σ : Sg} {h : Hp} (hw : Wf σ) (hm : RepM σ h) (x y : Int32) (f : Nat → Nat → Int32) (G : Hp → Option (Int32 × Hp)) (hG : ∀ col z h1, (1 ≤ col ∧ col ≤ 5) → z < 5 → x = nI col → y = nI z → cvM σ col z ≤ 16 → MA σ col z h1 → G h1 = some (f col z, h1)) : MQr h (s_cov σ x y f) ((F_X7_wrongCover x y h).bind fun ((v3, h3) : Int32 × Hp) => if v3 = 0 then (F_X7_covers h3).bind G else (F_X7_refuse v3 h3).bind fun ((v13, h13) : Int32 × Hp) => some (v13, h13)) := by
  unfold s_cov
  cases hx : inN (x - 1) 5 with
  | false =>
    unfold F_X7_wrongCover
    rw [f_isIn, hx, ob_s, if_pos b0_, Bool.false_and, if_neg (show ¬ false = true by decide), ob_s]
    dsimp only
    rw [if_neg (by decide), m_r1, ob_s]
    exact MQr.mk rfl rfl
  | true =>
    rw [Bool.true_and]
    cases hy : inN y 5 with
    | false =>
      unfold F_X7_wrongCover
      rw [f_isIn, hx, ob_s, if_neg b1_, f_isIn, hy, ob_s, if_pos b0_, if_neg (show ¬ false = true by decide), ob_s]
      dsimp only
      rw [if_neg (by decide), m_r1, ob_s]
      exact MQr.mk rfl rfl
    | true =>
      obtain ⟨col, hcol, rfl⟩ := col_n hx
      obtain ⟨z, hz, rfl⟩ := inN_n (n := 5) (by decide) hy
      obtain ⟨h1, e, C1, e38⟩ := M_wrong hw hm hcol hz
      rw [if_pos rfl, nI_clamp (by omega), nI_clamp (by omega), show F_X7_wrongCover (nI col) (nI z) h = _ from e, ob_s]
      dsimp only
      by_cases hM : cvM σ col z ≤ 16
      · obtain ⟨h2, e2, A2, f38⟩ := M_covers hw hz hM C1
        rw [if_pos hM, if_pos hM, if_pos rfl, e2, ob_s, hG col z h2 hcol hz rfl rfl hM A2]
        exact MQr.mk rfl (f38.trans e38)
      · rw [if_neg hM, if_neg hM, if_neg (by decide), m_r6, ob_s]
        exact MQr.mk rfl (rM_38 e38 6)
theorem M_cover {σ : Sg} {h : Hp} (hw : Wf σ) (hm : RepM σ h) (x y : Int32) : MQr h (s_cov σ x y fun c z => nI (cvN σ c z)) (F_X7_cover x y h) :=
  M_coverG hw hm x y _ (fun h18 => rA_ h18 55 65536 (0 : Int32) fun v26 => some (v26, h18)) (fun col z h1 _ _ _ _ hM A => by
    rw [show (0 : Int32) = nI 0 from rfl, rA_n _ 55 65536 _ (by decide) (by decide), (A.2.2.1 0 (Nat.pow_pos (by decide))).1]; rfl)
theorem M_coverSeams {σ : Sg} {h : Hp} (hw : Wf σ) (hm : RepM σ h) (x y : Int32) : MQr h (s_cov σ x y fun c z => cvD σ c z) (F_X7_coverSeams x y h) :=
  M_coverG hw hm x y _ (fun h18 => rA_ h18 56 65536 (0 : Int32) fun v30 => some ((gI_ h18 473) + v30, h18)) (fun col z h1 _ _ _ _ hM A => by
    rw [show (0 : Int32) = nI 0 from rfl, rA_n _ 56 65536 _ (by decide) (by decide), (A.2.2.1 0 (Nat.pow_pos (by decide))).2, A.2.2.2]
    have : nI (sgS σ col z) + ngI (bS (vW σ col z 0)) = cvD σ col z := by
      unfold cvD ngI
      rw [zI_n, zI_n, zI_add, zI_sub]; rfl
    rw [this])
theorem M_coverAt {σ : Sg} {h : Hp} (hw : Wf σ) (hm : RepM σ h) (x y w : Int32) : MQr h (s_cov σ x y fun c z => cvAt σ w c z) (F_X7_coverAt x y w h) :=
  M_coverG hw hm x y _ (fun h21 => rA_ h21 55 65536 (0 : Int32) fun v30 => (F_X7_isIn w v30).bind fun v31 => if v31 = 0 then some ((-9), h21) else (F_X7_coverAt_46 FU_ F_X7_coverAt_94) w 0 0 h21) (fun col z h1 _ hz _ _ hM A => by
    have h16 := p16 hM
    have hN := cvN_le hM
    rw [show rA_ h1 55 65536 (0 : Int32) = rA_ h1 55 65536 (nI 0) from rfl, rA_n _ 55 65536 _ (by decide) (by decide), (A.2.2.1 0 (Nat.pow_pos (by decide))).1, show bN (vW σ col z 0) = cvN σ col z from rfl, f_isIn, ob_s]
    unfold cvAt
    cases hp : inN w (nI (cvN σ col z)) with
    | false => rw [if_pos b0_, if_neg (show ¬ false = true by decide)]
    | true =>
      obtain ⟨i, hi, rfl⟩ := inN_n (by omega) hp
      rw [if_neg b1_, if_pos rfl, nI_clamp (by omega)]
      refine lp_FU (fun n j => F_X7_coverAt_46 n F_X7_coverAt_94 (nI i) (nI (stI (opn σ col z) (wRt σ z) (wBh σ z) j 0)) (nI j) h1) _ i (by omega) (fun n j hj => ?_) (fun n => ?_)
      · show F_X7_coverAt_46 (n + 1) _ _ _ _ _ = F_X7_coverAt_46 n _ _ _ _ _
        obtain ⟨s, hs12, hs, hf, hb, -, est, -⟩ := step_at hM (show j < cvN σ col z by omega)
        obtain ⟨d1, d2⟩ := val_d hs12
        obtain ⟨k1, k2, k3⟩ := nmG_e (p := opn σ col z) (i := ffN (stI (opn σ col z) (wRt σ z) (wBh σ z) j 0)) (n := 36) hf
        obtain ⟨-, -, t3, t4⟩ := sh_t s hs12
        obtain ⟨f58, -⟩ := A.2.1 ((ffN (stI (opn σ col z) (wRt σ z) (wBh σ z) j 0) * 7 + shK s) * 2 + shT s) (by omega) _ (shK s) (shT s) k2 t3 t4 (by rw [k3])
        rw [F_X7_coverAt_46, if_neg (show ¬ nI i ≤ nI j from nI_ge hj (by omega)), M_next hM A.2.1 A.2.2.1 hs hf hb, ob_s, f_firstOpen (by omega) (ff_tr (by omega)) (by omega), ob_s, d1, d2, f_shapeAt, ob_s, rA_n _ 58 224 _ (by omega) (by decide), f58, way_R hs12, nI_or, show nI j + 1 = nI (j + 1) from nI_add j 1, est]
      · show F_X7_coverAt_46 (n + 1) _ _ _ _ _ = _
        obtain ⟨s, hs12, hs, hf, hb, -, -, eg⟩ := step_at hM hi
        obtain ⟨k1, k2, k3⟩ := nmG_e (p := opn σ col z) (i := ffN (stI (opn σ col z) (wRt σ z) (wBh σ z) i 0)) (n := 36) hf
        have e54 := A.1.2.2.2 _ k2
        rw [k3] at e54
        obtain ⟨kc1, kc2⟩ := k_coord k1
        rw [F_X7_coverAt_46, if_pos ((i_le (by omega) (by omega)).mpr (Nat.le_refl _)), F_X7_coverAt_94, f_firstOpen (by omega) (ff_tr (by omega)) (by omega), ob_s, rA_n _ 54 36 _ (by omega) (by decide), e54, M_next hM A.2.1 A.2.2.1 hs hf hb, ob_s, (c36 hz k1).1, kc1, kc2, show (100 : Int32) = nI 100 from rfl, show (1000 : Int32) = nI 1000 from rfl, pk_mul, pk_mul, nI_add, nI_add, eg]
        rfl)
