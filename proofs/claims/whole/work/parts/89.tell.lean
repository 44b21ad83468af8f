/-! ===== the class: seams of singles, and the telling ===== -/
def npA (a b c d : Bool) : Bool := (a || b) && ((a || c) && (b || d))
def bkK (σ : Sg) (z k : Nat) : Bool := decide (k < 36) && (sGr σ (36 * z + k)).isSome
theorem f_brA {σ : Sg} {h : Hp} (hw : Wf σ) (hc : RepC σ h) {z x y : Nat} (hz : z < 5) (hx : x ≤ 6) (hy : y ≤ 6) (G : Int32 → Option Int32) : ((F_X2_brickAt (nI x) (nI y) (nI z) h).bind fun v => if v = (-1) then some (0 : Int32) else G v) = if (decide (x < 6 ∧ y < 6) && bkK σ z (6 * y + x)) = true then G (gvB (grAt σ (nI x) (nI y) (nI z))) else some 0 := by
  rw [f_brickAt hc, ob_s]
  by_cases q : x < 6 ∧ y < 6
  · have e : grAt σ (nI x) (nI y) (nI z) = sGr σ (36 * z + (6 * y + x)) := by rw [grAt_n q.1 q.2 hz]; congr 1; omega
    rw [decide_eq_true q]
    unfold bkK
    rw [decide_eq_true (show 6 * y + x < 36 by omega), e]
    cases w : sGr σ (36 * z + (6 * y + x)) with
    | none => rw [if_pos (show gvB none = -1 from rfl), if_neg (by simp)]
    | some b =>
      have := hw.2.2.2.2.1 _ b w
      have h40 := hw.1
      rw [if_neg (show ¬ gvB (some b) = -1 from nI_nm1 (show b < 2 ^ 31 by omega)), if_pos (by rfl)]
  · have e : grAt σ (nI x) (nI y) (nI z) = none := by
      unfold grAt
      rw [if_neg]
      intro w
      obtain ⟨a, b, c, ha, hb, hc', ea, eb, ec⟩ := inP_n w
      have e1 := (i_eq (by omega) (by omega)).mp ea
      have e2 := (i_eq (by omega) (by omega)).mp eb
      omega
    rw [e, decide_eq_false q, if_pos (show gvB none = -1 from rfl), if_neg (by simp)]
theorem f_newPair {σ : Sg} {h : Hp} (hw : Wf σ) {col z : Nat} (hz : z < 5) (hC : CC σ col z h) (hM : cvM σ col z ≤ 16) {x y u v : Nat} (hx : x < 6) (hy : y < 6) (hu : u ≤ 6) (hv : v ≤ 6) : F_X3_isNewPair (nI x) (nI y) (nI u) (nI v) h = some (bi_ (npA (opn σ col z (6 * y + x)) (decide (u < 6 ∧ v < 6) && opn σ col z (6 * v + u)) (bkK σ z (6 * y + x)) (decide (u < 6 ∧ v < 6) && bkK σ z (6 * v + u)))) := by
  have n1 : F_X3_numberAt (nI x) (nI y) h = some (num (opn σ col z) (6 * y + x)) := by rw [f_numAt hC hM (by omega) (by omega), if_pos ⟨hx, hy⟩]
  have r1 : rkG (opn σ col z) (6 * y + x) < 2 ^ 31 := by have := rkG_le (opn σ col z) (6 * y + x); omega
  have r2 : rkG (opn σ col z) (6 * v + u) < 2 ^ 31 := by have := rkG_le (opn σ col z) (6 * v + u); omega
  have neg : ∀ a : Int32, a < 0 ↔ ¬ 0 ≤ a := fun a => by rw [i_ltT, i_leT]; omega
  have p65 : ∀ b : Bool, F_X3_isNewPair_65 (nI u) (nI v) (bi_ b) h = some (bi_ (b || (decide (u < 6 ∧ v < 6) && bkK σ z (6 * v + u)))) := fun b => by
    unfold F_X3_isNewPair_65
    rw [hC.2.2.1, f_brA hw hC.1 hz hu hv (fun _ => some 1)]
    cases b with
    | true => rw [if_neg b1_]; rfl
    | false =>
      rw [if_pos b0_, Bool.false_or]
      cases (decide (u < 6 ∧ v < 6) && bkK σ z (6 * v + u)) <;> rfl
  have p43 : ∀ a b : Bool, F_X3_isNewPair_43 (nI x) (nI y) (nI u) (nI v) (bi_ a) (bi_ b) h = some (bi_ ((a || bkK σ z (6 * y + x)) && (b || (decide (u < 6 ∧ v < 6) && bkK σ z (6 * v + u))))) := fun a b => by
    unfold F_X3_isNewPair_43
    rw [hC.2.2.1, f_brA hw hC.1 hz (by omega) (by omega) (fun _ => F_X3_isNewPair_65 (nI u) (nI v) (bi_ b) h), p65, decide_eq_true (show x < 6 ∧ y < 6 from ⟨hx, hy⟩), Bool.true_and]
    cases a with
    | true => rw [if_neg b1_]; rfl
    | false =>
      rw [if_pos b0_, Bool.false_or]
      cases bkK σ z (6 * y + x) <;> rfl
  have p31 : ∀ a b : Bool, F_X3_isNewPair_31 (nI x) (nI y) (nI u) (nI v) (bi_ a) (bi_ b) h = some (bi_ (npA a b (bkK σ z (6 * y + x)) (decide (u < 6 ∧ v < 6) && bkK σ z (6 * v + u)))) := fun a b => by
    unfold F_X3_isNewPair_31 npA
    rw [p43]
    cases a with
    | true => rw [if_neg b1_]; rfl
    | false =>
      rw [if_pos b0_]
      cases b with
      | true => rw [if_neg b1_]; rfl
      | false => rw [if_pos b0_]; rfl
  have p14 : ∀ a : Bool, F_X3_isNewPair_14 (nI x) (nI y) (nI u) (nI v) (bi_ a) h = some (bi_ (npA a (decide (u < 6 ∧ v < 6) && opn σ col z (6 * v + u)) (bkK σ z (6 * y + x)) (decide (u < 6 ∧ v < 6) && bkK σ z (6 * v + u)))) := fun a => by
    unfold F_X3_isNewPair_14
    rw [f_numAt hC hM (by omega) (by omega), ob_s]
    have e : ∀ b : Bool, (if b = true then (1 : Int32) else 0) = bi_ b := fun b => by cases b <;> rfl
    by_cases q : u < 6 ∧ v < 6
    · rw [if_pos q, decide_eq_true q, Bool.true_and, Bool.true_and]
      cases w : opn σ col z (6 * v + u) with
      | true =>
        rw [if_neg (fun t => ((neg _).mp t) ((num_pos r2).mpr w))]
        have := p31 a true
        rw [decide_eq_true q, Bool.true_and] at this
        exact this
      | false =>
        rw [if_pos ((neg _).mpr (fun t => by have := (num_pos r2).mp t; rw [w] at this; cases this))]
        have := p31 a false
        rw [decide_eq_true q, Bool.true_and] at this
        exact this
    · rw [if_neg q, decide_eq_false q, Bool.false_and, Bool.false_and, if_pos (by decide)]
      have := p31 a false
      rw [decide_eq_false q, Bool.false_and] at this
      exact this
  unfold F_X3_isNewPair
  rw [n1, ob_s]
  cases w : opn σ col z (6 * y + x) with
  | true => rw [if_neg (fun t => ((neg _).mp t) ((num_pos r1).mpr w))]; exact p14 true
  | false => rw [if_pos ((neg _).mpr (fun t => by have := (num_pos r1).mp t; rw [w] at this; cases this))]; exact p14 false
def sgT (σ : Sg) (col z k : Nat) : Nat := (if npA (opn σ col z k) (decide (k % 6 < 5) && opn σ col z (k + 1)) (bkK σ z k) (decide (k % 6 < 5) && bkK σ z (k + 1)) = true then wRt σ z k else 0) + (if npA (opn σ col z k) (decide (k / 6 < 5) && opn σ col z (k + 6)) (bkK σ z k) (decide (k / 6 < 5) && bkK σ z (k + 6)) = true then wBh σ z k else 0)
def sgS (σ : Sg) (col z : Nat) : Nat := sumN (sgT σ col z) 36
theorem sgT_le (σ : Sg) (col z k : Nat) : sgT σ col z k ≤ 4 := by
  have := wRt_le σ z k
  have := wBh_le σ z k
  unfold sgT
  split <;> split <;> omega
theorem C_singles {σ : Sg} {h : Hp} (hw : Wf σ) {col z : Nat} (hz : z < 5) (hC : CC σ col z h) (hW : CW σ z h) (hM : cvM σ col z ≤ 16) : F_X3_seamsOfSingles h = some (nI (sgS σ col z)) := by
  unfold F_X3_seamsOfSingles
  refine lp_FU (fun n k => F_X3_seamsOfSingles_4 n (nI (sumN (sgT σ col z) k)) (nI k) h) _ 36 (by decide) (fun n k hk => ?_) (fun n => ?_)
  · show F_X3_seamsOfSingles_4 (n + 1) _ _ _ = F_X3_seamsOfSingles_4 n _ _ _
    obtain ⟨k1, k2⟩ := k_coord hk
    obtain ⟨w1, w2⟩ := hW k hk
    have gen : ∀ G, F_X3_seamsOfSingles_4 n = G → F_X3_seamsOfSingles_4 (n + 1) (nI (sumN (sgT σ col z) k)) (nI k) h = G (nI (sumN (sgT σ col z) k + sgT σ col z k)) (nI (k + 1)) h := fun G hG => by
      rw [F_X3_seamsOfSingles_4, hG, if_neg (show ¬ (36 : Int32) ≤ nI k from (nI_ge hk (by decide) : ¬ nI 36 ≤ nI k)), k1, k2, show nI (k % 6) + 1 = nI (k % 6 + 1) from nI_add _ 1, f_newPair hw hz hC hM (by omega) (by omega) (by omega) (by omega), ob_s, show 6 * (k / 6) + k % 6 = k by omega, show 6 * (k / 6) + (k % 6 + 1) = k + 1 by omega, rA_n _ 24 36 _ hk (by decide), w1, show (decide (k % 6 + 1 < 6 ∧ k / 6 < 6)) = decide (k % 6 < 5) from (by rw [decide_eq_decide]; omega)]
      have p45 : ∀ a, F_X3_seamsOfSingles_45 G (nI a) (nI k) (nI (k % 6)) (nI (k / 6)) h = G (nI (a + if npA (opn σ col z k) (decide (k / 6 < 5) && opn σ col z (k + 6)) (bkK σ z k) (decide (k / 6 < 5) && bkK σ z (k + 6)) = true then wBh σ z k else 0)) (nI (k + 1)) h := fun a => by
        unfold F_X3_seamsOfSingles_45 F_X3_seamsOfSingles_69
        rw [show nI (k / 6) + 1 = nI (k / 6 + 1) from nI_add _ 1, f_newPair hw hz hC hM (by omega) (by omega) (by omega) (by omega), ob_s, show 6 * (k / 6) + k % 6 = k by omega, show 6 * (k / 6 + 1) + k % 6 = k + 6 by omega, rA_n _ 25 36 _ hk (by decide), w2, show (decide (k % 6 < 6 ∧ k / 6 + 1 < 6)) = decide (k / 6 < 5) from (by rw [decide_eq_decide]; omega), show nI k + 1 = nI (k + 1) from nI_add _ 1, nI_add]
        cases npA (opn σ col z k) (decide (k / 6 < 5) && opn σ col z (k + 6)) (bkK σ z k) (decide (k / 6 < 5) && bkK σ z (k + 6)) with
        | true => rw [if_neg b1_, if_pos rfl]
        | false => rw [if_pos b0_, if_neg (by decide)]; rfl
      unfold sgT
      rw [p45, nI_add, p45]
      cases npA (opn σ col z k) (decide (k % 6 < 5) && opn σ col z (k + 1)) (bkK σ z k) (decide (k % 6 < 5) && bkK σ z (k + 1)) with
      | true => rw [if_neg b1_, if_pos rfl, Nat.add_assoc]
      | false => rw [if_pos b0_, if_neg (show ¬ false = true by decide), Nat.zero_add]
    exact gen _ rfl
  · show F_X3_seamsOfSingles_4 (n + 1) _ _ _ = _
    rw [F_X3_seamsOfSingles_4, if_pos (by decide)]; rfl
/-! the telling -/
noncomputable def tvS (p : Nat → Bool) (set s : Nat) : Nat := shK s + 10 * shT s + 100 * (nmG p (ffN set) 36 % 6) + 1000 * (nmG p (ffN set) 36 / 6)
noncomputable def tlL (p : Nat → Bool) (wR wB : Nat → Nat) : Nat → Nat → List Nat
  | 0, _ => []
  | r + 1, set => tvS p set ((bwS p wR wB set).getD 0) :: tlL p wR wB r (set ||| wayM p set ((bwS p wR wB set).getD 0))
theorem tlL_len {p : Nat → Bool} {wR wB : Nat → Nat} : ∀ r set, (tlL p wR wB r set).length = r
  | 0, _ => rfl
  | r + 1, set => by rw [tlL, List.length_cons, tlL_len r]
theorem full_b {p : Nat → Bool} (hp : ∀ k, p k = true → k < 36) (hM : rkG p 36 ≤ 16) {wR wB : Nat → Nat} (hR : ∀ k, wR k ≤ 2) (hB : ∀ k, wB k ≤ 2) {set : Nat} (hs : set < 2 ^ rkG p 36) : bN (VW p wR wB set) = 0 ↔ set = 2 ^ rkG p 36 - 1 := by
  have hfl := ff_le hM hs
  constructor
  · intro h
    rcases Nat.lt_or_ge (ffN set) (rkG p 36) with w | w
    · obtain ⟨s, -, -, -, -, b, -⟩ := bw_ex hp hM hR hB hs w
      omega
    · exact (ff_full hM hs).mp (by omega)
  · intro h
    have := (ff_full hM hs).mpr h
    rw [VW_u hp hM hs, if_neg (by omega)]; rfl
theorem C_tell6 {σ : Sg} (hw : Wf σ) {col z : Nat} (hz : z < 5) (hM : cvM σ col z ≤ 16) : ∀ r n set sp i h, bN (vW σ col z set) = r → r < n → set < 2 ^ cvM σ col z → i + r ≤ 16 → CA σ col z h → gI_ h 204 = nI i → ∃ h1, F_X3_tell_6 n (nI set) (nI sp) (nI i) h = some h1 ∧ gI_ h1 204 = nI (i + r) ∧ gI_ h1 205 = nI (sgS σ col z) - nI (sp + bS (vW σ col z set)) ∧ (∀ j, j < i → gA_ h1 30 j = gA_ h 30 j) ∧ RowIn (gA_ h1 30) i (tlL (opn σ col z) (wRt σ z) (wBh σ z) r set) := by
  have h16 := p16 hM
  have hR := wRt_le σ z
  have hB := wBh_le σ z
  have hM' : rkG (opn σ col z) 36 ≤ 16 := hM
  have hpos : 0 < 2 ^ cvM σ col z := Nat.pow_pos (by decide)
  have em : is_ 1 (nI (cvM σ col z)) - 1 = nI (2 ^ cvM σ col z - 1) := by
    rw [sh1 _ (by omega), show (1 : Int32) = nI 1 from rfl, pk_sub hpos]
  intro r
  induction r with
  | zero =>
    intro n set sp i h hr hn hs hi hA e4
    obtain ⟨n, rfl⟩ : ∃ j, n = j + 1 := ⟨n - 1, by omega⟩
    have hfull := (full_b opn_p hM' hR hB hs).mp hr
    have hV0 : vW σ col z set = 0 := by unfold bN at hr; omega
    have eS : bS (vW σ col z set) = 0 := by rw [hV0]; rfl
    refine ⟨sI_ h 205 (nI (sgS σ col z) - nI sp), ?_, e4, by rw [gI_sI, if_pos rfl, eS, Nat.add_zero], fun _ _ => rfl, fun j hj => absurd hj (by rw [tlL_len]; omega)⟩
    rw [F_X3_tell_6, C_singles hw hz hA.1 hA.2.1 hM, ob_s, bd_e, hA.1.2.2.2.1, em, if_pos (show nI set = nI (2 ^ cvM σ col z - 1) from by rw [hfull]; rfl)]
    split <;> rfl
  | succ r ih =>
    intro n set sp i h hr hn hs hi hA e4
    obtain ⟨n, rfl⟩ : ∃ j, n = j + 1 := ⟨n - 1, by omega⟩
    have hfl := ff_le hM hs
    have hnf : ¬ set = 2 ^ cvM σ col z - 1 := fun q => by
      have := (full_b opn_p hM' hR hB hs).mpr q
      rw [show VW (opn σ col z) (wRt σ z) (wBh σ z) set = vW σ col z set from rfl, hr] at this
      omega
    have hf : ffN set < cvM σ col z := by
      rcases Nat.lt_or_ge (ffN set) (cvM σ col z) with w | w
      · exact w
      · exact absurd ((ff_full hM hs).mp (by omega)) hnf
    obtain ⟨s, es, hs12, v, ev, eb, eS⟩ := bw_ex opn_p hM' hR hB hs hf
    have hml : wayM (opn σ col z) set s < 2 ^ cvM σ col z := way_lt opn_p set s
    obtain ⟨t1, t2, t3, t4⟩ := sh_t s hs12
    obtain ⟨k1, k2, k3⟩ := nmG_e (p := opn σ col z) (i := ffN set) (n := 36) hf
    obtain ⟨kc1, kc2⟩ := k_coord k1
    obtain ⟨h2, e2, A2⟩ := C_bestWay hM hs hf es hA
    have s2 := w_X3_bestWay _ _ _ _ e2
    have e22 : gA_ h2 22 (ffN set) = nI (nmG (opn σ col z) (ffN set) 36) := by
      have := A2.1.2.2.2.2.2 _ k2 (by omega)
      rw [k3] at this; exact this
    obtain ⟨e26, e27, -⟩ := C_isFree hM A2.2.2.1 hf hs hs12
    have e4' : gI_ h2 204 = nI i := by rw [s2.1 204 (by decide)]; exact e4
    rw [F_X3_tell_6, if_neg (show ¬ (16 : Int32) ≤ nI i from (nI_ge (show i < 16 by omega) (by decide) : ¬ nI 16 ≤ nI i)), hA.1.2.2.2.1, em, if_neg (fun q => hnf ((i_eq (by omega) (by omega)).mp q)), e2, ob_s]
    dsimp only
    rw [if_pos (show (0 : Int32) ≤ nI (ffN set * 12 + s) from nI_pos' (by omega)), show nI (ffN set * 12 + s) / 12 = nI (ffN set) from (by rw [i_lit 12, i_div (by omega) (by decide) (by decide)]; congr 1; omega), rA_n _ 22 16 _ (by omega) (by decide), e22, show ir_ (nI (ffN set * 12 + s)) 12 = nI s from (by rw [i_lit 12, i_rem (by omega) (by decide) (by decide)]; congr 1; omega), rS_n _ _ hs12 (by decide), rS_n _ _ hs12 (by decide), t1, t2, wA_n _ 30 16 _ _ (show i < 16 by omega) (by decide), kc1, kc2, show (10 : Int32) = nI 10 from rfl, show (100 : Int32) = nI 100 from rfl, show (1000 : Int32) = nI 1000 from rfl, pk_mul, pk_mul, pk_mul, nI_add, nI_add, nI_add, rA_n _ 26 192 _ (by omega) (by decide), rA_n _ 27 192 _ (by omega) (by decide), bd_e]
    show ∃ h1, F_X3_tell_6 n (nI set ||| gA_ h2 26 (ffN set * 12 + s)) (nI sp + gA_ h2 27 (ffN set * 12 + s)) (nI i + 1) (sI_ (sA_ h2 30 i (nI (tvS (opn σ col z) set s))) 204 (gI_ h2 204 + 1)) = some h1 ∧ _
    rw [e26, e27 v.1, e4', nI_or, nI_add, show nI i + 1 = nI (i + 1) from nI_add i 1]
    have s3 : Sm [204] [] [30] [] h2 (sI_ (sA_ h2 30 i (nI (tvS (opn σ col z) set s))) 204 (nI (i + 1))) := sm_A (k := 30) (by decide) rfl (sm_I (k := 204) (by decide) rfl sm_rf)
    have A3 : CA σ col z (sI_ (sA_ h2 30 i (nI (tvS (opn σ col z) set s))) 204 (nI (i + 1))) := ⟨A2.1.sm s3 (by decide), A2.2.1.sm rfl rfl, A2.2.2.1.sm rfl rfl, A2.2.2.2⟩
    obtain ⟨h3, e3, r1, r2, r3, r4⟩ := ih n (set ||| wayM (opn σ col z) set s) (sp + cvS (opn σ col z) (wRt σ z) (wBh σ z) (wayM (opn σ col z) set s)) (i + 1) _ (by have q : bN (vW σ col z set) = bN (vW σ col z (set ||| wayM (opn σ col z) set s)) + 1 := eb; omega) (by omega) (or_lt2 hs hml) (by omega) A3 (by rw [gI_sI, if_pos rfl])
    refine ⟨h3, e3, by rw [r1]; congr 1; omega, ?_, fun j hj => ?_, ?_⟩
    · rw [r2, show bS (vW σ col z set) = _ from eS, Nat.add_assoc]
    · rw [r3 j (by omega)]
      show upd (gA_ h2 30) i _ j = _
      rw [pk_un (by omega), s2.2.2.1 30 (by decide)]
    · rw [tlL, es]
      exact RowIn.cons (by
        rw [r3 i (by omega)]
        show upd (gA_ h2 30) i _ i = _
        rw [pk_us]; rfl) r4
