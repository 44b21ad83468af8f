/-! ===== the class: all fits ===== -/
def CFw (σ : Sg) (col z : Nat) (h : Hp) (w : Nat) : Prop := ∀ k s, opn σ col z k = true → s < 12 → rkG (opn σ col z) k * 12 + s = w → gA_ h 26 w = nI (mkS (opn σ col z) k s) ∧ (mkS (opn σ col z) k s ≠ 0 → gA_ h 27 w = nI (cvS (opn σ col z) (wRt σ z) (wBh σ z) (mkS (opn σ col z) k s)))
def CF (σ : Sg) (col z : Nat) (h : Hp) : Prop := ∀ w, w < cvM σ col z * 12 → CFw σ col z h w
theorem CC.sm {σ : Sg} {col z : Nat} {h h' : Hp} {wI wA : List Nat} (c : CC σ col z h) (s : Sm wI [] wA [] h h') (hw : (∀ k ∈ [138, 259, 203, 206, 207], k ∉ wI) ∧ ∀ k ∈ [8, 9, 12, 13, 14, 15, 16, 17, 21, 22, 23], k ∉ wA) : CC σ col z h' := by
  obtain ⟨w1, w2⟩ := hw
  refine ⟨c.1.sm s ⟨fun k hk => w1 k (by revert k; decide), by decide, fun k hk => w2 k (by revert k; decide), by decide⟩, ?_, ?_, ?_, ?_, ?_⟩
  · rw [s.1 206 (w1 206 (by decide))]; exact c.2.1
  · rw [s.1 207 (w1 207 (by decide))]; exact c.2.2.1
  · rw [s.1 203 (w1 203 (by decide))]; exact c.2.2.2.1
  · rw [s.2.2.1 23 (w2 23 (by decide))]; exact c.2.2.2.2.1
  · rw [s.2.2.1 22 (w2 22 (by decide))]; exact c.2.2.2.2.2
theorem C_fits18 {σ : Sg} {col z : Nat} (hM : cvM σ col z ≤ 16) {k : Nat} (hk : opn σ col z k = true) (K : Int32 → Hp → Option Hp) : ∀ q n s h, q + s = 12 → q < n → CC σ col z h → CW σ z h → (∀ w, w < rkG (opn σ col z) k * 12 + s → CFw σ col z h w) → ∃ h1, F_X3_findFits_18 n K (nI (rkG (opn σ col z) k)) (nI s) h = K (nI (rkG (opn σ col z) k)) h1 ∧ CC σ col z h1 ∧ CW σ z h1 ∧ ∀ w, w < rkG (opn σ col z) k * 12 + 12 → CFw σ col z h1 w := by
  intro q
  induction q with
  | zero =>
    intro n s h hq hn hC hW hF
    obtain ⟨n, rfl⟩ : ∃ j, n = j + 1 := ⟨n - 1, by omega⟩
    have e : s = 12 := by omega
    subst e
    exact ⟨h, by rw [F_X3_findFits_18, if_pos (by decide)], hC, hW, hF⟩
  | succ q ih =>
    intro n s h hq hn hC hW hF
    obtain ⟨n, rfl⟩ : ∃ j, n = j + 1 := ⟨n - 1, by omega⟩
    obtain ⟨h1, e, f1, f2, f3⟩ := C_findFit hC hW hM hk (show s < 12 by omega)
    have s1 := w_X3_findFit _ _ _ _ e
    have W1 : CW σ z h1 := fun j hj => by rw [s1.2.2.1 24 (by decide), s1.2.2.1 25 (by decide)]; exact hW j hj
    rw [F_X3_findFits_18, if_neg (show ¬ (12 : Int32) ≤ nI s from (nI_ge (by omega) (by decide) : ¬ nI 12 ≤ nI s)), e, ob_s, show nI s + 1 = nI (s + 1) from nI_add s 1]
    refine ih n (s + 1) h1 (by omega) (by omega) (hC.sm s1 (by decide)) W1 (fun w hw k' s' hk' hs' ew => ?_)
    by_cases u : w = rkG (opn σ col z) k * 12 + s
    · have e1 : rkG (opn σ col z) k' = rkG (opn σ col z) k := by omega
      have e2 : s' = s := by omega
      have e3 := rkG_inj hk' hk e1
      subst e2; subst e3
      rw [f1 w, if_pos u]
      exact ⟨rfl, fun v => by rw [u]; exact f3 v⟩
    · rw [f1 w, if_neg u, f2 w u]
      exact hF w (by omega) k' s' hk' hs' ew
theorem C_findFits {σ : Sg} {h : Hp} {col z : Nat} (hC : CC σ col z h) (hW : CW σ z h) (hM : cvM σ col z ≤ 16) : ∃ h1, F_X3_findFits h = some h1 ∧ CC σ col z h1 ∧ CW σ z h1 ∧ CF σ col z h1 := by
  have key : ∀ q n c h, q + c = cvM σ col z → q < n → CC σ col z h → CW σ z h → (∀ w, w < c * 12 → CFw σ col z h w) → ∃ h1, F_X3_findFits_2 n (nI c) h = some h1 ∧ CC σ col z h1 ∧ CW σ z h1 ∧ CF σ col z h1 := by
    intro q
    induction q with
    | zero =>
      intro n c h hq hn hC hW hF
      obtain ⟨n, rfl⟩ : ∃ j, n = j + 1 := ⟨n - 1, by omega⟩
      have e : c = cvM σ col z := by omega
      subst e
      exact ⟨h, by rw [F_X3_findFits_2, hC.2.2.2.1, if_pos ((i_le (by omega) (by omega)).mpr (Nat.le_refl _))], hC, hW, hF⟩
    | succ q ih =>
      intro n c h hq hn hC hW hF
      obtain ⟨n, rfl⟩ : ∃ j, n = j + 1 := ⟨n - 1, by omega⟩
      obtain ⟨k, k36, hk, hr⟩ := rkG_ex 36 (show c < rkG (opn σ col z) 36 from (by unfold cvM at hq; omega))
      subst hr
      rw [F_X3_findFits_2, hC.2.2.2.1, if_neg (show ¬ nI (cvM σ col z) ≤ nI (rkG (opn σ col z) k) from nI_ge (by omega) (by omega)), if_neg (show ¬ (16 : Int32) ≤ nI (rkG (opn σ col z) k) from (nI_ge (show rkG (opn σ col z) k < 16 by omega) (by decide) : ¬ nI 16 ≤ nI (rkG (opn σ col z) k)))]
      obtain ⟨h1, e1, C1, W1, F1⟩ := C_fits18 hM hk (F_X3_findFits_36 (F_X3_findFits_2 n)) 12 FU_ 0 h (by omega) (by unfold FU_; omega) hC hW hF
      obtain ⟨h2, e2, r2⟩ := ih n (rkG (opn σ col z) k + 1) h1 (by omega) (by omega) C1 W1 (fun w hw => F1 w (by omega))
      refine ⟨h2, ?_, r2⟩
      have e1' : F_X3_findFits_18 FU_ (F_X3_findFits_36 (F_X3_findFits_2 n)) (nI (rkG (opn σ col z) k)) 0 h = F_X3_findFits_36 (F_X3_findFits_2 n) (nI (rkG (opn σ col z) k)) h1 := e1
      rw [e1', F_X3_findFits_36, show nI (rkG (opn σ col z) k) + 1 = nI (rkG (opn σ col z) k + 1) from nI_add _ 1, e2]
  exact key (cvM σ col z) FU_ 0 h (by omega) (by have := cvM_le σ col z; unfold FU_; omega) hC hW (fun w hw => by omega)
/-! ===== the best cover, as numbers ===== -/
def mnO (f : Nat → Option Nat) (init : Nat) : Nat → Nat
  | 0 => init
  | s + 1 => match f s with
    | none => mnO f init s
    | some a => min (mnO f init s) a
theorem mnO_n {f : Nat → Option Nat} {init s : Nat} (h : f s = none) : mnO f init (s + 1) = mnO f init s := by rw [mnO, h]
theorem mnO_s {f : Nat → Option Nat} {init s a : Nat} (h : f s = some a) : mnO f init (s + 1) = min (mnO f init s) a := by rw [mnO, h]
theorem mnO_init (f : Nat → Option Nat) (init : Nat) : ∀ n, mnO f init n ≤ init
  | 0 => Nat.le_refl _
  | n + 1 => by
    have := mnO_init f init n
    cases h : f n with
    | none => rw [mnO_n h]; exact this
    | some a => rw [mnO_s h]; omega
theorem mnO_le {f : Nat → Option Nat} {init s a : Nat} (h : f s = some a) : ∀ n, s < n → mnO f init n ≤ a
  | 0, q => by omega
  | n + 1, q => by
    by_cases e : s = n
    · subst e; rw [mnO_s h]; omega
    · have := mnO_le (init := init) h n (by omega)
      cases hn : f n with
      | none => rw [mnO_n hn]; exact this
      | some b => rw [mnO_s hn]; omega
theorem mnO_at (f : Nat → Option Nat) (init : Nat) : ∀ n, mnO f init n = init ∨ ∃ s, s < n ∧ f s = some (mnO f init n)
  | 0 => Or.inl rfl
  | n + 1 => by
    rcases mnO_at f init n with q | ⟨s, hs, q⟩
    · cases h : f n with
      | none => rw [mnO_n h]; exact Or.inl q
      | some a =>
        rw [mnO_s h]
        rcases Nat.le_total (mnO f init n) a with w | w
        · rw [Nat.min_eq_left w]; exact Or.inl q
        · rw [Nat.min_eq_right w]; exact Or.inr ⟨n, by omega, h⟩
    · cases h : f n with
      | none => rw [mnO_n h]; exact Or.inr ⟨s, by omega, q⟩
      | some a =>
        rw [mnO_s h]
        rcases Nat.le_total (mnO f init n) a with w | w
        · rw [Nat.min_eq_left w]; exact Or.inr ⟨s, by omega, q⟩
        · rw [Nat.min_eq_right w]; exact Or.inr ⟨n, by omega, h⟩
theorem mnO_c {f g : Nat → Option Nat} {init : Nat} : ∀ n, (∀ s, s < n → f s = g s) → mnO f init n = mnO g init n
  | 0, _ => rfl
  | n + 1, h => by
    have ih := mnO_c (init := init) n (fun s hs => h s (by omega))
    have e := h n (by omega)
    cases hf : f n with
    | none => rw [mnO_n hf, mnO_n (by rw [← e]; exact hf), ih]
    | some a => rw [mnO_s hf, mnO_s (by rw [← e]; exact hf), ih]
noncomputable def wayM (p : Nat → Bool) (set s : Nat) : Nat := mkS p (nmG p (ffN set) 36) s
noncomputable def aS (p : Nat → Bool) (wR wB : Nat → Nat) (V : Nat → Nat) (set s : Nat) : Option Nat := if wayM p set s ≠ 0 ∧ wayM p set s &&& set = 0 then some (100 - cvS p wR wB (wayM p set s) + V (set ||| wayM p set s)) else none
noncomputable def cvW (p : Nat → Bool) (wR wB : Nat → Nat) : Nat → Nat → Nat
  | 0, _ => 0
  | n + 1, set => if ffN set < rkG p 36 then mnO (aS p wR wB (cvW p wR wB n) set) 1000000 12 else 0
theorem way_lt {p : Nat → Bool} (hp : ∀ k, p k = true → k < 36) (set s : Nat) : wayM p set s < 2 ^ rkG p 36 := cvK_lt hp
theorem way_pop {p : Nat → Bool} (hp : ∀ k, p k = true → k < 36) {set s : Nat} (h : wayM p set s ≠ 0 ∧ wayM p set s &&& set = 0) : popN (rkG p 36) (set ||| wayM p set s) = popN (rkG p 36) set + popN (rkG p 36) (wayM p set s) ∧ 0 < popN (rkG p 36) (wayM p set s) :=
  ⟨popN_or (by rw [Nat.and_comm]; exact h.2) _, popN_pos h.1 (way_lt hp set s)⟩
theorem cvW_st {p : Nat → Bool} (hp : ∀ k, p k = true → k < 36) (hM : rkG p 36 ≤ 16) {wR wB : Nat → Nat} : ∀ n n' set, set < 2 ^ rkG p 36 → rkG p 36 - popN (rkG p 36) set ≤ n → rkG p 36 - popN (rkG p 36) set ≤ n' → cvW p wR wB n set = cvW p wR wB n' set := by
  have z : ∀ n set, set < 2 ^ rkG p 36 → rkG p 36 - popN (rkG p 36) set ≤ 0 → cvW p wR wB n set = 0 := fun n set hs h0 => by
    have hl := popN_le set (rkG p 36)
    have hf := popN_ff hM hs (by omega)
    cases n with
    | zero => rfl
    | succ n => rw [cvW, if_neg (by omega)]
  intro n
  induction n with
  | zero => intro n' set hs h1 h2; rw [z n' set hs h1]; rfl
  | succ n ih =>
    intro n' set hs h1 h2
    cases n' with
    | zero => rw [z _ set hs h2]; rfl
    | succ n' =>
      rw [cvW, cvW]
      have e : mnO (aS p wR wB (cvW p wR wB n) set) 1000000 12 = mnO (aS p wR wB (cvW p wR wB n') set) 1000000 12 := mnO_c 12 (fun s _ => by
        unfold aS
        by_cases v : wayM p set s ≠ 0 ∧ wayM p set s &&& set = 0
        · obtain ⟨p1, p2⟩ := way_pop hp v
          rw [if_pos v, if_pos v, ih n' (set ||| wayM p set s) (or_lt2 hs (way_lt hp set s)) (by omega) (by omega)]
        · rw [if_neg v, if_neg v])
      rw [e]
noncomputable def VW (p : Nat → Bool) (wR wB : Nat → Nat) (set : Nat) : Nat := cvW p wR wB 17 set
theorem VW_u {p : Nat → Bool} (hp : ∀ k, p k = true → k < 36) (hM : rkG p 36 ≤ 16) {wR wB : Nat → Nat} {set : Nat} (hs : set < 2 ^ rkG p 36) : VW p wR wB set = if ffN set < rkG p 36 then mnO (aS p wR wB (VW p wR wB) set) 1000000 12 else 0 := by
  unfold VW
  rw [cvW]
  have e : mnO (aS p wR wB (cvW p wR wB 16) set) 1000000 12 = mnO (aS p wR wB (cvW p wR wB 17) set) 1000000 12 := mnO_c 12 (fun s _ => by
    unfold aS
    by_cases v : wayM p set s ≠ 0 ∧ wayM p set s &&& set = 0
    · obtain ⟨p1, p2⟩ := way_pop hp v
      rw [if_pos v, if_pos v, cvW_st hp hM 16 17 (set ||| wayM p set s) (or_lt2 hs (way_lt hp set s)) (by omega) (by omega)]
    · rw [if_neg v, if_neg v])
  rw [e]
theorem VW_le {p : Nat → Bool} (hp : ∀ k, p k = true → k < 36) (hM : rkG p 36 ≤ 16) {wR wB : Nat → Nat} {set : Nat} (hs : set < 2 ^ rkG p 36) : VW p wR wB set ≤ 1000000 := by
  rw [VW_u hp hM hs]
  split
  · exact mnO_init _ _ _
  · omega
def bN (w : Nat) : Nat := (w + 99) / 100
def bS (w : Nat) : Nat := 100 * bN w - w
theorem b_step {sp V : Nat} (h : sp + bS V ≤ 64) : bN (100 - sp + V) = bN V + 1 ∧ bS (100 - sp + V) = sp + bS V := by
  unfold bS bN at *
  omega
/-- the least brick always fits -/
theorem one_fits {p : Nat → Bool} (hM : rkG p 36 ≤ 16) {set : Nat} (hs : set < 2 ^ rkG p 36) (hf : ffN set < rkG p 36) : wayM p set 11 ≠ 0 ∧ wayM p set 11 &&& set = 0 := by
  have h16 := p16 hM
  obtain ⟨k1, k2, k3⟩ := nmG_e hf
  have hfit : Fit p (nmG p (ffN set) 36) (shX 11) (shY 11) := fun i hi j hj => by
    have hi' : i < 1 := hi
    have hj' : j < 1 := hj
    have : i = 0 := by omega
    subst this
    have : j = 0 := by omega
    subst this
    exact ⟨by omega, by omega, k2⟩
  refine ⟨cvK_at (by decide) (by decide) hfit, Nat.eq_of_testBit_eq (fun r => ?_)⟩
  rw [Nat.testBit_and, Nat.zero_testBit]
  cases hr : (wayM p set 11).testBit r with
  | false => rfl
  | true =>
    unfold wayM mkS at hr
    rw [cvK_f hfit, mrec_t] at hr
    obtain ⟨i, hi, j, hj, e⟩ := hr
    have hi' : i < 1 := hi
    have hj' : j < 1 := hj
    have : i = 0 := by omega
    subst this
    have : j = 0 := by omega
    subst this
    have e' : r = ffN set := by rw [← e]; exact k3
    rw [e', (ff_tr (c := set) (by omega)).2]; rfl
theorem VW_b {p : Nat → Bool} (hp : ∀ k, p k = true → k < 36) (hM : rkG p 36 ≤ 16) {wR wB : Nat → Nat} (hR : ∀ k, wR k ≤ 2) (hB : ∀ k, wB k ≤ 2) : ∀ r set, set < 2 ^ rkG p 36 → rkG p 36 - popN (rkG p 36) set ≤ r → bS (VW p wR wB set) ≤ 4 * (rkG p 36 - popN (rkG p 36) set) ∧ bN (VW p wR wB set) ≤ rkG p 36 - popN (rkG p 36) set ∧ (ffN set < rkG p 36 → ∃ s, s < 12 ∧ aS p wR wB (VW p wR wB) set s = some (VW p wR wB set)) := by
  intro r
  induction r with
  | zero =>
    intro set hs hr
    have hl := popN_le set (rkG p 36)
    have hf := popN_ff hM hs (by omega)
    rw [VW_u hp hM hs, if_neg (by omega)]
    exact ⟨Nat.zero_le _, Nat.zero_le _, fun w => by omega⟩
  | succ r ih =>
    intro set hs hr
    have hl := popN_le set (rkG p 36)
    by_cases hf : ffN set < rkG p 36
    · have way : ∀ s, (wayM p set s ≠ 0 ∧ wayM p set s &&& set = 0) → cvS p wR wB (wayM p set s) + bS (VW p wR wB (set ||| wayM p set s)) ≤ 4 * (rkG p 36 - popN (rkG p 36) set) ∧ bN (VW p wR wB (set ||| wayM p set s)) + 1 ≤ rkG p 36 - popN (rkG p 36) set := fun s v => by
        obtain ⟨p1, p2⟩ := way_pop hp v
        have hl2 := popN_le (set ||| wayM p set s) (rkG p 36)
        obtain ⟨i1, i2, -⟩ := ih (set ||| wayM p set s) (or_lt2 hs (way_lt hp set s)) (by omega)
        have := cvS_le (p := p) hR hB (wayM p set s)
        omega
      have h11 := one_fits hM hs hf
      have w11 := way 11 h11
      have e11 : aS p wR wB (VW p wR wB) set 11 = some (100 - cvS p wR wB (wayM p set 11) + VW p wR wB (set ||| wayM p set 11)) := by unfold aS; rw [if_pos h11]
      have le11 := mnO_le (init := 1000000) e11 12 (by decide)
      have b11 : VW p wR wB (set ||| wayM p set 11) ≤ 1600 := by
        have := w11.2
        unfold bN at this
        omega
      have hu := VW_u (wR := wR) (wB := wB) hp hM hs
      rw [if_pos hf] at hu
      rcases mnO_at (aS p wR wB (VW p wR wB) set) 1000000 12 with q | ⟨s, hs12, q⟩
      · exfalso; omega
      · rw [← hu] at q
        have q' := q
        unfold aS at q'
        by_cases v : wayM p set s ≠ 0 ∧ wayM p set s &&& set = 0
        · rw [if_pos v] at q'
          have e : 100 - cvS p wR wB (wayM p set s) + VW p wR wB (set ||| wayM p set s) = VW p wR wB set := Option.some.inj q'
          obtain ⟨w1, w2⟩ := way s v
          obtain ⟨b1, b2⟩ := b_step (sp := cvS p wR wB (wayM p set s)) (V := VW p wR wB (set ||| wayM p set s)) (by omega)
          rw [e] at b1 b2
          rw [b1, b2]
          exact ⟨w1, w2, fun _ => ⟨s, hs12, q⟩⟩
        · rw [if_neg v] at q'; cases q'
    · rw [VW_u hp hM hs, if_neg hf]
      exact ⟨Nat.zero_le _, Nat.zero_le _, fun w => by omega⟩
