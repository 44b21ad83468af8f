/-! ===== the box ===== -/
theorem in7 {k : Nat} (h : k < 7) : inN (nI k) 7 = true := n_inN h (by decide)
def cnt (σ : Sg) (i k : Nat) : Nat := sumN (fun b => b1n (sTh σ b && decide (sK σ b = k))) i
theorem cnt_le (σ : Sg) (i k : Nat) : cnt σ i k ≤ i := by
  have := sumN_le (f := fun b => b1n (sTh σ b && decide (sK σ b = k))) (c := 1) (fun b => by cases (sTh σ b && decide (sK σ b = k)) <;> decide) i
  unfold cnt; omega
def lf (σ : Sg) (i k : Nat) : Nat := sBx σ k - cnt σ i k
def ms (σ : Sg) (i k : Nat) : Nat := cnt σ i k - sBx σ k
def BxC (h : Hp) (l m : Nat → Nat) : Prop := ∀ k, k < 7 → gA_ h 10 k = nI (l k) ∧ gA_ h 11 k = nI (m k)
def BxM (h : Hp) (l m : Nat → Nat) : Prop := ∀ k, k < 7 → gA_ h 60 k = nI (l k) ∧ gA_ h 61 k = nI (m k)
theorem nI_m1 {a : Nat} (h : 1 ≤ a) : nI a - 1 = nI (a - 1) := pk_sub (a := a) (b := 1) h
theorem cnt_s (σ : Sg) (i k : Nat) : cnt σ (i + 1) k = cnt σ i k + b1n (sTh σ i && decide (sK σ i = k)) := rfl
theorem wsC (h h' : Hp) {vI vJ vA vL : List Nat} (s : Sm vI vJ vA vL h h') {σ : Sg} (hc : RepC σ h) (hw : (∀ k ∈ [138, 259], k ∉ vI) ∧ (∀ k ∈ [139, 140], k ∉ vJ) ∧ (∀ k ∈ [8, 9, 12, 13, 14, 15, 16, 17, 21], k ∉ vA) ∧ ∀ k ∈ [18, 19, 20], k ∉ vL) : RepC σ h' := hc.sm s hw
theorem c_wn35 {σ : Sg} (hw : Wf σ) : ∀ (c i n : Nat) (h : Hp), i + c = sN σ → c < n → RepC σ h → BxC h (lf σ i) (ms σ i) → ∃ h', F_X1_weighNeeds_35 n (nI i) h = some h' ∧ BxC h' (lf σ (sN σ)) (ms σ (sN σ)) := by
  have h40 := hw.1
  intro c
  induction c with
  | zero =>
    intro i n h h1 h2 hc hb
    obtain ⟨n, rfl⟩ : ∃ m, n = m + 1 := ⟨n - 1, by omega⟩
    refine ⟨h, ?_, by rw [← h1]; exact hb⟩
    rw [F_X1_weighNeeds_35]
    unfold F_X2_ever
    rw [hc.2.2.1, ob_s, if_pos (nI_le (by omega) (by omega))]
  | succ c ih =>
    intro i n h h1 h2 hc hb
    obtain ⟨n, rfl⟩ : ∃ m, n = m + 1 := ⟨n - 1, by omega⟩
    have hi : i < sN σ := by omega
    have hk := (hw.2.2.1 i hi).1
    have hbx := hw.2.2.2.2.2.2 (sK σ i)
    have hcl := cnt_le σ i (sK σ i)
    rw [F_X1_weighNeeds_35]
    unfold F_X2_ever F_X1_weighNeeds_106
    rw [hc.2.2.1, ob_s, if_neg (nI_ge (by omega) (by omega)), told_n hw hc hi, ob_s, if_pos (show (0 : Int32) = nI 0 from rfl), f_isThereC hw hc hi, ob_s, nI_1]
    cases ht : sTh σ i with
    | false =>
      rw [if_pos b0_]
      refine ih (i + 1) n h (by omega) (by omega) hc (fun k hk => ?_)
      have : cnt σ (i + 1) k = cnt σ i k := by rw [cnt_s, ht]; rfl
      unfold lf ms; rw [this]; exact hb k hk
    | true =>
      have ck : ∀ k, cnt σ (i + 1) k = cnt σ i k + b1n (decide (sK σ i = k)) := fun k => by rw [cnt_s, ht]; rfl
      obtain ⟨b1, b2⟩ := hb (sK σ i) hk
      rw [if_neg b1_, f_isKind, in7 hk, ob_s, if_neg b1_, rA_n h 10 7 _ hk (by decide), b1]
      by_cases h0 : lf σ i (sK σ i) = 0
      · rw [if_pos ((nI_le0 (by unfold lf; omega)).mpr h0), rA_n h 11 7 _ hk (by decide), b2, wA_n h 11 7 _ _ hk (by decide), nI_1]
        have s : Sm [] [] [11] [] h (sA_ h 11 (sK σ i) (nI (ms σ i (sK σ i) + 1))) := sm_A (k := 11) (by decide) rfl sm_rf
        refine ih (i + 1) n _ (by omega) (by omega) (hc.sm s (by decide)) (fun k hk2 => ?_)
        rw [gA_sA, gA_sA, if_neg (by decide), if_pos rfl]
        obtain ⟨c1, c2⟩ := hb k hk2
        unfold lf ms at *
        rw [ck k]
        by_cases hkk : k = sK σ i
        · subst hkk
          rw [pk_us, c1, decide_eq_true rfl]
          refine ⟨congrArg nI ?_, congrArg nI ?_⟩ <;> simp only [b1n] <;> omega
        · rw [pk_un hkk, c1, c2, decide_eq_false (fun q => hkk q.symm)]
          exact ⟨rfl, rfl⟩
      · rw [if_neg (fun q => h0 ((nI_le0 (by unfold lf; omega)).mp q)), rA_n h 10 7 _ hk (by decide), b1, wA_n h 10 7 _ _ hk (by decide), nI_m1 (by omega)]
        have s : Sm [] [] [10] [] h (sA_ h 10 (sK σ i) (nI (lf σ i (sK σ i) - 1))) := sm_A (k := 10) (by decide) rfl sm_rf
        refine ih (i + 1) n _ (by omega) (by omega) (hc.sm s (by decide)) (fun k hk2 => ?_)
        rw [gA_sA, gA_sA, if_pos rfl, if_neg (by decide)]
        obtain ⟨c1, c2⟩ := hb k hk2
        unfold lf ms at *
        rw [ck k]
        by_cases hkk : k = sK σ i
        · subst hkk
          rw [pk_us, c2, decide_eq_true rfl]
          refine ⟨congrArg nI ?_, congrArg nI ?_⟩ <;> simp only [b1n] <;> omega
        · rw [pk_un hkk, c1, c2, decide_eq_false (fun q => hkk q.symm)]
          exact ⟨rfl, rfl⟩
theorem c_wn2 {σ : Sg} (hw : Wf σ) (k33 : Hp → Option Hp) : ∀ (c i n : Nat) (h : Hp), i + c = 7 → c < n → RepC σ h → (∀ k, k < i → gA_ h 10 k = nI (sBx σ k) ∧ gA_ h 11 k = nI 0) → ∃ h', F_X1_weighNeeds_2 n k33 (nI i) h = k33 h' ∧ RepC σ h' ∧ (∀ k, k < 7 → gA_ h' 10 k = nI (sBx σ k) ∧ gA_ h' 11 k = nI 0) := by
  intro c
  induction c with
  | zero =>
    intro i n h h1 h2 hc hb
    obtain ⟨n, rfl⟩ : ∃ m, n = m + 1 := ⟨n - 1, by omega⟩
    have hi : i = 7 := by omega
    subst hi
    exact ⟨h, by rw [F_X1_weighNeeds_2, if_pos (by decide)], hc, hb⟩
  | succ c ih =>
    intro i n h h1 h2 hc hb
    obtain ⟨n, rfl⟩ : ∃ m, n = m + 1 := ⟨n - 1, by omega⟩
    have hi : i < 7 := by omega
    rw [F_X1_weighNeeds_2, if_neg (show ¬ (7 : Int32) ≤ nI i from (nI_ge hi (by decide) : ¬ nI 7 ≤ nI i)), rA_n h 9 7 _ hi (by decide), wA_n _ 10 7 _ _ hi (by decide), wA_n _ 11 7 _ _ hi (by decide), nI_1]
    have s : Sm [] [] [10, 11] [] h (sA_ (sA_ h 10 i (gA_ h 9 i)) 11 i 0) := sm_A (k := 10) (by decide) rfl (sm_A (k := 11) (by decide) rfl sm_rf)
    refine ih (i + 1) n _ (by omega) (by omega) (hc.sm s (by decide)) (fun k hk => ?_)
    rw [gA_sA, if_neg (by decide), gA_sA, if_pos rfl, gA_sA, if_pos rfl, gA_sA, if_neg (by decide)]
    by_cases hki : k = i
    · subst hki; rw [pk_us, pk_us]; exact ⟨hc.2.2.2.2.2.2.1 k hi, rfl⟩
    · rw [pk_un hki, pk_un hki]; exact hb k (by omega)
theorem c_weigh {σ : Sg} {h : Hp} (hw : Wf σ) (hc : RepC σ h) : ∃ h', F_X1_weighNeeds h = some h' ∧ BxC h' (lf σ (sN σ)) (ms σ (sN σ)) := by
  have h40 := hw.1
  unfold F_X1_weighNeeds
  obtain ⟨h1, e1, hc1, hb1⟩ := c_wn2 hw F_X1_weighNeeds_33 7 0 FU_ h rfl (by unfold FU_; omega) hc (fun k hk => absurd hk (Nat.not_lt_zero k))
  rw [show F_X1_weighNeeds_2 FU_ F_X1_weighNeeds_33 0 h = _ from e1]
  unfold F_X1_weighNeeds_33
  obtain ⟨h2, e2, hb2⟩ := c_wn35 hw (sN σ) 0 FU_ h1 (by omega) (by unfold FU_; omega) hc1 (fun k hk => by
    unfold lf ms
    rw [show cnt σ 0 k = 0 from rfl]
    simpa using hb1 k hk)
  exact ⟨h2, e2, hb2⟩
/-! taking two instead of one -/
def cT (l : Nat → Nat) (f a : Nat) : Bool := if f = a then decide (2 ≤ l f) else decide (1 ≤ l f ∧ 1 ≤ l a)
def dT (l : Nat → Nat) (f a : Nat) : Nat → Nat := fun j => l j - (b1n (decide (j = f)) + b1n (decide (j = a)))
def tkN (f a : Nat) : Nat → (Nat → Nat) → (Nat → Nat) × Nat
  | 0, l => (l, 0)
  | m + 1, l => if cT l f a = true then tkN f a m (dT l f a) else (l, m + 1)
def fP (k : Nat) : Nat := ([0, 0, 0, 1, 1, 2, 4] : List Nat).getD k 0
def sP (k : Nat) : Nat := ([0, 0, 1, 1, 1, 2, 4] : List Nat).getD k 0
theorem fP_t : ∀ k, k < 7 → ([0, 0, 0, 1, 1, 2, 4] : List Int32).getD k 0 = nI (fP k) ∧ ([0, 0, 1, 1, 1, 2, 4] : List Int32).getD k 0 = nI (sP k) ∧ fP k < 7 ∧ sP k < 7 := by decide +kernel
theorem c_takeTwo {h : Hp} {l m : Nat → Nat} (hb : BxC h l m) (hl : ∀ k, l k ≤ 99) {f a : Nat} (hf : f < 7) (ha : a < 7) : ∃ h', F_X1_takeTwo (nI f) (nI a) h = some (bi_ (cT l f a), h') ∧ BxC h' (if cT l f a = true then dT l f a else l) m ∧ (cT l f a = false → h' = h) := by
  have lf1 := hl f
  have la1 := hl a
  have key : ∀ s : Nat, s = (if f = a then 2 else 1) → ∃ h', F_X1_takeTwo_10 (nI f) (nI a) (nI s) h = some (bi_ (cT l f a), h') ∧ BxC h' (if cT l f a = true then dT l f a else l) m ∧ (cT l f a = false → h' = h) := by
    intro s hs
    unfold F_X1_takeTwo_10
    rw [f_isKind, in7 hf, ob_s, if_neg b1_, f_isKind, in7 ha, ob_s, if_neg b1_, rA_n h 10 7 _ hf (by decide), (hb f hf).1, rA_n h 10 7 _ ha (by decide), (hb a ha).1, rA_n h 10 7 _ hf (by decide), (hb f hf).1, wA_n h 10 7 _ _ hf (by decide), rA_n _ 10 7 _ ha (by decide), wA_n _ 10 7 _ _ ha (by decide)]
    have ct : cT l f a = decide (s ≤ l f ∧ s ≤ l a) := by
      unfold cT
      by_cases h : f = a
      · subst h; rw [if_pos rfl] at hs ⊢; subst hs; simp
      · rw [if_neg h] at hs ⊢; subst hs; rfl
    have s2 : s ≤ 2 := by rw [hs]; split <;> omega
    by_cases h1 : s ≤ l f
    · rw [if_neg (nI_nlt h1 (by omega))]
      by_cases h2 : s ≤ l a
      · have c1 : cT l f a = true := by rw [ct]; simp [h1, h2]
        rw [if_pos (nI_le h2 (by omega)), c1]
        refine ⟨_, rfl, fun k hk => ?_, fun q => by cases q⟩
        rw [if_pos rfl]
        show upd (upd (gA_ h 10) f (nI (l f) - 1)) a (upd (gA_ h 10) f (nI (l f) - 1) a - 1) k = nI (dT l f a k) ∧ gA_ h 11 k = nI (m k)
        obtain ⟨g1, g2⟩ := hb k hk
        have s1 : 1 ≤ s := by rw [hs]; split <;> omega
        refine ⟨?_, g2⟩
        unfold dT
        by_cases hfa : f = a
        · subst hfa
          rw [if_pos rfl] at hs
          subst hs
          by_cases hkf : k = f
          · subst hkf
            rw [pk_us, pk_us, nI_m1 (by omega), nI_m1 (by omega)]
            simp only [decide_true, b1n]
            congr 1
          · rw [pk_un hkf, pk_un hkf, g1]
            simp only [hkf, decide_false, b1n]
            congr 1
        · rw [if_neg hfa] at hs
          subst hs
          by_cases hka : k = a
          · subst hka
            rw [pk_us, pk_un (fun q => hfa q.symm), g1, nI_m1 (by omega)]
            have : ¬ k = f := fun q => hfa q.symm
            simp only [this, decide_true, decide_false, b1n]
            try (congr 1; omega)
          · rw [pk_un hka]
            by_cases hkf : k = f
            · subst hkf
              rw [pk_us, nI_m1 (by omega)]
              simp only [hka, decide_true, decide_false, b1n]
            · rw [pk_un hkf, g1]
              simp only [hka, hkf, decide_false, b1n]
              congr 1
      · have c1 : cT l f a = false := by rw [ct]; simp [h2]
        rw [if_neg (nI_ge (by omega) (by omega)), c1]
        exact ⟨h, rfl, hb, fun _ => rfl⟩
    · have c1 : cT l f a = false := by rw [ct]; simp [h1]
      rw [if_pos (nI_lt (by omega) (by omega)), c1]
      exact ⟨h, rfl, hb, fun _ => rfl⟩
  unfold F_X1_takeTwo
  by_cases hfa : f = a
  · rw [if_pos (by rw [hfa])]; exact key 2 (by rw [if_pos hfa])
  · rw [if_neg (fun q => hfa ((i_eq (by omega) (by omega)).mp q))]; exact key 1 (by rw [if_neg hfa])
theorem dT_le {l : Nat → Nat} {f a : Nat} (hl : ∀ k, l k ≤ 99) : ∀ k, dT l f a k ≤ 99 := fun k => by unfold dT; have := hl k; omega
theorem tkN_le (f a : Nat) : ∀ (m : Nat) (l : Nat → Nat), (∀ k, l k ≤ 99) → (∀ k, (tkN f a m l).1 k ≤ 99) ∧ (tkN f a m l).2 ≤ m
  | 0, l, hl => ⟨hl, Nat.le_refl _⟩
  | m + 1, l, hl => by
    unfold tkN
    split
    · obtain ⟨h1, h2⟩ := tkN_le f a m (dT l f a) (dT_le hl)
      exact ⟨h1, by omega⟩
    · exact ⟨hl, Nat.le_refl _⟩
theorem up_self {α : Type} {m : Nat → α} {k : Nat} : va_up m k (m k) = m := by
  funext j; unfold va_up; split
  · rename_i e; rw [e]
  · rfl
theorem c_set20 {k58 : Int32 → Hp → Option Hp} {k : Nat} (hk : k < 7) (p : Nat) (hp : p ≤ 40) : ∀ (c i n : Nat) (h : Hp) (l m : Nat → Nat), i + c = p → c < n → BxC h l m → (∀ k, l k ≤ 99) → (m k = c ∨ (cT l (fP k) (sP k) = false ∧ c ≤ m k ∧ m k ≤ 40)) → ∃ h', F_X1_settle_20 n k58 (nI k) (nI p) (nI i) h = k58 (nI k) h' ∧ BxC h' (if m k = c then (tkN (fP k) (sP k) c l).1 else l) (va_up m k (if m k = c then (tkN (fP k) (sP k) c l).2 else m k)) := by
  obtain ⟨t1, t2, t3, t4⟩ := fP_t k hk
  intro c
  induction c with
  | zero =>
    intro i n h l m h1 h2 hb hl hm
    obtain ⟨n, rfl⟩ : ∃ q, n = q + 1 := ⟨n - 1, by omega⟩
    refine ⟨h, by rw [F_X1_settle_20, if_pos (nI_le (by omega) (by omega))], ?_⟩
    have e : (if m k = 0 then (tkN (fP k) (sP k) 0 l).1 else l) = l := by split <;> rfl
    have e2 : (if m k = 0 then (tkN (fP k) (sP k) 0 l).2 else m k) = m k := by
      by_cases q : m k = 0
      · rw [if_pos q, q]; rfl
      · rw [if_neg q]
    rw [e, e2, up_self]; exact hb
  | succ c ih =>
    intro i n h l m h1 h2 hb hl hm
    obtain ⟨n, rfl⟩ : ∃ q, n = q + 1 := ⟨n - 1, by omega⟩
    obtain ⟨h3, e3, hb3, hs3⟩ := c_takeTwo hb hl t3 t4
    rw [F_X1_settle_20, if_neg (nI_ge (by omega) (by omega)), rS_n _ _ hk (by decide), t1, rS_n _ _ hk (by decide), t2, e3, ob_s]
    unfold F_X1_settle_52
    cases hct : cT l (fP k) (sP k) with
    | false =>
      have e4 := hs3 hct
      subst e4
      show ∃ h', (if (0 : Int32) = 0 then _ else _) = _ ∧ _
      rw [if_pos rfl, nI_1]
      obtain ⟨h', e5, hb5⟩ := ih (i + 1) n h3 l m (by omega) (by omega) hb hl (Or.inr ⟨hct, by rcases hm with q | q <;> omega, by rcases hm with q | q <;> omega⟩)
      refine ⟨h', e5, ?_⟩
      have ne : ¬ m k = c := by rcases hm with q | q <;> omega
      rw [if_neg ne, if_neg ne, up_self] at hb5
      have e : (if m k = c + 1 then (tkN (fP k) (sP k) (c + 1) l).1 else l) = l := by
        split
        · unfold tkN; rw [hct]; rfl
        · rfl
      have e2 : (if m k = c + 1 then (tkN (fP k) (sP k) (c + 1) l).2 else m k) = m k := by
        split
        · rename_i q; unfold tkN; rw [hct, q]; rfl
        · rfl
      rw [e, e2, up_self]; exact hb5
    | true =>
      have hmc : m k = c + 1 := hm.resolve_right (fun q => by rw [hct] at q; cases q.1)
      rw [hct, if_pos rfl] at hb3
      show ∃ h', (if (1 : Int32) = 0 then _ else _) = _ ∧ _
      rw [if_neg (by decide), rA_n h3 11 7 _ hk (by decide), (hb3 k hk).2, wA_n h3 11 7 _ _ hk (by decide), hmc, nI_m1 (by omega), nI_1]
      have hb6 : BxC (sA_ h3 11 k (nI (c + 1 - 1))) (dT l (fP k) (sP k)) (va_up m k c) := by
        intro j hj
        rw [gA_sA, if_neg (by decide), gA_sA, if_pos rfl]
        refine ⟨(hb3 j hj).1, ?_⟩
        unfold va_up
        by_cases hjk : j = k
        · subst hjk; rw [pk_us, if_pos rfl]; rfl
        · rw [pk_un hjk, if_neg hjk]; exact (hb3 j hj).2
      have mk : va_up m k c k = c := by unfold va_up; rw [if_pos rfl]
      obtain ⟨h', e5, hb5⟩ := ih (i + 1) n _ (dT l (fP k) (sP k)) (va_up m k c) (by omega) (by omega) hb6 (dT_le hl) (Or.inl mk)
      refine ⟨h', e5, ?_⟩
      rw [if_pos mk, if_pos mk, bx_uu] at hb5
      rw [if_pos rfl, if_pos rfl]
      unfold tkN
      rw [hct, if_pos rfl]
      exact hb5
/-- all kinds from k down to 1 -/
def stl : Nat → (Nat → Nat) × (Nat → Nat) → (Nat → Nat) × (Nat → Nat)
  | 0, s => s
  | k + 1, s => stl k ((tkN (fP (k + 1)) (sP (k + 1)) (s.2 (k + 1)) s.1).1, va_up s.2 (k + 1) (tkN (fP (k + 1)) (sP (k + 1)) (s.2 (k + 1)) s.1).2)
theorem c_set7 : ∀ (k n : Nat) (h : Hp) (l m : Nat → Nat), k < 7 → k < n → BxC h l m → (∀ k, l k ≤ 99) → (∀ k, m k ≤ 40) → ∃ h', F_X1_settle_7 n (nI k) h = some h' ∧ BxC h' (stl k (l, m)).1 (stl k (l, m)).2 := by
  intro k
  induction k with
  | zero =>
    intro n h l m h1 h2 hb hl hm
    obtain ⟨n, rfl⟩ : ∃ q, n = q + 1 := ⟨n - 1, by omega⟩
    exact ⟨h, by rw [F_X1_settle_7, if_pos (by decide)], hb⟩
  | succ k ih =>
    intro n h l m h1 h2 hb hl hm
    obtain ⟨n, rfl⟩ : ∃ q, n = q + 1 := ⟨n - 1, by omega⟩
    have hmk := hm (k + 1)
    rw [F_X1_settle_7, if_neg (fun q => by rw [nI_le0 (by omega)] at q; omega), rA_n h 11 7 _ h1 (by decide), (hb (k + 1) h1).2]
    obtain ⟨h3, e3, hb3⟩ := c_set20 (k58 := F_X1_settle_58 (F_X1_settle_7 n)) h1 (m (k + 1)) hmk (m (k + 1)) 0 FU_ h l m (by omega) (by unfold FU_; omega) hb hl (Or.inl rfl)
    rw [show F_X1_settle_20 FU_ (F_X1_settle_58 (F_X1_settle_7 n)) (nI (k + 1)) (nI (m (k + 1))) 0 h = _ from e3]
    unfold F_X1_settle_58
    rw [if_pos rfl, if_pos rfl] at hb3
    rw [show nI (k + 1) + -1 = nI k from pk_m1 k]
    have hq := tkN_le (fP (k + 1)) (sP (k + 1)) (m (k + 1)) l hl
    exact ih n h3 _ _ (by omega) (by omega) hb3 hq.1 (fun j => by
      unfold va_up; split
      · exact Nat.le_trans hq.2 hmk
      · exact hm j)
def lkN (σ : Sg) : Nat → Nat := (stl 6 (lf σ (sN σ), ms σ (sN σ))).2
theorem c_settle {σ : Sg} {h : Hp} (hw : Wf σ) (hc : RepC σ h) : ∃ h', F_X1_settle h = some h' ∧ ∀ k, k < 7 → gA_ h' 11 k = nI (lkN σ k) := by
  have h40 := hw.1
  unfold F_X1_settle
  obtain ⟨h1, e1, hb1⟩ := c_weigh hw hc
  rw [e1, ob_s]
  obtain ⟨h2, e2, hb2⟩ := c_set7 6 FU_ h1 _ _ (by decide) (by unfold FU_; omega) hb1 (fun k => by have := hw.2.2.2.2.2.2 k; unfold lf; omega) (fun k => by have := cnt_le σ (sN σ) k; unfold ms; omega)
  exact ⟨h2, e2, fun k hk => (hb2 k hk).2⟩
