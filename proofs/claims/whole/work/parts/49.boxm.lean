theorem mx_sub {a b : Nat} (ha : a < 2 ^ 30) (hb : b < 2 ^ 30) : mx_ 0 (nI a - nI b) = nI (a - b) := by
  unfold mx_
  have e := pk_sub_toInt ha hb
  have e0 : (0 : Int32).toInt = 0 := by decide
  by_cases h : b < a
  · rw [if_pos (by rw [i_ltT, e, e0]; omega)]; exact pk_sub (by omega)
  · rw [if_neg (by rw [i_ltT, e, e0]; omega), show a - b = 0 by omega]; rfl
theorem neg_sub' (x y : Int32) : -(x - y) = y - x := by
  rw [← Int32.toBitVec_inj]; simp [BitVec.neg_sub]
theorem m_fl2 {σ : Sg} (k26 : Hp → Option Hp) : ∀ (c i n : Nat) (h : Hp), i + c = 7 → c < n → RepM σ h → (∀ k, k < i → gA_ h 60 k = nI (sBx σ k)) → ∃ h', F_X7_findLacking_2 n k26 (nI i) h = k26 h' ∧ RepM σ h' ∧ (∀ k, k < 7 → gA_ h' 60 k = nI (sBx σ k)) := by
  intro c
  induction c with
  | zero =>
    intro i n h h1 h2 hm hb
    obtain ⟨n, rfl⟩ : ∃ m, n = m + 1 := ⟨n - 1, by omega⟩
    have hi : i = 7 := by omega
    subst hi
    exact ⟨h, by rw [F_X7_findLacking_2, if_pos (by decide)], hm, hb⟩
  | succ c ih =>
    intro i n h h1 h2 hm hb
    obtain ⟨n, rfl⟩ : ∃ m, n = m + 1 := ⟨n - 1, by omega⟩
    have hi : i < 7 := by omega
    rw [F_X7_findLacking_2, if_neg (show ¬ (7 : Int32) ≤ nI i from (nI_ge hi (by decide) : ¬ nI 7 ≤ nI i)), rA_n h 41 7 _ hi (by decide), wA_n _ 60 7 _ _ hi (by decide), nI_1]
    have s : Sm [] [] [60] [] h (sA_ h 60 i (gA_ h 41 i)) := sm_A (k := 60) (by decide) rfl sm_rf
    refine ih (i + 1) n _ (by omega) (by omega) (hm.sm s (by decide)) (fun k hk => ?_)
    rw [gA_sA, if_pos rfl]
    by_cases hki : k = i
    · subst hki; rw [pk_us]; exact hm.2.2.2.2.2.2 k hi
    · rw [pk_un hki]; exact hb k (by omega)
theorem m_fl28 {σ : Sg} (hw : Wf σ) (k69 : Hp → Option Hp) : ∀ (c i n : Nat) (h : Hp), i + c = sN σ → c < n → RepM σ h → (∀ k, k < 7 → gA_ h 60 k = nI (sBx σ k) - nI (cnt σ i k)) → ∃ h', F_X7_findLacking_28 n k69 (nI i) h = k69 h' ∧ RepM σ h' ∧ (∀ k, k < 7 → gA_ h' 60 k = nI (sBx σ k) - nI (cnt σ (sN σ) k)) := by
  have h40 := hw.1
  intro c
  induction c with
  | zero =>
    intro i n h h1 h2 hm hb
    obtain ⟨n, rfl⟩ : ∃ m, n = m + 1 := ⟨n - 1, by omega⟩
    refine ⟨h, ?_, hm, by rw [← h1]; exact hb⟩
    rw [F_X7_findLacking_28, hm.2.2.1, if_pos (nI_le (by omega) (by omega))]
  | succ c ih =>
    intro i n h h1 h2 hm hb
    obtain ⟨n, rfl⟩ : ∃ m, n = m + 1 := ⟨n - 1, by omega⟩
    have hi : i < sN σ := by omega
    have hk := (hw.2.2.1 i hi).1
    rw [F_X7_findLacking_28, hm.2.2.1, if_neg (nI_ge (by omega) (by omega)), rA_n h 42 40 _ (by omega) (by decide), (hm.2.2.2.1 i hi).1, rA_n h 60 7 _ hk (by decide), f_isThereM hw hm hi, ob_s]
    unfold F_X7_findLacking_61
    rw [wA_n _ 60 7 _ _ hk (by decide), wA_n _ 60 7 _ _ hk (by decide), nI_1]
    have key : ∀ (t : Nat), t = b1n (sTh σ i) → ∃ h', F_X7_findLacking_28 n k69 (nI (i + 1)) (sA_ h 60 (sK σ i) (gA_ h 60 (sK σ i) - nI t)) = k69 h' ∧ RepM σ h' ∧ (∀ k, k < 7 → gA_ h' 60 k = nI (sBx σ k) - nI (cnt σ (sN σ) k)) := by
      intro t ht
      have s : Sm [] [] [60] [] h (sA_ h 60 (sK σ i) (gA_ h 60 (sK σ i) - nI t)) := sm_A (k := 60) (by decide) rfl sm_rf
      refine ih (i + 1) n _ (by omega) (by omega) (hm.sm s (by decide)) (fun k hk2 => ?_)
      rw [gA_sA, if_pos rfl, cnt_s]
      by_cases hkk : k = sK σ i
      · subst hkk
        rw [pk_us, hb _ hk2, decide_eq_true rfl, ← nI_add, ht]
        cases sTh σ i
        · show nI _ - nI _ - nI 0 = nI _ - (nI _ + nI 0)
          rw [show nI 0 = 0 from rfl]; simp
        · show nI _ - nI _ - nI 1 = nI _ - (nI _ + nI 1)
          rw [Int32.sub_sub]
      · rw [pk_un hkk, hb k hk2, decide_eq_false (fun q => hkk q.symm), Bool.and_false]; rfl
    cases ht : sTh σ i with
    | false => rw [if_pos b0_]; exact key 0 (by rw [ht]; rfl)
    | true => rw [if_neg b1_]; exact key 1 (by rw [ht]; rfl)
theorem m_fl71 {σ : Sg} (hw : Wf σ) (k116 : Hp → Option Hp) : ∀ (c i n : Nat) (h : Hp), i + c = 7 → c < n → (∀ k, k < i → gA_ h 60 k = nI (lf σ (sN σ) k) ∧ gA_ h 61 k = nI (ms σ (sN σ) k)) → (∀ k, i ≤ k → k < 7 → gA_ h 60 k = nI (sBx σ k) - nI (cnt σ (sN σ) k)) → ∃ h', F_X7_findLacking_71 n k116 (nI i) h = k116 h' ∧ BxM h' (lf σ (sN σ)) (ms σ (sN σ)) := by
  have h40 := hw.1
  intro c
  induction c with
  | zero =>
    intro i n h h1 h2 hb hr
    obtain ⟨n, rfl⟩ : ∃ m, n = m + 1 := ⟨n - 1, by omega⟩
    have hi : i = 7 := by omega
    subst hi
    exact ⟨h, by rw [F_X7_findLacking_71, if_pos (by decide)], hb⟩
  | succ c ih =>
    intro i n h h1 h2 hb hr
    obtain ⟨n, rfl⟩ : ∃ m, n = m + 1 := ⟨n - 1, by omega⟩
    have hi : i < 7 := by omega
    have g1 := hw.2.2.2.2.2.2 i
    have g2 := cnt_le σ (sN σ) i
    have er := hr i (Nat.le_refl _) hi
    rw [F_X7_findLacking_71, if_neg (show ¬ (7 : Int32) ≤ nI i from (nI_ge hi (by decide) : ¬ nI 7 ≤ nI i)), rA_n h 60 7 _ hi (by decide), wA_n _ 61 7 _ _ hi (by decide), rA_n _ 60 7 _ hi (by decide), wA_n _ 60 7 _ _ hi (by decide), nI_1]
    have e60 : gA_ (sA_ h 61 i (mx_ 0 (-gA_ h 60 i))) 60 = gA_ h 60 := by rw [gA_sA, if_neg (by decide)]
    rw [e60, er, neg_sub', mx_sub (by omega) (by omega), mx_sub (by omega) (by omega)]
    refine ih (i + 1) n _ (by omega) (by omega) (fun k hk => ?_) (fun k hk1 hk2 => ?_)
    · rw [gA_sA, if_pos rfl, gA_sA, if_neg (by decide), gA_sA, if_neg (by decide), gA_sA, if_pos rfl]
      by_cases hki : k = i
      · subst hki; rw [pk_us, pk_us]; exact ⟨rfl, rfl⟩
      · rw [pk_un hki, pk_un hki]; exact hb k (by omega)
    · rw [gA_sA, if_pos rfl, gA_sA, if_neg (by decide), pk_un (by omega)]
      exact hr k (by omega) hk2
theorem m_fl123 {k217 : Int32 → Hp → Option Hp} {k : Nat} (hk : k < 7) : ∀ (c n : Nat) (h : Hp) (l m : Nat → Nat), c < n → BxM h l m → (∀ k, l k ≤ 99) → m k = c → c ≤ 40 → ∃ h', F_X7_findLacking_123 n k217 (nI k) h = k217 (nI k) h' ∧ BxM h' (tkN (fP k) (sP k) c l).1 (va_up m k (tkN (fP k) (sP k) c l).2) := by
  obtain ⟨t1, t2, t3, t4⟩ := fP_t k hk
  intro c
  induction c with
  | zero =>
    intro n h l m h2 hb hl hm _
    obtain ⟨n, rfl⟩ : ∃ q, n = q + 1 := ⟨n - 1, by omega⟩
    refine ⟨h, ?_, ?_⟩
    · rw [F_X7_findLacking_123, rA_n h 61 7 _ hk (by decide), (hb k hk).2, hm, if_pos (by decide)]
    · have : va_up m k (tkN (fP k) (sP k) 0 l).2 = m := by
        show va_up m k 0 = m
        rw [← hm]; exact up_self
      rw [this]; exact hb
  | succ c ih =>
    intro n h l m h2 hb hl hm hc40
    obtain ⟨n, rfl⟩ : ∃ q, n = q + 1 := ⟨n - 1, by omega⟩
    have lf1 := hl (fP k)
    have la1 := hl (sP k)
    have selfm : ∀ l', cT l (fP k) (sP k) = false → l' = l → BxM h l m → BxM h (tkN (fP k) (sP k) (c + 1) l).1 (va_up m k (tkN (fP k) (sP k) (c + 1) l).2) := by
      intro l' hct _ hb
      unfold tkN
      rw [hct]
      show BxM h l (va_up m k (c + 1))
      rw [← hm, up_self]; exact hb
    rw [F_X7_findLacking_123, rA_n h 61 7 _ hk (by decide), (hb k hk).2, hm, if_neg (fun q => by rw [nI_le0 (by omega)] at q; omega), rS_n _ _ hk (by decide), t1, rA_n h 60 7 _ t3 (by decide), (hb _ t3).1]
    by_cases h0 : l (fP k) = 0
    · have hct : cT l (fP k) (sP k) = false := by unfold cT; split <;> simp <;> omega
      rw [if_pos ((nI_le0 (by omega)).mpr h0)]
      exact ⟨h, rfl, selfm l hct rfl hb⟩
    · rw [if_neg (fun q => h0 ((nI_le0 (by omega)).mp q)), rS_n _ _ hk (by decide), t2, rA_n h 60 7 _ t4 (by decide), (hb _ t4).1, rS_n _ _ hk (by decide), t1, rS_n _ _ hk (by decide), t2]
      have key : ∀ t : Nat, t = (if fP k = sP k then 1 else 0) → ∃ h', F_X7_findLacking_173 (F_X7_findLacking_123 n k217) k217 (nI k) (nI (l (sP k))) (nI t) h = k217 (nI k) h' ∧ BxM h' (tkN (fP k) (sP k) (c + 1) l).1 (va_up m k (tkN (fP k) (sP k) (c + 1) l).2) := by
        intro t ht
        unfold F_X7_findLacking_173
        have ct : cT l (fP k) (sP k) = decide (t < l (sP k)) := by
          unfold cT
          by_cases q : fP k = sP k
          · rw [if_pos q] at ht ⊢; subst ht; rw [q]; congr 1
          · rw [if_neg q] at ht ⊢; subst ht; congr 1; exact propext ⟨fun z => by omega, fun z => by omega⟩
        have t1' : t ≤ 1 := by rw [ht]; split <;> omega
        by_cases hlt : t < l (sP k)
        · have hct : cT l (fP k) (sP k) = true := by rw [ct]; simp [hlt]
          rw [if_neg (nI_ge hlt (by omega)), rS_n _ _ hk (by decide), t1, rA_n h 60 7 _ t3 (by decide), (hb _ t3).1, wA_n h 60 7 _ _ t3 (by decide), rS_n _ _ hk (by decide), t2, rA_n _ 60 7 _ t4 (by decide), wA_n _ 60 7 _ _ t4 (by decide), rA_n _ 61 7 _ hk (by decide), wA_n _ 61 7 _ _ hk (by decide)]
          have e61 : gA_ (sA_ (sA_ h 60 (fP k) (nI (l (fP k)) - 1)) 60 (sP k) (gA_ (sA_ h 60 (fP k) (nI (l (fP k)) - 1)) 60 (sP k) - 1)) 61 k = nI (m k) := (hb k hk).2
          rw [e61, hm, nI_m1 (a := c + 1) (by omega)]
          have hb6 : BxM (sA_ (sA_ (sA_ h 60 (fP k) (nI (l (fP k)) - 1)) 60 (sP k) (gA_ (sA_ h 60 (fP k) (nI (l (fP k)) - 1)) 60 (sP k) - 1)) 61 k (nI (c + 1 - 1))) (dT l (fP k) (sP k)) (va_up m k c) := by
            intro j hj
            show upd (upd (gA_ h 60) (fP k) (nI (l (fP k)) - 1)) (sP k) (upd (gA_ h 60) (fP k) (nI (l (fP k)) - 1) (sP k) - 1) j = nI (dT l (fP k) (sP k) j) ∧ upd (gA_ h 61) k (nI (c + 1 - 1)) j = nI (va_up m k c j)
            obtain ⟨g1, g2⟩ := hb j hj
            refine ⟨?_, ?_⟩
            · unfold dT
              by_cases hfa : fP k = sP k
              · rw [if_pos hfa] at ht
                rw [← hfa]
                by_cases hkf : j = fP k
                · subst hkf
                  rw [pk_us, pk_us, nI_m1 (by omega), nI_m1 (by rw [← hfa] at hlt; omega)]
                  simp only [decide_true, b1n]
                  congr 1
                · rw [pk_un hkf, pk_un hkf, g1]
                  simp only [hkf, decide_false, b1n]
                  congr 1
              · rw [if_neg hfa] at ht
                by_cases hka : j = sP k
                · subst hka
                  rw [pk_us, pk_un (fun q => hfa q.symm), g1, nI_m1 (by omega)]
                  have : ¬ sP k = fP k := fun q => hfa q.symm
                  simp only [this, decide_true, decide_false, b1n]
                  try (congr 1; omega)
                · rw [pk_un hka]
                  by_cases hkf : j = fP k
                  · subst hkf
                    rw [pk_us, nI_m1 (by omega)]
                    simp only [hka, decide_true, decide_false, b1n]
                  · rw [pk_un hkf, g1]
                    simp only [hka, hkf, decide_false, b1n]
                    congr 1
            · unfold va_up
              by_cases hjk : j = k
              · subst hjk; rw [pk_us, if_pos rfl]; rfl
              · rw [pk_un hjk, if_neg hjk]; exact g2
          have mk : va_up m k c k = c := by unfold va_up; rw [if_pos rfl]
          obtain ⟨h', e5, hb5⟩ := ih n _ (dT l (fP k) (sP k)) (va_up m k c) (by omega) hb6 (dT_le hl) mk (by omega)
          refine ⟨h', e5, ?_⟩
          rw [bx_uu] at hb5
          unfold tkN
          rw [hct, if_pos rfl]
          exact hb5
        · have hct : cT l (fP k) (sP k) = false := by rw [ct]; simp [hlt]
          rw [if_pos (nI_le (by omega) (by omega))]
          exact ⟨h, rfl, selfm l hct rfl hb⟩
      by_cases hfa : fP k = sP k
      · rw [if_pos (by rw [hfa])]; exact key 1 (by rw [if_pos hfa])
      · rw [if_neg (fun q => hfa ((i_eq (by omega) (by omega)).mp q))]; exact key 0 (by rw [if_neg hfa])
theorem m_fl119 : ∀ (k n : Nat) (h : Hp) (l m : Nat → Nat), k < 7 → k < n → BxM h l m → (∀ k, l k ≤ 99) → (∀ k, m k ≤ 40) → ∃ h', F_X7_findLacking_119 n (nI k) h = some h' ∧ BxM h' (stl k (l, m)).1 (stl k (l, m)).2 := by
  intro k
  induction k with
  | zero =>
    intro n h l m h1 h2 hb hl hm
    obtain ⟨n, rfl⟩ : ∃ q, n = q + 1 := ⟨n - 1, by omega⟩
    exact ⟨h, by rw [F_X7_findLacking_119, if_pos (by decide)], hb⟩
  | succ k ih =>
    intro n h l m h1 h2 hb hl hm
    obtain ⟨n, rfl⟩ : ∃ q, n = q + 1 := ⟨n - 1, by omega⟩
    have hmk := hm (k + 1)
    rw [F_X7_findLacking_119, if_neg (fun q => by rw [nI_le0 (by omega)] at q; omega)]
    obtain ⟨h3, e3, hb3⟩ := m_fl123 (k217 := F_X7_findLacking_217 (F_X7_findLacking_119 n)) h1 (m (k + 1)) FU_ h l m (by unfold FU_; omega) hb hl rfl hmk
    rw [e3]
    unfold F_X7_findLacking_217
    rw [show nI (k + 1) + -1 = nI k from pk_m1 k]
    have hq := tkN_le (fP (k + 1)) (sP (k + 1)) (m (k + 1)) l hl
    exact ih n h3 _ _ (by omega) (by omega) hb3 hq.1 (fun j => by
      unfold va_up; split
      · exact Nat.le_trans hq.2 hmk
      · exact hm j)
theorem m_find {σ : Sg} {h : Hp} (hw : Wf σ) (hm : RepM σ h) : ∃ h', F_X7_findLacking h = some h' ∧ ∀ k, k < 7 → gA_ h' 61 k = nI (lkN σ k) := by
  have h40 := hw.1
  unfold F_X7_findLacking
  obtain ⟨h1, e1, hm1, hb1⟩ := m_fl2 F_X7_findLacking_26 7 0 FU_ h rfl (by unfold FU_; omega) hm (fun k hk => absurd hk (Nat.not_lt_zero k))
  rw [show F_X7_findLacking_2 FU_ F_X7_findLacking_26 0 h = _ from e1]
  unfold F_X7_findLacking_26
  obtain ⟨h2, e2, hm2, hb2⟩ := m_fl28 hw F_X7_findLacking_69 (sN σ) 0 FU_ h1 (by omega) (by unfold FU_; omega) hm1 (fun k hk => by
    rw [hb1 k hk, show cnt σ 0 k = 0 from rfl, show nI 0 = 0 from rfl]; simp)
  rw [show F_X7_findLacking_28 FU_ F_X7_findLacking_69 0 h1 = _ from e2]
  unfold F_X7_findLacking_69
  obtain ⟨h3, e3, hb3⟩ := m_fl71 hw F_X7_findLacking_116 7 0 FU_ h2 rfl (by unfold FU_; omega) (fun k hk => absurd hk (Nat.not_lt_zero k)) (fun k _ hk => hb2 k hk)
  rw [show F_X7_findLacking_71 FU_ F_X7_findLacking_116 0 h2 = _ from e3]
  unfold F_X7_findLacking_116
  obtain ⟨h4, e4, hb4⟩ := m_fl119 6 FU_ h3 _ _ (by decide) (by unfold FU_; omega) hb3 (fun k => by have := hw.2.2.2.2.2.2 k; unfold lf; omega) (fun k => by have := cnt_le σ (sN σ) k; unfold ms; omega)
  exact ⟨h4, e4, fun k hk => (hb4 k hk).2⟩
theorem C_lacking {σ : Sg} {h : Hp} (hw : Wf σ) (hc : RepC σ h) : ∃ h', F_X6_lacking h = some (nI (sumN (lkN σ) 7), h') := by
  unfold F_X6_lacking
  obtain ⟨h1, e1, hb⟩ := c_settle hw hc
  rw [e1, ob_s]
  refine ⟨h1, ?_⟩
  refine lp_FU (fun n i => F_X6_lacking_11 n (nI (sumN (lkN σ) i)) (nI i) h1) _ 7 (by decide) (fun n i hi => ?_) (fun n => ?_)
  · show F_X6_lacking_11 (n + 1) _ _ h1 = _
    rw [F_X6_lacking_11, if_neg (show ¬ (7 : Int32) ≤ nI i from (nI_ge hi (by decide) : ¬ nI 7 ≤ nI i))]
    unfold F_X1_shortOf
    rw [f_isKind, in7 hi, ob_s, if_neg b1_, rA_n h1 11 7 _ hi (by decide), hb i hi, ob_s, nI_add, nI_1]; rfl
  · show F_X6_lacking_11 (n + 1) _ _ h1 = _
    rw [F_X6_lacking_11, if_pos (by decide)]
theorem M_lacking {σ : Sg} {h : Hp} (hw : Wf σ) (hm : RepM σ h) : ∃ h', F_X7_lacking h = some (nI (sumN (lkN σ) 7), h') := by
  unfold F_X7_lacking
  obtain ⟨h1, e1, hb⟩ := m_find hw hm
  rw [e1, ob_s]
  refine ⟨h1, ?_⟩
  refine lp_FU (fun n i => F_X7_lacking_8 n (nI (sumN (lkN σ) i)) (nI i) h1) _ 7 (by decide) (fun n i hi => ?_) (fun n => ?_)
  · show F_X7_lacking_8 (n + 1) _ _ h1 = _
    rw [F_X7_lacking_8, if_neg (show ¬ (7 : Int32) ≤ nI i from (nI_ge hi (by decide) : ¬ nI 7 ≤ nI i)), rA_n h1 61 7 _ hi (by decide), hb i hi, nI_add, nI_1]; rfl
  · show F_X7_lacking_8 (n + 1) _ _ h1 = _
    rw [F_X7_lacking_8, if_pos (by decide)]
def s_lacks (σ : Sg) (k : Int32) : Int32 × Nat := if inN k 7 = true then (nI (lkN σ k.toNatClampNeg), 0) else (-1, 1)
theorem C_lacks {σ : Sg} {h : Hp} (hw : Wf σ) (hc : RepC σ h) (k : Int32) : ∃ h', F_X6_lacks k h = some ((s_lacks σ k).1, rC h' (s_lacks σ k).2) ∧ ((s_lacks σ k).2 ≠ 0 → h' = h) := by
  unfold F_X6_lacks s_lacks
  rw [f_isKind, ob_s]
  cases hp : inN k 7 with
  | false => refine ⟨h, ?_, fun _ => rfl⟩; rw [if_pos b0_, c_r1]; rfl
  | true =>
    obtain ⟨j, hj, rfl⟩ := inN_n (n := 7) (by decide) hp
    obtain ⟨h1, e1, hb⟩ := c_settle hw hc
    refine ⟨h1, ?_, fun q => absurd rfl q⟩
    rw [if_neg b1_, e1, ob_s]
    unfold F_X1_shortOf
    rw [f_isKind, in7 hj, ob_s, if_neg b1_, rA_n h1 11 7 _ hj (by decide), hb j hj, if_pos rfl, nI_clamp (by omega)]; rfl
theorem M_lacks {σ : Sg} {h : Hp} (hw : Wf σ) (hm : RepM σ h) (k : Int32) : ∃ h', F_X7_lacks k h = some ((s_lacks σ k).1, rM h' (s_lacks σ k).2) ∧ ((s_lacks σ k).2 ≠ 0 → h' = h) := by
  unfold F_X7_lacks s_lacks
  rw [f_isIn, ob_s]
  cases hp : inN k 7 with
  | false => refine ⟨h, ?_, fun _ => rfl⟩; rw [if_pos b0_, m_r1]; rfl
  | true =>
    obtain ⟨j, hj, rfl⟩ := inN_n (n := 7) (by decide) hp
    obtain ⟨h1, e1, hb⟩ := m_find hw hm
    refine ⟨h1, ?_, fun q => absurd rfl q⟩
    rw [if_neg b1_, e1, ob_s, rA_n h1 61 7 _ hj (by decide), hb j hj, if_pos rfl, nI_clamp (by omega)]; rfl
