/-! ===== place ===== -/
def placeS (σ : Sg) (k t x y z c : Nat) : Sg := (sBo σ, sN σ + 1, fun j => if j = sN σ then k else sK σ j, fun j => if j = sN σ then t else sT σ j, fun j => if j = sN σ then x else sX σ j, fun j => if j = sN σ then y else sY σ j, fun j => if j = sN σ then z else sZ σ j, fun j => if j = sN σ then c else sC σ j, fun j => sTh σ j || decide (j = sN σ), fun i => if inC6 x (lX k t) y (lY k t) z i = true then some (sN σ) else sGr σ i, sG σ, sBx σ)
theorem pl_old {σ : Sg} {k t x y z c b : Nat} (hb : b ≠ sN σ) : sK (placeS σ k t x y z c) b = sK σ b ∧ sT (placeS σ k t x y z c) b = sT σ b ∧ sX (placeS σ k t x y z c) b = sX σ b ∧ sY (placeS σ k t x y z c) b = sY σ b ∧ sZ (placeS σ k t x y z c) b = sZ σ b ∧ sC (placeS σ k t x y z c) b = sC σ b := ⟨if_neg hb, if_neg hb, if_neg hb, if_neg hb, if_neg hb, if_neg hb⟩
theorem pl_new (σ : Sg) (k t x y z c : Nat) : sK (placeS σ k t x y z c) (sN σ) = k ∧ sT (placeS σ k t x y z c) (sN σ) = t ∧ sX (placeS σ k t x y z c) (sN σ) = x ∧ sY (placeS σ k t x y z c) (sN σ) = y ∧ sZ (placeS σ k t x y z c) (sN σ) = z ∧ sC (placeS σ k t x y z c) (sN σ) = c := ⟨if_pos rfl, if_pos rfl, if_pos rfl, if_pos rfl, if_pos rfl, if_pos rfl⟩
theorem Wf_place {σ : Sg} (hw : Wf σ) (h40 : sN σ < 40) {k t x y z c : Nat} (hk : k < 7) (ht : t < 2) (hx : x + lX k t ≤ 6) (hy : y + lY k t ≤ 6) (hz : z < 5) (hc : 1 ≤ c ∧ c ≤ 5) : Wf (placeS σ k t x y z c) := by
  refine ⟨h40, hw.2.1, fun b hb => ?_, fun j hj => ?_, fun i b hi => ?_, hw.2.2.2.2.2.1, hw.2.2.2.2.2.2⟩
  · by_cases h : b = sN σ
    · subst h
      unfold sLx sLy
      obtain ⟨e1, e2, e3, e4, e5, e6⟩ := pl_new σ k t x y z c
      rw [e1, e2, e3, e4, e5, e6]; exact ⟨hk, ht, hx, hy, hz, hc⟩
    · unfold sLx sLy
      obtain ⟨e1, e2, e3, e4, e5, e6⟩ := pl_old (k := k) (t := t) (x := x) (y := y) (z := z) (c := c) h
      rw [e1, e2, e3, e4, e5, e6]
      have hb : b < sN σ + 1 := hb
      exact hw.2.2.1 b (by omega)
  · have hj : (sTh σ j || decide (j = sN σ)) = true := hj
    show j < sN σ + 1
    rw [Bool.or_eq_true, decide_eq_true_iff] at hj
    rcases hj with q | q
    · have := hw.2.2.2.1 j q; omega
    · omega
  · have hi : (if inC6 x (lX k t) y (lY k t) z i = true then some (sN σ) else sGr σ i) = some b := hi
    show b < sN σ + 1
    split at hi
    · cases hi; omega
    · have := hw.2.2.2.2.1 i b hi; omega
theorem ovl_c (a la b lb : Nat) : ovl a la b lb = ovl b lb a la := by unfold ovl; rw [Nat.min_comm, Nat.max_comm]
theorem stN_c (σ : Sg) (a b : Nat) : stN σ a b = stN σ b a := by
  unfold stN
  rw [ovl_c (sX σ a), ovl_c (sY σ a)]
  by_cases h : sZ σ a = sZ σ b + 1 ∨ sZ σ b = sZ σ a + 1
  · rw [if_pos h, if_pos h.symm]
  · rw [if_neg h, if_neg (fun q => h q.symm)]
theorem nbr_c (σ : Sg) (a b : Nat) : nbr σ a b = nbr σ b a := by
  unfold nbr
  rw [stN_c]
  refine decide_eq_decide.mpr ⟨fun ⟨p, q, r, s⟩ => ⟨q, p, fun e => r e.symm, s⟩, fun ⟨p, q, r, s⟩ => ⟨q, p, fun e => r e.symm, s⟩⟩
theorem nbr_place {σ : Sg} {k t x y z c : Nat} (a b : Nat) : nbr (placeS σ k t x y z c) a b = (nbr σ a b || (decide (a = sN σ ∧ b < sN σ ∧ 0 < stN (placeS σ k t x y z c) (sN σ) b) || decide (b = sN σ ∧ a < sN σ ∧ 0 < stN (placeS σ k t x y z c) (sN σ) a))) := by
  unfold nbr
  rw [← Bool.decide_or, ← Bool.decide_or]
  refine decide_eq_decide.mpr ?_
  show (a < sN σ + 1 ∧ b < sN σ + 1 ∧ _) ↔ _
  by_cases ha : a = sN σ
  · subst ha
    constructor
    · rintro ⟨_, q2, q3, q4⟩; exact Or.inr (Or.inl ⟨rfl, by omega, q4⟩)
    · rintro (⟨q1, _⟩ | ⟨_, q2, q3⟩ | ⟨_, q2, _⟩)
      · omega
      · exact ⟨by omega, by omega, by omega, q3⟩
      · omega
  · by_cases hb : b = sN σ
    · subst hb
      rw [stN_c]
      constructor
      · rintro ⟨q1, _, _, q4⟩; exact Or.inr (Or.inr ⟨rfl, by omega, q4⟩)
      · rintro (⟨_, q1, _⟩ | ⟨_, q2, _⟩ | ⟨_, q2, q3⟩)
        · omega
        · omega
        · exact ⟨by omega, by omega, ha, q3⟩
    · have e : stN (placeS σ k t x y z c) a b = stN σ a b := by
        unfold stN sLx sLy
        obtain ⟨e1, e2, e3, e4, e5, e6⟩ := pl_old (k := k) (t := t) (x := x) (y := y) (z := z) (c := c) ha
        obtain ⟨f1, f2, f3, f4, f5, f6⟩ := pl_old (k := k) (t := t) (x := x) (y := y) (z := z) (c := c) hb
        rw [e1, e2, e3, e4, e5, f1, f2, f3, f4, f5]
      rw [e]
      constructor
      · rintro ⟨q1, q2, q3, q4⟩; exact Or.inl ⟨by omega, by omega, q3, q4⟩
      · rintro (⟨q1, q2, q3, q4⟩ | ⟨q1, _⟩ | ⟨q1, _⟩)
        · exact ⟨by omega, by omega, q3, q4⟩
        · exact absurd q1 ha
        · exact absurd q1 hb
/-! join -/
theorem f_exists' {n : Nat} {h : Hp} (e : gI_ h 138 = nI n) (x : Int32) : F_X2_exists x h = some (bi_ (inN x (nI n))) := by
  unfold F_X2_exists
  rw [e, two_t]
  cases inN x (nI n) <;> rfl
theorem f_shared' {σ : Sg} {h : Hp} (hw : Wf σ) (h138 : gI_ h 138 = nI (sN σ)) (h16 : ∀ b, b < sN σ → gA_ h 16 b = nI (sZ σ b)) (h18 : ∀ b, b < sN σ → ∀ s, tb (gL_ h 18 b) s = inR (sX σ b) (sLx σ b) (sY σ b) (sLy σ b) s) {a b : Nat} (ha : a < sN σ) (hb : b < sN σ) : F_X2_sharedStuds (nI a) (nI b) h = some (nI (stN σ a b)) := by
  have h40 := hw.1
  obtain ⟨a1, a2, a3, a4, a5, a6⟩ := hw.2.2.1 a ha
  obtain ⟨b1, b2, b3, b4, b5, b6⟩ := hw.2.2.1 b hb
  unfold F_X2_sharedStuds stN
  rw [f_exists' h138, n_inN ha (by omega), ob_s, if_neg b1_, f_exists' h138, n_inN hb (by omega), ob_s, if_neg b1_, rA_n h 16 40 _ (by omega) (by decide), rA_n h 16 40 _ (by omega) (by decide), h16 a ha, h16 b hb]
  by_cases hz : sZ σ a = sZ σ b + 1 ∨ sZ σ b = sZ σ a + 1
  · rw [if_pos ((ab_1 (by omega) (by omega)).mpr hz), if_pos hz, rL_n h 18 40 _ (by omega) (by decide), rL_n h 18 40 _ (by omega) (by decide), f_bitCount, ob_s]
    congr 2
    unfold pcL
    rw [← rect_cnt a3 a4 b3 b4]
    refine sumN_c (fun s _ => ?_)
    rw [tb_and, h18 a ha, h18 b hb]
  · rw [if_neg (fun q => hz ((ab_1 (by omega) (by omega)).mp q)), if_neg hz]; rfl
def jn (σ : Sg) (n : Nat) : Nat → Hp → Hp
  | 0, h => h
  | i + 1, h => if 0 < stN σ n i then sL_ (sL_ (jn σ n i h) 19 n (gL_ (jn σ n i h) 19 n ||| ls_ 1 (nI i))) 19 i (gL_ (sL_ (jn σ n i h) 19 n (gL_ (jn σ n i h) 19 n ||| ls_ 1 (nI i))) 19 i ||| ls_ 1 (nI n)) else jn σ n i h
theorem jn_sm (σ : Sg) (n : Nat) : ∀ (i : Nat) (h : Hp), Sm [] [] [] [19] h (jn σ n i h)
  | 0, h => sm_rf
  | i + 1, h => by
    have a := jn_sm σ n i h
    rw [jn]
    split
    · refine sm_C a (by decide) ?_
      exact sm_L (k := 19) (by decide) rfl (sm_L (k := 19) (by decide) rfl sm_rf)
    · exact a
theorem jn_b (σ : Sg) (n : Nat) (hn : n < 40) {a : Nat} (b : Nat) (h : Hp) : ∀ i, i ≤ n → tb (gL_ (jn σ n i h) 19 a) b = (tb (gL_ h 19 a) b || (decide (a = n ∧ b < i ∧ 0 < stN σ n b) || decide (b = n ∧ a < i ∧ 0 < stN σ n a)))
  | 0, _ => by
    rw [decide_eq_false (by omega : ¬ (a = n ∧ b < 0 ∧ _)), decide_eq_false (by omega : ¬ (b = n ∧ a < 0 ∧ _))]
    show tb (gL_ h 19 a) b = _
    cases tb (gL_ h 19 a) b <;> rfl
  | i + 1, hi => by
    have ih := fun a => jn_b σ n hn (a := a) b h i (by omega)
    rw [jn]
    by_cases hp : 0 < stN σ n i
    · rw [if_pos hp, gL_sL, if_pos rfl, gL_sL, if_pos rfl]
      by_cases ha : a = i
      · subst ha
        rw [vL_us, vL_un (by omega), tb_set (by omega), ih a]
        rw [show decide (a = n ∧ b < a + 1 ∧ 0 < stN σ n b) = decide (a = n ∧ b < a ∧ 0 < stN σ n b) from decide_eq_decide.mpr (by constructor <;> (rintro ⟨q, _⟩; omega))]
        rw [show decide (b = n ∧ a < a + 1 ∧ 0 < stN σ n a) = decide (b = n) from decide_eq_decide.mpr ⟨fun q => q.1, fun q => ⟨q, by omega, hp⟩⟩]
        rw [show decide (b = n ∧ a < a ∧ 0 < stN σ n a) = false from decide_eq_false (by omega)]
        cases tb (gL_ h 19 a) b <;> cases decide (a = n ∧ b < a ∧ 0 < stN σ n b) <;> cases decide (b = n) <;> rfl
      · rw [vL_un ha]
        by_cases han : a = n
        · subst han
          rw [vL_us, tb_set (by omega), ih a]
          rw [show decide (b = a ∧ a < i + 1 ∧ 0 < stN σ a a) = false from decide_eq_false (by omega), show decide (b = a ∧ a < i ∧ 0 < stN σ a a) = false from decide_eq_false (by omega)]
          rw [show decide (a = a ∧ b < i + 1 ∧ 0 < stN σ a b) = (decide (a = a ∧ b < i ∧ 0 < stN σ a b) || decide (b = i)) by
            rw [← Bool.decide_or]
            refine decide_eq_decide.mpr ⟨fun ⟨_, q2, q3⟩ => ?_, fun q => ?_⟩
            · by_cases hbi : b = i
              · exact Or.inr hbi
              · exact Or.inl ⟨rfl, by omega, q3⟩
            · rcases q with ⟨_, q2, q3⟩ | rfl
              · exact ⟨rfl, by omega, q3⟩
              · exact ⟨rfl, by omega, hp⟩]
          cases tb (gL_ h 19 a) b <;> cases decide (a = a ∧ b < i ∧ 0 < stN σ a b) <;> cases decide (b = i) <;> rfl
        · rw [vL_un han, ih a]
          rw [show decide (a = n ∧ b < i + 1 ∧ 0 < stN σ n b) = decide (a = n ∧ b < i ∧ 0 < stN σ n b) from decide_eq_decide.mpr (by constructor <;> (rintro ⟨q, _⟩; exact absurd q han))]
          rw [show decide (b = n ∧ a < i + 1 ∧ 0 < stN σ n a) = decide (b = n ∧ a < i ∧ 0 < stN σ n a) from decide_eq_decide.mpr ⟨fun ⟨q1, q2, q3⟩ => ⟨q1, by omega, q3⟩, fun ⟨q1, q2, q3⟩ => ⟨q1, by omega, q3⟩⟩]
    · rw [if_neg hp, ih a]
      rw [show decide (a = n ∧ b < i + 1 ∧ 0 < stN σ n b) = decide (a = n ∧ b < i ∧ 0 < stN σ n b) from decide_eq_decide.mpr ⟨fun ⟨q1, q2, q3⟩ => ⟨q1, by
          by_cases hbi : b = i
          · subst hbi; exact absurd q3 hp
          · omega, q3⟩, fun ⟨q1, q2, q3⟩ => ⟨q1, by omega, q3⟩⟩]
      rw [show decide (b = n ∧ a < i + 1 ∧ 0 < stN σ n a) = decide (b = n ∧ a < i ∧ 0 < stN σ n a) from decide_eq_decide.mpr ⟨fun ⟨q1, q2, q3⟩ => ⟨q1, by
          by_cases hbi : a = i
          · subst hbi; exact absurd q3 hp
          · omega, q3⟩, fun ⟨q1, q2, q3⟩ => ⟨q1, by omega, q3⟩⟩]
theorem f_join {σ : Sg} {h : Hp} {n : Nat} (hw : Wf σ) (hn : sN σ = n + 1) (h138 : gI_ h 138 = nI (sN σ)) (h16 : ∀ b, b < sN σ → gA_ h 16 b = nI (sZ σ b)) (h18 : ∀ b, b < sN σ → ∀ s, tb (gL_ h 18 b) s = inR (sX σ b) (sLx σ b) (sY σ b) (sLy σ b) s) : F_X2_join (nI n) h = some (jn σ n n h) := by
  have h40 := hw.1
  unfold F_X2_join
  refine lp_FU (fun m i => F_X2_join_2 m (nI n) (nI i) (jn σ n i h)) _ n (by omega) (fun m i hi => ?_) (fun m => ?_)
  · show F_X2_join_2 (m + 1) _ _ _ = _
    have g := jn_sm σ n i h
    rw [F_X2_join_2, if_neg (nI_ge hi (by omega)), f_shared' hw (by rw [g.1 138 (by decide)]; exact h138) (by rw [g.2.2.1 16 (by decide)]; exact h16) (by rw [g.2.2.2 18 (by decide)]; exact h18) (by omega) (by omega), ob_s]
    have hs := stN_le hw (a := n) (b := i) (by omega) (by omega)
    unfold F_X2_join_40
    rw [show nI i + 1 = nI (i + 1) from nI_add i 1]
    by_cases hp : 0 < stN σ n i
    · rw [if_neg (fun q => by have := (nI_le0 (by omega)).mp q; omega), rL_n _ 19 40 _ (by omega) (by decide), wL_n _ 19 40 _ _ (by omega) (by decide), rL_n _ 19 40 _ (by omega) (by decide), wL_n _ 19 40 _ _ (by omega) (by decide)]
      show _ = F_X2_join_2 m _ _ (jn σ n (i + 1) h)
      rw [jn, if_pos hp]
    · rw [if_pos ((nI_le0 (by omega)).mpr (by omega))]
      show _ = F_X2_join_2 m _ _ (jn σ n (i + 1) h)
      rw [jn, if_neg hp]
  · show F_X2_join_2 (m + 1) _ _ _ = _
    rw [F_X2_join_2, if_pos (nI_le (Nat.le_refl _) (by omega))]
