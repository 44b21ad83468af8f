/-! ===== links ===== -/
def lk2 (σ : Sg) (a : Nat) : Nat → Hp → Hp
  | 0, h => h
  | j + 1, h => if a ≠ j ∧ 0 < stN σ a j then sL_ (lk2 σ a j h) 48 a (gL_ (lk2 σ a j h) 48 a ||| ls_ 1 (nI j)) else lk2 σ a j h
def lk1 (σ : Sg) : Nat → Hp → Hp
  | 0, h => h
  | a + 1, h => lk2 σ a (sN σ) (sL_ (lk1 σ a h) 48 a 0)
theorem lk2_sm (σ : Sg) (a : Nat) : ∀ (j : Nat) (h : Hp), Sm [] [] [] [48] h (lk2 σ a j h)
  | 0, h => sm_rf
  | j + 1, h => by
    have q := lk2_sm σ a j h
    rw [lk2]
    split
    · exact sm_C q (by decide) (sm_L (k := 48) (by decide) rfl sm_rf)
    · exact q
theorem lk1_sm (σ : Sg) : ∀ (a : Nat) (h : Hp), Sm [] [] [] [48] h (lk1 σ a h)
  | 0, h => sm_rf
  | a + 1, h => by
    rw [lk1]
    exact sm_C (lk1_sm σ a h) (by decide) (sm_L (k := 48) (by decide) rfl (lk2_sm σ a _ _))
theorem lk2_o (σ : Sg) {a c : Nat} (hc : c ≠ a) : ∀ (j : Nat) (h : Hp), gL_ (lk2 σ a j h) 48 c = gL_ h 48 c
  | 0, h => rfl
  | j + 1, h => by
    rw [lk2]
    split
    · rw [gL_sL, if_pos rfl, vL_un hc, lk2_o σ hc j h]
    · exact lk2_o σ hc j h
theorem lk2_b (σ : Sg) (a b : Nat) (h : Hp) : ∀ j, j ≤ 40 → tb (gL_ (lk2 σ a j h) 48 a) b = (tb (gL_ h 48 a) b || decide (b < j ∧ a ≠ b ∧ 0 < stN σ a b))
  | 0, _ => by
    rw [decide_eq_false (by omega), Bool.or_false]; rfl
  | j + 1, hj => by
    have ih := lk2_b σ a b h j (by omega)
    rw [lk2]
    by_cases q : a ≠ j ∧ 0 < stN σ a j
    · rw [if_pos q, gL_sL, if_pos rfl, vL_us, tb_set (by omega), ih]
      by_cases hb : b = j
      · subst hb
        rw [decide_eq_true (rfl : b = b), decide_eq_true (⟨by omega, q⟩ : b < b + 1 ∧ _), Bool.or_true, Bool.or_true]
      · rw [decide_eq_false hb, Bool.or_false]
        congr 1
        exact decide_eq_decide.mpr ⟨fun ⟨p, r⟩ => ⟨by omega, r⟩, fun ⟨p, r⟩ => ⟨by omega, r⟩⟩
    · rw [if_neg q, ih]
      congr 1
      refine decide_eq_decide.mpr ⟨fun ⟨p, r⟩ => ⟨by omega, r⟩, fun ⟨p, r⟩ => ⟨?_, r⟩⟩
      by_cases hb : b = j
      · subst hb; exact absurd r q
      · omega
theorem lk1_r {σ : Sg} (hw : Wf σ) (h : Hp) : ∀ n, n ≤ sN σ → ∀ a, a < n → gL_ (lk1 σ n h) 48 a = nbI σ a
  | 0, _, a, ha => by omega
  | n + 1, hn, a, ha => by
    have h40 := hw.1
    rw [lk1]
    by_cases q : a = n
    · subst q
      refine tb_ext (fun b _ => ?_)
      rw [lk2_b _ _ _ _ _ h40, gL_sL, if_pos rfl, vL_us, tb_0, tb_nbI hw, Bool.false_or]
      unfold nbr
      exact decide_eq_decide.mpr ⟨fun ⟨p, r⟩ => ⟨by omega, p, r⟩, fun ⟨_, p, r⟩ => ⟨p, r⟩⟩
    · rw [lk2_o σ q, gL_sL, if_pos rfl, vL_un q]
      exact lk1_r hw h n (by omega) a (by omega)
theorem RepM.L48 {σ : Sg} {h h' : Hp} (hm : RepM σ h) (s : Sm [] [] [] [48] h h') : RepM σ h' := hm.sm s (by decide)
theorem f_links {σ : Sg} {h : Hp} (hw : Wf σ) (hm : RepM σ h) : F_X7_links h = some (lk1 σ (sN σ) h) := by
  have h40 := hw.1
  unfold F_X7_links
  refine lp_FU (fun n a => F_X7_links_2 n (nI a) (lk1 σ a h)) _ (sN σ) (by omega) (fun n a ha => ?_) (fun n => ?_)
  · show F_X7_links_2 (n + 1) _ _ = _
    have m1 := hm.L48 (lk1_sm σ a h)
    rw [F_X7_links_2, m1.2.2.1, if_neg (nI_ge ha (by omega)), wL_n _ 48 40 _ _ (by omega) (by decide)]
    refine lp_FU (fun m j => F_X7_links_19 m (F_X7_links_59 (F_X7_links_2 n)) (nI a) (nI j) (lk2 σ a j (sL_ (lk1 σ a h) 48 a 0))) _ (sN σ) (by omega) (fun m j hj => ?_) (fun m => ?_)
    · show F_X7_links_19 (m + 1) _ _ _ _ = _
      have m2 : RepM σ (lk2 σ a j (sL_ (lk1 σ a h) 48 a 0)) := m1.L48 (sm_L (k := 48) (by decide) rfl (lk2_sm σ a j _))
      have hs := stN_le hw (a := a) (b := j) ha hj
      rw [F_X7_links_19, m2.2.2.1, if_neg (nI_ge hj (by omega))]
      unfold F_X7_links_53
      rw [show nI j + 1 = nI (j + 1) from nI_add j 1]
      show _ = F_X7_links_19 m _ _ _ (lk2 σ a (j + 1) _)
      rw [lk2]
      by_cases q : a = j
      · rw [if_pos (by rw [q]), if_neg (fun r => r.1 q)]
      · rw [if_neg (fun r => q ((i_eq (by omega) (by omega)).mp r)), f_studsOf hw m2 ha hj, ob_s]
        by_cases q2 : 0 < stN σ a j
        · rw [if_neg (fun r => by have := (nI_le0 (by omega)).mp r; omega), if_pos ⟨q, q2⟩, rL_n _ 48 40 _ (by omega) (by decide), wL_n _ 48 40 _ _ (by omega) (by decide)]
        · rw [if_pos ((nI_le0 (by omega)).mpr (by omega)), if_neg (fun r => q2 r.2)]
    · show F_X7_links_19 (m + 1) _ _ _ _ = _
      have m2 : RepM σ (lk2 σ a (sN σ) (sL_ (lk1 σ a h) 48 a 0)) := m1.L48 (sm_L (k := 48) (by decide) rfl (lk2_sm σ a _ _))
      rw [F_X7_links_19, m2.2.2.1, if_pos (nI_le (Nat.le_refl _) (by omega))]
      unfold F_X7_links_59
      rw [show nI a + 1 = nI (a + 1) from nI_add a 1]; rfl
  · show F_X7_links_2 (n + 1) _ _ = _
    have m1 := hm.L48 (lk1_sm σ (sN σ) h)
    rw [F_X7_links_2, m1.2.2.1, if_pos (nI_le (Nat.le_refl _) (by omega))]
theorem links_Lk {σ : Sg} (hw : Wf σ) (h : Hp) : Lk σ (lk1 σ (sN σ) h) := fun a ha => lk1_r hw h (sN σ) (Nat.le_refl _) a ha
/-! ===== the pieces one after another ===== -/
def cutP (σ : Sg) (A : Int64) : Int64 := A &&& (pc1 σ A ^^^ (-1))
def rst (σ : Sg) (A : Int64) : Nat → Int64
  | 0 => A
  | i + 1 => cutP σ (rst σ A i)
def npc (σ : Sg) : Nat → Int64 → Nat
  | 0, _ => 0
  | p + 1, A => if A = 0 then 0 else npc σ p (cutP σ A) + 1
theorem rst_s (σ : Sg) (A : Int64) : ∀ i, rst σ (cutP σ A) i = rst σ A (i + 1)
  | 0 => rfl
  | i + 1 => by rw [rst, rst_s σ A i, rst, rst, rst]
theorem bl_cut {σ : Sg} {A : Int64} {m : Nat} (h : bl A m) : bl (cutP σ A) m := bl_and h
theorem cut_lt {σ : Sg} (hw : Wf σ) {A : Int64} (hA : bl A 40) (h0 : ¬ A = 0) : pcL (cutP σ A) < pcL A := by
  obtain ⟨b, hb⟩ := lw_ex h0
  have h1 : tb (pc1 σ A) b = true := (rch_b hw hA (low_sub A) b).mpr (.base (by rw [tb_low hb hb.1]; exact decide_eq_true rfl))
  have h2 : pcL (cutP σ A) ≤ pcL (A &&& (A - 1)) := by
    unfold pcL
    have : ∀ n, n ≤ 64 → sumN (fun i => b1n (tb (cutP σ A) i)) n ≤ sumN (fun i => b1n (tb (A &&& (A - 1)) i)) n := by
      intro n
      induction n with
      | zero => intro _; exact Nat.le_refl _
      | succ n ih =>
        intro hn
        rw [sumN, sumN]
        refine Nat.add_le_add (ih (by omega)) ?_
        unfold cutP
        rw [tb_min, tb_pop' hb]
        by_cases q : n = b
        · subst q; rw [h1, Bool.not_true, Bool.and_false]; exact Nat.zero_le _
        · rw [decide_eq_false q]
          cases tb A n <;> cases tb (pc1 σ A) n <;> decide
    exact this 64 (Nat.le_refl _)
  have := pcL_pop hb
  omega
theorem npc_r {σ : Sg} (hw : Wf σ) : ∀ p A, bl A 40 → pcL A ≤ p → npc σ p A ≤ p ∧ rst σ A (npc σ p A) = 0 ∧ ∀ i, i < npc σ p A → ¬ rst σ A i = 0
  | 0, A, hA, hp => ⟨Nat.le_refl _, (pcL_z (by omega) : A = 0), fun i hi => by rw [npc] at hi; omega⟩
  | p + 1, A, hA, hp => by
    rw [npc]
    by_cases h0 : A = 0
    · rw [if_pos h0]; exact ⟨by omega, h0, fun i hi => by omega⟩
    · rw [if_neg h0]
      have hl := cut_lt hw hA h0
      obtain ⟨a1, a2, a3⟩ := npc_r hw p (cutP σ A) (bl_cut hA) (by omega)
      refine ⟨by omega, by rw [← rst_s]; exact a2, fun i hi => ?_⟩
      cases i with
      | zero => exact h0
      | succ i => rw [← rst_s]; exact a3 i (by omega)
