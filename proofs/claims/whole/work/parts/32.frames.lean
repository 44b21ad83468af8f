/-! ===== which cells may change ===== -/
def Sm (wI wJ wA wL : List Nat) (h h' : Hp) : Prop := (∀ k, k ∉ wI → gI_ h' k = gI_ h k) ∧ (∀ k, k ∉ wJ → gJ_ h' k = gJ_ h k) ∧ (∀ k, k ∉ wA → gA_ h' k = gA_ h k) ∧ (∀ k, k ∉ wL → gL_ h' k = gL_ h k)
theorem it_ {α : Type} {c : Prop} [Decidable c] {a b x : α} (e : (if c then a else b) = x) : (c ∧ a = x) ∨ (¬ c ∧ b = x) := by
  by_cases hc : c
  · exact Or.inl ⟨hc, ip_ hc e⟩
  · exact Or.inr ⟨hc, in_ hc e⟩
section SmRows
variable {wI wJ wA wL : List Nat} {h h2 h' : Hp} {k i : Nat}
theorem sm_rf : Sm wI wJ wA wL h h := ⟨fun _ _ => rfl, fun _ _ => rfl, fun _ _ => rfl, fun _ _ => rfl⟩
theorem sm_I {v : Int32} (hk : k ∈ wI) (e : h2 = sI_ h k v) (s : Sm wI wJ wA wL h2 h') : Sm wI wJ wA wL h h' := by
  subst e
  exact ⟨fun j hj => by rw [s.1 j hj, gI_sI, if_neg (show ¬ j = k from fun q => hj (by rw [q]; exact hk))], s.2.1, s.2.2.1, s.2.2.2⟩
theorem sm_J {v : Int64} (hk : k ∈ wJ) (e : h2 = sJ_ h k v) (s : Sm wI wJ wA wL h2 h') : Sm wI wJ wA wL h h' := by
  subst e
  exact ⟨s.1, fun j hj => by rw [s.2.1 j hj, gJ_sJ, if_neg (show ¬ j = k from fun q => hj (by rw [q]; exact hk))], s.2.2.1, s.2.2.2⟩
theorem sm_A {v : Int32} (hk : k ∈ wA) (e : h2 = sA_ h k i v) (s : Sm wI wJ wA wL h2 h') : Sm wI wJ wA wL h h' := by
  subst e
  exact ⟨s.1, s.2.1, fun j hj => by rw [s.2.2.1 j hj, gA_sA, if_neg (show ¬ j = k from fun q => hj (by rw [q]; exact hk))], s.2.2.2⟩
theorem sm_L {v : Int64} (hk : k ∈ wL) (e : h2 = sL_ h k i v) (s : Sm wI wJ wA wL h2 h') : Sm wI wJ wA wL h h' := by
  subst e
  exact ⟨s.1, s.2.1, s.2.2.1, fun j hj => by rw [s.2.2.2 j hj, gL_sL, if_neg (show ¬ j = k from fun q => hj (by rw [q]; exact hk))]⟩
theorem sm_C {vI vJ vA vL : List Nat} (a : Sm vI vJ vA vL h h2) (hs : (∀ k ∈ vI, k ∈ wI) ∧ (∀ k ∈ vJ, k ∈ wJ) ∧ (∀ k ∈ vA, k ∈ wA) ∧ ∀ k ∈ vL, k ∈ wL) (s : Sm wI wJ wA wL h2 h') : Sm wI wJ wA wL h h' :=
  ⟨fun j hj => (s.1 j hj).trans (a.1 j (fun q => hj (hs.1 j q))), fun j hj => (s.2.1 j hj).trans (a.2.1 j (fun q => hj (hs.2.1 j q))), fun j hj => (s.2.2.1 j hj).trans (a.2.2.1 j (fun q => hj (hs.2.2.1 j q))), fun j hj => (s.2.2.2 j hj).trans (a.2.2.2 j (fun q => hj (hs.2.2.2 j q)))⟩
end SmRows
theorem w_X0_paint (x1 : Int32) (x2 : Int32) (x3 : Int32) (x4 : Int32) (h : Hp) (r : Int32) (h' : Hp) (e : F_X0_paint x1 x2 x3 x4 h = some (r, h')) : Sm [] [] [8] [] h h' := by
  unfold F_X0_paint at e
  obtain ⟨_, _, e⟩ := ob_some e
  rcases it_ e with ⟨_, e⟩ | ⟨_, e⟩
  · cases e; exact sm_rf
  · obtain ⟨_, _, e⟩ := ob_some e
    obtain ⟨_, _, _, e⟩ := rA_some e
    obtain ⟨_, _, eh, e⟩ := wA_some e
    refine sm_A (k := 8) (by decide) eh ?_
    cases e; exact sm_rf
theorem w_X1_fill (x1 : Int32) (x2 : Int32) (h : Hp) (r : Int32) (h' : Hp) (e : F_X1_fill x1 x2 h = some (r, h')) : Sm [] [] [9] [] h h' := by
  unfold F_X1_fill at e
  obtain ⟨_, _, e⟩ := ob_some e
  rcases it_ e with ⟨_, e⟩ | ⟨_, e⟩
  · cases e; exact sm_rf
  · obtain ⟨_, _, _, e⟩ := rA_some e
    obtain ⟨_, _, eh, e⟩ := wA_some e
    refine sm_A (k := 9) (by decide) eh ?_
    cases e; exact sm_rf
theorem w_X1_weighNeeds_106 {h' : Hp} (k35 : Int32 → Hp → Option Hp) (hk35 : ∀ (x1 : Int32) (h : Hp), k35 x1 h = some h' → Sm [] [] [10, 11] [] h h') (x1 : Int32) (h : Hp) (e : F_X1_weighNeeds_106 k35 x1 h = some h') : Sm [] [] [10, 11] [] h h' := by
  unfold F_X1_weighNeeds_106 at e
  exact hk35 _ _ e
theorem w_X1_weighNeeds_35 {h' : Hp} : ∀ (n : Nat) (x1 : Int32) (h : Hp), F_X1_weighNeeds_35 n x1 h = some h' → Sm [] [] [10, 11] [] h h' := by
  intro n
  induction n with
  | zero => intro x1 h e; cases e
  | succ n ih =>
    intro x1 h e
    rw [F_X1_weighNeeds_35] at e
    obtain ⟨_, _, e⟩ := ob_some e
    rcases it_ e with ⟨_, e⟩ | ⟨_, e⟩
    · cases e; exact sm_rf
    · obtain ⟨_, _, e⟩ := ob_some e
      obtain ⟨_, _, e⟩ := ob_some e
      rcases it_ e with ⟨_, e⟩ | ⟨_, e⟩
      · exact (w_X1_weighNeeds_106 _ ih) _ _ e
      · obtain ⟨_, _, e⟩ := ob_some e
        rcases it_ e with ⟨_, e⟩ | ⟨_, e⟩
        · exact (w_X1_weighNeeds_106 _ ih) _ _ e
        · obtain ⟨_, _, _, e⟩ := rA_some e
          rcases it_ e with ⟨_, e⟩ | ⟨_, e⟩
          · obtain ⟨_, _, _, e⟩ := rA_some e
            obtain ⟨_, _, eh, e⟩ := wA_some e
            refine sm_A (k := 11) (by decide) eh ?_
            exact (w_X1_weighNeeds_106 _ ih) _ _ e
          · obtain ⟨_, _, _, e⟩ := rA_some e
            obtain ⟨_, _, eh, e⟩ := wA_some e
            refine sm_A (k := 10) (by decide) eh ?_
            exact (w_X1_weighNeeds_106 _ ih) _ _ e
theorem w_X1_weighNeeds_33 {h' : Hp} (h : Hp) (e : F_X1_weighNeeds_33  h = some h') : Sm [] [] [10, 11] [] h h' := by
  unfold F_X1_weighNeeds_33 at e
  exact (w_X1_weighNeeds_35 FU_) _ _ e
theorem w_X1_weighNeeds_2 {h' : Hp} (k33 : Hp → Option Hp) (hk33 : ∀ (h : Hp), k33  h = some h' → Sm [] [] [10, 11] [] h h') : ∀ (n : Nat) (x1 : Int32) (h : Hp), F_X1_weighNeeds_2 n k33 x1 h = some h' → Sm [] [] [10, 11] [] h h' := by
  intro n
  induction n with
  | zero => intro x1 h e; cases e
  | succ n ih =>
    intro x1 h e
    rw [F_X1_weighNeeds_2] at e
    rcases it_ e with ⟨_, e⟩ | ⟨_, e⟩
    · exact hk33 _ e
    · obtain ⟨_, _, _, e⟩ := rA_some e
      obtain ⟨_, _, eh, e⟩ := wA_some e
      refine sm_A (k := 10) (by decide) eh ?_
      obtain ⟨_, _, eh, e⟩ := wA_some e
      refine sm_A (k := 11) (by decide) eh ?_
      exact ih _ _ e
theorem w_X1_weighNeeds (h : Hp) (h' : Hp) (e : F_X1_weighNeeds  h = some h') : Sm [] [] [10, 11] [] h h' := by
  unfold F_X1_weighNeeds at e
  exact (w_X1_weighNeeds_2 _ (w_X1_weighNeeds_33) FU_) _ _ e
theorem w_X1_takeTwo_10 {r : Int32} {h' : Hp} (x1 : Int32) (x2 : Int32) (s0 : Int32) (h : Hp) (e : F_X1_takeTwo_10 x1 x2 s0 h = some (r, h')) : Sm [] [] [10] [] h h' := by
  unfold F_X1_takeTwo_10 at e
  obtain ⟨_, _, e⟩ := ob_some e
  rcases it_ e with ⟨_, e⟩ | ⟨_, e⟩
  · cases e; exact sm_rf
  · obtain ⟨_, _, e⟩ := ob_some e
    rcases it_ e with ⟨_, e⟩ | ⟨_, e⟩
    · cases e; exact sm_rf
    · obtain ⟨_, _, _, e⟩ := rA_some e
      rcases it_ e with ⟨_, e⟩ | ⟨_, e⟩
      · cases e; exact sm_rf
      · obtain ⟨_, _, _, e⟩ := rA_some e
        rcases it_ e with ⟨_, e⟩ | ⟨_, e⟩
        · obtain ⟨_, _, _, e⟩ := rA_some e
          obtain ⟨_, _, eh, e⟩ := wA_some e
          refine sm_A (k := 10) (by decide) eh ?_
          obtain ⟨_, _, _, e⟩ := rA_some e
          obtain ⟨_, _, eh, e⟩ := wA_some e
          refine sm_A (k := 10) (by decide) eh ?_
          cases e; exact sm_rf
        · cases e; exact sm_rf
theorem w_X1_takeTwo (x1 : Int32) (x2 : Int32) (h : Hp) (r : Int32) (h' : Hp) (e : F_X1_takeTwo x1 x2 h = some (r, h')) : Sm [] [] [10] [] h h' := by
  unfold F_X1_takeTwo at e
  rcases it_ e with ⟨_, e⟩ | ⟨_, e⟩
  · exact (w_X1_takeTwo_10) _ _ _ _ e
  · exact (w_X1_takeTwo_10) _ _ _ _ e
theorem w_X1_settle_58 {h' : Hp} (k7 : Int32 → Hp → Option Hp) (hk7 : ∀ (x1 : Int32) (h : Hp), k7 x1 h = some h' → Sm [] [] [10, 11] [] h h') (x1 : Int32) (h : Hp) (e : F_X1_settle_58 k7 x1 h = some h') : Sm [] [] [10, 11] [] h h' := by
  unfold F_X1_settle_58 at e
  exact hk7 _ _ e
theorem w_X1_settle_52 {h' : Hp} (k20 : Int32 → Int32 → Int32 → Hp → Option Hp) (hk20 : ∀ (x1 : Int32) (x2 : Int32) (x3 : Int32) (h : Hp), k20 x1 x2 x3 h = some h' → Sm [] [] [10, 11] [] h h') (x1 : Int32) (x2 : Int32) (x3 : Int32) (h : Hp) (e : F_X1_settle_52 k20 x1 x2 x3 h = some h') : Sm [] [] [10, 11] [] h h' := by
  unfold F_X1_settle_52 at e
  exact hk20 _ _ _ _ e
theorem w_X1_settle_20 {h' : Hp} (k58 : Int32 → Hp → Option Hp) (hk58 : ∀ (x1 : Int32) (h : Hp), k58 x1 h = some h' → Sm [] [] [10, 11] [] h h') : ∀ (n : Nat) (x1 : Int32) (x2 : Int32) (x3 : Int32) (h : Hp), F_X1_settle_20 n k58 x1 x2 x3 h = some h' → Sm [] [] [10, 11] [] h h' := by
  intro n
  induction n with
  | zero => intro x1 x2 x3 h e; cases e
  | succ n ih =>
    intro x1 x2 x3 h e
    rw [F_X1_settle_20] at e
    rcases it_ e with ⟨_, e⟩ | ⟨_, e⟩
    · exact hk58 _ _ e
    · obtain ⟨_, _, _, e⟩ := rS_some e
      obtain ⟨_, _, _, e⟩ := rS_some e
      obtain ⟨⟨_, _⟩, e1, e⟩ := ob_some e
      refine sm_C (w_X1_takeTwo _ _ _ _ _ e1) (by decide) ?_
      rcases it_ e with ⟨_, e⟩ | ⟨_, e⟩
      · exact (w_X1_settle_52 _ ih) _ _ _ _ e
      · obtain ⟨_, _, _, e⟩ := rA_some e
        obtain ⟨_, _, eh, e⟩ := wA_some e
        refine sm_A (k := 11) (by decide) eh ?_
        exact (w_X1_settle_52 _ ih) _ _ _ _ e
theorem w_X1_settle_7 {h' : Hp} : ∀ (n : Nat) (x1 : Int32) (h : Hp), F_X1_settle_7 n x1 h = some h' → Sm [] [] [10, 11] [] h h' := by
  intro n
  induction n with
  | zero => intro x1 h e; cases e
  | succ n ih =>
    intro x1 h e
    rw [F_X1_settle_7] at e
    rcases it_ e with ⟨_, e⟩ | ⟨_, e⟩
    · cases e; exact sm_rf
    · obtain ⟨_, _, _, e⟩ := rA_some e
      exact (w_X1_settle_20 _ (w_X1_settle_58 _ ih) FU_) _ _ _ _ e
theorem w_X1_settle (h : Hp) (h' : Hp) (e : F_X1_settle  h = some h') : Sm [] [] [10, 11] [] h h' := by
  unfold F_X1_settle at e
  obtain ⟨_, e1, e⟩ := ob_some e
  refine sm_C (w_X1_weighNeeds _ _ e1) (by decide) ?_
  exact (w_X1_settle_7 FU_) _ _ e
theorem w_X2_writeNumbers_108 {h' : Hp} (k36 : Int32 → Int32 → Int32 → Int32 → Int32 → Hp → Option Hp) (hk36 : ∀ (x1 : Int32) (x2 : Int32) (x3 : Int32) (x4 : Int32) (x5 : Int32) (h : Hp), k36 x1 x2 x3 x4 x5 h = some h' → Sm [] [] [21] [] h h') (x1 : Int32) (x2 : Int32) (x3 : Int32) (x4 : Int32) (x5 : Int32) (h : Hp) (e : F_X2_writeNumbers_108 k36 x1 x2 x3 x4 x5 h = some h') : Sm [] [] [21] [] h h' := by
  unfold F_X2_writeNumbers_108 at e
  exact hk36 _ _ _ _ _ _ e
theorem w_X2_writeNumbers_102 {h' : Hp} (k46 : Int32 → Int32 → Int32 → Int32 → Int32 → Int32 → Hp → Option Hp) (hk46 : ∀ (x1 : Int32) (x2 : Int32) (x3 : Int32) (x4 : Int32) (x5 : Int32) (x6 : Int32) (h : Hp), k46 x1 x2 x3 x4 x5 x6 h = some h' → Sm [] [] [21] [] h h') (x1 : Int32) (x2 : Int32) (x3 : Int32) (x4 : Int32) (x5 : Int32) (x6 : Int32) (h : Hp) (e : F_X2_writeNumbers_102 k46 x1 x2 x3 x4 x5 x6 h = some h') : Sm [] [] [21] [] h h' := by
  unfold F_X2_writeNumbers_102 at e
  exact hk46 _ _ _ _ _ _ _ e
theorem w_X2_writeNumbers_46 {h' : Hp} (k108 : Int32 → Int32 → Int32 → Int32 → Int32 → Hp → Option Hp) (hk108 : ∀ (x1 : Int32) (x2 : Int32) (x3 : Int32) (x4 : Int32) (x5 : Int32) (h : Hp), k108 x1 x2 x3 x4 x5 h = some h' → Sm [] [] [21] [] h h') : ∀ (n : Nat) (x1 : Int32) (x2 : Int32) (x3 : Int32) (x4 : Int32) (x5 : Int32) (x6 : Int32) (h : Hp), F_X2_writeNumbers_46 n k108 x1 x2 x3 x4 x5 x6 h = some h' → Sm [] [] [21] [] h h' := by
  intro n
  induction n with
  | zero => intro x1 x2 x3 x4 x5 x6 h e; cases e
  | succ n ih =>
    intro x1 x2 x3 x4 x5 x6 h e
    rw [F_X2_writeNumbers_46] at e
    rcases it_ e with ⟨_, e⟩ | ⟨_, e⟩
    · exact hk108 _ _ _ _ _ _ e
    · obtain ⟨_, _, _, e⟩ := rA_some e
      obtain ⟨_, _, _, e⟩ := rA_some e
      obtain ⟨_, _, _, e⟩ := rA_some e
      obtain ⟨_, _, e⟩ := ob_some e
      rcases it_ e with ⟨_, e⟩ | ⟨_, e⟩
      · exact (w_X2_writeNumbers_102 _ ih) _ _ _ _ _ _ _ e
      · rcases it_ e with ⟨_, e⟩ | ⟨_, e⟩
        · exact (w_X2_writeNumbers_102 _ ih) _ _ _ _ _ _ _ e
        · obtain ⟨_, _, eh, e⟩ := wA_some e
          refine sm_A (k := 21) (by decide) eh ?_
          exact (w_X2_writeNumbers_102 _ ih) _ _ _ _ _ _ _ e
theorem w_X2_writeNumbers_36 {h' : Hp} : ∀ (n : Nat) (x1 : Int32) (x2 : Int32) (x3 : Int32) (x4 : Int32) (x5 : Int32) (h : Hp), F_X2_writeNumbers_36 n x1 x2 x3 x4 x5 h = some h' → Sm [] [] [21] [] h h' := by
  intro n
  induction n with
  | zero => intro x1 x2 x3 x4 x5 h e; cases e
  | succ n ih =>
    intro x1 x2 x3 x4 x5 h e
    rw [F_X2_writeNumbers_36] at e
    rcases it_ e with ⟨_, e⟩ | ⟨_, e⟩
    · cases e; exact sm_rf
    · exact (w_X2_writeNumbers_46 _ (w_X2_writeNumbers_108 _ ih) FU_) _ _ _ _ _ _ _ e
theorem w_X2_writeNumbers (x1 : Int32) (x2 : Int32) (h : Hp) (h' : Hp) (e : F_X2_writeNumbers x1 x2 h = some h') : Sm [] [] [21] [] h h' := by
  unfold F_X2_writeNumbers at e
  obtain ⟨_, _, _, e⟩ := rA_some e
  obtain ⟨_, _, _, e⟩ := rA_some e
  obtain ⟨_, _, e⟩ := ob_some e
  obtain ⟨_, _, _, e⟩ := rA_some e
  obtain ⟨_, _, _, e⟩ := rA_some e
  obtain ⟨_, _, e⟩ := ob_some e
  exact (w_X2_writeNumbers_36 FU_) _ _ _ _ _ _ e
theorem w_X2_join_40 {h' : Hp} (k2 : Int32 → Int32 → Hp → Option Hp) (hk2 : ∀ (x1 : Int32) (x2 : Int32) (h : Hp), k2 x1 x2 h = some h' → Sm [] [] [] [19] h h') (x1 : Int32) (x2 : Int32) (h : Hp) (e : F_X2_join_40 k2 x1 x2 h = some h') : Sm [] [] [] [19] h h' := by
  unfold F_X2_join_40 at e
  exact hk2 _ _ _ e
theorem w_X2_join_2 {h' : Hp} : ∀ (n : Nat) (x1 : Int32) (x2 : Int32) (h : Hp), F_X2_join_2 n x1 x2 h = some h' → Sm [] [] [] [19] h h' := by
  intro n
  induction n with
  | zero => intro x1 x2 h e; cases e
  | succ n ih =>
    intro x1 x2 h e
    rw [F_X2_join_2] at e
    rcases it_ e with ⟨_, e⟩ | ⟨_, e⟩
    · cases e; exact sm_rf
    · obtain ⟨_, _, e⟩ := ob_some e
      rcases it_ e with ⟨_, e⟩ | ⟨_, e⟩
      · exact (w_X2_join_40 _ ih) _ _ _ e
      · obtain ⟨_, _, _, e⟩ := rL_some e
        obtain ⟨_, _, eh, e⟩ := wL_some e
        refine sm_L (k := 19) (by decide) eh ?_
        obtain ⟨_, _, _, e⟩ := rL_some e
        obtain ⟨_, _, eh, e⟩ := wL_some e
        refine sm_L (k := 19) (by decide) eh ?_
        exact (w_X2_join_40 _ ih) _ _ _ e
theorem w_X2_join (x1 : Int32) (h : Hp) (h' : Hp) (e : F_X2_join x1 h = some h') : Sm [] [] [] [19] h h' := by
  unfold F_X2_join at e
  exact (w_X2_join_2 FU_) _ _ _ e
theorem w_X2_add_133 {r : Int32} {h' : Hp} (x5 : Int32) (x7 : Int32) (h : Hp) (e : F_X2_add_133 x5 x7 h = some (r, h')) : Sm [138] [139, 140] [12, 13, 14, 15, 16, 17, 21] [18, 19, 20] h h' := by
  unfold F_X2_add_133 at e
  obtain ⟨_, _, _, e⟩ := rL_some e
  obtain ⟨_, _, _, e⟩ := rL_some e
  obtain ⟨_, _, eh, e⟩ := wL_some e
  refine sm_L (k := 20) (by decide) eh ?_
  obtain ⟨_, e1, e⟩ := ob_some e
  refine sm_C (w_X2_writeNumbers _ _ _ _ e1) (by decide) ?_
  obtain ⟨_, e1, e⟩ := ob_some e
  refine sm_C (w_X2_join _ _ _ e1) (by decide) ?_
  cases e; exact sm_rf
theorem w_X2_add (x1 : Int32) (x2 : Int32) (x3 : Int32) (x4 : Int32) (x5 : Int32) (x6 : Int32) (h : Hp) (r : Int32) (h' : Hp) (e : F_X2_add x1 x2 x3 x4 x5 x6 h = some (r, h')) : Sm [138] [139, 140] [12, 13, 14, 15, 16, 17, 21] [18, 19, 20] h h' := by
  unfold F_X2_add at e
  rcases it_ e with ⟨_, e⟩ | ⟨_, e⟩
  · cases e; exact sm_rf
  · obtain ⟨_, _, e⟩ := ob_some e
    rcases it_ e with ⟨_, e⟩ | ⟨_, e⟩
    · cases e; exact sm_rf
    · obtain ⟨_, _, eh, e⟩ := wA_some e
      refine sm_A (k := 12) (by decide) eh ?_
      obtain ⟨_, _, eh, e⟩ := wA_some e
      refine sm_A (k := 13) (by decide) eh ?_
      obtain ⟨_, _, eh, e⟩ := wA_some e
      refine sm_A (k := 14) (by decide) eh ?_
      obtain ⟨_, _, eh, e⟩ := wA_some e
      refine sm_A (k := 15) (by decide) eh ?_
      obtain ⟨_, _, eh, e⟩ := wA_some e
      refine sm_A (k := 16) (by decide) eh ?_
      obtain ⟨_, _, eh, e⟩ := wA_some e
      refine sm_A (k := 17) (by decide) eh ?_
      obtain ⟨_, _, e⟩ := ob_some e
      obtain ⟨_, _, eh, e⟩ := wL_some e
      refine sm_L (k := 18) (by decide) eh ?_
      obtain ⟨_, eh, e⟩ := bd_some e
      refine sm_I (k := 138) (by decide) eh ?_
      obtain ⟨_, eh, e⟩ := bd_some e
      refine sm_J (k := 139) (by decide) eh ?_
      rcases it_ e with ⟨_, e⟩ | ⟨_, e⟩
      · obtain ⟨_, eh, e⟩ := bd_some e
        refine sm_J (k := 140) (by decide) eh ?_
        exact (w_X2_add_133) _ _ _ e
      · exact (w_X2_add_133) _ _ _ e
theorem w_X2_remove (x1 : Int32) (h : Hp) (h' : Hp) (e : F_X2_remove x1 h = some h') : Sm [] [139, 140] [21] [20] h h' := by
  unfold F_X2_remove at e
  obtain ⟨_, _, e⟩ := ob_some e
  rcases it_ e with ⟨_, e⟩ | ⟨_, e⟩
  · cases e; exact sm_rf
  · obtain ⟨_, eh, e⟩ := bd_some e
    refine sm_J (k := 139) (by decide) eh ?_
    obtain ⟨_, eh, e⟩ := bd_some e
    refine sm_J (k := 140) (by decide) eh ?_
    obtain ⟨_, _, _, e⟩ := rA_some e
    obtain ⟨_, _, _, e⟩ := rL_some e
    obtain ⟨_, _, _, e⟩ := rL_some e
    obtain ⟨_, _, eh, e⟩ := wL_some e
    refine sm_L (k := 20) (by decide) eh ?_
    obtain ⟨_, e1, e⟩ := ob_some e
    refine sm_C (w_X2_writeNumbers _ _ _ _ e1) (by decide) ?_
    cases e; exact sm_rf
theorem w_X3_forget (h : Hp) (h' : Hp) (e : F_X3_forget  h = some h') : Sm [206] [] [] [] h h' := by
  unfold F_X3_forget at e
  obtain ⟨_, eh, e⟩ := bd_some e
  refine sm_I (k := 206) (by decide) eh ?_
  cases e; exact sm_rf
theorem w_X3_collectCells_106 {h' : Hp} (k7 : Int32 → Hp → Option Hp) (hk7 : ∀ (x1 : Int32) (h : Hp), k7 x1 h = some h' → Sm [203] [] [22, 23] [] h h') (x1 : Int32) (h : Hp) (e : F_X3_collectCells_106 k7 x1 h = some h') : Sm [203] [] [22, 23] [] h h' := by
  unfold F_X3_collectCells_106 at e
  exact hk7 _ _ e
theorem w_X3_collectCells_96 {h' : Hp} (k7 : Int32 → Hp → Option Hp) (hk7 : ∀ (x1 : Int32) (h : Hp), k7 x1 h = some h' → Sm [203] [] [22, 23] [] h h') (x1 : Int32) (h : Hp) (e : F_X3_collectCells_96 k7 x1 h = some h') : Sm [203] [] [22, 23] [] h h' := by
  unfold F_X3_collectCells_96 at e
  obtain ⟨_, eh, e⟩ := bd_some e
  refine sm_I (k := 203) (by decide) eh ?_
  exact (w_X3_collectCells_106 _ hk7) _ _ e
theorem w_X3_collectCells_7 {h' : Hp} : ∀ (n : Nat) (x1 : Int32) (h : Hp), F_X3_collectCells_7 n x1 h = some h' → Sm [203] [] [22, 23] [] h h' := by
  intro n
  induction n with
  | zero => intro x1 h e; cases e
  | succ n ih =>
    intro x1 h e
    rw [F_X3_collectCells_7] at e
    rcases it_ e with ⟨_, e⟩ | ⟨_, e⟩
    · cases e; exact sm_rf
    · obtain ⟨_, _, eh, e⟩ := wA_some e
      refine sm_A (k := 23) (by decide) eh ?_
      obtain ⟨_, _, e⟩ := ob_some e
      rcases it_ e with ⟨_, e⟩ | ⟨_, e⟩
      · obtain ⟨_, _, e⟩ := ob_some e
        rcases it_ e with ⟨_, e⟩ | ⟨_, e⟩
        · obtain ⟨_, _, eh, e⟩ := wA_some e
          refine sm_A (k := 23) (by decide) eh ?_
          rcases it_ e with ⟨_, e⟩ | ⟨_, e⟩
          · exact (w_X3_collectCells_96 _ ih) _ _ e
          · obtain ⟨_, _, eh, e⟩ := wA_some e
            refine sm_A (k := 22) (by decide) eh ?_
            exact (w_X3_collectCells_96 _ ih) _ _ e
        · exact (w_X3_collectCells_106 _ ih) _ _ e
      · exact (w_X3_collectCells_106 _ ih) _ _ e
theorem w_X3_collectCells (h : Hp) (h' : Hp) (e : F_X3_collectCells  h = some h') : Sm [203] [] [22, 23] [] h h' := by
  unfold F_X3_collectCells at e
  obtain ⟨_, eh, e⟩ := bd_some e
  refine sm_I (k := 203) (by decide) eh ?_
  exact (w_X3_collectCells_7 FU_) _ _ e
theorem w_X3_weighPairs_122 {h' : Hp} (k2 : Int32 → Hp → Option Hp) (hk2 : ∀ (x1 : Int32) (h : Hp), k2 x1 h = some h' → Sm [] [] [24, 25] [] h h') (x1 : Int32) (s1 : Int32) (s2 : Int32) (s3 : Int32) (h : Hp) (e : F_X3_weighPairs_122 k2 x1 s1 s2 s3 h = some h') : Sm [] [] [24, 25] [] h h' := by
  unfold F_X3_weighPairs_122 at e
  obtain ⟨_, _, eh, e⟩ := wA_some e
  refine sm_A (k := 25) (by decide) eh ?_
  exact hk2 _ _ e
theorem w_X3_weighPairs_99 {h' : Hp} (k2 : Int32 → Hp → Option Hp) (hk2 : ∀ (x1 : Int32) (h : Hp), k2 x1 h = some h' → Sm [] [] [24, 25] [] h h') (x1 : Int32) (x2 : Int32) (x3 : Int32) (s1 : Int32) (s2 : Int32) (h : Hp) (e : F_X3_weighPairs_99 k2 x1 x2 x3 s1 s2 h = some h') : Sm [] [] [24, 25] [] h h' := by
  unfold F_X3_weighPairs_99 at e
  obtain ⟨_, _, e⟩ := ob_some e
  rcases it_ e with ⟨_, e⟩ | ⟨_, e⟩
  · exact (w_X3_weighPairs_122 _ hk2) _ _ _ _ _ e
  · exact (w_X3_weighPairs_122 _ hk2) _ _ _ _ _ e
theorem w_X3_weighPairs_69 {h' : Hp} (k2 : Int32 → Hp → Option Hp) (hk2 : ∀ (x1 : Int32) (h : Hp), k2 x1 h = some h' → Sm [] [] [24, 25] [] h h') (x1 : Int32) (x2 : Int32) (x3 : Int32) (s1 : Int32) (s2 : Int32) (s3 : Int32) (h : Hp) (e : F_X3_weighPairs_69 k2 x1 x2 x3 s1 s2 s3 h = some h') : Sm [] [] [24, 25] [] h h' := by
  unfold F_X3_weighPairs_69 at e
  obtain ⟨_, _, eh, e⟩ := wA_some e
  refine sm_A (k := 24) (by decide) eh ?_
  obtain ⟨_, _, e⟩ := ob_some e
  rcases it_ e with ⟨_, e⟩ | ⟨_, e⟩
  · exact (w_X3_weighPairs_99 _ hk2) _ _ _ _ _ _ e
  · exact (w_X3_weighPairs_99 _ hk2) _ _ _ _ _ _ e
theorem w_X3_weighPairs_46 {h' : Hp} (k2 : Int32 → Hp → Option Hp) (hk2 : ∀ (x1 : Int32) (h : Hp), k2 x1 h = some h' → Sm [] [] [24, 25] [] h h') (x1 : Int32) (x2 : Int32) (x3 : Int32) (s1 : Int32) (s2 : Int32) (h : Hp) (e : F_X3_weighPairs_46 k2 x1 x2 x3 s1 s2 h = some h') : Sm [] [] [24, 25] [] h h' := by
  unfold F_X3_weighPairs_46 at e
  obtain ⟨_, _, e⟩ := ob_some e
  rcases it_ e with ⟨_, e⟩ | ⟨_, e⟩
  · exact (w_X3_weighPairs_69 _ hk2) _ _ _ _ _ _ _ e
  · exact (w_X3_weighPairs_69 _ hk2) _ _ _ _ _ _ _ e
theorem w_X3_weighPairs_2 {h' : Hp} : ∀ (n : Nat) (x1 : Int32) (h : Hp), F_X3_weighPairs_2 n x1 h = some h' → Sm [] [] [24, 25] [] h h' := by
  intro n
  induction n with
  | zero => intro x1 h e; cases e
  | succ n ih =>
    intro x1 h e
    rw [F_X3_weighPairs_2] at e
    rcases it_ e with ⟨_, e⟩ | ⟨_, e⟩
    · cases e; exact sm_rf
    · obtain ⟨_, _, e⟩ := ob_some e
      rcases it_ e with ⟨_, e⟩ | ⟨_, e⟩
      · exact (w_X3_weighPairs_46 _ ih) _ _ _ _ _ _ e
      · exact (w_X3_weighPairs_46 _ ih) _ _ _ _ _ _ e
theorem w_X3_weighPairs (h : Hp) (h' : Hp) (e : F_X3_weighPairs  h = some h') : Sm [] [] [24, 25] [] h h' := by
  unfold F_X3_weighPairs at e
  exact (w_X3_weighPairs_2 FU_) _ _ e
theorem w_X3_findFit_186 {h' : Hp} (x5 : Int32) (x6 : Int32) (x7 : Int32) (h : Hp) (e : F_X3_findFit_186 x5 x6 x7 h = some h') : Sm [] [] [26, 27] [] h h' := by
  unfold F_X3_findFit_186 at e
  obtain ⟨_, _, eh, e⟩ := wA_some e
  refine sm_A (k := 26) (by decide) eh ?_
  obtain ⟨_, _, eh, e⟩ := wA_some e
  refine sm_A (k := 27) (by decide) eh ?_
  cases e; exact sm_rf
theorem w_X3_findFit_180 {h' : Hp} (k54 : Int32 → Int32 → Int32 → Int32 → Int32 → Int32 → Int32 → Hp → Option Hp) (hk54 : ∀ (x1 : Int32) (x3 : Int32) (x4 : Int32) (x5 : Int32) (x6 : Int32) (x7 : Int32) (x8 : Int32) (h : Hp), k54 x1 x3 x4 x5 x6 x7 x8 h = some h' → Sm [] [] [26, 27] [] h h') (x1 : Int32) (x3 : Int32) (x4 : Int32) (x5 : Int32) (x6 : Int32) (x7 : Int32) (x8 : Int32) (h : Hp) (e : F_X3_findFit_180 k54 x1 x3 x4 x5 x6 x7 x8 h = some h') : Sm [] [] [26, 27] [] h h' := by
  unfold F_X3_findFit_180 at e
  exact hk54 _ _ _ _ _ _ _ _ e
theorem w_X3_findFit_171 {h' : Hp} (k64 : Int32 → Int32 → Int32 → Int32 → Int32 → Int32 → Int32 → Int32 → Hp → Option Hp) (hk64 : ∀ (x1 : Int32) (x3 : Int32) (x4 : Int32) (x5 : Int32) (x6 : Int32) (x7 : Int32) (x8 : Int32) (x9 : Int32) (h : Hp), k64 x1 x3 x4 x5 x6 x7 x8 x9 h = some h' → Sm [] [] [26, 27] [] h h') (x1 : Int32) (x3 : Int32) (x4 : Int32) (x5 : Int32) (x6 : Int32) (x8 : Int32) (x9 : Int32) (s0 : Int32) (s1 : Int32) (h : Hp) (e : F_X3_findFit_171 k64 x1 x3 x4 x5 x6 x8 x9 s0 s1 h = some h') : Sm [] [] [26, 27] [] h h' := by
  unfold F_X3_findFit_171 at e
  exact hk64 _ _ _ _ _ _ _ _ _ e
theorem w_X3_findFit_141 {h' : Hp} (k64 : Int32 → Int32 → Int32 → Int32 → Int32 → Int32 → Int32 → Int32 → Hp → Option Hp) (hk64 : ∀ (x1 : Int32) (x3 : Int32) (x4 : Int32) (x5 : Int32) (x6 : Int32) (x7 : Int32) (x8 : Int32) (x9 : Int32) (h : Hp), k64 x1 x3 x4 x5 x6 x7 x8 x9 h = some h' → Sm [] [] [26, 27] [] h h') (x1 : Int32) (x3 : Int32) (x4 : Int32) (x5 : Int32) (x6 : Int32) (x8 : Int32) (x9 : Int32) (x10 : Int32) (s0 : Int32) (s1 : Int32) (h : Hp) (e : F_X3_findFit_141 k64 x1 x3 x4 x5 x6 x8 x9 x10 s0 s1 h = some h') : Sm [] [] [26, 27] [] h h' := by
  unfold F_X3_findFit_141 at e
  rcases it_ e with ⟨_, e⟩ | ⟨_, e⟩
  · exact (w_X3_findFit_171 _ hk64) _ _ _ _ _ _ _ _ _ _ e
  · obtain ⟨_, _, _, e⟩ := rA_some e
    obtain ⟨_, _, _, e⟩ := rA_some e
    exact (w_X3_findFit_171 _ hk64) _ _ _ _ _ _ _ _ _ _ e
theorem w_X3_findFit_64 {h' : Hp} (k180 : Int32 → Int32 → Int32 → Int32 → Int32 → Int32 → Int32 → Hp → Option Hp) (hk180 : ∀ (x1 : Int32) (x3 : Int32) (x4 : Int32) (x5 : Int32) (x6 : Int32) (x7 : Int32) (x8 : Int32) (h : Hp), k180 x1 x3 x4 x5 x6 x7 x8 h = some h' → Sm [] [] [26, 27] [] h h') : ∀ (n : Nat) (x1 : Int32) (x3 : Int32) (x4 : Int32) (x5 : Int32) (x6 : Int32) (x7 : Int32) (x8 : Int32) (x9 : Int32) (h : Hp), F_X3_findFit_64 n k180 x1 x3 x4 x5 x6 x7 x8 x9 h = some h' → Sm [] [] [26, 27] [] h h' := by
  intro n
  induction n with
  | zero => intro x1 x3 x4 x5 x6 x7 x8 x9 h e; cases e
  | succ n ih =>
    intro x1 x3 x4 x5 x6 x7 x8 x9 h e
    rw [F_X3_findFit_64] at e
    rcases it_ e with ⟨_, e⟩ | ⟨_, e⟩
    · exact hk180 _ _ _ _ _ _ _ _ e
    · obtain ⟨_, _, _, e⟩ := rA_some e
      obtain ⟨_, _, _, e⟩ := rA_some e
      obtain ⟨_, _, e⟩ := ob_some e
      rcases it_ e with ⟨_, e⟩ | ⟨_, e⟩
      · obtain ⟨_, _, e⟩ := bd_some e
        rcases it_ e with ⟨_, e⟩ | ⟨_, e⟩
        · exact (w_X3_findFit_141 _ ih) _ _ _ _ _ _ _ _ _ _ _ e
        · obtain ⟨_, _, _, e⟩ := rA_some e
          obtain ⟨_, _, _, e⟩ := rA_some e
          exact (w_X3_findFit_141 _ ih) _ _ _ _ _ _ _ _ _ _ _ e
      · cases e; exact sm_rf
theorem w_X3_findFit_54 {h' : Hp} (k186 : Int32 → Int32 → Int32 → Hp → Option Hp) (hk186 : ∀ (x5 : Int32) (x6 : Int32) (x7 : Int32) (h : Hp), k186 x5 x6 x7 h = some h' → Sm [] [] [26, 27] [] h h') : ∀ (n : Nat) (x1 : Int32) (x3 : Int32) (x4 : Int32) (x5 : Int32) (x6 : Int32) (x7 : Int32) (x8 : Int32) (h : Hp), F_X3_findFit_54 n k186 x1 x3 x4 x5 x6 x7 x8 h = some h' → Sm [] [] [26, 27] [] h h' := by
  intro n
  induction n with
  | zero => intro x1 x3 x4 x5 x6 x7 x8 h e; cases e
  | succ n ih =>
    intro x1 x3 x4 x5 x6 x7 x8 h e
    rw [F_X3_findFit_54] at e
    rcases it_ e with ⟨_, e⟩ | ⟨_, e⟩
    · exact hk186 _ _ _ _ e
    · exact (w_X3_findFit_64 _ (w_X3_findFit_180 _ ih) FU_) _ _ _ _ _ _ _ _ _ e
theorem w_X3_findFit (x1 : Int32) (x2 : Int32) (h : Hp) (h' : Hp) (e : F_X3_findFit x1 x2 h = some h') : Sm [] [] [26, 27] [] h h' := by
  unfold F_X3_findFit at e
  obtain ⟨_, _, _, e⟩ := rS_some e
  obtain ⟨_, _, _, e⟩ := rS_some e
  obtain ⟨_, _, e⟩ := ob_some e
  obtain ⟨_, _, _, e⟩ := rS_some e
  obtain ⟨_, _, _, e⟩ := rS_some e
  obtain ⟨_, _, e⟩ := ob_some e
  obtain ⟨_, _, eh, e⟩ := wA_some e
  refine sm_A (k := 26) (by decide) eh ?_
  exact (w_X3_findFit_54 _ (w_X3_findFit_186) FU_) _ _ _ _ _ _ _ _ e
theorem w_X3_findFits_36 {h' : Hp} (k2 : Int32 → Hp → Option Hp) (hk2 : ∀ (x1 : Int32) (h : Hp), k2 x1 h = some h' → Sm [] [] [26, 27] [] h h') (x1 : Int32) (h : Hp) (e : F_X3_findFits_36 k2 x1 h = some h') : Sm [] [] [26, 27] [] h h' := by
  unfold F_X3_findFits_36 at e
  exact hk2 _ _ e
theorem w_X3_findFits_18 {h' : Hp} (k36 : Int32 → Hp → Option Hp) (hk36 : ∀ (x1 : Int32) (h : Hp), k36 x1 h = some h' → Sm [] [] [26, 27] [] h h') : ∀ (n : Nat) (x1 : Int32) (x2 : Int32) (h : Hp), F_X3_findFits_18 n k36 x1 x2 h = some h' → Sm [] [] [26, 27] [] h h' := by
  intro n
  induction n with
  | zero => intro x1 x2 h e; cases e
  | succ n ih =>
    intro x1 x2 h e
    rw [F_X3_findFits_18] at e
    rcases it_ e with ⟨_, e⟩ | ⟨_, e⟩
    · exact hk36 _ _ e
    · obtain ⟨_, e1, e⟩ := ob_some e
      refine sm_C (w_X3_findFit _ _ _ _ e1) (by decide) ?_
      exact ih _ _ _ e
theorem w_X3_findFits_2 {h' : Hp} : ∀ (n : Nat) (x1 : Int32) (h : Hp), F_X3_findFits_2 n x1 h = some h' → Sm [] [] [26, 27] [] h h' := by
  intro n
  induction n with
  | zero => intro x1 h e; cases e
  | succ n ih =>
    intro x1 h e
    rw [F_X3_findFits_2] at e
    rcases it_ e with ⟨_, e⟩ | ⟨_, e⟩
    · cases e; exact sm_rf
    · rcases it_ e with ⟨_, e⟩ | ⟨_, e⟩
      · cases e; exact sm_rf
      · exact (w_X3_findFits_18 _ (w_X3_findFits_36 _ ih) FU_) _ _ _ e
theorem w_X3_findFits (h : Hp) (h' : Hp) (e : F_X3_findFits  h = some h') : Sm [] [] [26, 27] [] h h' := by
  unfold F_X3_findFits at e
  exact (w_X3_findFits_2 FU_) _ _ e
theorem w_J7_fill_53178_28_5 {h' : Hp} : ∀ (n : Nat) (x1 : Int32) (x2 : Int32) (x3 : Int32) (h : Hp), F_J7_fill_53178_28_5 n x1 x2 x3 h = some h' → Sm [] [] [28] [] h h' := by
  intro n
  induction n with
  | zero => intro x1 x2 x3 h e; cases e
  | succ n ih =>
    intro x1 x2 x3 h e
    rw [F_J7_fill_53178_28_5] at e
    rcases it_ e with ⟨_, e⟩ | ⟨_, e⟩
    · cases e; exact sm_rf
    · obtain ⟨_, _, eh, e⟩ := wA_some e
      refine sm_A (k := 28) (by decide) eh ?_
      exact ih _ _ _ _ e
theorem w_J7_fill_53178_28 (x1 : Int32) (h : Hp) (h' : Hp) (e : F_J7_fill_53178_28 x1 h = some h') : Sm [] [] [28] [] h h' := by
  unfold F_J7_fill_53178_28 at e
  exact (w_J7_fill_53178_28_5 FU_) _ _ _ _ e
theorem w_J7_fill_53178_31_5 {h' : Hp} : ∀ (n : Nat) (x1 : Int32) (x2 : Int32) (x3 : Int32) (h : Hp), F_J7_fill_53178_31_5 n x1 x2 x3 h = some h' → Sm [] [] [31] [] h h' := by
  intro n
  induction n with
  | zero => intro x1 x2 x3 h e; cases e
  | succ n ih =>
    intro x1 x2 x3 h e
    rw [F_J7_fill_53178_31_5] at e
    rcases it_ e with ⟨_, e⟩ | ⟨_, e⟩
    · cases e; exact sm_rf
    · obtain ⟨_, _, eh, e⟩ := wA_some e
      refine sm_A (k := 31) (by decide) eh ?_
      exact ih _ _ _ _ e
theorem w_J7_fill_53178_31 (x1 : Int32) (h : Hp) (h' : Hp) (e : F_J7_fill_53178_31 x1 h = some h') : Sm [] [] [31] [] h h' := by
  unfold F_J7_fill_53178_31 at e
  exact (w_J7_fill_53178_31_5 FU_) _ _ _ _ e
theorem w_J7_fill_53178_32_5 {h' : Hp} : ∀ (n : Nat) (x1 : Int32) (x2 : Int32) (x3 : Int32) (h : Hp), F_J7_fill_53178_32_5 n x1 x2 x3 h = some h' → Sm [] [] [32] [] h h' := by
  intro n
  induction n with
  | zero => intro x1 x2 x3 h e; cases e
  | succ n ih =>
    intro x1 x2 x3 h e
    rw [F_J7_fill_53178_32_5] at e
    rcases it_ e with ⟨_, e⟩ | ⟨_, e⟩
    · cases e; exact sm_rf
    · obtain ⟨_, _, eh, e⟩ := wA_some e
      refine sm_A (k := 32) (by decide) eh ?_
      exact ih _ _ _ _ e
theorem w_J7_fill_53178_32 (x1 : Int32) (h : Hp) (h' : Hp) (e : F_J7_fill_53178_32 x1 h = some h') : Sm [] [] [32] [] h h' := by
  unfold F_J7_fill_53178_32 at e
  exact (w_J7_fill_53178_32_5 FU_) _ _ _ _ e
theorem w_X3_keep (x1 : Int32) (x2 : Int32) (h : Hp) (h' : Hp) (e : F_X3_keep x1 x2 h = some h') : Sm [] [] [28, 29] [] h h' := by
  unfold F_X3_keep at e
  obtain ⟨_, _, e⟩ := ob_some e
  rcases it_ e with ⟨_, e⟩ | ⟨_, e⟩
  · cases e; exact sm_rf
  · obtain ⟨_, _, eh, e⟩ := wA_some e
    refine sm_A (k := 28) (by decide) eh ?_
    obtain ⟨_, _, eh, e⟩ := wA_some e
    refine sm_A (k := 29) (by decide) eh ?_
    cases e; exact sm_rf
theorem w_X3_cheapest_132 {r : Int32} {h' : Hp} (kr : Int32 → Int32 → Hp → Option (Int32 × Hp)) (hkr : ∀ (x0 : Int32) (x1 : Int32) (h : Hp) (r : Int32) (h' : Hp), kr x0 x1 h = some (r, h') → Sm [] [] [28, 29] [] h h') (k68 : Int32 → Int32 → Int32 → Int32 → Int32 → Hp → Option (Int32 × Hp)) (hk68 : ∀ (x1 : Int32) (x2 : Int32) (x3 : Int32) (x5 : Int32) (x6 : Int32) (h : Hp), k68 x1 x2 x3 x5 x6 h = some (r, h') → Sm [] [] [28, 29] [] h h') (x1 : Int32) (x2 : Int32) (x3 : Int32) (x5 : Int32) (x6 : Int32) (h : Hp) (e : F_X3_cheapest_132 kr k68 x1 x2 x3 x5 x6 h = some (r, h')) : Sm [] [] [28, 29] [] h h' := by
  unfold F_X3_cheapest_132 at e
  exact hk68 _ _ _ _ _ _ e
theorem w_X3_cheapest_68 {r : Int32} {h' : Hp} (kr : Int32 → Int32 → Hp → Option (Int32 × Hp)) (hkr : ∀ (x0 : Int32) (x1 : Int32) (h : Hp) (r : Int32) (h' : Hp), kr x0 x1 h = some (r, h') → Sm [] [] [28, 29] [] h h') : ∀ (n : Nat) (x1 : Int32) (x2 : Int32) (x3 : Int32) (x5 : Int32) (x6 : Int32) (h : Hp), F_X3_cheapest_68 n kr x1 x2 x3 x5 x6 h = some (r, h') → Sm [] [] [28, 29] [] h h' := by
  intro n
  induction n with
  | zero => intro x1 x2 x3 x5 x6 h e; cases e
  | succ n ih =>
    intro x1 x2 x3 x5 x6 h e
    rw [F_X3_cheapest_68] at e
    rcases it_ e with ⟨_, e⟩ | ⟨_, e⟩
    · obtain ⟨_, e1, e⟩ := ob_some e
      refine sm_C (w_X3_keep _ _ _ _ e1) (by decide) ?_
      cases e; exact sm_rf
    · obtain ⟨_, _, e⟩ := ob_some e
      rcases it_ e with ⟨_, e⟩ | ⟨_, e⟩
      · exact (w_X3_cheapest_132 kr hkr _ ih) _ _ _ _ _ _ e
      · obtain ⟨_, _, _, e⟩ := rA_some e
        obtain ⟨⟨_, _⟩, e1, e⟩ := ob_some e
        refine sm_C (hkr _ _ _ _ _ e1) (by decide) ?_
        obtain ⟨_, _, _, e⟩ := rA_some e
        obtain ⟨_, _, e⟩ := bd_some e
        exact (w_X3_cheapest_132 kr hkr _ ih) _ _ _ _ _ _ e
theorem w_X3_cheapest_61 {r : Int32} {h' : Hp} (kr : Int32 → Int32 → Hp → Option (Int32 × Hp)) (hkr : ∀ (x0 : Int32) (x1 : Int32) (h : Hp) (r : Int32) (h' : Hp), kr x0 x1 h = some (r, h') → Sm [] [] [28, 29] [] h h') (x1 : Int32) (x2 : Int32) (x3 : Int32) (h : Hp) (e : F_X3_cheapest_61 kr x1 x2 x3 h = some (r, h')) : Sm [] [] [28, 29] [] h h' := by
  unfold F_X3_cheapest_61 at e
  exact (w_X3_cheapest_68 kr hkr FU_) _ _ _ _ _ _ e
theorem w_X3_cheapest_0 (kr : Int32 → Int32 → Hp → Option (Int32 × Hp)) (hkr : ∀ (x0 : Int32) (x1 : Int32) (h : Hp) (r : Int32) (h' : Hp), kr x0 x1 h = some (r, h') → Sm [] [] [28, 29] [] h h') (x1 : Int32) (x2 : Int32) (h : Hp) (r : Int32) (h' : Hp) (e : F_X3_cheapest_0 kr x1 x2 h = some (r, h')) : Sm [] [] [28, 29] [] h h' := by
  unfold F_X3_cheapest_0 at e
  obtain ⟨_, _, e⟩ := ob_some e
  rcases it_ e with ⟨_, e⟩ | ⟨_, e⟩
  · rcases it_ e with ⟨_, e⟩ | ⟨_, e⟩
    · cases e; exact sm_rf
    · rcases it_ e with ⟨_, e⟩ | ⟨_, e⟩
      · obtain ⟨_, _, e⟩ := ob_some e
        rcases it_ e with ⟨_, e⟩ | ⟨_, e⟩
        · exact (w_X3_cheapest_61 kr hkr) _ _ _ _ e
        · obtain ⟨_, _, _, e⟩ := rA_some e
          rcases it_ e with ⟨_, e⟩ | ⟨_, e⟩
          · exact (w_X3_cheapest_61 kr hkr) _ _ _ _ e
          · obtain ⟨_, _, _, e⟩ := rA_some e
            cases e; exact sm_rf
      · cases e; exact sm_rf
  · cases e; exact sm_rf
theorem w_X3_cheapest : ∀ (n : Nat) (x1 : Int32) (x2 : Int32) (h : Hp) (r : Int32) (h' : Hp), F_X3_cheapest n x1 x2 h = some (r, h') → Sm [] [] [28, 29] [] h h' := by
  intro n
  induction n with
  | zero => intro x1 x2 h r h' e; cases e
  | succ n ih =>
    intro x1 x2 h r h' e
    rw [F_X3_cheapest] at e
    exact w_X3_cheapest_0 (F_X3_cheapest n) ih x1 x2 h r h' e
theorem w_X3_bestWay_80 {r : Int32} {h' : Hp} (k16 : Int32 → Int32 → Int32 → Int32 → Hp → Option (Int32 × Hp)) (hk16 : ∀ (x1 : Int32) (x2 : Int32) (x3 : Int32) (x4 : Int32) (h : Hp), k16 x1 x2 x3 x4 h = some (r, h') → Sm [] [] [28, 29] [] h h') (x1 : Int32) (x2 : Int32) (x3 : Int32) (x4 : Int32) (h : Hp) (e : F_X3_bestWay_80 k16 x1 x2 x3 x4 h = some (r, h')) : Sm [] [] [28, 29] [] h h' := by
  unfold F_X3_bestWay_80 at e
  exact hk16 _ _ _ _ _ e
theorem w_X3_bestWay_16 {r : Int32} {h' : Hp} : ∀ (n : Nat) (x1 : Int32) (x2 : Int32) (x3 : Int32) (x4 : Int32) (h : Hp), F_X3_bestWay_16 n x1 x2 x3 x4 h = some (r, h') → Sm [] [] [28, 29] [] h h' := by
  intro n
  induction n with
  | zero => intro x1 x2 x3 x4 h e; cases e
  | succ n ih =>
    intro x1 x2 x3 x4 h e
    rw [F_X3_bestWay_16] at e
    rcases it_ e with ⟨_, e⟩ | ⟨_, e⟩
    · cases e; exact sm_rf
    · rcases it_ e with ⟨_, e⟩ | ⟨_, e⟩
      · cases e; exact sm_rf
      · obtain ⟨_, _, e⟩ := ob_some e
        rcases it_ e with ⟨_, e⟩ | ⟨_, e⟩
        · exact (w_X3_bestWay_80 _ ih) _ _ _ _ _ e
        · obtain ⟨_, _, _, e⟩ := rA_some e
          obtain ⟨_, _, _, e⟩ := rA_some e
          obtain ⟨⟨_, _⟩, e1, e⟩ := ob_some e
          refine sm_C (w_X3_cheapest RF_ _ _ _ _ _ e1) (by decide) ?_
          rcases it_ e with ⟨_, e⟩ | ⟨_, e⟩
          · cases e; exact sm_rf
          · exact (w_X3_bestWay_80 _ ih) _ _ _ _ _ e
theorem w_X3_bestWay (x1 : Int32) (h : Hp) (r : Int32) (h' : Hp) (e : F_X3_bestWay x1 h = some (r, h')) : Sm [] [] [28, 29] [] h h' := by
  unfold F_X3_bestWay at e
  obtain ⟨_, _, e⟩ := ob_some e
  obtain ⟨⟨_, _⟩, e1, e⟩ := ob_some e
  refine sm_C (w_X3_cheapest RF_ _ _ _ _ _ e1) (by decide) ?_
  exact (w_X3_bestWay_16 FU_) _ _ _ _ _ e
theorem w_X3_tell_6 {h' : Hp} : ∀ (n : Nat) (x1 : Int32) (x2 : Int32) (x3 : Int32) (h : Hp), F_X3_tell_6 n x1 x2 x3 h = some h' → Sm [204, 205] [] [28, 29, 30] [] h h' := by
  intro n
  induction n with
  | zero => intro x1 x2 x3 h e; cases e
  | succ n ih =>
    intro x1 x2 x3 h e
    rw [F_X3_tell_6] at e
    rcases it_ e with ⟨_, e⟩ | ⟨_, e⟩
    · obtain ⟨_, _, e⟩ := ob_some e
      obtain ⟨_, eh, e⟩ := bd_some e
      refine sm_I (k := 205) (by decide) eh ?_
      cases e; exact sm_rf
    · rcases it_ e with ⟨_, e⟩ | ⟨_, e⟩
      · obtain ⟨_, _, e⟩ := ob_some e
        obtain ⟨_, eh, e⟩ := bd_some e
        refine sm_I (k := 205) (by decide) eh ?_
        cases e; exact sm_rf
      · obtain ⟨⟨_, _⟩, e1, e⟩ := ob_some e
        refine sm_C (w_X3_bestWay _ _ _ _ e1) (by decide) ?_
        rcases it_ e with ⟨_, e⟩ | ⟨_, e⟩
        · obtain ⟨_, _, _, e⟩ := rA_some e
          obtain ⟨_, _, _, e⟩ := rS_some e
          obtain ⟨_, _, _, e⟩ := rS_some e
          obtain ⟨_, _, eh, e⟩ := wA_some e
          refine sm_A (k := 30) (by decide) eh ?_
          obtain ⟨_, _, _, e⟩ := rA_some e
          obtain ⟨_, _, _, e⟩ := rA_some e
          obtain ⟨_, eh, e⟩ := bd_some e
          refine sm_I (k := 204) (by decide) eh ?_
          exact ih _ _ _ _ e
        · cases e; exact sm_rf
theorem w_X3_tell (h : Hp) (h' : Hp) (e : F_X3_tell  h = some h') : Sm [204, 205] [] [28, 29, 30] [] h h' := by
  unfold F_X3_tell at e
  exact (w_X3_tell_6 FU_) _ _ _ _ e
theorem w_X3_findBest_69 {r : Int32} {h' : Hp} (h : Hp) (e : F_X3_findBest_69  h = some (r, h')) : Sm [203, 204, 205, 206, 207] [] [22, 23, 24, 25, 26, 27, 28, 29, 30] [] h h' := by
  unfold F_X3_findBest_69 at e
  rcases it_ e with ⟨_, e⟩ | ⟨_, e⟩
  · cases e; exact sm_rf
  · cases e; exact sm_rf
theorem w_X3_findBest_16 {r : Int32} {h' : Hp} (x1 : Int32) (x2 : Int32) (h : Hp) (e : F_X3_findBest_16 x1 x2 h = some (r, h')) : Sm [203, 204, 205, 206, 207] [] [22, 23, 24, 25, 26, 27, 28, 29, 30] [] h h' := by
  unfold F_X3_findBest_16 at e
  obtain ⟨_, eh, e⟩ := bd_some e
  refine sm_I (k := 206) (by decide) eh ?_
  obtain ⟨_, eh, e⟩ := bd_some e
  refine sm_I (k := 207) (by decide) eh ?_
  obtain ⟨_, eh, e⟩ := bd_some e
  refine sm_I (k := 204) (by decide) eh ?_
  obtain ⟨_, eh, e⟩ := bd_some e
  refine sm_I (k := 205) (by decide) eh ?_
  obtain ⟨_, e1, e⟩ := ob_some e
  refine sm_C (w_X3_collectCells _ _ e1) (by decide) ?_
  rcases it_ e with ⟨_, e⟩ | ⟨_, e⟩
  · exact (w_X3_findBest_69) _ e
  · obtain ⟨_, e1, e⟩ := ob_some e
    refine sm_C (w_X3_weighPairs _ _ e1) (by decide) ?_
    obtain ⟨_, e1, e⟩ := ob_some e
    refine sm_C (w_X3_findFits _ _ e1) (by decide) ?_
    obtain ⟨_, e1, e⟩ := ob_some e
    refine sm_C (w_J7_fill_53178_28 _ _ _ e1) (by decide) ?_
    obtain ⟨_, e1, e⟩ := ob_some e
    refine sm_C (w_X3_tell _ _ e1) (by decide) ?_
    exact (w_X3_findBest_69) _ e
theorem w_X3_findBest (x1 : Int32) (x2 : Int32) (h : Hp) (r : Int32) (h' : Hp) (e : F_X3_findBest x1 x2 h = some (r, h')) : Sm [203, 204, 205, 206, 207] [] [22, 23, 24, 25, 26, 27, 28, 29, 30] [] h h' := by
  unfold F_X3_findBest at e
  rcases it_ e with ⟨_, e⟩ | ⟨_, e⟩
  · rcases it_ e with ⟨_, e⟩ | ⟨_, e⟩
    · exact (w_X3_findBest_69) _ e
    · exact (w_X3_findBest_16) _ _ _ e
  · exact (w_X3_findBest_16) _ _ _ e
theorem w_X4_changeGrip (x1 : Int32) (h : Hp) (r : Int32) (h' : Hp) (e : F_X4_changeGrip x1 h = some (r, h')) : Sm [259] [] [] [] h h' := by
  unfold F_X4_changeGrip at e
  obtain ⟨_, eh, e⟩ := bd_some e
  refine sm_I (k := 259) (by decide) eh ?_
  cases e; exact sm_rf
theorem w_X4_clearEdges (h : Hp) (h' : Hp) (e : F_X4_clearEdges  h = some h') : Sm [] [] [31, 32] [] h h' := by
  unfold F_X4_clearEdges at e
  obtain ⟨_, e1, e⟩ := ob_some e
  refine sm_C (w_J7_fill_53178_31 _ _ _ e1) (by decide) ?_
  obtain ⟨_, e1, e⟩ := ob_some e
  refine sm_C (w_J7_fill_53178_32 _ _ _ e1) (by decide) ?_
  cases e; exact sm_rf
theorem w_X4_widenEdge (x1 : Int32) (x2 : Int32) (x3 : Int32) (h : Hp) (h' : Hp) (e : F_X4_widenEdge x1 x2 x3 h = some h') : Sm [] [] [31, 32] [] h h' := by
  unfold F_X4_widenEdge at e
  rcases it_ e with ⟨_, e⟩ | ⟨_, e⟩
  · cases e; exact sm_rf
  · rcases it_ e with ⟨_, e⟩ | ⟨_, e⟩
    · cases e; exact sm_rf
    · obtain ⟨_, _, _, e⟩ := rA_some e
      obtain ⟨_, _, eh, e⟩ := wA_some e
      refine sm_A (k := 31) (by decide) eh ?_
      obtain ⟨_, _, _, e⟩ := rA_some e
      obtain ⟨_, _, eh, e⟩ := wA_some e
      refine sm_A (k := 32) (by decide) eh ?_
      cases e; exact sm_rf
theorem w_X4_stands_208 {r : Int32} {h' : Hp} (k31 : Int64 → Int32 → Int32 → Int32 → Int32 → Hp → Option (Int32 × Hp)) (hk31 : ∀ (x1 : Int64) (x3 : Int32) (x4 : Int32) (x5 : Int32) (x6 : Int32) (h : Hp), k31 x1 x3 x4 x5 x6 h = some (r, h') → Sm [] [] [31, 32] [] h h') (x1 : Int64) (x3 : Int32) (x4 : Int32) (x5 : Int32) (x6 : Int32) (h : Hp) (e : F_X4_stands_208 k31 x1 x3 x4 x5 x6 h = some (r, h')) : Sm [] [] [31, 32] [] h h' := by
  unfold F_X4_stands_208 at e
  exact hk31 _ _ _ _ _ _ e
theorem w_X4_stands_31 {r : Int32} {h' : Hp} : ∀ (n : Nat) (x1 : Int64) (x3 : Int32) (x4 : Int32) (x5 : Int32) (x6 : Int32) (h : Hp), F_X4_stands_31 n x1 x3 x4 x5 x6 h = some (r, h') → Sm [] [] [31, 32] [] h h' := by
  intro n
  induction n with
  | zero => intro x1 x3 x4 x5 x6 h e; cases e
  | succ n ih =>
    intro x1 x3 x4 x5 x6 h e
    rw [F_X4_stands_31] at e
    obtain ⟨_, _, e⟩ := ob_some e
    rcases it_ e with ⟨_, e⟩ | ⟨_, e⟩
    · obtain ⟨_, _, e⟩ := ob_some e
      obtain ⟨_, _, _, e⟩ := bz_some e
      cases e; exact sm_rf
    · rcases it_ e with ⟨_, e⟩ | ⟨_, e⟩
      · obtain ⟨_, _, e⟩ := ob_some e
        obtain ⟨_, _, e⟩ := ob_some e
        obtain ⟨_, _, e⟩ := ob_some e
        obtain ⟨_, _, e⟩ := ob_some e
        obtain ⟨_, _, e⟩ := ob_some e
        obtain ⟨_, _, e⟩ := ob_some e
        obtain ⟨_, _, e⟩ := ob_some e
        obtain ⟨_, _, e⟩ := ob_some e
        obtain ⟨_, _, e⟩ := ob_some e
        obtain ⟨_, _, e⟩ := bd_some e
        obtain ⟨_, _, e⟩ := bd_some e
        obtain ⟨_, _, e⟩ := ob_some e
        rcases it_ e with ⟨_, e⟩ | ⟨_, e⟩
        · obtain ⟨_, e1, e⟩ := ob_some e
          refine sm_C (w_X4_widenEdge _ _ _ _ _ e1) (by decide) ?_
          obtain ⟨_, e1, e⟩ := ob_some e
          refine sm_C (w_X4_widenEdge _ _ _ _ _ e1) (by decide) ?_
          exact (w_X4_stands_208 _ ih) _ _ _ _ _ _ e
        · exact (w_X4_stands_208 _ ih) _ _ _ _ _ _ e
      · exact (w_X4_stands_208 _ ih) _ _ _ _ _ _ e
theorem w_X4_stands (x1 : Int64) (h : Hp) (r : Int32) (h' : Hp) (e : F_X4_stands x1 h = some (r, h')) : Sm [] [] [31, 32] [] h h' := by
  unfold F_X4_stands at e
  obtain ⟨_, _, e⟩ := ob_some e
  rcases it_ e with ⟨_, e⟩ | ⟨_, e⟩
  · obtain ⟨_, _, e⟩ := ob_some e
    obtain ⟨_, e1, e⟩ := ob_some e
    refine sm_C (w_X4_clearEdges _ _ e1) (by decide) ?_
    exact (w_X4_stands_31 FU_) _ _ _ _ _ _ e
  · cases e; exact sm_rf
theorem w_X4_isSoundPiece_44 {r : Int32} {h' : Hp} (k12 : Int64 → Int32 → Hp → Option (Int32 × Hp)) (hk12 : ∀ (x1 : Int64) (x3 : Int32) (h : Hp), k12 x1 x3 h = some (r, h') → Sm [] [] [31, 32] [] h h') (x1 : Int64) (x3 : Int32) (h : Hp) (e : F_X4_isSoundPiece_44 k12 x1 x3 h = some (r, h')) : Sm [] [] [31, 32] [] h h' := by
  unfold F_X4_isSoundPiece_44 at e
  exact hk12 _ _ _ e
theorem w_X4_isSoundPiece_12 {r : Int32} {h' : Hp} : ∀ (n : Nat) (x1 : Int64) (x3 : Int32) (h : Hp), F_X4_isSoundPiece_12 n x1 x3 h = some (r, h') → Sm [] [] [31, 32] [] h h' := by
  intro n
  induction n with
  | zero => intro x1 x3 h e; cases e
  | succ n ih =>
    intro x1 x3 h e
    rw [F_X4_isSoundPiece_12] at e
    obtain ⟨_, _, e⟩ := ob_some e
    rcases it_ e with ⟨_, e⟩ | ⟨_, e⟩
    · cases e; exact sm_rf
    · rcases it_ e with ⟨_, e⟩ | ⟨_, e⟩
      · obtain ⟨_, _, e⟩ := ob_some e
        rcases it_ e with ⟨_, e⟩ | ⟨_, e⟩
        · exact (w_X4_isSoundPiece_44 _ ih) _ _ _ e
        · cases e; exact sm_rf
      · exact (w_X4_isSoundPiece_44 _ ih) _ _ _ e
theorem w_X4_isSoundPiece (x1 : Int64) (h : Hp) (r : Int32) (h' : Hp) (e : F_X4_isSoundPiece x1 h = some (r, h')) : Sm [] [] [31, 32] [] h h' := by
  unfold F_X4_isSoundPiece at e
  obtain ⟨⟨_, _⟩, e1, e⟩ := ob_some e
  refine sm_C (w_X4_stands _ _ _ _ e1) (by decide) ?_
  rcases it_ e with ⟨_, e⟩ | ⟨_, e⟩
  · cases e; exact sm_rf
  · exact (w_X4_isSoundPiece_12 FU_) _ _ _ e
theorem w_X4_isSound_10 {r : Int32} {h' : Hp} : ∀ (n : Nat) (x1 : Int64) (x3 : Int32) (h : Hp), F_X4_isSound_10 n x1 x3 h = some (r, h') → Sm [] [] [31, 32] [] h h' := by
  intro n
  induction n with
  | zero => intro x1 x3 h e; cases e
  | succ n ih =>
    intro x1 x3 h e
    rw [F_X4_isSound_10] at e
    rcases it_ e with ⟨_, e⟩ | ⟨_, e⟩
    · cases e; exact sm_rf
    · rcases it_ e with ⟨_, e⟩ | ⟨_, e⟩
      · cases e; exact sm_rf
      · obtain ⟨_, _, e⟩ := ob_some e
        obtain ⟨_, _, e⟩ := bd_some e
        obtain ⟨⟨_, _⟩, e1, e⟩ := ob_some e
        refine sm_C (w_X4_isSoundPiece _ _ _ _ e1) (by decide) ?_
        rcases it_ e with ⟨_, e⟩ | ⟨_, e⟩
        · cases e; exact sm_rf
        · exact ih _ _ _ e
theorem w_X4_isSound (h : Hp) (r : Int32) (h' : Hp) (e : F_X4_isSound  h = some (r, h')) : Sm [] [] [31, 32] [] h h' := by
  unfold F_X4_isSound at e
  obtain ⟨_, _, e⟩ := ob_some e
  exact (w_X4_isSound_10 FU_) _ _ _ e
theorem w_X5_forget (h : Hp) (h' : Hp) (e : F_X5_forget  h = some h') : Sm [328] [] [] [] h h' := by
  unfold F_X5_forget at e
  obtain ⟨_, eh, e⟩ := bd_some e
  refine sm_I (k := 328) (by decide) eh ?_
  cases e; exact sm_rf
theorem w_X5_collectBricks_82 {h' : Hp} (k7 : Int32 → Hp → Option Hp) (hk7 : ∀ (x1 : Int32) (h : Hp), k7 x1 h = some h' → Sm [326] [] [33] [34] h h') (x1 : Int32) (h : Hp) (e : F_X5_collectBricks_82 k7 x1 h = some h') : Sm [326] [] [33] [34] h h' := by
  unfold F_X5_collectBricks_82 at e
  exact hk7 _ _ e
theorem w_X5_collectBricks_7 {h' : Hp} : ∀ (n : Nat) (x1 : Int32) (h : Hp), F_X5_collectBricks_7 n x1 h = some h' → Sm [326] [] [33] [34] h h' := by
  intro n
  induction n with
  | zero => intro x1 h e; cases e
  | succ n ih =>
    intro x1 h e
    rw [F_X5_collectBricks_7] at e
    obtain ⟨_, _, e⟩ := ob_some e
    rcases it_ e with ⟨_, e⟩ | ⟨_, e⟩
    · cases e; exact sm_rf
    · obtain ⟨_, _, e⟩ := ob_some e
      rcases it_ e with ⟨_, e⟩ | ⟨_, e⟩
      · exact (w_X5_collectBricks_82 _ ih) _ _ e
      · rcases it_ e with ⟨_, e⟩ | ⟨_, e⟩
        · exact (w_X5_collectBricks_82 _ ih) _ _ e
        · obtain ⟨_, _, eh, e⟩ := wA_some e
          refine sm_A (k := 33) (by decide) eh ?_
          obtain ⟨_, _, e⟩ := ob_some e
          obtain ⟨_, _, e⟩ := ob_some e
          obtain ⟨_, _, eh, e⟩ := wL_some e
          refine sm_L (k := 34) (by decide) eh ?_
          obtain ⟨_, eh, e⟩ := bd_some e
          refine sm_I (k := 326) (by decide) eh ?_
          exact (w_X5_collectBricks_82 _ ih) _ _ e
theorem w_X5_collectBricks (h : Hp) (h' : Hp) (e : F_X5_collectBricks  h = some h') : Sm [326] [] [33] [34] h h' := by
  unfold F_X5_collectBricks at e
  obtain ⟨_, eh, e⟩ := bd_some e
  refine sm_I (k := 326) (by decide) eh ?_
  exact (w_X5_collectBricks_7 FU_) _ _ e
theorem w_X5_goesOn_157 {r : Int32} {h' : Hp} (kr : Int32 → Int64 → Int32 → Hp → Option (Int32 × Hp)) (hkr : ∀ (x0 : Int32) (x1 : Int64) (x2 : Int32) (h : Hp) (r : Int32) (h' : Hp), kr x0 x1 x2 h = some (r, h') → Sm [] [] [31, 32, 35, 36] [] h h') (k21 : Int32 → Int64 → Int32 → Int32 → Hp → Option (Int32 × Hp)) (hk21 : ∀ (x1 : Int32) (x2 : Int64) (x4 : Int32) (x5 : Int32) (h : Hp), k21 x1 x2 x4 x5 h = some (r, h') → Sm [] [] [31, 32, 35, 36] [] h h') (x1 : Int32) (x2 : Int64) (x4 : Int32) (x5 : Int32) (h : Hp) (e : F_X5_goesOn_157 kr k21 x1 x2 x4 x5 h = some (r, h')) : Sm [] [] [31, 32, 35, 36] [] h h' := by
  unfold F_X5_goesOn_157 at e
  exact hk21 _ _ _ _ _ e
theorem w_X5_goesOn_149 {r : Int32} {h' : Hp} (kr : Int32 → Int64 → Int32 → Hp → Option (Int32 × Hp)) (hkr : ∀ (x0 : Int32) (x1 : Int64) (x2 : Int32) (h : Hp) (r : Int32) (h' : Hp), kr x0 x1 x2 h = some (r, h') → Sm [] [] [31, 32, 35, 36] [] h h') (k21 : Int32 → Int64 → Int32 → Int32 → Hp → Option (Int32 × Hp)) (hk21 : ∀ (x1 : Int32) (x2 : Int64) (x4 : Int32) (x5 : Int32) (h : Hp), k21 x1 x2 x4 x5 h = some (r, h') → Sm [] [] [31, 32, 35, 36] [] h h') (x1 : Int32) (x2 : Int64) (x4 : Int32) (x5 : Int32) (x6 : Int32) (h : Hp) (e : F_X5_goesOn_149 kr k21 x1 x2 x4 x5 x6 h = some (r, h')) : Sm [] [] [31, 32, 35, 36] [] h h' := by
  unfold F_X5_goesOn_149 at e
  obtain ⟨_, _, eh, e⟩ := wA_some e
  refine sm_A (k := 36) (by decide) eh ?_
  exact (w_X5_goesOn_157 kr hkr _ hk21) _ _ _ _ _ e
theorem w_X5_goesOn_21 {r : Int32} {h' : Hp} (kr : Int32 → Int64 → Int32 → Hp → Option (Int32 × Hp)) (hkr : ∀ (x0 : Int32) (x1 : Int64) (x2 : Int32) (h : Hp) (r : Int32) (h' : Hp), kr x0 x1 x2 h = some (r, h') → Sm [] [] [31, 32, 35, 36] [] h h') : ∀ (n : Nat) (x1 : Int32) (x2 : Int64) (x4 : Int32) (x5 : Int32) (h : Hp), F_X5_goesOn_21 n kr x1 x2 x4 x5 h = some (r, h') → Sm [] [] [31, 32, 35, 36] [] h h' := by
  intro n
  induction n with
  | zero => intro x1 x2 x4 x5 h e; cases e
  | succ n ih =>
    intro x1 x2 x4 x5 h e
    rw [F_X5_goesOn_21] at e
    rcases it_ e with ⟨_, e⟩ | ⟨_, e⟩
    · cases e; exact sm_rf
    · obtain ⟨_, _, e⟩ := bd_some e
      rcases it_ e with ⟨_, e⟩ | ⟨_, e⟩
      · exact (w_X5_goesOn_157 kr hkr _ ih) _ _ _ _ _ e
      · rcases it_ e with ⟨_, e⟩ | ⟨_, e⟩
        · exact (w_X5_goesOn_157 kr hkr _ ih) _ _ _ _ _ e
        · obtain ⟨_, _, _, e⟩ := rA_some e
          rcases it_ e with ⟨_, e⟩ | ⟨_, e⟩
          · obtain ⟨_, _, _, e⟩ := rL_some e
            rcases it_ e with ⟨_, e⟩ | ⟨_, e⟩
            · obtain ⟨_, _, _, e⟩ := rA_some e
              obtain ⟨_, _, e⟩ := bd_some e
              obtain ⟨_, _, _, e⟩ := rA_some e
              obtain ⟨_, _, eh, e⟩ := wA_some e
              refine sm_A (k := 35) (by decide) eh ?_
              obtain ⟨_, _, _, e⟩ := rA_some e
              obtain ⟨_, _, e⟩ := ob_some e
              obtain ⟨⟨_, _⟩, e1, e⟩ := ob_some e
              refine sm_C (w_X4_isSoundPiece _ _ _ _ e1) (by decide) ?_
              rcases it_ e with ⟨_, e⟩ | ⟨_, e⟩
              · exact (w_X5_goesOn_149 kr hkr _ ih) _ _ _ _ _ _ e
              · obtain ⟨⟨_, _⟩, e1, e⟩ := ob_some e
                refine sm_C (hkr _ _ _ _ _ _ e1) (by decide) ?_
                rcases it_ e with ⟨_, e⟩ | ⟨_, e⟩
                · exact (w_X5_goesOn_149 kr hkr _ ih) _ _ _ _ _ _ e
                · cases e; exact sm_rf
            · exact (w_X5_goesOn_157 kr hkr _ ih) _ _ _ _ _ e
          · exact (w_X5_goesOn_157 kr hkr _ ih) _ _ _ _ _ e
theorem w_X5_goesOn_0 (kr : Int32 → Int64 → Int32 → Hp → Option (Int32 × Hp)) (hkr : ∀ (x0 : Int32) (x1 : Int64) (x2 : Int32) (h : Hp) (r : Int32) (h' : Hp), kr x0 x1 x2 h = some (r, h') → Sm [] [] [31, 32, 35, 36] [] h h') (x1 : Int32) (x2 : Int64) (x4 : Int32) (h : Hp) (r : Int32) (h' : Hp) (e : F_X5_goesOn_0 kr x1 x2 x4 h = some (r, h')) : Sm [] [] [31, 32, 35, 36] [] h h' := by
  unfold F_X5_goesOn_0 at e
  rcases it_ e with ⟨_, e⟩ | ⟨_, e⟩
  · cases e; exact sm_rf
  · rcases it_ e with ⟨_, e⟩ | ⟨_, e⟩
    · exact (w_X5_goesOn_21 kr hkr FU_) _ _ _ _ _ e
    · cases e; exact sm_rf
theorem w_X5_goesOn : ∀ (n : Nat) (x1 : Int32) (x2 : Int64) (x4 : Int32) (h : Hp) (r : Int32) (h' : Hp), F_X5_goesOn n x1 x2 x4 h = some (r, h') → Sm [] [] [31, 32, 35, 36] [] h h' := by
  intro n
  induction n with
  | zero => intro x1 x2 x4 h r h' e; cases e
  | succ n ih =>
    intro x1 x2 x4 h r h' e
    rw [F_X5_goesOn] at e
    exact w_X5_goesOn_0 (F_X5_goesOn n) ih x1 x2 x4 h r h' e
theorem w_X5_findRow_65 {h' : Hp} (h : Hp) (e : F_X5_findRow_65  h = some h') : Sm [326, 327, 328] [] [31, 32, 33, 35, 36] [34] h h' := by
  unfold F_X5_findRow_65 at e
  obtain ⟨⟨_, _⟩, e1, e⟩ := ob_some e
  refine sm_C (w_X5_goesOn RF_ _ _ _ _ _ _ e1) (by decide) ?_
  rcases it_ e with ⟨_, e⟩ | ⟨_, e⟩
  · cases e; exact sm_rf
  · obtain ⟨_, eh, e⟩ := bd_some e
    refine sm_I (k := 327) (by decide) eh ?_
    cases e; exact sm_rf
theorem w_X5_findRow_35 {h' : Hp} (k65 : Hp → Option Hp) (hk65 : ∀ (h : Hp), k65  h = some h' → Sm [326, 327, 328] [] [31, 32, 33, 35, 36] [34] h h') : ∀ (n : Nat) (x1 : Int32) (h : Hp), F_X5_findRow_35 n k65 x1 h = some h' → Sm [326, 327, 328] [] [31, 32, 33, 35, 36] [34] h h' := by
  intro n
  induction n with
  | zero => intro x1 h e; cases e
  | succ n ih =>
    intro x1 h e
    rw [F_X5_findRow_35] at e
    rcases it_ e with ⟨_, e⟩ | ⟨_, e⟩
    · exact hk65 _ e
    · rcases it_ e with ⟨_, e⟩ | ⟨_, e⟩
      · exact hk65 _ e
      · obtain ⟨_, _, eh, e⟩ := wA_some e
        refine sm_A (k := 36) (by decide) eh ?_
        exact ih _ _ e
theorem w_X5_findRow (h : Hp) (h' : Hp) (e : F_X5_findRow  h = some h') : Sm [326, 327, 328] [] [31, 32, 33, 35, 36] [34] h h' := by
  unfold F_X5_findRow at e
  rcases it_ e with ⟨_, e⟩ | ⟨_, e⟩
  · obtain ⟨_, eh, e⟩ := bd_some e
    refine sm_I (k := 328) (by decide) eh ?_
    obtain ⟨_, eh, e⟩ := bd_some e
    refine sm_I (k := 327) (by decide) eh ?_
    obtain ⟨⟨_, _⟩, e1, e⟩ := ob_some e
    refine sm_C (w_X4_isSound _ _ _ e1) (by decide) ?_
    rcases it_ e with ⟨_, e⟩ | ⟨_, e⟩
    · cases e; exact sm_rf
    · obtain ⟨_, e1, e⟩ := ob_some e
      refine sm_C (w_X5_collectBricks _ _ e1) (by decide) ?_
      exact (w_X5_findRow_35 _ (w_X5_findRow_65) FU_) _ _ e
  · cases e; exact sm_rf
theorem w_X6_refuse (x1 : Int32) (h : Hp) (r : Int32) (h' : Hp) (e : F_X6_refuse x1 h = some (r, h')) : Sm [] [] [37] [] h h' := by
  unfold F_X6_refuse at e
  rcases it_ e with ⟨_, e⟩ | ⟨_, e⟩
  · cases e; exact sm_rf
  · rcases it_ e with ⟨_, e⟩ | ⟨_, e⟩
    · cases e; exact sm_rf
    · obtain ⟨_, _, _, e⟩ := rA_some e
      obtain ⟨_, _, eh, e⟩ := wA_some e
      refine sm_A (k := 37) (by decide) eh ?_
      cases e; exact sm_rf
theorem w_X6_forgetAnswers (h : Hp) (h' : Hp) (e : F_X6_forgetAnswers  h = some h') : Sm [206, 328] [] [] [] h h' := by
  unfold F_X6_forgetAnswers at e
  obtain ⟨_, e1, e⟩ := ob_some e
  refine sm_C (w_X3_forget _ _ e1) (by decide) ?_
  obtain ⟨_, e1, e⟩ := ob_some e
  refine sm_C (w_X5_forget _ _ e1) (by decide) ?_
  cases e; exact sm_rf
theorem w_X6_cell (x1 : Int32) (x2 : Int32) (x3 : Int32) (x4 : Int32) (h : Hp) (r : Int32) (h' : Hp) (e : F_X6_cell x1 x2 x3 x4 h = some (r, h')) : Sm [206, 328] [] [8, 37] [] h h' := by
  unfold F_X6_cell at e
  obtain ⟨_, _, e⟩ := ob_some e
  rcases it_ e with ⟨_, e⟩ | ⟨_, e⟩
  · obtain ⟨⟨_, _⟩, e1, e⟩ := ob_some e
    refine sm_C (w_X6_refuse _ _ _ _ e1) (by decide) ?_
    cases e; exact sm_rf
  · rcases it_ e with ⟨_, e⟩ | ⟨_, e⟩
    · obtain ⟨⟨_, _⟩, e1, e⟩ := ob_some e
      refine sm_C (w_X6_refuse _ _ _ _ e1) (by decide) ?_
      cases e; exact sm_rf
    · rcases it_ e with ⟨_, e⟩ | ⟨_, e⟩
      · obtain ⟨_, e1, e⟩ := ob_some e
        refine sm_C (w_X6_forgetAnswers _ _ e1) (by decide) ?_
        obtain ⟨⟨_, _⟩, e1, e⟩ := ob_some e
        refine sm_C (w_X0_paint _ _ _ _ _ _ _ e1) (by decide) ?_
        cases e; exact sm_rf
      · obtain ⟨⟨_, _⟩, e1, e⟩ := ob_some e
        refine sm_C (w_X6_refuse _ _ _ _ e1) (by decide) ?_
        cases e; exact sm_rf
theorem w_X6_cellOf (x1 : Int32) (x2 : Int32) (x3 : Int32) (h : Hp) (r : Int32) (h' : Hp) (e : F_X6_cellOf x1 x2 x3 h = some (r, h')) : Sm [] [] [37] [] h h' := by
  unfold F_X6_cellOf at e
  obtain ⟨_, _, e⟩ := ob_some e
  rcases it_ e with ⟨_, e⟩ | ⟨_, e⟩
  · obtain ⟨⟨_, _⟩, e1, e⟩ := ob_some e
    refine sm_C (w_X6_refuse _ _ _ _ e1) (by decide) ?_
    cases e; exact sm_rf
  · obtain ⟨_, _, e⟩ := ob_some e
    cases e; exact sm_rf
theorem w_X6_place (x1 : Int32) (x2 : Int32) (x3 : Int32) (x4 : Int32) (x5 : Int32) (x6 : Int32) (h : Hp) (r : Int32) (h' : Hp) (e : F_X6_place x1 x2 x3 x4 x5 x6 h = some (r, h')) : Sm [138, 206, 328] [139, 140] [12, 13, 14, 15, 16, 17, 21, 37] [18, 19, 20] h h' := by
  unfold F_X6_place at e
  obtain ⟨_, _, e⟩ := ob_some e
  rcases it_ e with ⟨_, e⟩ | ⟨_, e⟩
  · obtain ⟨⟨_, _⟩, e1, e⟩ := ob_some e
    refine sm_C (w_X6_refuse _ _ _ _ e1) (by decide) ?_
    cases e; exact sm_rf
  · rcases it_ e with ⟨_, e⟩ | ⟨_, e⟩
    · obtain ⟨⟨_, _⟩, e1, e⟩ := ob_some e
      refine sm_C (w_X6_refuse _ _ _ _ e1) (by decide) ?_
      cases e; exact sm_rf
    · rcases it_ e with ⟨_, e⟩ | ⟨_, e⟩
      · obtain ⟨⟨_, _⟩, e1, e⟩ := ob_some e
        refine sm_C (w_X6_refuse _ _ _ _ e1) (by decide) ?_
        cases e; exact sm_rf
      · obtain ⟨_, _, e⟩ := ob_some e
        rcases it_ e with ⟨_, e⟩ | ⟨_, e⟩
        · obtain ⟨⟨_, _⟩, e1, e⟩ := ob_some e
          refine sm_C (w_X6_refuse _ _ _ _ e1) (by decide) ?_
          cases e; exact sm_rf
        · obtain ⟨_, _, e⟩ := ob_some e
          rcases it_ e with ⟨_, e⟩ | ⟨_, e⟩
          · obtain ⟨⟨_, _⟩, e1, e⟩ := ob_some e
            refine sm_C (w_X6_refuse _ _ _ _ e1) (by decide) ?_
            cases e; exact sm_rf
          · obtain ⟨_, _, e⟩ := ob_some e
            rcases it_ e with ⟨_, e⟩ | ⟨_, e⟩
            · obtain ⟨⟨_, _⟩, e1, e⟩ := ob_some e
              refine sm_C (w_X6_refuse _ _ _ _ e1) (by decide) ?_
              cases e; exact sm_rf
            · obtain ⟨_, _, e⟩ := ob_some e
              rcases it_ e with ⟨_, e⟩ | ⟨_, e⟩
              · obtain ⟨_, _, e⟩ := ob_some e
                obtain ⟨_, _, e⟩ := ob_some e
                rcases it_ e with ⟨_, e⟩ | ⟨_, e⟩
                · obtain ⟨_, _, e⟩ := ob_some e
                  rcases it_ e with ⟨_, e⟩ | ⟨_, e⟩
                  · obtain ⟨_, e1, e⟩ := ob_some e
                    refine sm_C (w_X6_forgetAnswers _ _ e1) (by decide) ?_
                    obtain ⟨⟨_, _⟩, e1, e⟩ := ob_some e
                    refine sm_C (w_X2_add _ _ _ _ _ _ _ _ _ e1) (by decide) ?_
                    cases e; exact sm_rf
                  · obtain ⟨⟨_, _⟩, e1, e⟩ := ob_some e
                    refine sm_C (w_X6_refuse _ _ _ _ e1) (by decide) ?_
                    cases e; exact sm_rf
                · obtain ⟨⟨_, _⟩, e1, e⟩ := ob_some e
                  refine sm_C (w_X6_refuse _ _ _ _ e1) (by decide) ?_
                  cases e; exact sm_rf
              · obtain ⟨⟨_, _⟩, e1, e⟩ := ob_some e
                refine sm_C (w_X6_refuse _ _ _ _ e1) (by decide) ?_
                cases e; exact sm_rf
theorem w_X6_take (x1 : Int32) (h : Hp) (r : Int32) (h' : Hp) (e : F_X6_take x1 h = some (r, h')) : Sm [206, 328] [139, 140] [21, 37] [20] h h' := by
  unfold F_X6_take at e
  obtain ⟨_, _, e⟩ := ob_some e
  rcases it_ e with ⟨_, e⟩ | ⟨_, e⟩
  · obtain ⟨_, e1, e⟩ := ob_some e
    refine sm_C (w_X6_forgetAnswers _ _ e1) (by decide) ?_
    obtain ⟨_, e1, e⟩ := ob_some e
    refine sm_C (w_X2_remove _ _ _ e1) (by decide) ?_
    cases e; exact sm_rf
  · obtain ⟨⟨_, _⟩, e1, e⟩ := ob_some e
    refine sm_C (w_X6_refuse _ _ _ _ e1) (by decide) ?_
    cases e; exact sm_rf
theorem w_X6_at (x1 : Int32) (x2 : Int32) (x3 : Int32) (h : Hp) (r : Int32) (h' : Hp) (e : F_X6_at x1 x2 x3 h = some (r, h')) : Sm [] [] [37] [] h h' := by
  unfold F_X6_at at e
  obtain ⟨_, _, e⟩ := ob_some e
  rcases it_ e with ⟨_, e⟩ | ⟨_, e⟩
  · obtain ⟨⟨_, _⟩, e1, e⟩ := ob_some e
    refine sm_C (w_X6_refuse _ _ _ _ e1) (by decide) ?_
    cases e; exact sm_rf
  · obtain ⟨_, _, e⟩ := ob_some e
    rcases it_ e with ⟨_, e⟩ | ⟨_, e⟩
    · cases e; exact sm_rf
    · cases e; exact sm_rf
theorem w_X6_studs (x1 : Int32) (x2 : Int32) (h : Hp) (r : Int32) (h' : Hp) (e : F_X6_studs x1 x2 h = some (r, h')) : Sm [] [] [37] [] h h' := by
  unfold F_X6_studs at e
  obtain ⟨_, _, e⟩ := ob_some e
  rcases it_ e with ⟨_, e⟩ | ⟨_, e⟩
  · obtain ⟨⟨_, _⟩, e1, e⟩ := ob_some e
    refine sm_C (w_X6_refuse _ _ _ _ e1) (by decide) ?_
    cases e; exact sm_rf
  · obtain ⟨_, _, e⟩ := ob_some e
    rcases it_ e with ⟨_, e⟩ | ⟨_, e⟩
    · obtain ⟨⟨_, _⟩, e1, e⟩ := ob_some e
      refine sm_C (w_X6_refuse _ _ _ _ e1) (by decide) ?_
      cases e; exact sm_rf
    · rcases it_ e with ⟨_, e⟩ | ⟨_, e⟩
      · obtain ⟨⟨_, _⟩, e1, e⟩ := ob_some e
        refine sm_C (w_X6_refuse _ _ _ _ e1) (by decide) ?_
        cases e; exact sm_rf
      · obtain ⟨_, _, e⟩ := ob_some e
        rcases it_ e with ⟨_, e⟩ | ⟨_, e⟩
        · obtain ⟨⟨_, _⟩, e1, e⟩ := ob_some e
          refine sm_C (w_X6_refuse _ _ _ _ e1) (by decide) ?_
          cases e; exact sm_rf
        · obtain ⟨_, _, e⟩ := ob_some e
          rcases it_ e with ⟨_, e⟩ | ⟨_, e⟩
          · obtain ⟨⟨_, _⟩, e1, e⟩ := ob_some e
            refine sm_C (w_X6_refuse _ _ _ _ e1) (by decide) ?_
            cases e; exact sm_rf
          · obtain ⟨_, _, e⟩ := ob_some e
            cases e; exact sm_rf
theorem w_X6_piece (x1 : Int32) (h : Hp) (r : Int32) (h' : Hp) (e : F_X6_piece x1 h = some (r, h')) : Sm [] [] [37] [] h h' := by
  unfold F_X6_piece at e
  obtain ⟨_, _, e⟩ := ob_some e
  rcases it_ e with ⟨_, e⟩ | ⟨_, e⟩
  · obtain ⟨_, _, e⟩ := ob_some e
    cases e; exact sm_rf
  · obtain ⟨⟨_, _⟩, e1, e⟩ := ob_some e
    refine sm_C (w_X6_refuse _ _ _ _ e1) (by decide) ?_
    cases e; exact sm_rf
theorem w_X6_pieceOf (x1 : Int32) (x2 : Int32) (h : Hp) (r : Int32) (h' : Hp) (e : F_X6_pieceOf x1 x2 h = some (r, h')) : Sm [] [] [31, 32, 37] [] h h' := by
  unfold F_X6_pieceOf at e
  obtain ⟨_, _, e⟩ := ob_some e
  rcases it_ e with ⟨_, e⟩ | ⟨_, e⟩
  · obtain ⟨⟨_, _⟩, e1, e⟩ := ob_some e
    refine sm_C (w_X6_refuse _ _ _ _ e1) (by decide) ?_
    cases e; exact sm_rf
  · rcases it_ e with ⟨_, e⟩ | ⟨_, e⟩
    · obtain ⟨_, _, e⟩ := ob_some e
      cases e; exact sm_rf
    · rcases it_ e with ⟨_, e⟩ | ⟨_, e⟩
      · obtain ⟨_, _, e⟩ := ob_some e
        rcases it_ e with ⟨_, e⟩ | ⟨_, e⟩
        · cases e; exact sm_rf
        · cases e; exact sm_rf
      · rcases it_ e with ⟨_, e⟩ | ⟨_, e⟩
        · obtain ⟨⟨_, _⟩, e1, e⟩ := ob_some e
          refine sm_C (w_X4_stands _ _ _ _ e1) (by decide) ?_
          rcases it_ e with ⟨_, e⟩ | ⟨_, e⟩
          · cases e; exact sm_rf
          · cases e; exact sm_rf
        · rcases it_ e with ⟨_, e⟩ | ⟨_, e⟩
          · obtain ⟨_, _, e⟩ := ob_some e
            cases e; exact sm_rf
          · obtain ⟨⟨_, _⟩, e1, e⟩ := ob_some e
            refine sm_C (w_X6_refuse _ _ _ _ e1) (by decide) ?_
            cases e; exact sm_rf
theorem w_X6_key (x1 : Int32) (h : Hp) (r : Int32) (h' : Hp) (e : F_X6_key x1 h = some (r, h')) : Sm [] [] [37] [] h h' := by
  unfold F_X6_key at e
  obtain ⟨_, _, e⟩ := ob_some e
  rcases it_ e with ⟨_, e⟩ | ⟨_, e⟩
  · obtain ⟨_, _, e⟩ := ob_some e
    obtain ⟨_, _, e⟩ := ob_some e
    obtain ⟨_, _, e⟩ := ob_some e
    rcases it_ e with ⟨_, e⟩ | ⟨_, e⟩
    · cases e; exact sm_rf
    · cases e; exact sm_rf
  · obtain ⟨⟨_, _⟩, e1, e⟩ := ob_some e
    refine sm_C (w_X6_refuse _ _ _ _ e1) (by decide) ?_
    cases e; exact sm_rf
theorem w_X6_weak (x1 : Int32) (h : Hp) (r : Int32) (h' : Hp) (e : F_X6_weak x1 h = some (r, h')) : Sm [] [] [37] [] h h' := by
  unfold F_X6_weak at e
  obtain ⟨_, _, e⟩ := ob_some e
  rcases it_ e with ⟨_, e⟩ | ⟨_, e⟩
  · obtain ⟨_, _, e⟩ := ob_some e
    obtain ⟨_, _, e⟩ := ob_some e
    obtain ⟨_, _, e⟩ := ob_some e
    cases e; exact sm_rf
  · obtain ⟨⟨_, _⟩, e1, e⟩ := ob_some e
    refine sm_C (w_X6_refuse _ _ _ _ e1) (by decide) ?_
    cases e; exact sm_rf
theorem w_X6_sound (h : Hp) (r : Int32) (h' : Hp) (e : F_X6_sound  h = some (r, h')) : Sm [] [] [31, 32] [] h h' := by
  unfold F_X6_sound at e
  obtain ⟨⟨_, _⟩, e1, e⟩ := ob_some e
  refine sm_C (w_X4_isSound _ _ _ e1) (by decide) ?_
  rcases it_ e with ⟨_, e⟩ | ⟨_, e⟩
  · cases e; exact sm_rf
  · cases e; exact sm_rf
theorem w_X6_grip (x1 : Int32) (h : Hp) (r : Int32) (h' : Hp) (e : F_X6_grip x1 h = some (r, h')) : Sm [206, 259, 328] [] [37] [] h h' := by
  unfold F_X6_grip at e
  rcases it_ e with ⟨_, e⟩ | ⟨_, e⟩
  · rcases it_ e with ⟨_, e⟩ | ⟨_, e⟩
    · obtain ⟨_, e1, e⟩ := ob_some e
      refine sm_C (w_X6_forgetAnswers _ _ e1) (by decide) ?_
      obtain ⟨⟨_, _⟩, e1, e⟩ := ob_some e
      refine sm_C (w_X4_changeGrip _ _ _ _ e1) (by decide) ?_
      cases e; exact sm_rf
    · obtain ⟨⟨_, _⟩, e1, e⟩ := ob_some e
      refine sm_C (w_X6_refuse _ _ _ _ e1) (by decide) ?_
      cases e; exact sm_rf
  · obtain ⟨⟨_, _⟩, e1, e⟩ := ob_some e
    refine sm_C (w_X6_refuse _ _ _ _ e1) (by decide) ?_
    cases e; exact sm_rf
theorem w_X6_fit_73 {r : Int32} {h' : Hp} (k20 : Int32 → Int32 → Int32 → Hp → Option (Int32 × Hp)) (hk20 : ∀ (x1 : Int32) (x2 : Int32) (x3 : Int32) (h : Hp), k20 x1 x2 x3 h = some (r, h') → Sm [] [] [37] [] h h') (x1 : Int32) (x2 : Int32) (x3 : Int32) (h : Hp) (e : F_X6_fit_73 k20 x1 x2 x3 h = some (r, h')) : Sm [] [] [37] [] h h' := by
  unfold F_X6_fit_73 at e
  exact hk20 _ _ _ _ e
theorem w_X6_fit_67 {r : Int32} {h' : Hp} (k28 : Int32 → Int32 → Int32 → Int32 → Hp → Option (Int32 × Hp)) (hk28 : ∀ (x1 : Int32) (x2 : Int32) (x3 : Int32) (x4 : Int32) (h : Hp), k28 x1 x2 x3 x4 h = some (r, h') → Sm [] [] [37] [] h h') (x1 : Int32) (x2 : Int32) (x3 : Int32) (x4 : Int32) (h : Hp) (e : F_X6_fit_67 k28 x1 x2 x3 x4 h = some (r, h')) : Sm [] [] [37] [] h h' := by
  unfold F_X6_fit_67 at e
  exact hk28 _ _ _ _ _ e
theorem w_X6_fit_61 {r : Int32} {h' : Hp} (k38 : Int32 → Int32 → Int32 → Int32 → Int32 → Hp → Option (Int32 × Hp)) (hk38 : ∀ (x1 : Int32) (x2 : Int32) (x3 : Int32) (x4 : Int32) (x5 : Int32) (h : Hp), k38 x1 x2 x3 x4 x5 h = some (r, h') → Sm [] [] [37] [] h h') (x1 : Int32) (x2 : Int32) (x3 : Int32) (x4 : Int32) (x5 : Int32) (h : Hp) (e : F_X6_fit_61 k38 x1 x2 x3 x4 x5 h = some (r, h')) : Sm [] [] [37] [] h h' := by
  unfold F_X6_fit_61 at e
  exact hk38 _ _ _ _ _ _ e
theorem w_X6_fit_38 {r : Int32} {h' : Hp} (k67 : Int32 → Int32 → Int32 → Int32 → Hp → Option (Int32 × Hp)) (hk67 : ∀ (x1 : Int32) (x2 : Int32) (x3 : Int32) (x4 : Int32) (h : Hp), k67 x1 x2 x3 x4 h = some (r, h') → Sm [] [] [37] [] h h') : ∀ (n : Nat) (x1 : Int32) (x2 : Int32) (x3 : Int32) (x4 : Int32) (x5 : Int32) (h : Hp), F_X6_fit_38 n k67 x1 x2 x3 x4 x5 h = some (r, h') → Sm [] [] [37] [] h h' := by
  intro n
  induction n with
  | zero => intro x1 x2 x3 x4 x5 h e; cases e
  | succ n ih =>
    intro x1 x2 x3 x4 x5 h e
    rw [F_X6_fit_38] at e
    rcases it_ e with ⟨_, e⟩ | ⟨_, e⟩
    · exact hk67 _ _ _ _ _ e
    · obtain ⟨_, _, e⟩ := ob_some e
      rcases it_ e with ⟨_, e⟩ | ⟨_, e⟩
      · exact (w_X6_fit_61 _ ih) _ _ _ _ _ _ e
      · exact (w_X6_fit_61 _ ih) _ _ _ _ _ _ e
theorem w_X6_fit_28 {r : Int32} {h' : Hp} (k73 : Int32 → Int32 → Int32 → Hp → Option (Int32 × Hp)) (hk73 : ∀ (x1 : Int32) (x2 : Int32) (x3 : Int32) (h : Hp), k73 x1 x2 x3 h = some (r, h') → Sm [] [] [37] [] h h') : ∀ (n : Nat) (x1 : Int32) (x2 : Int32) (x3 : Int32) (x4 : Int32) (h : Hp), F_X6_fit_28 n k73 x1 x2 x3 x4 h = some (r, h') → Sm [] [] [37] [] h h' := by
  intro n
  induction n with
  | zero => intro x1 x2 x3 x4 h e; cases e
  | succ n ih =>
    intro x1 x2 x3 x4 h e
    rw [F_X6_fit_28] at e
    rcases it_ e with ⟨_, e⟩ | ⟨_, e⟩
    · exact hk73 _ _ _ _ e
    · exact (w_X6_fit_38 _ (w_X6_fit_67 _ ih) FU_) _ _ _ _ _ _ e
theorem w_X6_fit_20 {r : Int32} {h' : Hp} : ∀ (n : Nat) (x1 : Int32) (x2 : Int32) (x3 : Int32) (h : Hp), F_X6_fit_20 n x1 x2 x3 h = some (r, h') → Sm [] [] [37] [] h h' := by
  intro n
  induction n with
  | zero => intro x1 x2 x3 h e; cases e
  | succ n ih =>
    intro x1 x2 x3 h e
    rw [F_X6_fit_20] at e
    rcases it_ e with ⟨_, e⟩ | ⟨_, e⟩
    · cases e; exact sm_rf
    · exact (w_X6_fit_28 _ (w_X6_fit_73 _ ih) FU_) _ _ _ _ _ e
theorem w_X6_fit (x1 : Int32) (h : Hp) (r : Int32) (h' : Hp) (e : F_X6_fit x1 h = some (r, h')) : Sm [] [] [37] [] h h' := by
  unfold F_X6_fit at e
  rcases it_ e with ⟨_, e⟩ | ⟨_, e⟩
  · obtain ⟨⟨_, _⟩, e1, e⟩ := ob_some e
    refine sm_C (w_X6_refuse _ _ _ _ e1) (by decide) ?_
    cases e; exact sm_rf
  · rcases it_ e with ⟨_, e⟩ | ⟨_, e⟩
    · exact (w_X6_fit_20 FU_) _ _ _ _ e
    · obtain ⟨⟨_, _⟩, e1, e⟩ := ob_some e
      refine sm_C (w_X6_refuse _ _ _ _ e1) (by decide) ?_
      cases e; exact sm_rf
theorem w_X6_refusalOfCover (x1 : Int32) (x2 : Int32) (h : Hp) (r : Int32) (h' : Hp) (e : F_X6_refusalOfCover x1 x2 h = some (r, h')) : Sm [203, 204, 205, 206, 207] [] [22, 23, 24, 25, 26, 27, 28, 29, 30] [] h h' := by
  unfold F_X6_refusalOfCover at e
  obtain ⟨_, _, e⟩ := ob_some e
  rcases it_ e with ⟨_, e⟩ | ⟨_, e⟩
  · cases e; exact sm_rf
  · rcases it_ e with ⟨_, e⟩ | ⟨_, e⟩
    · cases e; exact sm_rf
    · rcases it_ e with ⟨_, e⟩ | ⟨_, e⟩
      · obtain ⟨⟨_, _⟩, e1, e⟩ := ob_some e
        refine sm_C (w_X3_findBest _ _ _ _ _ e1) (by decide) ?_
        rcases it_ e with ⟨_, e⟩ | ⟨_, e⟩
        · cases e; exact sm_rf
        · cases e; exact sm_rf
      · cases e; exact sm_rf
theorem w_X6_cover (x1 : Int32) (x2 : Int32) (h : Hp) (r : Int32) (h' : Hp) (e : F_X6_cover x1 x2 h = some (r, h')) : Sm [203, 204, 205, 206, 207] [] [22, 23, 24, 25, 26, 27, 28, 29, 30, 37] [] h h' := by
  unfold F_X6_cover at e
  obtain ⟨⟨_, _⟩, e1, e⟩ := ob_some e
  refine sm_C (w_X6_refusalOfCover _ _ _ _ _ e1) (by decide) ?_
  rcases it_ e with ⟨_, e⟩ | ⟨_, e⟩
  · obtain ⟨_, _, e⟩ := ob_some e
    cases e; exact sm_rf
  · obtain ⟨⟨_, _⟩, e1, e⟩ := ob_some e
    refine sm_C (w_X6_refuse _ _ _ _ e1) (by decide) ?_
    cases e; exact sm_rf
theorem w_X6_coverSeams (x1 : Int32) (x2 : Int32) (h : Hp) (r : Int32) (h' : Hp) (e : F_X6_coverSeams x1 x2 h = some (r, h')) : Sm [203, 204, 205, 206, 207] [] [22, 23, 24, 25, 26, 27, 28, 29, 30, 37] [] h h' := by
  unfold F_X6_coverSeams at e
  obtain ⟨⟨_, _⟩, e1, e⟩ := ob_some e
  refine sm_C (w_X6_refusalOfCover _ _ _ _ _ e1) (by decide) ?_
  rcases it_ e with ⟨_, e⟩ | ⟨_, e⟩
  · obtain ⟨_, _, e⟩ := ob_some e
    cases e; exact sm_rf
  · obtain ⟨⟨_, _⟩, e1, e⟩ := ob_some e
    refine sm_C (w_X6_refuse _ _ _ _ e1) (by decide) ?_
    cases e; exact sm_rf
theorem w_X6_coverAt (x1 : Int32) (x2 : Int32) (x3 : Int32) (h : Hp) (r : Int32) (h' : Hp) (e : F_X6_coverAt x1 x2 x3 h = some (r, h')) : Sm [203, 204, 205, 206, 207] [] [22, 23, 24, 25, 26, 27, 28, 29, 30, 37] [] h h' := by
  unfold F_X6_coverAt at e
  obtain ⟨⟨_, _⟩, e1, e⟩ := ob_some e
  refine sm_C (w_X6_refusalOfCover _ _ _ _ _ e1) (by decide) ?_
  rcases it_ e with ⟨_, e⟩ | ⟨_, e⟩
  · obtain ⟨_, _, e⟩ := ob_some e
    cases e; exact sm_rf
  · obtain ⟨⟨_, _⟩, e1, e⟩ := ob_some e
    refine sm_C (w_X6_refuse _ _ _ _ e1) (by decide) ?_
    cases e; exact sm_rf
theorem w_X6_lay_51 {r : Int32} {h' : Hp} : ∀ (n : Nat) (x1 : Int32) (x2 : Int32) (x4 : Int32) (x5 : Int32) (h : Hp), F_X6_lay_51 n x1 x2 x4 x5 h = some (r, h') → Sm [138, 203, 204, 205, 206, 207, 328] [139, 140] [12, 13, 14, 15, 16, 17, 21, 22, 23, 24, 25, 26, 27, 28, 29, 30, 37] [18, 19, 20] h h' := by
  intro n
  induction n with
  | zero => intro x1 x2 x4 x5 h e; cases e
  | succ n ih =>
    intro x1 x2 x4 x5 h e
    rw [F_X6_lay_51] at e
    rcases it_ e with ⟨_, e⟩ | ⟨_, e⟩
    · obtain ⟨_, e1, e⟩ := ob_some e
      refine sm_C (w_X6_forgetAnswers _ _ e1) (by decide) ?_
      cases e; exact sm_rf
    · obtain ⟨_, _, e⟩ := ob_some e
      obtain ⟨⟨_, _⟩, e1, e⟩ := ob_some e
      refine sm_C (w_X2_add _ _ _ _ _ _ _ _ _ e1) (by decide) ?_
      exact ih _ _ _ _ _ e
theorem w_X6_lay (x1 : Int32) (x2 : Int32) (h : Hp) (r : Int32) (h' : Hp) (e : F_X6_lay x1 x2 h = some (r, h')) : Sm [138, 203, 204, 205, 206, 207, 328] [139, 140] [12, 13, 14, 15, 16, 17, 21, 22, 23, 24, 25, 26, 27, 28, 29, 30, 37] [18, 19, 20] h h' := by
  unfold F_X6_lay at e
  obtain ⟨⟨_, _⟩, e1, e⟩ := ob_some e
  refine sm_C (w_X6_refusalOfCover _ _ _ _ _ e1) (by decide) ?_
  rcases it_ e with ⟨_, e⟩ | ⟨_, e⟩
  · obtain ⟨_, _, e⟩ := ob_some e
    obtain ⟨_, _, e⟩ := ob_some e
    rcases it_ e with ⟨_, e⟩ | ⟨_, e⟩
    · exact (w_X6_lay_51 FU_) _ _ _ _ _ e
    · obtain ⟨⟨_, _⟩, e1, e⟩ := ob_some e
      refine sm_C (w_X6_refuse _ _ _ _ e1) (by decide) ?_
      cases e; exact sm_rf
  · obtain ⟨⟨_, _⟩, e1, e⟩ := ob_some e
    refine sm_C (w_X6_refuse _ _ _ _ e1) (by decide) ?_
    cases e; exact sm_rf
theorem w_X6_box (x1 : Int32) (x2 : Int32) (h : Hp) (r : Int32) (h' : Hp) (e : F_X6_box x1 x2 h = some (r, h')) : Sm [] [] [9, 37] [] h h' := by
  unfold F_X6_box at e
  obtain ⟨_, _, e⟩ := ob_some e
  rcases it_ e with ⟨_, e⟩ | ⟨_, e⟩
  · obtain ⟨⟨_, _⟩, e1, e⟩ := ob_some e
    refine sm_C (w_X6_refuse _ _ _ _ e1) (by decide) ?_
    cases e; exact sm_rf
  · rcases it_ e with ⟨_, e⟩ | ⟨_, e⟩
    · rcases it_ e with ⟨_, e⟩ | ⟨_, e⟩
      · obtain ⟨⟨_, _⟩, e1, e⟩ := ob_some e
        refine sm_C (w_X1_fill _ _ _ _ _ e1) (by decide) ?_
        cases e; exact sm_rf
      · obtain ⟨⟨_, _⟩, e1, e⟩ := ob_some e
        refine sm_C (w_X6_refuse _ _ _ _ e1) (by decide) ?_
        cases e; exact sm_rf
    · obtain ⟨⟨_, _⟩, e1, e⟩ := ob_some e
      refine sm_C (w_X6_refuse _ _ _ _ e1) (by decide) ?_
      cases e; exact sm_rf
theorem w_X6_lacking_11 {r : Int32} {h' : Hp} : ∀ (n : Nat) (x1 : Int32) (x2 : Int32) (h : Hp), F_X6_lacking_11 n x1 x2 h = some (r, h') → Sm [] [] [10, 11] [] h h' := by
  intro n
  induction n with
  | zero => intro x1 x2 h e; cases e
  | succ n ih =>
    intro x1 x2 h e
    rw [F_X6_lacking_11] at e
    rcases it_ e with ⟨_, e⟩ | ⟨_, e⟩
    · cases e; exact sm_rf
    · obtain ⟨_, _, e⟩ := ob_some e
      exact ih _ _ _ e
theorem w_X6_lacking (h : Hp) (r : Int32) (h' : Hp) (e : F_X6_lacking  h = some (r, h')) : Sm [] [] [10, 11] [] h h' := by
  unfold F_X6_lacking at e
  obtain ⟨_, e1, e⟩ := ob_some e
  refine sm_C (w_X1_settle _ _ e1) (by decide) ?_
  exact (w_X6_lacking_11 FU_) _ _ _ e
theorem w_X6_lacks (x1 : Int32) (h : Hp) (r : Int32) (h' : Hp) (e : F_X6_lacks x1 h = some (r, h')) : Sm [] [] [10, 11, 37] [] h h' := by
  unfold F_X6_lacks at e
  obtain ⟨_, _, e⟩ := ob_some e
  rcases it_ e with ⟨_, e⟩ | ⟨_, e⟩
  · obtain ⟨⟨_, _⟩, e1, e⟩ := ob_some e
    refine sm_C (w_X6_refuse _ _ _ _ e1) (by decide) ?_
    cases e; exact sm_rf
  · obtain ⟨_, e1, e⟩ := ob_some e
    refine sm_C (w_X1_settle _ _ e1) (by decide) ?_
    obtain ⟨_, _, e⟩ := ob_some e
    cases e; exact sm_rf
theorem w_X6_order (x1 : Int32) (h : Hp) (r : Int32) (h' : Hp) (e : F_X6_order x1 h = some (r, h')) : Sm [326, 327, 328] [] [31, 32, 33, 35, 36, 37] [34] h h' := by
  unfold F_X6_order at e
  obtain ⟨_, _, e⟩ := ob_some e
  rcases it_ e with ⟨_, e⟩ | ⟨_, e⟩
  · obtain ⟨_, e1, e⟩ := ob_some e
    refine sm_C (w_X5_findRow _ _ e1) (by decide) ?_
    obtain ⟨_, _, e⟩ := ob_some e
    cases e; exact sm_rf
  · obtain ⟨⟨_, _⟩, e1, e⟩ := ob_some e
    refine sm_C (w_X6_refuse _ _ _ _ e1) (by decide) ?_
    cases e; exact sm_rf
theorem w_X6_seen_27 {r : Int32} {h' : Hp} (x1 : Int32) (x2 : Int32) (x3 : Int32) (s0 : Int32) (h : Hp) (e : F_X6_seen_27 x1 x2 x3 s0 h = some (r, h')) : Sm [] [] [37] [] h h' := by
  unfold F_X6_seen_27 at e
  rcases it_ e with ⟨_, e⟩ | ⟨_, e⟩
  · obtain ⟨⟨_, _⟩, e1, e⟩ := ob_some e
    refine sm_C (w_X6_refuse _ _ _ _ e1) (by decide) ?_
    cases e; exact sm_rf
  · rcases it_ e with ⟨_, e⟩ | ⟨_, e⟩
    · obtain ⟨⟨_, _⟩, e1, e⟩ := ob_some e
      refine sm_C (w_X6_refuse _ _ _ _ e1) (by decide) ?_
      cases e; exact sm_rf
    · rcases it_ e with ⟨_, e⟩ | ⟨_, e⟩
      · obtain ⟨⟨_, _⟩, e1, e⟩ := ob_some e
        refine sm_C (w_X6_refuse _ _ _ _ e1) (by decide) ?_
        cases e; exact sm_rf
      · rcases it_ e with ⟨_, e⟩ | ⟨_, e⟩
        · obtain ⟨_, _, e⟩ := ob_some e
          cases e; exact sm_rf
        · obtain ⟨⟨_, _⟩, e1, e⟩ := ob_some e
          refine sm_C (w_X6_refuse _ _ _ _ e1) (by decide) ?_
          cases e; exact sm_rf
theorem w_X6_seen (x1 : Int32) (x2 : Int32) (x3 : Int32) (h : Hp) (r : Int32) (h' : Hp) (e : F_X6_seen x1 x2 x3 h = some (r, h')) : Sm [] [] [37] [] h h' := by
  unfold F_X6_seen at e
  rcases it_ e with ⟨_, e⟩ | ⟨_, e⟩
  · obtain ⟨⟨_, _⟩, e1, e⟩ := ob_some e
    refine sm_C (w_X6_refuse _ _ _ _ e1) (by decide) ?_
    cases e; exact sm_rf
  · rcases it_ e with ⟨_, e⟩ | ⟨_, e⟩
    · rcases it_ e with ⟨_, e⟩ | ⟨_, e⟩
      · exact (w_X6_seen_27) _ _ _ _ _ e
      · exact (w_X6_seen_27) _ _ _ _ _ e
    · obtain ⟨⟨_, _⟩, e1, e⟩ := ob_some e
      refine sm_C (w_X6_refuse _ _ _ _ e1) (by decide) ?_
      cases e; exact sm_rf
theorem w_X6_brickOf (x1 : Int32) (x2 : Int32) (h : Hp) (r : Int32) (h' : Hp) (e : F_X6_brickOf x1 x2 h = some (r, h')) : Sm [] [] [37] [] h h' := by
  unfold F_X6_brickOf at e
  obtain ⟨_, _, e⟩ := ob_some e
  rcases it_ e with ⟨_, e⟩ | ⟨_, e⟩
  · obtain ⟨⟨_, _⟩, e1, e⟩ := ob_some e
    refine sm_C (w_X6_refuse _ _ _ _ e1) (by decide) ?_
    cases e; exact sm_rf
  · rcases it_ e with ⟨_, e⟩ | ⟨_, e⟩
    · obtain ⟨⟨_, _⟩, e1, e⟩ := ob_some e
      refine sm_C (w_X6_refuse _ _ _ _ e1) (by decide) ?_
      cases e; exact sm_rf
    · rcases it_ e with ⟨_, e⟩ | ⟨_, e⟩
      · obtain ⟨_, _, e⟩ := ob_some e
        cases e; exact sm_rf
      · obtain ⟨⟨_, _⟩, e1, e⟩ := ob_some e
        refine sm_C (w_X6_refuse _ _ _ _ e1) (by decide) ?_
        cases e; exact sm_rf
theorem w_X7_refuse (x1 : Int32) (h : Hp) (r : Int32) (h' : Hp) (e : F_X7_refuse x1 h = some (r, h')) : Sm [] [] [38] [] h h' := by
  unfold F_X7_refuse at e
  obtain ⟨_, _, _, e⟩ := rA_some e
  obtain ⟨_, _, eh, e⟩ := wA_some e
  refine sm_A (k := 38) (by decide) eh ?_
  cases e; exact sm_rf
theorem w_X7_cell (x1 : Int32) (x2 : Int32) (x3 : Int32) (x4 : Int32) (h : Hp) (r : Int32) (h' : Hp) (e : F_X7_cell x1 x2 x3 x4 h = some (r, h')) : Sm [] [] [38, 39] [] h h' := by
  unfold F_X7_cell at e
  obtain ⟨_, _, e⟩ := ob_some e
  rcases it_ e with ⟨_, e⟩ | ⟨_, e⟩
  · obtain ⟨⟨_, _⟩, e1, e⟩ := ob_some e
    refine sm_C (w_X7_refuse _ _ _ _ e1) (by decide) ?_
    cases e; exact sm_rf
  · obtain ⟨_, _, e⟩ := ob_some e
    rcases it_ e with ⟨_, e⟩ | ⟨_, e⟩
    · obtain ⟨⟨_, _⟩, e1, e⟩ := ob_some e
      refine sm_C (w_X7_refuse _ _ _ _ e1) (by decide) ?_
      cases e; exact sm_rf
    · obtain ⟨_, _, e⟩ := ob_some e
      obtain ⟨_, _, _, e⟩ := rA_some e
      obtain ⟨_, _, e⟩ := ob_some e
      obtain ⟨_, _, eh, e⟩ := wA_some e
      refine sm_A (k := 39) (by decide) eh ?_
      cases e; exact sm_rf
theorem w_X7_cellOf (x1 : Int32) (x2 : Int32) (x3 : Int32) (h : Hp) (r : Int32) (h' : Hp) (e : F_X7_cellOf x1 x2 x3 h = some (r, h')) : Sm [] [] [38] [] h h' := by
  unfold F_X7_cellOf at e
  obtain ⟨_, _, e⟩ := ob_some e
  rcases it_ e with ⟨_, e⟩ | ⟨_, e⟩
  · obtain ⟨⟨_, _⟩, e1, e⟩ := ob_some e
    refine sm_C (w_X7_refuse _ _ _ _ e1) (by decide) ?_
    cases e; exact sm_rf
  · obtain ⟨_, _, e⟩ := ob_some e
    obtain ⟨_, _, _, e⟩ := rA_some e
    cases e; exact sm_rf
theorem w_X7_fills_82 {h' : Hp} (k2 : Int32 → Int32 → Int32 → Hp → Option Hp) (hk2 : ∀ (x1 : Int32) (x2 : Int32) (x3 : Int32) (h : Hp), k2 x1 x2 x3 h = some h' → Sm [] [] [40] [] h h') (x1 : Int32) (x2 : Int32) (x3 : Int32) (h : Hp) (e : F_X7_fills_82 k2 x1 x2 x3 h = some h') : Sm [] [] [40] [] h h' := by
  unfold F_X7_fills_82 at e
  exact hk2 _ _ _ _ e
theorem w_X7_fills_24 {h' : Hp} (k82 : Int32 → Int32 → Int32 → Hp → Option Hp) (hk82 : ∀ (x1 : Int32) (x2 : Int32) (x3 : Int32) (h : Hp), k82 x1 x2 x3 h = some h' → Sm [] [] [40] [] h h') : ∀ (n : Nat) (x1 : Int32) (x2 : Int32) (x3 : Int32) (x4 : Int32) (h : Hp), F_X7_fills_24 n k82 x1 x2 x3 x4 h = some h' → Sm [] [] [40] [] h h' := by
  intro n
  induction n with
  | zero => intro x1 x2 x3 x4 h e; cases e
  | succ n ih =>
    intro x1 x2 x3 x4 h e
    rw [F_X7_fills_24] at e
    obtain ⟨_, _, _, e⟩ := rA_some e
    obtain ⟨_, _, _, e⟩ := rA_some e
    obtain ⟨_, _, e⟩ := ob_some e
    rcases it_ e with ⟨_, e⟩ | ⟨_, e⟩
    · exact hk82 _ _ _ _ e
    · obtain ⟨_, _, _, e⟩ := rA_some e
      obtain ⟨_, _, _, e⟩ := rA_some e
      obtain ⟨_, _, _, e⟩ := rA_some e
      obtain ⟨_, _, e⟩ := ob_some e
      obtain ⟨_, _, eh, e⟩ := wA_some e
      refine sm_A (k := 40) (by decide) eh ?_
      exact ih _ _ _ _ _ e
theorem w_X7_fills_2 {h' : Hp} : ∀ (n : Nat) (x1 : Int32) (x2 : Int32) (x3 : Int32) (h : Hp), F_X7_fills_2 n x1 x2 x3 h = some h' → Sm [] [] [40] [] h h' := by
  intro n
  induction n with
  | zero => intro x1 x2 x3 h e; cases e
  | succ n ih =>
    intro x1 x2 x3 h e
    rw [F_X7_fills_2] at e
    obtain ⟨_, _, _, e⟩ := rA_some e
    obtain ⟨_, _, _, e⟩ := rA_some e
    obtain ⟨_, _, e⟩ := ob_some e
    rcases it_ e with ⟨_, e⟩ | ⟨_, e⟩
    · cases e; exact sm_rf
    · exact (w_X7_fills_24 _ (w_X7_fills_82 _ ih) FU_) _ _ _ _ _ e
theorem w_X7_fills (x1 : Int32) (x2 : Int32) (h : Hp) (h' : Hp) (e : F_X7_fills x1 x2 h = some h') : Sm [] [] [40] [] h h' := by
  unfold F_X7_fills at e
  exact (w_X7_fills_2 FU_) _ _ _ _ e
theorem w_X7_adds (x1 : Int32) (x2 : Int32) (x3 : Int32) (x4 : Int32) (x5 : Int32) (x6 : Int32) (h : Hp) (h' : Hp) (e : F_X7_adds x1 x2 x3 x4 x5 x6 h = some h') : Sm [458] [460] [40, 42, 43, 44, 45, 46, 47] [] h h' := by
  unfold F_X7_adds at e
  obtain ⟨_, _, eh, e⟩ := wA_some e
  refine sm_A (k := 42) (by decide) eh ?_
  obtain ⟨_, _, eh, e⟩ := wA_some e
  refine sm_A (k := 43) (by decide) eh ?_
  obtain ⟨_, _, eh, e⟩ := wA_some e
  refine sm_A (k := 44) (by decide) eh ?_
  obtain ⟨_, _, eh, e⟩ := wA_some e
  refine sm_A (k := 45) (by decide) eh ?_
  obtain ⟨_, _, eh, e⟩ := wA_some e
  refine sm_A (k := 46) (by decide) eh ?_
  obtain ⟨_, _, eh, e⟩ := wA_some e
  refine sm_A (k := 47) (by decide) eh ?_
  obtain ⟨_, e1, e⟩ := ob_some e
  refine sm_C (w_X7_fills _ _ _ _ e1) (by decide) ?_
  obtain ⟨_, eh, e⟩ := bd_some e
  refine sm_J (k := 460) (by decide) eh ?_
  obtain ⟨_, eh, e⟩ := bd_some e
  refine sm_I (k := 458) (by decide) eh ?_
  cases e; exact sm_rf
theorem w_X7_place_146 {r : Int32} {h' : Hp} (x1 : Int32) (x2 : Int32) (x3 : Int32) (x4 : Int32) (x5 : Int32) (x6 : Int32) (h : Hp) (e : F_X7_place_146 x1 x2 x3 x4 x5 x6 h = some (r, h')) : Sm [458] [460] [38, 40, 42, 43, 44, 45, 46, 47] [] h h' := by
  unfold F_X7_place_146 at e
  rcases it_ e with ⟨_, e⟩ | ⟨_, e⟩
  · obtain ⟨⟨_, _⟩, e1, e⟩ := ob_some e
    refine sm_C (w_X7_refuse _ _ _ _ e1) (by decide) ?_
    cases e; exact sm_rf
  · obtain ⟨_, e1, e⟩ := ob_some e
    refine sm_C (w_X7_adds _ _ _ _ _ _ _ _ e1) (by decide) ?_
    cases e; exact sm_rf
theorem w_X7_place_140 {r : Int32} {h' : Hp} (k88 : Int32 → Int32 → Int32 → Int32 → Int32 → Int32 → Int32 → Int32 → Int32 → Hp → Option (Int32 × Hp)) (hk88 : ∀ (x1 : Int32) (x2 : Int32) (x3 : Int32) (x4 : Int32) (x5 : Int32) (x6 : Int32) (x7 : Int32) (x8 : Int32) (x9 : Int32) (h : Hp), k88 x1 x2 x3 x4 x5 x6 x7 x8 x9 h = some (r, h') → Sm [458] [460] [38, 40, 42, 43, 44, 45, 46, 47] [] h h') (x1 : Int32) (x2 : Int32) (x3 : Int32) (x4 : Int32) (x5 : Int32) (x6 : Int32) (x7 : Int32) (x8 : Int32) (x9 : Int32) (h : Hp) (e : F_X7_place_140 k88 x1 x2 x3 x4 x5 x6 x7 x8 x9 h = some (r, h')) : Sm [458] [460] [38, 40, 42, 43, 44, 45, 46, 47] [] h h' := by
  unfold F_X7_place_140 at e
  exact hk88 _ _ _ _ _ _ _ _ _ _ e
theorem w_X7_place_98 {r : Int32} {h' : Hp} (k140 : Int32 → Int32 → Int32 → Int32 → Int32 → Int32 → Int32 → Int32 → Int32 → Hp → Option (Int32 × Hp)) (hk140 : ∀ (x1 : Int32) (x2 : Int32) (x3 : Int32) (x4 : Int32) (x5 : Int32) (x6 : Int32) (x7 : Int32) (x8 : Int32) (x9 : Int32) (h : Hp), k140 x1 x2 x3 x4 x5 x6 x7 x8 x9 h = some (r, h') → Sm [458] [460] [38, 40, 42, 43, 44, 45, 46, 47] [] h h') : ∀ (n : Nat) (x1 : Int32) (x2 : Int32) (x3 : Int32) (x4 : Int32) (x5 : Int32) (x6 : Int32) (x7 : Int32) (x8 : Int32) (x9 : Int32) (x10 : Int32) (h : Hp), F_X7_place_98 n k140 x1 x2 x3 x4 x5 x6 x7 x8 x9 x10 h = some (r, h') → Sm [458] [460] [38, 40, 42, 43, 44, 45, 46, 47] [] h h' := by
  intro n
  induction n with
  | zero => intro x1 x2 x3 x4 x5 x6 x7 x8 x9 x10 h e; cases e
  | succ n ih =>
    intro x1 x2 x3 x4 x5 x6 x7 x8 x9 x10 h e
    rw [F_X7_place_98] at e
    rcases it_ e with ⟨_, e⟩ | ⟨_, e⟩
    · exact hk140 _ _ _ _ _ _ _ _ _ _ e
    · obtain ⟨_, _, e⟩ := ob_some e
      obtain ⟨_, _, _, e⟩ := rA_some e
      rcases it_ e with ⟨_, e⟩ | ⟨_, e⟩
      · exact ih _ _ _ _ _ _ _ _ _ _ _ e
      · obtain ⟨⟨_, _⟩, e1, e⟩ := ob_some e
        refine sm_C (w_X7_refuse _ _ _ _ e1) (by decide) ?_
        cases e; exact sm_rf
theorem w_X7_place_88 {r : Int32} {h' : Hp} (k146 : Int32 → Int32 → Int32 → Int32 → Int32 → Int32 → Hp → Option (Int32 × Hp)) (hk146 : ∀ (x1 : Int32) (x2 : Int32) (x3 : Int32) (x4 : Int32) (x5 : Int32) (x6 : Int32) (h : Hp), k146 x1 x2 x3 x4 x5 x6 h = some (r, h') → Sm [458] [460] [38, 40, 42, 43, 44, 45, 46, 47] [] h h') : ∀ (n : Nat) (x1 : Int32) (x2 : Int32) (x3 : Int32) (x4 : Int32) (x5 : Int32) (x6 : Int32) (x7 : Int32) (x8 : Int32) (x9 : Int32) (h : Hp), F_X7_place_88 n k146 x1 x2 x3 x4 x5 x6 x7 x8 x9 h = some (r, h') → Sm [458] [460] [38, 40, 42, 43, 44, 45, 46, 47] [] h h' := by
  intro n
  induction n with
  | zero => intro x1 x2 x3 x4 x5 x6 x7 x8 x9 h e; cases e
  | succ n ih =>
    intro x1 x2 x3 x4 x5 x6 x7 x8 x9 h e
    rw [F_X7_place_88] at e
    rcases it_ e with ⟨_, e⟩ | ⟨_, e⟩
    · exact hk146 _ _ _ _ _ _ _ e
    · exact (w_X7_place_98 _ (w_X7_place_140 _ ih) FU_) _ _ _ _ _ _ _ _ _ _ _ e
theorem w_X7_place (x1 : Int32) (x2 : Int32) (x3 : Int32) (x4 : Int32) (x5 : Int32) (x6 : Int32) (h : Hp) (r : Int32) (h' : Hp) (e : F_X7_place x1 x2 x3 x4 x5 x6 h = some (r, h')) : Sm [458] [460] [38, 40, 42, 43, 44, 45, 46, 47] [] h h' := by
  unfold F_X7_place at e
  obtain ⟨_, _, e⟩ := ob_some e
  rcases it_ e with ⟨_, e⟩ | ⟨_, e⟩
  · obtain ⟨⟨_, _⟩, e1, e⟩ := ob_some e
    refine sm_C (w_X7_refuse _ _ _ _ e1) (by decide) ?_
    cases e; exact sm_rf
  · obtain ⟨_, _, e⟩ := ob_some e
    rcases it_ e with ⟨_, e⟩ | ⟨_, e⟩
    · obtain ⟨⟨_, _⟩, e1, e⟩ := ob_some e
      refine sm_C (w_X7_refuse _ _ _ _ e1) (by decide) ?_
      cases e; exact sm_rf
    · obtain ⟨_, _, e⟩ := ob_some e
      rcases it_ e with ⟨_, e⟩ | ⟨_, e⟩
      · obtain ⟨⟨_, _⟩, e1, e⟩ := ob_some e
        refine sm_C (w_X7_refuse _ _ _ _ e1) (by decide) ?_
        cases e; exact sm_rf
      · obtain ⟨_, _, e⟩ := ob_some e
        rcases it_ e with ⟨_, e⟩ | ⟨_, e⟩
        · obtain ⟨⟨_, _⟩, e1, e⟩ := ob_some e
          refine sm_C (w_X7_refuse _ _ _ _ e1) (by decide) ?_
          cases e; exact sm_rf
        · obtain ⟨_, _, e⟩ := ob_some e
          obtain ⟨_, _, e⟩ := ob_some e
          rcases it_ e with ⟨_, e⟩ | ⟨_, e⟩
          · obtain ⟨⟨_, _⟩, e1, e⟩ := ob_some e
            refine sm_C (w_X7_refuse _ _ _ _ e1) (by decide) ?_
            cases e; exact sm_rf
          · rcases it_ e with ⟨_, e⟩ | ⟨_, e⟩
            · exact (w_X7_place_88 _ (w_X7_place_146) FU_) _ _ _ _ _ _ _ _ _ _ e
            · obtain ⟨⟨_, _⟩, e1, e⟩ := ob_some e
              refine sm_C (w_X7_refuse _ _ _ _ e1) (by decide) ?_
              cases e; exact sm_rf
theorem w_X7_take (x1 : Int32) (h : Hp) (r : Int32) (h' : Hp) (e : F_X7_take x1 h = some (r, h')) : Sm [] [460] [38, 40] [] h h' := by
  unfold F_X7_take at e
  obtain ⟨_, _, e⟩ := ob_some e
  rcases it_ e with ⟨_, e⟩ | ⟨_, e⟩
  · obtain ⟨⟨_, _⟩, e1, e⟩ := ob_some e
    refine sm_C (w_X7_refuse _ _ _ _ e1) (by decide) ?_
    cases e; exact sm_rf
  · obtain ⟨_, _, e⟩ := ob_some e
    rcases it_ e with ⟨_, e⟩ | ⟨_, e⟩
    · obtain ⟨⟨_, _⟩, e1, e⟩ := ob_some e
      refine sm_C (w_X7_refuse _ _ _ _ e1) (by decide) ?_
      cases e; exact sm_rf
    · obtain ⟨_, e1, e⟩ := ob_some e
      refine sm_C (w_X7_fills _ _ _ _ e1) (by decide) ?_
      obtain ⟨_, eh, e⟩ := bd_some e
      refine sm_J (k := 460) (by decide) eh ?_
      cases e; exact sm_rf
theorem w_X7_at (x1 : Int32) (x2 : Int32) (x3 : Int32) (h : Hp) (r : Int32) (h' : Hp) (e : F_X7_at x1 x2 x3 h = some (r, h')) : Sm [] [] [38] [] h h' := by
  unfold F_X7_at at e
  obtain ⟨_, _, e⟩ := ob_some e
  rcases it_ e with ⟨_, e⟩ | ⟨_, e⟩
  · obtain ⟨⟨_, _⟩, e1, e⟩ := ob_some e
    refine sm_C (w_X7_refuse _ _ _ _ e1) (by decide) ?_
    cases e; exact sm_rf
  · obtain ⟨_, _, e⟩ := ob_some e
    obtain ⟨_, _, _, e⟩ := rA_some e
    cases e; exact sm_rf
theorem w_X7_studs (x1 : Int32) (x2 : Int32) (h : Hp) (r : Int32) (h' : Hp) (e : F_X7_studs x1 x2 h = some (r, h')) : Sm [] [] [38] [] h h' := by
  unfold F_X7_studs at e
  obtain ⟨_, _, e⟩ := ob_some e
  rcases it_ e with ⟨_, e⟩ | ⟨_, e⟩
  · obtain ⟨⟨_, _⟩, e1, e⟩ := ob_some e
    refine sm_C (w_X7_refuse _ _ _ _ e1) (by decide) ?_
    cases e; exact sm_rf
  · obtain ⟨_, _, e⟩ := ob_some e
    rcases it_ e with ⟨_, e⟩ | ⟨_, e⟩
    · obtain ⟨⟨_, _⟩, e1, e⟩ := ob_some e
      refine sm_C (w_X7_refuse _ _ _ _ e1) (by decide) ?_
      cases e; exact sm_rf
    · rcases it_ e with ⟨_, e⟩ | ⟨_, e⟩
      · obtain ⟨⟨_, _⟩, e1, e⟩ := ob_some e
        refine sm_C (w_X7_refuse _ _ _ _ e1) (by decide) ?_
        cases e; exact sm_rf
      · obtain ⟨_, _, e⟩ := ob_some e
        rcases it_ e with ⟨_, e⟩ | ⟨_, e⟩
        · obtain ⟨⟨_, _⟩, e1, e⟩ := ob_some e
          refine sm_C (w_X7_refuse _ _ _ _ e1) (by decide) ?_
          cases e; exact sm_rf
        · obtain ⟨_, _, e⟩ := ob_some e
          rcases it_ e with ⟨_, e⟩ | ⟨_, e⟩
          · obtain ⟨⟨_, _⟩, e1, e⟩ := ob_some e
            refine sm_C (w_X7_refuse _ _ _ _ e1) (by decide) ?_
            cases e; exact sm_rf
          · obtain ⟨_, _, e⟩ := ob_some e
            cases e; exact sm_rf
theorem w_X7_links_59 {h' : Hp} (k2 : Int32 → Hp → Option Hp) (hk2 : ∀ (x1 : Int32) (h : Hp), k2 x1 h = some h' → Sm [] [] [] [48] h h') (x1 : Int32) (h : Hp) (e : F_X7_links_59 k2 x1 h = some h') : Sm [] [] [] [48] h h' := by
  unfold F_X7_links_59 at e
  exact hk2 _ _ e
theorem w_X7_links_53 {h' : Hp} (k19 : Int32 → Int32 → Hp → Option Hp) (hk19 : ∀ (x1 : Int32) (x2 : Int32) (h : Hp), k19 x1 x2 h = some h' → Sm [] [] [] [48] h h') (x1 : Int32) (x2 : Int32) (h : Hp) (e : F_X7_links_53 k19 x1 x2 h = some h') : Sm [] [] [] [48] h h' := by
  unfold F_X7_links_53 at e
  exact hk19 _ _ _ e
theorem w_X7_links_19 {h' : Hp} (k59 : Int32 → Hp → Option Hp) (hk59 : ∀ (x1 : Int32) (h : Hp), k59 x1 h = some h' → Sm [] [] [] [48] h h') : ∀ (n : Nat) (x1 : Int32) (x2 : Int32) (h : Hp), F_X7_links_19 n k59 x1 x2 h = some h' → Sm [] [] [] [48] h h' := by
  intro n
  induction n with
  | zero => intro x1 x2 h e; cases e
  | succ n ih =>
    intro x1 x2 h e
    rw [F_X7_links_19] at e
    rcases it_ e with ⟨_, e⟩ | ⟨_, e⟩
    · exact hk59 _ _ e
    · rcases it_ e with ⟨_, e⟩ | ⟨_, e⟩
      · exact (w_X7_links_53 _ ih) _ _ _ e
      · obtain ⟨_, _, e⟩ := ob_some e
        rcases it_ e with ⟨_, e⟩ | ⟨_, e⟩
        · exact (w_X7_links_53 _ ih) _ _ _ e
        · obtain ⟨_, _, _, e⟩ := rL_some e
          obtain ⟨_, _, eh, e⟩ := wL_some e
          refine sm_L (k := 48) (by decide) eh ?_
          exact (w_X7_links_53 _ ih) _ _ _ e
theorem w_X7_links_2 {h' : Hp} : ∀ (n : Nat) (x1 : Int32) (h : Hp), F_X7_links_2 n x1 h = some h' → Sm [] [] [] [48] h h' := by
  intro n
  induction n with
  | zero => intro x1 h e; cases e
  | succ n ih =>
    intro x1 h e
    rw [F_X7_links_2] at e
    rcases it_ e with ⟨_, e⟩ | ⟨_, e⟩
    · cases e; exact sm_rf
    · obtain ⟨_, _, eh, e⟩ := wL_some e
      refine sm_L (k := 48) (by decide) eh ?_
      exact (w_X7_links_19 _ (w_X7_links_59 _ ih) FU_) _ _ _ e
theorem w_X7_links (h : Hp) (h' : Hp) (e : F_X7_links  h = some h') : Sm [] [] [] [48] h h' := by
  unfold F_X7_links at e
  exact (w_X7_links_2 FU_) _ _ e
theorem w_X7_stands_456 {r : Int32} {h' : Hp} (x7 : Int32) (h : Hp) (e : F_X7_stands_456 x7 h = some (r, h')) : Sm [] [] [49, 50, 51, 52] [] h h' := by
  unfold F_X7_stands_456 at e
  rcases it_ e with ⟨_, e⟩ | ⟨_, e⟩
  · cases e; exact sm_rf
  · cases e; exact sm_rf
theorem w_X7_stands_450 {r : Int32} {h' : Hp} (k345 : Int64 → Int64 → Int32 → Int64 → Int32 → Hp → Option (Int32 × Hp)) (hk345 : ∀ (x3 : Int64) (x5 : Int64) (x7 : Int32) (x8 : Int64) (x10 : Int32) (h : Hp), k345 x3 x5 x7 x8 x10 h = some (r, h') → Sm [] [] [49, 50, 51, 52] [] h h') (x3 : Int64) (x5 : Int64) (x7 : Int32) (x8 : Int64) (x10 : Int32) (h : Hp) (e : F_X7_stands_450 k345 x3 x5 x7 x8 x10 h = some (r, h')) : Sm [] [] [49, 50, 51, 52] [] h h' := by
  unfold F_X7_stands_450 at e
  exact hk345 _ _ _ _ _ _ e
theorem w_X7_stands_444 {r : Int32} {h' : Hp} (k355 : Int64 → Int64 → Int32 → Int64 → Int32 → Int32 → Hp → Option (Int32 × Hp)) (hk355 : ∀ (x3 : Int64) (x5 : Int64) (x7 : Int32) (x8 : Int64) (x10 : Int32) (x11 : Int32) (h : Hp), k355 x3 x5 x7 x8 x10 x11 h = some (r, h') → Sm [] [] [49, 50, 51, 52] [] h h') (x3 : Int64) (x5 : Int64) (x7 : Int32) (x8 : Int64) (x10 : Int32) (x11 : Int32) (h : Hp) (e : F_X7_stands_444 k355 x3 x5 x7 x8 x10 x11 h = some (r, h')) : Sm [] [] [49, 50, 51, 52] [] h h' := by
  unfold F_X7_stands_444 at e
  exact hk355 _ _ _ _ _ _ _ e
theorem w_X7_stands_355 {r : Int32} {h' : Hp} (k450 : Int64 → Int64 → Int32 → Int64 → Int32 → Hp → Option (Int32 × Hp)) (hk450 : ∀ (x3 : Int64) (x5 : Int64) (x7 : Int32) (x8 : Int64) (x10 : Int32) (h : Hp), k450 x3 x5 x7 x8 x10 h = some (r, h') → Sm [] [] [49, 50, 51, 52] [] h h') : ∀ (n : Nat) (x3 : Int64) (x5 : Int64) (x7 : Int32) (x8 : Int64) (x10 : Int32) (x11 : Int32) (h : Hp), F_X7_stands_355 n k450 x3 x5 x7 x8 x10 x11 h = some (r, h') → Sm [] [] [49, 50, 51, 52] [] h h' := by
  intro n
  induction n with
  | zero => intro x3 x5 x7 x8 x10 x11 h e; cases e
  | succ n ih =>
    intro x3 x5 x7 x8 x10 x11 h e
    rw [F_X7_stands_355] at e
    rcases it_ e with ⟨_, e⟩ | ⟨_, e⟩
    · exact hk450 _ _ _ _ _ _ e
    · obtain ⟨_, _, e⟩ := ob_some e
      rcases it_ e with ⟨_, e⟩ | ⟨_, e⟩
      · exact (w_X7_stands_444 _ ih) _ _ _ _ _ _ _ e
      · obtain ⟨_, _, _, e⟩ := rA_some e
        obtain ⟨_, _, _, e⟩ := rA_some e
        obtain ⟨_, _, _, e⟩ := rA_some e
        obtain ⟨_, _, _, e⟩ := rA_some e
        obtain ⟨_, _, _, e⟩ := rA_some e
        obtain ⟨_, _, _, e⟩ := rA_some e
        rcases it_ e with ⟨_, e⟩ | ⟨_, e⟩
        · exact (w_X7_stands_444 _ ih) _ _ _ _ _ _ _ e
        · cases e; exact sm_rf
theorem w_X7_stands_345 {r : Int32} {h' : Hp} (k456 : Int32 → Hp → Option (Int32 × Hp)) (hk456 : ∀ (x7 : Int32) (h : Hp), k456 x7 h = some (r, h') → Sm [] [] [49, 50, 51, 52] [] h h') : ∀ (n : Nat) (x3 : Int64) (x5 : Int64) (x7 : Int32) (x8 : Int64) (x10 : Int32) (h : Hp), F_X7_stands_345 n k456 x3 x5 x7 x8 x10 h = some (r, h') → Sm [] [] [49, 50, 51, 52] [] h h' := by
  intro n
  induction n with
  | zero => intro x3 x5 x7 x8 x10 h e; cases e
  | succ n ih =>
    intro x3 x5 x7 x8 x10 h e
    rw [F_X7_stands_345] at e
    rcases it_ e with ⟨_, e⟩ | ⟨_, e⟩
    · exact hk456 _ _ e
    · exact (w_X7_stands_355 _ (w_X7_stands_450 _ ih) FU_) _ _ _ _ _ _ _ e
theorem w_X7_stands_330 {r : Int32} {h' : Hp} (x1 : Int64) (x3 : Int64) (x5 : Int64) (x7 : Int32) (h : Hp) (e : F_X7_stands_330 x1 x3 x5 x7 h = some (r, h')) : Sm [] [] [49, 50, 51, 52] [] h h' := by
  unfold F_X7_stands_330 at e
  obtain ⟨_, _, e⟩ := ob_some e
  obtain ⟨_, _, e⟩ := bd_some e
  exact (w_X7_stands_345 _ (w_X7_stands_456) FU_) _ _ _ _ _ _ e
theorem w_X7_stands_324 {r : Int32} {h' : Hp} (k251 : Int64 → Int64 → Int64 → Int32 → Int32 → Hp → Option (Int32 × Hp)) (hk251 : ∀ (x1 : Int64) (x3 : Int64) (x5 : Int64) (x7 : Int32) (x8 : Int32) (h : Hp), k251 x1 x3 x5 x7 x8 h = some (r, h') → Sm [] [] [49, 50, 51, 52] [] h h') (x1 : Int64) (x3 : Int64) (x5 : Int64) (x7 : Int32) (x8 : Int32) (h : Hp) (e : F_X7_stands_324 k251 x1 x3 x5 x7 x8 h = some (r, h')) : Sm [] [] [49, 50, 51, 52] [] h h' := by
  unfold F_X7_stands_324 at e
  exact hk251 _ _ _ _ _ _ e
theorem w_X7_stands_251 {r : Int32} {h' : Hp} (k330 : Int64 → Int64 → Int64 → Int32 → Hp → Option (Int32 × Hp)) (hk330 : ∀ (x1 : Int64) (x3 : Int64) (x5 : Int64) (x7 : Int32) (h : Hp), k330 x1 x3 x5 x7 h = some (r, h') → Sm [] [] [49, 50, 51, 52] [] h h') : ∀ (n : Nat) (x1 : Int64) (x3 : Int64) (x5 : Int64) (x7 : Int32) (x8 : Int32) (h : Hp), F_X7_stands_251 n k330 x1 x3 x5 x7 x8 h = some (r, h') → Sm [] [] [49, 50, 51, 52] [] h h' := by
  intro n
  induction n with
  | zero => intro x1 x3 x5 x7 x8 h e; cases e
  | succ n ih =>
    intro x1 x3 x5 x7 x8 h e
    rw [F_X7_stands_251] at e
    rcases it_ e with ⟨_, e⟩ | ⟨_, e⟩
    · exact hk330 _ _ _ _ _ e
    · obtain ⟨_, _, _, e⟩ := rA_some e
      rcases it_ e with ⟨_, e⟩ | ⟨_, e⟩
      · obtain ⟨_, _, _, e⟩ := rA_some e
        obtain ⟨_, _, eh, e⟩ := wA_some e
        refine sm_A (k := 51) (by decide) eh ?_
        obtain ⟨_, _, eh, e⟩ := wA_some e
        refine sm_A (k := 52) (by decide) eh ?_
        obtain ⟨_, _, _, e⟩ := rA_some e
        obtain ⟨_, _, eh, e⟩ := wA_some e
        refine sm_A (k := 51) (by decide) eh ?_
        obtain ⟨_, _, eh, e⟩ := wA_some e
        refine sm_A (k := 52) (by decide) eh ?_
        exact (w_X7_stands_324 _ ih) _ _ _ _ _ _ e
      · exact (w_X7_stands_324 _ ih) _ _ _ _ _ _ e
theorem w_X7_stands_245 {r : Int32} {h' : Hp} (x1 : Int64) (x3 : Int64) (x5 : Int64) (h : Hp) (e : F_X7_stands_245 x1 x3 x5 h = some (r, h')) : Sm [] [] [49, 50, 51, 52] [] h h' := by
  unfold F_X7_stands_245 at e
  exact (w_X7_stands_251 _ (w_X7_stands_330) FU_) _ _ _ _ _ _ e
theorem w_X7_stands_233 {r : Int32} {h' : Hp} (k37 : Int64 → Int64 → Int64 → Int64 → Hp → Option (Int32 × Hp)) (hk37 : ∀ (x1 : Int64) (x3 : Int64) (x5 : Int64) (x7 : Int64) (h : Hp), k37 x1 x3 x5 x7 h = some (r, h') → Sm [] [] [49, 50, 51, 52] [] h h') (x1 : Int64) (x3 : Int64) (x5 : Int64) (x7 : Int64) (h : Hp) (e : F_X7_stands_233 k37 x1 x3 x5 x7 h = some (r, h')) : Sm [] [] [49, 50, 51, 52] [] h h' := by
  unfold F_X7_stands_233 at e
  obtain ⟨_, _, e⟩ := bd_some e
  exact hk37 _ _ _ _ _ e
theorem w_X7_stands_155 {r : Int32} {h' : Hp} (k233 : Int64 → Int64 → Int64 → Int64 → Hp → Option (Int32 × Hp)) (hk233 : ∀ (x1 : Int64) (x3 : Int64) (x5 : Int64) (x7 : Int64) (h : Hp), k233 x1 x3 x5 x7 h = some (r, h') → Sm [] [] [49, 50, 51, 52] [] h h') : ∀ (n : Nat) (x1 : Int64) (x3 : Int64) (x5 : Int64) (x7 : Int64) (x9 : Int32) (x10 : Int32) (x11 : Int32) (x12 : Int32) (h : Hp), F_X7_stands_155 n k233 x1 x3 x5 x7 x9 x10 x11 x12 h = some (r, h') → Sm [] [] [49, 50, 51, 52] [] h h' := by
  intro n
  induction n with
  | zero => intro x1 x3 x5 x7 x9 x10 x11 x12 h e; cases e
  | succ n ih =>
    intro x1 x3 x5 x7 x9 x10 x11 x12 h e
    rw [F_X7_stands_155] at e
    rcases it_ e with ⟨_, e⟩ | ⟨_, e⟩
    · exact hk233 _ _ _ _ _ e
    · obtain ⟨_, _, _, e⟩ := rA_some e
      obtain ⟨_, _, _, e⟩ := rA_some e
      obtain ⟨_, _, _, e⟩ := rA_some e
      obtain ⟨_, _, eh, e⟩ := wA_some e
      refine sm_A (k := 49) (by decide) eh ?_
      obtain ⟨_, _, _, e⟩ := rA_some e
      obtain ⟨_, _, _, e⟩ := rA_some e
      obtain ⟨_, _, eh, e⟩ := wA_some e
      refine sm_A (k := 50) (by decide) eh ?_
      exact ih _ _ _ _ _ _ _ _ _ e
theorem w_X7_stands_37 {r : Int32} {h' : Hp} (k245 : Int64 → Int64 → Int64 → Hp → Option (Int32 × Hp)) (hk245 : ∀ (x1 : Int64) (x3 : Int64) (x5 : Int64) (h : Hp), k245 x1 x3 x5 h = some (r, h') → Sm [] [] [49, 50, 51, 52] [] h h') : ∀ (n : Nat) (x1 : Int64) (x3 : Int64) (x5 : Int64) (x7 : Int64) (h : Hp), F_X7_stands_37 n k245 x1 x3 x5 x7 h = some (r, h') → Sm [] [] [49, 50, 51, 52] [] h h' := by
  intro n
  induction n with
  | zero => intro x1 x3 x5 x7 h e; cases e
  | succ n ih =>
    intro x1 x3 x5 x7 h e
    rw [F_X7_stands_37] at e
    rcases it_ e with ⟨_, e⟩ | ⟨_, e⟩
    · exact hk245 _ _ _ _ e
    · obtain ⟨_, _, e⟩ := ob_some e
      obtain ⟨_, _, _, e⟩ := rA_some e
      obtain ⟨_, _, _, e⟩ := rA_some e
      obtain ⟨_, _, e⟩ := ob_some e
      obtain ⟨_, _, _, e⟩ := rA_some e
      obtain ⟨_, _, _, e⟩ := rA_some e
      obtain ⟨_, _, e⟩ := ob_some e
      obtain ⟨_, _, _, e⟩ := rA_some e
      obtain ⟨_, _, e⟩ := bd_some e
      obtain ⟨_, _, _, e⟩ := rA_some e
      obtain ⟨_, _, e⟩ := bd_some e
      obtain ⟨_, _, _, e⟩ := rA_some e
      rcases it_ e with ⟨_, e⟩ | ⟨_, e⟩
      · exact (w_X7_stands_155 _ (w_X7_stands_233 _ ih) FU_) _ _ _ _ _ _ _ _ _ e
      · exact (w_X7_stands_233 _ ih) _ _ _ _ _ e
theorem w_X7_stands_29 {r : Int32} {h' : Hp} (x1 : Int64) (h : Hp) (e : F_X7_stands_29 x1 h = some (r, h')) : Sm [] [] [49, 50, 51, 52] [] h h' := by
  unfold F_X7_stands_29 at e
  exact (w_X7_stands_37 _ (w_X7_stands_245) FU_) _ _ _ _ _ e
theorem w_X7_stands_2 {r : Int32} {h' : Hp} (k29 : Int64 → Hp → Option (Int32 × Hp)) (hk29 : ∀ (x1 : Int64) (h : Hp), k29 x1 h = some (r, h') → Sm [] [] [49, 50, 51, 52] [] h h') : ∀ (n : Nat) (x1 : Int64) (x3 : Int32) (h : Hp), F_X7_stands_2 n k29 x1 x3 h = some (r, h') → Sm [] [] [49, 50, 51, 52] [] h h' := by
  intro n
  induction n with
  | zero => intro x1 x3 h e; cases e
  | succ n ih =>
    intro x1 x3 h e
    rw [F_X7_stands_2] at e
    rcases it_ e with ⟨_, e⟩ | ⟨_, e⟩
    · exact hk29 _ _ e
    · obtain ⟨_, _, eh, e⟩ := wA_some e
      refine sm_A (k := 49) (by decide) eh ?_
      obtain ⟨_, _, eh, e⟩ := wA_some e
      refine sm_A (k := 50) (by decide) eh ?_
      exact ih _ _ _ e
theorem w_X7_stands (x1 : Int64) (h : Hp) (r : Int32) (h' : Hp) (e : F_X7_stands x1 h = some (r, h')) : Sm [] [] [49, 50, 51, 52] [] h h' := by
  unfold F_X7_stands at e
  exact (w_X7_stands_2 _ (w_X7_stands_29) FU_) _ _ _ e
theorem w_X7_isSound_83 {r : Int32} {h' : Hp} (k2 : Int64 → Hp → Option (Int32 × Hp)) (hk2 : ∀ (x3 : Int64) (h : Hp), k2 x3 h = some (r, h') → Sm [] [] [49, 50, 51, 52] [] h h') (x3 : Int64) (h : Hp) (e : F_X7_isSound_83 k2 x3 h = some (r, h')) : Sm [] [] [49, 50, 51, 52] [] h h' := by
  unfold F_X7_isSound_83 at e
  exact hk2 _ _ e
theorem w_X7_isSound_48 {r : Int32} {h' : Hp} (k83 : Int64 → Hp → Option (Int32 × Hp)) (hk83 : ∀ (x3 : Int64) (h : Hp), k83 x3 h = some (r, h') → Sm [] [] [49, 50, 51, 52] [] h h') : ∀ (n : Nat) (x3 : Int64) (x5 : Int64) (x7 : Int64) (h : Hp), F_X7_isSound_48 n k83 x3 x5 x7 h = some (r, h') → Sm [] [] [49, 50, 51, 52] [] h h' := by
  intro n
  induction n with
  | zero => intro x3 x5 x7 h e; cases e
  | succ n ih =>
    intro x3 x5 x7 h e
    rw [F_X7_isSound_48] at e
    rcases it_ e with ⟨_, e⟩ | ⟨_, e⟩
    · exact hk83 _ _ e
    · obtain ⟨_, _, e⟩ := ob_some e
      obtain ⟨_, _, e⟩ := ob_some e
      rcases it_ e with ⟨_, e⟩ | ⟨_, e⟩
      · obtain ⟨_, _, e⟩ := bd_some e
        exact ih _ _ _ _ e
      · cases e; exact sm_rf
theorem w_X7_isSound_2 {r : Int32} {h' : Hp} : ∀ (n : Nat) (x3 : Int64) (h : Hp), F_X7_isSound_2 n x3 h = some (r, h') → Sm [] [] [49, 50, 51, 52] [] h h' := by
  intro n
  induction n with
  | zero => intro x3 h e; cases e
  | succ n ih =>
    intro x3 h e
    rw [F_X7_isSound_2] at e
    rcases it_ e with ⟨_, e⟩ | ⟨_, e⟩
    · cases e; exact sm_rf
    · obtain ⟨_, _, e⟩ := ob_some e
      obtain ⟨_, _, e⟩ := bd_some e
      obtain ⟨_, _, e⟩ := ob_some e
      rcases it_ e with ⟨_, e⟩ | ⟨_, e⟩
      · obtain ⟨⟨_, _⟩, e1, e⟩ := ob_some e
        refine sm_C (w_X7_stands _ _ _ _ e1) (by decide) ?_
        rcases it_ e with ⟨_, e⟩ | ⟨_, e⟩
        · cases e; exact sm_rf
        · exact (w_X7_isSound_48 _ (w_X7_isSound_83 _ ih) FU_) _ _ _ _ e
      · cases e; exact sm_rf
theorem w_X7_isSound (x1 : Int64) (h : Hp) (r : Int32) (h' : Hp) (e : F_X7_isSound x1 h = some (r, h')) : Sm [] [] [49, 50, 51, 52] [] h h' := by
  unfold F_X7_isSound at e
  exact (w_X7_isSound_2 FU_) _ _ e
theorem w_X7_findPieces_14 {h' : Hp} : ∀ (n : Nat) (x1 : Int64) (h : Hp), F_X7_findPieces_14 n x1 h = some h' → Sm [467] [] [] [48, 53] h h' := by
  intro n
  induction n with
  | zero => intro x1 h e; cases e
  | succ n ih =>
    intro x1 h e
    rw [F_X7_findPieces_14] at e
    rcases it_ e with ⟨_, e⟩ | ⟨_, e⟩
    · cases e; exact sm_rf
    · obtain ⟨_, _, e⟩ := ob_some e
      obtain ⟨_, _, eh, e⟩ := wL_some e
      refine sm_L (k := 53) (by decide) eh ?_
      obtain ⟨_, _, _, e⟩ := rL_some e
      obtain ⟨_, _, e⟩ := bd_some e
      obtain ⟨_, eh, e⟩ := bd_some e
      refine sm_I (k := 467) (by decide) eh ?_
      exact ih _ _ e
theorem w_X7_findPieces (h : Hp) (h' : Hp) (e : F_X7_findPieces  h = some h') : Sm [467] [] [] [48, 53] h h' := by
  unfold F_X7_findPieces at e
  obtain ⟨_, e1, e⟩ := ob_some e
  refine sm_C (w_X7_links _ _ e1) (by decide) ?_
  obtain ⟨_, eh, e⟩ := bd_some e
  refine sm_I (k := 467) (by decide) eh ?_
  exact (w_X7_findPieces_14 FU_) _ _ e
theorem w_X7_pieces (h : Hp) (r : Int32) (h' : Hp) (e : F_X7_pieces  h = some (r, h')) : Sm [467] [] [] [48, 53] h h' := by
  unfold F_X7_pieces at e
  obtain ⟨_, e1, e⟩ := ob_some e
  refine sm_C (w_X7_findPieces _ _ e1) (by decide) ?_
  cases e; exact sm_rf
theorem w_X7_piece (x1 : Int32) (h : Hp) (r : Int32) (h' : Hp) (e : F_X7_piece x1 h = some (r, h')) : Sm [467] [] [38] [48, 53] h h' := by
  unfold F_X7_piece at e
  obtain ⟨_, _, e⟩ := ob_some e
  rcases it_ e with ⟨_, e⟩ | ⟨_, e⟩
  · obtain ⟨⟨_, _⟩, e1, e⟩ := ob_some e
    refine sm_C (w_X7_refuse _ _ _ _ e1) (by decide) ?_
    cases e; exact sm_rf
  · obtain ⟨_, _, e⟩ := ob_some e
    rcases it_ e with ⟨_, e⟩ | ⟨_, e⟩
    · obtain ⟨⟨_, _⟩, e1, e⟩ := ob_some e
      refine sm_C (w_X7_refuse _ _ _ _ e1) (by decide) ?_
      cases e; exact sm_rf
    · obtain ⟨_, e1, e⟩ := ob_some e
      refine sm_C (w_X7_findPieces _ _ e1) (by decide) ?_
      obtain ⟨_, _, e⟩ := ob_some e
      cases e; exact sm_rf
theorem w_X7_pieceOf (x1 : Int32) (x2 : Int32) (h : Hp) (r : Int32) (h' : Hp) (e : F_X7_pieceOf x1 x2 h = some (r, h')) : Sm [467] [] [38, 49, 50, 51, 52] [48, 53] h h' := by
  unfold F_X7_pieceOf at e
  obtain ⟨_, e1, e⟩ := ob_some e
  refine sm_C (w_X7_findPieces _ _ e1) (by decide) ?_
  obtain ⟨_, _, e⟩ := ob_some e
  rcases it_ e with ⟨_, e⟩ | ⟨_, e⟩
  · obtain ⟨⟨_, _⟩, e1, e⟩ := ob_some e
    refine sm_C (w_X7_refuse _ _ _ _ e1) (by decide) ?_
    cases e; exact sm_rf
  · rcases it_ e with ⟨_, e⟩ | ⟨_, e⟩
    · obtain ⟨_, _, _, e⟩ := rL_some e
      obtain ⟨_, _, e⟩ := ob_some e
      cases e; exact sm_rf
    · rcases it_ e with ⟨_, e⟩ | ⟨_, e⟩
      · obtain ⟨_, _, _, e⟩ := rL_some e
        obtain ⟨_, _, e⟩ := ob_some e
        rcases it_ e with ⟨_, e⟩ | ⟨_, e⟩
        · cases e; exact sm_rf
        · cases e; exact sm_rf
      · rcases it_ e with ⟨_, e⟩ | ⟨_, e⟩
        · obtain ⟨_, _, _, e⟩ := rL_some e
          obtain ⟨⟨_, _⟩, e1, e⟩ := ob_some e
          refine sm_C (w_X7_stands _ _ _ _ e1) (by decide) ?_
          rcases it_ e with ⟨_, e⟩ | ⟨_, e⟩
          · cases e; exact sm_rf
          · cases e; exact sm_rf
        · rcases it_ e with ⟨_, e⟩ | ⟨_, e⟩
          · obtain ⟨_, _, _, e⟩ := rL_some e
            obtain ⟨_, _, e⟩ := ob_some e
            cases e; exact sm_rf
          · obtain ⟨⟨_, _⟩, e1, e⟩ := ob_some e
            refine sm_C (w_X7_refuse _ _ _ _ e1) (by decide) ?_
            cases e; exact sm_rf
theorem w_X7_key (x1 : Int32) (h : Hp) (r : Int32) (h' : Hp) (e : F_X7_key x1 h = some (r, h')) : Sm [467] [] [38] [48, 53] h h' := by
  unfold F_X7_key at e
  obtain ⟨_, _, e⟩ := ob_some e
  rcases it_ e with ⟨_, e⟩ | ⟨_, e⟩
  · obtain ⟨⟨_, _⟩, e1, e⟩ := ob_some e
    refine sm_C (w_X7_refuse _ _ _ _ e1) (by decide) ?_
    cases e; exact sm_rf
  · obtain ⟨_, _, e⟩ := ob_some e
    rcases it_ e with ⟨_, e⟩ | ⟨_, e⟩
    · obtain ⟨⟨_, _⟩, e1, e⟩ := ob_some e
      refine sm_C (w_X7_refuse _ _ _ _ e1) (by decide) ?_
      cases e; exact sm_rf
    · obtain ⟨_, e1, e⟩ := ob_some e
      refine sm_C (w_X7_findPieces _ _ e1) (by decide) ?_
      obtain ⟨_, _, e⟩ := ob_some e
      obtain ⟨_, _, _, e⟩ := rL_some e
      obtain ⟨_, _, e⟩ := ob_some e
      rcases it_ e with ⟨_, e⟩ | ⟨_, e⟩
      · cases e; exact sm_rf
      · cases e; exact sm_rf
theorem w_X7_weak (x1 : Int32) (h : Hp) (r : Int32) (h' : Hp) (e : F_X7_weak x1 h = some (r, h')) : Sm [467] [] [38] [48, 53] h h' := by
  unfold F_X7_weak at e
  obtain ⟨_, _, e⟩ := ob_some e
  rcases it_ e with ⟨_, e⟩ | ⟨_, e⟩
  · obtain ⟨⟨_, _⟩, e1, e⟩ := ob_some e
    refine sm_C (w_X7_refuse _ _ _ _ e1) (by decide) ?_
    cases e; exact sm_rf
  · obtain ⟨_, _, e⟩ := ob_some e
    rcases it_ e with ⟨_, e⟩ | ⟨_, e⟩
    · obtain ⟨⟨_, _⟩, e1, e⟩ := ob_some e
      refine sm_C (w_X7_refuse _ _ _ _ e1) (by decide) ?_
      cases e; exact sm_rf
    · obtain ⟨_, e1, e⟩ := ob_some e
      refine sm_C (w_X7_findPieces _ _ e1) (by decide) ?_
      obtain ⟨_, _, e⟩ := ob_some e
      obtain ⟨_, _, _, e⟩ := rL_some e
      obtain ⟨_, _, e⟩ := ob_some e
      cases e; exact sm_rf
theorem w_X7_sound (h : Hp) (r : Int32) (h' : Hp) (e : F_X7_sound  h = some (r, h')) : Sm [] [] [49, 50, 51, 52] [48] h h' := by
  unfold F_X7_sound at e
  obtain ⟨_, e1, e⟩ := ob_some e
  refine sm_C (w_X7_links _ _ e1) (by decide) ?_
  obtain ⟨⟨_, _⟩, e1, e⟩ := ob_some e
  refine sm_C (w_X7_isSound _ _ _ _ e1) (by decide) ?_
  rcases it_ e with ⟨_, e⟩ | ⟨_, e⟩
  · cases e; exact sm_rf
  · cases e; exact sm_rf
theorem w_X7_grip (x1 : Int32) (h : Hp) (r : Int32) (h' : Hp) (e : F_X7_grip x1 h = some (r, h')) : Sm [459] [] [38] [] h h' := by
  unfold F_X7_grip at e
  obtain ⟨_, _, e⟩ := ob_some e
  rcases it_ e with ⟨_, e⟩ | ⟨_, e⟩
  · obtain ⟨_, eh, e⟩ := bd_some e
    refine sm_I (k := 459) (by decide) eh ?_
    cases e; exact sm_rf
  · obtain ⟨⟨_, _⟩, e1, e⟩ := ob_some e
    refine sm_C (w_X7_refuse _ _ _ _ e1) (by decide) ?_
    cases e; exact sm_rf
theorem w_X7_fit_173 {r : Int32} {h' : Hp} (k19 : Int32 → Int32 → Int32 → Hp → Option (Int32 × Hp)) (hk19 : ∀ (x1 : Int32) (x2 : Int32) (x3 : Int32) (h : Hp), k19 x1 x2 x3 h = some (r, h') → Sm [] [] [38] [] h h') (x1 : Int32) (x3 : Int32) (s0 : Int32) (s1 : Int32) (h : Hp) (e : F_X7_fit_173 k19 x1 x3 s0 s1 h = some (r, h')) : Sm [] [] [38] [] h h' := by
  unfold F_X7_fit_173 at e
  exact hk19 _ _ _ _ e
theorem w_X7_fit_160 {r : Int32} {h' : Hp} (k19 : Int32 → Int32 → Int32 → Hp → Option (Int32 × Hp)) (hk19 : ∀ (x1 : Int32) (x2 : Int32) (x3 : Int32) (h : Hp), k19 x1 x2 x3 h = some (r, h') → Sm [] [] [38] [] h h') (x1 : Int32) (x2 : Int32) (x3 : Int32) (s0 : Int32) (h : Hp) (e : F_X7_fit_160 k19 x1 x2 x3 s0 h = some (r, h')) : Sm [] [] [38] [] h h' := by
  unfold F_X7_fit_160 at e
  rcases it_ e with ⟨_, e⟩ | ⟨_, e⟩
  · exact (w_X7_fit_173 _ hk19) _ _ _ _ _ e
  · exact (w_X7_fit_173 _ hk19) _ _ _ _ _ e
theorem w_X7_fit_159 {r : Int32} {h' : Hp} (k19 : Int32 → Int32 → Int32 → Hp → Option (Int32 × Hp)) (hk19 : ∀ (x1 : Int32) (x2 : Int32) (x3 : Int32) (h : Hp), k19 x1 x2 x3 h = some (r, h') → Sm [] [] [38] [] h h') (x1 : Int32) (x2 : Int32) (x3 : Int32) (h : Hp) (e : F_X7_fit_159 k19 x1 x2 x3 h = some (r, h')) : Sm [] [] [38] [] h h' := by
  unfold F_X7_fit_159 at e
  exact (w_X7_fit_160 _ hk19) _ _ _ _ _ e
theorem w_X7_fit_141 {r : Int32} {h' : Hp} (k19 : Int32 → Int32 → Int32 → Hp → Option (Int32 × Hp)) (hk19 : ∀ (x1 : Int32) (x2 : Int32) (x3 : Int32) (h : Hp), k19 x1 x2 x3 h = some (r, h') → Sm [] [] [38] [] h h') (x1 : Int32) (x2 : Int32) (x3 : Int32) (h : Hp) (e : F_X7_fit_141 k19 x1 x2 x3 h = some (r, h')) : Sm [] [] [38] [] h h' := by
  unfold F_X7_fit_141 at e
  exact (w_X7_fit_160 _ hk19) _ _ _ _ _ e
theorem w_X7_fit_76 {r : Int32} {h' : Hp} (k19 : Int32 → Int32 → Int32 → Hp → Option (Int32 × Hp)) (hk19 : ∀ (x1 : Int32) (x2 : Int32) (x3 : Int32) (h : Hp), k19 x1 x2 x3 h = some (r, h') → Sm [] [] [38] [] h h') (x1 : Int32) (x2 : Int32) (x3 : Int32) (h : Hp) (e : F_X7_fit_76 k19 x1 x2 x3 h = some (r, h')) : Sm [] [] [38] [] h h' := by
  unfold F_X7_fit_76 at e
  exact (w_X7_fit_160 _ hk19) _ _ _ _ _ e
theorem w_X7_fit_56 {r : Int32} {h' : Hp} (k19 : Int32 → Int32 → Int32 → Hp → Option (Int32 × Hp)) (hk19 : ∀ (x1 : Int32) (x2 : Int32) (x3 : Int32) (h : Hp), k19 x1 x2 x3 h = some (r, h') → Sm [] [] [38] [] h h') (x1 : Int32) (x2 : Int32) (x3 : Int32) (x4 : Int32) (s0 : Int32) (h : Hp) (e : F_X7_fit_56 k19 x1 x2 x3 x4 s0 h = some (r, h')) : Sm [] [] [38] [] h h' := by
  unfold F_X7_fit_56 at e
  rcases it_ e with ⟨_, e⟩ | ⟨_, e⟩
  · rcases it_ e with ⟨_, e⟩ | ⟨_, e⟩
    · exact (w_X7_fit_76 _ hk19) _ _ _ _ e
    · rcases it_ e with ⟨_, e⟩ | ⟨_, e⟩
      · exact (w_X7_fit_160 _ hk19) _ _ _ _ _ e
      · exact (w_X7_fit_76 _ hk19) _ _ _ _ e
  · rcases it_ e with ⟨_, e⟩ | ⟨_, e⟩
    · rcases it_ e with ⟨_, e⟩ | ⟨_, e⟩
      · exact (w_X7_fit_141 _ hk19) _ _ _ _ e
      · rcases it_ e with ⟨_, e⟩ | ⟨_, e⟩
        · exact (w_X7_fit_141 _ hk19) _ _ _ _ e
        · obtain ⟨_, _, _, e⟩ := rA_some e
          obtain ⟨_, _, _, e⟩ := rA_some e
          obtain ⟨_, _, _, e⟩ := rA_some e
          rcases it_ e with ⟨_, e⟩ | ⟨_, e⟩
          · exact (w_X7_fit_141 _ hk19) _ _ _ _ e
          · obtain ⟨_, _, e⟩ := ob_some e
            rcases it_ e with ⟨_, e⟩ | ⟨_, e⟩
            · exact (w_X7_fit_160 _ hk19) _ _ _ _ _ e
            · exact (w_X7_fit_141 _ hk19) _ _ _ _ e
    · rcases it_ e with ⟨_, e⟩ | ⟨_, e⟩
      · exact (w_X7_fit_159 _ hk19) _ _ _ _ e
      · rcases it_ e with ⟨_, e⟩ | ⟨_, e⟩
        · exact (w_X7_fit_160 _ hk19) _ _ _ _ _ e
        · exact (w_X7_fit_159 _ hk19) _ _ _ _ e
theorem w_X7_fit_40 {r : Int32} {h' : Hp} (k19 : Int32 → Int32 → Int32 → Hp → Option (Int32 × Hp)) (hk19 : ∀ (x1 : Int32) (x2 : Int32) (x3 : Int32) (h : Hp), k19 x1 x2 x3 h = some (r, h') → Sm [] [] [38] [] h h') (x1 : Int32) (x2 : Int32) (x3 : Int32) (s0 : Int32) (h : Hp) (e : F_X7_fit_40 k19 x1 x2 x3 s0 h = some (r, h')) : Sm [] [] [38] [] h h' := by
  unfold F_X7_fit_40 at e
  obtain ⟨_, _, _, e⟩ := rA_some e
  rcases it_ e with ⟨_, e⟩ | ⟨_, e⟩
  · exact (w_X7_fit_56 _ hk19) _ _ _ _ _ _ e
  · exact (w_X7_fit_56 _ hk19) _ _ _ _ _ _ e
theorem w_X7_fit_19 {r : Int32} {h' : Hp} : ∀ (n : Nat) (x1 : Int32) (x2 : Int32) (x3 : Int32) (h : Hp), F_X7_fit_19 n x1 x2 x3 h = some (r, h') → Sm [] [] [38] [] h h' := by
  intro n
  induction n with
  | zero => intro x1 x2 x3 h e; cases e
  | succ n ih =>
    intro x1 x2 x3 h e
    rw [F_X7_fit_19] at e
    rcases it_ e with ⟨_, e⟩ | ⟨_, e⟩
    · cases e; exact sm_rf
    · obtain ⟨_, _, _, e⟩ := rA_some e
      rcases it_ e with ⟨_, e⟩ | ⟨_, e⟩
      · exact (w_X7_fit_40 _ ih) _ _ _ _ _ e
      · exact (w_X7_fit_40 _ ih) _ _ _ _ _ e
theorem w_X7_fit (x1 : Int32) (h : Hp) (r : Int32) (h' : Hp) (e : F_X7_fit x1 h = some (r, h')) : Sm [] [] [38] [] h h' := by
  unfold F_X7_fit at e
  obtain ⟨_, _, e⟩ := ob_some e
  rcases it_ e with ⟨_, e⟩ | ⟨_, e⟩
  · obtain ⟨⟨_, _⟩, e1, e⟩ := ob_some e
    refine sm_C (w_X7_refuse _ _ _ _ e1) (by decide) ?_
    cases e; exact sm_rf
  · exact (w_X7_fit_19 FU_) _ _ _ _ e
theorem w_X7_wrongCover_114 {r : Int32} {h' : Hp} (h : Hp) (e : F_X7_wrongCover_114  h = some (r, h')) : Sm [472] [] [54, 57] [] h h' := by
  unfold F_X7_wrongCover_114 at e
  rcases it_ e with ⟨_, e⟩ | ⟨_, e⟩
  · cases e; exact sm_rf
  · cases e; exact sm_rf
theorem w_X7_wrongCover_108 {r : Int32} {h' : Hp} (k27 : Int32 → Int32 → Int32 → Hp → Option (Int32 × Hp)) (hk27 : ∀ (x1 : Int32) (x2 : Int32) (x3 : Int32) (h : Hp), k27 x1 x2 x3 h = some (r, h') → Sm [472] [] [54, 57] [] h h') (x1 : Int32) (x2 : Int32) (x3 : Int32) (h : Hp) (e : F_X7_wrongCover_108 k27 x1 x2 x3 h = some (r, h')) : Sm [472] [] [54, 57] [] h h' := by
  unfold F_X7_wrongCover_108 at e
  exact hk27 _ _ _ _ e
theorem w_X7_wrongCover_27 {r : Int32} {h' : Hp} (k114 : Hp → Option (Int32 × Hp)) (hk114 : ∀ (h : Hp), k114  h = some (r, h') → Sm [472] [] [54, 57] [] h h') : ∀ (n : Nat) (x1 : Int32) (x2 : Int32) (x3 : Int32) (h : Hp), F_X7_wrongCover_27 n k114 x1 x2 x3 h = some (r, h') → Sm [472] [] [54, 57] [] h h' := by
  intro n
  induction n with
  | zero => intro x1 x2 x3 h e; cases e
  | succ n ih =>
    intro x1 x2 x3 h e
    rw [F_X7_wrongCover_27] at e
    rcases it_ e with ⟨_, e⟩ | ⟨_, e⟩
    · exact hk114 _ e
    · obtain ⟨_, _, eh, e⟩ := wA_some e
      refine sm_A (k := 57) (by decide) eh ?_
      obtain ⟨_, _, _, e⟩ := rA_some e
      rcases it_ e with ⟨_, e⟩ | ⟨_, e⟩
      · obtain ⟨_, _, _, e⟩ := rA_some e
        rcases it_ e with ⟨_, e⟩ | ⟨_, e⟩
        · obtain ⟨_, _, eh, e⟩ := wA_some e
          refine sm_A (k := 57) (by decide) eh ?_
          obtain ⟨_, _, eh, e⟩ := wA_some e
          refine sm_A (k := 54) (by decide) eh ?_
          obtain ⟨_, eh, e⟩ := bd_some e
          refine sm_I (k := 472) (by decide) eh ?_
          exact (w_X7_wrongCover_108 _ ih) _ _ _ _ e
        · exact (w_X7_wrongCover_108 _ ih) _ _ _ _ e
      · exact (w_X7_wrongCover_108 _ ih) _ _ _ _ e
theorem w_X7_wrongCover (x1 : Int32) (x2 : Int32) (h : Hp) (r : Int32) (h' : Hp) (e : F_X7_wrongCover x1 x2 h = some (r, h')) : Sm [472] [] [54, 57] [] h h' := by
  unfold F_X7_wrongCover at e
  obtain ⟨_, _, e⟩ := ob_some e
  rcases it_ e with ⟨_, e⟩ | ⟨_, e⟩
  · cases e; exact sm_rf
  · obtain ⟨_, _, e⟩ := ob_some e
    rcases it_ e with ⟨_, e⟩ | ⟨_, e⟩
    · cases e; exact sm_rf
    · obtain ⟨_, eh, e⟩ := bd_some e
      refine sm_I (k := 472) (by decide) eh ?_
      exact (w_X7_wrongCover_27 _ (w_X7_wrongCover_114) FU_) _ _ _ _ e
theorem w_X7_tries_98 {h' : Hp} (x1 : Int32) (x6 : Int32) (x7 : Int32) (h : Hp) (e : F_X7_tries_98 x1 x6 x7 h = some h') : Sm [] [] [55, 56] [] h h' := by
  unfold F_X7_tries_98 at e
  obtain ⟨_, _, eh, e⟩ := wA_some e
  refine sm_A (k := 55) (by decide) eh ?_
  obtain ⟨_, _, eh, e⟩ := wA_some e
  refine sm_A (k := 56) (by decide) eh ?_
  cases e; exact sm_rf
theorem w_X7_tries (x1 : Int32) (x2 : Int32) (x3 : Int32) (x4 : Int32) (h : Hp) (h' : Hp) (e : F_X7_tries x1 x2 x3 x4 h = some h') : Sm [] [] [55, 56] [] h h' := by
  unfold F_X7_tries at e
  obtain ⟨_, _, e⟩ := ob_some e
  obtain ⟨_, _, _, e⟩ := rA_some e
  rcases it_ e with ⟨_, e⟩ | ⟨_, e⟩
  · cases e; exact sm_rf
  · rcases it_ e with ⟨_, e⟩ | ⟨_, e⟩
    · obtain ⟨_, _, _, e⟩ := rA_some e
      obtain ⟨_, _, _, e⟩ := rA_some e
      obtain ⟨_, _, e⟩ := ob_some e
      obtain ⟨_, _, _, e⟩ := rA_some e
      obtain ⟨_, _, _, e⟩ := rA_some e
      rcases it_ e with ⟨_, e⟩ | ⟨_, e⟩
      · cases e; exact sm_rf
      · obtain ⟨_, _, _, e⟩ := rA_some e
        rcases it_ e with ⟨_, e⟩ | ⟨_, e⟩
        · obtain ⟨_, _, _, e⟩ := rA_some e
          rcases it_ e with ⟨_, e⟩ | ⟨_, e⟩
          · exact (w_X7_tries_98) _ _ _ _ e
          · cases e; exact sm_rf
        · exact (w_X7_tries_98) _ _ _ _ e
    · cases e; exact sm_rf
theorem w_X7_covers_352 {h' : Hp} (k208 : Int32 → Hp → Option Hp) (hk208 : ∀ (x2 : Int32) (h : Hp), k208 x2 h = some h' → Sm [473] [] [55, 56, 58, 59] [] h h') (x2 : Int32) (h : Hp) (e : F_X7_covers_352 k208 x2 h = some h') : Sm [473] [] [55, 56, 58, 59] [] h h' := by
  unfold F_X7_covers_352 at e
  exact hk208 _ _ e
theorem w_X7_covers_312 {h' : Hp} (k208 : Int32 → Hp → Option Hp) (hk208 : ∀ (x2 : Int32) (h : Hp), k208 x2 h = some h' → Sm [473] [] [55, 56, 58, 59] [] h h') (x2 : Int32) (x3 : Int32) (h : Hp) (e : F_X7_covers_312 k208 x2 x3 h = some h') : Sm [473] [] [55, 56, 58, 59] [] h h' := by
  unfold F_X7_covers_312 at e
  rcases it_ e with ⟨_, e⟩ | ⟨_, e⟩
  · exact (w_X7_covers_352 _ hk208) _ _ e
  · obtain ⟨_, _, _, e⟩ := rA_some e
    rcases it_ e with ⟨_, e⟩ | ⟨_, e⟩
    · exact (w_X7_covers_352 _ hk208) _ _ e
    · obtain ⟨_, _, e⟩ := ob_some e
      obtain ⟨_, eh, e⟩ := bd_some e
      refine sm_I (k := 473) (by decide) eh ?_
      exact (w_X7_covers_352 _ hk208) _ _ e
theorem w_X7_covers_277 {h' : Hp} (k208 : Int32 → Hp → Option Hp) (hk208 : ∀ (x2 : Int32) (h : Hp), k208 x2 h = some h' → Sm [473] [] [55, 56, 58, 59] [] h h') (x2 : Int32) (x3 : Int32) (h : Hp) (e : F_X7_covers_277 k208 x2 x3 h = some h') : Sm [473] [] [55, 56, 58, 59] [] h h' := by
  unfold F_X7_covers_277 at e
  rcases it_ e with ⟨_, e⟩ | ⟨_, e⟩
  · exact (w_X7_covers_312 _ hk208) _ _ _ e
  · obtain ⟨_, _, _, e⟩ := rA_some e
    rcases it_ e with ⟨_, e⟩ | ⟨_, e⟩
    · exact (w_X7_covers_312 _ hk208) _ _ _ e
    · obtain ⟨_, _, e⟩ := ob_some e
      obtain ⟨_, eh, e⟩ := bd_some e
      refine sm_I (k := 473) (by decide) eh ?_
      exact (w_X7_covers_312 _ hk208) _ _ _ e
theorem w_X7_covers_248 {h' : Hp} (k208 : Int32 → Hp → Option Hp) (hk208 : ∀ (x2 : Int32) (h : Hp), k208 x2 h = some h' → Sm [473] [] [55, 56, 58, 59] [] h h') (x2 : Int32) (x3 : Int32) (h : Hp) (e : F_X7_covers_248 k208 x2 x3 h = some h') : Sm [473] [] [55, 56, 58, 59] [] h h' := by
  unfold F_X7_covers_248 at e
  rcases it_ e with ⟨_, e⟩ | ⟨_, e⟩
  · exact (w_X7_covers_277 _ hk208) _ _ _ e
  · obtain ⟨_, _, e⟩ := ob_some e
    obtain ⟨_, eh, e⟩ := bd_some e
    refine sm_I (k := 473) (by decide) eh ?_
    exact (w_X7_covers_277 _ hk208) _ _ _ e
theorem w_X7_covers_208 {h' : Hp} : ∀ (n : Nat) (x2 : Int32) (h : Hp), F_X7_covers_208 n x2 h = some h' → Sm [473] [] [55, 56, 58, 59] [] h h' := by
  intro n
  induction n with
  | zero => intro x2 h e; cases e
  | succ n ih =>
    intro x2 h e
    rw [F_X7_covers_208] at e
    rcases it_ e with ⟨_, e⟩ | ⟨_, e⟩
    · cases e; exact sm_rf
    · obtain ⟨_, _, _, e⟩ := rA_some e
      rcases it_ e with ⟨_, e⟩ | ⟨_, e⟩
      · exact (w_X7_covers_248 _ ih) _ _ _ e
      · obtain ⟨_, _, e⟩ := ob_some e
        obtain ⟨_, eh, e⟩ := bd_some e
        refine sm_I (k := 473) (by decide) eh ?_
        exact (w_X7_covers_248 _ ih) _ _ _ e
theorem w_X7_covers_201 {h' : Hp} (h : Hp) (e : F_X7_covers_201  h = some h') : Sm [473] [] [55, 56, 58, 59] [] h h' := by
  unfold F_X7_covers_201 at e
  obtain ⟨_, eh, e⟩ := bd_some e
  refine sm_I (k := 473) (by decide) eh ?_
  exact (w_X7_covers_208 FU_) _ _ e
theorem w_X7_covers_195 {h' : Hp} (k115 : Int32 → Int32 → Hp → Option Hp) (hk115 : ∀ (x1 : Int32) (x2 : Int32) (h : Hp), k115 x1 x2 h = some h' → Sm [473] [] [55, 56, 58, 59] [] h h') (x1 : Int32) (x2 : Int32) (h : Hp) (e : F_X7_covers_195 k115 x1 x2 h = some h') : Sm [473] [] [55, 56, 58, 59] [] h h' := by
  unfold F_X7_covers_195 at e
  exact hk115 _ _ _ e
theorem w_X7_covers_189 {h' : Hp} (k157 : Int32 → Int32 → Int32 → Int32 → Hp → Option Hp) (hk157 : ∀ (x1 : Int32) (x2 : Int32) (x3 : Int32) (x4 : Int32) (h : Hp), k157 x1 x2 x3 x4 h = some h' → Sm [473] [] [55, 56, 58, 59] [] h h') (x1 : Int32) (x2 : Int32) (x3 : Int32) (x4 : Int32) (h : Hp) (e : F_X7_covers_189 k157 x1 x2 x3 x4 h = some h') : Sm [473] [] [55, 56, 58, 59] [] h h' := by
  unfold F_X7_covers_189 at e
  exact hk157 _ _ _ _ _ e
theorem w_X7_covers_167 {h' : Hp} (k189 : Int32 → Int32 → Int32 → Int32 → Hp → Option Hp) (hk189 : ∀ (x1 : Int32) (x2 : Int32) (x3 : Int32) (x4 : Int32) (h : Hp), k189 x1 x2 x3 x4 h = some h' → Sm [473] [] [55, 56, 58, 59] [] h h') : ∀ (n : Nat) (x1 : Int32) (x2 : Int32) (x3 : Int32) (x4 : Int32) (x5 : Int32) (h : Hp), F_X7_covers_167 n k189 x1 x2 x3 x4 x5 h = some h' → Sm [473] [] [55, 56, 58, 59] [] h h' := by
  intro n
  induction n with
  | zero => intro x1 x2 x3 x4 x5 h e; cases e
  | succ n ih =>
    intro x1 x2 x3 x4 x5 h e
    rw [F_X7_covers_167] at e
    rcases it_ e with ⟨_, e⟩ | ⟨_, e⟩
    · exact hk189 _ _ _ _ _ e
    · obtain ⟨_, e1, e⟩ := ob_some e
      refine sm_C (w_X7_tries _ _ _ _ _ _ e1) (by decide) ?_
      exact ih _ _ _ _ _ _ e
theorem w_X7_covers_157 {h' : Hp} (k195 : Int32 → Int32 → Hp → Option Hp) (hk195 : ∀ (x1 : Int32) (x2 : Int32) (h : Hp), k195 x1 x2 h = some h' → Sm [473] [] [55, 56, 58, 59] [] h h') : ∀ (n : Nat) (x1 : Int32) (x2 : Int32) (x3 : Int32) (x4 : Int32) (h : Hp), F_X7_covers_157 n k195 x1 x2 x3 x4 h = some h' → Sm [473] [] [55, 56, 58, 59] [] h h' := by
  intro n
  induction n with
  | zero => intro x1 x2 x3 x4 h e; cases e
  | succ n ih =>
    intro x1 x2 x3 x4 h e
    rw [F_X7_covers_157] at e
    rcases it_ e with ⟨_, e⟩ | ⟨_, e⟩
    · exact hk195 _ _ _ e
    · exact (w_X7_covers_167 _ (w_X7_covers_189 _ ih) FU_) _ _ _ _ _ _ e
theorem w_X7_covers_115 {h' : Hp} (k201 : Hp → Option Hp) (hk201 : ∀ (h : Hp), k201  h = some h' → Sm [473] [] [55, 56, 58, 59] [] h h') : ∀ (n : Nat) (x1 : Int32) (x2 : Int32) (h : Hp), F_X7_covers_115 n k201 x1 x2 h = some h' → Sm [473] [] [55, 56, 58, 59] [] h h' := by
  intro n
  induction n with
  | zero => intro x1 x2 h e; cases e
  | succ n ih =>
    intro x1 x2 h e
    rw [F_X7_covers_115] at e
    rcases it_ e with ⟨_, e⟩ | ⟨_, e⟩
    · exact hk201 _ e
    · obtain ⟨_, _, eh, e⟩ := wA_some e
      refine sm_A (k := 55) (by decide) eh ?_
      obtain ⟨_, _, eh, e⟩ := wA_some e
      refine sm_A (k := 56) (by decide) eh ?_
      rcases it_ e with ⟨_, e⟩ | ⟨_, e⟩
      · exact (w_X7_covers_195 _ ih) _ _ _ e
      · obtain ⟨_, _, eh, e⟩ := wA_some e
        refine sm_A (k := 55) (by decide) eh ?_
        obtain ⟨_, _, e⟩ := ob_some e
        exact (w_X7_covers_157 _ (w_X7_covers_195 _ ih) FU_) _ _ _ _ _ e
theorem w_X7_covers_104 {h' : Hp} (h : Hp) (e : F_X7_covers_104  h = some h') : Sm [473] [] [55, 56, 58, 59] [] h h' := by
  unfold F_X7_covers_104 at e
  obtain ⟨_, _, e⟩ := bd_some e
  exact (w_X7_covers_115 _ (w_X7_covers_201) FU_) _ _ _ e
theorem w_X7_covers_98 {h' : Hp} (k2 : Int32 → Hp → Option Hp) (hk2 : ∀ (x1 : Int32) (h : Hp), k2 x1 h = some h' → Sm [473] [] [55, 56, 58, 59] [] h h') (x1 : Int32) (h : Hp) (e : F_X7_covers_98 k2 x1 h = some h') : Sm [473] [] [55, 56, 58, 59] [] h h' := by
  unfold F_X7_covers_98 at e
  exact hk2 _ _ e
theorem w_X7_covers_92 {h' : Hp} (k12 : Int32 → Int32 → Hp → Option Hp) (hk12 : ∀ (x1 : Int32) (x2 : Int32) (h : Hp), k12 x1 x2 h = some h' → Sm [473] [] [55, 56, 58, 59] [] h h') (x1 : Int32) (x2 : Int32) (h : Hp) (e : F_X7_covers_92 k12 x1 x2 h = some h') : Sm [473] [] [55, 56, 58, 59] [] h h' := by
  unfold F_X7_covers_92 at e
  exact hk12 _ _ _ e
theorem w_X7_covers_54 {h' : Hp} (k20 : Int32 → Int32 → Int32 → Hp → Option Hp) (hk20 : ∀ (x1 : Int32) (x2 : Int32) (x3 : Int32) (h : Hp), k20 x1 x2 x3 h = some h' → Sm [473] [] [55, 56, 58, 59] [] h h') (x1 : Int32) (x2 : Int32) (x3 : Int32) (s0 : Int32) (h : Hp) (e : F_X7_covers_54 k20 x1 x2 x3 s0 h = some h') : Sm [473] [] [55, 56, 58, 59] [] h h' := by
  unfold F_X7_covers_54 at e
  obtain ⟨_, _, e⟩ := ob_some e
  obtain ⟨_, _, eh, e⟩ := wA_some e
  refine sm_A (k := 58) (by decide) eh ?_
  obtain ⟨_, _, e⟩ := ob_some e
  obtain ⟨_, _, e⟩ := ob_some e
  obtain ⟨_, _, eh, e⟩ := wA_some e
  refine sm_A (k := 59) (by decide) eh ?_
  exact hk20 _ _ _ _ e
theorem w_X7_covers_47 {h' : Hp} (k20 : Int32 → Int32 → Int32 → Hp → Option Hp) (hk20 : ∀ (x1 : Int32) (x2 : Int32) (x3 : Int32) (h : Hp), k20 x1 x2 x3 h = some h' → Sm [473] [] [55, 56, 58, 59] [] h h') (x1 : Int32) (x2 : Int32) (x3 : Int32) (h : Hp) (e : F_X7_covers_47 k20 x1 x2 x3 h = some h') : Sm [473] [] [55, 56, 58, 59] [] h h' := by
  unfold F_X7_covers_47 at e
  obtain ⟨_, _, e⟩ := ob_some e
  exact (w_X7_covers_54 _ hk20) _ _ _ _ _ e
theorem w_X7_covers_20 {h' : Hp} (k92 : Int32 → Int32 → Hp → Option Hp) (hk92 : ∀ (x1 : Int32) (x2 : Int32) (h : Hp), k92 x1 x2 h = some h' → Sm [473] [] [55, 56, 58, 59] [] h h') : ∀ (n : Nat) (x1 : Int32) (x2 : Int32) (x3 : Int32) (h : Hp), F_X7_covers_20 n k92 x1 x2 x3 h = some h' → Sm [473] [] [55, 56, 58, 59] [] h h' := by
  intro n
  induction n with
  | zero => intro x1 x2 x3 h e; cases e
  | succ n ih =>
    intro x1 x2 x3 h e
    rw [F_X7_covers_20] at e
    rcases it_ e with ⟨_, e⟩ | ⟨_, e⟩
    · exact hk92 _ _ _ e
    · rcases it_ e with ⟨_, e⟩ | ⟨_, e⟩
      · obtain ⟨_, _, _, e⟩ := rS_some e
        obtain ⟨_, _, _, e⟩ := rS_some e
        rcases it_ e with ⟨_, e⟩ | ⟨_, e⟩
        · exact (w_X7_covers_54 _ ih) _ _ _ _ _ e
        · exact (w_X7_covers_47 _ ih) _ _ _ _ e
      · exact (w_X7_covers_47 _ ih) _ _ _ _ e
theorem w_X7_covers_12 {h' : Hp} (k98 : Int32 → Hp → Option Hp) (hk98 : ∀ (x1 : Int32) (h : Hp), k98 x1 h = some h' → Sm [473] [] [55, 56, 58, 59] [] h h') : ∀ (n : Nat) (x1 : Int32) (x2 : Int32) (h : Hp), F_X7_covers_12 n k98 x1 x2 h = some h' → Sm [473] [] [55, 56, 58, 59] [] h h' := by
  intro n
  induction n with
  | zero => intro x1 x2 h e; cases e
  | succ n ih =>
    intro x1 x2 h e
    rw [F_X7_covers_12] at e
    rcases it_ e with ⟨_, e⟩ | ⟨_, e⟩
    · exact hk98 _ _ e
    · exact (w_X7_covers_20 _ (w_X7_covers_92 _ ih) FU_) _ _ _ _ e
theorem w_X7_covers_2 {h' : Hp} (k104 : Hp → Option Hp) (hk104 : ∀ (h : Hp), k104  h = some h' → Sm [473] [] [55, 56, 58, 59] [] h h') : ∀ (n : Nat) (x1 : Int32) (h : Hp), F_X7_covers_2 n k104 x1 h = some h' → Sm [473] [] [55, 56, 58, 59] [] h h' := by
  intro n
  induction n with
  | zero => intro x1 h e; cases e
  | succ n ih =>
    intro x1 h e
    rw [F_X7_covers_2] at e
    rcases it_ e with ⟨_, e⟩ | ⟨_, e⟩
    · exact hk104 _ e
    · exact (w_X7_covers_12 _ (w_X7_covers_98 _ ih) FU_) _ _ _ e
theorem w_X7_covers (h : Hp) (h' : Hp) (e : F_X7_covers  h = some h') : Sm [473] [] [55, 56, 58, 59] [] h h' := by
  unfold F_X7_covers at e
  exact (w_X7_covers_2 _ (w_X7_covers_104) FU_) _ _ e
theorem w_X7_cover (x1 : Int32) (x2 : Int32) (h : Hp) (r : Int32) (h' : Hp) (e : F_X7_cover x1 x2 h = some (r, h')) : Sm [472, 473] [] [38, 54, 55, 56, 57, 58, 59] [] h h' := by
  unfold F_X7_cover at e
  obtain ⟨⟨_, _⟩, e1, e⟩ := ob_some e
  refine sm_C (w_X7_wrongCover _ _ _ _ _ e1) (by decide) ?_
  rcases it_ e with ⟨_, e⟩ | ⟨_, e⟩
  · obtain ⟨_, e1, e⟩ := ob_some e
    refine sm_C (w_X7_covers _ _ e1) (by decide) ?_
    obtain ⟨_, _, _, e⟩ := rA_some e
    cases e; exact sm_rf
  · obtain ⟨⟨_, _⟩, e1, e⟩ := ob_some e
    refine sm_C (w_X7_refuse _ _ _ _ e1) (by decide) ?_
    cases e; exact sm_rf
theorem w_X7_coverSeams (x1 : Int32) (x2 : Int32) (h : Hp) (r : Int32) (h' : Hp) (e : F_X7_coverSeams x1 x2 h = some (r, h')) : Sm [472, 473] [] [38, 54, 55, 56, 57, 58, 59] [] h h' := by
  unfold F_X7_coverSeams at e
  obtain ⟨⟨_, _⟩, e1, e⟩ := ob_some e
  refine sm_C (w_X7_wrongCover _ _ _ _ _ e1) (by decide) ?_
  rcases it_ e with ⟨_, e⟩ | ⟨_, e⟩
  · obtain ⟨_, e1, e⟩ := ob_some e
    refine sm_C (w_X7_covers _ _ e1) (by decide) ?_
    obtain ⟨_, _, _, e⟩ := rA_some e
    cases e; exact sm_rf
  · obtain ⟨⟨_, _⟩, e1, e⟩ := ob_some e
    refine sm_C (w_X7_refuse _ _ _ _ e1) (by decide) ?_
    cases e; exact sm_rf
theorem w_X7_coverAt_94 {r : Int32} {h' : Hp} (x5 : Int32) (h : Hp) (e : F_X7_coverAt_94 x5 h = some (r, h')) : Sm [472, 473] [] [38, 54, 55, 56, 57, 58, 59] [] h h' := by
  unfold F_X7_coverAt_94 at e
  obtain ⟨_, _, e⟩ := ob_some e
  obtain ⟨_, _, _, e⟩ := rA_some e
  obtain ⟨_, _, e⟩ := ob_some e
  cases e; exact sm_rf
theorem w_X7_coverAt_46 {r : Int32} {h' : Hp} (k94 : Int32 → Hp → Option (Int32 × Hp)) (hk94 : ∀ (x5 : Int32) (h : Hp), k94 x5 h = some (r, h') → Sm [472, 473] [] [38, 54, 55, 56, 57, 58, 59] [] h h') : ∀ (n : Nat) (x3 : Int32) (x5 : Int32) (x6 : Int32) (h : Hp), F_X7_coverAt_46 n k94 x3 x5 x6 h = some (r, h') → Sm [472, 473] [] [38, 54, 55, 56, 57, 58, 59] [] h h' := by
  intro n
  induction n with
  | zero => intro x3 x5 x6 h e; cases e
  | succ n ih =>
    intro x3 x5 x6 h e
    rw [F_X7_coverAt_46] at e
    rcases it_ e with ⟨_, e⟩ | ⟨_, e⟩
    · exact hk94 _ _ e
    · obtain ⟨_, _, e⟩ := ob_some e
      obtain ⟨_, _, e⟩ := ob_some e
      obtain ⟨_, _, e⟩ := ob_some e
      obtain ⟨_, _, _, e⟩ := rA_some e
      exact ih _ _ _ _ e
theorem w_X7_coverAt (x1 : Int32) (x2 : Int32) (x3 : Int32) (h : Hp) (r : Int32) (h' : Hp) (e : F_X7_coverAt x1 x2 x3 h = some (r, h')) : Sm [472, 473] [] [38, 54, 55, 56, 57, 58, 59] [] h h' := by
  unfold F_X7_coverAt at e
  obtain ⟨⟨_, _⟩, e1, e⟩ := ob_some e
  refine sm_C (w_X7_wrongCover _ _ _ _ _ e1) (by decide) ?_
  rcases it_ e with ⟨_, e⟩ | ⟨_, e⟩
  · obtain ⟨_, e1, e⟩ := ob_some e
    refine sm_C (w_X7_covers _ _ e1) (by decide) ?_
    obtain ⟨_, _, _, e⟩ := rA_some e
    obtain ⟨_, _, e⟩ := ob_some e
    rcases it_ e with ⟨_, e⟩ | ⟨_, e⟩
    · cases e; exact sm_rf
    · exact (w_X7_coverAt_46 _ (w_X7_coverAt_94) FU_) _ _ _ _ e
  · obtain ⟨⟨_, _⟩, e1, e⟩ := ob_some e
    refine sm_C (w_X7_refuse _ _ _ _ e1) (by decide) ?_
    cases e; exact sm_rf
theorem w_X7_lay_54 {r : Int32} {h' : Hp} : ∀ (n : Nat) (x1 : Int32) (x2 : Int32) (x4 : Int32) (x5 : Int32) (x6 : Int32) (h : Hp), F_X7_lay_54 n x1 x2 x4 x5 x6 h = some (r, h') → Sm [458, 472, 473] [460] [38, 40, 42, 43, 44, 45, 46, 47, 54, 55, 56, 57, 58, 59] [] h h' := by
  intro n
  induction n with
  | zero => intro x1 x2 x4 x5 x6 h e; cases e
  | succ n ih =>
    intro x1 x2 x4 x5 x6 h e
    rw [F_X7_lay_54] at e
    rcases it_ e with ⟨_, e⟩ | ⟨_, e⟩
    · cases e; exact sm_rf
    · obtain ⟨_, _, e⟩ := ob_some e
      obtain ⟨_, _, e⟩ := ob_some e
      obtain ⟨_, _, _, e⟩ := rA_some e
      obtain ⟨_, _, e⟩ := ob_some e
      obtain ⟨_, _, e⟩ := ob_some e
      obtain ⟨_, _, _, e⟩ := rA_some e
      obtain ⟨_, e1, e⟩ := ob_some e
      refine sm_C (w_X7_adds _ _ _ _ _ _ _ _ e1) (by decide) ?_
      exact ih _ _ _ _ _ _ e
theorem w_X7_lay (x1 : Int32) (x2 : Int32) (h : Hp) (r : Int32) (h' : Hp) (e : F_X7_lay x1 x2 h = some (r, h')) : Sm [458, 472, 473] [460] [38, 40, 42, 43, 44, 45, 46, 47, 54, 55, 56, 57, 58, 59] [] h h' := by
  unfold F_X7_lay at e
  obtain ⟨⟨_, _⟩, e1, e⟩ := ob_some e
  refine sm_C (w_X7_wrongCover _ _ _ _ _ e1) (by decide) ?_
  rcases it_ e with ⟨_, e⟩ | ⟨_, e⟩
  · obtain ⟨_, e1, e⟩ := ob_some e
    refine sm_C (w_X7_covers _ _ e1) (by decide) ?_
    obtain ⟨_, _, _, e⟩ := rA_some e
    rcases it_ e with ⟨_, e⟩ | ⟨_, e⟩
    · exact (w_X7_lay_54 FU_) _ _ _ _ _ _ e
    · obtain ⟨⟨_, _⟩, e1, e⟩ := ob_some e
      refine sm_C (w_X7_refuse _ _ _ _ e1) (by decide) ?_
      cases e; exact sm_rf
  · obtain ⟨⟨_, _⟩, e1, e⟩ := ob_some e
    refine sm_C (w_X7_refuse _ _ _ _ e1) (by decide) ?_
    cases e; exact sm_rf
theorem w_X7_box_20 {r : Int32} {h' : Hp} (x1 : Int32) (x2 : Int32) (s0 : Int32) (h : Hp) (e : F_X7_box_20 x1 x2 s0 h = some (r, h')) : Sm [] [] [38, 41] [] h h' := by
  unfold F_X7_box_20 at e
  rcases it_ e with ⟨_, e⟩ | ⟨_, e⟩
  · obtain ⟨_, _, _, e⟩ := rA_some e
    obtain ⟨_, _, eh, e⟩ := wA_some e
    refine sm_A (k := 41) (by decide) eh ?_
    cases e; exact sm_rf
  · obtain ⟨⟨_, _⟩, e1, e⟩ := ob_some e
    refine sm_C (w_X7_refuse _ _ _ _ e1) (by decide) ?_
    cases e; exact sm_rf
theorem w_X7_box (x1 : Int32) (x2 : Int32) (h : Hp) (r : Int32) (h' : Hp) (e : F_X7_box x1 x2 h = some (r, h')) : Sm [] [] [38, 41] [] h h' := by
  unfold F_X7_box at e
  obtain ⟨_, _, e⟩ := ob_some e
  rcases it_ e with ⟨_, e⟩ | ⟨_, e⟩
  · exact (w_X7_box_20) _ _ _ _ e
  · obtain ⟨_, _, e⟩ := ob_some e
    exact (w_X7_box_20) _ _ _ _ e
theorem w_X7_findLacking_217 {h' : Hp} (k119 : Int32 → Hp → Option Hp) (hk119 : ∀ (x1 : Int32) (h : Hp), k119 x1 h = some h' → Sm [] [] [60, 61] [] h h') (x1 : Int32) (h : Hp) (e : F_X7_findLacking_217 k119 x1 h = some h') : Sm [] [] [60, 61] [] h h' := by
  unfold F_X7_findLacking_217 at e
  exact hk119 _ _ e
theorem w_X7_findLacking_173 {h' : Hp} (k123 : Int32 → Hp → Option Hp) (hk123 : ∀ (x1 : Int32) (h : Hp), k123 x1 h = some h' → Sm [] [] [60, 61] [] h h') (k217 : Int32 → Hp → Option Hp) (hk217 : ∀ (x1 : Int32) (h : Hp), k217 x1 h = some h' → Sm [] [] [60, 61] [] h h') (x1 : Int32) (s0 : Int32) (s1 : Int32) (h : Hp) (e : F_X7_findLacking_173 k123 k217 x1 s0 s1 h = some h') : Sm [] [] [60, 61] [] h h' := by
  unfold F_X7_findLacking_173 at e
  rcases it_ e with ⟨_, e⟩ | ⟨_, e⟩
  · exact hk217 _ _ e
  · obtain ⟨_, _, _, e⟩ := rS_some e
    obtain ⟨_, _, _, e⟩ := rA_some e
    obtain ⟨_, _, eh, e⟩ := wA_some e
    refine sm_A (k := 60) (by decide) eh ?_
    obtain ⟨_, _, _, e⟩ := rS_some e
    obtain ⟨_, _, _, e⟩ := rA_some e
    obtain ⟨_, _, eh, e⟩ := wA_some e
    refine sm_A (k := 60) (by decide) eh ?_
    obtain ⟨_, _, _, e⟩ := rA_some e
    obtain ⟨_, _, eh, e⟩ := wA_some e
    refine sm_A (k := 61) (by decide) eh ?_
    exact hk123 _ _ e
theorem w_X7_findLacking_123 {h' : Hp} (k217 : Int32 → Hp → Option Hp) (hk217 : ∀ (x1 : Int32) (h : Hp), k217 x1 h = some h' → Sm [] [] [60, 61] [] h h') : ∀ (n : Nat) (x1 : Int32) (h : Hp), F_X7_findLacking_123 n k217 x1 h = some h' → Sm [] [] [60, 61] [] h h' := by
  intro n
  induction n with
  | zero => intro x1 h e; cases e
  | succ n ih =>
    intro x1 h e
    rw [F_X7_findLacking_123] at e
    obtain ⟨_, _, _, e⟩ := rA_some e
    rcases it_ e with ⟨_, e⟩ | ⟨_, e⟩
    · exact hk217 _ _ e
    · obtain ⟨_, _, _, e⟩ := rS_some e
      obtain ⟨_, _, _, e⟩ := rA_some e
      rcases it_ e with ⟨_, e⟩ | ⟨_, e⟩
      · exact hk217 _ _ e
      · obtain ⟨_, _, _, e⟩ := rS_some e
        obtain ⟨_, _, _, e⟩ := rA_some e
        obtain ⟨_, _, _, e⟩ := rS_some e
        obtain ⟨_, _, _, e⟩ := rS_some e
        rcases it_ e with ⟨_, e⟩ | ⟨_, e⟩
        · exact (w_X7_findLacking_173 _ ih _ hk217) _ _ _ _ e
        · exact (w_X7_findLacking_173 _ ih _ hk217) _ _ _ _ e
theorem w_X7_findLacking_119 {h' : Hp} : ∀ (n : Nat) (x1 : Int32) (h : Hp), F_X7_findLacking_119 n x1 h = some h' → Sm [] [] [60, 61] [] h h' := by
  intro n
  induction n with
  | zero => intro x1 h e; cases e
  | succ n ih =>
    intro x1 h e
    rw [F_X7_findLacking_119] at e
    rcases it_ e with ⟨_, e⟩ | ⟨_, e⟩
    · cases e; exact sm_rf
    · exact (w_X7_findLacking_123 _ (w_X7_findLacking_217 _ ih) FU_) _ _ e
theorem w_X7_findLacking_116 {h' : Hp} (h : Hp) (e : F_X7_findLacking_116  h = some h') : Sm [] [] [60, 61] [] h h' := by
  unfold F_X7_findLacking_116 at e
  exact (w_X7_findLacking_119 FU_) _ _ e
theorem w_X7_findLacking_71 {h' : Hp} (k116 : Hp → Option Hp) (hk116 : ∀ (h : Hp), k116  h = some h' → Sm [] [] [60, 61] [] h h') : ∀ (n : Nat) (x1 : Int32) (h : Hp), F_X7_findLacking_71 n k116 x1 h = some h' → Sm [] [] [60, 61] [] h h' := by
  intro n
  induction n with
  | zero => intro x1 h e; cases e
  | succ n ih =>
    intro x1 h e
    rw [F_X7_findLacking_71] at e
    rcases it_ e with ⟨_, e⟩ | ⟨_, e⟩
    · exact hk116 _ e
    · obtain ⟨_, _, _, e⟩ := rA_some e
      obtain ⟨_, _, eh, e⟩ := wA_some e
      refine sm_A (k := 61) (by decide) eh ?_
      obtain ⟨_, _, _, e⟩ := rA_some e
      obtain ⟨_, _, eh, e⟩ := wA_some e
      refine sm_A (k := 60) (by decide) eh ?_
      exact ih _ _ e
theorem w_X7_findLacking_69 {h' : Hp} (h : Hp) (e : F_X7_findLacking_69  h = some h') : Sm [] [] [60, 61] [] h h' := by
  unfold F_X7_findLacking_69 at e
  exact (w_X7_findLacking_71 _ (w_X7_findLacking_116) FU_) _ _ e
theorem w_X7_findLacking_61 {h' : Hp} (k28 : Int32 → Hp → Option Hp) (hk28 : ∀ (x1 : Int32) (h : Hp), k28 x1 h = some h' → Sm [] [] [60, 61] [] h h') (x1 : Int32) (s1 : Int32) (s2 : Int32) (s3 : Int32) (h : Hp) (e : F_X7_findLacking_61 k28 x1 s1 s2 s3 h = some h') : Sm [] [] [60, 61] [] h h' := by
  unfold F_X7_findLacking_61 at e
  obtain ⟨_, _, eh, e⟩ := wA_some e
  refine sm_A (k := 60) (by decide) eh ?_
  exact hk28 _ _ e
theorem w_X7_findLacking_28 {h' : Hp} (k69 : Hp → Option Hp) (hk69 : ∀ (h : Hp), k69  h = some h' → Sm [] [] [60, 61] [] h h') : ∀ (n : Nat) (x1 : Int32) (h : Hp), F_X7_findLacking_28 n k69 x1 h = some h' → Sm [] [] [60, 61] [] h h' := by
  intro n
  induction n with
  | zero => intro x1 h e; cases e
  | succ n ih =>
    intro x1 h e
    rw [F_X7_findLacking_28] at e
    rcases it_ e with ⟨_, e⟩ | ⟨_, e⟩
    · exact hk69 _ e
    · obtain ⟨_, _, _, e⟩ := rA_some e
      obtain ⟨_, _, _, e⟩ := rA_some e
      obtain ⟨_, _, e⟩ := ob_some e
      rcases it_ e with ⟨_, e⟩ | ⟨_, e⟩
      · exact (w_X7_findLacking_61 _ ih) _ _ _ _ _ e
      · exact (w_X7_findLacking_61 _ ih) _ _ _ _ _ e
theorem w_X7_findLacking_26 {h' : Hp} (h : Hp) (e : F_X7_findLacking_26  h = some h') : Sm [] [] [60, 61] [] h h' := by
  unfold F_X7_findLacking_26 at e
  exact (w_X7_findLacking_28 _ (w_X7_findLacking_69) FU_) _ _ e
theorem w_X7_findLacking_2 {h' : Hp} (k26 : Hp → Option Hp) (hk26 : ∀ (h : Hp), k26  h = some h' → Sm [] [] [60, 61] [] h h') : ∀ (n : Nat) (x1 : Int32) (h : Hp), F_X7_findLacking_2 n k26 x1 h = some h' → Sm [] [] [60, 61] [] h h' := by
  intro n
  induction n with
  | zero => intro x1 h e; cases e
  | succ n ih =>
    intro x1 h e
    rw [F_X7_findLacking_2] at e
    rcases it_ e with ⟨_, e⟩ | ⟨_, e⟩
    · exact hk26 _ e
    · obtain ⟨_, _, _, e⟩ := rA_some e
      obtain ⟨_, _, eh, e⟩ := wA_some e
      refine sm_A (k := 60) (by decide) eh ?_
      exact ih _ _ e
theorem w_X7_findLacking (h : Hp) (h' : Hp) (e : F_X7_findLacking  h = some h') : Sm [] [] [60, 61] [] h h' := by
  unfold F_X7_findLacking at e
  exact (w_X7_findLacking_2 _ (w_X7_findLacking_26) FU_) _ _ e
theorem w_X7_lacking_8 {r : Int32} {h' : Hp} : ∀ (n : Nat) (x1 : Int32) (x2 : Int32) (h : Hp), F_X7_lacking_8 n x1 x2 h = some (r, h') → Sm [] [] [60, 61] [] h h' := by
  intro n
  induction n with
  | zero => intro x1 x2 h e; cases e
  | succ n ih =>
    intro x1 x2 h e
    rw [F_X7_lacking_8] at e
    rcases it_ e with ⟨_, e⟩ | ⟨_, e⟩
    · cases e; exact sm_rf
    · obtain ⟨_, _, _, e⟩ := rA_some e
      exact ih _ _ _ e
theorem w_X7_lacking (h : Hp) (r : Int32) (h' : Hp) (e : F_X7_lacking  h = some (r, h')) : Sm [] [] [60, 61] [] h h' := by
  unfold F_X7_lacking at e
  obtain ⟨_, e1, e⟩ := ob_some e
  refine sm_C (w_X7_findLacking _ _ e1) (by decide) ?_
  exact (w_X7_lacking_8 FU_) _ _ _ e
theorem w_X7_lacks (x1 : Int32) (h : Hp) (r : Int32) (h' : Hp) (e : F_X7_lacks x1 h = some (r, h')) : Sm [] [] [38, 60, 61] [] h h' := by
  unfold F_X7_lacks at e
  obtain ⟨_, _, e⟩ := ob_some e
  rcases it_ e with ⟨_, e⟩ | ⟨_, e⟩
  · obtain ⟨⟨_, _⟩, e1, e⟩ := ob_some e
    refine sm_C (w_X7_refuse _ _ _ _ e1) (by decide) ?_
    cases e; exact sm_rf
  · obtain ⟨_, e1, e⟩ := ob_some e
    refine sm_C (w_X7_findLacking _ _ e1) (by decide) ?_
    obtain ⟨_, _, _, e⟩ := rA_some e
    cases e; exact sm_rf
theorem w_X7_goes_121 {r : Int32} {h' : Hp} (kr : Int32 → Int32 → Int64 → Hp → Option (Int32 × Hp)) (hkr : ∀ (x0 : Int32) (x1 : Int32) (x2 : Int64) (h : Hp) (r : Int32) (h' : Hp), kr x0 x1 x2 h = some (r, h') → Sm [] [] [49, 50, 51, 52, 62, 63] [] h h') (k24 : Int32 → Int32 → Int64 → Int32 → Hp → Option (Int32 × Hp)) (hk24 : ∀ (x1 : Int32) (x2 : Int32) (x3 : Int64) (x5 : Int32) (h : Hp), k24 x1 x2 x3 x5 h = some (r, h') → Sm [] [] [49, 50, 51, 52, 62, 63] [] h h') (x1 : Int32) (x2 : Int32) (x3 : Int64) (x5 : Int32) (h : Hp) (e : F_X7_goes_121 kr k24 x1 x2 x3 x5 h = some (r, h')) : Sm [] [] [49, 50, 51, 52, 62, 63] [] h h' := by
  unfold F_X7_goes_121 at e
  exact hk24 _ _ _ _ _ e
theorem w_X7_goes_24 {r : Int32} {h' : Hp} (kr : Int32 → Int32 → Int64 → Hp → Option (Int32 × Hp)) (hkr : ∀ (x0 : Int32) (x1 : Int32) (x2 : Int64) (h : Hp) (r : Int32) (h' : Hp), kr x0 x1 x2 h = some (r, h') → Sm [] [] [49, 50, 51, 52, 62, 63] [] h h') : ∀ (n : Nat) (x1 : Int32) (x2 : Int32) (x3 : Int64) (x5 : Int32) (h : Hp), F_X7_goes_24 n kr x1 x2 x3 x5 h = some (r, h') → Sm [] [] [49, 50, 51, 52, 62, 63] [] h h' := by
  intro n
  induction n with
  | zero => intro x1 x2 x3 x5 h e; cases e
  | succ n ih =>
    intro x1 x2 x3 x5 h e
    rw [F_X7_goes_24] at e
    rcases it_ e with ⟨_, e⟩ | ⟨_, e⟩
    · obtain ⟨_, _, eh, e⟩ := wA_some e
      refine sm_A (k := 63) (by decide) eh ?_
      cases e; exact sm_rf
    · rcases it_ e with ⟨_, e⟩ | ⟨_, e⟩
      · exact (w_X7_goes_121 kr hkr _ ih) _ _ _ _ _ e
      · obtain ⟨_, _, _, e⟩ := rA_some e
        obtain ⟨_, _, e⟩ := ob_some e
        rcases it_ e with ⟨_, e⟩ | ⟨_, e⟩
        · obtain ⟨_, _, _, e⟩ := rA_some e
          obtain ⟨⟨_, _⟩, e1, e⟩ := ob_some e
          refine sm_C (w_X7_isSound _ _ _ _ e1) (by decide) ?_
          rcases it_ e with ⟨_, e⟩ | ⟨_, e⟩
          · exact (w_X7_goes_121 kr hkr _ ih) _ _ _ _ _ e
          · obtain ⟨_, _, _, e⟩ := rA_some e
            obtain ⟨_, _, eh, e⟩ := wA_some e
            refine sm_A (k := 62) (by decide) eh ?_
            obtain ⟨_, _, _, e⟩ := rA_some e
            obtain ⟨⟨_, _⟩, e1, e⟩ := ob_some e
            refine sm_C (hkr _ _ _ _ _ _ e1) (by decide) ?_
            rcases it_ e with ⟨_, e⟩ | ⟨_, e⟩
            · exact (w_X7_goes_121 kr hkr _ ih) _ _ _ _ _ e
            · cases e; exact sm_rf
        · exact (w_X7_goes_121 kr hkr _ ih) _ _ _ _ _ e
theorem w_X7_goes_0 (kr : Int32 → Int32 → Int64 → Hp → Option (Int32 × Hp)) (hkr : ∀ (x0 : Int32) (x1 : Int32) (x2 : Int64) (h : Hp) (r : Int32) (h' : Hp), kr x0 x1 x2 h = some (r, h') → Sm [] [] [49, 50, 51, 52, 62, 63] [] h h') (x1 : Int32) (x2 : Int32) (x3 : Int64) (h : Hp) (r : Int32) (h' : Hp) (e : F_X7_goes_0 kr x1 x2 x3 h = some (r, h')) : Sm [] [] [49, 50, 51, 52, 62, 63] [] h h' := by
  unfold F_X7_goes_0 at e
  rcases it_ e with ⟨_, e⟩ | ⟨_, e⟩
  · cases e; exact sm_rf
  · obtain ⟨_, _, _, e⟩ := rA_some e
    rcases it_ e with ⟨_, e⟩ | ⟨_, e⟩
    · exact (w_X7_goes_24 kr hkr FU_) _ _ _ _ _ e
    · cases e; exact sm_rf
theorem w_X7_goes : ∀ (n : Nat) (x1 : Int32) (x2 : Int32) (x3 : Int64) (h : Hp) (r : Int32) (h' : Hp), F_X7_goes n x1 x2 x3 h = some (r, h') → Sm [] [] [49, 50, 51, 52, 62, 63] [] h h' := by
  intro n
  induction n with
  | zero => intro x1 x2 x3 h r h' e; cases e
  | succ n ih =>
    intro x1 x2 x3 h r h' e
    rw [F_X7_goes] at e
    exact w_X7_goes_0 (F_X7_goes n) ih x1 x2 x3 h r h' e
theorem w_X7_order_97 {r : Int32} {h' : Hp} (x1 : Int32) (h : Hp) (e : F_X7_order_97 x1 h = some (r, h')) : Sm [481] [] [38, 49, 50, 51, 52, 62, 63, 64] [48] h h' := by
  unfold F_X7_order_97 at e
  obtain ⟨_, _, e⟩ := ob_some e
  rcases it_ e with ⟨_, e⟩ | ⟨_, e⟩
  · cases e; exact sm_rf
  · obtain ⟨⟨_, _⟩, e1, e⟩ := ob_some e
    refine sm_C (w_X7_goes RF_ _ _ _ _ _ _ e1) (by decide) ?_
    rcases it_ e with ⟨_, e⟩ | ⟨_, e⟩
    · cases e; exact sm_rf
    · obtain ⟨_, _, _, e⟩ := rA_some e
      cases e; exact sm_rf
theorem w_X7_order_74 {r : Int32} {h' : Hp} (k97 : Int32 → Hp → Option (Int32 × Hp)) (hk97 : ∀ (x1 : Int32) (h : Hp), k97 x1 h = some (r, h') → Sm [481] [] [38, 49, 50, 51, 52, 62, 63, 64] [48] h h') : ∀ (n : Nat) (x1 : Int32) (x2 : Int32) (h : Hp), F_X7_order_74 n k97 x1 x2 h = some (r, h') → Sm [481] [] [38, 49, 50, 51, 52, 62, 63, 64] [48] h h' := by
  intro n
  induction n with
  | zero => intro x1 x2 h e; cases e
  | succ n ih =>
    intro x1 x2 h e
    rw [F_X7_order_74] at e
    rcases it_ e with ⟨_, e⟩ | ⟨_, e⟩
    · exact hk97 _ _ e
    · obtain ⟨_, _, eh, e⟩ := wA_some e
      refine sm_A (k := 63) (by decide) eh ?_
      exact ih _ _ _ e
theorem w_X7_order_68 {r : Int32} {h' : Hp} (x1 : Int32) (h : Hp) (e : F_X7_order_68 x1 h = some (r, h')) : Sm [481] [] [38, 49, 50, 51, 52, 62, 63, 64] [48] h h' := by
  unfold F_X7_order_68 at e
  obtain ⟨_, e1, e⟩ := ob_some e
  refine sm_C (w_X7_links _ _ e1) (by decide) ?_
  exact (w_X7_order_74 _ (w_X7_order_97) FU_) _ _ _ e
theorem w_X7_order_62 {r : Int32} {h' : Hp} (k7 : Int32 → Int32 → Hp → Option (Int32 × Hp)) (hk7 : ∀ (x1 : Int32) (x2 : Int32) (h : Hp), k7 x1 x2 h = some (r, h') → Sm [481] [] [38, 49, 50, 51, 52, 62, 63, 64] [48] h h') (x1 : Int32) (x2 : Int32) (h : Hp) (e : F_X7_order_62 k7 x1 x2 h = some (r, h')) : Sm [481] [] [38, 49, 50, 51, 52, 62, 63, 64] [48] h h' := by
  unfold F_X7_order_62 at e
  exact hk7 _ _ _ e
theorem w_X7_order_7 {r : Int32} {h' : Hp} (k68 : Int32 → Hp → Option (Int32 × Hp)) (hk68 : ∀ (x1 : Int32) (h : Hp), k68 x1 h = some (r, h') → Sm [481] [] [38, 49, 50, 51, 52, 62, 63, 64] [48] h h') : ∀ (n : Nat) (x1 : Int32) (x2 : Int32) (h : Hp), F_X7_order_7 n k68 x1 x2 h = some (r, h') → Sm [481] [] [38, 49, 50, 51, 52, 62, 63, 64] [48] h h' := by
  intro n
  induction n with
  | zero => intro x1 x2 h e; cases e
  | succ n ih =>
    intro x1 x2 h e
    rw [F_X7_order_7] at e
    rcases it_ e with ⟨_, e⟩ | ⟨_, e⟩
    · exact hk68 _ _ e
    · obtain ⟨_, _, e⟩ := ob_some e
      rcases it_ e with ⟨_, e⟩ | ⟨_, e⟩
      · exact (w_X7_order_62 _ ih) _ _ _ e
      · rcases it_ e with ⟨_, e⟩ | ⟨_, e⟩
        · obtain ⟨⟨_, _⟩, e1, e⟩ := ob_some e
          refine sm_C (w_X7_refuse _ _ _ _ e1) (by decide) ?_
          cases e; exact sm_rf
        · obtain ⟨_, _, eh, e⟩ := wA_some e
          refine sm_A (k := 64) (by decide) eh ?_
          obtain ⟨_, eh, e⟩ := bd_some e
          refine sm_I (k := 481) (by decide) eh ?_
          exact (w_X7_order_62 _ ih) _ _ _ e
theorem w_X7_order (x1 : Int32) (h : Hp) (r : Int32) (h' : Hp) (e : F_X7_order x1 h = some (r, h')) : Sm [481] [] [38, 49, 50, 51, 52, 62, 63, 64] [48] h h' := by
  unfold F_X7_order at e
  obtain ⟨_, eh, e⟩ := bd_some e
  refine sm_I (k := 481) (by decide) eh ?_
  exact (w_X7_order_7 _ (w_X7_order_68) FU_) _ _ _ e
theorem w_X7_seen_139 {r : Int32} {h' : Hp} (k51 : Int32 → Int32 → Int32 → Int32 → Hp → Option (Int32 × Hp)) (hk51 : ∀ (x1 : Int32) (x2 : Int32) (x3 : Int32) (x4 : Int32) (h : Hp), k51 x1 x2 x3 x4 h = some (r, h') → Sm [] [] [38] [] h h') (x1 : Int32) (x2 : Int32) (x3 : Int32) (x4 : Int32) (s0 : Int32) (h : Hp) (e : F_X7_seen_139 k51 x1 x2 x3 x4 s0 h = some (r, h')) : Sm [] [] [38] [] h h' := by
  unfold F_X7_seen_139 at e
  obtain ⟨_, _, _, e⟩ := rA_some e
  rcases it_ e with ⟨_, e⟩ | ⟨_, e⟩
  · exact hk51 _ _ _ _ _ e
  · obtain ⟨_, _, _, e⟩ := rA_some e
    obtain ⟨_, _, _, e⟩ := rA_some e
    cases e; exact sm_rf
theorem w_X7_seen_64 {r : Int32} {h' : Hp} (k51 : Int32 → Int32 → Int32 → Int32 → Hp → Option (Int32 × Hp)) (hk51 : ∀ (x1 : Int32) (x2 : Int32) (x3 : Int32) (x4 : Int32) (h : Hp), k51 x1 x2 x3 x4 h = some (r, h') → Sm [] [] [38] [] h h') (x1 : Int32) (x2 : Int32) (x3 : Int32) (x4 : Int32) (s0 : Int32) (s1 : Int32) (h : Hp) (e : F_X7_seen_64 k51 x1 x2 x3 x4 s0 s1 h = some (r, h')) : Sm [] [] [38] [] h h' := by
  unfold F_X7_seen_64 at e
  rcases it_ e with ⟨_, e⟩ | ⟨_, e⟩
  · cases e; exact sm_rf
  · rcases it_ e with ⟨_, e⟩ | ⟨_, e⟩
    · obtain ⟨_, _, e⟩ := ob_some e
      exact (w_X7_seen_139 _ hk51) _ _ _ _ _ _ e
    · rcases it_ e with ⟨_, e⟩ | ⟨_, e⟩
      · obtain ⟨_, _, e⟩ := ob_some e
        exact (w_X7_seen_139 _ hk51) _ _ _ _ _ _ e
      · rcases it_ e with ⟨_, e⟩ | ⟨_, e⟩
        · obtain ⟨_, _, e⟩ := ob_some e
          exact (w_X7_seen_139 _ hk51) _ _ _ _ _ _ e
        · rcases it_ e with ⟨_, e⟩ | ⟨_, e⟩
          · obtain ⟨_, _, e⟩ := ob_some e
            exact (w_X7_seen_139 _ hk51) _ _ _ _ _ _ e
          · obtain ⟨_, _, e⟩ := ob_some e
            exact (w_X7_seen_139 _ hk51) _ _ _ _ _ _ e
theorem w_X7_seen_51 {r : Int32} {h' : Hp} : ∀ (n : Nat) (x1 : Int32) (x2 : Int32) (x3 : Int32) (x4 : Int32) (h : Hp), F_X7_seen_51 n x1 x2 x3 x4 h = some (r, h') → Sm [] [] [38] [] h h' := by
  intro n
  induction n with
  | zero => intro x1 x2 x3 x4 h e; cases e
  | succ n ih =>
    intro x1 x2 x3 x4 h e
    rw [F_X7_seen_51] at e
    rcases it_ e with ⟨_, e⟩ | ⟨_, e⟩
    · exact (w_X7_seen_64 _ ih) _ _ _ _ _ _ _ e
    · exact (w_X7_seen_64 _ ih) _ _ _ _ _ _ _ e
theorem w_X7_seen_36 {r : Int32} {h' : Hp} (x1 : Int32) (x2 : Int32) (x3 : Int32) (s0 : Int32) (s1 : Int32) (h : Hp) (e : F_X7_seen_36 x1 x2 x3 s0 s1 h = some (r, h')) : Sm [] [] [38] [] h h' := by
  unfold F_X7_seen_36 at e
  obtain ⟨_, _, e⟩ := ob_some e
  rcases it_ e with ⟨_, e⟩ | ⟨_, e⟩
  · obtain ⟨⟨_, _⟩, e1, e⟩ := ob_some e
    refine sm_C (w_X7_refuse _ _ _ _ e1) (by decide) ?_
    cases e; exact sm_rf
  · exact (w_X7_seen_51 FU_) _ _ _ _ _ e
theorem w_X7_seen (x1 : Int32) (x2 : Int32) (x3 : Int32) (h : Hp) (r : Int32) (h' : Hp) (e : F_X7_seen x1 x2 x3 h = some (r, h')) : Sm [] [] [38] [] h h' := by
  unfold F_X7_seen at e
  obtain ⟨_, _, e⟩ := ob_some e
  rcases it_ e with ⟨_, e⟩ | ⟨_, e⟩
  · obtain ⟨⟨_, _⟩, e1, e⟩ := ob_some e
    refine sm_C (w_X7_refuse _ _ _ _ e1) (by decide) ?_
    cases e; exact sm_rf
  · obtain ⟨_, _, e⟩ := ob_some e
    rcases it_ e with ⟨_, e⟩ | ⟨_, e⟩
    · obtain ⟨⟨_, _⟩, e1, e⟩ := ob_some e
      refine sm_C (w_X7_refuse _ _ _ _ e1) (by decide) ?_
      cases e; exact sm_rf
    · rcases it_ e with ⟨_, e⟩ | ⟨_, e⟩
      · exact (w_X7_seen_36) _ _ _ _ _ _ e
      · exact (w_X7_seen_36) _ _ _ _ _ _ e
theorem w_X7_brickOf (x1 : Int32) (x2 : Int32) (h : Hp) (r : Int32) (h' : Hp) (e : F_X7_brickOf x1 x2 h = some (r, h')) : Sm [] [] [38] [] h h' := by
  unfold F_X7_brickOf at e
  obtain ⟨_, _, e⟩ := ob_some e
  rcases it_ e with ⟨_, e⟩ | ⟨_, e⟩
  · obtain ⟨⟨_, _⟩, e1, e⟩ := ob_some e
    refine sm_C (w_X7_refuse _ _ _ _ e1) (by decide) ?_
    cases e; exact sm_rf
  · rcases it_ e with ⟨_, e⟩ | ⟨_, e⟩
    · obtain ⟨_, _, _, e⟩ := rA_some e
      cases e; exact sm_rf
    · rcases it_ e with ⟨_, e⟩ | ⟨_, e⟩
      · obtain ⟨_, _, _, e⟩ := rA_some e
        cases e; exact sm_rf
      · rcases it_ e with ⟨_, e⟩ | ⟨_, e⟩
        · obtain ⟨_, _, _, e⟩ := rA_some e
          cases e; exact sm_rf
        · rcases it_ e with ⟨_, e⟩ | ⟨_, e⟩
          · obtain ⟨_, _, _, e⟩ := rA_some e
            cases e; exact sm_rf
          · rcases it_ e with ⟨_, e⟩ | ⟨_, e⟩
            · obtain ⟨_, _, _, e⟩ := rA_some e
              cases e; exact sm_rf
            · rcases it_ e with ⟨_, e⟩ | ⟨_, e⟩
              · obtain ⟨_, _, _, e⟩ := rA_some e
                cases e; exact sm_rf
              · rcases it_ e with ⟨_, e⟩ | ⟨_, e⟩
                · obtain ⟨_, _, e⟩ := ob_some e
                  rcases it_ e with ⟨_, e⟩ | ⟨_, e⟩
                  · cases e; exact sm_rf
                  · cases e; exact sm_rf
                · obtain ⟨⟨_, _⟩, e1, e⟩ := ob_some e
                  refine sm_C (w_X7_refuse _ _ _ _ e1) (by decide) ?_
                  cases e; exact sm_rf
theorem w_X7_count_219 {r : Int32} {h' : Hp} (k192 : Int32 → Int32 → Hp → Option (Int32 × Hp)) (hk192 : ∀ (x2 : Int32) (x3 : Int32) (h : Hp), k192 x2 x3 h = some (r, h') → Sm [467] [] [] [48, 53] h h') (x3 : Int32) (s0 : Int32) (s1 : Int32) (h : Hp) (e : F_X7_count_219 k192 x3 s0 s1 h = some (r, h')) : Sm [467] [] [] [48, 53] h h' := by
  unfold F_X7_count_219 at e
  exact hk192 _ _ _ e
theorem w_X7_count_192 {r : Int32} {h' : Hp} : ∀ (n : Nat) (x2 : Int32) (x3 : Int32) (h : Hp), F_X7_count_192 n x2 x3 h = some (r, h') → Sm [467] [] [] [48, 53] h h' := by
  intro n
  induction n with
  | zero => intro x2 x3 h e; cases e
  | succ n ih =>
    intro x2 x3 h e
    rw [F_X7_count_192] at e
    rcases it_ e with ⟨_, e⟩ | ⟨_, e⟩
    · cases e; exact sm_rf
    · obtain ⟨_, _, _, e⟩ := rL_some e
      obtain ⟨_, _, e⟩ := ob_some e
      rcases it_ e with ⟨_, e⟩ | ⟨_, e⟩
      · exact (w_X7_count_219 _ ih) _ _ _ _ e
      · exact (w_X7_count_219 _ ih) _ _ _ _ e
theorem w_X7_count_178 {r : Int32} {h' : Hp} (k117 : Int32 → Int32 → Hp → Option (Int32 × Hp)) (hk117 : ∀ (x2 : Int32) (x3 : Int32) (h : Hp), k117 x2 x3 h = some (r, h') → Sm [467] [] [] [48, 53] h h') (x2 : Int32) (x3 : Int32) (h : Hp) (e : F_X7_count_178 k117 x2 x3 h = some (r, h')) : Sm [467] [] [] [48, 53] h h' := by
  unfold F_X7_count_178 at e
  exact hk117 _ _ _ e
theorem w_X7_count_164 {r : Int32} {h' : Hp} (k133 : Int32 → Int32 → Int64 → Hp → Option (Int32 × Hp)) (hk133 : ∀ (x2 : Int32) (x3 : Int32) (x4 : Int64) (h : Hp), k133 x2 x3 x4 h = some (r, h') → Sm [467] [] [] [48, 53] h h') (x3 : Int32) (x4 : Int64) (s0 : Int32) (s1 : Int32) (h : Hp) (e : F_X7_count_164 k133 x3 x4 s0 s1 h = some (r, h')) : Sm [467] [] [] [48, 53] h h' := by
  unfold F_X7_count_164 at e
  obtain ⟨_, _, e⟩ := bd_some e
  exact hk133 _ _ _ _ e
theorem w_X7_count_133 {r : Int32} {h' : Hp} (k178 : Int32 → Int32 → Hp → Option (Int32 × Hp)) (hk178 : ∀ (x2 : Int32) (x3 : Int32) (h : Hp), k178 x2 x3 h = some (r, h') → Sm [467] [] [] [48, 53] h h') : ∀ (n : Nat) (x2 : Int32) (x3 : Int32) (x4 : Int64) (h : Hp), F_X7_count_133 n k178 x2 x3 x4 h = some (r, h') → Sm [467] [] [] [48, 53] h h' := by
  intro n
  induction n with
  | zero => intro x2 x3 x4 h e; cases e
  | succ n ih =>
    intro x2 x3 x4 h e
    rw [F_X7_count_133] at e
    rcases it_ e with ⟨_, e⟩ | ⟨_, e⟩
    · exact hk178 _ _ _ e
    · obtain ⟨_, _, _, e⟩ := rL_some e
      obtain ⟨_, _, e⟩ := ob_some e
      obtain ⟨_, _, e⟩ := ob_some e
      rcases it_ e with ⟨_, e⟩ | ⟨_, e⟩
      · exact (w_X7_count_164 _ ih) _ _ _ _ _ e
      · exact (w_X7_count_164 _ ih) _ _ _ _ _ e
theorem w_X7_count_117 {r : Int32} {h' : Hp} : ∀ (n : Nat) (x2 : Int32) (x3 : Int32) (h : Hp), F_X7_count_117 n x2 x3 h = some (r, h') → Sm [467] [] [] [48, 53] h h' := by
  intro n
  induction n with
  | zero => intro x2 x3 h e; cases e
  | succ n ih =>
    intro x2 x3 h e
    rw [F_X7_count_117] at e
    rcases it_ e with ⟨_, e⟩ | ⟨_, e⟩
    · cases e; exact sm_rf
    · obtain ⟨_, _, _, e⟩ := rL_some e
      exact (w_X7_count_133 _ (w_X7_count_178 _ ih) FU_) _ _ _ _ e
theorem w_X7_count_88 {r : Int32} {h' : Hp} (k66 : Int32 → Int32 → Hp → Option (Int32 × Hp)) (hk66 : ∀ (x2 : Int32) (x3 : Int32) (h : Hp), k66 x2 x3 h = some (r, h') → Sm [467] [] [] [48, 53] h h') (x3 : Int32) (s0 : Int32) (s1 : Int32) (h : Hp) (e : F_X7_count_88 k66 x3 s0 s1 h = some (r, h')) : Sm [467] [] [] [48, 53] h h' := by
  unfold F_X7_count_88 at e
  exact hk66 _ _ _ e
theorem w_X7_count_66 {r : Int32} {h' : Hp} : ∀ (n : Nat) (x2 : Int32) (x3 : Int32) (h : Hp), F_X7_count_66 n x2 x3 h = some (r, h') → Sm [467] [] [] [48, 53] h h' := by
  intro n
  induction n with
  | zero => intro x2 x3 h e; cases e
  | succ n ih =>
    intro x2 x3 h e
    rw [F_X7_count_66] at e
    rcases it_ e with ⟨_, e⟩ | ⟨_, e⟩
    · cases e; exact sm_rf
    · obtain ⟨_, _, _, e⟩ := rA_some e
      rcases it_ e with ⟨_, e⟩ | ⟨_, e⟩
      · exact (w_X7_count_88 _ ih) _ _ _ _ e
      · exact (w_X7_count_88 _ ih) _ _ _ _ e
theorem w_X7_count_22 {r : Int32} {h' : Hp} (x1 : Int32) (h : Hp) (e : F_X7_count_22 x1 h = some (r, h')) : Sm [467] [] [] [48, 53] h h' := by
  unfold F_X7_count_22 at e
  rcases it_ e with ⟨_, e⟩ | ⟨_, e⟩
  · exact (w_X7_count_66 FU_) _ _ _ e
  · rcases it_ e with ⟨_, e⟩ | ⟨_, e⟩
    · obtain ⟨_, _, e⟩ := ob_some e
      cases e; exact sm_rf
    · rcases it_ e with ⟨_, e⟩ | ⟨_, e⟩
      · cases e; exact sm_rf
      · rcases it_ e with ⟨_, e⟩ | ⟨_, e⟩
        · obtain ⟨_, e1, e⟩ := ob_some e
          refine sm_C (w_X7_findPieces _ _ e1) (by decide) ?_
          exact (w_X7_count_117 FU_) _ _ _ e
        · rcases it_ e with ⟨_, e⟩ | ⟨_, e⟩
          · obtain ⟨_, e1, e⟩ := ob_some e
            refine sm_C (w_X7_findPieces _ _ e1) (by decide) ?_
            exact (w_X7_count_192 FU_) _ _ _ e
          · rcases it_ e with ⟨_, e⟩ | ⟨_, e⟩
            · cases e; exact sm_rf
            · cases e; exact sm_rf
theorem w_X7_count (x1 : Int32) (h : Hp) (r : Int32) (h' : Hp) (e : F_X7_count x1 h = some (r, h')) : Sm [467] [] [] [48, 53] h h' := by
  unfold F_X7_count at e
  rcases it_ e with ⟨_, e⟩ | ⟨_, e⟩
  · exact (w_X7_count_22) _ _ e
  · rcases it_ e with ⟨_, e⟩ | ⟨_, e⟩
    · exact (w_X7_count_22) _ _ e
    · obtain ⟨_, _, _, e⟩ := rA_some e
      cases e; exact sm_rf
