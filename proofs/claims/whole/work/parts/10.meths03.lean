
def F_X4_isSoundPiece_44 (k12 : Int64 → Int32 → Hp → Option (Int32 × Hp)) (x1 : Int64) (x3 : Int32) (h : Hp) : Option (Int32 × Hp) := k12 x1 (x3 + (1 : Int32)) h
theorem A_X4_isSoundPiece_44 {X : CX} {h' : Hp} {r : Int32} (hn : (xc_ X).maxLocals = 4) (hX : Ok_ X RX4 cX4_isSoundPiece 5) (hR : Rt_ X (some .boolean) (some (.int r)) h') (k12 : Int64 → Int32 → Hp → Option (Int32 × Hp)) (hk12 : ∀ (x1 : Int64) (x3 : Int32) (h : Hp), k12 x1 x3 h = some (r, h') → At_ X 12 [(0, .ref 4), (1, .long x1), (3, .int x3)] [] h) (x1 : Int64) (x3 : Int32) (h : Hp) (e : F_X4_isSoundPiece_44 k12 x1 x3 h = some (r, h')) : At_ X 44 [(0, .ref 4), (1, .long x1), (3, .int x3)] [] h := by
  unfold F_X4_isSoundPiece_44 at e
  refine at_iinc hX hn (by decide) rfl (v := 1) (by decide) dX4_isSoundPiece_44 ?_
  refine at_goto hX (tgt := 12) (by decide) dX4_isSoundPiece_47 ?_
  exact at_sub [0, 1, 3] rfl (hk12 _ _ _ e)
def F_X4_isSoundPiece_12 (n : Nat) (x1 : Int64) (x3 : Int32) (h : Hp) : Option (Int32 × Hp) := match n with
  | 0 => none
  | n + 1 => (F_X2_ever  h).bind fun v17 => if v17 ≤ x3 then some ((1 : Int32), h) else if (lu_ x1 x3) &&& (1 : Int64) = (1 : Int64) then (F_X4_countWeak x3 x1 h).bind fun v36 => if v36 ≤ (0 : Int32) then (F_X4_isSoundPiece_44 (F_X4_isSoundPiece_12 n)) x1 x3 h else some ((0 : Int32), h) else (F_X4_isSoundPiece_44 (F_X4_isSoundPiece_12 n)) x1 x3 h
theorem A_X4_isSoundPiece_12 {X : CX} {h' : Hp} {r : Int32} (hn : (xc_ X).maxLocals = 4) (hX : Ok_ X RX4 cX4_isSoundPiece 5) (hR : Rt_ X (some .boolean) (some (.int r)) h') : ∀ (n : Nat) (x1 : Int64) (x3 : Int32) (h : Hp), F_X4_isSoundPiece_12 n x1 x3 h = some (r, h') → At_ X 12 [(0, .ref 4), (1, .long x1), (3, .int x3)] [] h := by
  intro n
  induction n with
  | zero => intro x1 x3 h e; cases e
  | succ n ih =>
    intro x1 x3 h e
    rw [F_X4_isSoundPiece_12] at e
    refine at_iload_n hX rfl rfl dX4_isSoundPiece_12 ?_
    refine at_aload_n hX rfl rfl dX4_isSoundPiece_13 ?_
    refine gf_X4_22 hX dX4_isSoundPiece_14 ?_
    obtain ⟨v17, e1, e⟩ := ob_some e
    refine at_callV0 hX cv_X4_50 (by decide) (c_X2_ever _ _  _ e1) (Nat.le_of_ble_eq_true rfl) dX4_isSoundPiece_17 ?_
    refine at_icmp_ge hX (tgt := 50) (by decide) dX4_isSoundPiece_20 (fun c20 => ?_) (fun c20 => ?_)
    · replace e := ip_ c20 e
      refine at_iconst hX (v := 1) (by decide) dX4_isSoundPiece_50 ?_
      exact at_ireturn hX hR rfl (by cases e; rfl) (by cases e; rfl) dX4_isSoundPiece_51
    · replace e := in_ c20 e
      refine at_lload_n hX rfl rfl dX4_isSoundPiece_23 ?_
      refine at_iload_n hX rfl rfl dX4_isSoundPiece_24 ?_
      refine at_lushr hX dX4_isSoundPiece_25 ?_
      refine at_lconst hX (v := 1) (by decide) dX4_isSoundPiece_26 ?_
      refine at_land hX dX4_isSoundPiece_27 ?_
      refine at_lconst hX (v := 1) (by decide) dX4_isSoundPiece_28 ?_
      refine at_lcmp_ne hX (tgt := 44) (by decide) dX4_isSoundPiece_29 dX4_isSoundPiece_30 (fun c29 => ?_) (fun c29 => ?_)
      · replace e := in_ c29 e
        exact at_sub [0, 1, 3] rfl ((A_X4_isSoundPiece_44 hn hX hR (F_X4_isSoundPiece_12 n) ih) _ _ _ e)
      · replace e := ip_ c29 e
        refine at_aload_n hX rfl rfl dX4_isSoundPiece_33 ?_
        refine at_iload_n hX rfl rfl dX4_isSoundPiece_34 ?_
        refine at_lload_n hX rfl rfl dX4_isSoundPiece_35 ?_
        obtain ⟨v36, e1, e⟩ := ob_some e
        refine at_callV2 hX cv_X4_133 (by decide) (c_X4_countWeak _ _ _ _ _ e1) (Nat.le_of_ble_eq_true rfl) dX4_isSoundPiece_36 ?_
        refine at_if_le hX (tgt := 44) (by decide) dX4_isSoundPiece_39 (fun c39 => ?_) (fun c39 => ?_)
        · replace e := ip_ c39 e
          exact at_sub [0, 1, 3] rfl ((A_X4_isSoundPiece_44 hn hX hR (F_X4_isSoundPiece_12 n) ih) _ _ _ e)
        · replace e := in_ c39 e
          refine at_iconst hX (v := 0) (by decide) dX4_isSoundPiece_42 ?_
          exact at_ireturn hX hR rfl (by cases e; rfl) (by cases e; rfl) dX4_isSoundPiece_43
def F_X4_isSoundPiece (x1 : Int64) (h : Hp) : Option (Int32 × Hp) := (F_X4_stands x1 h).bind fun ((v2, h2) : Int32 × Hp) => if v2 = (0 : Int32) then some ((0 : Int32), h2) else (F_X4_isSoundPiece_12 FU_) x1 (0 : Int32) h2
theorem c_X4_isSoundPiece (l : Launch) (G : Gl) (x1 : Int64) (h : Hp) {r : Int32} {h' : Hp} (e : F_X4_isSoundPiece x1 h = some (r, h')) : Does l G 5 M_X4_isSoundPiece [.ref 4, .long x1] h (some (.int r)) h' := by
  refine Does.of (by decide) rfl (Nat.le_of_ble_eq_true rfl) (fun X hl hG hn hX hR => ?_)
  unfold F_X4_isSoundPiece at e
  subst hl; subst hG
  show At_ X 0 [(0, .ref 4), (1, .long x1)] [] h
  refine at_aload_n hX rfl rfl dX4_isSoundPiece_0 ?_
  refine at_lload_n hX rfl rfl dX4_isSoundPiece_1 ?_
  obtain ⟨⟨v2, h2⟩, e1, e⟩ := ob_some e
  refine at_callV1 hX cv_X4_130 (by decide) (c_X4_stands _ _ _ _ e1) (Nat.le_of_ble_eq_true rfl) dX4_isSoundPiece_2 ?_
  refine at_if_ne hX (tgt := 10) (by decide) dX4_isSoundPiece_5 (fun c5 => ?_) (fun c5 => ?_)
  · replace e := in_ c5 e
    refine at_iconst hX (v := 0) (by decide) dX4_isSoundPiece_10 ?_
    refine at_istore_n hX rfl hn (by decide) dX4_isSoundPiece_11 ?_
    exact at_sub [0, 1, 3] rfl ((A_X4_isSoundPiece_12 hn hX hR FU_) _ _ _ e)
  · replace e := ip_ c5 e
    refine at_iconst hX (v := 0) (by decide) dX4_isSoundPiece_8 ?_
    exact at_ireturn hX hR rfl (by cases e; rfl) (by cases e; rfl) dX4_isSoundPiece_9

def F_X4_isSound_10 (n : Nat) (x1 : Int64) (x3 : Int32) (h : Hp) : Option (Int32 × Hp) := match n with
  | 0 => none
  | n + 1 => if (40 : Int32) ≤ x3 then some ((1 : Int32), h) else if x1 = (0 : Int64) then some ((1 : Int32), h) else (F_X4_reach (x1 &&& (-x1)) x1 h).bind fun v28 => bd_ (x1 &&& (v28 ^^^ (-1 : Int64))) fun y41 => (F_X4_isSoundPiece v28 h).bind fun ((v45, h45) : Int32 × Hp) => if v45 = (0 : Int32) then some ((0 : Int32), h45) else (F_X4_isSound_10 n) y41 (x3 + (1 : Int32)) h45
theorem A_X4_isSound_10 {X : CX} {h' : Hp} {r : Int32} (hn : (xc_ X).maxLocals = 6) (hX : Ok_ X RX4 cX4_isSound 6) (hR : Rt_ X (some .boolean) (some (.int r)) h') : ∀ (n : Nat) (x1 : Int64) (x3 : Int32) (h : Hp), F_X4_isSound_10 n x1 x3 h = some (r, h') → At_ X 10 [(0, .ref 4), (1, .long x1), (3, .int x3)] [] h := by
  intro n
  induction n with
  | zero => intro x1 x3 h e; cases e
  | succ n ih =>
    intro x1 x3 h e
    rw [F_X4_isSound_10] at e
    refine at_iload_n hX rfl rfl dX4_isSound_10 ?_
    refine at_bipush hX (v := 40) (by decide) dX4_isSound_11 ?_
    refine at_icmp_ge hX (tgt := 59) (by decide) dX4_isSound_13 (fun c13 => ?_) (fun c13 => ?_)
    · replace e := ip_ c13 e
      refine at_iconst hX (v := 1) (by decide) dX4_isSound_59 ?_
      exact at_ireturn hX hR rfl (by cases e; rfl) (by cases e; rfl) dX4_isSound_60
    · replace e := in_ c13 e
      refine at_lload_n hX rfl rfl dX4_isSound_16 ?_
      refine at_lconst hX (v := 0) (by decide) dX4_isSound_17 ?_
      refine at_lcmp_eq hX (tgt := 59) (by decide) dX4_isSound_18 dX4_isSound_19 (fun c18 => ?_) (fun c18 => ?_)
      · replace e := ip_ c18 e
        refine at_iconst hX (v := 1) (by decide) dX4_isSound_59 ?_
        exact at_ireturn hX hR rfl (by cases e; rfl) (by cases e; rfl) dX4_isSound_60
      · replace e := in_ c18 e
        refine at_aload_n hX rfl rfl dX4_isSound_22 ?_
        refine at_lload_n hX rfl rfl dX4_isSound_23 ?_
        refine at_lload_n hX rfl rfl dX4_isSound_24 ?_
        refine at_lneg hX dX4_isSound_25 ?_
        refine at_land hX dX4_isSound_26 ?_
        refine at_lload_n hX rfl rfl dX4_isSound_27 ?_
        obtain ⟨v28, e1, e⟩ := ob_some e
        refine at_callV2 hX cv_X4_38 (by decide) (c_X4_reach _ _ _ _ _ e1) (Nat.le_of_ble_eq_true rfl) dX4_isSound_28 ?_
        refine at_lstore hX hn (by decide) dX4_isSound_31 ?_
        refine at_lload_n hX rfl rfl dX4_isSound_33 ?_
        refine at_lload hX rfl dX4_isSound_34 ?_
        refine at_ldc2 hX wk_X4_36 dX4_isSound_36 ?_
        refine at_lxor hX dX4_isSound_39 ?_
        refine at_land hX dX4_isSound_40 ?_
        obtain ⟨y41, ey41, e⟩ := bd_some e
        refine at_tl ey41 ?_
        refine at_lstore_n hX rfl hn (by decide) dX4_isSound_41 ?_
        refine at_aload_n hX rfl rfl dX4_isSound_42 ?_
        refine at_lload hX rfl dX4_isSound_43 ?_
        obtain ⟨⟨v45, h45⟩, e1, e⟩ := ob_some e
        refine at_callV1 hX cv_X4_127 (by decide) (c_X4_isSoundPiece _ _ _ _ e1) (Nat.le_of_ble_eq_true rfl) dX4_isSound_45 ?_
        refine at_if_ne hX (tgt := 53) (by decide) dX4_isSound_48 (fun c48 => ?_) (fun c48 => ?_)
        · replace e := in_ c48 e
          refine at_iinc hX hn (by decide) rfl (v := 1) (by decide) dX4_isSound_53 ?_
          refine at_goto hX (tgt := 10) (by decide) dX4_isSound_56 ?_
          exact at_sub [0, 1, 3] rfl (ih _ _ _ e)
        · replace e := ip_ c48 e
          refine at_iconst hX (v := 0) (by decide) dX4_isSound_51 ?_
          exact at_ireturn hX hR rfl (by cases e; rfl) (by cases e; rfl) dX4_isSound_52
def F_X4_isSound (h : Hp) : Option (Int32 × Hp) := (F_X2_there  h).bind fun v4 => (F_X4_isSound_10 FU_) v4 (0 : Int32) h
theorem c_X4_isSound (l : Launch) (G : Gl) (h : Hp) {r : Int32} {h' : Hp} (e : F_X4_isSound  h = some (r, h')) : Does l G 6 M_X4_isSound [.ref 4] h (some (.int r)) h' := by
  refine Does.of (by decide) rfl (Nat.le_of_ble_eq_true rfl) (fun X hl hG hn hX hR => ?_)
  unfold F_X4_isSound at e
  subst hl; subst hG
  show At_ X 0 [(0, .ref 4)] [] h
  refine at_aload_n hX rfl rfl dX4_isSound_0 ?_
  refine gf_X4_22 hX dX4_isSound_1 ?_
  obtain ⟨v4, e1, e⟩ := ob_some e
  refine at_callV0 hX cv_X4_42 (by decide) (c_X2_there _ _  _ e1) (Nat.le_of_ble_eq_true rfl) dX4_isSound_4 ?_
  refine at_lstore_n hX rfl hn (by decide) dX4_isSound_7 ?_
  refine at_iconst hX (v := 0) (by decide) dX4_isSound_8 ?_
  refine at_istore_n hX rfl hn (by decide) dX4_isSound_9 ?_
  exact at_sub [0, 1, 3] rfl ((A_X4_isSound_10 hn hX hR FU_) _ _ _ e)

def F_X5_forget (h : Hp) : Option Hp := bd_ (sI_ h 328 (0 : Int32)) fun h2 => some h2
theorem c_X5_forget (l : Launch) (G : Gl) (h : Hp) {h' : Hp} (e : F_X5_forget  h = some h') : Does l G 1 M_X5_forget [.ref 5] h none h' := by
  refine Does.of (by decide) rfl (Nat.le_of_ble_eq_true rfl) (fun X hl hG hn hX hR => ?_)
  unfold F_X5_forget at e
  subst hl; subst hG
  show At_ X 0 [(0, .ref 5)] [] h
  refine at_aload_n hX rfl rfl dX5_forget_0 ?_
  refine at_iconst hX (v := 0) (by decide) dX5_forget_1 ?_
  obtain ⟨h2, eh2, e⟩ := bd_some e
  refine pf_X5_34 hX rfl rfl dX5_forget_2 ?_
  refine at_th eh2 ?_
  exact at_return hX hR rfl (by cases e; rfl) dX5_forget_5

def F_X5_brickAtStep (x1 : Int32) (h : Hp) : Option Int32 := if x1 < (0 : Int32) then some (-9 : Int32) else if gI_ h 327 ≤ x1 then some (-9 : Int32) else rA_ h 35 12 x1 fun v17 => some v17
theorem c_X5_brickAtStep (l : Launch) (G : Gl) (x1 : Int32) (h : Hp) {r : Int32} (e : F_X5_brickAtStep x1 h = some r) : Does l G 1 M_X5_brickAtStep [.ref 5, .int x1] h (some (.int r)) h := by
  refine Does.of (by decide) rfl (Nat.le_of_ble_eq_true rfl) (fun X hl hG hn hX hR => ?_)
  unfold F_X5_brickAtStep at e
  subst hl; subst hG
  show At_ X 0 [(0, .ref 5), (1, .int x1)] [] h
  refine at_iload_n hX rfl rfl dX5_brickAtStep_0 ?_
  refine at_if_lt hX (tgt := 21) (by decide) dX5_brickAtStep_1 (fun c1 => ?_) (fun c1 => ?_)
  · replace e := ip_ c1 e
    refine at_bipush hX (v := -9) (by decide) dX5_brickAtStep_21 ?_
    exact at_ireturn hX hR rfl (by cases e; rfl) rfl dX5_brickAtStep_23
  · replace e := in_ c1 e
    refine at_iload_n hX rfl rfl dX5_brickAtStep_4 ?_
    refine at_aload_n hX rfl rfl dX5_brickAtStep_5 ?_
    refine gf_X5_38 hX dX5_brickAtStep_6 ?_
    refine at_icmp_ge hX (tgt := 21) (by decide) dX5_brickAtStep_9 (fun c9 => ?_) (fun c9 => ?_)
    · replace e := ip_ c9 e
      refine at_bipush hX (v := -9) (by decide) dX5_brickAtStep_21 ?_
      exact at_ireturn hX hR rfl (by cases e; rfl) rfl dX5_brickAtStep_23
    · replace e := in_ c9 e
      refine at_aload_n hX rfl rfl dX5_brickAtStep_12 ?_
      refine gf_X5_19 hX dX5_brickAtStep_13 ?_
      refine at_iload_n hX rfl rfl dX5_brickAtStep_16 ?_
      obtain ⟨hi, v17, ev17, e⟩ := rA_some e
      refine at_iald hX (o := 35) (by decide) rfl hi dX5_brickAtStep_17 ?_
      refine at_ti ev17 ?_
      refine at_goto hX (tgt := 23) (by decide) dX5_brickAtStep_18 ?_
      exact at_ireturn hX hR rfl (by cases e; rfl) rfl dX5_brickAtStep_23

def F_X5_collectBricks_82 (k7 : Int32 → Hp → Option Hp) (x1 : Int32) (h : Hp) : Option Hp := k7 (x1 + (1 : Int32)) h
theorem A_X5_collectBricks_82 {X : CX} {h' : Hp} (hn : (xc_ X).maxLocals = 2) (hX : Ok_ X RX5 cX5_collectBricks 3) (hR : Rt_ X none none h') (k7 : Int32 → Hp → Option Hp) (hk7 : ∀ (x1 : Int32) (h : Hp), k7 x1 h = some h' → At_ X 7 [(0, .ref 5), (1, .int x1)] [] h) (x1 : Int32) (h : Hp) (e : F_X5_collectBricks_82 k7 x1 h = some h') : At_ X 82 [(0, .ref 5), (1, .int x1)] [] h := by
  unfold F_X5_collectBricks_82 at e
  refine at_iinc hX hn (by decide) rfl (v := 1) (by decide) dX5_collectBricks_82 ?_
  refine at_goto hX (tgt := 7) (by decide) dX5_collectBricks_85 ?_
  exact at_sub [0, 1] rfl (hk7 _ _ e)
def F_X5_collectBricks_7 (n : Nat) (x1 : Int32) (h : Hp) : Option Hp := match n with
  | 0 => none
  | n + 1 => (F_X2_ever  h).bind fun v12 => if v12 ≤ x1 then some h else (F_X2_isThere x1 h).bind fun v23 => if v23 = (0 : Int32) then (F_X5_collectBricks_82 (F_X5_collectBricks_7 n)) x1 h else if (12 : Int32) ≤ gI_ h 326 then (F_X5_collectBricks_82 (F_X5_collectBricks_7 n)) x1 h else wA_ h 33 12 (gI_ h 326) x1 fun h47 => (F_X2_there  h47).bind fun v65 => (F_X2_coveringFromAbove x1 v65 h47).bind fun v68 => wL_ h47 34 12 (gI_ h47 326) v68 fun h71 => bd_ (sI_ h71 326 ((gI_ h71 326) + (1 : Int32))) fun h79 => (F_X5_collectBricks_82 (F_X5_collectBricks_7 n)) x1 h79
theorem A_X5_collectBricks_7 {X : CX} {h' : Hp} (hn : (xc_ X).maxLocals = 2) (hX : Ok_ X RX5 cX5_collectBricks 3) (hR : Rt_ X none none h') : ∀ (n : Nat) (x1 : Int32) (h : Hp), F_X5_collectBricks_7 n x1 h = some h' → At_ X 7 [(0, .ref 5), (1, .int x1)] [] h := by
  intro n
  induction n with
  | zero => intro x1 h e; cases e
  | succ n ih =>
    intro x1 h e
    rw [F_X5_collectBricks_7] at e
    refine at_iload_n hX rfl rfl dX5_collectBricks_7 ?_
    refine at_aload_n hX rfl rfl dX5_collectBricks_8 ?_
    refine gf_X5_26 hX dX5_collectBricks_9 ?_
    obtain ⟨v12, e1, e⟩ := ob_some e
    refine at_callV0 hX cv_X5_58 (by decide) (c_X2_ever _ _  _ e1) (Nat.le_of_ble_eq_true rfl) dX5_collectBricks_12 ?_
    refine at_icmp_ge hX (tgt := 88) (by decide) dX5_collectBricks_15 (fun c15 => ?_) (fun c15 => ?_)
    · replace e := ip_ c15 e
      exact at_return hX hR rfl (by cases e; rfl) dX5_collectBricks_88
    · replace e := in_ c15 e
      refine at_aload_n hX rfl rfl dX5_collectBricks_18 ?_
      refine gf_X5_26 hX dX5_collectBricks_19 ?_
      refine at_iload_n hX rfl rfl dX5_collectBricks_22 ?_
      obtain ⟨v23, e1, e⟩ := ob_some e
      refine at_callV1 hX cv_X5_64 (by decide) (c_X2_isThere _ _ _ _ e1) (Nat.le_of_ble_eq_true rfl) dX5_collectBricks_23 ?_
      refine at_if_eq hX (tgt := 82) (by decide) dX5_collectBricks_26 (fun c26 => ?_) (fun c26 => ?_)
      · replace e := ip_ c26 e
        exact at_sub [0, 1] rfl ((A_X5_collectBricks_82 hn hX hR (F_X5_collectBricks_7 n) ih) _ _ e)
      · replace e := in_ c26 e
        refine at_aload_n hX rfl rfl dX5_collectBricks_29 ?_
        refine gf_X5_51 hX dX5_collectBricks_30 ?_
        refine at_bipush hX (v := 12) (by decide) dX5_collectBricks_33 ?_
        refine at_icmp_ge hX (tgt := 82) (by decide) dX5_collectBricks_35 (fun c35 => ?_) (fun c35 => ?_)
        · replace e := ip_ c35 e
          exact at_sub [0, 1] rfl ((A_X5_collectBricks_82 hn hX hR (F_X5_collectBricks_7 n) ih) _ _ e)
        · replace e := in_ c35 e
          refine at_aload_n hX rfl rfl dX5_collectBricks_38 ?_
          refine gf_X5_11 hX dX5_collectBricks_39 ?_
          refine at_aload_n hX rfl rfl dX5_collectBricks_42 ?_
          refine gf_X5_51 hX dX5_collectBricks_43 ?_
          refine at_iload_n hX rfl rfl dX5_collectBricks_46 ?_
          obtain ⟨hi, h47, eh47, e⟩ := wA_some e
          refine at_iast hX (o := 33) (by decide) rfl hi dX5_collectBricks_47 ?_
          refine at_th eh47 ?_
          refine at_aload_n hX rfl rfl dX5_collectBricks_48 ?_
          refine gf_X5_15 hX dX5_collectBricks_49 ?_
          refine at_aload_n hX rfl rfl dX5_collectBricks_52 ?_
          refine gf_X5_51 hX dX5_collectBricks_53 ?_
          refine at_aload_n hX rfl rfl dX5_collectBricks_56 ?_
          refine gf_X5_26 hX dX5_collectBricks_57 ?_
          refine at_iload_n hX rfl rfl dX5_collectBricks_60 ?_
          refine at_aload_n hX rfl rfl dX5_collectBricks_61 ?_
          refine gf_X5_26 hX dX5_collectBricks_62 ?_
          obtain ⟨v65, e1, e⟩ := ob_some e
          refine at_callV0 hX cv_X5_68 (by decide) (c_X2_there _ _  _ e1) (Nat.le_of_ble_eq_true rfl) dX5_collectBricks_65 ?_
          obtain ⟨v68, e1, e⟩ := ob_some e
          refine at_callV2 hX cv_X5_72 (by decide) (c_X2_coveringFromAbove _ _ _ _ _ e1) (Nat.le_of_ble_eq_true rfl) dX5_collectBricks_68 ?_
          obtain ⟨hi, h71, eh71, e⟩ := wL_some e
          refine at_last hX (o := 34) (by decide) rfl hi dX5_collectBricks_71 ?_
          refine at_th eh71 ?_
          refine at_aload_n hX rfl rfl dX5_collectBricks_72 ?_
          refine at_dup hX rfl dX5_collectBricks_73 ?_
          refine gf_X5_51 hX dX5_collectBricks_74 ?_
          refine at_iconst hX (v := 1) (by decide) dX5_collectBricks_77 ?_
          refine at_iadd hX dX5_collectBricks_78 ?_
          obtain ⟨h79, eh79, e⟩ := bd_some e
          refine pf_X5_51 hX dX5_collectBricks_79 ?_
          refine at_th eh79 ?_
          exact at_sub [0, 1] rfl ((A_X5_collectBricks_82 hn hX hR (F_X5_collectBricks_7 n) ih) _ _ e)
def F_X5_collectBricks (h : Hp) : Option Hp := bd_ (sI_ h 326 (0 : Int32)) fun h2 => (F_X5_collectBricks_7 FU_) (0 : Int32) h2
theorem c_X5_collectBricks (l : Launch) (G : Gl) (h : Hp) {h' : Hp} (e : F_X5_collectBricks  h = some h') : Does l G 3 M_X5_collectBricks [.ref 5] h none h' := by
  refine Does.of (by decide) rfl (Nat.le_of_ble_eq_true rfl) (fun X hl hG hn hX hR => ?_)
  unfold F_X5_collectBricks at e
  subst hl; subst hG
  show At_ X 0 [(0, .ref 5)] [] h
  refine at_aload_n hX rfl rfl dX5_collectBricks_0 ?_
  refine at_iconst hX (v := 0) (by decide) dX5_collectBricks_1 ?_
  obtain ⟨h2, eh2, e⟩ := bd_some e
  refine pf_X5_51 hX dX5_collectBricks_2 ?_
  refine at_th eh2 ?_
  refine at_iconst hX (v := 0) (by decide) dX5_collectBricks_5 ?_
  refine at_istore_n hX rfl hn (by decide) dX5_collectBricks_6 ?_
  exact at_sub [0, 1] rfl ((A_X5_collectBricks_7 hn hX hR FU_) _ _ e)

def F_X5_goesOn_157 (kr : Int32 → Int64 → Int32 → Hp → Option (Int32 × Hp)) (k21 : Int32 → Int64 → Int32 → Int32 → Hp → Option (Int32 × Hp)) (x1 : Int32) (x2 : Int64) (x4 : Int32) (x5 : Int32) (h : Hp) : Option (Int32 × Hp) := k21 x1 x2 x4 (x5 + (1 : Int32)) h
theorem A_X5_goesOn_157 {dr : Nat} {X : CX} {h' : Hp} {r : Int32} (hn : (xc_ X).maxLocals = 9) (hX : Ok_ X RX5 cX5_goesOn (dr + 1)) (hR : Rt_ X (some .boolean) (some (.int r)) h') (kr : Int32 → Int64 → Int32 → Hp → Option (Int32 × Hp)) (hkr : 6 ≤ dr ∧ ∀ (x1 : Int32) (x2 : Int64) (x4 : Int32) (h : Hp) (r : Int32) (h' : Hp), kr x1 x2 x4 h = some (r, h') → Does (xl_ X) (xG_ X) dr M_X5_goesOn [.ref 5, .int x1, .long x2, .int x4] h (some (.int r)) h') (k21 : Int32 → Int64 → Int32 → Int32 → Hp → Option (Int32 × Hp)) (hk21 : ∀ (x1 : Int32) (x2 : Int64) (x4 : Int32) (x5 : Int32) (h : Hp), k21 x1 x2 x4 x5 h = some (r, h') → At_ X 21 [(0, .ref 5), (1, .int x1), (2, .long x2), (4, .int x4), (5, .int x5)] [] h) (x1 : Int32) (x2 : Int64) (x4 : Int32) (x5 : Int32) (h : Hp) (e : F_X5_goesOn_157 kr k21 x1 x2 x4 x5 h = some (r, h')) : At_ X 157 [(0, .ref 5), (1, .int x1), (2, .long x2), (4, .int x4), (5, .int x5)] [] h := by
  unfold F_X5_goesOn_157 at e
  refine at_iinc hX hn (by decide) rfl (v := 1) (by decide) dX5_goesOn_157 ?_
  refine at_goto hX (tgt := 21) (by decide) dX5_goesOn_160 ?_
  exact at_sub [0, 1, 2, 4, 5] rfl (hk21 _ _ _ _ _ e)
def F_X5_goesOn_149 (kr : Int32 → Int64 → Int32 → Hp → Option (Int32 × Hp)) (k21 : Int32 → Int64 → Int32 → Int32 → Hp → Option (Int32 × Hp)) (x1 : Int32) (x2 : Int64) (x4 : Int32) (x5 : Int32) (x6 : Int32) (h : Hp) : Option (Int32 × Hp) := wA_ h 36 4096 x6 (1 : Int32) fun h156 => (F_X5_goesOn_157 kr k21) x1 x2 x4 x5 h156
theorem A_X5_goesOn_149 {dr : Nat} {X : CX} {h' : Hp} {r : Int32} (hn : (xc_ X).maxLocals = 9) (hX : Ok_ X RX5 cX5_goesOn (dr + 1)) (hR : Rt_ X (some .boolean) (some (.int r)) h') (kr : Int32 → Int64 → Int32 → Hp → Option (Int32 × Hp)) (hkr : 6 ≤ dr ∧ ∀ (x1 : Int32) (x2 : Int64) (x4 : Int32) (h : Hp) (r : Int32) (h' : Hp), kr x1 x2 x4 h = some (r, h') → Does (xl_ X) (xG_ X) dr M_X5_goesOn [.ref 5, .int x1, .long x2, .int x4] h (some (.int r)) h') (k21 : Int32 → Int64 → Int32 → Int32 → Hp → Option (Int32 × Hp)) (hk21 : ∀ (x1 : Int32) (x2 : Int64) (x4 : Int32) (x5 : Int32) (h : Hp), k21 x1 x2 x4 x5 h = some (r, h') → At_ X 21 [(0, .ref 5), (1, .int x1), (2, .long x2), (4, .int x4), (5, .int x5)] [] h) (x1 : Int32) (x2 : Int64) (x4 : Int32) (x5 : Int32) (x6 : Int32) (h : Hp) (e : F_X5_goesOn_149 kr k21 x1 x2 x4 x5 x6 h = some (r, h')) : At_ X 149 [(0, .ref 5), (1, .int x1), (2, .long x2), (4, .int x4), (5, .int x5), (6, .int x6)] [] h := by
  unfold F_X5_goesOn_149 at e
  refine at_aload_n hX rfl rfl dX5_goesOn_149 ?_
  refine gf_X5_22 hX dX5_goesOn_150 ?_
  refine at_iload hX rfl dX5_goesOn_153 ?_
  refine at_iconst hX (v := 1) (by decide) dX5_goesOn_155 ?_
  obtain ⟨hi, h156, eh156, e⟩ := wA_some e
  refine at_zast hX (o := 36) (by decide) rfl (by decide) hi dX5_goesOn_156 ?_
  refine at_th eh156 ?_
  exact at_sub [0, 1, 2, 4, 5] rfl ((A_X5_goesOn_157 hn hX hR kr hkr k21 hk21) _ _ _ _ _ e)
def F_X5_goesOn_21 (n : Nat) (kr : Int32 → Int64 → Int32 → Hp → Option (Int32 × Hp)) (x1 : Int32) (x2 : Int64) (x4 : Int32) (x5 : Int32) (h : Hp) : Option (Int32 × Hp) := match n with
  | 0 => none
  | n + 1 => if gI_ h 326 ≤ x5 then some ((0 : Int32), h) else bd_ (x1 ||| (is_ (1 : Int32) x5)) fun y36 => if y36 = x1 then (F_X5_goesOn_157 kr (F_X5_goesOn_21 n kr)) x1 x2 x4 x5 h else if (4096 : Int32) ≤ y36 then (F_X5_goesOn_157 kr (F_X5_goesOn_21 n kr)) x1 x2 x4 x5 h else rA_ h 36 4096 y36 fun v58 => if v58 = (0 : Int32) then rL_ h 34 12 x5 fun v68 => if v68 &&& x2 = (0 : Int64) then rA_ h 33 12 x5 fun v87 => bd_ (x2 ||| (ls_ (1 : Int64) v87)) fun y90 => rA_ h 33 12 x5 fun v104 => wA_ h 35 12 x4 v104 fun h105 => rA_ h105 33 12 x5 fun v120 => (F_X4_pieceWith v120 y90 h105).bind fun v123 => (F_X4_isSoundPiece v123 h105).bind fun ((v126, h126) : Int32 × Hp) => if v126 = (0 : Int32) then (F_X5_goesOn_149 kr (F_X5_goesOn_21 n kr)) x1 x2 x4 x5 y36 h126 else (kr y36 y90 (x4 + (1 : Int32)) h126).bind fun ((v141, h141) : Int32 × Hp) => if v141 = (0 : Int32) then (F_X5_goesOn_149 kr (F_X5_goesOn_21 n kr)) x1 x2 x4 x5 y36 h141 else some ((1 : Int32), h141) else (F_X5_goesOn_157 kr (F_X5_goesOn_21 n kr)) x1 x2 x4 x5 h else (F_X5_goesOn_157 kr (F_X5_goesOn_21 n kr)) x1 x2 x4 x5 h
theorem A_X5_goesOn_21 {dr : Nat} {X : CX} {h' : Hp} {r : Int32} (hn : (xc_ X).maxLocals = 9) (hX : Ok_ X RX5 cX5_goesOn (dr + 1)) (hR : Rt_ X (some .boolean) (some (.int r)) h') (kr : Int32 → Int64 → Int32 → Hp → Option (Int32 × Hp)) (hkr : 6 ≤ dr ∧ ∀ (x1 : Int32) (x2 : Int64) (x4 : Int32) (h : Hp) (r : Int32) (h' : Hp), kr x1 x2 x4 h = some (r, h') → Does (xl_ X) (xG_ X) dr M_X5_goesOn [.ref 5, .int x1, .long x2, .int x4] h (some (.int r)) h') : ∀ (n : Nat) (x1 : Int32) (x2 : Int64) (x4 : Int32) (x5 : Int32) (h : Hp), F_X5_goesOn_21 n kr x1 x2 x4 x5 h = some (r, h') → At_ X 21 [(0, .ref 5), (1, .int x1), (2, .long x2), (4, .int x4), (5, .int x5)] [] h := by
  intro n
  induction n with
  | zero => intro x1 x2 x4 x5 h e; cases e
  | succ n ih =>
    intro x1 x2 x4 x5 h e
    rw [F_X5_goesOn_21] at e
    refine at_iload hX rfl dX5_goesOn_21 ?_
    refine at_aload_n hX rfl rfl dX5_goesOn_23 ?_
    refine gf_X5_51 hX dX5_goesOn_24 ?_
    refine at_icmp_ge hX (tgt := 163) (by decide) dX5_goesOn_27 (fun c27 => ?_) (fun c27 => ?_)
    · replace e := ip_ c27 e
      refine at_iconst hX (v := 0) (by decide) dX5_goesOn_163 ?_
      exact at_ireturn hX hR rfl (by cases e; rfl) (by cases e; rfl) dX5_goesOn_164
    · replace e := in_ c27 e
      refine at_iload_n hX rfl rfl dX5_goesOn_30 ?_
      refine at_iconst hX (v := 1) (by decide) dX5_goesOn_31 ?_
      refine at_iload hX rfl dX5_goesOn_32 ?_
      refine at_ishl hX dX5_goesOn_34 ?_
      refine at_ior hX dX5_goesOn_35 ?_
      obtain ⟨y36, ey36, e⟩ := bd_some e
      refine at_ti ey36 ?_
      refine at_istore hX hn (by decide) dX5_goesOn_36 ?_
      refine at_iload hX rfl dX5_goesOn_38 ?_
      refine at_iload_n hX rfl rfl dX5_goesOn_40 ?_
      refine at_icmp_eq hX (tgt := 157) (by decide) dX5_goesOn_41 (fun c41 => ?_) (fun c41 => ?_)
      · replace e := ip_ c41 e
        exact at_sub [0, 1, 2, 4, 5] rfl ((A_X5_goesOn_157 hn hX hR kr hkr (F_X5_goesOn_21 n kr) ih) _ _ _ _ _ e)
      · replace e := in_ c41 e
        refine at_iload hX rfl dX5_goesOn_44 ?_
        refine at_sipush hX (v := 4096) (by decide) dX5_goesOn_46 ?_
        refine at_icmp_ge hX (tgt := 157) (by decide) dX5_goesOn_49 (fun c49 => ?_) (fun c49 => ?_)
        · replace e := ip_ c49 e
          exact at_sub [0, 1, 2, 4, 5] rfl ((A_X5_goesOn_157 hn hX hR kr hkr (F_X5_goesOn_21 n kr) ih) _ _ _ _ _ e)
        · replace e := in_ c49 e
          refine at_aload_n hX rfl rfl dX5_goesOn_52 ?_
          refine gf_X5_22 hX dX5_goesOn_53 ?_
          refine at_iload hX rfl dX5_goesOn_56 ?_
          obtain ⟨hi, v58, ev58, e⟩ := rA_some e
          refine at_zald hX (o := 36) (by decide) rfl hi dX5_goesOn_58 ?_
          refine at_ti ev58 ?_
          refine at_if_ne hX (tgt := 157) (by decide) dX5_goesOn_59 (fun c59 => ?_) (fun c59 => ?_)
          · replace e := in_ c59 e
            exact at_sub [0, 1, 2, 4, 5] rfl ((A_X5_goesOn_157 hn hX hR kr hkr (F_X5_goesOn_21 n kr) ih) _ _ _ _ _ e)
          · replace e := ip_ c59 e
            refine at_aload_n hX rfl rfl dX5_goesOn_62 ?_
            refine gf_X5_15 hX dX5_goesOn_63 ?_
            refine at_iload hX rfl dX5_goesOn_66 ?_
            obtain ⟨hi, v68, ev68, e⟩ := rL_some e
            refine at_lald hX (o := 34) (by decide) rfl hi dX5_goesOn_68 ?_
            refine at_tl ev68 ?_
            refine at_lload_n hX rfl rfl dX5_goesOn_69 ?_
            refine at_land hX dX5_goesOn_70 ?_
            refine at_lconst hX (v := 0) (by decide) dX5_goesOn_71 ?_
            refine at_lcmp_eq hX (tgt := 79) (by decide) dX5_goesOn_72 dX5_goesOn_73 (fun c72 => ?_) (fun c72 => ?_)
            · replace e := ip_ c72 e
              refine at_lload_n hX rfl rfl dX5_goesOn_79 ?_
              refine at_lconst hX (v := 1) (by decide) dX5_goesOn_80 ?_
              refine at_aload_n hX rfl rfl dX5_goesOn_81 ?_
              refine gf_X5_11 hX dX5_goesOn_82 ?_
              refine at_iload hX rfl dX5_goesOn_85 ?_
              obtain ⟨hi, v87, ev87, e⟩ := rA_some e
              refine at_iald hX (o := 33) (by decide) rfl hi dX5_goesOn_87 ?_
              refine at_ti ev87 ?_
              refine at_lshl hX dX5_goesOn_88 ?_
              refine at_lor hX dX5_goesOn_89 ?_
              obtain ⟨y90, ey90, e⟩ := bd_some e
              refine at_tl ey90 ?_
              refine at_lstore hX hn (by decide) dX5_goesOn_90 ?_
              refine at_aload_n hX rfl rfl dX5_goesOn_92 ?_
              refine gf_X5_19 hX dX5_goesOn_93 ?_
              refine at_iload hX rfl dX5_goesOn_96 ?_
              refine at_aload_n hX rfl rfl dX5_goesOn_98 ?_
              refine gf_X5_11 hX dX5_goesOn_99 ?_
              refine at_iload hX rfl dX5_goesOn_102 ?_
              obtain ⟨hi, v104, ev104, e⟩ := rA_some e
              refine at_iald hX (o := 33) (by decide) rfl hi dX5_goesOn_104 ?_
              refine at_ti ev104 ?_
              obtain ⟨hi, h105, eh105, e⟩ := wA_some e
              refine at_iast hX (o := 35) (by decide) rfl hi dX5_goesOn_105 ?_
              refine at_th eh105 ?_
              refine at_aload_n hX rfl rfl dX5_goesOn_106 ?_
              refine gf_X5_30 hX dX5_goesOn_107 ?_
              refine at_aload_n hX rfl rfl dX5_goesOn_110 ?_
              refine gf_X5_30 hX dX5_goesOn_111 ?_
              refine at_aload_n hX rfl rfl dX5_goesOn_114 ?_
              refine gf_X5_11 hX dX5_goesOn_115 ?_
              refine at_iload hX rfl dX5_goesOn_118 ?_
              obtain ⟨hi, v120, ev120, e⟩ := rA_some e
              refine at_iald hX (o := 33) (by decide) rfl hi dX5_goesOn_120 ?_
              refine at_ti ev120 ?_
              refine at_lload hX rfl dX5_goesOn_121 ?_
              obtain ⟨v123, e1, e⟩ := ob_some e
              refine at_callV2 hX cv_X5_76 (by omega) (c_X4_pieceWith _ _ _ _ _ e1) (Nat.le_of_ble_eq_true rfl) dX5_goesOn_123 ?_
              obtain ⟨⟨v126, h126⟩, e1, e⟩ := ob_some e
              refine at_callV1 hX cv_X5_79 (by omega) (c_X4_isSoundPiece _ _ _ _ e1) (Nat.le_of_ble_eq_true rfl) dX5_goesOn_126 ?_
              refine at_if_eq hX (tgt := 149) (by decide) dX5_goesOn_129 (fun c129 => ?_) (fun c129 => ?_)
              · replace e := ip_ c129 e
                exact at_sub [0, 1, 2, 4, 5, 6] rfl ((A_X5_goesOn_149 hn hX hR kr hkr (F_X5_goesOn_21 n kr) ih) _ _ _ _ _ _ e)
              · replace e := in_ c129 e
                refine at_aload_n hX rfl rfl dX5_goesOn_132 ?_
                refine at_iload hX rfl dX5_goesOn_133 ?_
                refine at_lload hX rfl dX5_goesOn_135 ?_
                refine at_iload hX rfl dX5_goesOn_137 ?_
                refine at_iconst hX (v := 1) (by decide) dX5_goesOn_139 ?_
                refine at_iadd hX dX5_goesOn_140 ?_
                obtain ⟨⟨v141, h141⟩, e1, e⟩ := ob_some e
                refine at_callV3 hX cv_X5_54 (by omega) (hkr.2  _ _ _ _ _ _ e1) (Nat.le_of_ble_eq_true rfl) dX5_goesOn_141 ?_
                refine at_if_eq hX (tgt := 149) (by decide) dX5_goesOn_144 (fun c144 => ?_) (fun c144 => ?_)
                · replace e := ip_ c144 e
                  exact at_sub [0, 1, 2, 4, 5, 6] rfl ((A_X5_goesOn_149 hn hX hR kr hkr (F_X5_goesOn_21 n kr) ih) _ _ _ _ _ _ e)
                · replace e := in_ c144 e
                  refine at_iconst hX (v := 1) (by decide) dX5_goesOn_147 ?_
                  exact at_ireturn hX hR rfl (by cases e; rfl) (by cases e; rfl) dX5_goesOn_148
            · replace e := in_ c72 e
              refine at_goto hX (tgt := 157) (by decide) dX5_goesOn_76 ?_
              exact at_sub [0, 1, 2, 4, 5] rfl ((A_X5_goesOn_157 hn hX hR kr hkr (F_X5_goesOn_21 n kr) ih) _ _ _ _ _ e)
def F_X5_goesOn_0 (kr : Int32 → Int64 → Int32 → Hp → Option (Int32 × Hp)) (x1 : Int32) (x2 : Int64) (x4 : Int32) (h : Hp) : Option (Int32 × Hp) := if gI_ h 326 ≤ x4 then some ((1 : Int32), h) else if x4 < (12 : Int32) then (F_X5_goesOn_21 FU_ kr) x1 x2 x4 (0 : Int32) h else some ((1 : Int32), h)
def F_X5_goesOn (n : Nat) (x1 : Int32) (x2 : Int64) (x4 : Int32) (h : Hp) : Option (Int32 × Hp) := match n with
  | 0 => none
  | n + 1 => F_X5_goesOn_0 (F_X5_goesOn n) x1 x2 x4 h
theorem A_X5_goesOn_0 {dr : Nat} {X : CX} {h' : Hp} {r : Int32} (hn : (xc_ X).maxLocals = 9) (hX : Ok_ X RX5 cX5_goesOn (dr + 1)) (hR : Rt_ X (some .boolean) (some (.int r)) h') (kr : Int32 → Int64 → Int32 → Hp → Option (Int32 × Hp)) (hkr : 6 ≤ dr ∧ ∀ (x1 : Int32) (x2 : Int64) (x4 : Int32) (h : Hp) (r : Int32) (h' : Hp), kr x1 x2 x4 h = some (r, h') → Does (xl_ X) (xG_ X) dr M_X5_goesOn [.ref 5, .int x1, .long x2, .int x4] h (some (.int r)) h') (x1 : Int32) (x2 : Int64) (x4 : Int32) (h : Hp) (e : F_X5_goesOn_0 kr x1 x2 x4 h = some (r, h')) : At_ X 0 [(0, .ref 5), (1, .int x1), (2, .long x2), (4, .int x4)] [] h := by
  unfold F_X5_goesOn_0 at e
  refine at_iload hX rfl dX5_goesOn_0 ?_
  refine at_aload_n hX rfl rfl dX5_goesOn_2 ?_
  refine gf_X5_51 hX dX5_goesOn_3 ?_
  refine at_icmp_ge hX (tgt := 16) (by decide) dX5_goesOn_6 (fun c6 => ?_) (fun c6 => ?_)
  · replace e := ip_ c6 e
    refine at_iconst hX (v := 1) (by decide) dX5_goesOn_16 ?_
    exact at_ireturn hX hR rfl (by cases e; rfl) (by cases e; rfl) dX5_goesOn_17
  · replace e := in_ c6 e
    refine at_iload hX rfl dX5_goesOn_9 ?_
    refine at_bipush hX (v := 12) (by decide) dX5_goesOn_11 ?_
    refine at_icmp_lt hX (tgt := 18) (by decide) dX5_goesOn_13 (fun c13 => ?_) (fun c13 => ?_)
    · replace e := ip_ c13 e
      refine at_iconst hX (v := 0) (by decide) dX5_goesOn_18 ?_
      refine at_istore hX hn (by decide) dX5_goesOn_19 ?_
      exact at_sub [0, 1, 2, 4, 5] rfl ((A_X5_goesOn_21 hn hX hR kr hkr FU_) _ _ _ _ _ e)
    · replace e := in_ c13 e
      refine at_iconst hX (v := 1) (by decide) dX5_goesOn_16 ?_
      exact at_ireturn hX hR rfl (by cases e; rfl) (by cases e; rfl) dX5_goesOn_17
theorem c_X5_goesOn_r (l : Launch) (G : Gl) : ∀ (n : Nat) (x1 : Int32) (x2 : Int64) (x4 : Int32) (h : Hp) (r : Int32) (h' : Hp) , F_X5_goesOn n x1 x2 x4 h = some (r, h') → Does l G (n + 6) M_X5_goesOn [.ref 5, .int x1, .long x2, .int x4] h (some (.int r)) h' := by
  intro n
  induction n with
  | zero => intro x1 x2 x4 h r h' e; cases e
  | succ n ih =>
    intro x1 x2 x4 h r h' e
    rw [F_X5_goesOn] at e
    refine Does.of (by decide) rfl (Nat.le_of_ble_eq_true rfl) (fun X hl hG hn hX hR => ?_)
    subst hl; subst hG
    have hX : Ok_ X RX5 cX5_goesOn (n + 6 + 1) := by rw [show n + 6 + 1 = n + 1 + 6 by omega]; exact hX
    exact A_X5_goesOn_0 hn hX hR (F_X5_goesOn n) ⟨by omega, fun x1 x2 x4 h r h' e => ih x1 x2 x4 h r h' e⟩ _ _ _ _ e
theorem c_X5_goesOn (l : Launch) (G : Gl) (x1 : Int32) (x2 : Int64) (x4 : Int32) (h : Hp) {r : Int32} {h' : Hp} (e : F_X5_goesOn RF_ x1 x2 x4 h = some (r, h')) : Does l G 46 M_X5_goesOn [.ref 5, .int x1, .long x2, .int x4] h (some (.int r)) h' := c_X5_goesOn_r l G RF_ x1 x2 x4 h r h' e

def F_X5_findRow_65 (h : Hp) : Option Hp := (F_X5_goesOn RF_ (0 : Int32) (0 : Int64) (0 : Int32) h).bind fun ((v69, h69) : Int32 × Hp) => if v69 = (0 : Int32) then some h69 else bd_ (sI_ h69 327 (gI_ h69 326)) fun h80 => some h80
theorem A_X5_findRow_65 {X : CX} {h' : Hp} (hn : (xc_ X).maxLocals = 2) (hX : Ok_ X RX5 cX5_findRow 47) (hR : Rt_ X none none h') (h : Hp) (e : F_X5_findRow_65  h = some h') : At_ X 65 [(0, .ref 5)] [] h := by
  unfold F_X5_findRow_65 at e
  refine at_aload_n hX rfl rfl dX5_findRow_65 ?_
  refine at_iconst hX (v := 0) (by decide) dX5_findRow_66 ?_
  refine at_lconst hX (v := 0) (by decide) dX5_findRow_67 ?_
  refine at_iconst hX (v := 0) (by decide) dX5_findRow_68 ?_
  obtain ⟨⟨v69, h69⟩, e1, e⟩ := ob_some e
  refine at_callV3 hX cv_X5_54 (by decide) (c_X5_goesOn _ _ _ _ _ _ e1) (Nat.le_of_ble_eq_true rfl) dX5_findRow_69 ?_
  refine at_if_eq hX (tgt := 83) (by decide) dX5_findRow_72 (fun c72 => ?_) (fun c72 => ?_)
  · replace e := ip_ c72 e
    exact at_return hX hR rfl (by cases e; rfl) dX5_findRow_83
  · replace e := in_ c72 e
    refine at_aload_n hX rfl rfl dX5_findRow_75 ?_
    refine at_aload_n hX rfl rfl dX5_findRow_76 ?_
    refine gf_X5_51 hX dX5_findRow_77 ?_
    obtain ⟨h80, eh80, e⟩ := bd_some e
    refine pf_X5_38 hX dX5_findRow_80 ?_
    refine at_th eh80 ?_
    exact at_return hX hR rfl (by cases e; rfl) dX5_findRow_83
def F_X5_findRow_35 (n : Nat) (k65 : Hp → Option Hp) (x1 : Int32) (h : Hp) : Option Hp := match n with
  | 0 => none
  | n + 1 => if (4096 : Int32) ≤ x1 then k65 h else if is_ (1 : Int32) (gI_ h 326) ≤ x1 then k65 h else wA_ h 36 4096 x1 (0 : Int32) fun h58 => (F_X5_findRow_35 n k65) (x1 + (1 : Int32)) h58
theorem A_X5_findRow_35 {X : CX} {h' : Hp} (hn : (xc_ X).maxLocals = 2) (hX : Ok_ X RX5 cX5_findRow 47) (hR : Rt_ X none none h') (k65 : Hp → Option Hp) (hk65 : ∀ (h : Hp), k65  h = some h' → At_ X 65 [(0, .ref 5)] [] h) : ∀ (n : Nat) (x1 : Int32) (h : Hp), F_X5_findRow_35 n k65 x1 h = some h' → At_ X 35 [(0, .ref 5), (1, .int x1)] [] h := by
  intro n
  induction n with
  | zero => intro x1 h e; cases e
  | succ n ih =>
    intro x1 h e
    rw [F_X5_findRow_35] at e
    refine at_iload_n hX rfl rfl dX5_findRow_35 ?_
    refine at_sipush hX (v := 4096) (by decide) dX5_findRow_36 ?_
    refine at_icmp_ge hX (tgt := 65) (by decide) dX5_findRow_39 (fun c39 => ?_) (fun c39 => ?_)
    · replace e := ip_ c39 e
      exact at_sub [0] rfl (hk65 _ e)
    · replace e := in_ c39 e
      refine at_iload_n hX rfl rfl dX5_findRow_42 ?_
      refine at_iconst hX (v := 1) (by decide) dX5_findRow_43 ?_
      refine at_aload_n hX rfl rfl dX5_findRow_44 ?_
      refine gf_X5_51 hX dX5_findRow_45 ?_
      refine at_ishl hX dX5_findRow_48 ?_
      refine at_icmp_ge hX (tgt := 65) (by decide) dX5_findRow_49 (fun c49 => ?_) (fun c49 => ?_)
      · replace e := ip_ c49 e
        exact at_sub [0] rfl (hk65 _ e)
      · replace e := in_ c49 e
        refine at_aload_n hX rfl rfl dX5_findRow_52 ?_
        refine gf_X5_22 hX dX5_findRow_53 ?_
        refine at_iload_n hX rfl rfl dX5_findRow_56 ?_
        refine at_iconst hX (v := 0) (by decide) dX5_findRow_57 ?_
        obtain ⟨hi, h58, eh58, e⟩ := wA_some e
        refine at_zast hX (o := 36) (by decide) rfl (by decide) hi dX5_findRow_58 ?_
        refine at_th eh58 ?_
        refine at_iinc hX hn (by decide) rfl (v := 1) (by decide) dX5_findRow_59 ?_
        refine at_goto hX (tgt := 35) (by decide) dX5_findRow_62 ?_
        exact at_sub [0, 1] rfl (ih _ _ e)
def F_X5_findRow (h : Hp) : Option Hp := if gI_ h 328 = (0 : Int32) then bd_ (sI_ h 328 (1 : Int32)) fun h10 => bd_ (sI_ h10 327 (0 : Int32)) fun h15 => (F_X4_isSound  h15).bind fun ((v22, h22) : Int32 × Hp) => if v22 = (0 : Int32) then some h22 else (F_X5_collectBricks  h22).bind fun h30 => (F_X5_findRow_35 FU_ F_X5_findRow_65) (0 : Int32) h30 else some h
theorem c_X5_findRow (l : Launch) (G : Gl) (h : Hp) {h' : Hp} (e : F_X5_findRow  h = some h') : Does l G 47 M_X5_findRow [.ref 5] h none h' := by
  refine Does.of (by decide) rfl (Nat.le_of_ble_eq_true rfl) (fun X hl hG hn hX hR => ?_)
  unfold F_X5_findRow at e
  subst hl; subst hG
  show At_ X 0 [(0, .ref 5)] [] h
  refine at_aload_n hX rfl rfl dX5_findRow_0 ?_
  refine gf_X5_34 hX dX5_findRow_1 ?_
  refine at_if_eq hX (tgt := 8) (by decide) dX5_findRow_4 (fun c4 => ?_) (fun c4 => ?_)
  · replace e := ip_ c4 e
    refine at_aload_n hX rfl rfl dX5_findRow_8 ?_
    refine at_iconst hX (v := 1) (by decide) dX5_findRow_9 ?_
    obtain ⟨h10, eh10, e⟩ := bd_some e
    refine pf_X5_34 hX rfl rfl dX5_findRow_10 ?_
    refine at_th eh10 ?_
    refine at_aload_n hX rfl rfl dX5_findRow_13 ?_
    refine at_iconst hX (v := 0) (by decide) dX5_findRow_14 ?_
    obtain ⟨h15, eh15, e⟩ := bd_some e
    refine pf_X5_38 hX dX5_findRow_15 ?_
    refine at_th eh15 ?_
    refine at_aload_n hX rfl rfl dX5_findRow_18 ?_
    refine gf_X5_30 hX dX5_findRow_19 ?_
    obtain ⟨⟨v22, h22⟩, e1, e⟩ := ob_some e
    refine at_callV0 hX cv_X5_42 (by decide) (c_X4_isSound _ _  _ e1) (Nat.le_of_ble_eq_true rfl) dX5_findRow_22 ?_
    refine at_if_ne hX (tgt := 29) (by decide) dX5_findRow_25 (fun c25 => ?_) (fun c25 => ?_)
    · replace e := in_ c25 e
      refine at_aload_n hX rfl rfl dX5_findRow_29 ?_
      obtain ⟨h30, e1, e⟩ := ob_some e
      refine at_callV0 hX cv_X5_48 (by decide) (c_X5_collectBricks _ _  _ e1) (Nat.le_of_ble_eq_true rfl) dX5_findRow_30 ?_
      refine at_iconst hX (v := 0) (by decide) dX5_findRow_33 ?_
      refine at_istore_n hX rfl hn (by decide) dX5_findRow_34 ?_
      exact at_sub [0, 1] rfl ((A_X5_findRow_35 hn hX hR F_X5_findRow_65 (A_X5_findRow_65 hn hX hR) FU_) _ _ e)
    · replace e := ip_ c25 e
      exact at_return hX hR rfl (by cases e; rfl) dX5_findRow_28
  · replace e := in_ c4 e
    exact at_return hX hR rfl (by cases e; rfl) dX5_findRow_7

def F_X6_refuse (x1 : Int32) (h : Hp) : Option (Int32 × Hp) := if -x1 < (0 : Int32) then some (x1, h) else if (7 : Int32) ≤ -x1 then some (x1, h) else rA_ h 37 7 (-x1) fun v22 => wA_ h 37 7 (-x1) (v22 + (1 : Int32)) fun h25 => some (x1, h25)
theorem c_X6_refuse (l : Launch) (G : Gl) (x1 : Int32) (h : Hp) {r : Int32} {h' : Hp} (e : F_X6_refuse x1 h = some (r, h')) : Does l G 1 M_X6_refuse [.ref 6, .int x1] h (some (.int r)) h' := by
  refine Does.of (by decide) rfl (Nat.le_of_ble_eq_true rfl) (fun X hl hG hn hX hR => ?_)
  unfold F_X6_refuse at e
  subst hl; subst hG
  show At_ X 0 [(0, .ref 6), (1, .int x1)] [] h
  refine at_iload_n hX rfl rfl dX6_refuse_0 ?_
  refine at_ineg hX dX6_refuse_1 ?_
  refine at_istore_n hX rfl hn (by decide) dX6_refuse_2 ?_
  refine at_iload_n hX rfl rfl dX6_refuse_3 ?_
  refine at_if_lt hX (tgt := 26) (by decide) dX6_refuse_4 (fun c4 => ?_) (fun c4 => ?_)
  · replace e := ip_ c4 e
    refine at_iload_n hX rfl rfl dX6_refuse_26 ?_
    exact at_ireturn hX hR rfl (by cases e; rfl) (by cases e; rfl) dX6_refuse_27
  · replace e := in_ c4 e
    refine at_iload_n hX rfl rfl dX6_refuse_7 ?_
    refine at_aload_n hX rfl rfl dX6_refuse_8 ?_
    refine gf_X6_57 hX dX6_refuse_9 ?_
    refine at_alen hX (o := 37) (v := 7) (by decide) rfl (by decide) dX6_refuse_12 ?_
    refine at_icmp_ge hX (tgt := 26) (by decide) dX6_refuse_13 (fun c13 => ?_) (fun c13 => ?_)
    · replace e := ip_ c13 e
      refine at_iload_n hX rfl rfl dX6_refuse_26 ?_
      exact at_ireturn hX hR rfl (by cases e; rfl) (by cases e; rfl) dX6_refuse_27
    · replace e := in_ c13 e
      refine at_aload_n hX rfl rfl dX6_refuse_16 ?_
      refine gf_X6_57 hX dX6_refuse_17 ?_
      refine at_iload_n hX rfl rfl dX6_refuse_20 ?_
      refine at_dup2 hX rfl rfl dX6_refuse_21 ?_
      obtain ⟨hi, v22, ev22, e⟩ := rA_some e
      refine at_iald hX (o := 37) (by decide) rfl hi dX6_refuse_22 ?_
      refine at_ti ev22 ?_
      refine at_iconst hX (v := 1) (by decide) dX6_refuse_23 ?_
      refine at_iadd hX dX6_refuse_24 ?_
      obtain ⟨hi, h25, eh25, e⟩ := wA_some e
      refine at_iast hX (o := 37) (by decide) rfl hi dX6_refuse_25 ?_
      refine at_th eh25 ?_
      refine at_iload_n hX rfl rfl dX6_refuse_26 ?_
      exact at_ireturn hX hR rfl (by cases e; rfl) (by cases e; rfl) dX6_refuse_27

def F_X6_forgetAnswers (h : Hp) : Option Hp := (F_X3_forget  h).bind fun h4 => (F_X5_forget  h4).bind fun h11 => some h11
theorem c_X6_forgetAnswers (l : Launch) (G : Gl) (h : Hp) {h' : Hp} (e : F_X6_forgetAnswers  h = some h') : Does l G 2 M_X6_forgetAnswers [.ref 6] h none h' := by
  refine Does.of (by decide) rfl (Nat.le_of_ble_eq_true rfl) (fun X hl hG hn hX hR => ?_)
  unfold F_X6_forgetAnswers at e
  subst hl; subst hG
  show At_ X 0 [(0, .ref 6)] [] h
  refine at_aload_n hX rfl rfl dX6_forgetAnswers_0 ?_
  refine gf_X6_37 hX dX6_forgetAnswers_1 ?_
  obtain ⟨h4, e1, e⟩ := ob_some e
  refine at_callV0 hX cv_X6_236 (by decide) (c_X3_forget _ _  _ e1) (Nat.le_of_ble_eq_true rfl) dX6_forgetAnswers_4 ?_
  refine at_aload_n hX rfl rfl dX6_forgetAnswers_7 ?_
  refine gf_X6_46 hX dX6_forgetAnswers_8 ?_
  obtain ⟨h11, e1, e⟩ := ob_some e
  refine at_callV0 hX cv_X6_239 (by decide) (c_X5_forget _ _  _ e1) (Nat.le_of_ble_eq_true rfl) dX6_forgetAnswers_11 ?_
  exact at_return hX hR rfl (by cases e; rfl) dX6_forgetAnswers_14

def F_X6_cell (x1 : Int32) (x2 : Int32) (x3 : Int32) (x4 : Int32) (h : Hp) : Option (Int32 × Hp) := (F_X6_isPlace x1 x2 x3).bind fun v3 => if v3 = (0 : Int32) then (F_X6_refuse (-1 : Int32) h).bind fun ((v22, h22) : Int32 × Hp) => some (v22, h22) else if x4 < (0 : Int32) then (F_X6_refuse (-1 : Int32) h).bind fun ((v22, h22) : Int32 × Hp) => some (v22, h22) else if x4 ≤ (5 : Int32) then (F_X6_forgetAnswers  h).bind fun h27 => (F_X0_paint x1 x2 x3 x4 h27).bind fun ((v39, h39) : Int32 × Hp) => some (v39, h39) else (F_X6_refuse (-1 : Int32) h).bind fun ((v22, h22) : Int32 × Hp) => some (v22, h22)
theorem c_X6_cell (l : Launch) (G : Gl) (x1 : Int32) (x2 : Int32) (x3 : Int32) (x4 : Int32) (h : Hp) {r : Int32} {h' : Hp} (e : F_X6_cell x1 x2 x3 x4 h = some (r, h')) : Does l G 3 M_X6_cell [.ref 6, .int x1, .int x2, .int x3, .int x4] h (some (.int r)) h' := by
  refine Does.of (by decide) rfl (Nat.le_of_ble_eq_true rfl) (fun X hl hG hn hX hR => ?_)
  unfold F_X6_cell at e
  subst hl; subst hG
  show At_ X 0 [(0, .ref 6), (1, .int x1), (2, .int x2), (3, .int x3), (4, .int x4)] [] h
  refine at_iload_n hX rfl rfl dX6_cell_0 ?_
  refine at_iload_n hX rfl rfl dX6_cell_1 ?_
  refine at_iload_n hX rfl rfl dX6_cell_2 ?_
  obtain ⟨v3, e1, e⟩ := ob_some e
  refine at_callS3 hX cv_X6_61 (by decide) (c_X6_isPlace _ _ _ _ _ _ e1) (Nat.le_of_ble_eq_true rfl) dX6_cell_3 ?_
  refine at_if_eq hX (tgt := 20) (by decide) dX6_cell_6 (fun c6 => ?_) (fun c6 => ?_)
  · replace e := ip_ c6 e
    refine at_aload_n hX rfl rfl dX6_cell_20 ?_
    refine at_iconst hX (v := -1) (by decide) dX6_cell_21 ?_
    obtain ⟨⟨v22, h22⟩, e1, e⟩ := ob_some e
    refine at_callV1 hX cv_X6_65 (by decide) (c_X6_refuse _ _ _ _ e1) (Nat.le_of_ble_eq_true rfl) dX6_cell_22 ?_
    exact at_ireturn hX hR rfl (by cases e; rfl) (by cases e; rfl) dX6_cell_25
  · replace e := in_ c6 e
    refine at_iload hX rfl dX6_cell_9 ?_
    refine at_if_lt hX (tgt := 20) (by decide) dX6_cell_11 (fun c11 => ?_) (fun c11 => ?_)
    · replace e := ip_ c11 e
      refine at_aload_n hX rfl rfl dX6_cell_20 ?_
      refine at_iconst hX (v := -1) (by decide) dX6_cell_21 ?_
      obtain ⟨⟨v22, h22⟩, e1, e⟩ := ob_some e
      refine at_callV1 hX cv_X6_65 (by decide) (c_X6_refuse _ _ _ _ e1) (Nat.le_of_ble_eq_true rfl) dX6_cell_22 ?_
      exact at_ireturn hX hR rfl (by cases e; rfl) (by cases e; rfl) dX6_cell_25
    · replace e := in_ c11 e
      refine at_iload hX rfl dX6_cell_14 ?_
      refine at_iconst hX (v := 5) (by decide) dX6_cell_16 ?_
      refine at_icmp_le hX (tgt := 26) (by decide) dX6_cell_17 (fun c17 => ?_) (fun c17 => ?_)
      · replace e := ip_ c17 e
        refine at_aload_n hX rfl rfl dX6_cell_26 ?_
        obtain ⟨h27, e1, e⟩ := ob_some e
        refine at_callV0 hX cv_X6_69 (by decide) (c_X6_forgetAnswers _ _  _ e1) (Nat.le_of_ble_eq_true rfl) dX6_cell_27 ?_
        refine at_aload_n hX rfl rfl dX6_cell_30 ?_
        refine gf_X6_18 hX dX6_cell_31 ?_
        refine at_iload_n hX rfl rfl dX6_cell_34 ?_
        refine at_iload_n hX rfl rfl dX6_cell_35 ?_
        refine at_iload_n hX rfl rfl dX6_cell_36 ?_
        refine at_iload hX rfl dX6_cell_37 ?_
        obtain ⟨⟨v39, h39⟩, e1, e⟩ := ob_some e
        refine at_callV4 hX cv_X6_72 (by decide) (c_X0_paint _ _ _ _ _ _ _ e1) (Nat.le_of_ble_eq_true rfl) dX6_cell_39 ?_
        exact at_ireturn hX hR rfl (by cases e; rfl) (by cases e; rfl) dX6_cell_42
      · replace e := in_ c17 e
        refine at_aload_n hX rfl rfl dX6_cell_20 ?_
        refine at_iconst hX (v := -1) (by decide) dX6_cell_21 ?_
        obtain ⟨⟨v22, h22⟩, e1, e⟩ := ob_some e
        refine at_callV1 hX cv_X6_65 (by decide) (c_X6_refuse _ _ _ _ e1) (Nat.le_of_ble_eq_true rfl) dX6_cell_22 ?_
        exact at_ireturn hX hR rfl (by cases e; rfl) (by cases e; rfl) dX6_cell_25

def F_X6_cellOf (x1 : Int32) (x2 : Int32) (x3 : Int32) (h : Hp) : Option (Int32 × Hp) := (F_X6_isPlace x1 x2 x3).bind fun v3 => if v3 = (0 : Int32) then (F_X6_refuse (-1 : Int32) h).bind fun ((v24, h24) : Int32 × Hp) => some (v24, h24) else (F_X0_colourAt x1 x2 x3 h).bind fun v16 => some (v16, h)
theorem c_X6_cellOf (l : Launch) (G : Gl) (x1 : Int32) (x2 : Int32) (x3 : Int32) (h : Hp) {r : Int32} {h' : Hp} (e : F_X6_cellOf x1 x2 x3 h = some (r, h')) : Does l G 3 M_X6_cellOf [.ref 6, .int x1, .int x2, .int x3] h (some (.int r)) h' := by
  refine Does.of (by decide) rfl (Nat.le_of_ble_eq_true rfl) (fun X hl hG hn hX hR => ?_)
  unfold F_X6_cellOf at e
  subst hl; subst hG
  show At_ X 0 [(0, .ref 6), (1, .int x1), (2, .int x2), (3, .int x3)] [] h
  refine at_iload_n hX rfl rfl dX6_cellOf_0 ?_
  refine at_iload_n hX rfl rfl dX6_cellOf_1 ?_
  refine at_iload_n hX rfl rfl dX6_cellOf_2 ?_
  obtain ⟨v3, e1, e⟩ := ob_some e
  refine at_callS3 hX cv_X6_61 (by decide) (c_X6_isPlace _ _ _ _ _ _ e1) (Nat.le_of_ble_eq_true rfl) dX6_cellOf_3 ?_
  refine at_if_eq hX (tgt := 22) (by decide) dX6_cellOf_6 (fun c6 => ?_) (fun c6 => ?_)
  · replace e := ip_ c6 e
    refine at_aload_n hX rfl rfl dX6_cellOf_22 ?_
    refine at_iconst hX (v := -1) (by decide) dX6_cellOf_23 ?_
    obtain ⟨⟨v24, h24⟩, e1, e⟩ := ob_some e
    refine at_callV1 hX cv_X6_65 (by decide) (c_X6_refuse _ _ _ _ e1) (Nat.le_of_ble_eq_true rfl) dX6_cellOf_24 ?_
    exact at_ireturn hX hR rfl (by cases e; rfl) (by cases e; rfl) dX6_cellOf_27
  · replace e := in_ c6 e
    refine at_aload_n hX rfl rfl dX6_cellOf_9 ?_
    refine gf_X6_18 hX dX6_cellOf_10 ?_
    refine at_iload_n hX rfl rfl dX6_cellOf_13 ?_
    refine at_iload_n hX rfl rfl dX6_cellOf_14 ?_
    refine at_iload_n hX rfl rfl dX6_cellOf_15 ?_
    obtain ⟨v16, e1, e⟩ := ob_some e
    refine at_callV3 hX cv_X6_76 (by decide) (c_X0_colourAt _ _ _ _ _ _ e1) (Nat.le_of_ble_eq_true rfl) dX6_cellOf_16 ?_
    refine at_goto hX (tgt := 27) (by decide) dX6_cellOf_19 ?_
    exact at_ireturn hX hR rfl (by cases e; rfl) (by cases e; rfl) dX6_cellOf_27

def F_X6_inner (h : Hp) : Option Int32 := (F_X0_countInner  h).bind fun v4 => some v4
theorem c_X6_inner (l : Launch) (G : Gl) (h : Hp) {r : Int32} (e : F_X6_inner  h = some r) : Does l G 5 M_X6_inner [.ref 6] h (some (.int r)) h := by
  refine Does.of (by decide) rfl (Nat.le_of_ble_eq_true rfl) (fun X hl hG hn hX hR => ?_)
  unfold F_X6_inner at e
  subst hl; subst hG
  show At_ X 0 [(0, .ref 6)] [] h
  refine at_aload_n hX rfl rfl dX6_inner_0 ?_
  refine gf_X6_18 hX dX6_inner_1 ?_
  obtain ⟨v4, e1, e⟩ := ob_some e
  refine at_callV0 hX cv_X6_80 (by decide) (c_X0_countInner _ _  _ e1) (Nat.le_of_ble_eq_true rfl) dX6_inner_4 ?_
  exact at_ireturn hX hR rfl (by cases e; rfl) rfl dX6_inner_7

def F_X6_isBrickColour (x0 : Int32) : Option Int32 := if x0 < (1 : Int32) then some (0 : Int32) else if (5 : Int32) < x0 then some (0 : Int32) else some (1 : Int32)
theorem c_X6_isBrickColour (l : Launch) (G : Gl) (x0 : Int32) (h : Hp) {r : Int32} (e : F_X6_isBrickColour x0 = some r) : Does l G 1 M_X6_isBrickColour [.int x0] h (some (.int r)) h := by
  refine Does.of (by decide) rfl (Nat.le_of_ble_eq_true rfl) (fun X hl hG hn hX hR => ?_)
  unfold F_X6_isBrickColour at e
  subst hl; subst hG
  show At_ X 0 [(0, .int x0)] [] h
  refine at_iload_n hX rfl rfl dX6_isBrickColour_0 ?_
  refine at_iconst hX (v := 1) (by decide) dX6_isBrickColour_1 ?_
  refine at_icmp_lt hX (tgt := 14) (by decide) dX6_isBrickColour_2 (fun c2 => ?_) (fun c2 => ?_)
  · replace e := ip_ c2 e
    refine at_iconst hX (v := 0) (by decide) dX6_isBrickColour_14 ?_
    exact at_ireturn hX hR rfl (by cases e; rfl) rfl dX6_isBrickColour_15
  · replace e := in_ c2 e
    refine at_iload_n hX rfl rfl dX6_isBrickColour_5 ?_
    refine at_iconst hX (v := 5) (by decide) dX6_isBrickColour_6 ?_
    refine at_icmp_gt hX (tgt := 14) (by decide) dX6_isBrickColour_7 (fun c7 => ?_) (fun c7 => ?_)
    · replace e := ip_ c7 e
      refine at_iconst hX (v := 0) (by decide) dX6_isBrickColour_14 ?_
      exact at_ireturn hX hR rfl (by cases e; rfl) rfl dX6_isBrickColour_15
    · replace e := in_ c7 e
      refine at_iconst hX (v := 1) (by decide) dX6_isBrickColour_10 ?_
      refine at_goto hX (tgt := 15) (by decide) dX6_isBrickColour_11 ?_
      exact at_ireturn hX hR rfl (by cases e; rfl) rfl dX6_isBrickColour_15

def F_X6_place (x1 : Int32) (x2 : Int32) (x3 : Int32) (x4 : Int32) (x5 : Int32) (x6 : Int32) (h : Hp) : Option (Int32 × Hp) := (F_X6_isKind x1).bind fun v1 => if v1 = (0 : Int32) then (F_X6_refuse (-1 : Int32) h).bind fun ((v37, h37) : Int32 × Hp) => some (v37, h37) else if x2 < (0 : Int32) then (F_X6_refuse (-1 : Int32) h).bind fun ((v37, h37) : Int32 × Hp) => some (v37, h37) else if (1 : Int32) < x2 then (F_X6_refuse (-1 : Int32) h).bind fun ((v37, h37) : Int32 × Hp) => some (v37, h37) else (F_X6_isBrickColour x6).bind fun v18 => if v18 = (0 : Int32) then (F_X6_refuse (-1 : Int32) h).bind fun ((v37, h37) : Int32 × Hp) => some (v37, h37) else (F_X6_isPlace x3 x4 x5).bind fun v29 => if v29 = (0 : Int32) then (F_X6_refuse (-1 : Int32) h).bind fun ((v37, h37) : Int32 × Hp) => some (v37, h37) else (F_X2_alongX x1 x2 h).bind fun v44 => if (6 : Int32) < x3 + v44 then (F_X6_refuse (-6 : Int32) h).bind fun ((v69, h69) : Int32 × Hp) => some (v69, h69) else (F_X2_alongY x1 x2 h).bind fun v57 => if x4 + v57 ≤ (6 : Int32) then (F_X2_footprint x1 x2 x3 x4 h).bind fun v82 => (F_X2_overlapsAny v82 x5 h).bind fun v87 => if v87 = (0 : Int32) then (F_X2_ever  h).bind fun v104 => if v104 < (40 : Int32) then (F_X6_forgetAnswers  h).bind fun h120 => (F_X2_add x1 x2 x3 x4 x5 x6 h120).bind fun ((v136, h136) : Int32 × Hp) => some (v136, h136) else (F_X6_refuse (-6 : Int32) h).bind fun ((v115, h115) : Int32 × Hp) => some (v115, h115) else (F_X6_refuse (-3 : Int32) h).bind fun ((v96, h96) : Int32 × Hp) => some (v96, h96) else (F_X6_refuse (-6 : Int32) h).bind fun ((v69, h69) : Int32 × Hp) => some (v69, h69)
theorem c_X6_place (l : Launch) (G : Gl) (x1 : Int32) (x2 : Int32) (x3 : Int32) (x4 : Int32) (x5 : Int32) (x6 : Int32) (h : Hp) {r : Int32} {h' : Hp} (e : F_X6_place x1 x2 x3 x4 x5 x6 h = some (r, h')) : Does l G 6 M_X6_place [.ref 6, .int x1, .int x2, .int x3, .int x4, .int x5, .int x6] h (some (.int r)) h' := by
  refine Does.of (by decide) rfl (Nat.le_of_ble_eq_true rfl) (fun X hl hG hn hX hR => ?_)
  unfold F_X6_place at e
  subst hl; subst hG
  show At_ X 0 [(0, .ref 6), (1, .int x1), (2, .int x2), (3, .int x3), (4, .int x4), (5, .int x5), (6, .int x6)] [] h
  refine at_iload_n hX rfl rfl dX6_place_0 ?_
  obtain ⟨v1, e1, e⟩ := ob_some e
  refine at_callS1 hX cv_X6_84 (by decide) (c_X6_isKind _ _ _ _ e1) (Nat.le_of_ble_eq_true rfl) dX6_place_1 ?_
  refine at_if_eq hX (tgt := 35) (by decide) dX6_place_4 (fun c4 => ?_) (fun c4 => ?_)
  · replace e := ip_ c4 e
    refine at_aload_n hX rfl rfl dX6_place_35 ?_
    refine at_iconst hX (v := -1) (by decide) dX6_place_36 ?_
    obtain ⟨⟨v37, h37⟩, e1, e⟩ := ob_some e
    refine at_callV1 hX cv_X6_65 (by decide) (c_X6_refuse _ _ _ _ e1) (Nat.le_of_ble_eq_true rfl) dX6_place_37 ?_
    exact at_ireturn hX hR rfl (by cases e; rfl) (by cases e; rfl) dX6_place_40
  · replace e := in_ c4 e
    refine at_iload_n hX rfl rfl dX6_place_7 ?_
    refine at_if_lt hX (tgt := 35) (by decide) dX6_place_8 (fun c8 => ?_) (fun c8 => ?_)
    · replace e := ip_ c8 e
      refine at_aload_n hX rfl rfl dX6_place_35 ?_
      refine at_iconst hX (v := -1) (by decide) dX6_place_36 ?_
      obtain ⟨⟨v37, h37⟩, e1, e⟩ := ob_some e
      refine at_callV1 hX cv_X6_65 (by decide) (c_X6_refuse _ _ _ _ e1) (Nat.le_of_ble_eq_true rfl) dX6_place_37 ?_
      exact at_ireturn hX hR rfl (by cases e; rfl) (by cases e; rfl) dX6_place_40
    · replace e := in_ c8 e
      refine at_iload_n hX rfl rfl dX6_place_11 ?_
      refine at_iconst hX (v := 1) (by decide) dX6_place_12 ?_
      refine at_icmp_gt hX (tgt := 35) (by decide) dX6_place_13 (fun c13 => ?_) (fun c13 => ?_)
      · replace e := ip_ c13 e
        refine at_aload_n hX rfl rfl dX6_place_35 ?_
        refine at_iconst hX (v := -1) (by decide) dX6_place_36 ?_
        obtain ⟨⟨v37, h37⟩, e1, e⟩ := ob_some e
        refine at_callV1 hX cv_X6_65 (by decide) (c_X6_refuse _ _ _ _ e1) (Nat.le_of_ble_eq_true rfl) dX6_place_37 ?_
        exact at_ireturn hX hR rfl (by cases e; rfl) (by cases e; rfl) dX6_place_40
      · replace e := in_ c13 e
        refine at_iload hX rfl dX6_place_16 ?_
        obtain ⟨v18, e1, e⟩ := ob_some e
        refine at_callS1 hX cv_X6_88 (by decide) (c_X6_isBrickColour _ _ _ _ e1) (Nat.le_of_ble_eq_true rfl) dX6_place_18 ?_
        refine at_if_eq hX (tgt := 35) (by decide) dX6_place_21 (fun c21 => ?_) (fun c21 => ?_)
        · replace e := ip_ c21 e
          refine at_aload_n hX rfl rfl dX6_place_35 ?_
          refine at_iconst hX (v := -1) (by decide) dX6_place_36 ?_
          obtain ⟨⟨v37, h37⟩, e1, e⟩ := ob_some e
          refine at_callV1 hX cv_X6_65 (by decide) (c_X6_refuse _ _ _ _ e1) (Nat.le_of_ble_eq_true rfl) dX6_place_37 ?_
          exact at_ireturn hX hR rfl (by cases e; rfl) (by cases e; rfl) dX6_place_40
        · replace e := in_ c21 e
          refine at_iload_n hX rfl rfl dX6_place_24 ?_
          refine at_iload hX rfl dX6_place_25 ?_
          refine at_iload hX rfl dX6_place_27 ?_
          obtain ⟨v29, e1, e⟩ := ob_some e
          refine at_callS3 hX cv_X6_61 (by decide) (c_X6_isPlace _ _ _ _ _ _ e1) (Nat.le_of_ble_eq_true rfl) dX6_place_29 ?_
          refine at_if_ne hX (tgt := 41) (by decide) dX6_place_32 (fun c32 => ?_) (fun c32 => ?_)
          · replace e := in_ c32 e
            refine at_iload_n hX rfl rfl dX6_place_41 ?_
            refine at_iload_n hX rfl rfl dX6_place_42 ?_
            refine at_iload_n hX rfl rfl dX6_place_43 ?_
            obtain ⟨v44, e1, e⟩ := ob_some e
            refine at_callS2 hX cv_X6_91 (by decide) (c_X2_alongX _ _ _ _ _ e1) (Nat.le_of_ble_eq_true rfl) dX6_place_44 ?_
            refine at_iadd hX dX6_place_47 ?_
            refine at_bipush hX (v := 6) (by decide) dX6_place_48 ?_
            refine at_icmp_gt hX (tgt := 66) (by decide) dX6_place_50 (fun c50 => ?_) (fun c50 => ?_)
            · replace e := ip_ c50 e
              refine at_aload_n hX rfl rfl dX6_place_66 ?_
              refine at_bipush hX (v := -6) (by decide) dX6_place_67 ?_
              obtain ⟨⟨v69, h69⟩, e1, e⟩ := ob_some e
              refine at_callV1 hX cv_X6_65 (by decide) (c_X6_refuse _ _ _ _ e1) (Nat.le_of_ble_eq_true rfl) dX6_place_69 ?_
              exact at_ireturn hX hR rfl (by cases e; rfl) (by cases e; rfl) dX6_place_72
            · replace e := in_ c50 e
              refine at_iload hX rfl dX6_place_53 ?_
              refine at_iload_n hX rfl rfl dX6_place_55 ?_
              refine at_iload_n hX rfl rfl dX6_place_56 ?_
              obtain ⟨v57, e1, e⟩ := ob_some e
              refine at_callS2 hX cv_X6_95 (by decide) (c_X2_alongY _ _ _ _ _ e1) (Nat.le_of_ble_eq_true rfl) dX6_place_57 ?_
              refine at_iadd hX dX6_place_60 ?_
              refine at_bipush hX (v := 6) (by decide) dX6_place_61 ?_
              refine at_icmp_le hX (tgt := 73) (by decide) dX6_place_63 (fun c63 => ?_) (fun c63 => ?_)
              · replace e := ip_ c63 e
                refine at_aload_n hX rfl rfl dX6_place_73 ?_
                refine gf_X6_24 hX dX6_place_74 ?_
                refine at_iload_n hX rfl rfl dX6_place_77 ?_
                refine at_iload_n hX rfl rfl dX6_place_78 ?_
                refine at_iload_n hX rfl rfl dX6_place_79 ?_
                refine at_iload hX rfl dX6_place_80 ?_
                obtain ⟨v82, e1, e⟩ := ob_some e
                refine at_callS4 hX cv_X6_98 (by decide) (c_X2_footprint _ _ _ _ _ _ _ e1) (Nat.le_of_ble_eq_true rfl) dX6_place_82 ?_
                refine at_iload hX rfl dX6_place_85 ?_
                obtain ⟨v87, e1, e⟩ := ob_some e
                refine at_callV2 hX cv_X6_102 (by decide) (c_X2_overlapsAny _ _ _ _ _ e1) (Nat.le_of_ble_eq_true rfl) dX6_place_87 ?_
                refine at_if_eq hX (tgt := 100) (by decide) dX6_place_90 (fun c90 => ?_) (fun c90 => ?_)
                · replace e := ip_ c90 e
                  refine at_aload_n hX rfl rfl dX6_place_100 ?_
                  refine gf_X6_24 hX dX6_place_101 ?_
                  obtain ⟨v104, e1, e⟩ := ob_some e
                  refine at_callV0 hX cv_X6_106 (by decide) (c_X2_ever _ _  _ e1) (Nat.le_of_ble_eq_true rfl) dX6_place_104 ?_
                  refine at_bipush hX (v := 40) (by decide) dX6_place_107 ?_
                  refine at_icmp_lt hX (tgt := 119) (by decide) dX6_place_109 (fun c109 => ?_) (fun c109 => ?_)
                  · replace e := ip_ c109 e
                    refine at_aload_n hX rfl rfl dX6_place_119 ?_
                    obtain ⟨h120, e1, e⟩ := ob_some e
                    refine at_callV0 hX cv_X6_69 (by decide) (c_X6_forgetAnswers _ _  _ e1) (Nat.le_of_ble_eq_true rfl) dX6_place_120 ?_
                    refine at_aload_n hX rfl rfl dX6_place_123 ?_
                    refine gf_X6_24 hX dX6_place_124 ?_
                    refine at_iload_n hX rfl rfl dX6_place_127 ?_
                    refine at_iload_n hX rfl rfl dX6_place_128 ?_
                    refine at_iload_n hX rfl rfl dX6_place_129 ?_
                    refine at_iload hX rfl dX6_place_130 ?_
                    refine at_iload hX rfl dX6_place_132 ?_
                    refine at_iload hX rfl dX6_place_134 ?_
                    obtain ⟨⟨v136, h136⟩, e1, e⟩ := ob_some e
                    refine at_callV6 hX cv_X6_109 (by decide) (c_X2_add _ _ _ _ _ _ _ _ _ e1) (Nat.le_of_ble_eq_true rfl) dX6_place_136 ?_
                    exact at_ireturn hX hR rfl (by cases e; rfl) (by cases e; rfl) dX6_place_139
                  · replace e := in_ c109 e
                    refine at_aload_n hX rfl rfl dX6_place_112 ?_
                    refine at_bipush hX (v := -6) (by decide) dX6_place_113 ?_
                    obtain ⟨⟨v115, h115⟩, e1, e⟩ := ob_some e
                    refine at_callV1 hX cv_X6_65 (by decide) (c_X6_refuse _ _ _ _ e1) (Nat.le_of_ble_eq_true rfl) dX6_place_115 ?_
                    exact at_ireturn hX hR rfl (by cases e; rfl) (by cases e; rfl) dX6_place_118
                · replace e := in_ c90 e
                  refine at_aload_n hX rfl rfl dX6_place_93 ?_
                  refine at_bipush hX (v := -3) (by decide) dX6_place_94 ?_
                  obtain ⟨⟨v96, h96⟩, e1, e⟩ := ob_some e
                  refine at_callV1 hX cv_X6_65 (by decide) (c_X6_refuse _ _ _ _ e1) (Nat.le_of_ble_eq_true rfl) dX6_place_96 ?_
                  exact at_ireturn hX hR rfl (by cases e; rfl) (by cases e; rfl) dX6_place_99
              · replace e := in_ c63 e
                refine at_aload_n hX rfl rfl dX6_place_66 ?_
                refine at_bipush hX (v := -6) (by decide) dX6_place_67 ?_
                obtain ⟨⟨v69, h69⟩, e1, e⟩ := ob_some e
                refine at_callV1 hX cv_X6_65 (by decide) (c_X6_refuse _ _ _ _ e1) (Nat.le_of_ble_eq_true rfl) dX6_place_69 ?_
                exact at_ireturn hX hR rfl (by cases e; rfl) (by cases e; rfl) dX6_place_72
          · replace e := ip_ c32 e
            refine at_aload_n hX rfl rfl dX6_place_35 ?_
            refine at_iconst hX (v := -1) (by decide) dX6_place_36 ?_
            obtain ⟨⟨v37, h37⟩, e1, e⟩ := ob_some e
            refine at_callV1 hX cv_X6_65 (by decide) (c_X6_refuse _ _ _ _ e1) (Nat.le_of_ble_eq_true rfl) dX6_place_37 ?_
            exact at_ireturn hX hR rfl (by cases e; rfl) (by cases e; rfl) dX6_place_40

def F_X6_refusalOf (x1 : Int32) (h : Hp) : Option Int32 := (F_X2_exists x1 h).bind fun v5 => if v5 = (0 : Int32) then some (-1 : Int32) else (F_X2_isThere x1 h).bind fun v18 => if v18 = (0 : Int32) then some (-3 : Int32) else some (0 : Int32)
theorem c_X6_refusalOf (l : Launch) (G : Gl) (x1 : Int32) (h : Hp) {r : Int32} (e : F_X6_refusalOf x1 h = some r) : Does l G 3 M_X6_refusalOf [.ref 6, .int x1] h (some (.int r)) h := by
  refine Does.of (by decide) rfl (Nat.le_of_ble_eq_true rfl) (fun X hl hG hn hX hR => ?_)
  unfold F_X6_refusalOf at e
  subst hl; subst hG
  show At_ X 0 [(0, .ref 6), (1, .int x1)] [] h
  refine at_aload_n hX rfl rfl dX6_refusalOf_0 ?_
  refine gf_X6_24 hX dX6_refusalOf_1 ?_
  refine at_iload_n hX rfl rfl dX6_refusalOf_4 ?_
  obtain ⟨v5, e1, e⟩ := ob_some e
  refine at_callV1 hX cv_X6_123 (by decide) (c_X2_exists _ _ _ _ e1) (Nat.le_of_ble_eq_true rfl) dX6_refusalOf_5 ?_
  refine at_if_ne hX (tgt := 13) (by decide) dX6_refusalOf_8 (fun c8 => ?_) (fun c8 => ?_)
  · replace e := in_ c8 e
    refine at_aload_n hX rfl rfl dX6_refusalOf_13 ?_
    refine gf_X6_24 hX dX6_refusalOf_14 ?_
    refine at_iload_n hX rfl rfl dX6_refusalOf_17 ?_
    obtain ⟨v18, e1, e⟩ := ob_some e
    refine at_callV1 hX cv_X6_126 (by decide) (c_X2_isThere _ _ _ _ e1) (Nat.le_of_ble_eq_true rfl) dX6_refusalOf_18 ?_
    refine at_if_eq hX (tgt := 28) (by decide) dX6_refusalOf_21 (fun c21 => ?_) (fun c21 => ?_)
    · replace e := ip_ c21 e
      refine at_bipush hX (v := -3) (by decide) dX6_refusalOf_28 ?_
      exact at_ireturn hX hR rfl (by cases e; rfl) rfl dX6_refusalOf_30
    · replace e := in_ c21 e
      refine at_iconst hX (v := 0) (by decide) dX6_refusalOf_24 ?_
      refine at_goto hX (tgt := 30) (by decide) dX6_refusalOf_25 ?_
      exact at_ireturn hX hR rfl (by cases e; rfl) rfl dX6_refusalOf_30
  · replace e := ip_ c8 e
    refine at_iconst hX (v := -1) (by decide) dX6_refusalOf_11 ?_
    exact at_ireturn hX hR rfl (by cases e; rfl) rfl dX6_refusalOf_12

def F_X6_take (x1 : Int32) (h : Hp) : Option (Int32 × Hp) := (F_X6_refusalOf x1 h).bind fun v2 => if v2 = (0 : Int32) then (F_X6_forgetAnswers  h).bind fun h17 => (F_X2_remove x1 h17).bind fun h25 => some ((1 : Int32), h25) else (F_X6_refuse v2 h).bind fun ((v12, h12) : Int32 × Hp) => some (v12, h12)
theorem c_X6_take (l : Launch) (G : Gl) (x1 : Int32) (h : Hp) {r : Int32} {h' : Hp} (e : F_X6_take x1 h = some (r, h')) : Does l G 6 M_X6_take [.ref 6, .int x1] h (some (.int r)) h' := by
  refine Does.of (by decide) rfl (Nat.le_of_ble_eq_true rfl) (fun X hl hG hn hX hR => ?_)
  unfold F_X6_take at e
  subst hl; subst hG
  show At_ X 0 [(0, .ref 6), (1, .int x1)] [] h
  refine at_aload_n hX rfl rfl dX6_take_0 ?_
  refine at_iload_n hX rfl rfl dX6_take_1 ?_
  obtain ⟨v2, e1, e⟩ := ob_some e
  refine at_callV1 hX cv_X6_113 (by decide) (c_X6_refusalOf _ _ _ _ e1) (Nat.le_of_ble_eq_true rfl) dX6_take_2 ?_
  refine at_istore_n hX rfl hn (by decide) dX6_take_5 ?_
  refine at_iload_n hX rfl rfl dX6_take_6 ?_
  refine at_if_eq hX (tgt := 16) (by decide) dX6_take_7 (fun c7 => ?_) (fun c7 => ?_)
  · replace e := ip_ c7 e
    refine at_aload_n hX rfl rfl dX6_take_16 ?_
    obtain ⟨h17, e1, e⟩ := ob_some e
    refine at_callV0 hX cv_X6_69 (by decide) (c_X6_forgetAnswers _ _  _ e1) (Nat.le_of_ble_eq_true rfl) dX6_take_17 ?_
    refine at_aload_n hX rfl rfl dX6_take_20 ?_
    refine gf_X6_24 hX dX6_take_21 ?_
    refine at_iload_n hX rfl rfl dX6_take_24 ?_
    obtain ⟨h25, e1, e⟩ := ob_some e
    refine at_callV1 hX cv_X6_116 (by decide) (c_X2_remove _ _ _ _ e1) (Nat.le_of_ble_eq_true rfl) dX6_take_25 ?_
    refine at_iconst hX (v := 1) (by decide) dX6_take_28 ?_
    exact at_ireturn hX hR rfl (by cases e; rfl) (by cases e; rfl) dX6_take_29
  · replace e := in_ c7 e
    refine at_aload_n hX rfl rfl dX6_take_10 ?_
    refine at_iload_n hX rfl rfl dX6_take_11 ?_
    obtain ⟨⟨v12, h12⟩, e1, e⟩ := ob_some e
    refine at_callV1 hX cv_X6_65 (by decide) (c_X6_refuse _ _ _ _ e1) (Nat.le_of_ble_eq_true rfl) dX6_take_12 ?_
    exact at_ireturn hX hR rfl (by cases e; rfl) (by cases e; rfl) dX6_take_15

def F_X6_at (x1 : Int32) (x2 : Int32) (x3 : Int32) (h : Hp) : Option (Int32 × Hp) := (F_X6_isPlace x1 x2 x3).bind fun v3 => if v3 = (0 : Int32) then (F_X6_refuse (-1 : Int32) h).bind fun ((v11, h11) : Int32 × Hp) => some (v11, h11) else (F_X2_brickAt x1 x2 x3 h).bind fun v22 => if v22 = (-1 : Int32) then some ((-9 : Int32), h) else some (v22, h)
theorem c_X6_at (l : Launch) (G : Gl) (x1 : Int32) (x2 : Int32) (x3 : Int32) (h : Hp) {r : Int32} {h' : Hp} (e : F_X6_at x1 x2 x3 h = some (r, h')) : Does l G 3 M_X6_at [.ref 6, .int x1, .int x2, .int x3] h (some (.int r)) h' := by
  refine Does.of (by decide) rfl (Nat.le_of_ble_eq_true rfl) (fun X hl hG hn hX hR => ?_)
  unfold F_X6_at at e
  subst hl; subst hG
  show At_ X 0 [(0, .ref 6), (1, .int x1), (2, .int x2), (3, .int x3)] [] h
  refine at_iload_n hX rfl rfl dX6_at_0 ?_
  refine at_iload_n hX rfl rfl dX6_at_1 ?_
  refine at_iload_n hX rfl rfl dX6_at_2 ?_
  obtain ⟨v3, e1, e⟩ := ob_some e
  refine at_callS3 hX cv_X6_61 (by decide) (c_X6_isPlace _ _ _ _ _ _ e1) (Nat.le_of_ble_eq_true rfl) dX6_at_3 ?_
  refine at_if_ne hX (tgt := 15) (by decide) dX6_at_6 (fun c6 => ?_) (fun c6 => ?_)
  · replace e := in_ c6 e
    refine at_aload_n hX rfl rfl dX6_at_15 ?_
    refine gf_X6_24 hX dX6_at_16 ?_
    refine at_iload_n hX rfl rfl dX6_at_19 ?_
    refine at_iload_n hX rfl rfl dX6_at_20 ?_
    refine at_iload_n hX rfl rfl dX6_at_21 ?_
    obtain ⟨v22, e1, e⟩ := ob_some e
    refine at_callV3 hX cv_X6_120 (by decide) (c_X2_brickAt _ _ _ _ _ _ e1) (Nat.le_of_ble_eq_true rfl) dX6_at_22 ?_
    refine at_istore hX hn (by decide) dX6_at_25 ?_
    refine at_iload hX rfl dX6_at_27 ?_
    refine at_iconst hX (v := -1) (by decide) dX6_at_29 ?_
    refine at_icmp_ne hX (tgt := 38) (by decide) dX6_at_30 (fun c30 => ?_) (fun c30 => ?_)
    · replace e := in_ c30 e
      refine at_iload hX rfl dX6_at_38 ?_
      exact at_ireturn hX hR rfl (by cases e; rfl) (by cases e; rfl) dX6_at_40
    · replace e := ip_ c30 e
      refine at_bipush hX (v := -9) (by decide) dX6_at_33 ?_
      refine at_goto hX (tgt := 40) (by decide) dX6_at_35 ?_
      exact at_ireturn hX hR rfl (by cases e; rfl) (by cases e; rfl) dX6_at_40
  · replace e := ip_ c6 e
    refine at_aload_n hX rfl rfl dX6_at_9 ?_
    refine at_iconst hX (v := -1) (by decide) dX6_at_10 ?_
    obtain ⟨⟨v11, h11⟩, e1, e⟩ := ob_some e
    refine at_callV1 hX cv_X6_65 (by decide) (c_X6_refuse _ _ _ _ e1) (Nat.le_of_ble_eq_true rfl) dX6_at_11 ?_
    exact at_ireturn hX hR rfl (by cases e; rfl) (by cases e; rfl) dX6_at_14

def F_X6_studs (x1 : Int32) (x2 : Int32) (h : Hp) : Option (Int32 × Hp) := (F_X2_exists x1 h).bind fun v5 => if v5 = (0 : Int32) then (F_X6_refuse (-1 : Int32) h).bind fun ((v29, h29) : Int32 × Hp) => some (v29, h29) else (F_X2_exists x2 h).bind fun v16 => if v16 = (0 : Int32) then (F_X6_refuse (-1 : Int32) h).bind fun ((v29, h29) : Int32 × Hp) => some (v29, h29) else if x1 = x2 then (F_X6_refuse (-1 : Int32) h).bind fun ((v29, h29) : Int32 × Hp) => some (v29, h29) else (F_X2_isThere x1 h).bind fun v38 => if v38 = (0 : Int32) then (F_X6_refuse (-3 : Int32) h).bind fun ((v58, h58) : Int32 × Hp) => some (v58, h58) else (F_X2_isThere x2 h).bind fun v49 => if v49 = (0 : Int32) then (F_X6_refuse (-3 : Int32) h).bind fun ((v58, h58) : Int32 × Hp) => some (v58, h58) else (F_X2_sharedStuds x1 x2 h).bind fun v68 => some (v68, h)
theorem c_X6_studs (l : Launch) (G : Gl) (x1 : Int32) (x2 : Int32) (h : Hp) {r : Int32} {h' : Hp} (e : F_X6_studs x1 x2 h = some (r, h')) : Does l G 3 M_X6_studs [.ref 6, .int x1, .int x2] h (some (.int r)) h' := by
  refine Does.of (by decide) rfl (Nat.le_of_ble_eq_true rfl) (fun X hl hG hn hX hR => ?_)
  unfold F_X6_studs at e
  subst hl; subst hG
  show At_ X 0 [(0, .ref 6), (1, .int x1), (2, .int x2)] [] h
  refine at_aload_n hX rfl rfl dX6_studs_0 ?_
  refine gf_X6_24 hX dX6_studs_1 ?_
  refine at_iload_n hX rfl rfl dX6_studs_4 ?_
  obtain ⟨v5, e1, e⟩ := ob_some e
  refine at_callV1 hX cv_X6_123 (by decide) (c_X2_exists _ _ _ _ e1) (Nat.le_of_ble_eq_true rfl) dX6_studs_5 ?_
  refine at_if_eq hX (tgt := 27) (by decide) dX6_studs_8 (fun c8 => ?_) (fun c8 => ?_)
  · replace e := ip_ c8 e
    refine at_aload_n hX rfl rfl dX6_studs_27 ?_
    refine at_iconst hX (v := -1) (by decide) dX6_studs_28 ?_
    obtain ⟨⟨v29, h29⟩, e1, e⟩ := ob_some e
    refine at_callV1 hX cv_X6_65 (by decide) (c_X6_refuse _ _ _ _ e1) (Nat.le_of_ble_eq_true rfl) dX6_studs_29 ?_
    exact at_ireturn hX hR rfl (by cases e; rfl) (by cases e; rfl) dX6_studs_32
  · replace e := in_ c8 e
    refine at_aload_n hX rfl rfl dX6_studs_11 ?_
    refine gf_X6_24 hX dX6_studs_12 ?_
    refine at_iload_n hX rfl rfl dX6_studs_15 ?_
    obtain ⟨v16, e1, e⟩ := ob_some e
    refine at_callV1 hX cv_X6_123 (by decide) (c_X2_exists _ _ _ _ e1) (Nat.le_of_ble_eq_true rfl) dX6_studs_16 ?_
    refine at_if_eq hX (tgt := 27) (by decide) dX6_studs_19 (fun c19 => ?_) (fun c19 => ?_)
    · replace e := ip_ c19 e
      refine at_aload_n hX rfl rfl dX6_studs_27 ?_
      refine at_iconst hX (v := -1) (by decide) dX6_studs_28 ?_
      obtain ⟨⟨v29, h29⟩, e1, e⟩ := ob_some e
      refine at_callV1 hX cv_X6_65 (by decide) (c_X6_refuse _ _ _ _ e1) (Nat.le_of_ble_eq_true rfl) dX6_studs_29 ?_
      exact at_ireturn hX hR rfl (by cases e; rfl) (by cases e; rfl) dX6_studs_32
    · replace e := in_ c19 e
      refine at_iload_n hX rfl rfl dX6_studs_22 ?_
      refine at_iload_n hX rfl rfl dX6_studs_23 ?_
      refine at_icmp_ne hX (tgt := 33) (by decide) dX6_studs_24 (fun c24 => ?_) (fun c24 => ?_)
      · replace e := in_ c24 e
        refine at_aload_n hX rfl rfl dX6_studs_33 ?_
        refine gf_X6_24 hX dX6_studs_34 ?_
        refine at_iload_n hX rfl rfl dX6_studs_37 ?_
        obtain ⟨v38, e1, e⟩ := ob_some e
        refine at_callV1 hX cv_X6_126 (by decide) (c_X2_isThere _ _ _ _ e1) (Nat.le_of_ble_eq_true rfl) dX6_studs_38 ?_
        refine at_if_eq hX (tgt := 55) (by decide) dX6_studs_41 (fun c41 => ?_) (fun c41 => ?_)
        · replace e := ip_ c41 e
          refine at_aload_n hX rfl rfl dX6_studs_55 ?_
          refine at_bipush hX (v := -3) (by decide) dX6_studs_56 ?_
          obtain ⟨⟨v58, h58⟩, e1, e⟩ := ob_some e
          refine at_callV1 hX cv_X6_65 (by decide) (c_X6_refuse _ _ _ _ e1) (Nat.le_of_ble_eq_true rfl) dX6_studs_58 ?_
          exact at_ireturn hX hR rfl (by cases e; rfl) (by cases e; rfl) dX6_studs_61
        · replace e := in_ c41 e
          refine at_aload_n hX rfl rfl dX6_studs_44 ?_
          refine gf_X6_24 hX dX6_studs_45 ?_
          refine at_iload_n hX rfl rfl dX6_studs_48 ?_
          obtain ⟨v49, e1, e⟩ := ob_some e
          refine at_callV1 hX cv_X6_126 (by decide) (c_X2_isThere _ _ _ _ e1) (Nat.le_of_ble_eq_true rfl) dX6_studs_49 ?_
          refine at_if_ne hX (tgt := 62) (by decide) dX6_studs_52 (fun c52 => ?_) (fun c52 => ?_)
          · replace e := in_ c52 e
            refine at_aload_n hX rfl rfl dX6_studs_62 ?_
            refine gf_X6_24 hX dX6_studs_63 ?_
            refine at_iload_n hX rfl rfl dX6_studs_66 ?_
            refine at_iload_n hX rfl rfl dX6_studs_67 ?_
            obtain ⟨v68, e1, e⟩ := ob_some e
            refine at_callV2 hX cv_X6_129 (by decide) (c_X2_sharedStuds _ _ _ _ _ e1) (Nat.le_of_ble_eq_true rfl) dX6_studs_68 ?_
            exact at_ireturn hX hR rfl (by cases e; rfl) (by cases e; rfl) dX6_studs_71
          · replace e := ip_ c52 e
            refine at_aload_n hX rfl rfl dX6_studs_55 ?_
            refine at_bipush hX (v := -3) (by decide) dX6_studs_56 ?_
            obtain ⟨⟨v58, h58⟩, e1, e⟩ := ob_some e
            refine at_callV1 hX cv_X6_65 (by decide) (c_X6_refuse _ _ _ _ e1) (Nat.le_of_ble_eq_true rfl) dX6_studs_58 ?_
            exact at_ireturn hX hR rfl (by cases e; rfl) (by cases e; rfl) dX6_studs_61
      · replace e := ip_ c24 e
        refine at_aload_n hX rfl rfl dX6_studs_27 ?_
        refine at_iconst hX (v := -1) (by decide) dX6_studs_28 ?_
        obtain ⟨⟨v29, h29⟩, e1, e⟩ := ob_some e
        refine at_callV1 hX cv_X6_65 (by decide) (c_X6_refuse _ _ _ _ e1) (Nat.le_of_ble_eq_true rfl) dX6_studs_29 ?_
        exact at_ireturn hX hR rfl (by cases e; rfl) (by cases e; rfl) dX6_studs_32

def F_X6_pieces (h : Hp) : Option Int32 := (F_X4_countPieces  h).bind fun v4 => some v4
theorem c_X6_pieces (l : Launch) (G : Gl) (h : Hp) {r : Int32} (e : F_X6_pieces  h = some r) : Does l G 5 M_X6_pieces [.ref 6] h (some (.int r)) h := by
  refine Does.of (by decide) rfl (Nat.le_of_ble_eq_true rfl) (fun X hl hG hn hX hR => ?_)
  unfold F_X6_pieces at e
  subst hl; subst hG
  show At_ X 0 [(0, .ref 6)] [] h
  refine at_aload_n hX rfl rfl dX6_pieces_0 ?_
  refine gf_X6_28 hX dX6_pieces_1 ?_
  obtain ⟨v4, e1, e⟩ := ob_some e
  refine at_callV0 hX cv_X6_132 (by decide) (c_X4_countPieces _ _  _ e1) (Nat.le_of_ble_eq_true rfl) dX6_pieces_4 ?_
  exact at_ireturn hX hR rfl (by cases e; rfl) rfl dX6_pieces_7

def F_X6_piece (x1 : Int32) (h : Hp) : Option (Int32 × Hp) := (F_X6_refusalOf x1 h).bind fun v2 => if v2 = (0 : Int32) then (F_X4_numberOfPiece x1 h).bind fun v23 => some (v23, h) else (F_X6_refuse v2 h).bind fun ((v12, h12) : Int32 × Hp) => some (v12, h12)
theorem c_X6_piece (l : Launch) (G : Gl) (x1 : Int32) (h : Hp) {r : Int32} {h' : Hp} (e : F_X6_piece x1 h = some (r, h')) : Does l G 5 M_X6_piece [.ref 6, .int x1] h (some (.int r)) h' := by
  refine Does.of (by decide) rfl (Nat.le_of_ble_eq_true rfl) (fun X hl hG hn hX hR => ?_)
  unfold F_X6_piece at e
  subst hl; subst hG
  show At_ X 0 [(0, .ref 6), (1, .int x1)] [] h
  refine at_aload_n hX rfl rfl dX6_piece_0 ?_
  refine at_iload_n hX rfl rfl dX6_piece_1 ?_
  obtain ⟨v2, e1, e⟩ := ob_some e
  refine at_callV1 hX cv_X6_113 (by decide) (c_X6_refusalOf _ _ _ _ e1) (Nat.le_of_ble_eq_true rfl) dX6_piece_2 ?_
  refine at_istore_n hX rfl hn (by decide) dX6_piece_5 ?_
  refine at_iload_n hX rfl rfl dX6_piece_6 ?_
  refine at_if_eq hX (tgt := 18) (by decide) dX6_piece_7 (fun c7 => ?_) (fun c7 => ?_)
  · replace e := ip_ c7 e
    refine at_aload_n hX rfl rfl dX6_piece_18 ?_
    refine gf_X6_28 hX dX6_piece_19 ?_
    refine at_iload_n hX rfl rfl dX6_piece_22 ?_
    obtain ⟨v23, e1, e⟩ := ob_some e
    refine at_callV1 hX cv_X6_135 (by decide) (c_X4_numberOfPiece _ _ _ _ e1) (Nat.le_of_ble_eq_true rfl) dX6_piece_23 ?_
    exact at_ireturn hX hR rfl (by cases e; rfl) (by cases e; rfl) dX6_piece_26
  · replace e := in_ c7 e
    refine at_aload_n hX rfl rfl dX6_piece_10 ?_
    refine at_iload_n hX rfl rfl dX6_piece_11 ?_
    obtain ⟨⟨v12, h12⟩, e1, e⟩ := ob_some e
    refine at_callV1 hX cv_X6_65 (by decide) (c_X6_refuse _ _ _ _ e1) (Nat.le_of_ble_eq_true rfl) dX6_piece_12 ?_
    refine at_goto hX (tgt := 26) (by decide) dX6_piece_15 ?_
    exact at_ireturn hX hR rfl (by cases e; rfl) (by cases e; rfl) dX6_piece_26

def F_X6_pieceOf (x1 : Int32) (x2 : Int32) (h : Hp) : Option (Int32 × Hp) := (F_X4_pieceNumbered x1 h).bind fun v5 => if v5 = (0 : Int64) then (F_X6_refuse (-1 : Int32) h).bind fun ((v17, h17) : Int32 × Hp) => some (v17, h17) else if x2 = nI 0 then (F_X4_weight v5 h).bind fun v57 => some (v57, h) else if x2 = nI 1 then (F_X4_floats v5 h).bind fun v66 => if v66 = (0 : Int32) then some ((0 : Int32), h) else some ((1 : Int32), h) else if x2 = nI 2 then (F_X4_stands v5 h).bind fun ((v83, h83) : Int32 × Hp) => if v83 = (0 : Int32) then some ((0 : Int32), h83) else some ((1 : Int32), h83) else if x2 = nI 3 then (F_J13_bitCount_95d88 v5).bind fun v96 => some (v96, h) else (F_X6_refuse (-2 : Int32) h).bind fun ((v103, h103) : Int32 × Hp) => some (v103, h103)
theorem c_X6_pieceOf (l : Launch) (G : Gl) (x1 : Int32) (x2 : Int32) (h : Hp) {r : Int32} {h' : Hp} (e : F_X6_pieceOf x1 x2 h = some (r, h')) : Does l G 5 M_X6_pieceOf [.ref 6, .int x1, .int x2] h (some (.int r)) h' := by
  refine Does.of (by decide) rfl (Nat.le_of_ble_eq_true rfl) (fun X hl hG hn hX hR => ?_)
  unfold F_X6_pieceOf at e
  subst hl; subst hG
  show At_ X 0 [(0, .ref 6), (1, .int x1), (2, .int x2)] [] h
  refine at_aload_n hX rfl rfl dX6_pieceOf_0 ?_
  refine gf_X6_28 hX dX6_pieceOf_1 ?_
  refine at_iload_n hX rfl rfl dX6_pieceOf_4 ?_
  obtain ⟨v5, e1, e⟩ := ob_some e
  refine at_callV1 hX cv_X6_138 (by decide) (c_X4_pieceNumbered _ _ _ _ e1) (Nat.le_of_ble_eq_true rfl) dX6_pieceOf_5 ?_
  refine at_lstore_n hX rfl hn (by decide) dX6_pieceOf_8 ?_
  refine at_lload_n hX rfl rfl dX6_pieceOf_9 ?_
  refine at_lconst hX (v := 0) (by decide) dX6_pieceOf_10 ?_
  refine at_lcmp_ne hX (tgt := 21) (by decide) dX6_pieceOf_11 dX6_pieceOf_12 (fun c11 => ?_) (fun c11 => ?_)
  · replace e := in_ c11 e
    refine at_iload_n hX rfl rfl dX6_pieceOf_21 ?_
    by_cases w0 : x2 = nI 0
    · replace e := ip_ w0 e
      refine at_tabIn hX (tgt := 52) 0 30 w0 (by decide) (by decide) rfl (by decide) dX6_pieceOf_22 ?_
      refine at_aload_n hX rfl rfl dX6_pieceOf_52 ?_
      refine gf_X6_28 hX dX6_pieceOf_53 ?_
      refine at_lload_n hX rfl rfl dX6_pieceOf_56 ?_
      obtain ⟨v57, e1, e⟩ := ob_some e
      refine at_callV1 hX cv_X6_142 (by decide) (c_X4_weight _ _ _ _ e1) (Nat.le_of_ble_eq_true rfl) dX6_pieceOf_57 ?_
      exact at_ireturn hX hR rfl (by cases e; rfl) (by cases e; rfl) dX6_pieceOf_60
    · replace e := in_ w0 e
      by_cases w1 : x2 = nI 1
      · replace e := ip_ w1 e
        refine at_tabIn hX (tgt := 61) 1 39 w1 (by decide) (by decide) rfl (by decide) dX6_pieceOf_22 ?_
        refine at_aload_n hX rfl rfl dX6_pieceOf_61 ?_
        refine gf_X6_28 hX dX6_pieceOf_62 ?_
        refine at_lload_n hX rfl rfl dX6_pieceOf_65 ?_
        obtain ⟨v66, e1, e⟩ := ob_some e
        refine at_callV1 hX cv_X6_146 (by decide) (c_X4_floats _ _ _ _ e1) (Nat.le_of_ble_eq_true rfl) dX6_pieceOf_66 ?_
        refine at_if_eq hX (tgt := 76) (by decide) dX6_pieceOf_69 (fun c69 => ?_) (fun c69 => ?_)
        · replace e := ip_ c69 e
          refine at_iconst hX (v := 0) (by decide) dX6_pieceOf_76 ?_
          exact at_ireturn hX hR rfl (by cases e; rfl) (by cases e; rfl) dX6_pieceOf_77
        · replace e := in_ c69 e
          refine at_iconst hX (v := 1) (by decide) dX6_pieceOf_72 ?_
          refine at_goto hX (tgt := 77) (by decide) dX6_pieceOf_73 ?_
          exact at_ireturn hX hR rfl (by cases e; rfl) (by cases e; rfl) dX6_pieceOf_77
      · replace e := in_ w1 e
        by_cases w2 : x2 = nI 2
        · replace e := ip_ w2 e
          refine at_tabIn hX (tgt := 78) 2 56 w2 (by decide) (by decide) rfl (by decide) dX6_pieceOf_22 ?_
          refine at_aload_n hX rfl rfl dX6_pieceOf_78 ?_
          refine gf_X6_28 hX dX6_pieceOf_79 ?_
          refine at_lload_n hX rfl rfl dX6_pieceOf_82 ?_
          obtain ⟨⟨v83, h83⟩, e1, e⟩ := ob_some e
          refine at_callV1 hX cv_X6_150 (by decide) (c_X4_stands _ _ _ _ e1) (Nat.le_of_ble_eq_true rfl) dX6_pieceOf_83 ?_
          refine at_if_eq hX (tgt := 93) (by decide) dX6_pieceOf_86 (fun c86 => ?_) (fun c86 => ?_)
          · replace e := ip_ c86 e
            refine at_iconst hX (v := 0) (by decide) dX6_pieceOf_93 ?_
            exact at_ireturn hX hR rfl (by cases e; rfl) (by cases e; rfl) dX6_pieceOf_94
          · replace e := in_ c86 e
            refine at_iconst hX (v := 1) (by decide) dX6_pieceOf_89 ?_
            refine at_goto hX (tgt := 94) (by decide) dX6_pieceOf_90 ?_
            exact at_ireturn hX hR rfl (by cases e; rfl) (by cases e; rfl) dX6_pieceOf_94
        · replace e := in_ w2 e
          by_cases w3 : x2 = nI 3
          · replace e := ip_ w3 e
            refine at_tabIn hX (tgt := 95) 3 73 w3 (by decide) (by decide) rfl (by decide) dX6_pieceOf_22 ?_
            refine at_lload_n hX rfl rfl dX6_pieceOf_95 ?_
            obtain ⟨v96, e1, e⟩ := ob_some e
            refine at_callS1 hX cv_X6_153 (by decide) (c_J13_bitCount_95d88 _ _ _ _ e1) (Nat.le_of_ble_eq_true rfl) dX6_pieceOf_96 ?_
            exact at_ireturn hX hR rfl (by cases e; rfl) (by cases e; rfl) dX6_pieceOf_99
          · replace e := in_ w3 e
            refine at_tabOut hX (tgt := 100) (tab_out (hi := 3) (by decide) (fun j hj => by rcases (show j = 0 ∨ j = 1 ∨ j = 2 ∨ j = 3 by omega) with rfl | rfl | rfl | rfl <;> assumption)) (by decide) dX6_pieceOf_22 ?_
            refine at_aload_n hX rfl rfl dX6_pieceOf_100 ?_
            refine at_bipush hX (v := -2) (by decide) dX6_pieceOf_101 ?_
            obtain ⟨⟨v103, h103⟩, e1, e⟩ := ob_some e
            refine at_callV1 hX cv_X6_65 (by decide) (c_X6_refuse _ _ _ _ e1) (Nat.le_of_ble_eq_true rfl) dX6_pieceOf_103 ?_
            exact at_ireturn hX hR rfl (by cases e; rfl) (by cases e; rfl) dX6_pieceOf_106
  · replace e := ip_ c11 e
    refine at_aload_n hX rfl rfl dX6_pieceOf_15 ?_
    refine at_iconst hX (v := -1) (by decide) dX6_pieceOf_16 ?_
    obtain ⟨⟨v17, h17⟩, e1, e⟩ := ob_some e
    refine at_callV1 hX cv_X6_65 (by decide) (c_X6_refuse _ _ _ _ e1) (Nat.le_of_ble_eq_true rfl) dX6_pieceOf_17 ?_
    exact at_ireturn hX hR rfl (by cases e; rfl) (by cases e; rfl) dX6_pieceOf_20

def F_X6_key (x1 : Int32) (h : Hp) : Option (Int32 × Hp) := (F_X6_refusalOf x1 h).bind fun v2 => if v2 = (0 : Int32) then (F_X2_there  h).bind fun v30 => (F_X4_pieceWith x1 v30 h).bind fun v33 => (F_X4_isKey x1 v33 h).bind fun v36 => if v36 = (0 : Int32) then some ((0 : Int32), h) else some ((1 : Int32), h) else (F_X6_refuse v2 h).bind fun ((v12, h12) : Int32 × Hp) => some (v12, h12)
theorem c_X6_key (l : Launch) (G : Gl) (x1 : Int32) (h : Hp) {r : Int32} {h' : Hp} (e : F_X6_key x1 h = some (r, h')) : Does l G 5 M_X6_key [.ref 6, .int x1] h (some (.int r)) h' := by
  refine Does.of (by decide) rfl (Nat.le_of_ble_eq_true rfl) (fun X hl hG hn hX hR => ?_)
  unfold F_X6_key at e
  subst hl; subst hG
  show At_ X 0 [(0, .ref 6), (1, .int x1)] [] h
  refine at_aload_n hX rfl rfl dX6_key_0 ?_
  refine at_iload_n hX rfl rfl dX6_key_1 ?_
  obtain ⟨v2, e1, e⟩ := ob_some e
  refine at_callV1 hX cv_X6_113 (by decide) (c_X6_refusalOf _ _ _ _ e1) (Nat.le_of_ble_eq_true rfl) dX6_key_2 ?_
  refine at_istore_n hX rfl hn (by decide) dX6_key_5 ?_
  refine at_iload_n hX rfl rfl dX6_key_6 ?_
  refine at_if_eq hX (tgt := 16) (by decide) dX6_key_7 (fun c7 => ?_) (fun c7 => ?_)
  · replace e := ip_ c7 e
    refine at_aload_n hX rfl rfl dX6_key_16 ?_
    refine gf_X6_28 hX dX6_key_17 ?_
    refine at_iload_n hX rfl rfl dX6_key_20 ?_
    refine at_aload_n hX rfl rfl dX6_key_21 ?_
    refine gf_X6_28 hX dX6_key_22 ?_
    refine at_iload_n hX rfl rfl dX6_key_25 ?_
    refine at_aload_n hX rfl rfl dX6_key_26 ?_
    refine gf_X6_24 hX dX6_key_27 ?_
    obtain ⟨v30, e1, e⟩ := ob_some e
    refine at_callV0 hX cv_X6_158 (by decide) (c_X2_there _ _  _ e1) (Nat.le_of_ble_eq_true rfl) dX6_key_30 ?_
    obtain ⟨v33, e1, e⟩ := ob_some e
    refine at_callV2 hX cv_X6_162 (by decide) (c_X4_pieceWith _ _ _ _ _ e1) (Nat.le_of_ble_eq_true rfl) dX6_key_33 ?_
    obtain ⟨v36, e1, e⟩ := ob_some e
    refine at_callV2 hX cv_X6_166 (by decide) (c_X4_isKey _ _ _ _ _ e1) (Nat.le_of_ble_eq_true rfl) dX6_key_36 ?_
    refine at_if_eq hX (tgt := 46) (by decide) dX6_key_39 (fun c39 => ?_) (fun c39 => ?_)
    · replace e := ip_ c39 e
      refine at_iconst hX (v := 0) (by decide) dX6_key_46 ?_
      exact at_ireturn hX hR rfl (by cases e; rfl) (by cases e; rfl) dX6_key_47
    · replace e := in_ c39 e
      refine at_iconst hX (v := 1) (by decide) dX6_key_42 ?_
      refine at_goto hX (tgt := 47) (by decide) dX6_key_43 ?_
      exact at_ireturn hX hR rfl (by cases e; rfl) (by cases e; rfl) dX6_key_47
  · replace e := in_ c7 e
    refine at_aload_n hX rfl rfl dX6_key_10 ?_
    refine at_iload_n hX rfl rfl dX6_key_11 ?_
    obtain ⟨⟨v12, h12⟩, e1, e⟩ := ob_some e
    refine at_callV1 hX cv_X6_65 (by decide) (c_X6_refuse _ _ _ _ e1) (Nat.le_of_ble_eq_true rfl) dX6_key_12 ?_
    exact at_ireturn hX hR rfl (by cases e; rfl) (by cases e; rfl) dX6_key_15

def F_X6_weak (x1 : Int32) (h : Hp) : Option (Int32 × Hp) := (F_X6_refusalOf x1 h).bind fun v2 => if v2 = (0 : Int32) then (F_X2_there  h).bind fun v30 => (F_X4_pieceWith x1 v30 h).bind fun v33 => (F_X4_countWeak x1 v33 h).bind fun v36 => some (v36, h) else (F_X6_refuse v2 h).bind fun ((v12, h12) : Int32 × Hp) => some (v12, h12)
theorem c_X6_weak (l : Launch) (G : Gl) (x1 : Int32) (h : Hp) {r : Int32} {h' : Hp} (e : F_X6_weak x1 h = some (r, h')) : Does l G 5 M_X6_weak [.ref 6, .int x1] h (some (.int r)) h' := by
  refine Does.of (by decide) rfl (Nat.le_of_ble_eq_true rfl) (fun X hl hG hn hX hR => ?_)
  unfold F_X6_weak at e
  subst hl; subst hG
  show At_ X 0 [(0, .ref 6), (1, .int x1)] [] h
  refine at_aload_n hX rfl rfl dX6_weak_0 ?_
  refine at_iload_n hX rfl rfl dX6_weak_1 ?_
  obtain ⟨v2, e1, e⟩ := ob_some e
  refine at_callV1 hX cv_X6_113 (by decide) (c_X6_refusalOf _ _ _ _ e1) (Nat.le_of_ble_eq_true rfl) dX6_weak_2 ?_
  refine at_istore_n hX rfl hn (by decide) dX6_weak_5 ?_
  refine at_iload_n hX rfl rfl dX6_weak_6 ?_
  refine at_if_eq hX (tgt := 16) (by decide) dX6_weak_7 (fun c7 => ?_) (fun c7 => ?_)
  · replace e := ip_ c7 e
    refine at_aload_n hX rfl rfl dX6_weak_16 ?_
    refine gf_X6_28 hX dX6_weak_17 ?_
    refine at_iload_n hX rfl rfl dX6_weak_20 ?_
    refine at_aload_n hX rfl rfl dX6_weak_21 ?_
    refine gf_X6_28 hX dX6_weak_22 ?_
    refine at_iload_n hX rfl rfl dX6_weak_25 ?_
    refine at_aload_n hX rfl rfl dX6_weak_26 ?_
    refine gf_X6_24 hX dX6_weak_27 ?_
    obtain ⟨v30, e1, e⟩ := ob_some e
    refine at_callV0 hX cv_X6_158 (by decide) (c_X2_there _ _  _ e1) (Nat.le_of_ble_eq_true rfl) dX6_weak_30 ?_
    obtain ⟨v33, e1, e⟩ := ob_some e
    refine at_callV2 hX cv_X6_162 (by decide) (c_X4_pieceWith _ _ _ _ _ e1) (Nat.le_of_ble_eq_true rfl) dX6_weak_33 ?_
    obtain ⟨v36, e1, e⟩ := ob_some e
    refine at_callV2 hX cv_X6_170 (by decide) (c_X4_countWeak _ _ _ _ _ e1) (Nat.le_of_ble_eq_true rfl) dX6_weak_36 ?_
    exact at_ireturn hX hR rfl (by cases e; rfl) (by cases e; rfl) dX6_weak_39
  · replace e := in_ c7 e
    refine at_aload_n hX rfl rfl dX6_weak_10 ?_
    refine at_iload_n hX rfl rfl dX6_weak_11 ?_
    obtain ⟨⟨v12, h12⟩, e1, e⟩ := ob_some e
    refine at_callV1 hX cv_X6_65 (by decide) (c_X6_refuse _ _ _ _ e1) (Nat.le_of_ble_eq_true rfl) dX6_weak_12 ?_
    exact at_ireturn hX hR rfl (by cases e; rfl) (by cases e; rfl) dX6_weak_15

def F_X6_sound (h : Hp) : Option (Int32 × Hp) := (F_X4_isSound  h).bind fun ((v4, h4) : Int32 × Hp) => if v4 = (0 : Int32) then some ((0 : Int32), h4) else some ((1 : Int32), h4)
theorem c_X6_sound (l : Launch) (G : Gl) (h : Hp) {r : Int32} {h' : Hp} (e : F_X6_sound  h = some (r, h')) : Does l G 7 M_X6_sound [.ref 6] h (some (.int r)) h' := by
  refine Does.of (by decide) rfl (Nat.le_of_ble_eq_true rfl) (fun X hl hG hn hX hR => ?_)
  unfold F_X6_sound at e
  subst hl; subst hG
  show At_ X 0 [(0, .ref 6)] [] h
  refine at_aload_n hX rfl rfl dX6_sound_0 ?_
  refine gf_X6_28 hX dX6_sound_1 ?_
  obtain ⟨⟨v4, h4⟩, e1, e⟩ := ob_some e
  refine at_callV0 hX cv_X6_174 (by decide) (c_X4_isSound _ _  _ e1) (Nat.le_of_ble_eq_true rfl) dX6_sound_4 ?_
  refine at_if_eq hX (tgt := 14) (by decide) dX6_sound_7 (fun c7 => ?_) (fun c7 => ?_)
  · replace e := ip_ c7 e
    refine at_iconst hX (v := 0) (by decide) dX6_sound_14 ?_
    exact at_ireturn hX hR rfl (by cases e; rfl) (by cases e; rfl) dX6_sound_15
  · replace e := in_ c7 e
    refine at_iconst hX (v := 1) (by decide) dX6_sound_10 ?_
    refine at_goto hX (tgt := 15) (by decide) dX6_sound_11 ?_
    exact at_ireturn hX hR rfl (by cases e; rfl) (by cases e; rfl) dX6_sound_15

def F_X6_grip (x1 : Int32) (h : Hp) : Option (Int32 × Hp) := if (1 : Int32) ≤ x1 then if x1 ≤ (40 : Int32) then (F_X6_forgetAnswers  h).bind fun h26 => (F_X4_changeGrip x1 h26).bind fun ((v34, h34) : Int32 × Hp) => some (v34, h34) else (F_X6_refuse (-6 : Int32) h).bind fun ((v21, h21) : Int32 × Hp) => some (v21, h21) else (F_X6_refuse (-4 : Int32) h).bind fun ((v8, h8) : Int32 × Hp) => some (v8, h8)
theorem c_X6_grip (l : Launch) (G : Gl) (x1 : Int32) (h : Hp) {r : Int32} {h' : Hp} (e : F_X6_grip x1 h = some (r, h')) : Does l G 3 M_X6_grip [.ref 6, .int x1] h (some (.int r)) h' := by
  refine Does.of (by decide) rfl (Nat.le_of_ble_eq_true rfl) (fun X hl hG hn hX hR => ?_)
  unfold F_X6_grip at e
  subst hl; subst hG
  show At_ X 0 [(0, .ref 6), (1, .int x1)] [] h
  refine at_iload_n hX rfl rfl dX6_grip_0 ?_
  refine at_iconst hX (v := 1) (by decide) dX6_grip_1 ?_
  refine at_icmp_ge hX (tgt := 12) (by decide) dX6_grip_2 (fun c2 => ?_) (fun c2 => ?_)
  · replace e := ip_ c2 e
    refine at_iload_n hX rfl rfl dX6_grip_12 ?_
    refine at_bipush hX (v := 40) (by decide) dX6_grip_13 ?_
    refine at_icmp_le hX (tgt := 25) (by decide) dX6_grip_15 (fun c15 => ?_) (fun c15 => ?_)
    · replace e := ip_ c15 e
      refine at_aload_n hX rfl rfl dX6_grip_25 ?_
      obtain ⟨h26, e1, e⟩ := ob_some e
      refine at_callV0 hX cv_X6_69 (by decide) (c_X6_forgetAnswers _ _  _ e1) (Nat.le_of_ble_eq_true rfl) dX6_grip_26 ?_
      refine at_aload_n hX rfl rfl dX6_grip_29 ?_
      refine gf_X6_28 hX dX6_grip_30 ?_
      refine at_iload_n hX rfl rfl dX6_grip_33 ?_
      obtain ⟨⟨v34, h34⟩, e1, e⟩ := ob_some e
      refine at_callV1 hX cv_X6_178 (by decide) (c_X4_changeGrip _ _ _ _ e1) (Nat.le_of_ble_eq_true rfl) dX6_grip_34 ?_
      exact at_ireturn hX hR rfl (by cases e; rfl) (by cases e; rfl) dX6_grip_37
    · replace e := in_ c15 e
      refine at_aload_n hX rfl rfl dX6_grip_18 ?_
      refine at_bipush hX (v := -6) (by decide) dX6_grip_19 ?_
      obtain ⟨⟨v21, h21⟩, e1, e⟩ := ob_some e
      refine at_callV1 hX cv_X6_65 (by decide) (c_X6_refuse _ _ _ _ e1) (Nat.le_of_ble_eq_true rfl) dX6_grip_21 ?_
      exact at_ireturn hX hR rfl (by cases e; rfl) (by cases e; rfl) dX6_grip_24
  · replace e := in_ c2 e
    refine at_aload_n hX rfl rfl dX6_grip_5 ?_
    refine at_bipush hX (v := -4) (by decide) dX6_grip_6 ?_
    obtain ⟨⟨v8, h8⟩, e1, e⟩ := ob_some e
    refine at_callV1 hX cv_X6_65 (by decide) (c_X6_refuse _ _ _ _ e1) (Nat.le_of_ble_eq_true rfl) dX6_grip_8 ?_
    exact at_ireturn hX hR rfl (by cases e; rfl) (by cases e; rfl) dX6_grip_11

def F_X6_fault (x1 : Int32) (x2 : Int32) (x3 : Int32) (h : Hp) : Option Int32 := (F_X0_colourAt x1 x2 x3 h).bind fun v7 => (F_X2_brickAt x1 x2 x3 h).bind fun v19 => if v19 = (-1 : Int32) then if v7 = (0 : Int32) then some (-1 : Int32) else some (0 : Int32) else if v7 = (0 : Int32) then some (2 : Int32) else (F_X2_colourOf v19 h).bind fun v54 => if v54 = v7 then some (-1 : Int32) else (F_X0_isInner x1 x2 x3 h).bind fun v69 => if v69 = (0 : Int32) then some (1 : Int32) else some (-1 : Int32)
theorem c_X6_fault (l : Launch) (G : Gl) (x1 : Int32) (x2 : Int32) (x3 : Int32) (h : Hp) {r : Int32} (e : F_X6_fault x1 x2 x3 h = some r) : Does l G 4 M_X6_fault [.ref 6, .int x1, .int x2, .int x3] h (some (.int r)) h := by
  refine Does.of (by decide) rfl (Nat.le_of_ble_eq_true rfl) (fun X hl hG hn hX hR => ?_)
  unfold F_X6_fault at e
  subst hl; subst hG
  show At_ X 0 [(0, .ref 6), (1, .int x1), (2, .int x2), (3, .int x3)] [] h
  refine at_aload_n hX rfl rfl dX6_fault_0 ?_
  refine gf_X6_18 hX dX6_fault_1 ?_
  refine at_iload_n hX rfl rfl dX6_fault_4 ?_
  refine at_iload_n hX rfl rfl dX6_fault_5 ?_
  refine at_iload_n hX rfl rfl dX6_fault_6 ?_
  obtain ⟨v7, e1, e⟩ := ob_some e
  refine at_callV3 hX cv_X6_76 (by decide) (c_X0_colourAt _ _ _ _ _ _ e1) (Nat.le_of_ble_eq_true rfl) dX6_fault_7 ?_
  refine at_istore hX hn (by decide) dX6_fault_10 ?_
  refine at_aload_n hX rfl rfl dX6_fault_12 ?_
  refine gf_X6_24 hX dX6_fault_13 ?_
  refine at_iload_n hX rfl rfl dX6_fault_16 ?_
  refine at_iload_n hX rfl rfl dX6_fault_17 ?_
  refine at_iload_n hX rfl rfl dX6_fault_18 ?_
  obtain ⟨v19, e1, e⟩ := ob_some e
  refine at_callV3 hX cv_X6_120 (by decide) (c_X2_brickAt _ _ _ _ _ _ e1) (Nat.le_of_ble_eq_true rfl) dX6_fault_19 ?_
  refine at_istore hX hn (by decide) dX6_fault_22 ?_
  refine at_iload hX rfl dX6_fault_24 ?_
  refine at_iconst hX (v := -1) (by decide) dX6_fault_26 ?_
  refine at_icmp_ne hX (tgt := 41) (by decide) dX6_fault_27 (fun c27 => ?_) (fun c27 => ?_)
  · replace e := in_ c27 e
    refine at_iload hX rfl dX6_fault_41 ?_
    refine at_if_ne hX (tgt := 48) (by decide) dX6_fault_43 (fun c43 => ?_) (fun c43 => ?_)
    · replace e := in_ c43 e
      refine at_aload_n hX rfl rfl dX6_fault_48 ?_
      refine gf_X6_24 hX dX6_fault_49 ?_
      refine at_iload hX rfl dX6_fault_52 ?_
      obtain ⟨v54, e1, e⟩ := ob_some e
      refine at_callV1 hX cv_X6_244 (by decide) (c_X2_colourOf _ _ _ _ e1) (Nat.le_of_ble_eq_true rfl) dX6_fault_54 ?_
      refine at_iload hX rfl dX6_fault_57 ?_
      refine at_icmp_eq hX (tgt := 75) (by decide) dX6_fault_59 (fun c59 => ?_) (fun c59 => ?_)
      · replace e := ip_ c59 e
        refine at_iconst hX (v := -1) (by decide) dX6_fault_75 ?_
        refine at_goto hX (tgt := 80) (by decide) dX6_fault_76 ?_
        exact at_ireturn hX hR rfl (by cases e; rfl) rfl dX6_fault_80
      · replace e := in_ c59 e
        refine at_aload_n hX rfl rfl dX6_fault_62 ?_
        refine gf_X6_18 hX dX6_fault_63 ?_
        refine at_iload_n hX rfl rfl dX6_fault_66 ?_
        refine at_iload_n hX rfl rfl dX6_fault_67 ?_
        refine at_iload_n hX rfl rfl dX6_fault_68 ?_
        obtain ⟨v69, e1, e⟩ := ob_some e
        refine at_callV3 hX cv_X6_247 (by decide) (c_X0_isInner _ _ _ _ _ _ e1) (Nat.le_of_ble_eq_true rfl) dX6_fault_69 ?_
        refine at_if_eq hX (tgt := 79) (by decide) dX6_fault_72 (fun c72 => ?_) (fun c72 => ?_)
        · replace e := ip_ c72 e
          refine at_iconst hX (v := 1) (by decide) dX6_fault_79 ?_
          exact at_ireturn hX hR rfl (by cases e; rfl) rfl dX6_fault_80
        · replace e := in_ c72 e
          refine at_iconst hX (v := -1) (by decide) dX6_fault_75 ?_
          refine at_goto hX (tgt := 80) (by decide) dX6_fault_76 ?_
          exact at_ireturn hX hR rfl (by cases e; rfl) rfl dX6_fault_80
    · replace e := ip_ c43 e
      refine at_iconst hX (v := 2) (by decide) dX6_fault_46 ?_
      exact at_ireturn hX hR rfl (by cases e; rfl) rfl dX6_fault_47
  · replace e := ip_ c27 e
    refine at_iload hX rfl dX6_fault_30 ?_
    refine at_if_ne hX (tgt := 39) (by decide) dX6_fault_32 (fun c32 => ?_) (fun c32 => ?_)
    · replace e := in_ c32 e
      refine at_iconst hX (v := 0) (by decide) dX6_fault_39 ?_
      exact at_ireturn hX hR rfl (by cases e; rfl) rfl dX6_fault_40
    · replace e := ip_ c32 e
      refine at_iconst hX (v := -1) (by decide) dX6_fault_35 ?_
      refine at_goto hX (tgt := 40) (by decide) dX6_fault_36 ?_
      exact at_ireturn hX hR rfl (by cases e; rfl) rfl dX6_fault_40

def F_X6_fit_73 (k20 : Int32 → Int32 → Int32 → Hp → Option (Int32 × Hp)) (x1 : Int32) (x2 : Int32) (x3 : Int32) (h : Hp) : Option (Int32 × Hp) := k20 x1 x2 (x3 + (1 : Int32)) h
theorem A_X6_fit_73 {X : CX} {h' : Hp} {r : Int32} (hn : (xc_ X).maxLocals = 6) (hX : Ok_ X RX6 cX6_fit 5) (hR : Rt_ X (some .int) (some (.int r)) h') (k20 : Int32 → Int32 → Int32 → Hp → Option (Int32 × Hp)) (hk20 : ∀ (x1 : Int32) (x2 : Int32) (x3 : Int32) (h : Hp), k20 x1 x2 x3 h = some (r, h') → At_ X 20 [(0, .ref 6), (1, .int x1), (2, .int x2), (3, .int x3)] [] h) (x1 : Int32) (x2 : Int32) (x3 : Int32) (h : Hp) (e : F_X6_fit_73 k20 x1 x2 x3 h = some (r, h')) : At_ X 73 [(0, .ref 6), (1, .int x1), (2, .int x2), (3, .int x3)] [] h := by
  unfold F_X6_fit_73 at e
  refine at_iinc hX hn (by decide) rfl (v := 1) (by decide) dX6_fit_73 ?_
  refine at_goto hX (tgt := 20) (by decide) dX6_fit_76 ?_
  exact at_sub [0, 1, 2, 3] rfl (hk20 _ _ _ _ e)
def F_X6_fit_67 (k28 : Int32 → Int32 → Int32 → Int32 → Hp → Option (Int32 × Hp)) (x1 : Int32) (x2 : Int32) (x3 : Int32) (x4 : Int32) (h : Hp) : Option (Int32 × Hp) := k28 x1 x2 x3 (x4 + (1 : Int32)) h
theorem A_X6_fit_67 {X : CX} {h' : Hp} {r : Int32} (hn : (xc_ X).maxLocals = 6) (hX : Ok_ X RX6 cX6_fit 5) (hR : Rt_ X (some .int) (some (.int r)) h') (k28 : Int32 → Int32 → Int32 → Int32 → Hp → Option (Int32 × Hp)) (hk28 : ∀ (x1 : Int32) (x2 : Int32) (x3 : Int32) (x4 : Int32) (h : Hp), k28 x1 x2 x3 x4 h = some (r, h') → At_ X 28 [(0, .ref 6), (1, .int x1), (2, .int x2), (3, .int x3), (4, .int x4)] [] h) (x1 : Int32) (x2 : Int32) (x3 : Int32) (x4 : Int32) (h : Hp) (e : F_X6_fit_67 k28 x1 x2 x3 x4 h = some (r, h')) : At_ X 67 [(0, .ref 6), (1, .int x1), (2, .int x2), (3, .int x3), (4, .int x4)] [] h := by
  unfold F_X6_fit_67 at e
  refine at_iinc hX hn (by decide) rfl (v := 1) (by decide) dX6_fit_67 ?_
  refine at_goto hX (tgt := 28) (by decide) dX6_fit_70 ?_
  exact at_sub [0, 1, 2, 3, 4] rfl (hk28 _ _ _ _ _ e)
def F_X6_fit_61 (k38 : Int32 → Int32 → Int32 → Int32 → Int32 → Hp → Option (Int32 × Hp)) (x1 : Int32) (x2 : Int32) (x3 : Int32) (x4 : Int32) (x5 : Int32) (h : Hp) : Option (Int32 × Hp) := k38 x1 x2 x3 x4 (x5 + (1 : Int32)) h
theorem A_X6_fit_61 {X : CX} {h' : Hp} {r : Int32} (hn : (xc_ X).maxLocals = 6) (hX : Ok_ X RX6 cX6_fit 5) (hR : Rt_ X (some .int) (some (.int r)) h') (k38 : Int32 → Int32 → Int32 → Int32 → Int32 → Hp → Option (Int32 × Hp)) (hk38 : ∀ (x1 : Int32) (x2 : Int32) (x3 : Int32) (x4 : Int32) (x5 : Int32) (h : Hp), k38 x1 x2 x3 x4 x5 h = some (r, h') → At_ X 38 [(0, .ref 6), (1, .int x1), (2, .int x2), (3, .int x3), (4, .int x4), (5, .int x5)] [] h) (x1 : Int32) (x2 : Int32) (x3 : Int32) (x4 : Int32) (x5 : Int32) (h : Hp) (e : F_X6_fit_61 k38 x1 x2 x3 x4 x5 h = some (r, h')) : At_ X 61 [(0, .ref 6), (1, .int x1), (2, .int x2), (3, .int x3), (4, .int x4), (5, .int x5)] [] h := by
  unfold F_X6_fit_61 at e
  refine at_iinc hX hn (by decide) rfl (v := 1) (by decide) dX6_fit_61 ?_
  refine at_goto hX (tgt := 38) (by decide) dX6_fit_64 ?_
  exact at_sub [0, 1, 2, 3, 4, 5] rfl (hk38 _ _ _ _ _ _ e)
def F_X6_fit_38 (n : Nat) (k67 : Int32 → Int32 → Int32 → Int32 → Hp → Option (Int32 × Hp)) (x1 : Int32) (x2 : Int32) (x3 : Int32) (x4 : Int32) (x5 : Int32) (h : Hp) : Option (Int32 × Hp) := match n with
  | 0 => none
  | n + 1 => if (6 : Int32) ≤ x5 then k67 x1 x2 x3 x4 h else (F_X6_fault x5 x4 x3 h).bind fun v51 => if v51 = x1 then (F_X6_fit_61 (F_X6_fit_38 n k67)) x1 (x2 + (1 : Int32)) x3 x4 x5 h else (F_X6_fit_61 (F_X6_fit_38 n k67)) x1 x2 x3 x4 x5 h
theorem A_X6_fit_38 {X : CX} {h' : Hp} {r : Int32} (hn : (xc_ X).maxLocals = 6) (hX : Ok_ X RX6 cX6_fit 5) (hR : Rt_ X (some .int) (some (.int r)) h') (k67 : Int32 → Int32 → Int32 → Int32 → Hp → Option (Int32 × Hp)) (hk67 : ∀ (x1 : Int32) (x2 : Int32) (x3 : Int32) (x4 : Int32) (h : Hp), k67 x1 x2 x3 x4 h = some (r, h') → At_ X 67 [(0, .ref 6), (1, .int x1), (2, .int x2), (3, .int x3), (4, .int x4)] [] h) : ∀ (n : Nat) (x1 : Int32) (x2 : Int32) (x3 : Int32) (x4 : Int32) (x5 : Int32) (h : Hp), F_X6_fit_38 n k67 x1 x2 x3 x4 x5 h = some (r, h') → At_ X 38 [(0, .ref 6), (1, .int x1), (2, .int x2), (3, .int x3), (4, .int x4), (5, .int x5)] [] h := by
  intro n
  induction n with
  | zero => intro x1 x2 x3 x4 x5 h e; cases e
  | succ n ih =>
    intro x1 x2 x3 x4 x5 h e
    rw [F_X6_fit_38] at e
    refine at_iload hX rfl dX6_fit_38 ?_
    refine at_bipush hX (v := 6) (by decide) dX6_fit_40 ?_
    refine at_icmp_ge hX (tgt := 67) (by decide) dX6_fit_42 (fun c42 => ?_) (fun c42 => ?_)
    · replace e := ip_ c42 e
      exact at_sub [0, 1, 2, 3, 4] rfl (hk67 _ _ _ _ _ e)
    · replace e := in_ c42 e
      refine at_aload_n hX rfl rfl dX6_fit_45 ?_
      refine at_iload hX rfl dX6_fit_46 ?_
      refine at_iload hX rfl dX6_fit_48 ?_
      refine at_iload_n hX rfl rfl dX6_fit_50 ?_
      obtain ⟨v51, e1, e⟩ := ob_some e
      refine at_callV3 hX cv_X6_181 (by decide) (c_X6_fault _ _ _ _ _ _ e1) (Nat.le_of_ble_eq_true rfl) dX6_fit_51 ?_
      refine at_iload_n hX rfl rfl dX6_fit_54 ?_
      refine at_icmp_ne hX (tgt := 61) (by decide) dX6_fit_55 (fun c55 => ?_) (fun c55 => ?_)
      · replace e := in_ c55 e
        exact at_sub [0, 1, 2, 3, 4, 5] rfl ((A_X6_fit_61 hn hX hR (F_X6_fit_38 n k67) ih) _ _ _ _ _ _ e)
      · replace e := ip_ c55 e
        refine at_iinc hX hn (by decide) rfl (v := 1) (by decide) dX6_fit_58 ?_
        exact at_sub [0, 1, 2, 3, 4, 5] rfl ((A_X6_fit_61 hn hX hR (F_X6_fit_38 n k67) ih) _ _ _ _ _ _ e)
def F_X6_fit_28 (n : Nat) (k73 : Int32 → Int32 → Int32 → Hp → Option (Int32 × Hp)) (x1 : Int32) (x2 : Int32) (x3 : Int32) (x4 : Int32) (h : Hp) : Option (Int32 × Hp) := match n with
  | 0 => none
  | n + 1 => if (6 : Int32) ≤ x4 then k73 x1 x2 x3 h else (F_X6_fit_38 FU_ (F_X6_fit_67 (F_X6_fit_28 n k73))) x1 x2 x3 x4 (0 : Int32) h
theorem A_X6_fit_28 {X : CX} {h' : Hp} {r : Int32} (hn : (xc_ X).maxLocals = 6) (hX : Ok_ X RX6 cX6_fit 5) (hR : Rt_ X (some .int) (some (.int r)) h') (k73 : Int32 → Int32 → Int32 → Hp → Option (Int32 × Hp)) (hk73 : ∀ (x1 : Int32) (x2 : Int32) (x3 : Int32) (h : Hp), k73 x1 x2 x3 h = some (r, h') → At_ X 73 [(0, .ref 6), (1, .int x1), (2, .int x2), (3, .int x3)] [] h) : ∀ (n : Nat) (x1 : Int32) (x2 : Int32) (x3 : Int32) (x4 : Int32) (h : Hp), F_X6_fit_28 n k73 x1 x2 x3 x4 h = some (r, h') → At_ X 28 [(0, .ref 6), (1, .int x1), (2, .int x2), (3, .int x3), (4, .int x4)] [] h := by
  intro n
  induction n with
  | zero => intro x1 x2 x3 x4 h e; cases e
  | succ n ih =>
    intro x1 x2 x3 x4 h e
    rw [F_X6_fit_28] at e
    refine at_iload hX rfl dX6_fit_28 ?_
    refine at_bipush hX (v := 6) (by decide) dX6_fit_30 ?_
    refine at_icmp_ge hX (tgt := 73) (by decide) dX6_fit_32 (fun c32 => ?_) (fun c32 => ?_)
    · replace e := ip_ c32 e
      exact at_sub [0, 1, 2, 3] rfl (hk73 _ _ _ _ e)
    · replace e := in_ c32 e
      refine at_iconst hX (v := 0) (by decide) dX6_fit_35 ?_
      refine at_istore hX hn (by decide) dX6_fit_36 ?_
      exact at_sub [0, 1, 2, 3, 4, 5] rfl ((A_X6_fit_38 hn hX hR (F_X6_fit_67 (F_X6_fit_28 n k73)) (A_X6_fit_67 hn hX hR (F_X6_fit_28 n k73) ih) FU_) _ _ _ _ _ _ e)
def F_X6_fit_20 (n : Nat) (x1 : Int32) (x2 : Int32) (x3 : Int32) (h : Hp) : Option (Int32 × Hp) := match n with
  | 0 => none
  | n + 1 => if (5 : Int32) ≤ x3 then some (x2, h) else (F_X6_fit_28 FU_ (F_X6_fit_73 (F_X6_fit_20 n))) x1 x2 x3 (0 : Int32) h
theorem A_X6_fit_20 {X : CX} {h' : Hp} {r : Int32} (hn : (xc_ X).maxLocals = 6) (hX : Ok_ X RX6 cX6_fit 5) (hR : Rt_ X (some .int) (some (.int r)) h') : ∀ (n : Nat) (x1 : Int32) (x2 : Int32) (x3 : Int32) (h : Hp), F_X6_fit_20 n x1 x2 x3 h = some (r, h') → At_ X 20 [(0, .ref 6), (1, .int x1), (2, .int x2), (3, .int x3)] [] h := by
  intro n
  induction n with
  | zero => intro x1 x2 x3 h e; cases e
  | succ n ih =>
    intro x1 x2 x3 h e
    rw [F_X6_fit_20] at e
    refine at_iload_n hX rfl rfl dX6_fit_20 ?_
    refine at_iconst hX (v := 5) (by decide) dX6_fit_21 ?_
    refine at_icmp_ge hX (tgt := 79) (by decide) dX6_fit_22 (fun c22 => ?_) (fun c22 => ?_)
    · replace e := ip_ c22 e
      refine at_iload_n hX rfl rfl dX6_fit_79 ?_
      exact at_ireturn hX hR rfl (by cases e; rfl) (by cases e; rfl) dX6_fit_80
    · replace e := in_ c22 e
      refine at_iconst hX (v := 0) (by decide) dX6_fit_25 ?_
      refine at_istore hX hn (by decide) dX6_fit_26 ?_
      exact at_sub [0, 1, 2, 3, 4] rfl ((A_X6_fit_28 hn hX hR (F_X6_fit_73 (F_X6_fit_20 n)) (A_X6_fit_73 hn hX hR (F_X6_fit_20 n) ih) FU_) _ _ _ _ _ e)
def F_X6_fit (x1 : Int32) (h : Hp) : Option (Int32 × Hp) := if x1 < (0 : Int32) then (F_X6_refuse (-2 : Int32) h).bind fun ((v12, h12) : Int32 × Hp) => some (v12, h12) else if x1 ≤ (2 : Int32) then (F_X6_fit_20 FU_) x1 (0 : Int32) (0 : Int32) h else (F_X6_refuse (-2 : Int32) h).bind fun ((v12, h12) : Int32 × Hp) => some (v12, h12)
theorem c_X6_fit (l : Launch) (G : Gl) (x1 : Int32) (h : Hp) {r : Int32} {h' : Hp} (e : F_X6_fit x1 h = some (r, h')) : Does l G 5 M_X6_fit [.ref 6, .int x1] h (some (.int r)) h' := by
  refine Does.of (by decide) rfl (Nat.le_of_ble_eq_true rfl) (fun X hl hG hn hX hR => ?_)
  unfold F_X6_fit at e
  subst hl; subst hG
  show At_ X 0 [(0, .ref 6), (1, .int x1)] [] h
  refine at_iload_n hX rfl rfl dX6_fit_0 ?_
  refine at_if_lt hX (tgt := 9) (by decide) dX6_fit_1 (fun c1 => ?_) (fun c1 => ?_)
  · replace e := ip_ c1 e
    refine at_aload_n hX rfl rfl dX6_fit_9 ?_
    refine at_bipush hX (v := -2) (by decide) dX6_fit_10 ?_
    obtain ⟨⟨v12, h12⟩, e1, e⟩ := ob_some e
    refine at_callV1 hX cv_X6_65 (by decide) (c_X6_refuse _ _ _ _ e1) (Nat.le_of_ble_eq_true rfl) dX6_fit_12 ?_
    exact at_ireturn hX hR rfl (by cases e; rfl) (by cases e; rfl) dX6_fit_15
  · replace e := in_ c1 e
    refine at_iload_n hX rfl rfl dX6_fit_4 ?_
    refine at_iconst hX (v := 2) (by decide) dX6_fit_5 ?_
    refine at_icmp_le hX (tgt := 16) (by decide) dX6_fit_6 (fun c6 => ?_) (fun c6 => ?_)
    · replace e := ip_ c6 e
      refine at_iconst hX (v := 0) (by decide) dX6_fit_16 ?_
      refine at_istore_n hX rfl hn (by decide) dX6_fit_17 ?_
      refine at_iconst hX (v := 0) (by decide) dX6_fit_18 ?_
      refine at_istore_n hX rfl hn (by decide) dX6_fit_19 ?_
      exact at_sub [0, 1, 2, 3] rfl ((A_X6_fit_20 hn hX hR FU_) _ _ _ _ e)
    · replace e := in_ c6 e
      refine at_aload_n hX rfl rfl dX6_fit_9 ?_
      refine at_bipush hX (v := -2) (by decide) dX6_fit_10 ?_
      obtain ⟨⟨v12, h12⟩, e1, e⟩ := ob_some e
      refine at_callV1 hX cv_X6_65 (by decide) (c_X6_refuse _ _ _ _ e1) (Nat.le_of_ble_eq_true rfl) dX6_fit_12 ?_
      exact at_ireturn hX hR rfl (by cases e; rfl) (by cases e; rfl) dX6_fit_15

def F_X6_seams (x1 : Int32) (h : Hp) : Option Int32 := (F_X2_countSeams x1 h).bind fun v5 => some v5
theorem c_X6_seams (l : Launch) (G : Gl) (x1 : Int32) (h : Hp) {r : Int32} (e : F_X6_seams x1 h = some r) : Does l G 5 M_X6_seams [.ref 6, .int x1] h (some (.int r)) h := by
  refine Does.of (by decide) rfl (Nat.le_of_ble_eq_true rfl) (fun X hl hG hn hX hR => ?_)
  unfold F_X6_seams at e
  subst hl; subst hG
  show At_ X 0 [(0, .ref 6), (1, .int x1)] [] h
  refine at_aload_n hX rfl rfl dX6_seams_0 ?_
  refine gf_X6_24 hX dX6_seams_1 ?_
  refine at_iload_n hX rfl rfl dX6_seams_4 ?_
  obtain ⟨v5, e1, e⟩ := ob_some e
  refine at_callV1 hX cv_X6_184 (by decide) (c_X2_countSeams _ _ _ _ e1) (Nat.le_of_ble_eq_true rfl) dX6_seams_5 ?_
  exact at_ireturn hX hR rfl (by cases e; rfl) rfl dX6_seams_8

def F_X6_refusalOfCover (x1 : Int32) (x2 : Int32) (h : Hp) : Option (Int32 × Hp) := (F_X6_isBrickColour x1).bind fun v1 => if v1 = (0 : Int32) then some ((-1 : Int32), h) else if x2 < (0 : Int32) then some ((-1 : Int32), h) else if x2 < (5 : Int32) then (F_X3_findBest x1 x2 h).bind fun ((v24, h24) : Int32 × Hp) => if v24 = (0 : Int32) then some ((-6 : Int32), h24) else some ((0 : Int32), h24) else some ((-1 : Int32), h)
theorem c_X6_refusalOfCover (l : Launch) (G : Gl) (x1 : Int32) (x2 : Int32) (h : Hp) {r : Int32} {h' : Hp} (e : F_X6_refusalOfCover x1 x2 h = some (r, h')) : Does l G 47 M_X6_refusalOfCover [.ref 6, .int x1, .int x2] h (some (.int r)) h' := by
  refine Does.of (by decide) rfl (Nat.le_of_ble_eq_true rfl) (fun X hl hG hn hX hR => ?_)
  unfold F_X6_refusalOfCover at e
  subst hl; subst hG
  show At_ X 0 [(0, .ref 6), (1, .int x1), (2, .int x2)] [] h
  refine at_iload_n hX rfl rfl dX6_refusalOfCover_0 ?_
  obtain ⟨v1, e1, e⟩ := ob_some e
  refine at_callS1 hX cv_X6_88 (by decide) (c_X6_isBrickColour _ _ _ _ e1) (Nat.le_of_ble_eq_true rfl) dX6_refusalOfCover_1 ?_
  refine at_if_eq hX (tgt := 16) (by decide) dX6_refusalOfCover_4 (fun c4 => ?_) (fun c4 => ?_)
  · replace e := ip_ c4 e
    refine at_iconst hX (v := -1) (by decide) dX6_refusalOfCover_16 ?_
    exact at_ireturn hX hR rfl (by cases e; rfl) (by cases e; rfl) dX6_refusalOfCover_17
  · replace e := in_ c4 e
    refine at_iload_n hX rfl rfl dX6_refusalOfCover_7 ?_
    refine at_if_lt hX (tgt := 16) (by decide) dX6_refusalOfCover_8 (fun c8 => ?_) (fun c8 => ?_)
    · replace e := ip_ c8 e
      refine at_iconst hX (v := -1) (by decide) dX6_refusalOfCover_16 ?_
      exact at_ireturn hX hR rfl (by cases e; rfl) (by cases e; rfl) dX6_refusalOfCover_17
    · replace e := in_ c8 e
      refine at_iload_n hX rfl rfl dX6_refusalOfCover_11 ?_
      refine at_iconst hX (v := 5) (by decide) dX6_refusalOfCover_12 ?_
      refine at_icmp_lt hX (tgt := 18) (by decide) dX6_refusalOfCover_13 (fun c13 => ?_) (fun c13 => ?_)
      · replace e := ip_ c13 e
        refine at_aload_n hX rfl rfl dX6_refusalOfCover_18 ?_
        refine gf_X6_37 hX dX6_refusalOfCover_19 ?_
        refine at_iload_n hX rfl rfl dX6_refusalOfCover_22 ?_
        refine at_iload_n hX rfl rfl dX6_refusalOfCover_23 ?_
        obtain ⟨⟨v24, h24⟩, e1, e⟩ := ob_some e
        refine at_callV2 hX cv_X6_240 (by decide) (c_X3_findBest _ _ _ _ _ e1) (Nat.le_of_ble_eq_true rfl) dX6_refusalOfCover_24 ?_
        refine at_if_eq hX (tgt := 34) (by decide) dX6_refusalOfCover_27 (fun c27 => ?_) (fun c27 => ?_)
        · replace e := ip_ c27 e
          refine at_bipush hX (v := -6) (by decide) dX6_refusalOfCover_34 ?_
          exact at_ireturn hX hR rfl (by cases e; rfl) (by cases e; rfl) dX6_refusalOfCover_36
        · replace e := in_ c27 e
          refine at_iconst hX (v := 0) (by decide) dX6_refusalOfCover_30 ?_
          refine at_goto hX (tgt := 36) (by decide) dX6_refusalOfCover_31 ?_
          exact at_ireturn hX hR rfl (by cases e; rfl) (by cases e; rfl) dX6_refusalOfCover_36
      · replace e := in_ c13 e
        refine at_iconst hX (v := -1) (by decide) dX6_refusalOfCover_16 ?_
        exact at_ireturn hX hR rfl (by cases e; rfl) (by cases e; rfl) dX6_refusalOfCover_17

def F_X6_cover (x1 : Int32) (x2 : Int32) (h : Hp) : Option (Int32 × Hp) := (F_X6_refusalOfCover x1 x2 h).bind fun ((v3, h3) : Int32 × Hp) => if v3 = (0 : Int32) then (F_X3_length  h3).bind fun v23 => some (v23, h3) else (F_X6_refuse v3 h3).bind fun ((v13, h13) : Int32 × Hp) => some (v13, h13)
theorem c_X6_cover (l : Launch) (G : Gl) (x1 : Int32) (x2 : Int32) (h : Hp) {r : Int32} {h' : Hp} (e : F_X6_cover x1 x2 h = some (r, h')) : Does l G 48 M_X6_cover [.ref 6, .int x1, .int x2] h (some (.int r)) h' := by
  refine Does.of (by decide) rfl (Nat.le_of_ble_eq_true rfl) (fun X hl hG hn hX hR => ?_)
  unfold F_X6_cover at e
  subst hl; subst hG
  show At_ X 0 [(0, .ref 6), (1, .int x1), (2, .int x2)] [] h
  refine at_aload_n hX rfl rfl dX6_cover_0 ?_
  refine at_iload_n hX rfl rfl dX6_cover_1 ?_
  refine at_iload_n hX rfl rfl dX6_cover_2 ?_
  obtain ⟨⟨v3, h3⟩, e1, e⟩ := ob_some e
  refine at_callV2 hX cv_X6_188 (by decide) (c_X6_refusalOfCover _ _ _ _ _ e1) (Nat.le_of_ble_eq_true rfl) dX6_cover_3 ?_
  refine at_istore_n hX rfl hn (by decide) dX6_cover_6 ?_
  refine at_iload_n hX rfl rfl dX6_cover_7 ?_
  refine at_if_eq hX (tgt := 19) (by decide) dX6_cover_8 (fun c8 => ?_) (fun c8 => ?_)
  · replace e := ip_ c8 e
    refine at_aload_n hX rfl rfl dX6_cover_19 ?_
    refine gf_X6_37 hX dX6_cover_20 ?_
    obtain ⟨v23, e1, e⟩ := ob_some e
    refine at_callV0 hX cv_X6_191 (by decide) (c_X3_length _ _  _ e1) (Nat.le_of_ble_eq_true rfl) dX6_cover_23 ?_
    exact at_ireturn hX hR rfl (by cases e; rfl) (by cases e; rfl) dX6_cover_26
  · replace e := in_ c8 e
    refine at_aload_n hX rfl rfl dX6_cover_11 ?_
    refine at_iload_n hX rfl rfl dX6_cover_12 ?_
    obtain ⟨⟨v13, h13⟩, e1, e⟩ := ob_some e
    refine at_callV1 hX cv_X6_65 (by decide) (c_X6_refuse _ _ _ _ e1) (Nat.le_of_ble_eq_true rfl) dX6_cover_13 ?_
    refine at_goto hX (tgt := 26) (by decide) dX6_cover_16 ?_
    exact at_ireturn hX hR rfl (by cases e; rfl) (by cases e; rfl) dX6_cover_26

def F_X6_coverSeams (x1 : Int32) (x2 : Int32) (h : Hp) : Option (Int32 × Hp) := (F_X6_refusalOfCover x1 x2 h).bind fun ((v3, h3) : Int32 × Hp) => if v3 = (0 : Int32) then (F_X3_newSeams  h3).bind fun v23 => some (v23, h3) else (F_X6_refuse v3 h3).bind fun ((v13, h13) : Int32 × Hp) => some (v13, h13)
theorem c_X6_coverSeams (l : Launch) (G : Gl) (x1 : Int32) (x2 : Int32) (h : Hp) {r : Int32} {h' : Hp} (e : F_X6_coverSeams x1 x2 h = some (r, h')) : Does l G 48 M_X6_coverSeams [.ref 6, .int x1, .int x2] h (some (.int r)) h' := by
  refine Does.of (by decide) rfl (Nat.le_of_ble_eq_true rfl) (fun X hl hG hn hX hR => ?_)
  unfold F_X6_coverSeams at e
  subst hl; subst hG
  show At_ X 0 [(0, .ref 6), (1, .int x1), (2, .int x2)] [] h
  refine at_aload_n hX rfl rfl dX6_coverSeams_0 ?_
  refine at_iload_n hX rfl rfl dX6_coverSeams_1 ?_
  refine at_iload_n hX rfl rfl dX6_coverSeams_2 ?_
  obtain ⟨⟨v3, h3⟩, e1, e⟩ := ob_some e
  refine at_callV2 hX cv_X6_188 (by decide) (c_X6_refusalOfCover _ _ _ _ _ e1) (Nat.le_of_ble_eq_true rfl) dX6_coverSeams_3 ?_
  refine at_istore_n hX rfl hn (by decide) dX6_coverSeams_6 ?_
  refine at_iload_n hX rfl rfl dX6_coverSeams_7 ?_
  refine at_if_eq hX (tgt := 19) (by decide) dX6_coverSeams_8 (fun c8 => ?_) (fun c8 => ?_)
  · replace e := ip_ c8 e
    refine at_aload_n hX rfl rfl dX6_coverSeams_19 ?_
    refine gf_X6_37 hX dX6_coverSeams_20 ?_
    obtain ⟨v23, e1, e⟩ := ob_some e
    refine at_callV0 hX cv_X6_194 (by decide) (c_X3_newSeams _ _  _ e1) (Nat.le_of_ble_eq_true rfl) dX6_coverSeams_23 ?_
    exact at_ireturn hX hR rfl (by cases e; rfl) (by cases e; rfl) dX6_coverSeams_26
  · replace e := in_ c8 e
    refine at_aload_n hX rfl rfl dX6_coverSeams_11 ?_
    refine at_iload_n hX rfl rfl dX6_coverSeams_12 ?_
    obtain ⟨⟨v13, h13⟩, e1, e⟩ := ob_some e
    refine at_callV1 hX cv_X6_65 (by decide) (c_X6_refuse _ _ _ _ e1) (Nat.le_of_ble_eq_true rfl) dX6_coverSeams_13 ?_
    refine at_goto hX (tgt := 26) (by decide) dX6_coverSeams_16 ?_
    exact at_ireturn hX hR rfl (by cases e; rfl) (by cases e; rfl) dX6_coverSeams_26

def F_X6_coverAt (x1 : Int32) (x2 : Int32) (x3 : Int32) (h : Hp) : Option (Int32 × Hp) := (F_X6_refusalOfCover x1 x2 h).bind fun ((v3, h3) : Int32 × Hp) => if v3 = (0 : Int32) then (F_X3_toldAt x3 h3).bind fun v27 => some (v27, h3) else (F_X6_refuse v3 h3).bind fun ((v16, h16) : Int32 × Hp) => some (v16, h16)
theorem c_X6_coverAt (l : Launch) (G : Gl) (x1 : Int32) (x2 : Int32) (x3 : Int32) (h : Hp) {r : Int32} {h' : Hp} (e : F_X6_coverAt x1 x2 x3 h = some (r, h')) : Does l G 48 M_X6_coverAt [.ref 6, .int x1, .int x2, .int x3] h (some (.int r)) h' := by
  refine Does.of (by decide) rfl (Nat.le_of_ble_eq_true rfl) (fun X hl hG hn hX hR => ?_)
  unfold F_X6_coverAt at e
  subst hl; subst hG
  show At_ X 0 [(0, .ref 6), (1, .int x1), (2, .int x2), (3, .int x3)] [] h
  refine at_aload_n hX rfl rfl dX6_coverAt_0 ?_
  refine at_iload_n hX rfl rfl dX6_coverAt_1 ?_
  refine at_iload_n hX rfl rfl dX6_coverAt_2 ?_
  obtain ⟨⟨v3, h3⟩, e1, e⟩ := ob_some e
  refine at_callV2 hX cv_X6_188 (by decide) (c_X6_refusalOfCover _ _ _ _ _ e1) (Nat.le_of_ble_eq_true rfl) dX6_coverAt_3 ?_
  refine at_istore hX hn (by decide) dX6_coverAt_6 ?_
  refine at_iload hX rfl dX6_coverAt_8 ?_
  refine at_if_eq hX (tgt := 22) (by decide) dX6_coverAt_10 (fun c10 => ?_) (fun c10 => ?_)
  · replace e := ip_ c10 e
    refine at_aload_n hX rfl rfl dX6_coverAt_22 ?_
    refine gf_X6_37 hX dX6_coverAt_23 ?_
    refine at_iload_n hX rfl rfl dX6_coverAt_26 ?_
    obtain ⟨v27, e1, e⟩ := ob_some e
    refine at_callV1 hX cv_X6_197 (by decide) (c_X3_toldAt _ _ _ _ e1) (Nat.le_of_ble_eq_true rfl) dX6_coverAt_27 ?_
    exact at_ireturn hX hR rfl (by cases e; rfl) (by cases e; rfl) dX6_coverAt_30
  · replace e := in_ c10 e
    refine at_aload_n hX rfl rfl dX6_coverAt_13 ?_
    refine at_iload hX rfl dX6_coverAt_14 ?_
    obtain ⟨⟨v16, h16⟩, e1, e⟩ := ob_some e
    refine at_callV1 hX cv_X6_65 (by decide) (c_X6_refuse _ _ _ _ e1) (Nat.le_of_ble_eq_true rfl) dX6_coverAt_16 ?_
    refine at_goto hX (tgt := 30) (by decide) dX6_coverAt_19 ?_
    exact at_ireturn hX hR rfl (by cases e; rfl) (by cases e; rfl) dX6_coverAt_30

def F_X6_lay_51 (n : Nat) (x1 : Int32) (x2 : Int32) (x4 : Int32) (x5 : Int32) (h : Hp) : Option (Int32 × Hp) := match n with
  | 0 => none
  | n + 1 => if x4 ≤ x5 then (F_X6_forgetAnswers  h).bind fun h113 => some (x4, h113) else (F_X3_toldAt x5 h).bind fun v64 => (F_X2_add (ir_ v64 (10 : Int32)) (ir_ (v64 / (10 : Int32)) (10 : Int32)) (ir_ (v64 / (100 : Int32)) (10 : Int32)) (v64 / (1000 : Int32)) x2 x1 h).bind fun ((v102, h102) : Int32 × Hp) => (F_X6_lay_51 n) x1 x2 x4 (x5 + (1 : Int32)) h102
theorem A_X6_lay_51 {X : CX} {h' : Hp} {r : Int32} (hn : (xc_ X).maxLocals = 7) (hX : Ok_ X RX6 cX6_lay 48) (hR : Rt_ X (some .int) (some (.int r)) h') : ∀ (n : Nat) (x1 : Int32) (x2 : Int32) (x4 : Int32) (x5 : Int32) (h : Hp), F_X6_lay_51 n x1 x2 x4 x5 h = some (r, h') → At_ X 51 [(0, .ref 6), (1, .int x1), (2, .int x2), (4, .int x4), (5, .int x5)] [] h := by
  intro n
  induction n with
  | zero => intro x1 x2 x4 x5 h e; cases e
  | succ n ih =>
    intro x1 x2 x4 x5 h e
    rw [F_X6_lay_51] at e
    refine at_iload hX rfl dX6_lay_51 ?_
    refine at_iload hX rfl dX6_lay_53 ?_
    refine at_icmp_ge hX (tgt := 112) (by decide) dX6_lay_55 (fun c55 => ?_) (fun c55 => ?_)
    · replace e := ip_ c55 e
      refine at_aload_n hX rfl rfl dX6_lay_112 ?_
      obtain ⟨h113, e1, e⟩ := ob_some e
      refine at_callV0 hX cv_X6_69 (by decide) (c_X6_forgetAnswers _ _  _ e1) (Nat.le_of_ble_eq_true rfl) dX6_lay_113 ?_
      refine at_iload hX rfl dX6_lay_116 ?_
      exact at_ireturn hX hR rfl (by cases e; rfl) (by cases e; rfl) dX6_lay_118
    · replace e := in_ c55 e
      refine at_aload_n hX rfl rfl dX6_lay_58 ?_
      refine gf_X6_37 hX dX6_lay_59 ?_
      refine at_iload hX rfl dX6_lay_62 ?_
      obtain ⟨v64, e1, e⟩ := ob_some e
      refine at_callV1 hX cv_X6_197 (by decide) (c_X3_toldAt _ _ _ _ e1) (Nat.le_of_ble_eq_true rfl) dX6_lay_64 ?_
      refine at_istore hX hn (by decide) dX6_lay_67 ?_
      refine at_aload_n hX rfl rfl dX6_lay_69 ?_
      refine gf_X6_24 hX dX6_lay_70 ?_
      refine at_iload hX rfl dX6_lay_73 ?_
      refine at_bipush hX (v := 10) (by decide) dX6_lay_75 ?_
      refine at_irem hX (by decide) dX6_lay_77 ?_
      refine at_iload hX rfl dX6_lay_78 ?_
      refine at_bipush hX (v := 10) (by decide) dX6_lay_80 ?_
      refine at_idiv hX (by decide) dX6_lay_82 ?_
      refine at_bipush hX (v := 10) (by decide) dX6_lay_83 ?_
      refine at_irem hX (by decide) dX6_lay_85 ?_
      refine at_iload hX rfl dX6_lay_86 ?_
      refine at_bipush hX (v := 100) (by decide) dX6_lay_88 ?_
      refine at_idiv hX (by decide) dX6_lay_90 ?_
      refine at_bipush hX (v := 10) (by decide) dX6_lay_91 ?_
      refine at_irem hX (by decide) dX6_lay_93 ?_
      refine at_iload hX rfl dX6_lay_94 ?_
      refine at_sipush hX (v := 1000) (by decide) dX6_lay_96 ?_
      refine at_idiv hX (by decide) dX6_lay_99 ?_
      refine at_iload_n hX rfl rfl dX6_lay_100 ?_
      refine at_iload_n hX rfl rfl dX6_lay_101 ?_
      obtain ⟨⟨v102, h102⟩, e1, e⟩ := ob_some e
      refine at_callV6 hX cv_X6_109 (by decide) (c_X2_add _ _ _ _ _ _ _ _ _ e1) (Nat.le_of_ble_eq_true rfl) dX6_lay_102 ?_
      refine at_pop hX rfl dX6_lay_105 ?_
      refine at_iinc hX hn (by decide) rfl (v := 1) (by decide) dX6_lay_106 ?_
      refine at_goto hX (tgt := 51) (by decide) dX6_lay_109 ?_
      exact at_sub [0, 1, 2, 4, 5] rfl (ih _ _ _ _ _ e)
def F_X6_lay (x1 : Int32) (x2 : Int32) (h : Hp) : Option (Int32 × Hp) := (F_X6_refusalOfCover x1 x2 h).bind fun ((v3, h3) : Int32 × Hp) => if v3 = (0 : Int32) then (F_X3_length  h3).bind fun v21 => (F_X2_ever  h3).bind fun v30 => if v30 + v21 ≤ (40 : Int32) then (F_X6_lay_51 FU_) x1 x2 v21 (0 : Int32) h3 else (F_X6_refuse (-6 : Int32) h3).bind fun ((v44, h44) : Int32 × Hp) => some (v44, h44) else (F_X6_refuse v3 h3).bind fun ((v13, h13) : Int32 × Hp) => some (v13, h13)
theorem c_X6_lay (l : Launch) (G : Gl) (x1 : Int32) (x2 : Int32) (h : Hp) {r : Int32} {h' : Hp} (e : F_X6_lay x1 x2 h = some (r, h')) : Does l G 48 M_X6_lay [.ref 6, .int x1, .int x2] h (some (.int r)) h' := by
  refine Does.of (by decide) rfl (Nat.le_of_ble_eq_true rfl) (fun X hl hG hn hX hR => ?_)
  unfold F_X6_lay at e
  subst hl; subst hG
  show At_ X 0 [(0, .ref 6), (1, .int x1), (2, .int x2)] [] h
  refine at_aload_n hX rfl rfl dX6_lay_0 ?_
  refine at_iload_n hX rfl rfl dX6_lay_1 ?_
  refine at_iload_n hX rfl rfl dX6_lay_2 ?_
  obtain ⟨⟨v3, h3⟩, e1, e⟩ := ob_some e
  refine at_callV2 hX cv_X6_188 (by decide) (c_X6_refusalOfCover _ _ _ _ _ e1) (Nat.le_of_ble_eq_true rfl) dX6_lay_3 ?_
  refine at_istore_n hX rfl hn (by decide) dX6_lay_6 ?_
  refine at_iload_n hX rfl rfl dX6_lay_7 ?_
  refine at_if_eq hX (tgt := 17) (by decide) dX6_lay_8 (fun c8 => ?_) (fun c8 => ?_)
  · replace e := ip_ c8 e
    refine at_aload_n hX rfl rfl dX6_lay_17 ?_
    refine gf_X6_37 hX dX6_lay_18 ?_
    obtain ⟨v21, e1, e⟩ := ob_some e
    refine at_callV0 hX cv_X6_191 (by decide) (c_X3_length _ _  _ e1) (Nat.le_of_ble_eq_true rfl) dX6_lay_21 ?_
    refine at_istore hX hn (by decide) dX6_lay_24 ?_
    refine at_aload_n hX rfl rfl dX6_lay_26 ?_
    refine gf_X6_24 hX dX6_lay_27 ?_
    obtain ⟨v30, e1, e⟩ := ob_some e
    refine at_callV0 hX cv_X6_106 (by decide) (c_X2_ever _ _  _ e1) (Nat.le_of_ble_eq_true rfl) dX6_lay_30 ?_
    refine at_iload hX rfl dX6_lay_33 ?_
    refine at_iadd hX dX6_lay_35 ?_
    refine at_bipush hX (v := 40) (by decide) dX6_lay_36 ?_
    refine at_icmp_le hX (tgt := 48) (by decide) dX6_lay_38 (fun c38 => ?_) (fun c38 => ?_)
    · replace e := ip_ c38 e
      refine at_iconst hX (v := 0) (by decide) dX6_lay_48 ?_
      refine at_istore hX hn (by decide) dX6_lay_49 ?_
      exact at_sub [0, 1, 2, 4, 5] rfl ((A_X6_lay_51 hn hX hR FU_) _ _ _ _ _ e)
    · replace e := in_ c38 e
      refine at_aload_n hX rfl rfl dX6_lay_41 ?_
      refine at_bipush hX (v := -6) (by decide) dX6_lay_42 ?_
      obtain ⟨⟨v44, h44⟩, e1, e⟩ := ob_some e
      refine at_callV1 hX cv_X6_65 (by decide) (c_X6_refuse _ _ _ _ e1) (Nat.le_of_ble_eq_true rfl) dX6_lay_44 ?_
      exact at_ireturn hX hR rfl (by cases e; rfl) (by cases e; rfl) dX6_lay_47
  · replace e := in_ c8 e
    refine at_aload_n hX rfl rfl dX6_lay_11 ?_
    refine at_iload_n hX rfl rfl dX6_lay_12 ?_
    obtain ⟨⟨v13, h13⟩, e1, e⟩ := ob_some e
    refine at_callV1 hX cv_X6_65 (by decide) (c_X6_refuse _ _ _ _ e1) (Nat.le_of_ble_eq_true rfl) dX6_lay_13 ?_
    exact at_ireturn hX hR rfl (by cases e; rfl) (by cases e; rfl) dX6_lay_16
