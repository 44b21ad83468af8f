
def F_X6_box (x1 : Int32) (x2 : Int32) (h : Hp) : Option (Int32 × Hp) := (F_X6_isKind x1).bind fun v1 => if v1 = (0 : Int32) then (F_X6_refuse (-1 : Int32) h).bind fun ((v9, h9) : Int32 × Hp) => some (v9, h9) else if (0 : Int32) ≤ x2 then if x2 ≤ (99 : Int32) then (F_X1_fill x1 x2 h).bind fun ((v43, h43) : Int32 × Hp) => some (v43, h43) else (F_X6_refuse (-6 : Int32) h).bind fun ((v33, h33) : Int32 × Hp) => some (v33, h33) else (F_X6_refuse (-4 : Int32) h).bind fun ((v20, h20) : Int32 × Hp) => some (v20, h20)
theorem c_X6_box (l : Launch) (G : Gl) (x1 : Int32) (x2 : Int32) (h : Hp) {r : Int32} {h' : Hp} (e : F_X6_box x1 x2 h = some (r, h')) : Does l G 3 M_X6_box [.ref 6, .int x1, .int x2] h (some (.int r)) h' := by
  refine Does.of (by decide) rfl (Nat.le_of_ble_eq_true rfl) (fun X hl hG hn hX hR => ?_)
  unfold F_X6_box at e
  subst hl; subst hG
  show At_ X 0 [(0, .ref 6), (1, .int x1), (2, .int x2)] [] h
  refine at_iload_n hX rfl rfl dX6_box_0 ?_
  obtain ⟨v1, e1, e⟩ := ob_some e
  refine at_callS1 hX cv_X6_84 (by decide) (c_X6_isKind _ _ _ _ e1) (Nat.le_of_ble_eq_true rfl) dX6_box_1 ?_
  refine at_if_ne hX (tgt := 13) (by decide) dX6_box_4 (fun c4 => ?_) (fun c4 => ?_)
  · replace e := in_ c4 e
    refine at_iload_n hX rfl rfl dX6_box_13 ?_
    refine at_if_ge hX (tgt := 24) (by decide) dX6_box_14 (fun c14 => ?_) (fun c14 => ?_)
    · replace e := ip_ c14 e
      refine at_iload_n hX rfl rfl dX6_box_24 ?_
      refine at_bipush hX (v := 99) (by decide) dX6_box_25 ?_
      refine at_icmp_le hX (tgt := 37) (by decide) dX6_box_27 (fun c27 => ?_) (fun c27 => ?_)
      · replace e := ip_ c27 e
        refine at_aload_n hX rfl rfl dX6_box_37 ?_
        refine gf_X6_53 hX dX6_box_38 ?_
        refine at_iload_n hX rfl rfl dX6_box_41 ?_
        refine at_iload_n hX rfl rfl dX6_box_42 ?_
        obtain ⟨⟨v43, h43⟩, e1, e⟩ := ob_some e
        refine at_callV2 hX cv_X6_200 (by decide) (c_X1_fill _ _ _ _ _ e1) (Nat.le_of_ble_eq_true rfl) dX6_box_43 ?_
        exact at_ireturn hX hR rfl (by cases e; rfl) (by cases e; rfl) dX6_box_46
      · replace e := in_ c27 e
        refine at_aload_n hX rfl rfl dX6_box_30 ?_
        refine at_bipush hX (v := -6) (by decide) dX6_box_31 ?_
        obtain ⟨⟨v33, h33⟩, e1, e⟩ := ob_some e
        refine at_callV1 hX cv_X6_65 (by decide) (c_X6_refuse _ _ _ _ e1) (Nat.le_of_ble_eq_true rfl) dX6_box_33 ?_
        exact at_ireturn hX hR rfl (by cases e; rfl) (by cases e; rfl) dX6_box_36
    · replace e := in_ c14 e
      refine at_aload_n hX rfl rfl dX6_box_17 ?_
      refine at_bipush hX (v := -4) (by decide) dX6_box_18 ?_
      obtain ⟨⟨v20, h20⟩, e1, e⟩ := ob_some e
      refine at_callV1 hX cv_X6_65 (by decide) (c_X6_refuse _ _ _ _ e1) (Nat.le_of_ble_eq_true rfl) dX6_box_20 ?_
      exact at_ireturn hX hR rfl (by cases e; rfl) (by cases e; rfl) dX6_box_23
  · replace e := ip_ c4 e
    refine at_aload_n hX rfl rfl dX6_box_7 ?_
    refine at_iconst hX (v := -1) (by decide) dX6_box_8 ?_
    obtain ⟨⟨v9, h9⟩, e1, e⟩ := ob_some e
    refine at_callV1 hX cv_X6_65 (by decide) (c_X6_refuse _ _ _ _ e1) (Nat.le_of_ble_eq_true rfl) dX6_box_9 ?_
    exact at_ireturn hX hR rfl (by cases e; rfl) (by cases e; rfl) dX6_box_12

def F_X6_lacking_11 (n : Nat) (x1 : Int32) (x2 : Int32) (h : Hp) : Option (Int32 × Hp) := match n with
  | 0 => none
  | n + 1 => if (7 : Int32) ≤ x2 then some (x1, h) else (F_X1_shortOf x2 h).bind fun v23 => (F_X6_lacking_11 n) (x1 + v23) (x2 + (1 : Int32)) h
theorem A_X6_lacking_11 {X : CX} {h' : Hp} {r : Int32} (hn : (xc_ X).maxLocals = 3) (hX : Ok_ X RX6 cX6_lacking 6) (hR : Rt_ X (some .int) (some (.int r)) h') : ∀ (n : Nat) (x1 : Int32) (x2 : Int32) (h : Hp), F_X6_lacking_11 n x1 x2 h = some (r, h') → At_ X 11 [(0, .ref 6), (1, .int x1), (2, .int x2)] [] h := by
  intro n
  induction n with
  | zero => intro x1 x2 h e; cases e
  | succ n ih =>
    intro x1 x2 h e
    rw [F_X6_lacking_11] at e
    refine at_iload_n hX rfl rfl dX6_lacking_11 ?_
    refine at_bipush hX (v := 7) (by decide) dX6_lacking_12 ?_
    refine at_icmp_ge hX (tgt := 34) (by decide) dX6_lacking_14 (fun c14 => ?_) (fun c14 => ?_)
    · replace e := ip_ c14 e
      refine at_iload_n hX rfl rfl dX6_lacking_34 ?_
      exact at_ireturn hX hR rfl (by cases e; rfl) (by cases e; rfl) dX6_lacking_35
    · replace e := in_ c14 e
      refine at_iload_n hX rfl rfl dX6_lacking_17 ?_
      refine at_aload_n hX rfl rfl dX6_lacking_18 ?_
      refine gf_X6_53 hX dX6_lacking_19 ?_
      refine at_iload_n hX rfl rfl dX6_lacking_22 ?_
      obtain ⟨v23, e1, e⟩ := ob_some e
      refine at_callV1 hX cv_X6_206 (by decide) (c_X1_shortOf _ _ _ _ e1) (Nat.le_of_ble_eq_true rfl) dX6_lacking_23 ?_
      refine at_iadd hX dX6_lacking_26 ?_
      refine at_istore_n hX rfl hn (by decide) dX6_lacking_27 ?_
      refine at_iinc hX hn (by decide) rfl (v := 1) (by decide) dX6_lacking_28 ?_
      refine at_goto hX (tgt := 11) (by decide) dX6_lacking_31 ?_
      exact at_sub [0, 1, 2] rfl (ih _ _ _ e)
def F_X6_lacking (h : Hp) : Option (Int32 × Hp) := (F_X1_settle  h).bind fun h4 => (F_X6_lacking_11 FU_) (0 : Int32) (0 : Int32) h4
theorem c_X6_lacking (l : Launch) (G : Gl) (h : Hp) {r : Int32} {h' : Hp} (e : F_X6_lacking  h = some (r, h')) : Does l G 6 M_X6_lacking [.ref 6] h (some (.int r)) h' := by
  refine Does.of (by decide) rfl (Nat.le_of_ble_eq_true rfl) (fun X hl hG hn hX hR => ?_)
  unfold F_X6_lacking at e
  subst hl; subst hG
  show At_ X 0 [(0, .ref 6)] [] h
  refine at_aload_n hX rfl rfl dX6_lacking_0 ?_
  refine gf_X6_53 hX dX6_lacking_1 ?_
  obtain ⟨h4, e1, e⟩ := ob_some e
  refine at_callV0 hX cv_X6_203 (by decide) (c_X1_settle _ _  _ e1) (Nat.le_of_ble_eq_true rfl) dX6_lacking_4 ?_
  refine at_iconst hX (v := 0) (by decide) dX6_lacking_7 ?_
  refine at_istore_n hX rfl hn (by decide) dX6_lacking_8 ?_
  refine at_iconst hX (v := 0) (by decide) dX6_lacking_9 ?_
  refine at_istore_n hX rfl hn (by decide) dX6_lacking_10 ?_
  exact at_sub [0, 1, 2] rfl ((A_X6_lacking_11 hn hX hR FU_) _ _ _ e)

def F_X6_lacks (x1 : Int32) (h : Hp) : Option (Int32 × Hp) := (F_X6_isKind x1).bind fun v1 => if v1 = (0 : Int32) then (F_X6_refuse (-1 : Int32) h).bind fun ((v9, h9) : Int32 × Hp) => some (v9, h9) else (F_X1_settle  h).bind fun h17 => (F_X1_shortOf x1 h17).bind fun v25 => some (v25, h17)
theorem c_X6_lacks (l : Launch) (G : Gl) (x1 : Int32) (h : Hp) {r : Int32} {h' : Hp} (e : F_X6_lacks x1 h = some (r, h')) : Does l G 6 M_X6_lacks [.ref 6, .int x1] h (some (.int r)) h' := by
  refine Does.of (by decide) rfl (Nat.le_of_ble_eq_true rfl) (fun X hl hG hn hX hR => ?_)
  unfold F_X6_lacks at e
  subst hl; subst hG
  show At_ X 0 [(0, .ref 6), (1, .int x1)] [] h
  refine at_iload_n hX rfl rfl dX6_lacks_0 ?_
  obtain ⟨v1, e1, e⟩ := ob_some e
  refine at_callS1 hX cv_X6_84 (by decide) (c_X6_isKind _ _ _ _ e1) (Nat.le_of_ble_eq_true rfl) dX6_lacks_1 ?_
  refine at_if_ne hX (tgt := 13) (by decide) dX6_lacks_4 (fun c4 => ?_) (fun c4 => ?_)
  · replace e := in_ c4 e
    refine at_aload_n hX rfl rfl dX6_lacks_13 ?_
    refine gf_X6_53 hX dX6_lacks_14 ?_
    obtain ⟨h17, e1, e⟩ := ob_some e
    refine at_callV0 hX cv_X6_203 (by decide) (c_X1_settle _ _  _ e1) (Nat.le_of_ble_eq_true rfl) dX6_lacks_17 ?_
    refine at_aload_n hX rfl rfl dX6_lacks_20 ?_
    refine gf_X6_53 hX dX6_lacks_21 ?_
    refine at_iload_n hX rfl rfl dX6_lacks_24 ?_
    obtain ⟨v25, e1, e⟩ := ob_some e
    refine at_callV1 hX cv_X6_206 (by decide) (c_X1_shortOf _ _ _ _ e1) (Nat.le_of_ble_eq_true rfl) dX6_lacks_25 ?_
    exact at_ireturn hX hR rfl (by cases e; rfl) (by cases e; rfl) dX6_lacks_28
  · replace e := ip_ c4 e
    refine at_aload_n hX rfl rfl dX6_lacks_7 ?_
    refine at_iconst hX (v := -1) (by decide) dX6_lacks_8 ?_
    obtain ⟨⟨v9, h9⟩, e1, e⟩ := ob_some e
    refine at_callV1 hX cv_X6_65 (by decide) (c_X6_refuse _ _ _ _ e1) (Nat.le_of_ble_eq_true rfl) dX6_lacks_9 ?_
    exact at_ireturn hX hR rfl (by cases e; rfl) (by cases e; rfl) dX6_lacks_12

def F_X6_order (x1 : Int32) (h : Hp) : Option (Int32 × Hp) := (F_X2_howMany  h).bind fun v4 => if v4 ≤ (12 : Int32) then (F_X5_findRow  h).bind fun h23 => (F_X5_brickAtStep x1 h23).bind fun v31 => some (v31, h23) else (F_X6_refuse (-6 : Int32) h).bind fun ((v15, h15) : Int32 × Hp) => some (v15, h15)
theorem c_X6_order (l : Launch) (G : Gl) (x1 : Int32) (h : Hp) {r : Int32} {h' : Hp} (e : F_X6_order x1 h = some (r, h')) : Does l G 48 M_X6_order [.ref 6, .int x1] h (some (.int r)) h' := by
  refine Does.of (by decide) rfl (Nat.le_of_ble_eq_true rfl) (fun X hl hG hn hX hR => ?_)
  unfold F_X6_order at e
  subst hl; subst hG
  show At_ X 0 [(0, .ref 6), (1, .int x1)] [] h
  refine at_aload_n hX rfl rfl dX6_order_0 ?_
  refine gf_X6_24 hX dX6_order_1 ?_
  obtain ⟨v4, e1, e⟩ := ob_some e
  refine at_callV0 hX cv_X6_209 (by decide) (c_X2_howMany _ _  _ e1) (Nat.le_of_ble_eq_true rfl) dX6_order_4 ?_
  refine at_bipush hX (v := 12) (by decide) dX6_order_7 ?_
  refine at_icmp_le hX (tgt := 19) (by decide) dX6_order_9 (fun c9 => ?_) (fun c9 => ?_)
  · replace e := ip_ c9 e
    refine at_aload_n hX rfl rfl dX6_order_19 ?_
    refine gf_X6_46 hX dX6_order_20 ?_
    obtain ⟨h23, e1, e⟩ := ob_some e
    refine at_callV0 hX cv_X6_212 (by decide) (c_X5_findRow _ _  _ e1) (Nat.le_of_ble_eq_true rfl) dX6_order_23 ?_
    refine at_aload_n hX rfl rfl dX6_order_26 ?_
    refine gf_X6_46 hX dX6_order_27 ?_
    refine at_iload_n hX rfl rfl dX6_order_30 ?_
    obtain ⟨v31, e1, e⟩ := ob_some e
    refine at_callV1 hX cv_X6_215 (by decide) (c_X5_brickAtStep _ _ _ _ e1) (Nat.le_of_ble_eq_true rfl) dX6_order_31 ?_
    exact at_ireturn hX hR rfl (by cases e; rfl) (by cases e; rfl) dX6_order_34
  · replace e := in_ c9 e
    refine at_aload_n hX rfl rfl dX6_order_12 ?_
    refine at_bipush hX (v := -6) (by decide) dX6_order_13 ?_
    obtain ⟨⟨v15, h15⟩, e1, e⟩ := ob_some e
    refine at_callV1 hX cv_X6_65 (by decide) (c_X6_refuse _ _ _ _ e1) (Nat.le_of_ble_eq_true rfl) dX6_order_15 ?_
    exact at_ireturn hX hR rfl (by cases e; rfl) (by cases e; rfl) dX6_order_18

def F_X6_seen_27 (x1 : Int32) (x2 : Int32) (x3 : Int32) (s0 : Int32) (h : Hp) : Option (Int32 × Hp) := if x2 < (0 : Int32) then (F_X6_refuse (-1 : Int32) h).bind fun ((v51, h51) : Int32 × Hp) => some (v51, h51) else if (6 : Int32) ≤ x2 then (F_X6_refuse (-1 : Int32) h).bind fun ((v51, h51) : Int32 × Hp) => some (v51, h51) else if x3 < (0 : Int32) then (F_X6_refuse (-1 : Int32) h).bind fun ((v51, h51) : Int32 × Hp) => some (v51, h51) else if x3 < s0 then (F_X2_colourSeen x1 x2 x3 h).bind fun v62 => some (v62, h) else (F_X6_refuse (-1 : Int32) h).bind fun ((v51, h51) : Int32 × Hp) => some (v51, h51)
theorem A_X6_seen_27 {X : CX} {h' : Hp} {r : Int32} (hn : (xc_ X).maxLocals = 5) (hX : Ok_ X RX6 cX6_seen 5) (hR : Rt_ X (some .int) (some (.int r)) h') (x1 : Int32) (x2 : Int32) (x3 : Int32) (s0 : Int32) (h : Hp) (e : F_X6_seen_27 x1 x2 x3 s0 h = some (r, h')) : At_ X 27 [(0, .ref 6), (1, .int x1), (2, .int x2), (3, .int x3)] [.int s0] h := by
  unfold F_X6_seen_27 at e
  refine at_istore hX hn (by decide) dX6_seen_27 ?_
  refine at_iload_n hX rfl rfl dX6_seen_29 ?_
  refine at_if_lt hX (tgt := 49) (by decide) dX6_seen_30 (fun c30 => ?_) (fun c30 => ?_)
  · replace e := ip_ c30 e
    refine at_aload_n hX rfl rfl dX6_seen_49 ?_
    refine at_iconst hX (v := -1) (by decide) dX6_seen_50 ?_
    obtain ⟨⟨v51, h51⟩, e1, e⟩ := ob_some e
    refine at_callV1 hX cv_X6_65 (by decide) (c_X6_refuse _ _ _ _ e1) (Nat.le_of_ble_eq_true rfl) dX6_seen_51 ?_
    exact at_ireturn hX hR rfl (by cases e; rfl) (by cases e; rfl) dX6_seen_54
  · replace e := in_ c30 e
    refine at_iload_n hX rfl rfl dX6_seen_33 ?_
    refine at_bipush hX (v := 6) (by decide) dX6_seen_34 ?_
    refine at_icmp_ge hX (tgt := 49) (by decide) dX6_seen_36 (fun c36 => ?_) (fun c36 => ?_)
    · replace e := ip_ c36 e
      refine at_aload_n hX rfl rfl dX6_seen_49 ?_
      refine at_iconst hX (v := -1) (by decide) dX6_seen_50 ?_
      obtain ⟨⟨v51, h51⟩, e1, e⟩ := ob_some e
      refine at_callV1 hX cv_X6_65 (by decide) (c_X6_refuse _ _ _ _ e1) (Nat.le_of_ble_eq_true rfl) dX6_seen_51 ?_
      exact at_ireturn hX hR rfl (by cases e; rfl) (by cases e; rfl) dX6_seen_54
    · replace e := in_ c36 e
      refine at_iload_n hX rfl rfl dX6_seen_39 ?_
      refine at_if_lt hX (tgt := 49) (by decide) dX6_seen_40 (fun c40 => ?_) (fun c40 => ?_)
      · replace e := ip_ c40 e
        refine at_aload_n hX rfl rfl dX6_seen_49 ?_
        refine at_iconst hX (v := -1) (by decide) dX6_seen_50 ?_
        obtain ⟨⟨v51, h51⟩, e1, e⟩ := ob_some e
        refine at_callV1 hX cv_X6_65 (by decide) (c_X6_refuse _ _ _ _ e1) (Nat.le_of_ble_eq_true rfl) dX6_seen_51 ?_
        exact at_ireturn hX hR rfl (by cases e; rfl) (by cases e; rfl) dX6_seen_54
      · replace e := in_ c40 e
        refine at_iload_n hX rfl rfl dX6_seen_43 ?_
        refine at_iload hX rfl dX6_seen_44 ?_
        refine at_icmp_lt hX (tgt := 55) (by decide) dX6_seen_46 (fun c46 => ?_) (fun c46 => ?_)
        · replace e := ip_ c46 e
          refine at_aload_n hX rfl rfl dX6_seen_55 ?_
          refine gf_X6_24 hX dX6_seen_56 ?_
          refine at_iload_n hX rfl rfl dX6_seen_59 ?_
          refine at_iload_n hX rfl rfl dX6_seen_60 ?_
          refine at_iload_n hX rfl rfl dX6_seen_61 ?_
          obtain ⟨v62, e1, e⟩ := ob_some e
          refine at_callV3 hX cv_X6_218 (by decide) (c_X2_colourSeen _ _ _ _ _ _ e1) (Nat.le_of_ble_eq_true rfl) dX6_seen_62 ?_
          exact at_ireturn hX hR rfl (by cases e; rfl) (by cases e; rfl) dX6_seen_65
        · replace e := in_ c46 e
          refine at_aload_n hX rfl rfl dX6_seen_49 ?_
          refine at_iconst hX (v := -1) (by decide) dX6_seen_50 ?_
          obtain ⟨⟨v51, h51⟩, e1, e⟩ := ob_some e
          refine at_callV1 hX cv_X6_65 (by decide) (c_X6_refuse _ _ _ _ e1) (Nat.le_of_ble_eq_true rfl) dX6_seen_51 ?_
          exact at_ireturn hX hR rfl (by cases e; rfl) (by cases e; rfl) dX6_seen_54
def F_X6_seen (x1 : Int32) (x2 : Int32) (x3 : Int32) (h : Hp) : Option (Int32 × Hp) := if x1 < (0 : Int32) then (F_X6_refuse (-2 : Int32) h).bind fun ((v12, h12) : Int32 × Hp) => some (v12, h12) else if x1 ≤ (4 : Int32) then if x1 = (4 : Int32) then F_X6_seen_27 x1 x2 x3 (6 : Int32) h else F_X6_seen_27 x1 x2 x3 (5 : Int32) h else (F_X6_refuse (-2 : Int32) h).bind fun ((v12, h12) : Int32 × Hp) => some (v12, h12)
theorem c_X6_seen (l : Launch) (G : Gl) (x1 : Int32) (x2 : Int32) (x3 : Int32) (h : Hp) {r : Int32} {h' : Hp} (e : F_X6_seen x1 x2 x3 h = some (r, h')) : Does l G 5 M_X6_seen [.ref 6, .int x1, .int x2, .int x3] h (some (.int r)) h' := by
  refine Does.of (by decide) rfl (Nat.le_of_ble_eq_true rfl) (fun X hl hG hn hX hR => ?_)
  unfold F_X6_seen at e
  subst hl; subst hG
  show At_ X 0 [(0, .ref 6), (1, .int x1), (2, .int x2), (3, .int x3)] [] h
  refine at_iload_n hX rfl rfl dX6_seen_0 ?_
  refine at_if_lt hX (tgt := 9) (by decide) dX6_seen_1 (fun c1 => ?_) (fun c1 => ?_)
  · replace e := ip_ c1 e
    refine at_aload_n hX rfl rfl dX6_seen_9 ?_
    refine at_bipush hX (v := -2) (by decide) dX6_seen_10 ?_
    obtain ⟨⟨v12, h12⟩, e1, e⟩ := ob_some e
    refine at_callV1 hX cv_X6_65 (by decide) (c_X6_refuse _ _ _ _ e1) (Nat.le_of_ble_eq_true rfl) dX6_seen_12 ?_
    exact at_ireturn hX hR rfl (by cases e; rfl) (by cases e; rfl) dX6_seen_15
  · replace e := in_ c1 e
    refine at_iload_n hX rfl rfl dX6_seen_4 ?_
    refine at_iconst hX (v := 4) (by decide) dX6_seen_5 ?_
    refine at_icmp_le hX (tgt := 16) (by decide) dX6_seen_6 (fun c6 => ?_) (fun c6 => ?_)
    · replace e := ip_ c6 e
      refine at_iload_n hX rfl rfl dX6_seen_16 ?_
      refine at_iconst hX (v := 4) (by decide) dX6_seen_17 ?_
      refine at_icmp_ne hX (tgt := 26) (by decide) dX6_seen_18 (fun c18 => ?_) (fun c18 => ?_)
      · replace e := in_ c18 e
        refine at_iconst hX (v := 5) (by decide) dX6_seen_26 ?_
        exact at_sub [0, 1, 2, 3] rfl ((A_X6_seen_27 hn hX hR) _ _ _ _ _ e)
      · replace e := ip_ c18 e
        refine at_bipush hX (v := 6) (by decide) dX6_seen_21 ?_
        refine at_goto hX (tgt := 27) (by decide) dX6_seen_23 ?_
        exact at_sub [0, 1, 2, 3] rfl ((A_X6_seen_27 hn hX hR) _ _ _ _ _ e)
    · replace e := in_ c6 e
      refine at_aload_n hX rfl rfl dX6_seen_9 ?_
      refine at_bipush hX (v := -2) (by decide) dX6_seen_10 ?_
      obtain ⟨⟨v12, h12⟩, e1, e⟩ := ob_some e
      refine at_callV1 hX cv_X6_65 (by decide) (c_X6_refuse _ _ _ _ e1) (Nat.le_of_ble_eq_true rfl) dX6_seen_12 ?_
      exact at_ireturn hX hR rfl (by cases e; rfl) (by cases e; rfl) dX6_seen_15

def F_X6_brickOf (x1 : Int32) (x2 : Int32) (h : Hp) : Option (Int32 × Hp) := (F_X2_exists x1 h).bind fun v5 => if v5 = (0 : Int32) then (F_X6_refuse (-1 : Int32) h).bind fun ((v13, h13) : Int32 × Hp) => some (v13, h13) else if x2 < (0 : Int32) then (F_X6_refuse (-2 : Int32) h).bind fun ((v30, h30) : Int32 × Hp) => some (v30, h30) else if x2 ≤ (6 : Int32) then (F_X2_told x1 x2 h).bind fun v40 => some (v40, h) else (F_X6_refuse (-2 : Int32) h).bind fun ((v30, h30) : Int32 × Hp) => some (v30, h30)
theorem c_X6_brickOf (l : Launch) (G : Gl) (x1 : Int32) (x2 : Int32) (h : Hp) {r : Int32} {h' : Hp} (e : F_X6_brickOf x1 x2 h = some (r, h')) : Does l G 4 M_X6_brickOf [.ref 6, .int x1, .int x2] h (some (.int r)) h' := by
  refine Does.of (by decide) rfl (Nat.le_of_ble_eq_true rfl) (fun X hl hG hn hX hR => ?_)
  unfold F_X6_brickOf at e
  subst hl; subst hG
  show At_ X 0 [(0, .ref 6), (1, .int x1), (2, .int x2)] [] h
  refine at_aload_n hX rfl rfl dX6_brickOf_0 ?_
  refine gf_X6_24 hX dX6_brickOf_1 ?_
  refine at_iload_n hX rfl rfl dX6_brickOf_4 ?_
  obtain ⟨v5, e1, e⟩ := ob_some e
  refine at_callV1 hX cv_X6_123 (by decide) (c_X2_exists _ _ _ _ e1) (Nat.le_of_ble_eq_true rfl) dX6_brickOf_5 ?_
  refine at_if_ne hX (tgt := 17) (by decide) dX6_brickOf_8 (fun c8 => ?_) (fun c8 => ?_)
  · replace e := in_ c8 e
    refine at_iload_n hX rfl rfl dX6_brickOf_17 ?_
    refine at_if_lt hX (tgt := 27) (by decide) dX6_brickOf_18 (fun c18 => ?_) (fun c18 => ?_)
    · replace e := ip_ c18 e
      refine at_aload_n hX rfl rfl dX6_brickOf_27 ?_
      refine at_bipush hX (v := -2) (by decide) dX6_brickOf_28 ?_
      obtain ⟨⟨v30, h30⟩, e1, e⟩ := ob_some e
      refine at_callV1 hX cv_X6_65 (by decide) (c_X6_refuse _ _ _ _ e1) (Nat.le_of_ble_eq_true rfl) dX6_brickOf_30 ?_
      exact at_ireturn hX hR rfl (by cases e; rfl) (by cases e; rfl) dX6_brickOf_33
    · replace e := in_ c18 e
      refine at_iload_n hX rfl rfl dX6_brickOf_21 ?_
      refine at_bipush hX (v := 6) (by decide) dX6_brickOf_22 ?_
      refine at_icmp_le hX (tgt := 34) (by decide) dX6_brickOf_24 (fun c24 => ?_) (fun c24 => ?_)
      · replace e := ip_ c24 e
        refine at_aload_n hX rfl rfl dX6_brickOf_34 ?_
        refine gf_X6_24 hX dX6_brickOf_35 ?_
        refine at_iload_n hX rfl rfl dX6_brickOf_38 ?_
        refine at_iload_n hX rfl rfl dX6_brickOf_39 ?_
        obtain ⟨v40, e1, e⟩ := ob_some e
        refine at_callV2 hX cv_X6_221 (by decide) (c_X2_told _ _ _ _ _ e1) (Nat.le_of_ble_eq_true rfl) dX6_brickOf_40 ?_
        exact at_ireturn hX hR rfl (by cases e; rfl) (by cases e; rfl) dX6_brickOf_43
      · replace e := in_ c24 e
        refine at_aload_n hX rfl rfl dX6_brickOf_27 ?_
        refine at_bipush hX (v := -2) (by decide) dX6_brickOf_28 ?_
        obtain ⟨⟨v30, h30⟩, e1, e⟩ := ob_some e
        refine at_callV1 hX cv_X6_65 (by decide) (c_X6_refuse _ _ _ _ e1) (Nat.le_of_ble_eq_true rfl) dX6_brickOf_30 ?_
        exact at_ireturn hX hR rfl (by cases e; rfl) (by cases e; rfl) dX6_brickOf_33
  · replace e := ip_ c8 e
    refine at_aload_n hX rfl rfl dX6_brickOf_11 ?_
    refine at_iconst hX (v := -1) (by decide) dX6_brickOf_12 ?_
    obtain ⟨⟨v13, h13⟩, e1, e⟩ := ob_some e
    refine at_callV1 hX cv_X6_65 (by decide) (c_X6_refuse _ _ _ _ e1) (Nat.le_of_ble_eq_true rfl) dX6_brickOf_13 ?_
    exact at_ireturn hX hR rfl (by cases e; rfl) (by cases e; rfl) dX6_brickOf_16

def F_X6_count_22 (x1 : Int32) (h : Hp) : Option Int32 := if x1 = nI 0 then (F_X0_countCells  h).bind fun v64 => some v64 else if x1 = nI 1 then (F_X2_howMany  h).bind fun v72 => some v72 else if x1 = nI 2 then (F_X2_ever  h).bind fun v80 => some v80 else if x1 = nI 3 then (F_X4_countKeys  h).bind fun v88 => some v88 else if x1 = nI 4 then (F_X4_countFloating  h).bind fun v96 => some v96 else if x1 = nI 5 then (F_X4_currentGrip  h).bind fun v104 => some v104 else some (-9 : Int32)
theorem A_X6_count_22 {X : CX} {h : Hp} {r : Int32} (hn : (xc_ X).maxLocals = 2) (hX : Ok_ X RX6 cX6_count 6) (hR : Rt_ X (some .int) (some (.int r)) h) (x1 : Int32) (e : F_X6_count_22 x1 h = some r) : At_ X 22 [(0, .ref 6), (1, .int x1)] [] h := by
  unfold F_X6_count_22 at e
  refine at_iload_n hX rfl rfl dX6_count_22 ?_
  by_cases w0 : x1 = nI 0
  · replace e := ip_ w0 e
    refine at_tabIn hX (tgt := 60) 0 37 w0 (by decide) (by decide) rfl (by decide) dX6_count_23 ?_
    refine at_aload_n hX rfl rfl dX6_count_60 ?_
    refine gf_X6_18 hX dX6_count_61 ?_
    obtain ⟨v64, e1, e⟩ := ob_some e
    refine at_callV0 hX cv_X6_224 (by decide) (c_X0_countCells _ _  _ e1) (Nat.le_of_ble_eq_true rfl) dX6_count_64 ?_
    exact at_ireturn hX hR rfl (by cases e; rfl) rfl dX6_count_67
  · replace e := in_ w0 e
    by_cases w1 : x1 = nI 1
    · replace e := ip_ w1 e
      refine at_tabIn hX (tgt := 68) 1 45 w1 (by decide) (by decide) rfl (by decide) dX6_count_23 ?_
      refine at_aload_n hX rfl rfl dX6_count_68 ?_
      refine gf_X6_24 hX dX6_count_69 ?_
      obtain ⟨v72, e1, e⟩ := ob_some e
      refine at_callV0 hX cv_X6_209 (by decide) (c_X2_howMany _ _  _ e1) (Nat.le_of_ble_eq_true rfl) dX6_count_72 ?_
      exact at_ireturn hX hR rfl (by cases e; rfl) rfl dX6_count_75
    · replace e := in_ w1 e
      by_cases w2 : x1 = nI 2
      · replace e := ip_ w2 e
        refine at_tabIn hX (tgt := 76) 2 53 w2 (by decide) (by decide) rfl (by decide) dX6_count_23 ?_
        refine at_aload_n hX rfl rfl dX6_count_76 ?_
        refine gf_X6_24 hX dX6_count_77 ?_
        obtain ⟨v80, e1, e⟩ := ob_some e
        refine at_callV0 hX cv_X6_106 (by decide) (c_X2_ever _ _  _ e1) (Nat.le_of_ble_eq_true rfl) dX6_count_80 ?_
        exact at_ireturn hX hR rfl (by cases e; rfl) rfl dX6_count_83
      · replace e := in_ w2 e
        by_cases w3 : x1 = nI 3
        · replace e := ip_ w3 e
          refine at_tabIn hX (tgt := 84) 3 61 w3 (by decide) (by decide) rfl (by decide) dX6_count_23 ?_
          refine at_aload_n hX rfl rfl dX6_count_84 ?_
          refine gf_X6_28 hX dX6_count_85 ?_
          obtain ⟨v88, e1, e⟩ := ob_some e
          refine at_callV0 hX cv_X6_227 (by decide) (c_X4_countKeys _ _  _ e1) (Nat.le_of_ble_eq_true rfl) dX6_count_88 ?_
          exact at_ireturn hX hR rfl (by cases e; rfl) rfl dX6_count_91
        · replace e := in_ w3 e
          by_cases w4 : x1 = nI 4
          · replace e := ip_ w4 e
            refine at_tabIn hX (tgt := 92) 4 69 w4 (by decide) (by decide) rfl (by decide) dX6_count_23 ?_
            refine at_aload_n hX rfl rfl dX6_count_92 ?_
            refine gf_X6_28 hX dX6_count_93 ?_
            obtain ⟨v96, e1, e⟩ := ob_some e
            refine at_callV0 hX cv_X6_230 (by decide) (c_X4_countFloating _ _  _ e1) (Nat.le_of_ble_eq_true rfl) dX6_count_96 ?_
            exact at_ireturn hX hR rfl (by cases e; rfl) rfl dX6_count_99
          · replace e := in_ w4 e
            by_cases w5 : x1 = nI 5
            · replace e := ip_ w5 e
              refine at_tabIn hX (tgt := 100) 5 77 w5 (by decide) (by decide) rfl (by decide) dX6_count_23 ?_
              refine at_aload_n hX rfl rfl dX6_count_100 ?_
              refine gf_X6_28 hX dX6_count_101 ?_
              obtain ⟨v104, e1, e⟩ := ob_some e
              refine at_callV0 hX cv_X6_233 (by decide) (c_X4_currentGrip _ _  _ e1) (Nat.le_of_ble_eq_true rfl) dX6_count_104 ?_
              exact at_ireturn hX hR rfl (by cases e; rfl) rfl dX6_count_107
            · replace e := in_ w5 e
              refine at_tabOut hX (tgt := 108) (tab_out (hi := 5) (by decide) (fun j hj => by rcases (show j = 0 ∨ j = 1 ∨ j = 2 ∨ j = 3 ∨ j = 4 ∨ j = 5 by omega) with rfl | rfl | rfl | rfl | rfl | rfl <;> assumption)) (by decide) dX6_count_23 ?_
              refine at_bipush hX (v := -9) (by decide) dX6_count_108 ?_
              exact at_ireturn hX hR rfl (by cases e; rfl) rfl dX6_count_110
def F_X6_count (x1 : Int32) (h : Hp) : Option Int32 := if x1 < (11 : Int32) then F_X6_count_22 x1 h else if (16 : Int32) < x1 then F_X6_count_22 x1 h else rA_ h 37 7 (x1 - (10 : Int32)) fun v20 => some v20
theorem c_X6_count (l : Launch) (G : Gl) (x1 : Int32) (h : Hp) {r : Int32} (e : F_X6_count x1 h = some r) : Does l G 6 M_X6_count [.ref 6, .int x1] h (some (.int r)) h := by
  refine Does.of (by decide) rfl (Nat.le_of_ble_eq_true rfl) (fun X hl hG hn hX hR => ?_)
  unfold F_X6_count at e
  subst hl; subst hG
  show At_ X 0 [(0, .ref 6), (1, .int x1)] [] h
  refine at_iload_n hX rfl rfl dX6_count_0 ?_
  refine at_bipush hX (v := 11) (by decide) dX6_count_1 ?_
  refine at_icmp_lt hX (tgt := 22) (by decide) dX6_count_3 (fun c3 => ?_) (fun c3 => ?_)
  · replace e := ip_ c3 e
    exact at_sub [0, 1] rfl ((A_X6_count_22 hn hX hR) _ e)
  · replace e := in_ c3 e
    refine at_iload_n hX rfl rfl dX6_count_6 ?_
    refine at_bipush hX (v := 16) (by decide) dX6_count_7 ?_
    refine at_icmp_gt hX (tgt := 22) (by decide) dX6_count_9 (fun c9 => ?_) (fun c9 => ?_)
    · replace e := ip_ c9 e
      exact at_sub [0, 1] rfl ((A_X6_count_22 hn hX hR) _ e)
    · replace e := in_ c9 e
      refine at_aload_n hX rfl rfl dX6_count_12 ?_
      refine gf_X6_57 hX dX6_count_13 ?_
      refine at_iload_n hX rfl rfl dX6_count_16 ?_
      refine at_bipush hX (v := 10) (by decide) dX6_count_17 ?_
      refine at_isub hX dX6_count_19 ?_
      obtain ⟨hi, v20, ev20, e⟩ := rA_some e
      refine at_iald hX (o := 37) (by decide) rfl hi dX6_count_20 ?_
      refine at_ti ev20 ?_
      exact at_ireturn hX hR rfl (by cases e; rfl) rfl dX6_count_21

def F_X7_refuse (x1 : Int32) (h : Hp) : Option (Int32 × Hp) := rA_ h 38 7 (-x1) fun v7 => wA_ h 38 7 (-x1) (v7 + (1 : Int32)) fun h10 => some (x1, h10)
theorem c_X7_refuse (l : Launch) (G : Gl) (x1 : Int32) (h : Hp) {r : Int32} {h' : Hp} (e : F_X7_refuse x1 h = some (r, h')) : Does l G 1 M_X7_refuse [.ref 7, .int x1] h (some (.int r)) h' := by
  refine Does.of (by decide) rfl (Nat.le_of_ble_eq_true rfl) (fun X hl hG hn hX hR => ?_)
  unfold F_X7_refuse at e
  subst hl; subst hG
  show At_ X 0 [(0, .ref 7), (1, .int x1)] [] h
  refine at_aload_n hX rfl rfl dX7_refuse_0 ?_
  refine gf_X7_7 hX dX7_refuse_1 ?_
  refine at_iload_n hX rfl rfl dX7_refuse_4 ?_
  refine at_ineg hX dX7_refuse_5 ?_
  refine at_dup2 hX rfl rfl dX7_refuse_6 ?_
  obtain ⟨hi, v7, ev7, e⟩ := rA_some e
  refine at_iald hX (o := 38) (by decide) rfl hi dX7_refuse_7 ?_
  refine at_ti ev7 ?_
  refine at_iconst hX (v := 1) (by decide) dX7_refuse_8 ?_
  refine at_iadd hX dX7_refuse_9 ?_
  obtain ⟨hi, h10, eh10, e⟩ := wA_some e
  refine at_iast hX (o := 38) (by decide) rfl hi dX7_refuse_10 ?_
  refine at_th eh10 ?_
  refine at_iload_n hX rfl rfl dX7_refuse_11 ?_
  exact at_ireturn hX hR rfl (by cases e; rfl) (by cases e; rfl) dX7_refuse_12

def F_X7_isIn (x0 : Int32) (x1 : Int32) : Option Int32 := if x0 < (0 : Int32) then some (0 : Int32) else if x1 ≤ x0 then some (0 : Int32) else some (1 : Int32)
theorem c_X7_isIn (l : Launch) (G : Gl) (x0 : Int32) (x1 : Int32) (h : Hp) {r : Int32} (e : F_X7_isIn x0 x1 = some r) : Does l G 1 M_X7_isIn [.int x0, .int x1] h (some (.int r)) h := by
  refine Does.of (by decide) rfl (Nat.le_of_ble_eq_true rfl) (fun X hl hG hn hX hR => ?_)
  unfold F_X7_isIn at e
  subst hl; subst hG
  show At_ X 0 [(0, .int x0), (1, .int x1)] [] h
  refine at_iload_n hX rfl rfl dX7_isIn_0 ?_
  refine at_if_lt hX (tgt := 13) (by decide) dX7_isIn_1 (fun c1 => ?_) (fun c1 => ?_)
  · replace e := ip_ c1 e
    refine at_iconst hX (v := 0) (by decide) dX7_isIn_13 ?_
    exact at_ireturn hX hR rfl (by cases e; rfl) rfl dX7_isIn_14
  · replace e := in_ c1 e
    refine at_iload_n hX rfl rfl dX7_isIn_4 ?_
    refine at_iload_n hX rfl rfl dX7_isIn_5 ?_
    refine at_icmp_ge hX (tgt := 13) (by decide) dX7_isIn_6 (fun c6 => ?_) (fun c6 => ?_)
    · replace e := ip_ c6 e
      refine at_iconst hX (v := 0) (by decide) dX7_isIn_13 ?_
      exact at_ireturn hX hR rfl (by cases e; rfl) rfl dX7_isIn_14
    · replace e := in_ c6 e
      refine at_iconst hX (v := 1) (by decide) dX7_isIn_9 ?_
      refine at_goto hX (tgt := 14) (by decide) dX7_isIn_10 ?_
      exact at_ireturn hX hR rfl (by cases e; rfl) rfl dX7_isIn_14

def F_X7_isCell (x0 : Int32) (x1 : Int32) (x2 : Int32) : Option Int32 := (F_X7_isIn x0 (6 : Int32)).bind fun v3 => if v3 = (0 : Int32) then some (0 : Int32) else (F_X7_isIn x1 (6 : Int32)).bind fun v12 => if v12 = (0 : Int32) then some (0 : Int32) else (F_X7_isIn x2 (5 : Int32)).bind fun v20 => if v20 = (0 : Int32) then some (0 : Int32) else some (1 : Int32)
theorem c_X7_isCell (l : Launch) (G : Gl) (x0 : Int32) (x1 : Int32) (x2 : Int32) (h : Hp) {r : Int32} (e : F_X7_isCell x0 x1 x2 = some r) : Does l G 2 M_X7_isCell [.int x0, .int x1, .int x2] h (some (.int r)) h := by
  refine Does.of (by decide) rfl (Nat.le_of_ble_eq_true rfl) (fun X hl hG hn hX hR => ?_)
  unfold F_X7_isCell at e
  subst hl; subst hG
  show At_ X 0 [(0, .int x0), (1, .int x1), (2, .int x2)] [] h
  refine at_iload_n hX rfl rfl dX7_isCell_0 ?_
  refine at_bipush hX (v := 6) (by decide) dX7_isCell_1 ?_
  obtain ⟨v3, e1, e⟩ := ob_some e
  refine at_callS2 hX cv_X7_98 (by decide) (c_X7_isIn _ _ _ _ _ e1) (Nat.le_of_ble_eq_true rfl) dX7_isCell_3 ?_
  refine at_if_eq hX (tgt := 30) (by decide) dX7_isCell_6 (fun c6 => ?_) (fun c6 => ?_)
  · replace e := ip_ c6 e
    refine at_iconst hX (v := 0) (by decide) dX7_isCell_30 ?_
    exact at_ireturn hX hR rfl (by cases e; rfl) rfl dX7_isCell_31
  · replace e := in_ c6 e
    refine at_iload_n hX rfl rfl dX7_isCell_9 ?_
    refine at_bipush hX (v := 6) (by decide) dX7_isCell_10 ?_
    obtain ⟨v12, e1, e⟩ := ob_some e
    refine at_callS2 hX cv_X7_98 (by decide) (c_X7_isIn _ _ _ _ _ e1) (Nat.le_of_ble_eq_true rfl) dX7_isCell_12 ?_
    refine at_if_eq hX (tgt := 30) (by decide) dX7_isCell_15 (fun c15 => ?_) (fun c15 => ?_)
    · replace e := ip_ c15 e
      refine at_iconst hX (v := 0) (by decide) dX7_isCell_30 ?_
      exact at_ireturn hX hR rfl (by cases e; rfl) rfl dX7_isCell_31
    · replace e := in_ c15 e
      refine at_iload_n hX rfl rfl dX7_isCell_18 ?_
      refine at_iconst hX (v := 5) (by decide) dX7_isCell_19 ?_
      obtain ⟨v20, e1, e⟩ := ob_some e
      refine at_callS2 hX cv_X7_98 (by decide) (c_X7_isIn _ _ _ _ _ e1) (Nat.le_of_ble_eq_true rfl) dX7_isCell_20 ?_
      refine at_if_eq hX (tgt := 30) (by decide) dX7_isCell_23 (fun c23 => ?_) (fun c23 => ?_)
      · replace e := ip_ c23 e
        refine at_iconst hX (v := 0) (by decide) dX7_isCell_30 ?_
        exact at_ireturn hX hR rfl (by cases e; rfl) rfl dX7_isCell_31
      · replace e := in_ c23 e
        refine at_iconst hX (v := 1) (by decide) dX7_isCell_26 ?_
        refine at_goto hX (tgt := 31) (by decide) dX7_isCell_27 ?_
        exact at_ireturn hX hR rfl (by cases e; rfl) rfl dX7_isCell_31

def F_X7_cellAt (x0 : Int32) (x1 : Int32) (x2 : Int32) : Option Int32 := some ((((36 : Int32) * x2) + ((6 : Int32) * x1)) + x0)
theorem c_X7_cellAt (l : Launch) (G : Gl) (x0 : Int32) (x1 : Int32) (x2 : Int32) (h : Hp) {r : Int32} (e : F_X7_cellAt x0 x1 x2 = some r) : Does l G 1 M_X7_cellAt [.int x0, .int x1, .int x2] h (some (.int r)) h := by
  refine Does.of (by decide) rfl (Nat.le_of_ble_eq_true rfl) (fun X hl hG hn hX hR => ?_)
  unfold F_X7_cellAt at e
  subst hl; subst hG
  show At_ X 0 [(0, .int x0), (1, .int x1), (2, .int x2)] [] h
  refine at_bipush hX (v := 36) (by decide) dX7_cellAt_0 ?_
  refine at_iload_n hX rfl rfl dX7_cellAt_2 ?_
  refine at_imul hX dX7_cellAt_3 ?_
  refine at_bipush hX (v := 6) (by decide) dX7_cellAt_4 ?_
  refine at_iload_n hX rfl rfl dX7_cellAt_6 ?_
  refine at_imul hX dX7_cellAt_7 ?_
  refine at_iadd hX dX7_cellAt_8 ?_
  refine at_iload_n hX rfl rfl dX7_cellAt_9 ?_
  refine at_iadd hX dX7_cellAt_10 ?_
  exact at_ireturn hX hR rfl (by cases e; rfl) rfl dX7_cellAt_11

def F_X7_wrong (x0 : Int32) (x1 : Int32) (x2 : Int32) : Option Int32 := if x1 ≤ x0 then if x0 ≤ x2 then some (0 : Int32) else some (-6 : Int32) else some (-4 : Int32)
theorem c_X7_wrong (l : Launch) (G : Gl) (x0 : Int32) (x1 : Int32) (x2 : Int32) (h : Hp) {r : Int32} (e : F_X7_wrong x0 x1 x2 = some r) : Does l G 1 M_X7_wrong [.int x0, .int x1, .int x2] h (some (.int r)) h := by
  refine Does.of (by decide) rfl (Nat.le_of_ble_eq_true rfl) (fun X hl hG hn hX hR => ?_)
  unfold F_X7_wrong at e
  subst hl; subst hG
  show At_ X 0 [(0, .int x0), (1, .int x1), (2, .int x2)] [] h
  refine at_iload_n hX rfl rfl dX7_wrong_0 ?_
  refine at_iload_n hX rfl rfl dX7_wrong_1 ?_
  refine at_icmp_ge hX (tgt := 10) (by decide) dX7_wrong_2 (fun c2 => ?_) (fun c2 => ?_)
  · replace e := ip_ c2 e
    refine at_iload_n hX rfl rfl dX7_wrong_10 ?_
    refine at_iload_n hX rfl rfl dX7_wrong_11 ?_
    refine at_icmp_le hX (tgt := 20) (by decide) dX7_wrong_12 (fun c12 => ?_) (fun c12 => ?_)
    · replace e := ip_ c12 e
      refine at_iconst hX (v := 0) (by decide) dX7_wrong_20 ?_
      exact at_ireturn hX hR rfl (by cases e; rfl) rfl dX7_wrong_21
    · replace e := in_ c12 e
      refine at_bipush hX (v := -6) (by decide) dX7_wrong_15 ?_
      refine at_goto hX (tgt := 21) (by decide) dX7_wrong_17 ?_
      exact at_ireturn hX hR rfl (by cases e; rfl) rfl dX7_wrong_21
  · replace e := in_ c2 e
    refine at_bipush hX (v := -4) (by decide) dX7_wrong_5 ?_
    refine at_goto hX (tgt := 21) (by decide) dX7_wrong_7 ?_
    exact at_ireturn hX hR rfl (by cases e; rfl) rfl dX7_wrong_21

def F_X7_cell (x1 : Int32) (x2 : Int32) (x3 : Int32) (x4 : Int32) (h : Hp) : Option (Int32 × Hp) := (F_X7_isCell x1 x2 x3).bind fun v3 => if v3 = (0 : Int32) then (F_X7_refuse (-1 : Int32) h).bind fun ((v21, h21) : Int32 × Hp) => some (v21, h21) else (F_X7_isIn x4 (6 : Int32)).bind fun v13 => if v13 = (0 : Int32) then (F_X7_refuse (-1 : Int32) h).bind fun ((v21, h21) : Int32 × Hp) => some (v21, h21) else (F_X7_cellAt x1 x2 x3).bind fun v32 => rA_ h 39 180 v32 fun v35 => (F_X7_cellAt x1 x2 x3).bind fun v45 => wA_ h 39 180 v45 x4 fun h50 => some (v35, h50)
theorem c_X7_cell (l : Launch) (G : Gl) (x1 : Int32) (x2 : Int32) (x3 : Int32) (x4 : Int32) (h : Hp) {r : Int32} {h' : Hp} (e : F_X7_cell x1 x2 x3 x4 h = some (r, h')) : Does l G 3 M_X7_cell [.ref 7, .int x1, .int x2, .int x3, .int x4] h (some (.int r)) h' := by
  refine Does.of (by decide) rfl (Nat.le_of_ble_eq_true rfl) (fun X hl hG hn hX hR => ?_)
  unfold F_X7_cell at e
  subst hl; subst hG
  show At_ X 0 [(0, .ref 7), (1, .int x1), (2, .int x2), (3, .int x3), (4, .int x4)] [] h
  refine at_iload_n hX rfl rfl dX7_cell_0 ?_
  refine at_iload_n hX rfl rfl dX7_cell_1 ?_
  refine at_iload_n hX rfl rfl dX7_cell_2 ?_
  obtain ⟨v3, e1, e⟩ := ob_some e
  refine at_callS3 hX cv_X7_102 (by decide) (c_X7_isCell _ _ _ _ _ _ e1) (Nat.le_of_ble_eq_true rfl) dX7_cell_3 ?_
  refine at_if_eq hX (tgt := 19) (by decide) dX7_cell_6 (fun c6 => ?_) (fun c6 => ?_)
  · replace e := ip_ c6 e
    refine at_aload_n hX rfl rfl dX7_cell_19 ?_
    refine at_iconst hX (v := -1) (by decide) dX7_cell_20 ?_
    obtain ⟨⟨v21, h21⟩, e1, e⟩ := ob_some e
    refine at_callV1 hX cv_X7_106 (by decide) (c_X7_refuse _ _ _ _ e1) (Nat.le_of_ble_eq_true rfl) dX7_cell_21 ?_
    exact at_ireturn hX hR rfl (by cases e; rfl) (by cases e; rfl) dX7_cell_24
  · replace e := in_ c6 e
    refine at_iload hX rfl dX7_cell_9 ?_
    refine at_bipush hX (v := 6) (by decide) dX7_cell_11 ?_
    obtain ⟨v13, e1, e⟩ := ob_some e
    refine at_callS2 hX cv_X7_98 (by decide) (c_X7_isIn _ _ _ _ _ e1) (Nat.le_of_ble_eq_true rfl) dX7_cell_13 ?_
    refine at_if_ne hX (tgt := 25) (by decide) dX7_cell_16 (fun c16 => ?_) (fun c16 => ?_)
    · replace e := in_ c16 e
      refine at_aload_n hX rfl rfl dX7_cell_25 ?_
      refine gf_X7_13 hX dX7_cell_26 ?_
      refine at_iload_n hX rfl rfl dX7_cell_29 ?_
      refine at_iload_n hX rfl rfl dX7_cell_30 ?_
      refine at_iload_n hX rfl rfl dX7_cell_31 ?_
      obtain ⟨v32, e1, e⟩ := ob_some e
      refine at_callS3 hX cv_X7_110 (by decide) (c_X7_cellAt _ _ _ _ _ _ e1) (Nat.le_of_ble_eq_true rfl) dX7_cell_32 ?_
      obtain ⟨hi, v35, ev35, e⟩ := rA_some e
      refine at_iald hX (o := 39) (by decide) rfl hi dX7_cell_35 ?_
      refine at_ti ev35 ?_
      refine at_istore hX hn (by decide) dX7_cell_36 ?_
      refine at_aload_n hX rfl rfl dX7_cell_38 ?_
      refine gf_X7_13 hX dX7_cell_39 ?_
      refine at_iload_n hX rfl rfl dX7_cell_42 ?_
      refine at_iload_n hX rfl rfl dX7_cell_43 ?_
      refine at_iload_n hX rfl rfl dX7_cell_44 ?_
      obtain ⟨v45, e1, e⟩ := ob_some e
      refine at_callS3 hX cv_X7_110 (by decide) (c_X7_cellAt _ _ _ _ _ _ e1) (Nat.le_of_ble_eq_true rfl) dX7_cell_45 ?_
      refine at_iload hX rfl dX7_cell_48 ?_
      obtain ⟨hi, h50, eh50, e⟩ := wA_some e
      refine at_iast hX (o := 39) (by decide) rfl hi dX7_cell_50 ?_
      refine at_th eh50 ?_
      refine at_iload hX rfl dX7_cell_51 ?_
      exact at_ireturn hX hR rfl (by cases e; rfl) (by cases e; rfl) dX7_cell_53
    · replace e := ip_ c16 e
      refine at_aload_n hX rfl rfl dX7_cell_19 ?_
      refine at_iconst hX (v := -1) (by decide) dX7_cell_20 ?_
      obtain ⟨⟨v21, h21⟩, e1, e⟩ := ob_some e
      refine at_callV1 hX cv_X7_106 (by decide) (c_X7_refuse _ _ _ _ e1) (Nat.le_of_ble_eq_true rfl) dX7_cell_21 ?_
      exact at_ireturn hX hR rfl (by cases e; rfl) (by cases e; rfl) dX7_cell_24

def F_X7_cellOf (x1 : Int32) (x2 : Int32) (x3 : Int32) (h : Hp) : Option (Int32 × Hp) := (F_X7_isCell x1 x2 x3).bind fun v3 => if v3 = (0 : Int32) then (F_X7_refuse (-1 : Int32) h).bind fun ((v25, h25) : Int32 × Hp) => some (v25, h25) else (F_X7_cellAt x1 x2 x3).bind fun v16 => rA_ h 39 180 v16 fun v19 => some (v19, h)
theorem c_X7_cellOf (l : Launch) (G : Gl) (x1 : Int32) (x2 : Int32) (x3 : Int32) (h : Hp) {r : Int32} {h' : Hp} (e : F_X7_cellOf x1 x2 x3 h = some (r, h')) : Does l G 3 M_X7_cellOf [.ref 7, .int x1, .int x2, .int x3] h (some (.int r)) h' := by
  refine Does.of (by decide) rfl (Nat.le_of_ble_eq_true rfl) (fun X hl hG hn hX hR => ?_)
  unfold F_X7_cellOf at e
  subst hl; subst hG
  show At_ X 0 [(0, .ref 7), (1, .int x1), (2, .int x2), (3, .int x3)] [] h
  refine at_iload_n hX rfl rfl dX7_cellOf_0 ?_
  refine at_iload_n hX rfl rfl dX7_cellOf_1 ?_
  refine at_iload_n hX rfl rfl dX7_cellOf_2 ?_
  obtain ⟨v3, e1, e⟩ := ob_some e
  refine at_callS3 hX cv_X7_102 (by decide) (c_X7_isCell _ _ _ _ _ _ e1) (Nat.le_of_ble_eq_true rfl) dX7_cellOf_3 ?_
  refine at_if_eq hX (tgt := 23) (by decide) dX7_cellOf_6 (fun c6 => ?_) (fun c6 => ?_)
  · replace e := ip_ c6 e
    refine at_aload_n hX rfl rfl dX7_cellOf_23 ?_
    refine at_iconst hX (v := -1) (by decide) dX7_cellOf_24 ?_
    obtain ⟨⟨v25, h25⟩, e1, e⟩ := ob_some e
    refine at_callV1 hX cv_X7_106 (by decide) (c_X7_refuse _ _ _ _ e1) (Nat.le_of_ble_eq_true rfl) dX7_cellOf_25 ?_
    exact at_ireturn hX hR rfl (by cases e; rfl) (by cases e; rfl) dX7_cellOf_28
  · replace e := in_ c6 e
    refine at_aload_n hX rfl rfl dX7_cellOf_9 ?_
    refine gf_X7_13 hX dX7_cellOf_10 ?_
    refine at_iload_n hX rfl rfl dX7_cellOf_13 ?_
    refine at_iload_n hX rfl rfl dX7_cellOf_14 ?_
    refine at_iload_n hX rfl rfl dX7_cellOf_15 ?_
    obtain ⟨v16, e1, e⟩ := ob_some e
    refine at_callS3 hX cv_X7_110 (by decide) (c_X7_cellAt _ _ _ _ _ _ e1) (Nat.le_of_ble_eq_true rfl) dX7_cellOf_16 ?_
    obtain ⟨hi, v19, ev19, e⟩ := rA_some e
    refine at_iald hX (o := 39) (by decide) rfl hi dX7_cellOf_19 ?_
    refine at_ti ev19 ?_
    refine at_goto hX (tgt := 28) (by decide) dX7_cellOf_20 ?_
    exact at_ireturn hX hR rfl (by cases e; rfl) (by cases e; rfl) dX7_cellOf_28

def F_X7_isBody (x1 : Int32) (x2 : Int32) (x3 : Int32) (h : Hp) : Option Int32 := (F_X7_isCell x1 x2 x3).bind fun v3 => if v3 = (0 : Int32) then some (0 : Int32) else (F_X7_cellAt x1 x2 x3).bind fun v16 => rA_ h 39 180 v16 fun v19 => if v19 ≤ (0 : Int32) then some (0 : Int32) else some (1 : Int32)
theorem c_X7_isBody (l : Launch) (G : Gl) (x1 : Int32) (x2 : Int32) (x3 : Int32) (h : Hp) {r : Int32} (e : F_X7_isBody x1 x2 x3 h = some r) : Does l G 3 M_X7_isBody [.ref 7, .int x1, .int x2, .int x3] h (some (.int r)) h := by
  refine Does.of (by decide) rfl (Nat.le_of_ble_eq_true rfl) (fun X hl hG hn hX hR => ?_)
  unfold F_X7_isBody at e
  subst hl; subst hG
  show At_ X 0 [(0, .ref 7), (1, .int x1), (2, .int x2), (3, .int x3)] [] h
  refine at_iload_n hX rfl rfl dX7_isBody_0 ?_
  refine at_iload_n hX rfl rfl dX7_isBody_1 ?_
  refine at_iload_n hX rfl rfl dX7_isBody_2 ?_
  obtain ⟨v3, e1, e⟩ := ob_some e
  refine at_callS3 hX cv_X7_102 (by decide) (c_X7_isCell _ _ _ _ _ _ e1) (Nat.le_of_ble_eq_true rfl) dX7_isBody_3 ?_
  refine at_if_eq hX (tgt := 27) (by decide) dX7_isBody_6 (fun c6 => ?_) (fun c6 => ?_)
  · replace e := ip_ c6 e
    refine at_iconst hX (v := 0) (by decide) dX7_isBody_27 ?_
    exact at_ireturn hX hR rfl (by cases e; rfl) rfl dX7_isBody_28
  · replace e := in_ c6 e
    refine at_aload_n hX rfl rfl dX7_isBody_9 ?_
    refine gf_X7_13 hX dX7_isBody_10 ?_
    refine at_iload_n hX rfl rfl dX7_isBody_13 ?_
    refine at_iload_n hX rfl rfl dX7_isBody_14 ?_
    refine at_iload_n hX rfl rfl dX7_isBody_15 ?_
    obtain ⟨v16, e1, e⟩ := ob_some e
    refine at_callS3 hX cv_X7_110 (by decide) (c_X7_cellAt _ _ _ _ _ _ e1) (Nat.le_of_ble_eq_true rfl) dX7_isBody_16 ?_
    obtain ⟨hi, v19, ev19, e⟩ := rA_some e
    refine at_iald hX (o := 39) (by decide) rfl hi dX7_isBody_19 ?_
    refine at_ti ev19 ?_
    refine at_if_le hX (tgt := 27) (by decide) dX7_isBody_20 (fun c20 => ?_) (fun c20 => ?_)
    · replace e := ip_ c20 e
      refine at_iconst hX (v := 0) (by decide) dX7_isBody_27 ?_
      exact at_ireturn hX hR rfl (by cases e; rfl) rfl dX7_isBody_28
    · replace e := in_ c20 e
      refine at_iconst hX (v := 1) (by decide) dX7_isBody_23 ?_
      refine at_goto hX (tgt := 28) (by decide) dX7_isBody_24 ?_
      exact at_ireturn hX hR rfl (by cases e; rfl) rfl dX7_isBody_28

def F_X7_isInner (x1 : Int32) (x2 : Int32) (x3 : Int32) (h : Hp) : Option Int32 := (F_X7_isBody x1 x2 x3 h).bind fun v4 => if v4 = (0 : Int32) then some (0 : Int32) else (F_X7_isBody (x1 - (1 : Int32)) x2 x3 h).bind fun v16 => if v16 = (0 : Int32) then some (0 : Int32) else (F_X7_isBody (x1 + (1 : Int32)) x2 x3 h).bind fun v28 => if v28 = (0 : Int32) then some (0 : Int32) else (F_X7_isBody x1 (x2 - (1 : Int32)) x3 h).bind fun v40 => if v40 = (0 : Int32) then some (0 : Int32) else (F_X7_isBody x1 (x2 + (1 : Int32)) x3 h).bind fun v52 => if v52 = (0 : Int32) then some (0 : Int32) else (F_X7_isBody x1 x2 (x3 - (1 : Int32)) h).bind fun v64 => if v64 = (0 : Int32) then some (0 : Int32) else (F_X7_isBody x1 x2 (x3 + (1 : Int32)) h).bind fun v76 => if v76 = (0 : Int32) then some (0 : Int32) else some (1 : Int32)
theorem c_X7_isInner (l : Launch) (G : Gl) (x1 : Int32) (x2 : Int32) (x3 : Int32) (h : Hp) {r : Int32} (e : F_X7_isInner x1 x2 x3 h = some r) : Does l G 4 M_X7_isInner [.ref 7, .int x1, .int x2, .int x3] h (some (.int r)) h := by
  refine Does.of (by decide) rfl (Nat.le_of_ble_eq_true rfl) (fun X hl hG hn hX hR => ?_)
  unfold F_X7_isInner at e
  subst hl; subst hG
  show At_ X 0 [(0, .ref 7), (1, .int x1), (2, .int x2), (3, .int x3)] [] h
  refine at_aload_n hX rfl rfl dX7_isInner_0 ?_
  refine at_iload_n hX rfl rfl dX7_isInner_1 ?_
  refine at_iload_n hX rfl rfl dX7_isInner_2 ?_
  refine at_iload_n hX rfl rfl dX7_isInner_3 ?_
  obtain ⟨v4, e1, e⟩ := ob_some e
  refine at_callV3 hX cv_X7_114 (by decide) (c_X7_isBody _ _ _ _ _ _ e1) (Nat.le_of_ble_eq_true rfl) dX7_isInner_4 ?_
  refine at_if_eq hX (tgt := 86) (by decide) dX7_isInner_7 (fun c7 => ?_) (fun c7 => ?_)
  · replace e := ip_ c7 e
    refine at_iconst hX (v := 0) (by decide) dX7_isInner_86 ?_
    exact at_ireturn hX hR rfl (by cases e; rfl) rfl dX7_isInner_87
  · replace e := in_ c7 e
    refine at_aload_n hX rfl rfl dX7_isInner_10 ?_
    refine at_iload_n hX rfl rfl dX7_isInner_11 ?_
    refine at_iconst hX (v := 1) (by decide) dX7_isInner_12 ?_
    refine at_isub hX dX7_isInner_13 ?_
    refine at_iload_n hX rfl rfl dX7_isInner_14 ?_
    refine at_iload_n hX rfl rfl dX7_isInner_15 ?_
    obtain ⟨v16, e1, e⟩ := ob_some e
    refine at_callV3 hX cv_X7_114 (by decide) (c_X7_isBody _ _ _ _ _ _ e1) (Nat.le_of_ble_eq_true rfl) dX7_isInner_16 ?_
    refine at_if_eq hX (tgt := 86) (by decide) dX7_isInner_19 (fun c19 => ?_) (fun c19 => ?_)
    · replace e := ip_ c19 e
      refine at_iconst hX (v := 0) (by decide) dX7_isInner_86 ?_
      exact at_ireturn hX hR rfl (by cases e; rfl) rfl dX7_isInner_87
    · replace e := in_ c19 e
      refine at_aload_n hX rfl rfl dX7_isInner_22 ?_
      refine at_iload_n hX rfl rfl dX7_isInner_23 ?_
      refine at_iconst hX (v := 1) (by decide) dX7_isInner_24 ?_
      refine at_iadd hX dX7_isInner_25 ?_
      refine at_iload_n hX rfl rfl dX7_isInner_26 ?_
      refine at_iload_n hX rfl rfl dX7_isInner_27 ?_
      obtain ⟨v28, e1, e⟩ := ob_some e
      refine at_callV3 hX cv_X7_114 (by decide) (c_X7_isBody _ _ _ _ _ _ e1) (Nat.le_of_ble_eq_true rfl) dX7_isInner_28 ?_
      refine at_if_eq hX (tgt := 86) (by decide) dX7_isInner_31 (fun c31 => ?_) (fun c31 => ?_)
      · replace e := ip_ c31 e
        refine at_iconst hX (v := 0) (by decide) dX7_isInner_86 ?_
        exact at_ireturn hX hR rfl (by cases e; rfl) rfl dX7_isInner_87
      · replace e := in_ c31 e
        refine at_aload_n hX rfl rfl dX7_isInner_34 ?_
        refine at_iload_n hX rfl rfl dX7_isInner_35 ?_
        refine at_iload_n hX rfl rfl dX7_isInner_36 ?_
        refine at_iconst hX (v := 1) (by decide) dX7_isInner_37 ?_
        refine at_isub hX dX7_isInner_38 ?_
        refine at_iload_n hX rfl rfl dX7_isInner_39 ?_
        obtain ⟨v40, e1, e⟩ := ob_some e
        refine at_callV3 hX cv_X7_114 (by decide) (c_X7_isBody _ _ _ _ _ _ e1) (Nat.le_of_ble_eq_true rfl) dX7_isInner_40 ?_
        refine at_if_eq hX (tgt := 86) (by decide) dX7_isInner_43 (fun c43 => ?_) (fun c43 => ?_)
        · replace e := ip_ c43 e
          refine at_iconst hX (v := 0) (by decide) dX7_isInner_86 ?_
          exact at_ireturn hX hR rfl (by cases e; rfl) rfl dX7_isInner_87
        · replace e := in_ c43 e
          refine at_aload_n hX rfl rfl dX7_isInner_46 ?_
          refine at_iload_n hX rfl rfl dX7_isInner_47 ?_
          refine at_iload_n hX rfl rfl dX7_isInner_48 ?_
          refine at_iconst hX (v := 1) (by decide) dX7_isInner_49 ?_
          refine at_iadd hX dX7_isInner_50 ?_
          refine at_iload_n hX rfl rfl dX7_isInner_51 ?_
          obtain ⟨v52, e1, e⟩ := ob_some e
          refine at_callV3 hX cv_X7_114 (by decide) (c_X7_isBody _ _ _ _ _ _ e1) (Nat.le_of_ble_eq_true rfl) dX7_isInner_52 ?_
          refine at_if_eq hX (tgt := 86) (by decide) dX7_isInner_55 (fun c55 => ?_) (fun c55 => ?_)
          · replace e := ip_ c55 e
            refine at_iconst hX (v := 0) (by decide) dX7_isInner_86 ?_
            exact at_ireturn hX hR rfl (by cases e; rfl) rfl dX7_isInner_87
          · replace e := in_ c55 e
            refine at_aload_n hX rfl rfl dX7_isInner_58 ?_
            refine at_iload_n hX rfl rfl dX7_isInner_59 ?_
            refine at_iload_n hX rfl rfl dX7_isInner_60 ?_
            refine at_iload_n hX rfl rfl dX7_isInner_61 ?_
            refine at_iconst hX (v := 1) (by decide) dX7_isInner_62 ?_
            refine at_isub hX dX7_isInner_63 ?_
            obtain ⟨v64, e1, e⟩ := ob_some e
            refine at_callV3 hX cv_X7_114 (by decide) (c_X7_isBody _ _ _ _ _ _ e1) (Nat.le_of_ble_eq_true rfl) dX7_isInner_64 ?_
            refine at_if_eq hX (tgt := 86) (by decide) dX7_isInner_67 (fun c67 => ?_) (fun c67 => ?_)
            · replace e := ip_ c67 e
              refine at_iconst hX (v := 0) (by decide) dX7_isInner_86 ?_
              exact at_ireturn hX hR rfl (by cases e; rfl) rfl dX7_isInner_87
            · replace e := in_ c67 e
              refine at_aload_n hX rfl rfl dX7_isInner_70 ?_
              refine at_iload_n hX rfl rfl dX7_isInner_71 ?_
              refine at_iload_n hX rfl rfl dX7_isInner_72 ?_
              refine at_iload_n hX rfl rfl dX7_isInner_73 ?_
              refine at_iconst hX (v := 1) (by decide) dX7_isInner_74 ?_
              refine at_iadd hX dX7_isInner_75 ?_
              obtain ⟨v76, e1, e⟩ := ob_some e
              refine at_callV3 hX cv_X7_114 (by decide) (c_X7_isBody _ _ _ _ _ _ e1) (Nat.le_of_ble_eq_true rfl) dX7_isInner_76 ?_
              refine at_if_eq hX (tgt := 86) (by decide) dX7_isInner_79 (fun c79 => ?_) (fun c79 => ?_)
              · replace e := ip_ c79 e
                refine at_iconst hX (v := 0) (by decide) dX7_isInner_86 ?_
                exact at_ireturn hX hR rfl (by cases e; rfl) rfl dX7_isInner_87
              · replace e := in_ c79 e
                refine at_iconst hX (v := 1) (by decide) dX7_isInner_82 ?_
                refine at_goto hX (tgt := 87) (by decide) dX7_isInner_83 ?_
                exact at_ireturn hX hR rfl (by cases e; rfl) rfl dX7_isInner_87

def F_X7_inner_39 (k4 : Int32 → Int32 → Hp → Option Int32) (x2 : Int32) (s0 : Int32) (s1 : Int32) (h : Hp) : Option Int32 := k4 (s0 + s1) (x2 + (1 : Int32)) h
theorem A_X7_inner_39 {X : CX} {h : Hp} {r : Int32} (hn : (xc_ X).maxLocals = 3) (hX : Ok_ X RX7 cX7_inner 5) (hR : Rt_ X (some .int) (some (.int r)) h) (k4 : Int32 → Int32 → Hp → Option Int32) (hk4 : ∀ (x1 : Int32) (x2 : Int32), k4 x1 x2 h = some r → At_ X 4 [(0, .ref 7), (1, .int x1), (2, .int x2)] [] h) (x2 : Int32) (s0 : Int32) (s1 : Int32) (e : F_X7_inner_39 k4 x2 s0 s1 h = some r) : At_ X 39 [(0, .ref 7), (2, .int x2)] [.int s1, .int s0] h := by
  unfold F_X7_inner_39 at e
  refine at_iadd hX dX7_inner_39 ?_
  refine at_istore_n hX rfl hn (by decide) dX7_inner_40 ?_
  refine at_iinc hX hn (by decide) rfl (v := 1) (by decide) dX7_inner_41 ?_
  refine at_goto hX (tgt := 4) (by decide) dX7_inner_44 ?_
  exact at_sub [0, 1, 2] rfl (hk4 _ _ e)
def F_X7_inner_4 (n : Nat) (x1 : Int32) (x2 : Int32) (h : Hp) : Option Int32 := match n with
  | 0 => none
  | n + 1 => if (180 : Int32) ≤ x2 then some x1 else (F_X7_isInner (ir_ x2 (6 : Int32)) (ir_ (x2 / (6 : Int32)) (6 : Int32)) (x2 / (36 : Int32)) h).bind fun v28 => if v28 = (0 : Int32) then (F_X7_inner_39 (F_X7_inner_4 n)) x2 x1 (0 : Int32) h else (F_X7_inner_39 (F_X7_inner_4 n)) x2 x1 (1 : Int32) h
theorem A_X7_inner_4 {X : CX} {h : Hp} {r : Int32} (hn : (xc_ X).maxLocals = 3) (hX : Ok_ X RX7 cX7_inner 5) (hR : Rt_ X (some .int) (some (.int r)) h) : ∀ (n : Nat) (x1 : Int32) (x2 : Int32), F_X7_inner_4 n x1 x2 h = some r → At_ X 4 [(0, .ref 7), (1, .int x1), (2, .int x2)] [] h := by
  intro n
  induction n with
  | zero => intro x1 x2 e; cases e
  | succ n ih =>
    intro x1 x2 e
    rw [F_X7_inner_4] at e
    refine at_iload_n hX rfl rfl dX7_inner_4 ?_
    refine at_sipush hX (v := 180) (by decide) dX7_inner_5 ?_
    refine at_icmp_ge hX (tgt := 47) (by decide) dX7_inner_8 (fun c8 => ?_) (fun c8 => ?_)
    · replace e := ip_ c8 e
      refine at_iload_n hX rfl rfl dX7_inner_47 ?_
      exact at_ireturn hX hR rfl (by cases e; rfl) rfl dX7_inner_48
    · replace e := in_ c8 e
      refine at_iload_n hX rfl rfl dX7_inner_11 ?_
      refine at_aload_n hX rfl rfl dX7_inner_12 ?_
      refine at_iload_n hX rfl rfl dX7_inner_13 ?_
      refine at_bipush hX (v := 6) (by decide) dX7_inner_14 ?_
      refine at_irem hX (by decide) dX7_inner_16 ?_
      refine at_iload_n hX rfl rfl dX7_inner_17 ?_
      refine at_bipush hX (v := 6) (by decide) dX7_inner_18 ?_
      refine at_idiv hX (by decide) dX7_inner_20 ?_
      refine at_bipush hX (v := 6) (by decide) dX7_inner_21 ?_
      refine at_irem hX (by decide) dX7_inner_23 ?_
      refine at_iload_n hX rfl rfl dX7_inner_24 ?_
      refine at_bipush hX (v := 36) (by decide) dX7_inner_25 ?_
      refine at_idiv hX (by decide) dX7_inner_27 ?_
      obtain ⟨v28, e1, e⟩ := ob_some e
      refine at_callV3 hX cv_X7_117 (by decide) (c_X7_isInner _ _ _ _ _ _ e1) (Nat.le_of_ble_eq_true rfl) dX7_inner_28 ?_
      refine at_if_eq hX (tgt := 38) (by decide) dX7_inner_31 (fun c31 => ?_) (fun c31 => ?_)
      · replace e := ip_ c31 e
        refine at_iconst hX (v := 0) (by decide) dX7_inner_38 ?_
        exact at_sub [0, 2] rfl ((A_X7_inner_39 hn hX hR (F_X7_inner_4 n) ih) _ _ _ e)
      · replace e := in_ c31 e
        refine at_iconst hX (v := 1) (by decide) dX7_inner_34 ?_
        refine at_goto hX (tgt := 39) (by decide) dX7_inner_35 ?_
        exact at_sub [0, 2] rfl ((A_X7_inner_39 hn hX hR (F_X7_inner_4 n) ih) _ _ _ e)
def F_X7_inner (h : Hp) : Option Int32 := (F_X7_inner_4 FU_) (0 : Int32) (0 : Int32) h
theorem c_X7_inner (l : Launch) (G : Gl) (h : Hp) {r : Int32} (e : F_X7_inner  h = some r) : Does l G 5 M_X7_inner [.ref 7] h (some (.int r)) h := by
  refine Does.of (by decide) rfl (Nat.le_of_ble_eq_true rfl) (fun X hl hG hn hX hR => ?_)
  unfold F_X7_inner at e
  subst hl; subst hG
  show At_ X 0 [(0, .ref 7)] [] h
  refine at_iconst hX (v := 0) (by decide) dX7_inner_0 ?_
  refine at_istore_n hX rfl hn (by decide) dX7_inner_1 ?_
  refine at_iconst hX (v := 0) (by decide) dX7_inner_2 ?_
  refine at_istore_n hX rfl hn (by decide) dX7_inner_3 ?_
  exact at_sub [0, 1, 2] rfl ((A_X7_inner_4 hn hX hR FU_) _ _ e)

def F_X7_lengthX (x0 : Int32) (x1 : Int32) (h : Hp) : Option Int32 := if x1 = (0 : Int32) then rS_ [1, 2, 3, 4, 2, 3, 4] x0 fun v8 => some v8 else rS_ [1, 1, 1, 1, 2, 2, 2] x0 fun v16 => some v16
theorem c_X7_lengthX (l : Launch) (G : Gl) (x0 : Int32) (x1 : Int32) (h : Hp) {r : Int32} (e : F_X7_lengthX x0 x1 h = some r) : Does l G 1 M_X7_lengthX [.int x0, .int x1] h (some (.int r)) h := by
  refine Does.of (by decide) rfl (Nat.le_of_ble_eq_true rfl) (fun X hl hG hn hX hR => ?_)
  unfold F_X7_lengthX at e
  subst hl; subst hG
  show At_ X 0 [(0, .int x0), (1, .int x1)] [] h
  refine at_iload_n hX rfl rfl dX7_lengthX_0 ?_
  refine at_if_ne hX (tgt := 12) (by decide) dX7_lengthX_1 (fun c1 => ?_) (fun c1 => ?_)
  · replace e := in_ c1 e
    refine gs_X7_123 hX dX7_lengthX_12 ?_
    refine at_iload_n hX rfl rfl dX7_lengthX_15 ?_
    obtain ⟨hi, v16, ev16, e⟩ := rS_some e
    refine at_sald hX 7 rfl rfl hi dX7_lengthX_16 ?_
    refine at_ti ev16 ?_
    exact at_ireturn hX hR rfl (by cases e; rfl) rfl dX7_lengthX_17
  · replace e := ip_ c1 e
    refine gs_X7_120 hX dX7_lengthX_4 ?_
    refine at_iload_n hX rfl rfl dX7_lengthX_7 ?_
    obtain ⟨hi, v8, ev8, e⟩ := rS_some e
    refine at_sald hX 6 rfl rfl hi dX7_lengthX_8 ?_
    refine at_ti ev8 ?_
    refine at_goto hX (tgt := 17) (by decide) dX7_lengthX_9 ?_
    exact at_ireturn hX hR rfl (by cases e; rfl) rfl dX7_lengthX_17

def F_X7_lengthY (x0 : Int32) (x1 : Int32) (h : Hp) : Option Int32 := if x1 = (0 : Int32) then rS_ [1, 1, 1, 1, 2, 2, 2] x0 fun v8 => some v8 else rS_ [1, 2, 3, 4, 2, 3, 4] x0 fun v16 => some v16
theorem c_X7_lengthY (l : Launch) (G : Gl) (x0 : Int32) (x1 : Int32) (h : Hp) {r : Int32} (e : F_X7_lengthY x0 x1 h = some r) : Does l G 1 M_X7_lengthY [.int x0, .int x1] h (some (.int r)) h := by
  refine Does.of (by decide) rfl (Nat.le_of_ble_eq_true rfl) (fun X hl hG hn hX hR => ?_)
  unfold F_X7_lengthY at e
  subst hl; subst hG
  show At_ X 0 [(0, .int x0), (1, .int x1)] [] h
  refine at_iload_n hX rfl rfl dX7_lengthY_0 ?_
  refine at_if_ne hX (tgt := 12) (by decide) dX7_lengthY_1 (fun c1 => ?_) (fun c1 => ?_)
  · replace e := in_ c1 e
    refine gs_X7_120 hX dX7_lengthY_12 ?_
    refine at_iload_n hX rfl rfl dX7_lengthY_15 ?_
    obtain ⟨hi, v16, ev16, e⟩ := rS_some e
    refine at_sald hX 6 rfl rfl hi dX7_lengthY_16 ?_
    refine at_ti ev16 ?_
    exact at_ireturn hX hR rfl (by cases e; rfl) rfl dX7_lengthY_17
  · replace e := ip_ c1 e
    refine gs_X7_123 hX dX7_lengthY_4 ?_
    refine at_iload_n hX rfl rfl dX7_lengthY_7 ?_
    obtain ⟨hi, v8, ev8, e⟩ := rS_some e
    refine at_sald hX 7 rfl rfl hi dX7_lengthY_8 ?_
    refine at_ti ev8 ?_
    refine at_goto hX (tgt := 17) (by decide) dX7_lengthY_9 ?_
    exact at_ireturn hX hR rfl (by cases e; rfl) rfl dX7_lengthY_17

def F_X7_cells (x1 : Int32) (h : Hp) : Option Int32 := rA_ h 42 40 x1 fun v8 => rS_ [1, 2, 3, 4, 2, 3, 4] v8 fun v9 => rA_ h 42 40 x1 fun v18 => rS_ [1, 1, 1, 1, 2, 2, 2] v18 fun v19 => some (v9 * v19)
theorem c_X7_cells (l : Launch) (G : Gl) (x1 : Int32) (h : Hp) {r : Int32} (e : F_X7_cells x1 h = some r) : Does l G 1 M_X7_cells [.ref 7, .int x1] h (some (.int r)) h := by
  refine Does.of (by decide) rfl (Nat.le_of_ble_eq_true rfl) (fun X hl hG hn hX hR => ?_)
  unfold F_X7_cells at e
  subst hl; subst hG
  show At_ X 0 [(0, .ref 7), (1, .int x1)] [] h
  refine gs_X7_120 hX dX7_cells_0 ?_
  refine at_aload_n hX rfl rfl dX7_cells_3 ?_
  refine gf_X7_22 hX dX7_cells_4 ?_
  refine at_iload_n hX rfl rfl dX7_cells_7 ?_
  obtain ⟨hi, v8, ev8, e⟩ := rA_some e
  refine at_iald hX (o := 42) (by decide) rfl hi dX7_cells_8 ?_
  refine at_ti ev8 ?_
  obtain ⟨hi, v9, ev9, e⟩ := rS_some e
  refine at_sald hX 6 rfl rfl hi dX7_cells_9 ?_
  refine at_ti ev9 ?_
  refine gs_X7_123 hX dX7_cells_10 ?_
  refine at_aload_n hX rfl rfl dX7_cells_13 ?_
  refine gf_X7_22 hX dX7_cells_14 ?_
  refine at_iload_n hX rfl rfl dX7_cells_17 ?_
  obtain ⟨hi, v18, ev18, e⟩ := rA_some e
  refine at_iald hX (o := 42) (by decide) rfl hi dX7_cells_18 ?_
  refine at_ti ev18 ?_
  obtain ⟨hi, v19, ev19, e⟩ := rS_some e
  refine at_sald hX 7 rfl rfl hi dX7_cells_19 ?_
  refine at_ti ev19 ?_
  refine at_imul hX dX7_cells_20 ?_
  exact at_ireturn hX hR rfl (by cases e; rfl) rfl dX7_cells_21

def F_X7_fills_82 (k2 : Int32 → Int32 → Int32 → Hp → Option Hp) (x1 : Int32) (x2 : Int32) (x3 : Int32) (h : Hp) : Option Hp := k2 x1 x2 (x3 + (1 : Int32)) h
theorem A_X7_fills_82 {X : CX} {h' : Hp} (hn : (xc_ X).maxLocals = 5) (hX : Ok_ X RX7 cX7_fills 2) (hR : Rt_ X none none h') (k2 : Int32 → Int32 → Int32 → Hp → Option Hp) (hk2 : ∀ (x1 : Int32) (x2 : Int32) (x3 : Int32) (h : Hp), k2 x1 x2 x3 h = some h' → At_ X 2 [(0, .ref 7), (1, .int x1), (2, .int x2), (3, .int x3)] [] h) (x1 : Int32) (x2 : Int32) (x3 : Int32) (h : Hp) (e : F_X7_fills_82 k2 x1 x2 x3 h = some h') : At_ X 82 [(0, .ref 7), (1, .int x1), (2, .int x2), (3, .int x3)] [] h := by
  unfold F_X7_fills_82 at e
  refine at_iinc hX hn (by decide) rfl (v := 1) (by decide) dX7_fills_82 ?_
  refine at_goto hX (tgt := 2) (by decide) dX7_fills_85 ?_
  exact at_sub [0, 1, 2, 3] rfl (hk2 _ _ _ _ e)
def F_X7_fills_24 (n : Nat) (k82 : Int32 → Int32 → Int32 → Hp → Option Hp) (x1 : Int32) (x2 : Int32) (x3 : Int32) (x4 : Int32) (h : Hp) : Option Hp := match n with
  | 0 => none
  | n + 1 => rA_ h 42 40 x1 fun v31 => rA_ h 43 40 x1 fun v37 => (F_X7_lengthX v31 v37 h).bind fun v38 => if v38 ≤ x4 then k82 x1 x2 x3 h else rA_ h 44 40 x1 fun v53 => rA_ h 45 40 x1 fun v62 => rA_ h 46 40 x1 fun v70 => (F_X7_cellAt (v53 + x4) (v62 + x3) v70).bind fun v71 => wA_ h 40 180 v71 x2 fun h75 => (F_X7_fills_24 n k82) x1 x2 x3 (x4 + (1 : Int32)) h75
theorem A_X7_fills_24 {X : CX} {h' : Hp} (hn : (xc_ X).maxLocals = 5) (hX : Ok_ X RX7 cX7_fills 2) (hR : Rt_ X none none h') (k82 : Int32 → Int32 → Int32 → Hp → Option Hp) (hk82 : ∀ (x1 : Int32) (x2 : Int32) (x3 : Int32) (h : Hp), k82 x1 x2 x3 h = some h' → At_ X 82 [(0, .ref 7), (1, .int x1), (2, .int x2), (3, .int x3)] [] h) : ∀ (n : Nat) (x1 : Int32) (x2 : Int32) (x3 : Int32) (x4 : Int32) (h : Hp), F_X7_fills_24 n k82 x1 x2 x3 x4 h = some h' → At_ X 24 [(0, .ref 7), (1, .int x1), (2, .int x2), (3, .int x3), (4, .int x4)] [] h := by
  intro n
  induction n with
  | zero => intro x1 x2 x3 x4 h e; cases e
  | succ n ih =>
    intro x1 x2 x3 x4 h e
    rw [F_X7_fills_24] at e
    refine at_iload hX rfl dX7_fills_24 ?_
    refine at_aload_n hX rfl rfl dX7_fills_26 ?_
    refine gf_X7_22 hX dX7_fills_27 ?_
    refine at_iload_n hX rfl rfl dX7_fills_30 ?_
    obtain ⟨hi, v31, ev31, e⟩ := rA_some e
    refine at_iald hX (o := 42) (by decide) rfl hi dX7_fills_31 ?_
    refine at_ti ev31 ?_
    refine at_aload_n hX rfl rfl dX7_fills_32 ?_
    refine gf_X7_25 hX dX7_fills_33 ?_
    refine at_iload_n hX rfl rfl dX7_fills_36 ?_
    obtain ⟨hi, v37, ev37, e⟩ := rA_some e
    refine at_iald hX (o := 43) (by decide) rfl hi dX7_fills_37 ?_
    refine at_ti ev37 ?_
    obtain ⟨v38, e1, e⟩ := ob_some e
    refine at_callS2 hX cv_X7_130 (by decide) (c_X7_lengthX _ _ _ _ _ e1) (Nat.le_of_ble_eq_true rfl) dX7_fills_38 ?_
    refine at_icmp_ge hX (tgt := 82) (by decide) dX7_fills_41 (fun c41 => ?_) (fun c41 => ?_)
    · replace e := ip_ c41 e
      exact at_sub [0, 1, 2, 3] rfl (hk82 _ _ _ _ e)
    · replace e := in_ c41 e
      refine at_aload_n hX rfl rfl dX7_fills_44 ?_
      refine gf_X7_16 hX dX7_fills_45 ?_
      refine at_aload_n hX rfl rfl dX7_fills_48 ?_
      refine gf_X7_28 hX dX7_fills_49 ?_
      refine at_iload_n hX rfl rfl dX7_fills_52 ?_
      obtain ⟨hi, v53, ev53, e⟩ := rA_some e
      refine at_iald hX (o := 44) (by decide) rfl hi dX7_fills_53 ?_
      refine at_ti ev53 ?_
      refine at_iload hX rfl dX7_fills_54 ?_
      refine at_iadd hX dX7_fills_56 ?_
      refine at_aload_n hX rfl rfl dX7_fills_57 ?_
      refine gf_X7_31 hX dX7_fills_58 ?_
      refine at_iload_n hX rfl rfl dX7_fills_61 ?_
      obtain ⟨hi, v62, ev62, e⟩ := rA_some e
      refine at_iald hX (o := 45) (by decide) rfl hi dX7_fills_62 ?_
      refine at_ti ev62 ?_
      refine at_iload_n hX rfl rfl dX7_fills_63 ?_
      refine at_iadd hX dX7_fills_64 ?_
      refine at_aload_n hX rfl rfl dX7_fills_65 ?_
      refine gf_X7_34 hX dX7_fills_66 ?_
      refine at_iload_n hX rfl rfl dX7_fills_69 ?_
      obtain ⟨hi, v70, ev70, e⟩ := rA_some e
      refine at_iald hX (o := 46) (by decide) rfl hi dX7_fills_70 ?_
      refine at_ti ev70 ?_
      obtain ⟨v71, e1, e⟩ := ob_some e
      refine at_callS3 hX cv_X7_110 (by decide) (c_X7_cellAt _ _ _ _ _ _ e1) (Nat.le_of_ble_eq_true rfl) dX7_fills_71 ?_
      refine at_iload_n hX rfl rfl dX7_fills_74 ?_
      obtain ⟨hi, h75, eh75, e⟩ := wA_some e
      refine at_iast hX (o := 40) (by decide) rfl hi dX7_fills_75 ?_
      refine at_th eh75 ?_
      refine at_iinc hX hn (by decide) rfl (v := 1) (by decide) dX7_fills_76 ?_
      refine at_goto hX (tgt := 24) (by decide) dX7_fills_79 ?_
      exact at_sub [0, 1, 2, 3, 4] rfl (ih _ _ _ _ _ e)
def F_X7_fills_2 (n : Nat) (x1 : Int32) (x2 : Int32) (x3 : Int32) (h : Hp) : Option Hp := match n with
  | 0 => none
  | n + 1 => rA_ h 42 40 x1 fun v8 => rA_ h 43 40 x1 fun v14 => (F_X7_lengthY v8 v14 h).bind fun v15 => if v15 ≤ x3 then some h else (F_X7_fills_24 FU_ (F_X7_fills_82 (F_X7_fills_2 n))) x1 x2 x3 (0 : Int32) h
theorem A_X7_fills_2 {X : CX} {h' : Hp} (hn : (xc_ X).maxLocals = 5) (hX : Ok_ X RX7 cX7_fills 2) (hR : Rt_ X none none h') : ∀ (n : Nat) (x1 : Int32) (x2 : Int32) (x3 : Int32) (h : Hp), F_X7_fills_2 n x1 x2 x3 h = some h' → At_ X 2 [(0, .ref 7), (1, .int x1), (2, .int x2), (3, .int x3)] [] h := by
  intro n
  induction n with
  | zero => intro x1 x2 x3 h e; cases e
  | succ n ih =>
    intro x1 x2 x3 h e
    rw [F_X7_fills_2] at e
    refine at_iload_n hX rfl rfl dX7_fills_2 ?_
    refine at_aload_n hX rfl rfl dX7_fills_3 ?_
    refine gf_X7_22 hX dX7_fills_4 ?_
    refine at_iload_n hX rfl rfl dX7_fills_7 ?_
    obtain ⟨hi, v8, ev8, e⟩ := rA_some e
    refine at_iald hX (o := 42) (by decide) rfl hi dX7_fills_8 ?_
    refine at_ti ev8 ?_
    refine at_aload_n hX rfl rfl dX7_fills_9 ?_
    refine gf_X7_25 hX dX7_fills_10 ?_
    refine at_iload_n hX rfl rfl dX7_fills_13 ?_
    obtain ⟨hi, v14, ev14, e⟩ := rA_some e
    refine at_iald hX (o := 43) (by decide) rfl hi dX7_fills_14 ?_
    refine at_ti ev14 ?_
    obtain ⟨v15, e1, e⟩ := ob_some e
    refine at_callS2 hX cv_X7_126 (by decide) (c_X7_lengthY _ _ _ _ _ e1) (Nat.le_of_ble_eq_true rfl) dX7_fills_15 ?_
    refine at_icmp_ge hX (tgt := 88) (by decide) dX7_fills_18 (fun c18 => ?_) (fun c18 => ?_)
    · replace e := ip_ c18 e
      exact at_return hX hR rfl (by cases e; rfl) dX7_fills_88
    · replace e := in_ c18 e
      refine at_iconst hX (v := 0) (by decide) dX7_fills_21 ?_
      refine at_istore hX hn (by decide) dX7_fills_22 ?_
      exact at_sub [0, 1, 2, 3, 4] rfl ((A_X7_fills_24 hn hX hR (F_X7_fills_82 (F_X7_fills_2 n)) (A_X7_fills_82 hn hX hR (F_X7_fills_2 n) ih) FU_) _ _ _ _ _ e)
def F_X7_fills (x1 : Int32) (x2 : Int32) (h : Hp) : Option Hp := (F_X7_fills_2 FU_) x1 x2 (0 : Int32) h
theorem c_X7_fills (l : Launch) (G : Gl) (x1 : Int32) (x2 : Int32) (h : Hp) {h' : Hp} (e : F_X7_fills x1 x2 h = some h') : Does l G 2 M_X7_fills [.ref 7, .int x1, .int x2] h none h' := by
  refine Does.of (by decide) rfl (Nat.le_of_ble_eq_true rfl) (fun X hl hG hn hX hR => ?_)
  unfold F_X7_fills at e
  subst hl; subst hG
  show At_ X 0 [(0, .ref 7), (1, .int x1), (2, .int x2)] [] h
  refine at_iconst hX (v := 0) (by decide) dX7_fills_0 ?_
  refine at_istore_n hX rfl hn (by decide) dX7_fills_1 ?_
  exact at_sub [0, 1, 2, 3] rfl ((A_X7_fills_2 hn hX hR FU_) _ _ _ _ e)

def F_X7_adds (x1 : Int32) (x2 : Int32) (x3 : Int32) (x4 : Int32) (x5 : Int32) (x6 : Int32) (h : Hp) : Option Hp := wA_ h 42 40 (gI_ h 458) x1 fun h9 => wA_ h9 43 40 (gI_ h9 458) x2 fun h19 => wA_ h19 44 40 (gI_ h19 458) x3 fun h29 => wA_ h29 45 40 (gI_ h29 458) x4 fun h40 => wA_ h40 46 40 (gI_ h40 458) x5 fun h51 => wA_ h51 47 40 (gI_ h51 458) x6 fun h62 => (F_X7_fills (gI_ h62 458) (gI_ h62 458) h62).bind fun h72 => bd_ (sJ_ h72 460 ((gJ_ h72 460) ||| (ls_ (1 : Int64) (gI_ h72 458)))) fun h87 => bd_ (sI_ h87 458 ((gI_ h87 458) + (1 : Int32))) fun h97 => some h97
theorem c_X7_adds (l : Launch) (G : Gl) (x1 : Int32) (x2 : Int32) (x3 : Int32) (x4 : Int32) (x5 : Int32) (x6 : Int32) (h : Hp) {h' : Hp} (e : F_X7_adds x1 x2 x3 x4 x5 x6 h = some h') : Does l G 3 M_X7_adds [.ref 7, .int x1, .int x2, .int x3, .int x4, .int x5, .int x6] h none h' := by
  refine Does.of (by decide) rfl (Nat.le_of_ble_eq_true rfl) (fun X hl hG hn hX hR => ?_)
  unfold F_X7_adds at e
  subst hl; subst hG
  show At_ X 0 [(0, .ref 7), (1, .int x1), (2, .int x2), (3, .int x3), (4, .int x4), (5, .int x5), (6, .int x6)] [] h
  refine at_aload_n hX rfl rfl dX7_adds_0 ?_
  refine gf_X7_22 hX dX7_adds_1 ?_
  refine at_aload_n hX rfl rfl dX7_adds_4 ?_
  refine gf_X7_133 hX dX7_adds_5 ?_
  refine at_iload_n hX rfl rfl dX7_adds_8 ?_
  obtain ⟨hi, h9, eh9, e⟩ := wA_some e
  refine at_iast hX (o := 42) (by decide) rfl hi dX7_adds_9 ?_
  refine at_th eh9 ?_
  refine at_aload_n hX rfl rfl dX7_adds_10 ?_
  refine gf_X7_25 hX dX7_adds_11 ?_
  refine at_aload_n hX rfl rfl dX7_adds_14 ?_
  refine gf_X7_133 hX dX7_adds_15 ?_
  refine at_iload_n hX rfl rfl dX7_adds_18 ?_
  obtain ⟨hi, h19, eh19, e⟩ := wA_some e
  refine at_iast hX (o := 43) (by decide) rfl hi dX7_adds_19 ?_
  refine at_th eh19 ?_
  refine at_aload_n hX rfl rfl dX7_adds_20 ?_
  refine gf_X7_28 hX dX7_adds_21 ?_
  refine at_aload_n hX rfl rfl dX7_adds_24 ?_
  refine gf_X7_133 hX dX7_adds_25 ?_
  refine at_iload_n hX rfl rfl dX7_adds_28 ?_
  obtain ⟨hi, h29, eh29, e⟩ := wA_some e
  refine at_iast hX (o := 44) (by decide) rfl hi dX7_adds_29 ?_
  refine at_th eh29 ?_
  refine at_aload_n hX rfl rfl dX7_adds_30 ?_
  refine gf_X7_31 hX dX7_adds_31 ?_
  refine at_aload_n hX rfl rfl dX7_adds_34 ?_
  refine gf_X7_133 hX dX7_adds_35 ?_
  refine at_iload hX rfl dX7_adds_38 ?_
  obtain ⟨hi, h40, eh40, e⟩ := wA_some e
  refine at_iast hX (o := 45) (by decide) rfl hi dX7_adds_40 ?_
  refine at_th eh40 ?_
  refine at_aload_n hX rfl rfl dX7_adds_41 ?_
  refine gf_X7_34 hX dX7_adds_42 ?_
  refine at_aload_n hX rfl rfl dX7_adds_45 ?_
  refine gf_X7_133 hX dX7_adds_46 ?_
  refine at_iload hX rfl dX7_adds_49 ?_
  obtain ⟨hi, h51, eh51, e⟩ := wA_some e
  refine at_iast hX (o := 46) (by decide) rfl hi dX7_adds_51 ?_
  refine at_th eh51 ?_
  refine at_aload_n hX rfl rfl dX7_adds_52 ?_
  refine gf_X7_37 hX dX7_adds_53 ?_
  refine at_aload_n hX rfl rfl dX7_adds_56 ?_
  refine gf_X7_133 hX dX7_adds_57 ?_
  refine at_iload hX rfl dX7_adds_60 ?_
  obtain ⟨hi, h62, eh62, e⟩ := wA_some e
  refine at_iast hX (o := 47) (by decide) rfl hi dX7_adds_62 ?_
  refine at_th eh62 ?_
  refine at_aload_n hX rfl rfl dX7_adds_63 ?_
  refine at_aload_n hX rfl rfl dX7_adds_64 ?_
  refine gf_X7_133 hX dX7_adds_65 ?_
  refine at_aload_n hX rfl rfl dX7_adds_68 ?_
  refine gf_X7_133 hX dX7_adds_69 ?_
  obtain ⟨h72, e1, e⟩ := ob_some e
  refine at_callV2 hX cv_X7_136 (by decide) (c_X7_fills _ _ _ _ _ e1) (Nat.le_of_ble_eq_true rfl) dX7_adds_72 ?_
  refine at_aload_n hX rfl rfl dX7_adds_75 ?_
  refine at_dup hX rfl dX7_adds_76 ?_
  refine gf_X7_140 hX dX7_adds_77 ?_
  refine at_lconst hX (v := 1) (by decide) dX7_adds_80 ?_
  refine at_aload_n hX rfl rfl dX7_adds_81 ?_
  refine gf_X7_133 hX dX7_adds_82 ?_
  refine at_lshl hX dX7_adds_85 ?_
  refine at_lor hX dX7_adds_86 ?_
  obtain ⟨h87, eh87, e⟩ := bd_some e
  refine pf_X7_140 hX dX7_adds_87 ?_
  refine at_th eh87 ?_
  refine at_aload_n hX rfl rfl dX7_adds_90 ?_
  refine at_dup hX rfl dX7_adds_91 ?_
  refine gf_X7_133 hX dX7_adds_92 ?_
  refine at_iconst hX (v := 1) (by decide) dX7_adds_95 ?_
  refine at_iadd hX dX7_adds_96 ?_
  obtain ⟨h97, eh97, e⟩ := bd_some e
  refine pf_X7_133 hX dX7_adds_97 ?_
  refine at_th eh97 ?_
  exact at_return hX hR rfl (by cases e; rfl) dX7_adds_100

def F_X7_place_146 (x1 : Int32) (x2 : Int32) (x3 : Int32) (x4 : Int32) (x5 : Int32) (x6 : Int32) (h : Hp) : Option (Int32 × Hp) := if gI_ h 458 = (40 : Int32) then (F_X7_refuse (-6 : Int32) h).bind fun ((v158, h158) : Int32 × Hp) => some (v158, h158) else (F_X7_adds x1 x2 x3 x4 x5 x6 h).bind fun h172 => some ((gI_ h172 458) - (1 : Int32), h172)
theorem A_X7_place_146 {X : CX} {h' : Hp} {r : Int32} (hn : (xc_ X).maxLocals = 11) (hX : Ok_ X RX7 cX7_place 4) (hR : Rt_ X (some .int) (some (.int r)) h') (x1 : Int32) (x2 : Int32) (x3 : Int32) (x4 : Int32) (x5 : Int32) (x6 : Int32) (h : Hp) (e : F_X7_place_146 x1 x2 x3 x4 x5 x6 h = some (r, h')) : At_ X 146 [(0, .ref 7), (1, .int x1), (2, .int x2), (3, .int x3), (4, .int x4), (5, .int x5), (6, .int x6)] [] h := by
  unfold F_X7_place_146 at e
  refine at_aload_n hX rfl rfl dX7_place_146 ?_
  refine gf_X7_133 hX dX7_place_147 ?_
  refine at_bipush hX (v := 40) (by decide) dX7_place_150 ?_
  refine at_icmp_ne hX (tgt := 162) (by decide) dX7_place_152 (fun c152 => ?_) (fun c152 => ?_)
  · replace e := in_ c152 e
    refine at_aload_n hX rfl rfl dX7_place_162 ?_
    refine at_iload_n hX rfl rfl dX7_place_163 ?_
    refine at_iload_n hX rfl rfl dX7_place_164 ?_
    refine at_iload_n hX rfl rfl dX7_place_165 ?_
    refine at_iload hX rfl dX7_place_166 ?_
    refine at_iload hX rfl dX7_place_168 ?_
    refine at_iload hX rfl dX7_place_170 ?_
    obtain ⟨h172, e1, e⟩ := ob_some e
    refine at_callV6 hX cv_X7_144 (by decide) (c_X7_adds _ _ _ _ _ _ _ _ _ e1) (Nat.le_of_ble_eq_true rfl) dX7_place_172 ?_
    refine at_aload_n hX rfl rfl dX7_place_175 ?_
    refine gf_X7_133 hX dX7_place_176 ?_
    refine at_iconst hX (v := 1) (by decide) dX7_place_179 ?_
    refine at_isub hX dX7_place_180 ?_
    exact at_ireturn hX hR rfl (by cases e; rfl) (by cases e; rfl) dX7_place_181
  · replace e := ip_ c152 e
    refine at_aload_n hX rfl rfl dX7_place_155 ?_
    refine at_bipush hX (v := -6) (by decide) dX7_place_156 ?_
    obtain ⟨⟨v158, h158⟩, e1, e⟩ := ob_some e
    refine at_callV1 hX cv_X7_106 (by decide) (c_X7_refuse _ _ _ _ e1) (Nat.le_of_ble_eq_true rfl) dX7_place_158 ?_
    exact at_ireturn hX hR rfl (by cases e; rfl) (by cases e; rfl) dX7_place_161
def F_X7_place_140 (k88 : Int32 → Int32 → Int32 → Int32 → Int32 → Int32 → Int32 → Int32 → Int32 → Hp → Option (Int32 × Hp)) (x1 : Int32) (x2 : Int32) (x3 : Int32) (x4 : Int32) (x5 : Int32) (x6 : Int32) (x7 : Int32) (x8 : Int32) (x9 : Int32) (h : Hp) : Option (Int32 × Hp) := k88 x1 x2 x3 x4 x5 x6 x7 x8 (x9 + (1 : Int32)) h
theorem A_X7_place_140 {X : CX} {h' : Hp} {r : Int32} (hn : (xc_ X).maxLocals = 11) (hX : Ok_ X RX7 cX7_place 4) (hR : Rt_ X (some .int) (some (.int r)) h') (k88 : Int32 → Int32 → Int32 → Int32 → Int32 → Int32 → Int32 → Int32 → Int32 → Hp → Option (Int32 × Hp)) (hk88 : ∀ (x1 : Int32) (x2 : Int32) (x3 : Int32) (x4 : Int32) (x5 : Int32) (x6 : Int32) (x7 : Int32) (x8 : Int32) (x9 : Int32) (h : Hp), k88 x1 x2 x3 x4 x5 x6 x7 x8 x9 h = some (r, h') → At_ X 88 [(0, .ref 7), (1, .int x1), (2, .int x2), (3, .int x3), (4, .int x4), (5, .int x5), (6, .int x6), (7, .int x7), (8, .int x8), (9, .int x9)] [] h) (x1 : Int32) (x2 : Int32) (x3 : Int32) (x4 : Int32) (x5 : Int32) (x6 : Int32) (x7 : Int32) (x8 : Int32) (x9 : Int32) (h : Hp) (e : F_X7_place_140 k88 x1 x2 x3 x4 x5 x6 x7 x8 x9 h = some (r, h')) : At_ X 140 [(0, .ref 7), (1, .int x1), (2, .int x2), (3, .int x3), (4, .int x4), (5, .int x5), (6, .int x6), (7, .int x7), (8, .int x8), (9, .int x9)] [] h := by
  unfold F_X7_place_140 at e
  refine at_iinc hX hn (by decide) rfl (v := 1) (by decide) dX7_place_140 ?_
  refine at_goto hX (tgt := 88) (by decide) dX7_place_143 ?_
  exact at_sub [0, 1, 2, 3, 4, 5, 6, 7, 8, 9] rfl (hk88 _ _ _ _ _ _ _ _ _ _ e)
def F_X7_place_98 (n : Nat) (k140 : Int32 → Int32 → Int32 → Int32 → Int32 → Int32 → Int32 → Int32 → Int32 → Hp → Option (Int32 × Hp)) (x1 : Int32) (x2 : Int32) (x3 : Int32) (x4 : Int32) (x5 : Int32) (x6 : Int32) (x7 : Int32) (x8 : Int32) (x9 : Int32) (x10 : Int32) (h : Hp) : Option (Int32 × Hp) := match n with
  | 0 => none
  | n + 1 => if x8 ≤ x10 then k140 x1 x2 x3 x4 x5 x6 x7 x8 x9 h else (F_X7_cellAt (x3 + x9) (x4 + x10) x5).bind fun v120 => rA_ h 40 180 v120 fun v123 => if v123 < (0 : Int32) then (F_X7_place_98 n k140) x1 x2 x3 x4 x5 x6 x7 x8 x9 (x10 + (1 : Int32)) h else (F_X7_refuse (-3 : Int32) h).bind fun ((v130, h130) : Int32 × Hp) => some (v130, h130)
theorem A_X7_place_98 {X : CX} {h' : Hp} {r : Int32} (hn : (xc_ X).maxLocals = 11) (hX : Ok_ X RX7 cX7_place 4) (hR : Rt_ X (some .int) (some (.int r)) h') (k140 : Int32 → Int32 → Int32 → Int32 → Int32 → Int32 → Int32 → Int32 → Int32 → Hp → Option (Int32 × Hp)) (hk140 : ∀ (x1 : Int32) (x2 : Int32) (x3 : Int32) (x4 : Int32) (x5 : Int32) (x6 : Int32) (x7 : Int32) (x8 : Int32) (x9 : Int32) (h : Hp), k140 x1 x2 x3 x4 x5 x6 x7 x8 x9 h = some (r, h') → At_ X 140 [(0, .ref 7), (1, .int x1), (2, .int x2), (3, .int x3), (4, .int x4), (5, .int x5), (6, .int x6), (7, .int x7), (8, .int x8), (9, .int x9)] [] h) : ∀ (n : Nat) (x1 : Int32) (x2 : Int32) (x3 : Int32) (x4 : Int32) (x5 : Int32) (x6 : Int32) (x7 : Int32) (x8 : Int32) (x9 : Int32) (x10 : Int32) (h : Hp), F_X7_place_98 n k140 x1 x2 x3 x4 x5 x6 x7 x8 x9 x10 h = some (r, h') → At_ X 98 [(0, .ref 7), (1, .int x1), (2, .int x2), (3, .int x3), (4, .int x4), (5, .int x5), (6, .int x6), (7, .int x7), (8, .int x8), (9, .int x9), (10, .int x10)] [] h := by
  intro n
  induction n with
  | zero => intro x1 x2 x3 x4 x5 x6 x7 x8 x9 x10 h e; cases e
  | succ n ih =>
    intro x1 x2 x3 x4 x5 x6 x7 x8 x9 x10 h e
    rw [F_X7_place_98] at e
    refine at_iload hX rfl dX7_place_98 ?_
    refine at_iload hX rfl dX7_place_100 ?_
    refine at_icmp_ge hX (tgt := 140) (by decide) dX7_place_102 (fun c102 => ?_) (fun c102 => ?_)
    · replace e := ip_ c102 e
      exact at_sub [0, 1, 2, 3, 4, 5, 6, 7, 8, 9] rfl (hk140 _ _ _ _ _ _ _ _ _ _ e)
    · replace e := in_ c102 e
      refine at_aload_n hX rfl rfl dX7_place_105 ?_
      refine gf_X7_16 hX dX7_place_106 ?_
      refine at_iload_n hX rfl rfl dX7_place_109 ?_
      refine at_iload hX rfl dX7_place_110 ?_
      refine at_iadd hX dX7_place_112 ?_
      refine at_iload hX rfl dX7_place_113 ?_
      refine at_iload hX rfl dX7_place_115 ?_
      refine at_iadd hX dX7_place_117 ?_
      refine at_iload hX rfl dX7_place_118 ?_
      obtain ⟨v120, e1, e⟩ := ob_some e
      refine at_callS3 hX cv_X7_110 (by decide) (c_X7_cellAt _ _ _ _ _ _ e1) (Nat.le_of_ble_eq_true rfl) dX7_place_120 ?_
      obtain ⟨hi, v123, ev123, e⟩ := rA_some e
      refine at_iald hX (o := 40) (by decide) rfl hi dX7_place_123 ?_
      refine at_ti ev123 ?_
      refine at_if_lt hX (tgt := 134) (by decide) dX7_place_124 (fun c124 => ?_) (fun c124 => ?_)
      · replace e := ip_ c124 e
        refine at_iinc hX hn (by decide) rfl (v := 1) (by decide) dX7_place_134 ?_
        refine at_goto hX (tgt := 98) (by decide) dX7_place_137 ?_
        exact at_sub [0, 1, 2, 3, 4, 5, 6, 7, 8, 9, 10] rfl (ih _ _ _ _ _ _ _ _ _ _ _ e)
      · replace e := in_ c124 e
        refine at_aload_n hX rfl rfl dX7_place_127 ?_
        refine at_bipush hX (v := -3) (by decide) dX7_place_128 ?_
        obtain ⟨⟨v130, h130⟩, e1, e⟩ := ob_some e
        refine at_callV1 hX cv_X7_106 (by decide) (c_X7_refuse _ _ _ _ e1) (Nat.le_of_ble_eq_true rfl) dX7_place_130 ?_
        exact at_ireturn hX hR rfl (by cases e; rfl) (by cases e; rfl) dX7_place_133
def F_X7_place_88 (n : Nat) (k146 : Int32 → Int32 → Int32 → Int32 → Int32 → Int32 → Hp → Option (Int32 × Hp)) (x1 : Int32) (x2 : Int32) (x3 : Int32) (x4 : Int32) (x5 : Int32) (x6 : Int32) (x7 : Int32) (x8 : Int32) (x9 : Int32) (h : Hp) : Option (Int32 × Hp) := match n with
  | 0 => none
  | n + 1 => if x7 ≤ x9 then k146 x1 x2 x3 x4 x5 x6 h else (F_X7_place_98 FU_ (F_X7_place_140 (F_X7_place_88 n k146))) x1 x2 x3 x4 x5 x6 x7 x8 x9 (0 : Int32) h
theorem A_X7_place_88 {X : CX} {h' : Hp} {r : Int32} (hn : (xc_ X).maxLocals = 11) (hX : Ok_ X RX7 cX7_place 4) (hR : Rt_ X (some .int) (some (.int r)) h') (k146 : Int32 → Int32 → Int32 → Int32 → Int32 → Int32 → Hp → Option (Int32 × Hp)) (hk146 : ∀ (x1 : Int32) (x2 : Int32) (x3 : Int32) (x4 : Int32) (x5 : Int32) (x6 : Int32) (h : Hp), k146 x1 x2 x3 x4 x5 x6 h = some (r, h') → At_ X 146 [(0, .ref 7), (1, .int x1), (2, .int x2), (3, .int x3), (4, .int x4), (5, .int x5), (6, .int x6)] [] h) : ∀ (n : Nat) (x1 : Int32) (x2 : Int32) (x3 : Int32) (x4 : Int32) (x5 : Int32) (x6 : Int32) (x7 : Int32) (x8 : Int32) (x9 : Int32) (h : Hp), F_X7_place_88 n k146 x1 x2 x3 x4 x5 x6 x7 x8 x9 h = some (r, h') → At_ X 88 [(0, .ref 7), (1, .int x1), (2, .int x2), (3, .int x3), (4, .int x4), (5, .int x5), (6, .int x6), (7, .int x7), (8, .int x8), (9, .int x9)] [] h := by
  intro n
  induction n with
  | zero => intro x1 x2 x3 x4 x5 x6 x7 x8 x9 h e; cases e
  | succ n ih =>
    intro x1 x2 x3 x4 x5 x6 x7 x8 x9 h e
    rw [F_X7_place_88] at e
    refine at_iload hX rfl dX7_place_88 ?_
    refine at_iload hX rfl dX7_place_90 ?_
    refine at_icmp_ge hX (tgt := 146) (by decide) dX7_place_92 (fun c92 => ?_) (fun c92 => ?_)
    · replace e := ip_ c92 e
      exact at_sub [0, 1, 2, 3, 4, 5, 6] rfl (hk146 _ _ _ _ _ _ _ e)
    · replace e := in_ c92 e
      refine at_iconst hX (v := 0) (by decide) dX7_place_95 ?_
      refine at_istore hX hn (by decide) dX7_place_96 ?_
      exact at_sub [0, 1, 2, 3, 4, 5, 6, 7, 8, 9, 10] rfl ((A_X7_place_98 hn hX hR (F_X7_place_140 (F_X7_place_88 n k146)) (A_X7_place_140 hn hX hR (F_X7_place_88 n k146) ih) FU_) _ _ _ _ _ _ _ _ _ _ _ e)
def F_X7_place (x1 : Int32) (x2 : Int32) (x3 : Int32) (x4 : Int32) (x5 : Int32) (x6 : Int32) (h : Hp) : Option (Int32 × Hp) := (F_X7_isIn x1 (7 : Int32)).bind fun v3 => if v3 = (0 : Int32) then (F_X7_refuse (-1 : Int32) h).bind fun ((v41, h41) : Int32 × Hp) => some (v41, h41) else (F_X7_isIn x2 (2 : Int32)).bind fun v11 => if v11 = (0 : Int32) then (F_X7_refuse (-1 : Int32) h).bind fun ((v41, h41) : Int32 × Hp) => some (v41, h41) else (F_X7_isIn (x6 - (1 : Int32)) (5 : Int32)).bind fun v22 => if v22 = (0 : Int32) then (F_X7_refuse (-1 : Int32) h).bind fun ((v41, h41) : Int32 × Hp) => some (v41, h41) else (F_X7_isCell x3 x4 x5).bind fun v33 => if v33 = (0 : Int32) then (F_X7_refuse (-1 : Int32) h).bind fun ((v41, h41) : Int32 × Hp) => some (v41, h41) else (F_X7_lengthX x1 x2 h).bind fun v47 => (F_X7_lengthY x1 x2 h).bind fun v54 => if (6 : Int32) < x3 + v47 then (F_X7_refuse (-6 : Int32) h).bind fun ((v81, h81) : Int32 × Hp) => some (v81, h81) else if x4 + v54 ≤ (6 : Int32) then (F_X7_place_88 FU_ F_X7_place_146) x1 x2 x3 x4 x5 x6 v47 v54 (0 : Int32) h else (F_X7_refuse (-6 : Int32) h).bind fun ((v81, h81) : Int32 × Hp) => some (v81, h81)
theorem c_X7_place (l : Launch) (G : Gl) (x1 : Int32) (x2 : Int32) (x3 : Int32) (x4 : Int32) (x5 : Int32) (x6 : Int32) (h : Hp) {r : Int32} {h' : Hp} (e : F_X7_place x1 x2 x3 x4 x5 x6 h = some (r, h')) : Does l G 4 M_X7_place [.ref 7, .int x1, .int x2, .int x3, .int x4, .int x5, .int x6] h (some (.int r)) h' := by
  refine Does.of (by decide) rfl (Nat.le_of_ble_eq_true rfl) (fun X hl hG hn hX hR => ?_)
  unfold F_X7_place at e
  subst hl; subst hG
  show At_ X 0 [(0, .ref 7), (1, .int x1), (2, .int x2), (3, .int x3), (4, .int x4), (5, .int x5), (6, .int x6)] [] h
  refine at_iload_n hX rfl rfl dX7_place_0 ?_
  refine at_bipush hX (v := 7) (by decide) dX7_place_1 ?_
  obtain ⟨v3, e1, e⟩ := ob_some e
  refine at_callS2 hX cv_X7_98 (by decide) (c_X7_isIn _ _ _ _ _ e1) (Nat.le_of_ble_eq_true rfl) dX7_place_3 ?_
  refine at_if_eq hX (tgt := 39) (by decide) dX7_place_6 (fun c6 => ?_) (fun c6 => ?_)
  · replace e := ip_ c6 e
    refine at_aload_n hX rfl rfl dX7_place_39 ?_
    refine at_iconst hX (v := -1) (by decide) dX7_place_40 ?_
    obtain ⟨⟨v41, h41⟩, e1, e⟩ := ob_some e
    refine at_callV1 hX cv_X7_106 (by decide) (c_X7_refuse _ _ _ _ e1) (Nat.le_of_ble_eq_true rfl) dX7_place_41 ?_
    exact at_ireturn hX hR rfl (by cases e; rfl) (by cases e; rfl) dX7_place_44
  · replace e := in_ c6 e
    refine at_iload_n hX rfl rfl dX7_place_9 ?_
    refine at_iconst hX (v := 2) (by decide) dX7_place_10 ?_
    obtain ⟨v11, e1, e⟩ := ob_some e
    refine at_callS2 hX cv_X7_98 (by decide) (c_X7_isIn _ _ _ _ _ e1) (Nat.le_of_ble_eq_true rfl) dX7_place_11 ?_
    refine at_if_eq hX (tgt := 39) (by decide) dX7_place_14 (fun c14 => ?_) (fun c14 => ?_)
    · replace e := ip_ c14 e
      refine at_aload_n hX rfl rfl dX7_place_39 ?_
      refine at_iconst hX (v := -1) (by decide) dX7_place_40 ?_
      obtain ⟨⟨v41, h41⟩, e1, e⟩ := ob_some e
      refine at_callV1 hX cv_X7_106 (by decide) (c_X7_refuse _ _ _ _ e1) (Nat.le_of_ble_eq_true rfl) dX7_place_41 ?_
      exact at_ireturn hX hR rfl (by cases e; rfl) (by cases e; rfl) dX7_place_44
    · replace e := in_ c14 e
      refine at_iload hX rfl dX7_place_17 ?_
      refine at_iconst hX (v := 1) (by decide) dX7_place_19 ?_
      refine at_isub hX dX7_place_20 ?_
      refine at_iconst hX (v := 5) (by decide) dX7_place_21 ?_
      obtain ⟨v22, e1, e⟩ := ob_some e
      refine at_callS2 hX cv_X7_98 (by decide) (c_X7_isIn _ _ _ _ _ e1) (Nat.le_of_ble_eq_true rfl) dX7_place_22 ?_
      refine at_if_eq hX (tgt := 39) (by decide) dX7_place_25 (fun c25 => ?_) (fun c25 => ?_)
      · replace e := ip_ c25 e
        refine at_aload_n hX rfl rfl dX7_place_39 ?_
        refine at_iconst hX (v := -1) (by decide) dX7_place_40 ?_
        obtain ⟨⟨v41, h41⟩, e1, e⟩ := ob_some e
        refine at_callV1 hX cv_X7_106 (by decide) (c_X7_refuse _ _ _ _ e1) (Nat.le_of_ble_eq_true rfl) dX7_place_41 ?_
        exact at_ireturn hX hR rfl (by cases e; rfl) (by cases e; rfl) dX7_place_44
      · replace e := in_ c25 e
        refine at_iload_n hX rfl rfl dX7_place_28 ?_
        refine at_iload hX rfl dX7_place_29 ?_
        refine at_iload hX rfl dX7_place_31 ?_
        obtain ⟨v33, e1, e⟩ := ob_some e
        refine at_callS3 hX cv_X7_102 (by decide) (c_X7_isCell _ _ _ _ _ _ e1) (Nat.le_of_ble_eq_true rfl) dX7_place_33 ?_
        refine at_if_ne hX (tgt := 45) (by decide) dX7_place_36 (fun c36 => ?_) (fun c36 => ?_)
        · replace e := in_ c36 e
          refine at_iload_n hX rfl rfl dX7_place_45 ?_
          refine at_iload_n hX rfl rfl dX7_place_46 ?_
          obtain ⟨v47, e1, e⟩ := ob_some e
          refine at_callS2 hX cv_X7_130 (by decide) (c_X7_lengthX _ _ _ _ _ e1) (Nat.le_of_ble_eq_true rfl) dX7_place_47 ?_
          refine at_istore hX hn (by decide) dX7_place_50 ?_
          refine at_iload_n hX rfl rfl dX7_place_52 ?_
          refine at_iload_n hX rfl rfl dX7_place_53 ?_
          obtain ⟨v54, e1, e⟩ := ob_some e
          refine at_callS2 hX cv_X7_126 (by decide) (c_X7_lengthY _ _ _ _ _ e1) (Nat.le_of_ble_eq_true rfl) dX7_place_54 ?_
          refine at_istore hX hn (by decide) dX7_place_57 ?_
          refine at_iload_n hX rfl rfl dX7_place_59 ?_
          refine at_iload hX rfl dX7_place_60 ?_
          refine at_iadd hX dX7_place_62 ?_
          refine at_bipush hX (v := 6) (by decide) dX7_place_63 ?_
          refine at_icmp_gt hX (tgt := 78) (by decide) dX7_place_65 (fun c65 => ?_) (fun c65 => ?_)
          · replace e := ip_ c65 e
            refine at_aload_n hX rfl rfl dX7_place_78 ?_
            refine at_bipush hX (v := -6) (by decide) dX7_place_79 ?_
            obtain ⟨⟨v81, h81⟩, e1, e⟩ := ob_some e
            refine at_callV1 hX cv_X7_106 (by decide) (c_X7_refuse _ _ _ _ e1) (Nat.le_of_ble_eq_true rfl) dX7_place_81 ?_
            exact at_ireturn hX hR rfl (by cases e; rfl) (by cases e; rfl) dX7_place_84
          · replace e := in_ c65 e
            refine at_iload hX rfl dX7_place_68 ?_
            refine at_iload hX rfl dX7_place_70 ?_
            refine at_iadd hX dX7_place_72 ?_
            refine at_bipush hX (v := 6) (by decide) dX7_place_73 ?_
            refine at_icmp_le hX (tgt := 85) (by decide) dX7_place_75 (fun c75 => ?_) (fun c75 => ?_)
            · replace e := ip_ c75 e
              refine at_iconst hX (v := 0) (by decide) dX7_place_85 ?_
              refine at_istore hX hn (by decide) dX7_place_86 ?_
              exact at_sub [0, 1, 2, 3, 4, 5, 6, 7, 8, 9] rfl ((A_X7_place_88 hn hX hR F_X7_place_146 (A_X7_place_146 hn hX hR) FU_) _ _ _ _ _ _ _ _ _ _ e)
            · replace e := in_ c75 e
              refine at_aload_n hX rfl rfl dX7_place_78 ?_
              refine at_bipush hX (v := -6) (by decide) dX7_place_79 ?_
              obtain ⟨⟨v81, h81⟩, e1, e⟩ := ob_some e
              refine at_callV1 hX cv_X7_106 (by decide) (c_X7_refuse _ _ _ _ e1) (Nat.le_of_ble_eq_true rfl) dX7_place_81 ?_
              exact at_ireturn hX hR rfl (by cases e; rfl) (by cases e; rfl) dX7_place_84
        · replace e := ip_ c36 e
          refine at_aload_n hX rfl rfl dX7_place_39 ?_
          refine at_iconst hX (v := -1) (by decide) dX7_place_40 ?_
          obtain ⟨⟨v41, h41⟩, e1, e⟩ := ob_some e
          refine at_callV1 hX cv_X7_106 (by decide) (c_X7_refuse _ _ _ _ e1) (Nat.le_of_ble_eq_true rfl) dX7_place_41 ?_
          exact at_ireturn hX hR rfl (by cases e; rfl) (by cases e; rfl) dX7_place_44

def F_X7_isBrick (x1 : Int32) (h : Hp) : Option Int32 := (F_X7_isIn x1 (gI_ h 458)).bind fun v5 => bz_ v5 fun z8 => some z8
theorem c_X7_isBrick (l : Launch) (G : Gl) (x1 : Int32) (h : Hp) {r : Int32} (e : F_X7_isBrick x1 h = some r) : Does l G 2 M_X7_isBrick [.ref 7, .int x1] h (some (.int r)) h := by
  refine Does.of (by decide) rfl (Nat.le_of_ble_eq_true rfl) (fun X hl hG hn hX hR => ?_)
  unfold F_X7_isBrick at e
  subst hl; subst hG
  show At_ X 0 [(0, .ref 7), (1, .int x1)] [] h
  refine at_iload_n hX rfl rfl dX7_isBrick_0 ?_
  refine at_aload_n hX rfl rfl dX7_isBrick_1 ?_
  refine gf_X7_133 hX dX7_isBrick_2 ?_
  obtain ⟨v5, e1, e⟩ := ob_some e
  refine at_callS2 hX cv_X7_98 (by decide) (c_X7_isIn _ _ _ _ _ e1) (Nat.le_of_ble_eq_true rfl) dX7_isBrick_5 ?_
  obtain ⟨hz, z8, ez8, e⟩ := bz_some e
  refine at_ti ez8 ?_
  exact at_ireturn hX hR (bz_nar hz ez8) (by cases e; rfl) rfl dX7_isBrick_8

def F_X7_isThere (x1 : Int32) (h : Hp) : Option Int32 := if (la_ (gJ_ h 460) x1) &&& (1 : Int64) = (1 : Int64) then some (1 : Int32) else some (0 : Int32)
theorem c_X7_isThere (l : Launch) (G : Gl) (x1 : Int32) (h : Hp) {r : Int32} (e : F_X7_isThere x1 h = some r) : Does l G 1 M_X7_isThere [.ref 7, .int x1] h (some (.int r)) h := by
  refine Does.of (by decide) rfl (Nat.le_of_ble_eq_true rfl) (fun X hl hG hn hX hR => ?_)
  unfold F_X7_isThere at e
  subst hl; subst hG
  show At_ X 0 [(0, .ref 7), (1, .int x1)] [] h
  refine at_aload_n hX rfl rfl dX7_isThere_0 ?_
  refine gf_X7_140 hX dX7_isThere_1 ?_
  refine at_iload_n hX rfl rfl dX7_isThere_4 ?_
  refine at_lshr hX dX7_isThere_5 ?_
  refine at_lconst hX (v := 1) (by decide) dX7_isThere_6 ?_
  refine at_land hX dX7_isThere_7 ?_
  refine at_lconst hX (v := 1) (by decide) dX7_isThere_8 ?_
  refine at_lcmp_ne hX (tgt := 17) (by decide) dX7_isThere_9 dX7_isThere_10 (fun c9 => ?_) (fun c9 => ?_)
  · replace e := in_ c9 e
    refine at_iconst hX (v := 0) (by decide) dX7_isThere_17 ?_
    exact at_ireturn hX hR rfl (by cases e; rfl) rfl dX7_isThere_18
  · replace e := ip_ c9 e
    refine at_iconst hX (v := 1) (by decide) dX7_isThere_13 ?_
    refine at_goto hX (tgt := 18) (by decide) dX7_isThere_14 ?_
    exact at_ireturn hX hR rfl (by cases e; rfl) rfl dX7_isThere_18

def F_X7_take (x1 : Int32) (h : Hp) : Option (Int32 × Hp) := (F_X7_isBrick x1 h).bind fun v2 => if v2 = (0 : Int32) then (F_X7_refuse (-1 : Int32) h).bind fun ((v10, h10) : Int32 × Hp) => some (v10, h10) else (F_X7_isThere x1 h).bind fun v16 => if v16 = (0 : Int32) then (F_X7_refuse (-3 : Int32) h).bind fun ((v25, h25) : Int32 × Hp) => some (v25, h25) else (F_X7_fills x1 (-9 : Int32) h).bind fun h33 => bd_ (sJ_ h33 460 ((gJ_ h33 460) &&& ((ls_ (1 : Int64) x1) ^^^ (-1 : Int64)))) fun h49 => some ((1 : Int32), h49)
theorem c_X7_take (l : Launch) (G : Gl) (x1 : Int32) (h : Hp) {r : Int32} {h' : Hp} (e : F_X7_take x1 h = some (r, h')) : Does l G 3 M_X7_take [.ref 7, .int x1] h (some (.int r)) h' := by
  refine Does.of (by decide) rfl (Nat.le_of_ble_eq_true rfl) (fun X hl hG hn hX hR => ?_)
  unfold F_X7_take at e
  subst hl; subst hG
  show At_ X 0 [(0, .ref 7), (1, .int x1)] [] h
  refine at_aload_n hX rfl rfl dX7_take_0 ?_
  refine at_iload_n hX rfl rfl dX7_take_1 ?_
  obtain ⟨v2, e1, e⟩ := ob_some e
  refine at_callV1 hX cv_X7_148 (by decide) (c_X7_isBrick _ _ _ _ e1) (Nat.le_of_ble_eq_true rfl) dX7_take_2 ?_
  refine at_if_ne hX (tgt := 14) (by decide) dX7_take_5 (fun c5 => ?_) (fun c5 => ?_)
  · replace e := in_ c5 e
    refine at_aload_n hX rfl rfl dX7_take_14 ?_
    refine at_iload_n hX rfl rfl dX7_take_15 ?_
    obtain ⟨v16, e1, e⟩ := ob_some e
    refine at_callV1 hX cv_X7_152 (by decide) (c_X7_isThere _ _ _ _ e1) (Nat.le_of_ble_eq_true rfl) dX7_take_16 ?_
    refine at_if_ne hX (tgt := 29) (by decide) dX7_take_19 (fun c19 => ?_) (fun c19 => ?_)
    · replace e := in_ c19 e
      refine at_aload_n hX rfl rfl dX7_take_29 ?_
      refine at_iload_n hX rfl rfl dX7_take_30 ?_
      refine at_bipush hX (v := -9) (by decide) dX7_take_31 ?_
      obtain ⟨h33, e1, e⟩ := ob_some e
      refine at_callV2 hX cv_X7_136 (by decide) (c_X7_fills _ _ _ _ _ e1) (Nat.le_of_ble_eq_true rfl) dX7_take_33 ?_
      refine at_aload_n hX rfl rfl dX7_take_36 ?_
      refine at_dup hX rfl dX7_take_37 ?_
      refine gf_X7_140 hX dX7_take_38 ?_
      refine at_lconst hX (v := 1) (by decide) dX7_take_41 ?_
      refine at_iload_n hX rfl rfl dX7_take_42 ?_
      refine at_lshl hX dX7_take_43 ?_
      refine at_ldc2 hX wk_X7_155 dX7_take_44 ?_
      refine at_lxor hX dX7_take_47 ?_
      refine at_land hX dX7_take_48 ?_
      obtain ⟨h49, eh49, e⟩ := bd_some e
      refine pf_X7_140 hX dX7_take_49 ?_
      refine at_th eh49 ?_
      refine at_iconst hX (v := 1) (by decide) dX7_take_52 ?_
      exact at_ireturn hX hR rfl (by cases e; rfl) (by cases e; rfl) dX7_take_53
    · replace e := ip_ c19 e
      refine at_aload_n hX rfl rfl dX7_take_22 ?_
      refine at_bipush hX (v := -3) (by decide) dX7_take_23 ?_
      obtain ⟨⟨v25, h25⟩, e1, e⟩ := ob_some e
      refine at_callV1 hX cv_X7_106 (by decide) (c_X7_refuse _ _ _ _ e1) (Nat.le_of_ble_eq_true rfl) dX7_take_25 ?_
      exact at_ireturn hX hR rfl (by cases e; rfl) (by cases e; rfl) dX7_take_28
  · replace e := ip_ c5 e
    refine at_aload_n hX rfl rfl dX7_take_8 ?_
    refine at_iconst hX (v := -1) (by decide) dX7_take_9 ?_
    obtain ⟨⟨v10, h10⟩, e1, e⟩ := ob_some e
    refine at_callV1 hX cv_X7_106 (by decide) (c_X7_refuse _ _ _ _ e1) (Nat.le_of_ble_eq_true rfl) dX7_take_10 ?_
    exact at_ireturn hX hR rfl (by cases e; rfl) (by cases e; rfl) dX7_take_13

def F_X7_at (x1 : Int32) (x2 : Int32) (x3 : Int32) (h : Hp) : Option (Int32 × Hp) := (F_X7_isCell x1 x2 x3).bind fun v3 => if v3 = (0 : Int32) then (F_X7_refuse (-1 : Int32) h).bind fun ((v25, h25) : Int32 × Hp) => some (v25, h25) else (F_X7_cellAt x1 x2 x3).bind fun v16 => rA_ h 40 180 v16 fun v19 => some (v19, h)
theorem c_X7_at (l : Launch) (G : Gl) (x1 : Int32) (x2 : Int32) (x3 : Int32) (h : Hp) {r : Int32} {h' : Hp} (e : F_X7_at x1 x2 x3 h = some (r, h')) : Does l G 3 M_X7_at [.ref 7, .int x1, .int x2, .int x3] h (some (.int r)) h' := by
  refine Does.of (by decide) rfl (Nat.le_of_ble_eq_true rfl) (fun X hl hG hn hX hR => ?_)
  unfold F_X7_at at e
  subst hl; subst hG
  show At_ X 0 [(0, .ref 7), (1, .int x1), (2, .int x2), (3, .int x3)] [] h
  refine at_iload_n hX rfl rfl dX7_at_0 ?_
  refine at_iload_n hX rfl rfl dX7_at_1 ?_
  refine at_iload_n hX rfl rfl dX7_at_2 ?_
  obtain ⟨v3, e1, e⟩ := ob_some e
  refine at_callS3 hX cv_X7_102 (by decide) (c_X7_isCell _ _ _ _ _ _ e1) (Nat.le_of_ble_eq_true rfl) dX7_at_3 ?_
  refine at_if_eq hX (tgt := 23) (by decide) dX7_at_6 (fun c6 => ?_) (fun c6 => ?_)
  · replace e := ip_ c6 e
    refine at_aload_n hX rfl rfl dX7_at_23 ?_
    refine at_iconst hX (v := -1) (by decide) dX7_at_24 ?_
    obtain ⟨⟨v25, h25⟩, e1, e⟩ := ob_some e
    refine at_callV1 hX cv_X7_106 (by decide) (c_X7_refuse _ _ _ _ e1) (Nat.le_of_ble_eq_true rfl) dX7_at_25 ?_
    exact at_ireturn hX hR rfl (by cases e; rfl) (by cases e; rfl) dX7_at_28
  · replace e := in_ c6 e
    refine at_aload_n hX rfl rfl dX7_at_9 ?_
    refine gf_X7_16 hX dX7_at_10 ?_
    refine at_iload_n hX rfl rfl dX7_at_13 ?_
    refine at_iload_n hX rfl rfl dX7_at_14 ?_
    refine at_iload_n hX rfl rfl dX7_at_15 ?_
    obtain ⟨v16, e1, e⟩ := ob_some e
    refine at_callS3 hX cv_X7_110 (by decide) (c_X7_cellAt _ _ _ _ _ _ e1) (Nat.le_of_ble_eq_true rfl) dX7_at_16 ?_
    obtain ⟨hi, v19, ev19, e⟩ := rA_some e
    refine at_iald hX (o := 40) (by decide) rfl hi dX7_at_19 ?_
    refine at_ti ev19 ?_
    refine at_goto hX (tgt := 28) (by decide) dX7_at_20 ?_
    exact at_ireturn hX hR rfl (by cases e; rfl) (by cases e; rfl) dX7_at_28

def F_X7_studsOf (x1 : Int32) (x2 : Int32) (h : Hp) : Option Int32 := rA_ h 46 40 x1 fun v5 => rA_ h 46 40 x2 fun v11 => if ab_ (v5 - v11) = (1 : Int32) then rA_ h 44 40 x1 fun v27 => rA_ h 42 40 x1 fun v33 => rA_ h 43 40 x1 fun v39 => (F_X7_lengthX v33 v39 h).bind fun v40 => rA_ h 44 40 x2 fun v49 => rA_ h 42 40 x2 fun v55 => rA_ h 43 40 x2 fun v61 => (F_X7_lengthX v55 v61 h).bind fun v62 => rA_ h 44 40 x1 fun v74 => rA_ h 44 40 x2 fun v80 => bd_ ((mn_ (v27 + v40) (v49 + v62)) - (mx_ v74 v80)) fun y85 => rA_ h 45 40 x1 fun v91 => rA_ h 42 40 x1 fun v97 => rA_ h 43 40 x1 fun v103 => (F_X7_lengthY v97 v103 h).bind fun v104 => rA_ h 45 40 x2 fun v113 => rA_ h 42 40 x2 fun v119 => rA_ h 43 40 x2 fun v125 => (F_X7_lengthY v119 v125 h).bind fun v126 => rA_ h 45 40 x1 fun v138 => rA_ h 45 40 x2 fun v144 => bd_ ((mn_ (v91 + v104) (v113 + v126)) - (mx_ v138 v144)) fun y149 => if y85 ≤ (0 : Int32) then some (0 : Int32) else if y149 ≤ (0 : Int32) then some (0 : Int32) else some (y85 * y149) else some (0 : Int32)
theorem c_X7_studsOf (l : Launch) (G : Gl) (x1 : Int32) (x2 : Int32) (h : Hp) {r : Int32} (e : F_X7_studsOf x1 x2 h = some r) : Does l G 2 M_X7_studsOf [.ref 7, .int x1, .int x2] h (some (.int r)) h := by
  refine Does.of (by decide) rfl (Nat.le_of_ble_eq_true rfl) (fun X hl hG hn hX hR => ?_)
  unfold F_X7_studsOf at e
  subst hl; subst hG
  show At_ X 0 [(0, .ref 7), (1, .int x1), (2, .int x2)] [] h
  refine at_aload_n hX rfl rfl dX7_studsOf_0 ?_
  refine gf_X7_34 hX dX7_studsOf_1 ?_
  refine at_iload_n hX rfl rfl dX7_studsOf_4 ?_
  obtain ⟨hi, v5, ev5, e⟩ := rA_some e
  refine at_iald hX (o := 46) (by decide) rfl hi dX7_studsOf_5 ?_
  refine at_ti ev5 ?_
  refine at_aload_n hX rfl rfl dX7_studsOf_6 ?_
  refine gf_X7_34 hX dX7_studsOf_7 ?_
  refine at_iload_n hX rfl rfl dX7_studsOf_10 ?_
  obtain ⟨hi, v11, ev11, e⟩ := rA_some e
  refine at_iald hX (o := 46) (by decide) rfl hi dX7_studsOf_11 ?_
  refine at_ti ev11 ?_
  refine at_isub hX dX7_studsOf_12 ?_
  refine at_mabs hX cv_X7_157 (by decide) (Nat.le_of_ble_eq_true rfl) dX7_studsOf_13 ?_
  refine at_iconst hX (v := 1) (by decide) dX7_studsOf_16 ?_
  refine at_icmp_eq hX (tgt := 22) (by decide) dX7_studsOf_17 (fun c17 => ?_) (fun c17 => ?_)
  · replace e := ip_ c17 e
    refine at_aload_n hX rfl rfl dX7_studsOf_22 ?_
    refine gf_X7_28 hX dX7_studsOf_23 ?_
    refine at_iload_n hX rfl rfl dX7_studsOf_26 ?_
    obtain ⟨hi, v27, ev27, e⟩ := rA_some e
    refine at_iald hX (o := 44) (by decide) rfl hi dX7_studsOf_27 ?_
    refine at_ti ev27 ?_
    refine at_aload_n hX rfl rfl dX7_studsOf_28 ?_
    refine gf_X7_22 hX dX7_studsOf_29 ?_
    refine at_iload_n hX rfl rfl dX7_studsOf_32 ?_
    obtain ⟨hi, v33, ev33, e⟩ := rA_some e
    refine at_iald hX (o := 42) (by decide) rfl hi dX7_studsOf_33 ?_
    refine at_ti ev33 ?_
    refine at_aload_n hX rfl rfl dX7_studsOf_34 ?_
    refine gf_X7_25 hX dX7_studsOf_35 ?_
    refine at_iload_n hX rfl rfl dX7_studsOf_38 ?_
    obtain ⟨hi, v39, ev39, e⟩ := rA_some e
    refine at_iald hX (o := 43) (by decide) rfl hi dX7_studsOf_39 ?_
    refine at_ti ev39 ?_
    obtain ⟨v40, e1, e⟩ := ob_some e
    refine at_callS2 hX cv_X7_130 (by decide) (c_X7_lengthX _ _ _ _ _ e1) (Nat.le_of_ble_eq_true rfl) dX7_studsOf_40 ?_
    refine at_iadd hX dX7_studsOf_43 ?_
    refine at_aload_n hX rfl rfl dX7_studsOf_44 ?_
    refine gf_X7_28 hX dX7_studsOf_45 ?_
    refine at_iload_n hX rfl rfl dX7_studsOf_48 ?_
    obtain ⟨hi, v49, ev49, e⟩ := rA_some e
    refine at_iald hX (o := 44) (by decide) rfl hi dX7_studsOf_49 ?_
    refine at_ti ev49 ?_
    refine at_aload_n hX rfl rfl dX7_studsOf_50 ?_
    refine gf_X7_22 hX dX7_studsOf_51 ?_
    refine at_iload_n hX rfl rfl dX7_studsOf_54 ?_
    obtain ⟨hi, v55, ev55, e⟩ := rA_some e
    refine at_iald hX (o := 42) (by decide) rfl hi dX7_studsOf_55 ?_
    refine at_ti ev55 ?_
    refine at_aload_n hX rfl rfl dX7_studsOf_56 ?_
    refine gf_X7_25 hX dX7_studsOf_57 ?_
    refine at_iload_n hX rfl rfl dX7_studsOf_60 ?_
    obtain ⟨hi, v61, ev61, e⟩ := rA_some e
    refine at_iald hX (o := 43) (by decide) rfl hi dX7_studsOf_61 ?_
    refine at_ti ev61 ?_
    obtain ⟨v62, e1, e⟩ := ob_some e
    refine at_callS2 hX cv_X7_130 (by decide) (c_X7_lengthX _ _ _ _ _ e1) (Nat.le_of_ble_eq_true rfl) dX7_studsOf_62 ?_
    refine at_iadd hX dX7_studsOf_65 ?_
    refine at_mmin hX cv_X7_162 (by decide) (Nat.le_of_ble_eq_true rfl) dX7_studsOf_66 ?_
    refine at_aload_n hX rfl rfl dX7_studsOf_69 ?_
    refine gf_X7_28 hX dX7_studsOf_70 ?_
    refine at_iload_n hX rfl rfl dX7_studsOf_73 ?_
    obtain ⟨hi, v74, ev74, e⟩ := rA_some e
    refine at_iald hX (o := 44) (by decide) rfl hi dX7_studsOf_74 ?_
    refine at_ti ev74 ?_
    refine at_aload_n hX rfl rfl dX7_studsOf_75 ?_
    refine gf_X7_28 hX dX7_studsOf_76 ?_
    refine at_iload_n hX rfl rfl dX7_studsOf_79 ?_
    obtain ⟨hi, v80, ev80, e⟩ := rA_some e
    refine at_iald hX (o := 44) (by decide) rfl hi dX7_studsOf_80 ?_
    refine at_ti ev80 ?_
    refine at_mmax hX cv_X7_165 (by decide) (Nat.le_of_ble_eq_true rfl) dX7_studsOf_81 ?_
    refine at_isub hX dX7_studsOf_84 ?_
    obtain ⟨y85, ey85, e⟩ := bd_some e
    refine at_ti ey85 ?_
    refine at_istore_n hX rfl hn (by decide) dX7_studsOf_85 ?_
    refine at_aload_n hX rfl rfl dX7_studsOf_86 ?_
    refine gf_X7_31 hX dX7_studsOf_87 ?_
    refine at_iload_n hX rfl rfl dX7_studsOf_90 ?_
    obtain ⟨hi, v91, ev91, e⟩ := rA_some e
    refine at_iald hX (o := 45) (by decide) rfl hi dX7_studsOf_91 ?_
    refine at_ti ev91 ?_
    refine at_aload_n hX rfl rfl dX7_studsOf_92 ?_
    refine gf_X7_22 hX dX7_studsOf_93 ?_
    refine at_iload_n hX rfl rfl dX7_studsOf_96 ?_
    obtain ⟨hi, v97, ev97, e⟩ := rA_some e
    refine at_iald hX (o := 42) (by decide) rfl hi dX7_studsOf_97 ?_
    refine at_ti ev97 ?_
    refine at_aload_n hX rfl rfl dX7_studsOf_98 ?_
    refine gf_X7_25 hX dX7_studsOf_99 ?_
    refine at_iload_n hX rfl rfl dX7_studsOf_102 ?_
    obtain ⟨hi, v103, ev103, e⟩ := rA_some e
    refine at_iald hX (o := 43) (by decide) rfl hi dX7_studsOf_103 ?_
    refine at_ti ev103 ?_
    obtain ⟨v104, e1, e⟩ := ob_some e
    refine at_callS2 hX cv_X7_126 (by decide) (c_X7_lengthY _ _ _ _ _ e1) (Nat.le_of_ble_eq_true rfl) dX7_studsOf_104 ?_
    refine at_iadd hX dX7_studsOf_107 ?_
    refine at_aload_n hX rfl rfl dX7_studsOf_108 ?_
    refine gf_X7_31 hX dX7_studsOf_109 ?_
    refine at_iload_n hX rfl rfl dX7_studsOf_112 ?_
    obtain ⟨hi, v113, ev113, e⟩ := rA_some e
    refine at_iald hX (o := 45) (by decide) rfl hi dX7_studsOf_113 ?_
    refine at_ti ev113 ?_
    refine at_aload_n hX rfl rfl dX7_studsOf_114 ?_
    refine gf_X7_22 hX dX7_studsOf_115 ?_
    refine at_iload_n hX rfl rfl dX7_studsOf_118 ?_
    obtain ⟨hi, v119, ev119, e⟩ := rA_some e
    refine at_iald hX (o := 42) (by decide) rfl hi dX7_studsOf_119 ?_
    refine at_ti ev119 ?_
    refine at_aload_n hX rfl rfl dX7_studsOf_120 ?_
    refine gf_X7_25 hX dX7_studsOf_121 ?_
    refine at_iload_n hX rfl rfl dX7_studsOf_124 ?_
    obtain ⟨hi, v125, ev125, e⟩ := rA_some e
    refine at_iald hX (o := 43) (by decide) rfl hi dX7_studsOf_125 ?_
    refine at_ti ev125 ?_
    obtain ⟨v126, e1, e⟩ := ob_some e
    refine at_callS2 hX cv_X7_126 (by decide) (c_X7_lengthY _ _ _ _ _ e1) (Nat.le_of_ble_eq_true rfl) dX7_studsOf_126 ?_
    refine at_iadd hX dX7_studsOf_129 ?_
    refine at_mmin hX cv_X7_162 (by decide) (Nat.le_of_ble_eq_true rfl) dX7_studsOf_130 ?_
    refine at_aload_n hX rfl rfl dX7_studsOf_133 ?_
    refine gf_X7_31 hX dX7_studsOf_134 ?_
    refine at_iload_n hX rfl rfl dX7_studsOf_137 ?_
    obtain ⟨hi, v138, ev138, e⟩ := rA_some e
    refine at_iald hX (o := 45) (by decide) rfl hi dX7_studsOf_138 ?_
    refine at_ti ev138 ?_
    refine at_aload_n hX rfl rfl dX7_studsOf_139 ?_
    refine gf_X7_31 hX dX7_studsOf_140 ?_
    refine at_iload_n hX rfl rfl dX7_studsOf_143 ?_
    obtain ⟨hi, v144, ev144, e⟩ := rA_some e
    refine at_iald hX (o := 45) (by decide) rfl hi dX7_studsOf_144 ?_
    refine at_ti ev144 ?_
    refine at_mmax hX cv_X7_165 (by decide) (Nat.le_of_ble_eq_true rfl) dX7_studsOf_145 ?_
    refine at_isub hX dX7_studsOf_148 ?_
    obtain ⟨y149, ey149, e⟩ := bd_some e
    refine at_ti ey149 ?_
    refine at_istore hX hn (by decide) dX7_studsOf_149 ?_
    refine at_iload_n hX rfl rfl dX7_studsOf_151 ?_
    refine at_if_le hX (tgt := 167) (by decide) dX7_studsOf_152 (fun c152 => ?_) (fun c152 => ?_)
    · replace e := ip_ c152 e
      refine at_iconst hX (v := 0) (by decide) dX7_studsOf_167 ?_
      exact at_ireturn hX hR rfl (by cases e; rfl) rfl dX7_studsOf_168
    · replace e := in_ c152 e
      refine at_iload hX rfl dX7_studsOf_155 ?_
      refine at_if_le hX (tgt := 167) (by decide) dX7_studsOf_157 (fun c157 => ?_) (fun c157 => ?_)
      · replace e := ip_ c157 e
        refine at_iconst hX (v := 0) (by decide) dX7_studsOf_167 ?_
        exact at_ireturn hX hR rfl (by cases e; rfl) rfl dX7_studsOf_168
      · replace e := in_ c157 e
        refine at_iload_n hX rfl rfl dX7_studsOf_160 ?_
        refine at_iload hX rfl dX7_studsOf_161 ?_
        refine at_imul hX dX7_studsOf_163 ?_
        refine at_goto hX (tgt := 168) (by decide) dX7_studsOf_164 ?_
        exact at_ireturn hX hR rfl (by cases e; rfl) rfl dX7_studsOf_168
  · replace e := in_ c17 e
    refine at_iconst hX (v := 0) (by decide) dX7_studsOf_20 ?_
    exact at_ireturn hX hR rfl (by cases e; rfl) rfl dX7_studsOf_21

def F_X7_studs (x1 : Int32) (x2 : Int32) (h : Hp) : Option (Int32 × Hp) := (F_X7_isBrick x1 h).bind fun v2 => if v2 = (0 : Int32) then (F_X7_refuse (-1 : Int32) h).bind fun ((v23, h23) : Int32 × Hp) => some (v23, h23) else (F_X7_isBrick x2 h).bind fun v10 => if v10 = (0 : Int32) then (F_X7_refuse (-1 : Int32) h).bind fun ((v23, h23) : Int32 × Hp) => some (v23, h23) else if x1 = x2 then (F_X7_refuse (-1 : Int32) h).bind fun ((v23, h23) : Int32 × Hp) => some (v23, h23) else (F_X7_isThere x1 h).bind fun v29 => if v29 = (0 : Int32) then (F_X7_refuse (-3 : Int32) h).bind fun ((v55, h55) : Int32 × Hp) => some (v55, h55) else (F_X7_isThere x2 h).bind fun v37 => if v37 = (0 : Int32) then (F_X7_refuse (-3 : Int32) h).bind fun ((v55, h55) : Int32 × Hp) => some (v55, h55) else (F_X7_studsOf x1 x2 h).bind fun v46 => some (v46, h)
theorem c_X7_studs (l : Launch) (G : Gl) (x1 : Int32) (x2 : Int32) (h : Hp) {r : Int32} {h' : Hp} (e : F_X7_studs x1 x2 h = some (r, h')) : Does l G 3 M_X7_studs [.ref 7, .int x1, .int x2] h (some (.int r)) h' := by
  refine Does.of (by decide) rfl (Nat.le_of_ble_eq_true rfl) (fun X hl hG hn hX hR => ?_)
  unfold F_X7_studs at e
  subst hl; subst hG
  show At_ X 0 [(0, .ref 7), (1, .int x1), (2, .int x2)] [] h
  refine at_aload_n hX rfl rfl dX7_studs_0 ?_
  refine at_iload_n hX rfl rfl dX7_studs_1 ?_
  obtain ⟨v2, e1, e⟩ := ob_some e
  refine at_callV1 hX cv_X7_148 (by decide) (c_X7_isBrick _ _ _ _ e1) (Nat.le_of_ble_eq_true rfl) dX7_studs_2 ?_
  refine at_if_eq hX (tgt := 21) (by decide) dX7_studs_5 (fun c5 => ?_) (fun c5 => ?_)
  · replace e := ip_ c5 e
    refine at_aload_n hX rfl rfl dX7_studs_21 ?_
    refine at_iconst hX (v := -1) (by decide) dX7_studs_22 ?_
    obtain ⟨⟨v23, h23⟩, e1, e⟩ := ob_some e
    refine at_callV1 hX cv_X7_106 (by decide) (c_X7_refuse _ _ _ _ e1) (Nat.le_of_ble_eq_true rfl) dX7_studs_23 ?_
    exact at_ireturn hX hR rfl (by cases e; rfl) (by cases e; rfl) dX7_studs_26
  · replace e := in_ c5 e
    refine at_aload_n hX rfl rfl dX7_studs_8 ?_
    refine at_iload_n hX rfl rfl dX7_studs_9 ?_
    obtain ⟨v10, e1, e⟩ := ob_some e
    refine at_callV1 hX cv_X7_148 (by decide) (c_X7_isBrick _ _ _ _ e1) (Nat.le_of_ble_eq_true rfl) dX7_studs_10 ?_
    refine at_if_eq hX (tgt := 21) (by decide) dX7_studs_13 (fun c13 => ?_) (fun c13 => ?_)
    · replace e := ip_ c13 e
      refine at_aload_n hX rfl rfl dX7_studs_21 ?_
      refine at_iconst hX (v := -1) (by decide) dX7_studs_22 ?_
      obtain ⟨⟨v23, h23⟩, e1, e⟩ := ob_some e
      refine at_callV1 hX cv_X7_106 (by decide) (c_X7_refuse _ _ _ _ e1) (Nat.le_of_ble_eq_true rfl) dX7_studs_23 ?_
      exact at_ireturn hX hR rfl (by cases e; rfl) (by cases e; rfl) dX7_studs_26
    · replace e := in_ c13 e
      refine at_iload_n hX rfl rfl dX7_studs_16 ?_
      refine at_iload_n hX rfl rfl dX7_studs_17 ?_
      refine at_icmp_ne hX (tgt := 27) (by decide) dX7_studs_18 (fun c18 => ?_) (fun c18 => ?_)
      · replace e := in_ c18 e
        refine at_aload_n hX rfl rfl dX7_studs_27 ?_
        refine at_iload_n hX rfl rfl dX7_studs_28 ?_
        obtain ⟨v29, e1, e⟩ := ob_some e
        refine at_callV1 hX cv_X7_152 (by decide) (c_X7_isThere _ _ _ _ e1) (Nat.le_of_ble_eq_true rfl) dX7_studs_29 ?_
        refine at_if_eq hX (tgt := 52) (by decide) dX7_studs_32 (fun c32 => ?_) (fun c32 => ?_)
        · replace e := ip_ c32 e
          refine at_aload_n hX rfl rfl dX7_studs_52 ?_
          refine at_bipush hX (v := -3) (by decide) dX7_studs_53 ?_
          obtain ⟨⟨v55, h55⟩, e1, e⟩ := ob_some e
          refine at_callV1 hX cv_X7_106 (by decide) (c_X7_refuse _ _ _ _ e1) (Nat.le_of_ble_eq_true rfl) dX7_studs_55 ?_
          exact at_ireturn hX hR rfl (by cases e; rfl) (by cases e; rfl) dX7_studs_58
        · replace e := in_ c32 e
          refine at_aload_n hX rfl rfl dX7_studs_35 ?_
          refine at_iload_n hX rfl rfl dX7_studs_36 ?_
          obtain ⟨v37, e1, e⟩ := ob_some e
          refine at_callV1 hX cv_X7_152 (by decide) (c_X7_isThere _ _ _ _ e1) (Nat.le_of_ble_eq_true rfl) dX7_studs_37 ?_
          refine at_if_eq hX (tgt := 52) (by decide) dX7_studs_40 (fun c40 => ?_) (fun c40 => ?_)
          · replace e := ip_ c40 e
            refine at_aload_n hX rfl rfl dX7_studs_52 ?_
            refine at_bipush hX (v := -3) (by decide) dX7_studs_53 ?_
            obtain ⟨⟨v55, h55⟩, e1, e⟩ := ob_some e
            refine at_callV1 hX cv_X7_106 (by decide) (c_X7_refuse _ _ _ _ e1) (Nat.le_of_ble_eq_true rfl) dX7_studs_55 ?_
            exact at_ireturn hX hR rfl (by cases e; rfl) (by cases e; rfl) dX7_studs_58
          · replace e := in_ c40 e
            refine at_aload_n hX rfl rfl dX7_studs_43 ?_
            refine at_iload_n hX rfl rfl dX7_studs_44 ?_
            refine at_iload_n hX rfl rfl dX7_studs_45 ?_
            obtain ⟨v46, e1, e⟩ := ob_some e
            refine at_callV2 hX cv_X7_168 (by decide) (c_X7_studsOf _ _ _ _ _ e1) (Nat.le_of_ble_eq_true rfl) dX7_studs_46 ?_
            refine at_goto hX (tgt := 58) (by decide) dX7_studs_49 ?_
            exact at_ireturn hX hR rfl (by cases e; rfl) (by cases e; rfl) dX7_studs_58
      · replace e := ip_ c18 e
        refine at_aload_n hX rfl rfl dX7_studs_21 ?_
        refine at_iconst hX (v := -1) (by decide) dX7_studs_22 ?_
        obtain ⟨⟨v23, h23⟩, e1, e⟩ := ob_some e
        refine at_callV1 hX cv_X7_106 (by decide) (c_X7_refuse _ _ _ _ e1) (Nat.le_of_ble_eq_true rfl) dX7_studs_23 ?_
        exact at_ireturn hX hR rfl (by cases e; rfl) (by cases e; rfl) dX7_studs_26

def F_X7_links_59 (k2 : Int32 → Hp → Option Hp) (x1 : Int32) (h : Hp) : Option Hp := k2 (x1 + (1 : Int32)) h
theorem A_X7_links_59 {X : CX} {h' : Hp} (hn : (xc_ X).maxLocals = 3) (hX : Ok_ X RX7 cX7_links 3) (hR : Rt_ X none none h') (k2 : Int32 → Hp → Option Hp) (hk2 : ∀ (x1 : Int32) (h : Hp), k2 x1 h = some h' → At_ X 2 [(0, .ref 7), (1, .int x1)] [] h) (x1 : Int32) (h : Hp) (e : F_X7_links_59 k2 x1 h = some h') : At_ X 59 [(0, .ref 7), (1, .int x1)] [] h := by
  unfold F_X7_links_59 at e
  refine at_iinc hX hn (by decide) rfl (v := 1) (by decide) dX7_links_59 ?_
  refine at_goto hX (tgt := 2) (by decide) dX7_links_62 ?_
  exact at_sub [0, 1] rfl (hk2 _ _ e)
def F_X7_links_53 (k19 : Int32 → Int32 → Hp → Option Hp) (x1 : Int32) (x2 : Int32) (h : Hp) : Option Hp := k19 x1 (x2 + (1 : Int32)) h
theorem A_X7_links_53 {X : CX} {h' : Hp} (hn : (xc_ X).maxLocals = 3) (hX : Ok_ X RX7 cX7_links 3) (hR : Rt_ X none none h') (k19 : Int32 → Int32 → Hp → Option Hp) (hk19 : ∀ (x1 : Int32) (x2 : Int32) (h : Hp), k19 x1 x2 h = some h' → At_ X 19 [(0, .ref 7), (1, .int x1), (2, .int x2)] [] h) (x1 : Int32) (x2 : Int32) (h : Hp) (e : F_X7_links_53 k19 x1 x2 h = some h') : At_ X 53 [(0, .ref 7), (1, .int x1), (2, .int x2)] [] h := by
  unfold F_X7_links_53 at e
  refine at_iinc hX hn (by decide) rfl (v := 1) (by decide) dX7_links_53 ?_
  refine at_goto hX (tgt := 19) (by decide) dX7_links_56 ?_
  exact at_sub [0, 1, 2] rfl (hk19 _ _ _ e)
def F_X7_links_19 (n : Nat) (k59 : Int32 → Hp → Option Hp) (x1 : Int32) (x2 : Int32) (h : Hp) : Option Hp := match n with
  | 0 => none
  | n + 1 => if gI_ h 458 ≤ x2 then k59 x1 h else if x1 = x2 then (F_X7_links_53 (F_X7_links_19 n k59)) x1 x2 h else (F_X7_studsOf x1 x2 h).bind fun v35 => if v35 ≤ (0 : Int32) then (F_X7_links_53 (F_X7_links_19 n k59)) x1 x2 h else rL_ h 48 40 x1 fun v47 => wL_ h 48 40 x1 (v47 ||| (ls_ (1 : Int64) x2)) fun h52 => (F_X7_links_53 (F_X7_links_19 n k59)) x1 x2 h52
theorem A_X7_links_19 {X : CX} {h' : Hp} (hn : (xc_ X).maxLocals = 3) (hX : Ok_ X RX7 cX7_links 3) (hR : Rt_ X none none h') (k59 : Int32 → Hp → Option Hp) (hk59 : ∀ (x1 : Int32) (h : Hp), k59 x1 h = some h' → At_ X 59 [(0, .ref 7), (1, .int x1)] [] h) : ∀ (n : Nat) (x1 : Int32) (x2 : Int32) (h : Hp), F_X7_links_19 n k59 x1 x2 h = some h' → At_ X 19 [(0, .ref 7), (1, .int x1), (2, .int x2)] [] h := by
  intro n
  induction n with
  | zero => intro x1 x2 h e; cases e
  | succ n ih =>
    intro x1 x2 h e
    rw [F_X7_links_19] at e
    refine at_iload_n hX rfl rfl dX7_links_19 ?_
    refine at_aload_n hX rfl rfl dX7_links_20 ?_
    refine gf_X7_133 hX dX7_links_21 ?_
    refine at_icmp_ge hX (tgt := 59) (by decide) dX7_links_24 (fun c24 => ?_) (fun c24 => ?_)
    · replace e := ip_ c24 e
      exact at_sub [0, 1] rfl (hk59 _ _ e)
    · replace e := in_ c24 e
      refine at_iload_n hX rfl rfl dX7_links_27 ?_
      refine at_iload_n hX rfl rfl dX7_links_28 ?_
      refine at_icmp_eq hX (tgt := 53) (by decide) dX7_links_29 (fun c29 => ?_) (fun c29 => ?_)
      · replace e := ip_ c29 e
        exact at_sub [0, 1, 2] rfl ((A_X7_links_53 hn hX hR (F_X7_links_19 n k59) ih) _ _ _ e)
      · replace e := in_ c29 e
        refine at_aload_n hX rfl rfl dX7_links_32 ?_
        refine at_iload_n hX rfl rfl dX7_links_33 ?_
        refine at_iload_n hX rfl rfl dX7_links_34 ?_
        obtain ⟨v35, e1, e⟩ := ob_some e
        refine at_callV2 hX cv_X7_168 (by decide) (c_X7_studsOf _ _ _ _ _ e1) (Nat.le_of_ble_eq_true rfl) dX7_links_35 ?_
        refine at_if_le hX (tgt := 53) (by decide) dX7_links_38 (fun c38 => ?_) (fun c38 => ?_)
        · replace e := ip_ c38 e
          exact at_sub [0, 1, 2] rfl ((A_X7_links_53 hn hX hR (F_X7_links_19 n k59) ih) _ _ _ e)
        · replace e := in_ c38 e
          refine at_aload_n hX rfl rfl dX7_links_41 ?_
          refine gf_X7_44 hX dX7_links_42 ?_
          refine at_iload_n hX rfl rfl dX7_links_45 ?_
          refine at_dup2 hX rfl rfl dX7_links_46 ?_
          obtain ⟨hi, v47, ev47, e⟩ := rL_some e
          refine at_lald hX (o := 48) (by decide) rfl hi dX7_links_47 ?_
          refine at_tl ev47 ?_
          refine at_lconst hX (v := 1) (by decide) dX7_links_48 ?_
          refine at_iload_n hX rfl rfl dX7_links_49 ?_
          refine at_lshl hX dX7_links_50 ?_
          refine at_lor hX dX7_links_51 ?_
          obtain ⟨hi, h52, eh52, e⟩ := wL_some e
          refine at_last hX (o := 48) (by decide) rfl hi dX7_links_52 ?_
          refine at_th eh52 ?_
          exact at_sub [0, 1, 2] rfl ((A_X7_links_53 hn hX hR (F_X7_links_19 n k59) ih) _ _ _ e)
def F_X7_links_2 (n : Nat) (x1 : Int32) (h : Hp) : Option Hp := match n with
  | 0 => none
  | n + 1 => if gI_ h 458 ≤ x1 then some h else wL_ h 48 40 x1 (0 : Int64) fun h16 => (F_X7_links_19 FU_ (F_X7_links_59 (F_X7_links_2 n))) x1 (0 : Int32) h16
theorem A_X7_links_2 {X : CX} {h' : Hp} (hn : (xc_ X).maxLocals = 3) (hX : Ok_ X RX7 cX7_links 3) (hR : Rt_ X none none h') : ∀ (n : Nat) (x1 : Int32) (h : Hp), F_X7_links_2 n x1 h = some h' → At_ X 2 [(0, .ref 7), (1, .int x1)] [] h := by
  intro n
  induction n with
  | zero => intro x1 h e; cases e
  | succ n ih =>
    intro x1 h e
    rw [F_X7_links_2] at e
    refine at_iload_n hX rfl rfl dX7_links_2 ?_
    refine at_aload_n hX rfl rfl dX7_links_3 ?_
    refine gf_X7_133 hX dX7_links_4 ?_
    refine at_icmp_ge hX (tgt := 65) (by decide) dX7_links_7 (fun c7 => ?_) (fun c7 => ?_)
    · replace e := ip_ c7 e
      exact at_return hX hR rfl (by cases e; rfl) dX7_links_65
    · replace e := in_ c7 e
      refine at_aload_n hX rfl rfl dX7_links_10 ?_
      refine gf_X7_44 hX dX7_links_11 ?_
      refine at_iload_n hX rfl rfl dX7_links_14 ?_
      refine at_lconst hX (v := 0) (by decide) dX7_links_15 ?_
      obtain ⟨hi, h16, eh16, e⟩ := wL_some e
      refine at_last hX (o := 48) (by decide) rfl hi dX7_links_16 ?_
      refine at_th eh16 ?_
      refine at_iconst hX (v := 0) (by decide) dX7_links_17 ?_
      refine at_istore_n hX rfl hn (by decide) dX7_links_18 ?_
      exact at_sub [0, 1, 2] rfl ((A_X7_links_19 hn hX hR (F_X7_links_59 (F_X7_links_2 n)) (A_X7_links_59 hn hX hR (F_X7_links_2 n) ih) FU_) _ _ _ e)
def F_X7_links (h : Hp) : Option Hp := (F_X7_links_2 FU_) (0 : Int32) h
theorem c_X7_links (l : Launch) (G : Gl) (h : Hp) {h' : Hp} (e : F_X7_links  h = some h') : Does l G 3 M_X7_links [.ref 7] h none h' := by
  refine Does.of (by decide) rfl (Nat.le_of_ble_eq_true rfl) (fun X hl hG hn hX hR => ?_)
  unfold F_X7_links at e
  subst hl; subst hG
  show At_ X 0 [(0, .ref 7)] [] h
  refine at_iconst hX (v := 0) (by decide) dX7_links_0 ?_
  refine at_istore_n hX rfl hn (by decide) dX7_links_1 ?_
  exact at_sub [0, 1] rfl ((A_X7_links_2 hn hX hR FU_) _ _ e)

def F_X7_first_2 (n : Nat) (x0 : Int64) (x2 : Int32) : Option Int32 := match n with
  | 0 => none
  | n + 1 => if (la_ x0 x2) &&& (1 : Int64) = (0 : Int64) then (F_X7_first_2 n) x0 (x2 + (1 : Int32)) else some x2
theorem A_X7_first_2 {X : CX} {h : Hp} {r : Int32} (hn : (xc_ X).maxLocals = 3) (hX : Ok_ X RX7 cX7_first 1) (hR : Rt_ X (some .int) (some (.int r)) h) : ∀ (n : Nat) (x0 : Int64) (x2 : Int32), F_X7_first_2 n x0 x2 = some r → At_ X 2 [(0, .long x0), (2, .int x2)] [] h := by
  intro n
  induction n with
  | zero => intro x0 x2 e; cases e
  | succ n ih =>
    intro x0 x2 e
    rw [F_X7_first_2] at e
    refine at_lload_n hX rfl rfl dX7_first_2 ?_
    refine at_iload_n hX rfl rfl dX7_first_3 ?_
    refine at_lshr hX dX7_first_4 ?_
    refine at_lconst hX (v := 1) (by decide) dX7_first_5 ?_
    refine at_land hX dX7_first_6 ?_
    refine at_lconst hX (v := 0) (by decide) dX7_first_7 ?_
    refine at_lcmp_ne hX (tgt := 18) (by decide) dX7_first_8 dX7_first_9 (fun c8 => ?_) (fun c8 => ?_)
    · replace e := in_ c8 e
      refine at_iload_n hX rfl rfl dX7_first_18 ?_
      exact at_ireturn hX hR rfl (by cases e; rfl) rfl dX7_first_19
    · replace e := ip_ c8 e
      refine at_iinc hX hn (by decide) rfl (v := 1) (by decide) dX7_first_12 ?_
      refine at_goto hX (tgt := 2) (by decide) dX7_first_15 ?_
      exact at_sub [0, 2] rfl (ih _ _ e)
def F_X7_first (x0 : Int64) : Option Int32 := (F_X7_first_2 FU_) x0 (0 : Int32)
theorem c_X7_first (l : Launch) (G : Gl) (x0 : Int64) (h : Hp) {r : Int32} (e : F_X7_first x0 = some r) : Does l G 1 M_X7_first [.long x0] h (some (.int r)) h := by
  refine Does.of (by decide) rfl (Nat.le_of_ble_eq_true rfl) (fun X hl hG hn hX hR => ?_)
  unfold F_X7_first at e
  subst hl; subst hG
  show At_ X 0 [(0, .long x0)] [] h
  refine at_iconst hX (v := 0) (by decide) dX7_first_0 ?_
  refine at_istore_n hX rfl hn (by decide) dX7_first_1 ?_
  exact at_sub [0, 2] rfl ((A_X7_first_2 hn hX hR FU_) _ _ e)

def F_X7_bits_4 (n : Nat) (x2 : Int32) (x3 : Int64) : Option Int32 := match n with
  | 0 => none
  | n + 1 => if x3 = (0 : Int64) then some x2 else bd_ (x3 &&& (x3 - (1 : Int64))) fun y18 => (F_X7_bits_4 n) (x2 + (1 : Int32)) y18
theorem A_X7_bits_4 {X : CX} {h : Hp} {r : Int32} (hn : (xc_ X).maxLocals = 5) (hX : Ok_ X RX7 cX7_bits 1) (hR : Rt_ X (some .int) (some (.int r)) h) : ∀ (n : Nat) (x2 : Int32) (x3 : Int64), F_X7_bits_4 n x2 x3 = some r → At_ X 4 [(2, .int x2), (3, .long x3)] [] h := by
  intro n
  induction n with
  | zero => intro x2 x3 e; cases e
  | succ n ih =>
    intro x2 x3 e
    rw [F_X7_bits_4] at e
    refine at_lload_n hX rfl rfl dX7_bits_4 ?_
    refine at_lconst hX (v := 0) (by decide) dX7_bits_5 ?_
    refine at_lcmp_eq hX (tgt := 22) (by decide) dX7_bits_6 dX7_bits_7 (fun c6 => ?_) (fun c6 => ?_)
    · replace e := ip_ c6 e
      refine at_iload_n hX rfl rfl dX7_bits_22 ?_
      exact at_ireturn hX hR rfl (by cases e; rfl) rfl dX7_bits_23
    · replace e := in_ c6 e
      refine at_iinc hX hn (by decide) rfl (v := 1) (by decide) dX7_bits_10 ?_
      refine at_lload_n hX rfl rfl dX7_bits_13 ?_
      refine at_lload_n hX rfl rfl dX7_bits_14 ?_
      refine at_lconst hX (v := 1) (by decide) dX7_bits_15 ?_
      refine at_lsub hX dX7_bits_16 ?_
      refine at_land hX dX7_bits_17 ?_
      obtain ⟨y18, ey18, e⟩ := bd_some e
      refine at_tl ey18 ?_
      refine at_lstore_n hX rfl hn (by decide) dX7_bits_18 ?_
      refine at_goto hX (tgt := 4) (by decide) dX7_bits_19 ?_
      exact at_sub [2, 3] rfl (ih _ _ e)
def F_X7_bits (x0 : Int64) : Option Int32 := (F_X7_bits_4 FU_) (0 : Int32) x0
theorem c_X7_bits (l : Launch) (G : Gl) (x0 : Int64) (h : Hp) {r : Int32} (e : F_X7_bits x0 = some r) : Does l G 1 M_X7_bits [.long x0] h (some (.int r)) h := by
  refine Does.of (by decide) rfl (Nat.le_of_ble_eq_true rfl) (fun X hl hG hn hX hR => ?_)
  unfold F_X7_bits at e
  subst hl; subst hG
  show At_ X 0 [(0, .long x0)] [] h
  refine at_iconst hX (v := 0) (by decide) dX7_bits_0 ?_
  refine at_istore_n hX rfl hn (by decide) dX7_bits_1 ?_
  refine at_lload_n hX rfl rfl dX7_bits_2 ?_
  refine at_lstore_n hX rfl hn (by decide) dX7_bits_3 ?_
  exact at_sub [2, 3] rfl ((A_X7_bits_4 hn hX hR FU_) _ _ e)

def F_X7_pieceIn_8 (n : Nat) (x1 : Int64) (x3 : Int64) (x5 : Int64) (h : Hp) : Option Int64 := match n with
  | 0 => none
  | n + 1 => if x5 = (0 : Int64) then some x3 else (F_X7_first x5).bind fun v17 => bd_ (x5 &&& (x5 - (1 : Int64))) fun y29 => rL_ h 48 40 v17 fun v37 => bd_ ((v37 &&& x1) &&& (x3 ^^^ (-1 : Int64))) fun y46 => (F_X7_pieceIn_8 n) x1 (x3 ||| y46) (y29 ||| y46) h
theorem A_X7_pieceIn_8 {X : CX} {h : Hp} {r : Int64} (hn : (xc_ X).maxLocals = 10) (hX : Ok_ X RX7 cX7_pieceIn 2) (hR : Rt_ X (some .long) (some (.long r)) h) : ∀ (n : Nat) (x1 : Int64) (x3 : Int64) (x5 : Int64), F_X7_pieceIn_8 n x1 x3 x5 h = some r → At_ X 8 [(0, .ref 7), (1, .long x1), (3, .long x3), (5, .long x5)] [] h := by
  intro n
  induction n with
  | zero => intro x1 x3 x5 e; cases e
  | succ n ih =>
    intro x1 x3 x5 e
    rw [F_X7_pieceIn_8] at e
    refine at_lload hX rfl dX7_pieceIn_8 ?_
    refine at_lconst hX (v := 0) (by decide) dX7_pieceIn_10 ?_
    refine at_lcmp_eq hX (tgt := 63) (by decide) dX7_pieceIn_11 dX7_pieceIn_12 (fun c11 => ?_) (fun c11 => ?_)
    · replace e := ip_ c11 e
      refine at_lload_n hX rfl rfl dX7_pieceIn_63 ?_
      exact at_lreturn hX hR (by cases e; rfl) rfl dX7_pieceIn_64
    · replace e := in_ c11 e
      refine at_lload hX rfl dX7_pieceIn_15 ?_
      obtain ⟨v17, e1, e⟩ := ob_some e
      refine at_callS1 hX cv_X7_171 (by decide) (c_X7_first _ _ _ _ e1) (Nat.le_of_ble_eq_true rfl) dX7_pieceIn_17 ?_
      refine at_istore hX hn (by decide) dX7_pieceIn_20 ?_
      refine at_lload hX rfl dX7_pieceIn_22 ?_
      refine at_lload hX rfl dX7_pieceIn_24 ?_
      refine at_lconst hX (v := 1) (by decide) dX7_pieceIn_26 ?_
      refine at_lsub hX dX7_pieceIn_27 ?_
      refine at_land hX dX7_pieceIn_28 ?_
      obtain ⟨y29, ey29, e⟩ := bd_some e
      refine at_tl ey29 ?_
      refine at_lstore hX hn (by decide) dX7_pieceIn_29 ?_
      refine at_aload_n hX rfl rfl dX7_pieceIn_31 ?_
      refine gf_X7_44 hX dX7_pieceIn_32 ?_
      refine at_iload hX rfl dX7_pieceIn_35 ?_
      obtain ⟨hi, v37, ev37, e⟩ := rL_some e
      refine at_lald hX (o := 48) (by decide) rfl hi dX7_pieceIn_37 ?_
      refine at_tl ev37 ?_
      refine at_lload_n hX rfl rfl dX7_pieceIn_38 ?_
      refine at_land hX dX7_pieceIn_39 ?_
      refine at_lload_n hX rfl rfl dX7_pieceIn_40 ?_
      refine at_ldc2 hX wk_X7_155 dX7_pieceIn_41 ?_
      refine at_lxor hX dX7_pieceIn_44 ?_
      refine at_land hX dX7_pieceIn_45 ?_
      obtain ⟨y46, ey46, e⟩ := bd_some e
      refine at_tl ey46 ?_
      refine at_lstore hX hn (by decide) dX7_pieceIn_46 ?_
      refine at_lload_n hX rfl rfl dX7_pieceIn_48 ?_
      refine at_lload hX rfl dX7_pieceIn_49 ?_
      refine at_lor hX dX7_pieceIn_51 ?_
      refine at_lstore_n hX rfl hn (by decide) dX7_pieceIn_52 ?_
      refine at_lload hX rfl dX7_pieceIn_53 ?_
      refine at_lload hX rfl dX7_pieceIn_55 ?_
      refine at_lor hX dX7_pieceIn_57 ?_
      refine at_lstore hX hn (by decide) dX7_pieceIn_58 ?_
      refine at_goto hX (tgt := 8) (by decide) dX7_pieceIn_60 ?_
      exact at_sub [0, 1, 3, 5] rfl (ih _ _ _ e)
def F_X7_pieceIn (x1 : Int64) (h : Hp) : Option Int64 := (F_X7_pieceIn_8 FU_) x1 (x1 &&& (-x1)) (x1 &&& (-x1)) h
theorem c_X7_pieceIn (l : Launch) (G : Gl) (x1 : Int64) (h : Hp) {r : Int64} (e : F_X7_pieceIn x1 h = some r) : Does l G 2 M_X7_pieceIn [.ref 7, .long x1] h (some (.long r)) h := by
  refine Does.of (by decide) rfl (Nat.le_of_ble_eq_true rfl) (fun X hl hG hn hX hR => ?_)
  unfold F_X7_pieceIn at e
  subst hl; subst hG
  show At_ X 0 [(0, .ref 7), (1, .long x1)] [] h
  refine at_lload_n hX rfl rfl dX7_pieceIn_0 ?_
  refine at_lload_n hX rfl rfl dX7_pieceIn_1 ?_
  refine at_lneg hX dX7_pieceIn_2 ?_
  refine at_land hX dX7_pieceIn_3 ?_
  refine at_lstore_n hX rfl hn (by decide) dX7_pieceIn_4 ?_
  refine at_lload_n hX rfl rfl dX7_pieceIn_5 ?_
  refine at_lstore hX hn (by decide) dX7_pieceIn_6 ?_
  exact at_sub [0, 1, 3, 5] rfl ((A_X7_pieceIn_8 hn hX hR FU_) _ _ _ e)
