
def F_X6_isPlace (x0 : Int32) (x1 : Int32) (x2 : Int32) : Option Int32 := if x0 < (0 : Int32) then some (0 : Int32) else if (6 : Int32) ≤ x0 then some (0 : Int32) else if x1 < (0 : Int32) then some (0 : Int32) else if (6 : Int32) ≤ x1 then some (0 : Int32) else if x2 < (0 : Int32) then some (0 : Int32) else if (5 : Int32) ≤ x2 then some (0 : Int32) else some (1 : Int32)
theorem c_X6_isPlace (l : Launch) (G : Gl) (x0 : Int32) (x1 : Int32) (x2 : Int32) (h : Hp) {r : Int32} (e : F_X6_isPlace x0 x1 x2 = some r) : Does l G 1 M_X6_isPlace [.int x0, .int x1, .int x2] h (some (.int r)) h := by
  refine Does.of (by decide) rfl (Nat.le_of_ble_eq_true rfl) (fun X hl hG hn hX hR => ?_)
  unfold F_X6_isPlace at e
  subst hl; subst hG
  show At_ X 0 [(0, .int x0), (1, .int x1), (2, .int x2)] [] h
  refine at_iload_n hX rfl rfl dX6_isPlace_0 ?_
  refine at_if_lt hX (tgt := 33) (by decide) dX6_isPlace_1 (fun c1 => ?_) (fun c1 => ?_)
  · replace e := ip_ c1 e
    refine at_iconst hX (v := 0) (by decide) dX6_isPlace_33 ?_
    exact at_ireturn hX hR rfl (by cases e; rfl) rfl dX6_isPlace_34
  · replace e := in_ c1 e
    refine at_iload_n hX rfl rfl dX6_isPlace_4 ?_
    refine at_bipush hX (v := 6) (by decide) dX6_isPlace_5 ?_
    refine at_icmp_ge hX (tgt := 33) (by decide) dX6_isPlace_7 (fun c7 => ?_) (fun c7 => ?_)
    · replace e := ip_ c7 e
      refine at_iconst hX (v := 0) (by decide) dX6_isPlace_33 ?_
      exact at_ireturn hX hR rfl (by cases e; rfl) rfl dX6_isPlace_34
    · replace e := in_ c7 e
      refine at_iload_n hX rfl rfl dX6_isPlace_10 ?_
      refine at_if_lt hX (tgt := 33) (by decide) dX6_isPlace_11 (fun c11 => ?_) (fun c11 => ?_)
      · replace e := ip_ c11 e
        refine at_iconst hX (v := 0) (by decide) dX6_isPlace_33 ?_
        exact at_ireturn hX hR rfl (by cases e; rfl) rfl dX6_isPlace_34
      · replace e := in_ c11 e
        refine at_iload_n hX rfl rfl dX6_isPlace_14 ?_
        refine at_bipush hX (v := 6) (by decide) dX6_isPlace_15 ?_
        refine at_icmp_ge hX (tgt := 33) (by decide) dX6_isPlace_17 (fun c17 => ?_) (fun c17 => ?_)
        · replace e := ip_ c17 e
          refine at_iconst hX (v := 0) (by decide) dX6_isPlace_33 ?_
          exact at_ireturn hX hR rfl (by cases e; rfl) rfl dX6_isPlace_34
        · replace e := in_ c17 e
          refine at_iload_n hX rfl rfl dX6_isPlace_20 ?_
          refine at_if_lt hX (tgt := 33) (by decide) dX6_isPlace_21 (fun c21 => ?_) (fun c21 => ?_)
          · replace e := ip_ c21 e
            refine at_iconst hX (v := 0) (by decide) dX6_isPlace_33 ?_
            exact at_ireturn hX hR rfl (by cases e; rfl) rfl dX6_isPlace_34
          · replace e := in_ c21 e
            refine at_iload_n hX rfl rfl dX6_isPlace_24 ?_
            refine at_iconst hX (v := 5) (by decide) dX6_isPlace_25 ?_
            refine at_icmp_ge hX (tgt := 33) (by decide) dX6_isPlace_26 (fun c26 => ?_) (fun c26 => ?_)
            · replace e := ip_ c26 e
              refine at_iconst hX (v := 0) (by decide) dX6_isPlace_33 ?_
              exact at_ireturn hX hR rfl (by cases e; rfl) rfl dX6_isPlace_34
            · replace e := in_ c26 e
              refine at_iconst hX (v := 1) (by decide) dX6_isPlace_29 ?_
              refine at_goto hX (tgt := 34) (by decide) dX6_isPlace_30 ?_
              exact at_ireturn hX hR rfl (by cases e; rfl) rfl dX6_isPlace_34

def F_X6_indexOf (x0 : Int32) (x1 : Int32) (x2 : Int32) : Option Int32 := some ((((x2 * (6 : Int32)) + x1) * (6 : Int32)) + x0)
theorem c_X6_indexOf (l : Launch) (G : Gl) (x0 : Int32) (x1 : Int32) (x2 : Int32) (h : Hp) {r : Int32} (e : F_X6_indexOf x0 x1 x2 = some r) : Does l G 1 M_X6_indexOf [.int x0, .int x1, .int x2] h (some (.int r)) h := by
  refine Does.of (by decide) rfl (Nat.le_of_ble_eq_true rfl) (fun X hl hG hn hX hR => ?_)
  unfold F_X6_indexOf at e
  subst hl; subst hG
  show At_ X 0 [(0, .int x0), (1, .int x1), (2, .int x2)] [] h
  refine at_iload_n hX rfl rfl dX6_indexOf_0 ?_
  refine at_bipush hX (v := 6) (by decide) dX6_indexOf_1 ?_
  refine at_imul hX dX6_indexOf_3 ?_
  refine at_iload_n hX rfl rfl dX6_indexOf_4 ?_
  refine at_iadd hX dX6_indexOf_5 ?_
  refine at_bipush hX (v := 6) (by decide) dX6_indexOf_6 ?_
  refine at_imul hX dX6_indexOf_8 ?_
  refine at_iload_n hX rfl rfl dX6_indexOf_9 ?_
  refine at_iadd hX dX6_indexOf_10 ?_
  exact at_ireturn hX hR rfl (by cases e; rfl) rfl dX6_indexOf_11

def F_X0_paint (x1 : Int32) (x2 : Int32) (x3 : Int32) (x4 : Int32) (h : Hp) : Option (Int32 × Hp) := (F_X6_isPlace x1 x2 x3).bind fun v3 => if v3 = (0 : Int32) then some ((0 : Int32), h) else (F_X6_indexOf x1 x2 x3).bind fun v14 => rA_ h 8 180 v14 fun v25 => wA_ h 8 180 v14 x4 fun h36 => some (v25, h36)
theorem c_X0_paint (l : Launch) (G : Gl) (x1 : Int32) (x2 : Int32) (x3 : Int32) (x4 : Int32) (h : Hp) {r : Int32} {h' : Hp} (e : F_X0_paint x1 x2 x3 x4 h = some (r, h')) : Does l G 2 M_X0_paint [.ref 0, .int x1, .int x2, .int x3, .int x4] h (some (.int r)) h' := by
  refine Does.of (by decide) rfl (Nat.le_of_ble_eq_true rfl) (fun X hl hG hn hX hR => ?_)
  unfold F_X0_paint at e
  subst hl; subst hG
  show At_ X 0 [(0, .ref 0), (1, .int x1), (2, .int x2), (3, .int x3), (4, .int x4)] [] h
  refine at_iload_n hX rfl rfl dX0_paint_0 ?_
  refine at_iload_n hX rfl rfl dX0_paint_1 ?_
  refine at_iload_n hX rfl rfl dX0_paint_2 ?_
  obtain ⟨v3, e1, e⟩ := ob_some e
  refine at_callN3 hX cv_X0_15 (by decide) (c_X6_isPlace _ _ _ _ _ _ e1) (Nat.le_of_ble_eq_true rfl) dX0_paint_3 ?_
  refine at_if_ne hX (tgt := 11) (by decide) dX0_paint_6 (fun c6 => ?_) (fun c6 => ?_)
  · replace e := in_ c6 e
    refine at_iload_n hX rfl rfl dX0_paint_11 ?_
    refine at_iload_n hX rfl rfl dX0_paint_12 ?_
    refine at_iload_n hX rfl rfl dX0_paint_13 ?_
    obtain ⟨v14, e1, e⟩ := ob_some e
    refine at_callN3 hX cv_X0_19 (by decide) (c_X6_indexOf _ _ _ _ _ _ e1) (Nat.le_of_ble_eq_true rfl) dX0_paint_14 ?_
    refine at_istore hX hn (by decide) dX0_paint_17 ?_
    refine at_aload_n hX rfl rfl dX0_paint_19 ?_
    refine gf_X0_9 hX dX0_paint_20 ?_
    refine at_iload hX rfl dX0_paint_23 ?_
    obtain ⟨hi, v25, ev25, e⟩ := rA_some e
    refine at_iald hX (o := 8) (by decide) rfl hi dX0_paint_25 ?_
    refine at_ti ev25 ?_
    refine at_istore hX hn (by decide) dX0_paint_26 ?_
    refine at_aload_n hX rfl rfl dX0_paint_28 ?_
    refine gf_X0_9 hX dX0_paint_29 ?_
    refine at_iload hX rfl dX0_paint_32 ?_
    refine at_iload hX rfl dX0_paint_34 ?_
    obtain ⟨hi, h36, eh36, e⟩ := wA_some e
    refine at_iast hX (o := 8) (by decide) rfl hi dX0_paint_36 ?_
    refine at_th eh36 ?_
    refine at_iload hX rfl dX0_paint_37 ?_
    exact at_ireturn hX hR rfl (by cases e; rfl) (by cases e; rfl) dX0_paint_39
  · replace e := ip_ c6 e
    refine at_iconst hX (v := 0) (by decide) dX0_paint_9 ?_
    exact at_ireturn hX hR rfl (by cases e; rfl) (by cases e; rfl) dX0_paint_10

def F_X0_colourAt (x1 : Int32) (x2 : Int32) (x3 : Int32) (h : Hp) : Option Int32 := (F_X6_isPlace x1 x2 x3).bind fun v3 => if v3 = (0 : Int32) then some (0 : Int32) else (F_X6_indexOf x1 x2 x3).bind fun v16 => rA_ h 8 180 v16 fun v19 => some v19
theorem c_X0_colourAt (l : Launch) (G : Gl) (x1 : Int32) (x2 : Int32) (x3 : Int32) (h : Hp) {r : Int32} (e : F_X0_colourAt x1 x2 x3 h = some r) : Does l G 2 M_X0_colourAt [.ref 0, .int x1, .int x2, .int x3] h (some (.int r)) h := by
  refine Does.of (by decide) rfl (Nat.le_of_ble_eq_true rfl) (fun X hl hG hn hX hR => ?_)
  unfold F_X0_colourAt at e
  subst hl; subst hG
  show At_ X 0 [(0, .ref 0), (1, .int x1), (2, .int x2), (3, .int x3)] [] h
  refine at_iload_n hX rfl rfl dX0_colourAt_0 ?_
  refine at_iload_n hX rfl rfl dX0_colourAt_1 ?_
  refine at_iload_n hX rfl rfl dX0_colourAt_2 ?_
  obtain ⟨v3, e1, e⟩ := ob_some e
  refine at_callN3 hX cv_X0_15 (by decide) (c_X6_isPlace _ _ _ _ _ _ e1) (Nat.le_of_ble_eq_true rfl) dX0_colourAt_3 ?_
  refine at_if_eq hX (tgt := 23) (by decide) dX0_colourAt_6 (fun c6 => ?_) (fun c6 => ?_)
  · replace e := ip_ c6 e
    refine at_iconst hX (v := 0) (by decide) dX0_colourAt_23 ?_
    exact at_ireturn hX hR rfl (by cases e; rfl) rfl dX0_colourAt_24
  · replace e := in_ c6 e
    refine at_aload_n hX rfl rfl dX0_colourAt_9 ?_
    refine gf_X0_9 hX dX0_colourAt_10 ?_
    refine at_iload_n hX rfl rfl dX0_colourAt_13 ?_
    refine at_iload_n hX rfl rfl dX0_colourAt_14 ?_
    refine at_iload_n hX rfl rfl dX0_colourAt_15 ?_
    obtain ⟨v16, e1, e⟩ := ob_some e
    refine at_callN3 hX cv_X0_19 (by decide) (c_X6_indexOf _ _ _ _ _ _ e1) (Nat.le_of_ble_eq_true rfl) dX0_colourAt_16 ?_
    obtain ⟨hi, v19, ev19, e⟩ := rA_some e
    refine at_iald hX (o := 8) (by decide) rfl hi dX0_colourAt_19 ?_
    refine at_ti ev19 ?_
    refine at_goto hX (tgt := 24) (by decide) dX0_colourAt_20 ?_
    exact at_ireturn hX hR rfl (by cases e; rfl) rfl dX0_colourAt_24

def F_X0_isInner (x1 : Int32) (x2 : Int32) (x3 : Int32) (h : Hp) : Option Int32 := (F_X0_colourAt x1 x2 x3 h).bind fun v4 => if v4 = (0 : Int32) then some (0 : Int32) else (F_X0_colourAt (x1 - (1 : Int32)) x2 x3 h).bind fun v16 => if v16 = (0 : Int32) then some (0 : Int32) else (F_X0_colourAt (x1 + (1 : Int32)) x2 x3 h).bind fun v28 => if v28 = (0 : Int32) then some (0 : Int32) else (F_X0_colourAt x1 (x2 - (1 : Int32)) x3 h).bind fun v40 => if v40 = (0 : Int32) then some (0 : Int32) else (F_X0_colourAt x1 (x2 + (1 : Int32)) x3 h).bind fun v52 => if v52 = (0 : Int32) then some (0 : Int32) else (F_X0_colourAt x1 x2 (x3 - (1 : Int32)) h).bind fun v64 => if v64 = (0 : Int32) then some (0 : Int32) else (F_X0_colourAt x1 x2 (x3 + (1 : Int32)) h).bind fun v76 => if v76 = (0 : Int32) then some (0 : Int32) else some (1 : Int32)
theorem c_X0_isInner (l : Launch) (G : Gl) (x1 : Int32) (x2 : Int32) (x3 : Int32) (h : Hp) {r : Int32} (e : F_X0_isInner x1 x2 x3 h = some r) : Does l G 3 M_X0_isInner [.ref 0, .int x1, .int x2, .int x3] h (some (.int r)) h := by
  refine Does.of (by decide) rfl (Nat.le_of_ble_eq_true rfl) (fun X hl hG hn hX hR => ?_)
  unfold F_X0_isInner at e
  subst hl; subst hG
  show At_ X 0 [(0, .ref 0), (1, .int x1), (2, .int x2), (3, .int x3)] [] h
  refine at_aload_n hX rfl rfl dX0_isInner_0 ?_
  refine at_iload_n hX rfl rfl dX0_isInner_1 ?_
  refine at_iload_n hX rfl rfl dX0_isInner_2 ?_
  refine at_iload_n hX rfl rfl dX0_isInner_3 ?_
  obtain ⟨v4, e1, e⟩ := ob_some e
  refine at_callV3 hX cv_X0_23 (by decide) (c_X0_colourAt _ _ _ _ _ _ e1) (Nat.le_of_ble_eq_true rfl) dX0_isInner_4 ?_
  refine at_if_eq hX (tgt := 86) (by decide) dX0_isInner_7 (fun c7 => ?_) (fun c7 => ?_)
  · replace e := ip_ c7 e
    refine at_iconst hX (v := 0) (by decide) dX0_isInner_86 ?_
    exact at_ireturn hX hR rfl (by cases e; rfl) rfl dX0_isInner_87
  · replace e := in_ c7 e
    refine at_aload_n hX rfl rfl dX0_isInner_10 ?_
    refine at_iload_n hX rfl rfl dX0_isInner_11 ?_
    refine at_iconst hX (v := 1) (by decide) dX0_isInner_12 ?_
    refine at_isub hX dX0_isInner_13 ?_
    refine at_iload_n hX rfl rfl dX0_isInner_14 ?_
    refine at_iload_n hX rfl rfl dX0_isInner_15 ?_
    obtain ⟨v16, e1, e⟩ := ob_some e
    refine at_callV3 hX cv_X0_23 (by decide) (c_X0_colourAt _ _ _ _ _ _ e1) (Nat.le_of_ble_eq_true rfl) dX0_isInner_16 ?_
    refine at_if_eq hX (tgt := 86) (by decide) dX0_isInner_19 (fun c19 => ?_) (fun c19 => ?_)
    · replace e := ip_ c19 e
      refine at_iconst hX (v := 0) (by decide) dX0_isInner_86 ?_
      exact at_ireturn hX hR rfl (by cases e; rfl) rfl dX0_isInner_87
    · replace e := in_ c19 e
      refine at_aload_n hX rfl rfl dX0_isInner_22 ?_
      refine at_iload_n hX rfl rfl dX0_isInner_23 ?_
      refine at_iconst hX (v := 1) (by decide) dX0_isInner_24 ?_
      refine at_iadd hX dX0_isInner_25 ?_
      refine at_iload_n hX rfl rfl dX0_isInner_26 ?_
      refine at_iload_n hX rfl rfl dX0_isInner_27 ?_
      obtain ⟨v28, e1, e⟩ := ob_some e
      refine at_callV3 hX cv_X0_23 (by decide) (c_X0_colourAt _ _ _ _ _ _ e1) (Nat.le_of_ble_eq_true rfl) dX0_isInner_28 ?_
      refine at_if_eq hX (tgt := 86) (by decide) dX0_isInner_31 (fun c31 => ?_) (fun c31 => ?_)
      · replace e := ip_ c31 e
        refine at_iconst hX (v := 0) (by decide) dX0_isInner_86 ?_
        exact at_ireturn hX hR rfl (by cases e; rfl) rfl dX0_isInner_87
      · replace e := in_ c31 e
        refine at_aload_n hX rfl rfl dX0_isInner_34 ?_
        refine at_iload_n hX rfl rfl dX0_isInner_35 ?_
        refine at_iload_n hX rfl rfl dX0_isInner_36 ?_
        refine at_iconst hX (v := 1) (by decide) dX0_isInner_37 ?_
        refine at_isub hX dX0_isInner_38 ?_
        refine at_iload_n hX rfl rfl dX0_isInner_39 ?_
        obtain ⟨v40, e1, e⟩ := ob_some e
        refine at_callV3 hX cv_X0_23 (by decide) (c_X0_colourAt _ _ _ _ _ _ e1) (Nat.le_of_ble_eq_true rfl) dX0_isInner_40 ?_
        refine at_if_eq hX (tgt := 86) (by decide) dX0_isInner_43 (fun c43 => ?_) (fun c43 => ?_)
        · replace e := ip_ c43 e
          refine at_iconst hX (v := 0) (by decide) dX0_isInner_86 ?_
          exact at_ireturn hX hR rfl (by cases e; rfl) rfl dX0_isInner_87
        · replace e := in_ c43 e
          refine at_aload_n hX rfl rfl dX0_isInner_46 ?_
          refine at_iload_n hX rfl rfl dX0_isInner_47 ?_
          refine at_iload_n hX rfl rfl dX0_isInner_48 ?_
          refine at_iconst hX (v := 1) (by decide) dX0_isInner_49 ?_
          refine at_iadd hX dX0_isInner_50 ?_
          refine at_iload_n hX rfl rfl dX0_isInner_51 ?_
          obtain ⟨v52, e1, e⟩ := ob_some e
          refine at_callV3 hX cv_X0_23 (by decide) (c_X0_colourAt _ _ _ _ _ _ e1) (Nat.le_of_ble_eq_true rfl) dX0_isInner_52 ?_
          refine at_if_eq hX (tgt := 86) (by decide) dX0_isInner_55 (fun c55 => ?_) (fun c55 => ?_)
          · replace e := ip_ c55 e
            refine at_iconst hX (v := 0) (by decide) dX0_isInner_86 ?_
            exact at_ireturn hX hR rfl (by cases e; rfl) rfl dX0_isInner_87
          · replace e := in_ c55 e
            refine at_aload_n hX rfl rfl dX0_isInner_58 ?_
            refine at_iload_n hX rfl rfl dX0_isInner_59 ?_
            refine at_iload_n hX rfl rfl dX0_isInner_60 ?_
            refine at_iload_n hX rfl rfl dX0_isInner_61 ?_
            refine at_iconst hX (v := 1) (by decide) dX0_isInner_62 ?_
            refine at_isub hX dX0_isInner_63 ?_
            obtain ⟨v64, e1, e⟩ := ob_some e
            refine at_callV3 hX cv_X0_23 (by decide) (c_X0_colourAt _ _ _ _ _ _ e1) (Nat.le_of_ble_eq_true rfl) dX0_isInner_64 ?_
            refine at_if_eq hX (tgt := 86) (by decide) dX0_isInner_67 (fun c67 => ?_) (fun c67 => ?_)
            · replace e := ip_ c67 e
              refine at_iconst hX (v := 0) (by decide) dX0_isInner_86 ?_
              exact at_ireturn hX hR rfl (by cases e; rfl) rfl dX0_isInner_87
            · replace e := in_ c67 e
              refine at_aload_n hX rfl rfl dX0_isInner_70 ?_
              refine at_iload_n hX rfl rfl dX0_isInner_71 ?_
              refine at_iload_n hX rfl rfl dX0_isInner_72 ?_
              refine at_iload_n hX rfl rfl dX0_isInner_73 ?_
              refine at_iconst hX (v := 1) (by decide) dX0_isInner_74 ?_
              refine at_iadd hX dX0_isInner_75 ?_
              obtain ⟨v76, e1, e⟩ := ob_some e
              refine at_callV3 hX cv_X0_23 (by decide) (c_X0_colourAt _ _ _ _ _ _ e1) (Nat.le_of_ble_eq_true rfl) dX0_isInner_76 ?_
              refine at_if_eq hX (tgt := 86) (by decide) dX0_isInner_79 (fun c79 => ?_) (fun c79 => ?_)
              · replace e := ip_ c79 e
                refine at_iconst hX (v := 0) (by decide) dX0_isInner_86 ?_
                exact at_ireturn hX hR rfl (by cases e; rfl) rfl dX0_isInner_87
              · replace e := in_ c79 e
                refine at_iconst hX (v := 1) (by decide) dX0_isInner_82 ?_
                refine at_goto hX (tgt := 87) (by decide) dX0_isInner_83 ?_
                exact at_ireturn hX hR rfl (by cases e; rfl) rfl dX0_isInner_87

def F_X0_countCells_23 (k4 : Int32 → Int32 → Hp → Option Int32) (x1 : Int32) (x2 : Int32) (h : Hp) : Option Int32 := k4 x1 (x2 + (1 : Int32)) h
theorem A_X0_countCells_23 {X : CX} {h : Hp} {r : Int32} (hn : (xc_ X).maxLocals = 3) (hX : Ok_ X RX0 cX0_countCells 1) (hR : Rt_ X (some .int) (some (.int r)) h) (k4 : Int32 → Int32 → Hp → Option Int32) (hk4 : ∀ (x1 : Int32) (x2 : Int32), k4 x1 x2 h = some r → At_ X 4 [(0, .ref 0), (1, .int x1), (2, .int x2)] [] h) (x1 : Int32) (x2 : Int32) (e : F_X0_countCells_23 k4 x1 x2 h = some r) : At_ X 23 [(0, .ref 0), (1, .int x1), (2, .int x2)] [] h := by
  unfold F_X0_countCells_23 at e
  refine at_iinc hX hn (by decide) rfl (v := 1) (by decide) dX0_countCells_23 ?_
  refine at_goto hX (tgt := 4) (by decide) dX0_countCells_26 ?_
  exact at_sub [0, 1, 2] rfl (hk4 _ _ e)
def F_X0_countCells_4 (n : Nat) (x1 : Int32) (x2 : Int32) (h : Hp) : Option Int32 := match n with
  | 0 => none
  | n + 1 => if (180 : Int32) ≤ x2 then some x1 else rA_ h 8 180 x2 fun v16 => if v16 = (0 : Int32) then (F_X0_countCells_23 (F_X0_countCells_4 n)) x1 x2 h else (F_X0_countCells_23 (F_X0_countCells_4 n)) (x1 + (1 : Int32)) x2 h
theorem A_X0_countCells_4 {X : CX} {h : Hp} {r : Int32} (hn : (xc_ X).maxLocals = 3) (hX : Ok_ X RX0 cX0_countCells 1) (hR : Rt_ X (some .int) (some (.int r)) h) : ∀ (n : Nat) (x1 : Int32) (x2 : Int32), F_X0_countCells_4 n x1 x2 h = some r → At_ X 4 [(0, .ref 0), (1, .int x1), (2, .int x2)] [] h := by
  intro n
  induction n with
  | zero => intro x1 x2 e; cases e
  | succ n ih =>
    intro x1 x2 e
    rw [F_X0_countCells_4] at e
    refine at_iload_n hX rfl rfl dX0_countCells_4 ?_
    refine at_sipush hX (v := 180) (by decide) dX0_countCells_5 ?_
    refine at_icmp_ge hX (tgt := 29) (by decide) dX0_countCells_8 (fun c8 => ?_) (fun c8 => ?_)
    · replace e := ip_ c8 e
      refine at_iload_n hX rfl rfl dX0_countCells_29 ?_
      exact at_ireturn hX hR rfl (by cases e; rfl) rfl dX0_countCells_30
    · replace e := in_ c8 e
      refine at_aload_n hX rfl rfl dX0_countCells_11 ?_
      refine gf_X0_9 hX dX0_countCells_12 ?_
      refine at_iload_n hX rfl rfl dX0_countCells_15 ?_
      obtain ⟨hi, v16, ev16, e⟩ := rA_some e
      refine at_iald hX (o := 8) (by decide) rfl hi dX0_countCells_16 ?_
      refine at_ti ev16 ?_
      refine at_if_eq hX (tgt := 23) (by decide) dX0_countCells_17 (fun c17 => ?_) (fun c17 => ?_)
      · replace e := ip_ c17 e
        exact at_sub [0, 1, 2] rfl ((A_X0_countCells_23 hn hX hR (F_X0_countCells_4 n) ih) _ _ e)
      · replace e := in_ c17 e
        refine at_iinc hX hn (by decide) rfl (v := 1) (by decide) dX0_countCells_20 ?_
        exact at_sub [0, 1, 2] rfl ((A_X0_countCells_23 hn hX hR (F_X0_countCells_4 n) ih) _ _ e)
def F_X0_countCells (h : Hp) : Option Int32 := (F_X0_countCells_4 FU_) (0 : Int32) (0 : Int32) h
theorem c_X0_countCells (l : Launch) (G : Gl) (h : Hp) {r : Int32} (e : F_X0_countCells  h = some r) : Does l G 1 M_X0_countCells [.ref 0] h (some (.int r)) h := by
  refine Does.of (by decide) rfl (Nat.le_of_ble_eq_true rfl) (fun X hl hG hn hX hR => ?_)
  unfold F_X0_countCells at e
  subst hl; subst hG
  show At_ X 0 [(0, .ref 0)] [] h
  refine at_iconst hX (v := 0) (by decide) dX0_countCells_0 ?_
  refine at_istore_n hX rfl hn (by decide) dX0_countCells_1 ?_
  refine at_iconst hX (v := 0) (by decide) dX0_countCells_2 ?_
  refine at_istore_n hX rfl hn (by decide) dX0_countCells_3 ?_
  exact at_sub [0, 1, 2] rfl ((A_X0_countCells_4 hn hX hR FU_) _ _ e)

def F_X0_countInner_51 (k4 : Int32 → Int32 → Hp → Option Int32) (x1 : Int32) (x2 : Int32) (h : Hp) : Option Int32 := k4 x1 (x2 + (1 : Int32)) h
theorem A_X0_countInner_51 {X : CX} {h : Hp} {r : Int32} (hn : (xc_ X).maxLocals = 5) (hX : Ok_ X RX0 cX0_countInner 4) (hR : Rt_ X (some .int) (some (.int r)) h) (k4 : Int32 → Int32 → Hp → Option Int32) (hk4 : ∀ (x1 : Int32) (x2 : Int32), k4 x1 x2 h = some r → At_ X 4 [(0, .ref 0), (1, .int x1), (2, .int x2)] [] h) (x1 : Int32) (x2 : Int32) (e : F_X0_countInner_51 k4 x1 x2 h = some r) : At_ X 51 [(0, .ref 0), (1, .int x1), (2, .int x2)] [] h := by
  unfold F_X0_countInner_51 at e
  refine at_iinc hX hn (by decide) rfl (v := 1) (by decide) dX0_countInner_51 ?_
  refine at_goto hX (tgt := 4) (by decide) dX0_countInner_54 ?_
  exact at_sub [0, 1, 2] rfl (hk4 _ _ e)
def F_X0_countInner_45 (k11 : Int32 → Int32 → Int32 → Hp → Option Int32) (x1 : Int32) (x2 : Int32) (x3 : Int32) (h : Hp) : Option Int32 := k11 x1 x2 (x3 + (1 : Int32)) h
theorem A_X0_countInner_45 {X : CX} {h : Hp} {r : Int32} (hn : (xc_ X).maxLocals = 5) (hX : Ok_ X RX0 cX0_countInner 4) (hR : Rt_ X (some .int) (some (.int r)) h) (k11 : Int32 → Int32 → Int32 → Hp → Option Int32) (hk11 : ∀ (x1 : Int32) (x2 : Int32) (x3 : Int32), k11 x1 x2 x3 h = some r → At_ X 11 [(0, .ref 0), (1, .int x1), (2, .int x2), (3, .int x3)] [] h) (x1 : Int32) (x2 : Int32) (x3 : Int32) (e : F_X0_countInner_45 k11 x1 x2 x3 h = some r) : At_ X 45 [(0, .ref 0), (1, .int x1), (2, .int x2), (3, .int x3)] [] h := by
  unfold F_X0_countInner_45 at e
  refine at_iinc hX hn (by decide) rfl (v := 1) (by decide) dX0_countInner_45 ?_
  refine at_goto hX (tgt := 11) (by decide) dX0_countInner_48 ?_
  exact at_sub [0, 1, 2, 3] rfl (hk11 _ _ _ e)
def F_X0_countInner_39 (k19 : Int32 → Int32 → Int32 → Int32 → Hp → Option Int32) (x1 : Int32) (x2 : Int32) (x3 : Int32) (x4 : Int32) (h : Hp) : Option Int32 := k19 x1 x2 x3 (x4 + (1 : Int32)) h
theorem A_X0_countInner_39 {X : CX} {h : Hp} {r : Int32} (hn : (xc_ X).maxLocals = 5) (hX : Ok_ X RX0 cX0_countInner 4) (hR : Rt_ X (some .int) (some (.int r)) h) (k19 : Int32 → Int32 → Int32 → Int32 → Hp → Option Int32) (hk19 : ∀ (x1 : Int32) (x2 : Int32) (x3 : Int32) (x4 : Int32), k19 x1 x2 x3 x4 h = some r → At_ X 19 [(0, .ref 0), (1, .int x1), (2, .int x2), (3, .int x3), (4, .int x4)] [] h) (x1 : Int32) (x2 : Int32) (x3 : Int32) (x4 : Int32) (e : F_X0_countInner_39 k19 x1 x2 x3 x4 h = some r) : At_ X 39 [(0, .ref 0), (1, .int x1), (2, .int x2), (3, .int x3), (4, .int x4)] [] h := by
  unfold F_X0_countInner_39 at e
  refine at_iinc hX hn (by decide) rfl (v := 1) (by decide) dX0_countInner_39 ?_
  refine at_goto hX (tgt := 19) (by decide) dX0_countInner_42 ?_
  exact at_sub [0, 1, 2, 3, 4] rfl (hk19 _ _ _ _ e)
def F_X0_countInner_19 (n : Nat) (k45 : Int32 → Int32 → Int32 → Hp → Option Int32) (x1 : Int32) (x2 : Int32) (x3 : Int32) (x4 : Int32) (h : Hp) : Option Int32 := match n with
  | 0 => none
  | n + 1 => if (5 : Int32) ≤ x4 then k45 x1 x2 x3 h else (F_X0_isInner x4 x3 x2 h).bind fun v30 => if v30 = (0 : Int32) then (F_X0_countInner_39 (F_X0_countInner_19 n k45)) x1 x2 x3 x4 h else (F_X0_countInner_39 (F_X0_countInner_19 n k45)) (x1 + (1 : Int32)) x2 x3 x4 h
theorem A_X0_countInner_19 {X : CX} {h : Hp} {r : Int32} (hn : (xc_ X).maxLocals = 5) (hX : Ok_ X RX0 cX0_countInner 4) (hR : Rt_ X (some .int) (some (.int r)) h) (k45 : Int32 → Int32 → Int32 → Hp → Option Int32) (hk45 : ∀ (x1 : Int32) (x2 : Int32) (x3 : Int32), k45 x1 x2 x3 h = some r → At_ X 45 [(0, .ref 0), (1, .int x1), (2, .int x2), (3, .int x3)] [] h) : ∀ (n : Nat) (x1 : Int32) (x2 : Int32) (x3 : Int32) (x4 : Int32), F_X0_countInner_19 n k45 x1 x2 x3 x4 h = some r → At_ X 19 [(0, .ref 0), (1, .int x1), (2, .int x2), (3, .int x3), (4, .int x4)] [] h := by
  intro n
  induction n with
  | zero => intro x1 x2 x3 x4 e; cases e
  | succ n ih =>
    intro x1 x2 x3 x4 e
    rw [F_X0_countInner_19] at e
    refine at_iload hX rfl dX0_countInner_19 ?_
    refine at_iconst hX (v := 5) (by decide) dX0_countInner_21 ?_
    refine at_icmp_ge hX (tgt := 45) (by decide) dX0_countInner_22 (fun c22 => ?_) (fun c22 => ?_)
    · replace e := ip_ c22 e
      exact at_sub [0, 1, 2, 3] rfl (hk45 _ _ _ e)
    · replace e := in_ c22 e
      refine at_aload_n hX rfl rfl dX0_countInner_25 ?_
      refine at_iload hX rfl dX0_countInner_26 ?_
      refine at_iload_n hX rfl rfl dX0_countInner_28 ?_
      refine at_iload_n hX rfl rfl dX0_countInner_29 ?_
      obtain ⟨v30, e1, e⟩ := ob_some e
      refine at_callV3 hX cv_X0_26 (by decide) (c_X0_isInner _ _ _ _ _ _ e1) (Nat.le_of_ble_eq_true rfl) dX0_countInner_30 ?_
      refine at_if_eq hX (tgt := 39) (by decide) dX0_countInner_33 (fun c33 => ?_) (fun c33 => ?_)
      · replace e := ip_ c33 e
        exact at_sub [0, 1, 2, 3, 4] rfl ((A_X0_countInner_39 hn hX hR (F_X0_countInner_19 n k45) ih) _ _ _ _ e)
      · replace e := in_ c33 e
        refine at_iinc hX hn (by decide) rfl (v := 1) (by decide) dX0_countInner_36 ?_
        exact at_sub [0, 1, 2, 3, 4] rfl ((A_X0_countInner_39 hn hX hR (F_X0_countInner_19 n k45) ih) _ _ _ _ e)
def F_X0_countInner_11 (n : Nat) (k51 : Int32 → Int32 → Hp → Option Int32) (x1 : Int32) (x2 : Int32) (x3 : Int32) (h : Hp) : Option Int32 := match n with
  | 0 => none
  | n + 1 => if (5 : Int32) ≤ x3 then k51 x1 x2 h else (F_X0_countInner_19 FU_ (F_X0_countInner_45 (F_X0_countInner_11 n k51))) x1 x2 x3 (1 : Int32) h
theorem A_X0_countInner_11 {X : CX} {h : Hp} {r : Int32} (hn : (xc_ X).maxLocals = 5) (hX : Ok_ X RX0 cX0_countInner 4) (hR : Rt_ X (some .int) (some (.int r)) h) (k51 : Int32 → Int32 → Hp → Option Int32) (hk51 : ∀ (x1 : Int32) (x2 : Int32), k51 x1 x2 h = some r → At_ X 51 [(0, .ref 0), (1, .int x1), (2, .int x2)] [] h) : ∀ (n : Nat) (x1 : Int32) (x2 : Int32) (x3 : Int32), F_X0_countInner_11 n k51 x1 x2 x3 h = some r → At_ X 11 [(0, .ref 0), (1, .int x1), (2, .int x2), (3, .int x3)] [] h := by
  intro n
  induction n with
  | zero => intro x1 x2 x3 e; cases e
  | succ n ih =>
    intro x1 x2 x3 e
    rw [F_X0_countInner_11] at e
    refine at_iload_n hX rfl rfl dX0_countInner_11 ?_
    refine at_iconst hX (v := 5) (by decide) dX0_countInner_12 ?_
    refine at_icmp_ge hX (tgt := 51) (by decide) dX0_countInner_13 (fun c13 => ?_) (fun c13 => ?_)
    · replace e := ip_ c13 e
      exact at_sub [0, 1, 2] rfl (hk51 _ _ e)
    · replace e := in_ c13 e
      refine at_iconst hX (v := 1) (by decide) dX0_countInner_16 ?_
      refine at_istore hX hn (by decide) dX0_countInner_17 ?_
      exact at_sub [0, 1, 2, 3, 4] rfl ((A_X0_countInner_19 hn hX hR (F_X0_countInner_45 (F_X0_countInner_11 n k51)) (A_X0_countInner_45 hn hX hR (F_X0_countInner_11 n k51) ih) FU_) _ _ _ _ e)
def F_X0_countInner_4 (n : Nat) (x1 : Int32) (x2 : Int32) (h : Hp) : Option Int32 := match n with
  | 0 => none
  | n + 1 => if (4 : Int32) ≤ x2 then some x1 else (F_X0_countInner_11 FU_ (F_X0_countInner_51 (F_X0_countInner_4 n))) x1 x2 (1 : Int32) h
theorem A_X0_countInner_4 {X : CX} {h : Hp} {r : Int32} (hn : (xc_ X).maxLocals = 5) (hX : Ok_ X RX0 cX0_countInner 4) (hR : Rt_ X (some .int) (some (.int r)) h) : ∀ (n : Nat) (x1 : Int32) (x2 : Int32), F_X0_countInner_4 n x1 x2 h = some r → At_ X 4 [(0, .ref 0), (1, .int x1), (2, .int x2)] [] h := by
  intro n
  induction n with
  | zero => intro x1 x2 e; cases e
  | succ n ih =>
    intro x1 x2 e
    rw [F_X0_countInner_4] at e
    refine at_iload_n hX rfl rfl dX0_countInner_4 ?_
    refine at_iconst hX (v := 4) (by decide) dX0_countInner_5 ?_
    refine at_icmp_ge hX (tgt := 57) (by decide) dX0_countInner_6 (fun c6 => ?_) (fun c6 => ?_)
    · replace e := ip_ c6 e
      refine at_iload_n hX rfl rfl dX0_countInner_57 ?_
      exact at_ireturn hX hR rfl (by cases e; rfl) rfl dX0_countInner_58
    · replace e := in_ c6 e
      refine at_iconst hX (v := 1) (by decide) dX0_countInner_9 ?_
      refine at_istore_n hX rfl hn (by decide) dX0_countInner_10 ?_
      exact at_sub [0, 1, 2, 3] rfl ((A_X0_countInner_11 hn hX hR (F_X0_countInner_51 (F_X0_countInner_4 n)) (A_X0_countInner_51 hn hX hR (F_X0_countInner_4 n) ih) FU_) _ _ _ e)
def F_X0_countInner (h : Hp) : Option Int32 := (F_X0_countInner_4 FU_) (0 : Int32) (1 : Int32) h
theorem c_X0_countInner (l : Launch) (G : Gl) (h : Hp) {r : Int32} (e : F_X0_countInner  h = some r) : Does l G 4 M_X0_countInner [.ref 0] h (some (.int r)) h := by
  refine Does.of (by decide) rfl (Nat.le_of_ble_eq_true rfl) (fun X hl hG hn hX hR => ?_)
  unfold F_X0_countInner at e
  subst hl; subst hG
  show At_ X 0 [(0, .ref 0)] [] h
  refine at_iconst hX (v := 0) (by decide) dX0_countInner_0 ?_
  refine at_istore_n hX rfl hn (by decide) dX0_countInner_1 ?_
  refine at_iconst hX (v := 1) (by decide) dX0_countInner_2 ?_
  refine at_istore_n hX rfl hn (by decide) dX0_countInner_3 ?_
  exact at_sub [0, 1, 2] rfl ((A_X0_countInner_4 hn hX hR FU_) _ _ e)

def F_X6_isKind (x0 : Int32) : Option Int32 := if x0 < (0 : Int32) then some (0 : Int32) else if (7 : Int32) ≤ x0 then some (0 : Int32) else some (1 : Int32)
theorem c_X6_isKind (l : Launch) (G : Gl) (x0 : Int32) (h : Hp) {r : Int32} (e : F_X6_isKind x0 = some r) : Does l G 1 M_X6_isKind [.int x0] h (some (.int r)) h := by
  refine Does.of (by decide) rfl (Nat.le_of_ble_eq_true rfl) (fun X hl hG hn hX hR => ?_)
  unfold F_X6_isKind at e
  subst hl; subst hG
  show At_ X 0 [(0, .int x0)] [] h
  refine at_iload_n hX rfl rfl dX6_isKind_0 ?_
  refine at_if_lt hX (tgt := 14) (by decide) dX6_isKind_1 (fun c1 => ?_) (fun c1 => ?_)
  · replace e := ip_ c1 e
    refine at_iconst hX (v := 0) (by decide) dX6_isKind_14 ?_
    exact at_ireturn hX hR rfl (by cases e; rfl) rfl dX6_isKind_15
  · replace e := in_ c1 e
    refine at_iload_n hX rfl rfl dX6_isKind_4 ?_
    refine at_bipush hX (v := 7) (by decide) dX6_isKind_5 ?_
    refine at_icmp_ge hX (tgt := 14) (by decide) dX6_isKind_7 (fun c7 => ?_) (fun c7 => ?_)
    · replace e := ip_ c7 e
      refine at_iconst hX (v := 0) (by decide) dX6_isKind_14 ?_
      exact at_ireturn hX hR rfl (by cases e; rfl) rfl dX6_isKind_15
    · replace e := in_ c7 e
      refine at_iconst hX (v := 1) (by decide) dX6_isKind_10 ?_
      refine at_goto hX (tgt := 15) (by decide) dX6_isKind_11 ?_
      exact at_ireturn hX hR rfl (by cases e; rfl) rfl dX6_isKind_15

def F_X1_fill (x1 : Int32) (x2 : Int32) (h : Hp) : Option (Int32 × Hp) := (F_X6_isKind x1).bind fun v1 => if v1 = (0 : Int32) then some ((0 : Int32), h) else rA_ h 9 7 x1 fun v14 => wA_ h 9 7 x1 x2 fun h22 => some (v14, h22)
theorem c_X1_fill (l : Launch) (G : Gl) (x1 : Int32) (x2 : Int32) (h : Hp) {r : Int32} {h' : Hp} (e : F_X1_fill x1 x2 h = some (r, h')) : Does l G 2 M_X1_fill [.ref 1, .int x1, .int x2] h (some (.int r)) h' := by
  refine Does.of (by decide) rfl (Nat.le_of_ble_eq_true rfl) (fun X hl hG hn hX hR => ?_)
  unfold F_X1_fill at e
  subst hl; subst hG
  show At_ X 0 [(0, .ref 1), (1, .int x1), (2, .int x2)] [] h
  refine at_iload_n hX rfl rfl dX1_fill_0 ?_
  obtain ⟨v1, e1, e⟩ := ob_some e
  refine at_callN1 hX cv_X1_25 (by decide) (c_X6_isKind _ _ _ _ e1) (Nat.le_of_ble_eq_true rfl) dX1_fill_1 ?_
  refine at_if_ne hX (tgt := 9) (by decide) dX1_fill_4 (fun c4 => ?_) (fun c4 => ?_)
  · replace e := in_ c4 e
    refine at_aload_n hX rfl rfl dX1_fill_9 ?_
    refine gf_X1_9 hX dX1_fill_10 ?_
    refine at_iload_n hX rfl rfl dX1_fill_13 ?_
    obtain ⟨hi, v14, ev14, e⟩ := rA_some e
    refine at_iald hX (o := 9) (by decide) rfl hi dX1_fill_14 ?_
    refine at_ti ev14 ?_
    refine at_istore_n hX rfl hn (by decide) dX1_fill_15 ?_
    refine at_aload_n hX rfl rfl dX1_fill_16 ?_
    refine gf_X1_9 hX dX1_fill_17 ?_
    refine at_iload_n hX rfl rfl dX1_fill_20 ?_
    refine at_iload_n hX rfl rfl dX1_fill_21 ?_
    obtain ⟨hi, h22, eh22, e⟩ := wA_some e
    refine at_iast hX (o := 9) (by decide) rfl hi dX1_fill_22 ?_
    refine at_th eh22 ?_
    refine at_iload_n hX rfl rfl dX1_fill_23 ?_
    exact at_ireturn hX hR rfl (by cases e; rfl) (by cases e; rfl) dX1_fill_24
  · replace e := ip_ c4 e
    refine at_iconst hX (v := 0) (by decide) dX1_fill_7 ?_
    exact at_ireturn hX hR rfl (by cases e; rfl) (by cases e; rfl) dX1_fill_8

def F_X1_shortOf (x1 : Int32) (h : Hp) : Option Int32 := (F_X6_isKind x1).bind fun v1 => if v1 = (0 : Int32) then some (0 : Int32) else rA_ h 11 7 x1 fun v12 => some v12
theorem c_X1_shortOf (l : Launch) (G : Gl) (x1 : Int32) (h : Hp) {r : Int32} (e : F_X1_shortOf x1 h = some r) : Does l G 2 M_X1_shortOf [.ref 1, .int x1] h (some (.int r)) h := by
  refine Does.of (by decide) rfl (Nat.le_of_ble_eq_true rfl) (fun X hl hG hn hX hR => ?_)
  unfold F_X1_shortOf at e
  subst hl; subst hG
  show At_ X 0 [(0, .ref 1), (1, .int x1)] [] h
  refine at_iload_n hX rfl rfl dX1_shortOf_0 ?_
  obtain ⟨v1, e1, e⟩ := ob_some e
  refine at_callN1 hX cv_X1_25 (by decide) (c_X6_isKind _ _ _ _ e1) (Nat.le_of_ble_eq_true rfl) dX1_shortOf_1 ?_
  refine at_if_eq hX (tgt := 16) (by decide) dX1_shortOf_4 (fun c4 => ?_) (fun c4 => ?_)
  · replace e := ip_ c4 e
    refine at_iconst hX (v := 0) (by decide) dX1_shortOf_16 ?_
    exact at_ireturn hX hR rfl (by cases e; rfl) rfl dX1_shortOf_17
  · replace e := in_ c4 e
    refine at_aload_n hX rfl rfl dX1_shortOf_7 ?_
    refine gf_X1_18 hX dX1_shortOf_8 ?_
    refine at_iload_n hX rfl rfl dX1_shortOf_11 ?_
    obtain ⟨hi, v12, ev12, e⟩ := rA_some e
    refine at_iald hX (o := 11) (by decide) rfl hi dX1_shortOf_12 ?_
    refine at_ti ev12 ?_
    refine at_goto hX (tgt := 17) (by decide) dX1_shortOf_13 ?_
    exact at_ireturn hX hR rfl (by cases e; rfl) rfl dX1_shortOf_17

def F_X2_ever (h : Hp) : Option Int32 := some (gI_ h 138)
theorem c_X2_ever (l : Launch) (G : Gl) (h : Hp) {r : Int32} (e : F_X2_ever  h = some r) : Does l G 1 M_X2_ever [.ref 2] h (some (.int r)) h := by
  refine Does.of (by decide) rfl (Nat.le_of_ble_eq_true rfl) (fun X hl hG hn hX hR => ?_)
  unfold F_X2_ever at e
  subst hl; subst hG
  show At_ X 0 [(0, .ref 2)] [] h
  refine at_aload_n hX rfl rfl dX2_ever_0 ?_
  refine gf_X2_60 hX dX2_ever_1 ?_
  exact at_ireturn hX hR rfl (by cases e; rfl) rfl dX2_ever_4

def F_X2_exists (x1 : Int32) (h : Hp) : Option Int32 := if x1 < (0 : Int32) then some (0 : Int32) else if gI_ h 138 ≤ x1 then some (0 : Int32) else some (1 : Int32)
theorem c_X2_exists (l : Launch) (G : Gl) (x1 : Int32) (h : Hp) {r : Int32} (e : F_X2_exists x1 h = some r) : Does l G 1 M_X2_exists [.ref 2, .int x1] h (some (.int r)) h := by
  refine Does.of (by decide) rfl (Nat.le_of_ble_eq_true rfl) (fun X hl hG hn hX hR => ?_)
  unfold F_X2_exists at e
  subst hl; subst hG
  show At_ X 0 [(0, .ref 2), (1, .int x1)] [] h
  refine at_iload_n hX rfl rfl dX2_exists_0 ?_
  refine at_if_lt hX (tgt := 16) (by decide) dX2_exists_1 (fun c1 => ?_) (fun c1 => ?_)
  · replace e := ip_ c1 e
    refine at_iconst hX (v := 0) (by decide) dX2_exists_16 ?_
    exact at_ireturn hX hR rfl (by cases e; rfl) rfl dX2_exists_17
  · replace e := in_ c1 e
    refine at_iload_n hX rfl rfl dX2_exists_4 ?_
    refine at_aload_n hX rfl rfl dX2_exists_5 ?_
    refine gf_X2_60 hX dX2_exists_6 ?_
    refine at_icmp_ge hX (tgt := 16) (by decide) dX2_exists_9 (fun c9 => ?_) (fun c9 => ?_)
    · replace e := ip_ c9 e
      refine at_iconst hX (v := 0) (by decide) dX2_exists_16 ?_
      exact at_ireturn hX hR rfl (by cases e; rfl) rfl dX2_exists_17
    · replace e := in_ c9 e
      refine at_iconst hX (v := 1) (by decide) dX2_exists_12 ?_
      refine at_goto hX (tgt := 17) (by decide) dX2_exists_13 ?_
      exact at_ireturn hX hR rfl (by cases e; rfl) rfl dX2_exists_17

def F_X2_isThere (x1 : Int32) (h : Hp) : Option Int32 := (F_X2_exists x1 h).bind fun v2 => if v2 = (0 : Int32) then some (0 : Int32) else if (lu_ (gJ_ h 139) x1) &&& (1 : Int64) = (1 : Int64) then some (1 : Int32) else some (0 : Int32)
theorem c_X2_isThere (l : Launch) (G : Gl) (x1 : Int32) (h : Hp) {r : Int32} (e : F_X2_isThere x1 h = some r) : Does l G 2 M_X2_isThere [.ref 2, .int x1] h (some (.int r)) h := by
  refine Does.of (by decide) rfl (Nat.le_of_ble_eq_true rfl) (fun X hl hG hn hX hR => ?_)
  unfold F_X2_isThere at e
  subst hl; subst hG
  show At_ X 0 [(0, .ref 2), (1, .int x1)] [] h
  refine at_aload_n hX rfl rfl dX2_isThere_0 ?_
  refine at_iload_n hX rfl rfl dX2_isThere_1 ?_
  obtain ⟨v2, e1, e⟩ := ob_some e
  refine at_callV1 hX cv_X2_77 (by decide) (c_X2_exists _ _ _ _ e1) (Nat.le_of_ble_eq_true rfl) dX2_isThere_2 ?_
  refine at_if_eq hX (tgt := 25) (by decide) dX2_isThere_5 (fun c5 => ?_) (fun c5 => ?_)
  · replace e := ip_ c5 e
    refine at_iconst hX (v := 0) (by decide) dX2_isThere_25 ?_
    exact at_ireturn hX hR rfl (by cases e; rfl) rfl dX2_isThere_26
  · replace e := in_ c5 e
    refine at_aload_n hX rfl rfl dX2_isThere_8 ?_
    refine gf_X2_64 hX dX2_isThere_9 ?_
    refine at_iload_n hX rfl rfl dX2_isThere_12 ?_
    refine at_lushr hX dX2_isThere_13 ?_
    refine at_lconst hX (v := 1) (by decide) dX2_isThere_14 ?_
    refine at_land hX dX2_isThere_15 ?_
    refine at_lconst hX (v := 1) (by decide) dX2_isThere_16 ?_
    refine at_lcmp_ne hX (tgt := 25) (by decide) dX2_isThere_17 dX2_isThere_18 (fun c17 => ?_) (fun c17 => ?_)
    · replace e := in_ c17 e
      refine at_iconst hX (v := 0) (by decide) dX2_isThere_25 ?_
      exact at_ireturn hX hR rfl (by cases e; rfl) rfl dX2_isThere_26
    · replace e := ip_ c17 e
      refine at_iconst hX (v := 1) (by decide) dX2_isThere_21 ?_
      refine at_goto hX (tgt := 26) (by decide) dX2_isThere_22 ?_
      exact at_ireturn hX hR rfl (by cases e; rfl) rfl dX2_isThere_26

def F_X2_told (x1 : Int32) (x2 : Int32) (h : Hp) : Option Int32 := (F_X2_exists x1 h).bind fun v2 => if v2 = (0 : Int32) then some (0 : Int32) else if x2 = nI 0 then rA_ h 12 40 x1 fun v53 => some v53 else if x2 = nI 1 then rA_ h 13 40 x1 fun v60 => some v60 else if x2 = nI 2 then rA_ h 14 40 x1 fun v67 => some v67 else if x2 = nI 3 then rA_ h 15 40 x1 fun v74 => some v74 else if x2 = nI 4 then rA_ h 16 40 x1 fun v81 => some v81 else if x2 = nI 5 then rA_ h 17 40 x1 fun v88 => some v88 else (F_X2_isThere x1 h).bind fun v92 => if v92 = (0 : Int32) then some (1 : Int32) else some (0 : Int32)
theorem c_X2_told (l : Launch) (G : Gl) (x1 : Int32) (x2 : Int32) (h : Hp) {r : Int32} (e : F_X2_told x1 x2 h = some r) : Does l G 3 M_X2_told [.ref 2, .int x1, .int x2] h (some (.int r)) h := by
  refine Does.of (by decide) rfl (Nat.le_of_ble_eq_true rfl) (fun X hl hG hn hX hR => ?_)
  unfold F_X2_told at e
  subst hl; subst hG
  show At_ X 0 [(0, .ref 2), (1, .int x1), (2, .int x2)] [] h
  refine at_aload_n hX rfl rfl dX2_told_0 ?_
  refine at_iload_n hX rfl rfl dX2_told_1 ?_
  obtain ⟨v2, e1, e⟩ := ob_some e
  refine at_callV1 hX cv_X2_77 (by decide) (c_X2_exists _ _ _ _ e1) (Nat.le_of_ble_eq_true rfl) dX2_told_2 ?_
  refine at_if_ne hX (tgt := 10) (by decide) dX2_told_5 (fun c5 => ?_) (fun c5 => ?_)
  · replace e := in_ c5 e
    refine at_iload_n hX rfl rfl dX2_told_10 ?_
    by_cases w0 : x2 = nI 0
    · replace e := ip_ w0 e
      refine at_tabIn hX (tgt := 48) 0 37 w0 (by decide) (by decide) rfl (by decide) dX2_told_11 ?_
      refine at_aload_n hX rfl rfl dX2_told_48 ?_
      refine gf_X2_9 hX dX2_told_49 ?_
      refine at_iload_n hX rfl rfl dX2_told_52 ?_
      obtain ⟨hi, v53, ev53, e⟩ := rA_some e
      refine at_iald hX (o := 12) (by decide) rfl hi dX2_told_53 ?_
      refine at_ti ev53 ?_
      exact at_ireturn hX hR rfl (by cases e; rfl) rfl dX2_told_54
    · replace e := in_ w0 e
      by_cases w1 : x2 = nI 1
      · replace e := ip_ w1 e
        refine at_tabIn hX (tgt := 55) 1 44 w1 (by decide) (by decide) rfl (by decide) dX2_told_11 ?_
        refine at_aload_n hX rfl rfl dX2_told_55 ?_
        refine gf_X2_15 hX dX2_told_56 ?_
        refine at_iload_n hX rfl rfl dX2_told_59 ?_
        obtain ⟨hi, v60, ev60, e⟩ := rA_some e
        refine at_iald hX (o := 13) (by decide) rfl hi dX2_told_60 ?_
        refine at_ti ev60 ?_
        exact at_ireturn hX hR rfl (by cases e; rfl) rfl dX2_told_61
      · replace e := in_ w1 e
        by_cases w2 : x2 = nI 2
        · replace e := ip_ w2 e
          refine at_tabIn hX (tgt := 62) 2 51 w2 (by decide) (by decide) rfl (by decide) dX2_told_11 ?_
          refine at_aload_n hX rfl rfl dX2_told_62 ?_
          refine gf_X2_18 hX dX2_told_63 ?_
          refine at_iload_n hX rfl rfl dX2_told_66 ?_
          obtain ⟨hi, v67, ev67, e⟩ := rA_some e
          refine at_iald hX (o := 14) (by decide) rfl hi dX2_told_67 ?_
          refine at_ti ev67 ?_
          exact at_ireturn hX hR rfl (by cases e; rfl) rfl dX2_told_68
        · replace e := in_ w2 e
          by_cases w3 : x2 = nI 3
          · replace e := ip_ w3 e
            refine at_tabIn hX (tgt := 69) 3 58 w3 (by decide) (by decide) rfl (by decide) dX2_told_11 ?_
            refine at_aload_n hX rfl rfl dX2_told_69 ?_
            refine gf_X2_21 hX dX2_told_70 ?_
            refine at_iload_n hX rfl rfl dX2_told_73 ?_
            obtain ⟨hi, v74, ev74, e⟩ := rA_some e
            refine at_iald hX (o := 15) (by decide) rfl hi dX2_told_74 ?_
            refine at_ti ev74 ?_
            exact at_ireturn hX hR rfl (by cases e; rfl) rfl dX2_told_75
          · replace e := in_ w3 e
            by_cases w4 : x2 = nI 4
            · replace e := ip_ w4 e
              refine at_tabIn hX (tgt := 76) 4 65 w4 (by decide) (by decide) rfl (by decide) dX2_told_11 ?_
              refine at_aload_n hX rfl rfl dX2_told_76 ?_
              refine gf_X2_24 hX dX2_told_77 ?_
              refine at_iload_n hX rfl rfl dX2_told_80 ?_
              obtain ⟨hi, v81, ev81, e⟩ := rA_some e
              refine at_iald hX (o := 16) (by decide) rfl hi dX2_told_81 ?_
              refine at_ti ev81 ?_
              exact at_ireturn hX hR rfl (by cases e; rfl) rfl dX2_told_82
            · replace e := in_ w4 e
              by_cases w5 : x2 = nI 5
              · replace e := ip_ w5 e
                refine at_tabIn hX (tgt := 83) 5 72 w5 (by decide) (by decide) rfl (by decide) dX2_told_11 ?_
                refine at_aload_n hX rfl rfl dX2_told_83 ?_
                refine gf_X2_27 hX dX2_told_84 ?_
                refine at_iload_n hX rfl rfl dX2_told_87 ?_
                obtain ⟨hi, v88, ev88, e⟩ := rA_some e
                refine at_iald hX (o := 17) (by decide) rfl hi dX2_told_88 ?_
                refine at_ti ev88 ?_
                exact at_ireturn hX hR rfl (by cases e; rfl) rfl dX2_told_89
              · replace e := in_ w5 e
                refine at_tabOut hX (tgt := 90) (tab_out (hi := 5) (by decide) (fun j hj => by rcases (show j = 0 ∨ j = 1 ∨ j = 2 ∨ j = 3 ∨ j = 4 ∨ j = 5 by omega) with rfl | rfl | rfl | rfl | rfl | rfl <;> assumption)) (by decide) dX2_told_11 ?_
                refine at_aload_n hX rfl rfl dX2_told_90 ?_
                refine at_iload_n hX rfl rfl dX2_told_91 ?_
                obtain ⟨v92, e1, e⟩ := ob_some e
                refine at_callV1 hX cv_X2_96 (by decide) (c_X2_isThere _ _ _ _ e1) (Nat.le_of_ble_eq_true rfl) dX2_told_92 ?_
                refine at_if_eq hX (tgt := 102) (by decide) dX2_told_95 (fun c95 => ?_) (fun c95 => ?_)
                · replace e := ip_ c95 e
                  refine at_iconst hX (v := 1) (by decide) dX2_told_102 ?_
                  exact at_ireturn hX hR rfl (by cases e; rfl) rfl dX2_told_103
                · replace e := in_ c95 e
                  refine at_iconst hX (v := 0) (by decide) dX2_told_98 ?_
                  refine at_goto hX (tgt := 103) (by decide) dX2_told_99 ?_
                  exact at_ireturn hX hR rfl (by cases e; rfl) rfl dX2_told_103
  · replace e := ip_ c5 e
    refine at_iconst hX (v := 0) (by decide) dX2_told_8 ?_
    exact at_ireturn hX hR rfl (by cases e; rfl) rfl dX2_told_9

def F_X1_weighNeeds_106 (k35 : Int32 → Hp → Option Hp) (x1 : Int32) (h : Hp) : Option Hp := k35 (x1 + (1 : Int32)) h
theorem A_X1_weighNeeds_106 {X : CX} {h' : Hp} (hn : (xc_ X).maxLocals = 3) (hX : Ok_ X RX1 cX1_weighNeeds 4) (hR : Rt_ X none none h') (k35 : Int32 → Hp → Option Hp) (hk35 : ∀ (x1 : Int32) (h : Hp), k35 x1 h = some h' → At_ X 35 [(0, .ref 1), (1, .int x1)] [] h) (x1 : Int32) (h : Hp) (e : F_X1_weighNeeds_106 k35 x1 h = some h') : At_ X 106 [(0, .ref 1), (1, .int x1)] [] h := by
  unfold F_X1_weighNeeds_106 at e
  refine at_iinc hX hn (by decide) rfl (v := 1) (by decide) dX1_weighNeeds_106 ?_
  refine at_goto hX (tgt := 35) (by decide) dX1_weighNeeds_109 ?_
  exact at_sub [0, 1] rfl (hk35 _ _ e)
def F_X1_weighNeeds_35 (n : Nat) (x1 : Int32) (h : Hp) : Option Hp := match n with
  | 0 => none
  | n + 1 => (F_X2_ever  h).bind fun v40 => if v40 ≤ x1 then some h else (F_X2_told x1 (0 : Int32) h).bind fun v52 => (F_X2_isThere x1 h).bind fun v61 => if v61 = (0 : Int32) then (F_X1_weighNeeds_106 (F_X1_weighNeeds_35 n)) x1 h else (F_X6_isKind v52).bind fun v68 => if v68 = (0 : Int32) then (F_X1_weighNeeds_106 (F_X1_weighNeeds_35 n)) x1 h else rA_ h 10 7 v52 fun v79 => if v79 ≤ (0 : Int32) then rA_ h 11 7 v52 fun v102 => wA_ h 11 7 v52 (v102 + (1 : Int32)) fun h105 => (F_X1_weighNeeds_106 (F_X1_weighNeeds_35 n)) x1 h105 else rA_ h 10 7 v52 fun v89 => wA_ h 10 7 v52 (v89 - (1 : Int32)) fun h92 => (F_X1_weighNeeds_106 (F_X1_weighNeeds_35 n)) x1 h92
theorem A_X1_weighNeeds_35 {X : CX} {h' : Hp} (hn : (xc_ X).maxLocals = 3) (hX : Ok_ X RX1 cX1_weighNeeds 4) (hR : Rt_ X none none h') : ∀ (n : Nat) (x1 : Int32) (h : Hp), F_X1_weighNeeds_35 n x1 h = some h' → At_ X 35 [(0, .ref 1), (1, .int x1)] [] h := by
  intro n
  induction n with
  | zero => intro x1 h e; cases e
  | succ n ih =>
    intro x1 h e
    rw [F_X1_weighNeeds_35] at e
    refine at_iload_n hX rfl rfl dX1_weighNeeds_35 ?_
    refine at_aload_n hX rfl rfl dX1_weighNeeds_36 ?_
    refine gf_X1_21 hX dX1_weighNeeds_37 ?_
    obtain ⟨v40, e1, e⟩ := ob_some e
    refine at_callV0 hX cv_X1_42 (by decide) (c_X2_ever _ _  _ e1) (Nat.le_of_ble_eq_true rfl) dX1_weighNeeds_40 ?_
    refine at_icmp_ge hX (tgt := 112) (by decide) dX1_weighNeeds_43 (fun c43 => ?_) (fun c43 => ?_)
    · replace e := ip_ c43 e
      exact at_return hX hR rfl (by cases e; rfl) dX1_weighNeeds_112
    · replace e := in_ c43 e
      refine at_aload_n hX rfl rfl dX1_weighNeeds_46 ?_
      refine gf_X1_21 hX dX1_weighNeeds_47 ?_
      refine at_iload_n hX rfl rfl dX1_weighNeeds_50 ?_
      refine at_iconst hX (v := 0) (by decide) dX1_weighNeeds_51 ?_
      obtain ⟨v52, e1, e⟩ := ob_some e
      refine at_callV2 hX cv_X1_48 (by decide) (c_X2_told _ _ _ _ _ e1) (Nat.le_of_ble_eq_true rfl) dX1_weighNeeds_52 ?_
      refine at_istore_n hX rfl hn (by decide) dX1_weighNeeds_55 ?_
      refine at_aload_n hX rfl rfl dX1_weighNeeds_56 ?_
      refine gf_X1_21 hX dX1_weighNeeds_57 ?_
      refine at_iload_n hX rfl rfl dX1_weighNeeds_60 ?_
      obtain ⟨v61, e1, e⟩ := ob_some e
      refine at_callV1 hX cv_X1_52 (by decide) (c_X2_isThere _ _ _ _ e1) (Nat.le_of_ble_eq_true rfl) dX1_weighNeeds_61 ?_
      refine at_if_eq hX (tgt := 106) (by decide) dX1_weighNeeds_64 (fun c64 => ?_) (fun c64 => ?_)
      · replace e := ip_ c64 e
        exact at_sub [0, 1] rfl ((A_X1_weighNeeds_106 hn hX hR (F_X1_weighNeeds_35 n) ih) _ _ e)
      · replace e := in_ c64 e
        refine at_iload_n hX rfl rfl dX1_weighNeeds_67 ?_
        obtain ⟨v68, e1, e⟩ := ob_some e
        refine at_callN1 hX cv_X1_25 (by decide) (c_X6_isKind _ _ _ _ e1) (Nat.le_of_ble_eq_true rfl) dX1_weighNeeds_68 ?_
        refine at_if_eq hX (tgt := 106) (by decide) dX1_weighNeeds_71 (fun c71 => ?_) (fun c71 => ?_)
        · replace e := ip_ c71 e
          exact at_sub [0, 1] rfl ((A_X1_weighNeeds_106 hn hX hR (F_X1_weighNeeds_35 n) ih) _ _ e)
        · replace e := in_ c71 e
          refine at_aload_n hX rfl rfl dX1_weighNeeds_74 ?_
          refine gf_X1_15 hX dX1_weighNeeds_75 ?_
          refine at_iload_n hX rfl rfl dX1_weighNeeds_78 ?_
          obtain ⟨hi, v79, ev79, e⟩ := rA_some e
          refine at_iald hX (o := 10) (by decide) rfl hi dX1_weighNeeds_79 ?_
          refine at_ti ev79 ?_
          refine at_if_le hX (tgt := 96) (by decide) dX1_weighNeeds_80 (fun c80 => ?_) (fun c80 => ?_)
          · replace e := ip_ c80 e
            refine at_aload_n hX rfl rfl dX1_weighNeeds_96 ?_
            refine gf_X1_18 hX dX1_weighNeeds_97 ?_
            refine at_iload_n hX rfl rfl dX1_weighNeeds_100 ?_
            refine at_dup2 hX rfl rfl dX1_weighNeeds_101 ?_
            obtain ⟨hi, v102, ev102, e⟩ := rA_some e
            refine at_iald hX (o := 11) (by decide) rfl hi dX1_weighNeeds_102 ?_
            refine at_ti ev102 ?_
            refine at_iconst hX (v := 1) (by decide) dX1_weighNeeds_103 ?_
            refine at_iadd hX dX1_weighNeeds_104 ?_
            obtain ⟨hi, h105, eh105, e⟩ := wA_some e
            refine at_iast hX (o := 11) (by decide) rfl hi dX1_weighNeeds_105 ?_
            refine at_th eh105 ?_
            exact at_sub [0, 1] rfl ((A_X1_weighNeeds_106 hn hX hR (F_X1_weighNeeds_35 n) ih) _ _ e)
          · replace e := in_ c80 e
            refine at_aload_n hX rfl rfl dX1_weighNeeds_83 ?_
            refine gf_X1_15 hX dX1_weighNeeds_84 ?_
            refine at_iload_n hX rfl rfl dX1_weighNeeds_87 ?_
            refine at_dup2 hX rfl rfl dX1_weighNeeds_88 ?_
            obtain ⟨hi, v89, ev89, e⟩ := rA_some e
            refine at_iald hX (o := 10) (by decide) rfl hi dX1_weighNeeds_89 ?_
            refine at_ti ev89 ?_
            refine at_iconst hX (v := 1) (by decide) dX1_weighNeeds_90 ?_
            refine at_isub hX dX1_weighNeeds_91 ?_
            obtain ⟨hi, h92, eh92, e⟩ := wA_some e
            refine at_iast hX (o := 10) (by decide) rfl hi dX1_weighNeeds_92 ?_
            refine at_th eh92 ?_
            refine at_goto hX (tgt := 106) (by decide) dX1_weighNeeds_93 ?_
            exact at_sub [0, 1] rfl ((A_X1_weighNeeds_106 hn hX hR (F_X1_weighNeeds_35 n) ih) _ _ e)
def F_X1_weighNeeds_33 (h : Hp) : Option Hp := (F_X1_weighNeeds_35 FU_) (0 : Int32) h
theorem A_X1_weighNeeds_33 {X : CX} {h' : Hp} (hn : (xc_ X).maxLocals = 3) (hX : Ok_ X RX1 cX1_weighNeeds 4) (hR : Rt_ X none none h') (h : Hp) (e : F_X1_weighNeeds_33  h = some h') : At_ X 33 [(0, .ref 1)] [] h := by
  unfold F_X1_weighNeeds_33 at e
  refine at_iconst hX (v := 0) (by decide) dX1_weighNeeds_33 ?_
  refine at_istore_n hX rfl hn (by decide) dX1_weighNeeds_34 ?_
  exact at_sub [0, 1] rfl ((A_X1_weighNeeds_35 hn hX hR FU_) _ _ e)
def F_X1_weighNeeds_2 (n : Nat) (k33 : Hp → Option Hp) (x1 : Int32) (h : Hp) : Option Hp := match n with
  | 0 => none
  | n + 1 => if (7 : Int32) ≤ x1 then k33 h else rA_ h 9 7 x1 fun v18 => wA_ h 10 7 x1 v18 fun h19 => wA_ h19 11 7 x1 (0 : Int32) fun h26 => (F_X1_weighNeeds_2 n k33) (x1 + (1 : Int32)) h26
theorem A_X1_weighNeeds_2 {X : CX} {h' : Hp} (hn : (xc_ X).maxLocals = 3) (hX : Ok_ X RX1 cX1_weighNeeds 4) (hR : Rt_ X none none h') (k33 : Hp → Option Hp) (hk33 : ∀ (h : Hp), k33  h = some h' → At_ X 33 [(0, .ref 1)] [] h) : ∀ (n : Nat) (x1 : Int32) (h : Hp), F_X1_weighNeeds_2 n k33 x1 h = some h' → At_ X 2 [(0, .ref 1), (1, .int x1)] [] h := by
  intro n
  induction n with
  | zero => intro x1 h e; cases e
  | succ n ih =>
    intro x1 h e
    rw [F_X1_weighNeeds_2] at e
    refine at_iload_n hX rfl rfl dX1_weighNeeds_2 ?_
    refine at_bipush hX (v := 7) (by decide) dX1_weighNeeds_3 ?_
    refine at_icmp_ge hX (tgt := 33) (by decide) dX1_weighNeeds_5 (fun c5 => ?_) (fun c5 => ?_)
    · replace e := ip_ c5 e
      exact at_sub [0] rfl (hk33 _ e)
    · replace e := in_ c5 e
      refine at_aload_n hX rfl rfl dX1_weighNeeds_8 ?_
      refine gf_X1_15 hX dX1_weighNeeds_9 ?_
      refine at_iload_n hX rfl rfl dX1_weighNeeds_12 ?_
      refine at_aload_n hX rfl rfl dX1_weighNeeds_13 ?_
      refine gf_X1_9 hX dX1_weighNeeds_14 ?_
      refine at_iload_n hX rfl rfl dX1_weighNeeds_17 ?_
      obtain ⟨hi, v18, ev18, e⟩ := rA_some e
      refine at_iald hX (o := 9) (by decide) rfl hi dX1_weighNeeds_18 ?_
      refine at_ti ev18 ?_
      obtain ⟨hi, h19, eh19, e⟩ := wA_some e
      refine at_iast hX (o := 10) (by decide) rfl hi dX1_weighNeeds_19 ?_
      refine at_th eh19 ?_
      refine at_aload_n hX rfl rfl dX1_weighNeeds_20 ?_
      refine gf_X1_18 hX dX1_weighNeeds_21 ?_
      refine at_iload_n hX rfl rfl dX1_weighNeeds_24 ?_
      refine at_iconst hX (v := 0) (by decide) dX1_weighNeeds_25 ?_
      obtain ⟨hi, h26, eh26, e⟩ := wA_some e
      refine at_iast hX (o := 11) (by decide) rfl hi dX1_weighNeeds_26 ?_
      refine at_th eh26 ?_
      refine at_iinc hX hn (by decide) rfl (v := 1) (by decide) dX1_weighNeeds_27 ?_
      refine at_goto hX (tgt := 2) (by decide) dX1_weighNeeds_30 ?_
      exact at_sub [0, 1] rfl (ih _ _ e)
def F_X1_weighNeeds (h : Hp) : Option Hp := (F_X1_weighNeeds_2 FU_ F_X1_weighNeeds_33) (0 : Int32) h
theorem c_X1_weighNeeds (l : Launch) (G : Gl) (h : Hp) {h' : Hp} (e : F_X1_weighNeeds  h = some h') : Does l G 4 M_X1_weighNeeds [.ref 1] h none h' := by
  refine Does.of (by decide) rfl (Nat.le_of_ble_eq_true rfl) (fun X hl hG hn hX hR => ?_)
  unfold F_X1_weighNeeds at e
  subst hl; subst hG
  show At_ X 0 [(0, .ref 1)] [] h
  refine at_iconst hX (v := 0) (by decide) dX1_weighNeeds_0 ?_
  refine at_istore_n hX rfl hn (by decide) dX1_weighNeeds_1 ?_
  exact at_sub [0, 1] rfl ((A_X1_weighNeeds_2 hn hX hR F_X1_weighNeeds_33 (A_X1_weighNeeds_33 hn hX hR) FU_) _ _ e)

def F_X1_takeTwo_10 (x1 : Int32) (x2 : Int32) (s0 : Int32) (h : Hp) : Option (Int32 × Hp) := (F_X6_isKind x1).bind fun v12 => if v12 = (0 : Int32) then some ((0 : Int32), h) else (F_X6_isKind x2).bind fun v19 => if v19 = (0 : Int32) then some ((0 : Int32), h) else rA_ h 10 7 x1 fun v30 => if v30 < s0 then some ((0 : Int32), h) else rA_ h 10 7 x2 fun v40 => if s0 ≤ v40 then rA_ h 10 7 x1 fun v53 => wA_ h 10 7 x1 (v53 - (1 : Int32)) fun h56 => rA_ h56 10 7 x2 fun v63 => wA_ h56 10 7 x2 (v63 - (1 : Int32)) fun h66 => some ((1 : Int32), h66) else some ((0 : Int32), h)
theorem A_X1_takeTwo_10 {X : CX} {h' : Hp} {r : Int32} (hn : (xc_ X).maxLocals = 4) (hX : Ok_ X RX1 cX1_takeTwo 2) (hR : Rt_ X (some .boolean) (some (.int r)) h') (x1 : Int32) (x2 : Int32) (s0 : Int32) (h : Hp) (e : F_X1_takeTwo_10 x1 x2 s0 h = some (r, h')) : At_ X 10 [(0, .ref 1), (1, .int x1), (2, .int x2)] [.int s0] h := by
  unfold F_X1_takeTwo_10 at e
  refine at_istore_n hX rfl hn (by decide) dX1_takeTwo_10 ?_
  refine at_iload_n hX rfl rfl dX1_takeTwo_11 ?_
  obtain ⟨v12, e1, e⟩ := ob_some e
  refine at_callN1 hX cv_X1_25 (by decide) (c_X6_isKind _ _ _ _ e1) (Nat.le_of_ble_eq_true rfl) dX1_takeTwo_12 ?_
  refine at_if_eq hX (tgt := 45) (by decide) dX1_takeTwo_15 (fun c15 => ?_) (fun c15 => ?_)
  · replace e := ip_ c15 e
    refine at_iconst hX (v := 0) (by decide) dX1_takeTwo_45 ?_
    exact at_ireturn hX hR rfl (by cases e; rfl) (by cases e; rfl) dX1_takeTwo_46
  · replace e := in_ c15 e
    refine at_iload_n hX rfl rfl dX1_takeTwo_18 ?_
    obtain ⟨v19, e1, e⟩ := ob_some e
    refine at_callN1 hX cv_X1_25 (by decide) (c_X6_isKind _ _ _ _ e1) (Nat.le_of_ble_eq_true rfl) dX1_takeTwo_19 ?_
    refine at_if_eq hX (tgt := 45) (by decide) dX1_takeTwo_22 (fun c22 => ?_) (fun c22 => ?_)
    · replace e := ip_ c22 e
      refine at_iconst hX (v := 0) (by decide) dX1_takeTwo_45 ?_
      exact at_ireturn hX hR rfl (by cases e; rfl) (by cases e; rfl) dX1_takeTwo_46
    · replace e := in_ c22 e
      refine at_aload_n hX rfl rfl dX1_takeTwo_25 ?_
      refine gf_X1_15 hX dX1_takeTwo_26 ?_
      refine at_iload_n hX rfl rfl dX1_takeTwo_29 ?_
      obtain ⟨hi, v30, ev30, e⟩ := rA_some e
      refine at_iald hX (o := 10) (by decide) rfl hi dX1_takeTwo_30 ?_
      refine at_ti ev30 ?_
      refine at_iload_n hX rfl rfl dX1_takeTwo_31 ?_
      refine at_icmp_lt hX (tgt := 45) (by decide) dX1_takeTwo_32 (fun c32 => ?_) (fun c32 => ?_)
      · replace e := ip_ c32 e
        refine at_iconst hX (v := 0) (by decide) dX1_takeTwo_45 ?_
        exact at_ireturn hX hR rfl (by cases e; rfl) (by cases e; rfl) dX1_takeTwo_46
      · replace e := in_ c32 e
        refine at_aload_n hX rfl rfl dX1_takeTwo_35 ?_
        refine gf_X1_15 hX dX1_takeTwo_36 ?_
        refine at_iload_n hX rfl rfl dX1_takeTwo_39 ?_
        obtain ⟨hi, v40, ev40, e⟩ := rA_some e
        refine at_iald hX (o := 10) (by decide) rfl hi dX1_takeTwo_40 ?_
        refine at_ti ev40 ?_
        refine at_iload_n hX rfl rfl dX1_takeTwo_41 ?_
        refine at_icmp_ge hX (tgt := 47) (by decide) dX1_takeTwo_42 (fun c42 => ?_) (fun c42 => ?_)
        · replace e := ip_ c42 e
          refine at_aload_n hX rfl rfl dX1_takeTwo_47 ?_
          refine gf_X1_15 hX dX1_takeTwo_48 ?_
          refine at_iload_n hX rfl rfl dX1_takeTwo_51 ?_
          refine at_dup2 hX rfl rfl dX1_takeTwo_52 ?_
          obtain ⟨hi, v53, ev53, e⟩ := rA_some e
          refine at_iald hX (o := 10) (by decide) rfl hi dX1_takeTwo_53 ?_
          refine at_ti ev53 ?_
          refine at_iconst hX (v := 1) (by decide) dX1_takeTwo_54 ?_
          refine at_isub hX dX1_takeTwo_55 ?_
          obtain ⟨hi, h56, eh56, e⟩ := wA_some e
          refine at_iast hX (o := 10) (by decide) rfl hi dX1_takeTwo_56 ?_
          refine at_th eh56 ?_
          refine at_aload_n hX rfl rfl dX1_takeTwo_57 ?_
          refine gf_X1_15 hX dX1_takeTwo_58 ?_
          refine at_iload_n hX rfl rfl dX1_takeTwo_61 ?_
          refine at_dup2 hX rfl rfl dX1_takeTwo_62 ?_
          obtain ⟨hi, v63, ev63, e⟩ := rA_some e
          refine at_iald hX (o := 10) (by decide) rfl hi dX1_takeTwo_63 ?_
          refine at_ti ev63 ?_
          refine at_iconst hX (v := 1) (by decide) dX1_takeTwo_64 ?_
          refine at_isub hX dX1_takeTwo_65 ?_
          obtain ⟨hi, h66, eh66, e⟩ := wA_some e
          refine at_iast hX (o := 10) (by decide) rfl hi dX1_takeTwo_66 ?_
          refine at_th eh66 ?_
          refine at_iconst hX (v := 1) (by decide) dX1_takeTwo_67 ?_
          exact at_ireturn hX hR rfl (by cases e; rfl) (by cases e; rfl) dX1_takeTwo_68
        · replace e := in_ c42 e
          refine at_iconst hX (v := 0) (by decide) dX1_takeTwo_45 ?_
          exact at_ireturn hX hR rfl (by cases e; rfl) (by cases e; rfl) dX1_takeTwo_46
def F_X1_takeTwo (x1 : Int32) (x2 : Int32) (h : Hp) : Option (Int32 × Hp) := if x1 = x2 then F_X1_takeTwo_10 x1 x2 (2 : Int32) h else F_X1_takeTwo_10 x1 x2 (1 : Int32) h
theorem c_X1_takeTwo (l : Launch) (G : Gl) (x1 : Int32) (x2 : Int32) (h : Hp) {r : Int32} {h' : Hp} (e : F_X1_takeTwo x1 x2 h = some (r, h')) : Does l G 2 M_X1_takeTwo [.ref 1, .int x1, .int x2] h (some (.int r)) h' := by
  refine Does.of (by decide) rfl (Nat.le_of_ble_eq_true rfl) (fun X hl hG hn hX hR => ?_)
  unfold F_X1_takeTwo at e
  subst hl; subst hG
  show At_ X 0 [(0, .ref 1), (1, .int x1), (2, .int x2)] [] h
  refine at_iload_n hX rfl rfl dX1_takeTwo_0 ?_
  refine at_iload_n hX rfl rfl dX1_takeTwo_1 ?_
  refine at_icmp_ne hX (tgt := 9) (by decide) dX1_takeTwo_2 (fun c2 => ?_) (fun c2 => ?_)
  · replace e := in_ c2 e
    refine at_iconst hX (v := 1) (by decide) dX1_takeTwo_9 ?_
    exact at_sub [0, 1, 2] rfl ((A_X1_takeTwo_10 hn hX hR) _ _ _ _ e)
  · replace e := ip_ c2 e
    refine at_iconst hX (v := 2) (by decide) dX1_takeTwo_5 ?_
    refine at_goto hX (tgt := 10) (by decide) dX1_takeTwo_6 ?_
    exact at_sub [0, 1, 2] rfl ((A_X1_takeTwo_10 hn hX hR) _ _ _ _ e)

def F_X1_settle_58 (k7 : Int32 → Hp → Option Hp) (x1 : Int32) (h : Hp) : Option Hp := k7 (x1 + (-1 : Int32)) h
theorem A_X1_settle_58 {X : CX} {h' : Hp} (hn : (xc_ X).maxLocals = 4) (hX : Ok_ X RX1 cX1_settle 5) (hR : Rt_ X none none h') (k7 : Int32 → Hp → Option Hp) (hk7 : ∀ (x1 : Int32) (h : Hp), k7 x1 h = some h' → At_ X 7 [(0, .ref 1), (1, .int x1)] [] h) (x1 : Int32) (h : Hp) (e : F_X1_settle_58 k7 x1 h = some h') : At_ X 58 [(0, .ref 1), (1, .int x1)] [] h := by
  unfold F_X1_settle_58 at e
  refine at_iinc hX hn (by decide) rfl (v := -1) (by decide) dX1_settle_58 ?_
  refine at_goto hX (tgt := 7) (by decide) dX1_settle_61 ?_
  exact at_sub [0, 1] rfl (hk7 _ _ e)
def F_X1_settle_52 (k20 : Int32 → Int32 → Int32 → Hp → Option Hp) (x1 : Int32) (x2 : Int32) (x3 : Int32) (h : Hp) : Option Hp := k20 x1 x2 (x3 + (1 : Int32)) h
theorem A_X1_settle_52 {X : CX} {h' : Hp} (hn : (xc_ X).maxLocals = 4) (hX : Ok_ X RX1 cX1_settle 5) (hR : Rt_ X none none h') (k20 : Int32 → Int32 → Int32 → Hp → Option Hp) (hk20 : ∀ (x1 : Int32) (x2 : Int32) (x3 : Int32) (h : Hp), k20 x1 x2 x3 h = some h' → At_ X 20 [(0, .ref 1), (1, .int x1), (2, .int x2), (3, .int x3)] [] h) (x1 : Int32) (x2 : Int32) (x3 : Int32) (h : Hp) (e : F_X1_settle_52 k20 x1 x2 x3 h = some h') : At_ X 52 [(0, .ref 1), (1, .int x1), (2, .int x2), (3, .int x3)] [] h := by
  unfold F_X1_settle_52 at e
  refine at_iinc hX hn (by decide) rfl (v := 1) (by decide) dX1_settle_52 ?_
  refine at_goto hX (tgt := 20) (by decide) dX1_settle_55 ?_
  exact at_sub [0, 1, 2, 3] rfl (hk20 _ _ _ _ e)
def F_X1_settle_20 (n : Nat) (k58 : Int32 → Hp → Option Hp) (x1 : Int32) (x2 : Int32) (x3 : Int32) (h : Hp) : Option Hp := match n with
  | 0 => none
  | n + 1 => if x2 ≤ x3 then k58 x1 h else rS_ [0, 0, 0, 1, 1, 2, 4] x1 fun v30 => rS_ [0, 0, 1, 1, 1, 2, 4] x1 fun v35 => (F_X1_takeTwo v30 v35 h).bind fun ((v36, h36) : Int32 × Hp) => if v36 = (0 : Int32) then (F_X1_settle_52 (F_X1_settle_20 n k58)) x1 x2 x3 h36 else rA_ h36 11 7 x1 fun v48 => wA_ h36 11 7 x1 (v48 - (1 : Int32)) fun h51 => (F_X1_settle_52 (F_X1_settle_20 n k58)) x1 x2 x3 h51
theorem A_X1_settle_20 {X : CX} {h' : Hp} (hn : (xc_ X).maxLocals = 4) (hX : Ok_ X RX1 cX1_settle 5) (hR : Rt_ X none none h') (k58 : Int32 → Hp → Option Hp) (hk58 : ∀ (x1 : Int32) (h : Hp), k58 x1 h = some h' → At_ X 58 [(0, .ref 1), (1, .int x1)] [] h) : ∀ (n : Nat) (x1 : Int32) (x2 : Int32) (x3 : Int32) (h : Hp), F_X1_settle_20 n k58 x1 x2 x3 h = some h' → At_ X 20 [(0, .ref 1), (1, .int x1), (2, .int x2), (3, .int x3)] [] h := by
  intro n
  induction n with
  | zero => intro x1 x2 x3 h e; cases e
  | succ n ih =>
    intro x1 x2 x3 h e
    rw [F_X1_settle_20] at e
    refine at_iload_n hX rfl rfl dX1_settle_20 ?_
    refine at_iload_n hX rfl rfl dX1_settle_21 ?_
    refine at_icmp_ge hX (tgt := 58) (by decide) dX1_settle_22 (fun c22 => ?_) (fun c22 => ?_)
    · replace e := ip_ c22 e
      exact at_sub [0, 1] rfl (hk58 _ _ e)
    · replace e := in_ c22 e
      refine at_aload_n hX rfl rfl dX1_settle_25 ?_
      refine gs_X1_32 hX dX1_settle_26 ?_
      refine at_iload_n hX rfl rfl dX1_settle_29 ?_
      obtain ⟨hi, v30, ev30, e⟩ := rS_some e
      refine at_sald hX 4 rfl rfl hi dX1_settle_30 ?_
      refine at_ti ev30 ?_
      refine gs_X1_35 hX dX1_settle_31 ?_
      refine at_iload_n hX rfl rfl dX1_settle_34 ?_
      obtain ⟨hi, v35, ev35, e⟩ := rS_some e
      refine at_sald hX 5 rfl rfl hi dX1_settle_35 ?_
      refine at_ti ev35 ?_
      obtain ⟨⟨v36, h36⟩, e1, e⟩ := ob_some e
      refine at_callV2 hX cv_X1_38 (by decide) (c_X1_takeTwo _ _ _ _ _ e1) (Nat.le_of_ble_eq_true rfl) dX1_settle_36 ?_
      refine at_if_eq hX (tgt := 52) (by decide) dX1_settle_39 (fun c39 => ?_) (fun c39 => ?_)
      · replace e := ip_ c39 e
        exact at_sub [0, 1, 2, 3] rfl ((A_X1_settle_52 hn hX hR (F_X1_settle_20 n k58) ih) _ _ _ _ e)
      · replace e := in_ c39 e
        refine at_aload_n hX rfl rfl dX1_settle_42 ?_
        refine gf_X1_18 hX dX1_settle_43 ?_
        refine at_iload_n hX rfl rfl dX1_settle_46 ?_
        refine at_dup2 hX rfl rfl dX1_settle_47 ?_
        obtain ⟨hi, v48, ev48, e⟩ := rA_some e
        refine at_iald hX (o := 11) (by decide) rfl hi dX1_settle_48 ?_
        refine at_ti ev48 ?_
        refine at_iconst hX (v := 1) (by decide) dX1_settle_49 ?_
        refine at_isub hX dX1_settle_50 ?_
        obtain ⟨hi, h51, eh51, e⟩ := wA_some e
        refine at_iast hX (o := 11) (by decide) rfl hi dX1_settle_51 ?_
        refine at_th eh51 ?_
        exact at_sub [0, 1, 2, 3] rfl ((A_X1_settle_52 hn hX hR (F_X1_settle_20 n k58) ih) _ _ _ _ e)
def F_X1_settle_7 (n : Nat) (x1 : Int32) (h : Hp) : Option Hp := match n with
  | 0 => none
  | n + 1 => if x1 ≤ (0 : Int32) then some h else rA_ h 11 7 x1 fun v16 => (F_X1_settle_20 FU_ (F_X1_settle_58 (F_X1_settle_7 n))) x1 v16 (0 : Int32) h
theorem A_X1_settle_7 {X : CX} {h' : Hp} (hn : (xc_ X).maxLocals = 4) (hX : Ok_ X RX1 cX1_settle 5) (hR : Rt_ X none none h') : ∀ (n : Nat) (x1 : Int32) (h : Hp), F_X1_settle_7 n x1 h = some h' → At_ X 7 [(0, .ref 1), (1, .int x1)] [] h := by
  intro n
  induction n with
  | zero => intro x1 h e; cases e
  | succ n ih =>
    intro x1 h e
    rw [F_X1_settle_7] at e
    refine at_iload_n hX rfl rfl dX1_settle_7 ?_
    refine at_if_le hX (tgt := 64) (by decide) dX1_settle_8 (fun c8 => ?_) (fun c8 => ?_)
    · replace e := ip_ c8 e
      exact at_return hX hR rfl (by cases e; rfl) dX1_settle_64
    · replace e := in_ c8 e
      refine at_aload_n hX rfl rfl dX1_settle_11 ?_
      refine gf_X1_18 hX dX1_settle_12 ?_
      refine at_iload_n hX rfl rfl dX1_settle_15 ?_
      obtain ⟨hi, v16, ev16, e⟩ := rA_some e
      refine at_iald hX (o := 11) (by decide) rfl hi dX1_settle_16 ?_
      refine at_ti ev16 ?_
      refine at_istore_n hX rfl hn (by decide) dX1_settle_17 ?_
      refine at_iconst hX (v := 0) (by decide) dX1_settle_18 ?_
      refine at_istore_n hX rfl hn (by decide) dX1_settle_19 ?_
      exact at_sub [0, 1, 2, 3] rfl ((A_X1_settle_20 hn hX hR (F_X1_settle_58 (F_X1_settle_7 n)) (A_X1_settle_58 hn hX hR (F_X1_settle_7 n) ih) FU_) _ _ _ _ e)
def F_X1_settle (h : Hp) : Option Hp := (F_X1_weighNeeds  h).bind fun h1 => (F_X1_settle_7 FU_) (6 : Int32) h1
theorem c_X1_settle (l : Launch) (G : Gl) (h : Hp) {h' : Hp} (e : F_X1_settle  h = some h') : Does l G 5 M_X1_settle [.ref 1] h none h' := by
  refine Does.of (by decide) rfl (Nat.le_of_ble_eq_true rfl) (fun X hl hG hn hX hR => ?_)
  unfold F_X1_settle at e
  subst hl; subst hG
  show At_ X 0 [(0, .ref 1)] [] h
  refine at_aload_n hX rfl rfl dX1_settle_0 ?_
  obtain ⟨h1, e1, e⟩ := ob_some e
  refine at_callV0 hX cv_X1_29 (by decide) (c_X1_weighNeeds _ _  _ e1) (Nat.le_of_ble_eq_true rfl) dX1_settle_1 ?_
  refine at_bipush hX (v := 6) (by decide) dX1_settle_4 ?_
  refine at_istore_n hX rfl hn (by decide) dX1_settle_6 ?_
  exact at_sub [0, 1] rfl ((A_X1_settle_7 hn hX hR FU_) _ _ e)

def F_X2_alongX (x0 : Int32) (x1 : Int32) (h : Hp) : Option Int32 := (F_X6_isKind x0).bind fun v1 => if v1 = (0 : Int32) then some (0 : Int32) else if x1 = (0 : Int32) then rS_ [1, 2, 3, 4, 2, 3, 4] x0 fun v17 => some v17 else rS_ [1, 1, 1, 1, 2, 2, 2] x0 fun v25 => some v25
theorem c_X2_alongX (l : Launch) (G : Gl) (x0 : Int32) (x1 : Int32) (h : Hp) {r : Int32} (e : F_X2_alongX x0 x1 h = some r) : Does l G 2 M_X2_alongX [.int x0, .int x1] h (some (.int r)) h := by
  refine Does.of (by decide) rfl (Nat.le_of_ble_eq_true rfl) (fun X hl hG hn hX hR => ?_)
  unfold F_X2_alongX at e
  subst hl; subst hG
  show At_ X 0 [(0, .int x0), (1, .int x1)] [] h
  refine at_iload_n hX rfl rfl dX2_alongX_0 ?_
  obtain ⟨v1, e1, e⟩ := ob_some e
  refine at_callN1 hX cv_X2_43 (by decide) (c_X6_isKind _ _ _ _ e1) (Nat.le_of_ble_eq_true rfl) dX2_alongX_1 ?_
  refine at_if_ne hX (tgt := 9) (by decide) dX2_alongX_4 (fun c4 => ?_) (fun c4 => ?_)
  · replace e := in_ c4 e
    refine at_iload_n hX rfl rfl dX2_alongX_9 ?_
    refine at_if_ne hX (tgt := 21) (by decide) dX2_alongX_10 (fun c10 => ?_) (fun c10 => ?_)
    · replace e := in_ c10 e
      refine gs_X2_50 hX dX2_alongX_21 ?_
      refine at_iload_n hX rfl rfl dX2_alongX_24 ?_
      obtain ⟨hi, v25, ev25, e⟩ := rS_some e
      refine at_sald hX 1 rfl rfl hi dX2_alongX_25 ?_
      refine at_ti ev25 ?_
      exact at_ireturn hX hR rfl (by cases e; rfl) rfl dX2_alongX_26
    · replace e := ip_ c10 e
      refine gs_X2_47 hX dX2_alongX_13 ?_
      refine at_iload_n hX rfl rfl dX2_alongX_16 ?_
      obtain ⟨hi, v17, ev17, e⟩ := rS_some e
      refine at_sald hX 0 rfl rfl hi dX2_alongX_17 ?_
      refine at_ti ev17 ?_
      refine at_goto hX (tgt := 26) (by decide) dX2_alongX_18 ?_
      exact at_ireturn hX hR rfl (by cases e; rfl) rfl dX2_alongX_26
  · replace e := ip_ c4 e
    refine at_iconst hX (v := 0) (by decide) dX2_alongX_7 ?_
    exact at_ireturn hX hR rfl (by cases e; rfl) rfl dX2_alongX_8

def F_X2_alongY (x0 : Int32) (x1 : Int32) (h : Hp) : Option Int32 := (F_X2_alongX x0 ((1 : Int32) - x1) h).bind fun v4 => some v4
theorem c_X2_alongY (l : Launch) (G : Gl) (x0 : Int32) (x1 : Int32) (h : Hp) {r : Int32} (e : F_X2_alongY x0 x1 h = some r) : Does l G 3 M_X2_alongY [.int x0, .int x1] h (some (.int r)) h := by
  refine Does.of (by decide) rfl (Nat.le_of_ble_eq_true rfl) (fun X hl hG hn hX hR => ?_)
  unfold F_X2_alongY at e
  subst hl; subst hG
  show At_ X 0 [(0, .int x0), (1, .int x1)] [] h
  refine at_iload_n hX rfl rfl dX2_alongY_0 ?_
  refine at_iconst hX (v := 1) (by decide) dX2_alongY_1 ?_
  refine at_iload_n hX rfl rfl dX2_alongY_2 ?_
  refine at_isub hX dX2_alongY_3 ?_
  obtain ⟨v4, e1, e⟩ := ob_some e
  refine at_callS2 hX cv_X2_53 (by decide) (c_X2_alongX _ _ _ _ _ e1) (Nat.le_of_ble_eq_true rfl) dX2_alongY_4 ?_
  exact at_ireturn hX hR rfl (by cases e; rfl) rfl dX2_alongY_7

def F_X2_footprint_24 (n : Nat) (x2 : Int32) (x3 : Int32) (x4 : Int64) (x6 : Int32) (x7 : Int64) (x9 : Int32) (h : Hp) : Option Int64 := match n with
  | 0 => none
  | n + 1 => if x6 ≤ x9 then some x7 else bd_ (x7 ||| (ls_ x4 (((x3 + x9) * (6 : Int32)) + x2))) fun y46 => (F_X2_footprint_24 n) x2 x3 x4 x6 y46 (x9 + (1 : Int32)) h
theorem A_X2_footprint_24 {X : CX} {h : Hp} {r : Int64} (hn : (xc_ X).maxLocals = 10) (hX : Ok_ X RX2 cX2_footprint 4) (hR : Rt_ X (some .long) (some (.long r)) h) : ∀ (n : Nat) (x2 : Int32) (x3 : Int32) (x4 : Int64) (x6 : Int32) (x7 : Int64) (x9 : Int32), F_X2_footprint_24 n x2 x3 x4 x6 x7 x9 h = some r → At_ X 24 [(2, .int x2), (3, .int x3), (4, .long x4), (6, .int x6), (7, .long x7), (9, .int x9)] [] h := by
  intro n
  induction n with
  | zero => intro x2 x3 x4 x6 x7 x9 e; cases e
  | succ n ih =>
    intro x2 x3 x4 x6 x7 x9 e
    rw [F_X2_footprint_24] at e
    refine at_iload hX rfl dX2_footprint_24 ?_
    refine at_iload hX rfl dX2_footprint_26 ?_
    refine at_icmp_ge hX (tgt := 54) (by decide) dX2_footprint_28 (fun c28 => ?_) (fun c28 => ?_)
    · replace e := ip_ c28 e
      refine at_lload hX rfl dX2_footprint_54 ?_
      exact at_lreturn hX hR (by cases e; rfl) rfl dX2_footprint_56
    · replace e := in_ c28 e
      refine at_lload hX rfl dX2_footprint_31 ?_
      refine at_lload hX rfl dX2_footprint_33 ?_
      refine at_iload_n hX rfl rfl dX2_footprint_35 ?_
      refine at_iload hX rfl dX2_footprint_36 ?_
      refine at_iadd hX dX2_footprint_38 ?_
      refine at_bipush hX (v := 6) (by decide) dX2_footprint_39 ?_
      refine at_imul hX dX2_footprint_41 ?_
      refine at_iload_n hX rfl rfl dX2_footprint_42 ?_
      refine at_iadd hX dX2_footprint_43 ?_
      refine at_lshl hX dX2_footprint_44 ?_
      refine at_lor hX dX2_footprint_45 ?_
      obtain ⟨y46, ey46, e⟩ := bd_some e
      refine at_tl ey46 ?_
      refine at_lstore hX hn (by decide) dX2_footprint_46 ?_
      refine at_iinc hX hn (by decide) rfl (v := 1) (by decide) dX2_footprint_48 ?_
      refine at_goto hX (tgt := 24) (by decide) dX2_footprint_51 ?_
      exact at_sub [2, 3, 4, 6, 7, 9] rfl (ih _ _ _ _ _ _ e)
def F_X2_footprint (x0 : Int32) (x1 : Int32) (x2 : Int32) (x3 : Int32) (h : Hp) : Option Int64 := (F_X2_alongX x0 x1 h).bind fun v3 => bd_ ((ls_ (1 : Int64) v3) - (1 : Int64)) fun y9 => (F_X2_alongY x0 x1 h).bind fun v13 => (F_X2_footprint_24 FU_) x2 x3 y9 v13 (0 : Int64) (0 : Int32) h
theorem c_X2_footprint (l : Launch) (G : Gl) (x0 : Int32) (x1 : Int32) (x2 : Int32) (x3 : Int32) (h : Hp) {r : Int64} (e : F_X2_footprint x0 x1 x2 x3 h = some r) : Does l G 4 M_X2_footprint [.int x0, .int x1, .int x2, .int x3] h (some (.long r)) h := by
  refine Does.of (by decide) rfl (Nat.le_of_ble_eq_true rfl) (fun X hl hG hn hX hR => ?_)
  unfold F_X2_footprint at e
  subst hl; subst hG
  show At_ X 0 [(0, .int x0), (1, .int x1), (2, .int x2), (3, .int x3)] [] h
  refine at_lconst hX (v := 1) (by decide) dX2_footprint_0 ?_
  refine at_iload_n hX rfl rfl dX2_footprint_1 ?_
  refine at_iload_n hX rfl rfl dX2_footprint_2 ?_
  obtain ⟨v3, e1, e⟩ := ob_some e
  refine at_callS2 hX cv_X2_53 (by decide) (c_X2_alongX _ _ _ _ _ e1) (Nat.le_of_ble_eq_true rfl) dX2_footprint_3 ?_
  refine at_lshl hX dX2_footprint_6 ?_
  refine at_lconst hX (v := 1) (by decide) dX2_footprint_7 ?_
  refine at_lsub hX dX2_footprint_8 ?_
  obtain ⟨y9, ey9, e⟩ := bd_some e
  refine at_tl ey9 ?_
  refine at_lstore hX hn (by decide) dX2_footprint_9 ?_
  refine at_iload_n hX rfl rfl dX2_footprint_11 ?_
  refine at_iload_n hX rfl rfl dX2_footprint_12 ?_
  obtain ⟨v13, e1, e⟩ := ob_some e
  refine at_callS2 hX cv_X2_57 (by decide) (c_X2_alongY _ _ _ _ _ e1) (Nat.le_of_ble_eq_true rfl) dX2_footprint_13 ?_
  refine at_istore hX hn (by decide) dX2_footprint_16 ?_
  refine at_lconst hX (v := 0) (by decide) dX2_footprint_18 ?_
  refine at_lstore hX hn (by decide) dX2_footprint_19 ?_
  refine at_iconst hX (v := 0) (by decide) dX2_footprint_21 ?_
  refine at_istore hX hn (by decide) dX2_footprint_22 ?_
  exact at_sub [2, 3, 4, 6, 7, 9] rfl ((A_X2_footprint_24 hn hX hR FU_) _ _ _ _ _ _ e)

def F_X2_there (h : Hp) : Option Int64 := some (gJ_ h 139)
theorem c_X2_there (l : Launch) (G : Gl) (h : Hp) {r : Int64} (e : F_X2_there  h = some r) : Does l G 1 M_X2_there [.ref 2] h (some (.long r)) h := by
  refine Does.of (by decide) rfl (Nat.le_of_ble_eq_true rfl) (fun X hl hG hn hX hR => ?_)
  unfold F_X2_there at e
  subst hl; subst hG
  show At_ X 0 [(0, .ref 2)] [] h
  refine at_aload_n hX rfl rfl dX2_there_0 ?_
  refine gf_X2_64 hX dX2_there_1 ?_
  exact at_lreturn hX hR (by cases e; rfl) rfl dX2_there_4

def F_X2_ground (h : Hp) : Option Int64 := some (gJ_ h 140)
theorem c_X2_ground (l : Launch) (G : Gl) (h : Hp) {r : Int64} (e : F_X2_ground  h = some r) : Does l G 1 M_X2_ground [.ref 2] h (some (.long r)) h := by
  refine Does.of (by decide) rfl (Nat.le_of_ble_eq_true rfl) (fun X hl hG hn hX hR => ?_)
  unfold F_X2_ground at e
  subst hl; subst hG
  show At_ X 0 [(0, .ref 2)] [] h
  refine at_aload_n hX rfl rfl dX2_ground_0 ?_
  refine gf_X2_68 hX dX2_ground_1 ?_
  exact at_lreturn hX hR (by cases e; rfl) rfl dX2_ground_4

def F_J13_bitCount_95d88 (x0 : Int64) : Option Int32 := bd_ (x0 - ((lu_ x0 (1 : Int32)) &&& (6148914691236517205 : Int64))) fun y9 => bd_ ((y9 &&& (3689348814741910323 : Int64)) + ((lu_ y9 (2 : Int32)) &&& (3689348814741910323 : Int64))) fun y23 => bd_ ((y23 + (lu_ y23 (4 : Int32))) &&& (1085102592571150095 : Int64)) fun y33 => bd_ (y33 + (lu_ y33 (8 : Int32))) fun y40 => bd_ (y40 + (lu_ y40 (16 : Int32))) fun y47 => bd_ (y47 + (lu_ y47 (32 : Int32))) fun y54 => some (y54.toInt32 &&& (127 : Int32))
theorem c_J13_bitCount_95d88 (l : Launch) (G : Gl) (x0 : Int64) (h : Hp) {r : Int32} (e : F_J13_bitCount_95d88 x0 = some r) : Does l G 1 M_J13_bitCount_95d88 [.long x0] h (some (.int r)) h := by
  refine Does.of (by decide) rfl (Nat.le_of_ble_eq_true rfl) (fun X hl hG hn hX hR => ?_)
  unfold F_J13_bitCount_95d88 at e
  subst hl; subst hG
  show At_ X 0 [(0, .long x0)] [] h
  refine at_lload_n hX rfl rfl dJ13_bitCount_95d88_0 ?_
  refine at_lload_n hX rfl rfl dJ13_bitCount_95d88_1 ?_
  refine at_iconst hX (v := 1) (by decide) dJ13_bitCount_95d88_2 ?_
  refine at_lushr hX dJ13_bitCount_95d88_3 ?_
  refine at_ldc2 hX wk_J13_314 dJ13_bitCount_95d88_4 ?_
  refine at_land hX dJ13_bitCount_95d88_7 ?_
  refine at_lsub hX dJ13_bitCount_95d88_8 ?_
  obtain ⟨y9, ey9, e⟩ := bd_some e
  refine at_tl ey9 ?_
  refine at_lstore_n hX rfl hn (by decide) dJ13_bitCount_95d88_9 ?_
  refine at_lload_n hX rfl rfl dJ13_bitCount_95d88_10 ?_
  refine at_ldc2 hX wk_J13_316 dJ13_bitCount_95d88_11 ?_
  refine at_land hX dJ13_bitCount_95d88_14 ?_
  refine at_lload_n hX rfl rfl dJ13_bitCount_95d88_15 ?_
  refine at_iconst hX (v := 2) (by decide) dJ13_bitCount_95d88_16 ?_
  refine at_lushr hX dJ13_bitCount_95d88_17 ?_
  refine at_ldc2 hX wk_J13_316 dJ13_bitCount_95d88_18 ?_
  refine at_land hX dJ13_bitCount_95d88_21 ?_
  refine at_ladd hX dJ13_bitCount_95d88_22 ?_
  obtain ⟨y23, ey23, e⟩ := bd_some e
  refine at_tl ey23 ?_
  refine at_lstore_n hX rfl hn (by decide) dJ13_bitCount_95d88_23 ?_
  refine at_lload_n hX rfl rfl dJ13_bitCount_95d88_24 ?_
  refine at_lload_n hX rfl rfl dJ13_bitCount_95d88_25 ?_
  refine at_iconst hX (v := 4) (by decide) dJ13_bitCount_95d88_26 ?_
  refine at_lushr hX dJ13_bitCount_95d88_27 ?_
  refine at_ladd hX dJ13_bitCount_95d88_28 ?_
  refine at_ldc2 hX wk_J13_318 dJ13_bitCount_95d88_29 ?_
  refine at_land hX dJ13_bitCount_95d88_32 ?_
  obtain ⟨y33, ey33, e⟩ := bd_some e
  refine at_tl ey33 ?_
  refine at_lstore_n hX rfl hn (by decide) dJ13_bitCount_95d88_33 ?_
  refine at_lload_n hX rfl rfl dJ13_bitCount_95d88_34 ?_
  refine at_lload_n hX rfl rfl dJ13_bitCount_95d88_35 ?_
  refine at_bipush hX (v := 8) (by decide) dJ13_bitCount_95d88_36 ?_
  refine at_lushr hX dJ13_bitCount_95d88_38 ?_
  refine at_ladd hX dJ13_bitCount_95d88_39 ?_
  obtain ⟨y40, ey40, e⟩ := bd_some e
  refine at_tl ey40 ?_
  refine at_lstore_n hX rfl hn (by decide) dJ13_bitCount_95d88_40 ?_
  refine at_lload_n hX rfl rfl dJ13_bitCount_95d88_41 ?_
  refine at_lload_n hX rfl rfl dJ13_bitCount_95d88_42 ?_
  refine at_bipush hX (v := 16) (by decide) dJ13_bitCount_95d88_43 ?_
  refine at_lushr hX dJ13_bitCount_95d88_45 ?_
  refine at_ladd hX dJ13_bitCount_95d88_46 ?_
  obtain ⟨y47, ey47, e⟩ := bd_some e
  refine at_tl ey47 ?_
  refine at_lstore_n hX rfl hn (by decide) dJ13_bitCount_95d88_47 ?_
  refine at_lload_n hX rfl rfl dJ13_bitCount_95d88_48 ?_
  refine at_lload_n hX rfl rfl dJ13_bitCount_95d88_49 ?_
  refine at_bipush hX (v := 32) (by decide) dJ13_bitCount_95d88_50 ?_
  refine at_lushr hX dJ13_bitCount_95d88_52 ?_
  refine at_ladd hX dJ13_bitCount_95d88_53 ?_
  obtain ⟨y54, ey54, e⟩ := bd_some e
  refine at_tl ey54 ?_
  refine at_lstore_n hX rfl hn (by decide) dJ13_bitCount_95d88_54 ?_
  refine at_lload_n hX rfl rfl dJ13_bitCount_95d88_55 ?_
  refine at_l2i hX dJ13_bitCount_95d88_56 ?_
  refine at_bipush hX (v := 127) (by decide) dJ13_bitCount_95d88_57 ?_
  refine at_iand hX dJ13_bitCount_95d88_59 ?_
  exact at_ireturn hX hR rfl (by cases e; rfl) rfl dJ13_bitCount_95d88_60

def F_X2_howMany (h : Hp) : Option Int32 := (F_J13_bitCount_95d88 (gJ_ h 139)).bind fun v4 => some v4
theorem c_X2_howMany (l : Launch) (G : Gl) (h : Hp) {r : Int32} (e : F_X2_howMany  h = some r) : Does l G 2 M_X2_howMany [.ref 2] h (some (.int r)) h := by
  refine Does.of (by decide) rfl (Nat.le_of_ble_eq_true rfl) (fun X hl hG hn hX hR => ?_)
  unfold F_X2_howMany at e
  subst hl; subst hG
  show At_ X 0 [(0, .ref 2)] [] h
  refine at_aload_n hX rfl rfl dX2_howMany_0 ?_
  refine gf_X2_64 hX dX2_howMany_1 ?_
  obtain ⟨v4, e1, e⟩ := ob_some e
  refine at_callS1 hX cv_X2_71 (by decide) (c_J13_bitCount_95d88 _ _ _ _ e1) (Nat.le_of_ble_eq_true rfl) dX2_howMany_4 ?_
  exact at_ireturn hX hR rfl (by cases e; rfl) rfl dX2_howMany_7

def F_X2_overlapsAny (x1 : Int64) (x3 : Int32) (h : Hp) : Option Int32 := if x3 < (0 : Int32) then some (0 : Int32) else if (5 : Int32) ≤ x3 then some (0 : Int32) else rL_ h 20 5 x3 fun v14 => if v14 &&& x1 = (0 : Int64) then some (0 : Int32) else some (1 : Int32)
theorem c_X2_overlapsAny (l : Launch) (G : Gl) (x1 : Int64) (x3 : Int32) (h : Hp) {r : Int32} (e : F_X2_overlapsAny x1 x3 h = some r) : Does l G 1 M_X2_overlapsAny [.ref 2, .long x1, .int x3] h (some (.int r)) h := by
  refine Does.of (by decide) rfl (Nat.le_of_ble_eq_true rfl) (fun X hl hG hn hX hR => ?_)
  unfold F_X2_overlapsAny at e
  subst hl; subst hG
  show At_ X 0 [(0, .ref 2), (1, .long x1), (3, .int x3)] [] h
  refine at_iload_n hX rfl rfl dX2_overlapsAny_0 ?_
  refine at_if_lt hX (tgt := 26) (by decide) dX2_overlapsAny_1 (fun c1 => ?_) (fun c1 => ?_)
  · replace e := ip_ c1 e
    refine at_iconst hX (v := 0) (by decide) dX2_overlapsAny_26 ?_
    exact at_ireturn hX hR rfl (by cases e; rfl) rfl dX2_overlapsAny_27
  · replace e := in_ c1 e
    refine at_iload_n hX rfl rfl dX2_overlapsAny_4 ?_
    refine at_iconst hX (v := 5) (by decide) dX2_overlapsAny_5 ?_
    refine at_icmp_ge hX (tgt := 26) (by decide) dX2_overlapsAny_6 (fun c6 => ?_) (fun c6 => ?_)
    · replace e := ip_ c6 e
      refine at_iconst hX (v := 0) (by decide) dX2_overlapsAny_26 ?_
      exact at_ireturn hX hR rfl (by cases e; rfl) rfl dX2_overlapsAny_27
    · replace e := in_ c6 e
      refine at_aload_n hX rfl rfl dX2_overlapsAny_9 ?_
      refine gf_X2_37 hX dX2_overlapsAny_10 ?_
      refine at_iload_n hX rfl rfl dX2_overlapsAny_13 ?_
      obtain ⟨hi, v14, ev14, e⟩ := rL_some e
      refine at_lald hX (o := 20) (by decide) rfl hi dX2_overlapsAny_14 ?_
      refine at_tl ev14 ?_
      refine at_lload_n hX rfl rfl dX2_overlapsAny_15 ?_
      refine at_land hX dX2_overlapsAny_16 ?_
      refine at_lconst hX (v := 0) (by decide) dX2_overlapsAny_17 ?_
      refine at_lcmp_eq hX (tgt := 26) (by decide) dX2_overlapsAny_18 dX2_overlapsAny_19 (fun c18 => ?_) (fun c18 => ?_)
      · replace e := ip_ c18 e
        refine at_iconst hX (v := 0) (by decide) dX2_overlapsAny_26 ?_
        exact at_ireturn hX hR rfl (by cases e; rfl) rfl dX2_overlapsAny_27
      · replace e := in_ c18 e
        refine at_iconst hX (v := 1) (by decide) dX2_overlapsAny_22 ?_
        refine at_goto hX (tgt := 27) (by decide) dX2_overlapsAny_23 ?_
        exact at_ireturn hX hR rfl (by cases e; rfl) rfl dX2_overlapsAny_27

def F_X2_writeNumbers_108 (k36 : Int32 → Int32 → Int32 → Int32 → Int32 → Hp → Option Hp) (x1 : Int32) (x2 : Int32) (x3 : Int32) (x4 : Int32) (x5 : Int32) (h : Hp) : Option Hp := k36 x1 x2 x3 x4 (x5 + (1 : Int32)) h
theorem A_X2_writeNumbers_108 {X : CX} {h' : Hp} (hn : (xc_ X).maxLocals = 8) (hX : Ok_ X RX2 cX2_writeNumbers 4) (hR : Rt_ X none none h') (k36 : Int32 → Int32 → Int32 → Int32 → Int32 → Hp → Option Hp) (hk36 : ∀ (x1 : Int32) (x2 : Int32) (x3 : Int32) (x4 : Int32) (x5 : Int32) (h : Hp), k36 x1 x2 x3 x4 x5 h = some h' → At_ X 36 [(0, .ref 2), (1, .int x1), (2, .int x2), (3, .int x3), (4, .int x4), (5, .int x5)] [] h) (x1 : Int32) (x2 : Int32) (x3 : Int32) (x4 : Int32) (x5 : Int32) (h : Hp) (e : F_X2_writeNumbers_108 k36 x1 x2 x3 x4 x5 h = some h') : At_ X 108 [(0, .ref 2), (1, .int x1), (2, .int x2), (3, .int x3), (4, .int x4), (5, .int x5)] [] h := by
  unfold F_X2_writeNumbers_108 at e
  refine at_iinc hX hn (by decide) rfl (v := 1) (by decide) dX2_writeNumbers_108 ?_
  refine at_goto hX (tgt := 36) (by decide) dX2_writeNumbers_111 ?_
  exact at_sub [0, 1, 2, 3, 4, 5] rfl (hk36 _ _ _ _ _ _ e)
def F_X2_writeNumbers_102 (k46 : Int32 → Int32 → Int32 → Int32 → Int32 → Int32 → Hp → Option Hp) (x1 : Int32) (x2 : Int32) (x3 : Int32) (x4 : Int32) (x5 : Int32) (x6 : Int32) (h : Hp) : Option Hp := k46 x1 x2 x3 x4 x5 (x6 + (1 : Int32)) h
theorem A_X2_writeNumbers_102 {X : CX} {h' : Hp} (hn : (xc_ X).maxLocals = 8) (hX : Ok_ X RX2 cX2_writeNumbers 4) (hR : Rt_ X none none h') (k46 : Int32 → Int32 → Int32 → Int32 → Int32 → Int32 → Hp → Option Hp) (hk46 : ∀ (x1 : Int32) (x2 : Int32) (x3 : Int32) (x4 : Int32) (x5 : Int32) (x6 : Int32) (h : Hp), k46 x1 x2 x3 x4 x5 x6 h = some h' → At_ X 46 [(0, .ref 2), (1, .int x1), (2, .int x2), (3, .int x3), (4, .int x4), (5, .int x5), (6, .int x6)] [] h) (x1 : Int32) (x2 : Int32) (x3 : Int32) (x4 : Int32) (x5 : Int32) (x6 : Int32) (h : Hp) (e : F_X2_writeNumbers_102 k46 x1 x2 x3 x4 x5 x6 h = some h') : At_ X 102 [(0, .ref 2), (1, .int x1), (2, .int x2), (3, .int x3), (4, .int x4), (5, .int x5), (6, .int x6)] [] h := by
  unfold F_X2_writeNumbers_102 at e
  refine at_iinc hX hn (by decide) rfl (v := 1) (by decide) dX2_writeNumbers_102 ?_
  refine at_goto hX (tgt := 46) (by decide) dX2_writeNumbers_105 ?_
  exact at_sub [0, 1, 2, 3, 4, 5, 6] rfl (hk46 _ _ _ _ _ _ _ e)
def F_X2_writeNumbers_46 (n : Nat) (k108 : Int32 → Int32 → Int32 → Int32 → Int32 → Hp → Option Hp) (x1 : Int32) (x2 : Int32) (x3 : Int32) (x4 : Int32) (x5 : Int32) (x6 : Int32) (h : Hp) : Option Hp := match n with
  | 0 => none
  | n + 1 => if x3 ≤ x6 then k108 x1 x2 x3 x4 x5 h else rA_ h 14 40 x1 fun v57 => rA_ h 15 40 x1 fun v66 => rA_ h 16 40 x1 fun v75 => (F_X6_indexOf (v57 + x6) (v66 + x5) v75).bind fun v76 => if v76 < (0 : Int32) then (F_X2_writeNumbers_102 (F_X2_writeNumbers_46 n k108)) x1 x2 x3 x4 x5 x6 h else if (180 : Int32) ≤ v76 then (F_X2_writeNumbers_102 (F_X2_writeNumbers_46 n k108)) x1 x2 x3 x4 x5 x6 h else wA_ h 21 180 v76 x2 fun h101 => (F_X2_writeNumbers_102 (F_X2_writeNumbers_46 n k108)) x1 x2 x3 x4 x5 x6 h101
theorem A_X2_writeNumbers_46 {X : CX} {h' : Hp} (hn : (xc_ X).maxLocals = 8) (hX : Ok_ X RX2 cX2_writeNumbers 4) (hR : Rt_ X none none h') (k108 : Int32 → Int32 → Int32 → Int32 → Int32 → Hp → Option Hp) (hk108 : ∀ (x1 : Int32) (x2 : Int32) (x3 : Int32) (x4 : Int32) (x5 : Int32) (h : Hp), k108 x1 x2 x3 x4 x5 h = some h' → At_ X 108 [(0, .ref 2), (1, .int x1), (2, .int x2), (3, .int x3), (4, .int x4), (5, .int x5)] [] h) : ∀ (n : Nat) (x1 : Int32) (x2 : Int32) (x3 : Int32) (x4 : Int32) (x5 : Int32) (x6 : Int32) (h : Hp), F_X2_writeNumbers_46 n k108 x1 x2 x3 x4 x5 x6 h = some h' → At_ X 46 [(0, .ref 2), (1, .int x1), (2, .int x2), (3, .int x3), (4, .int x4), (5, .int x5), (6, .int x6)] [] h := by
  intro n
  induction n with
  | zero => intro x1 x2 x3 x4 x5 x6 h e; cases e
  | succ n ih =>
    intro x1 x2 x3 x4 x5 x6 h e
    rw [F_X2_writeNumbers_46] at e
    refine at_iload hX rfl dX2_writeNumbers_46 ?_
    refine at_iload_n hX rfl rfl dX2_writeNumbers_48 ?_
    refine at_icmp_ge hX (tgt := 108) (by decide) dX2_writeNumbers_49 (fun c49 => ?_) (fun c49 => ?_)
    · replace e := ip_ c49 e
      exact at_sub [0, 1, 2, 3, 4, 5] rfl (hk108 _ _ _ _ _ _ e)
    · replace e := in_ c49 e
      refine at_aload_n hX rfl rfl dX2_writeNumbers_52 ?_
      refine gf_X2_18 hX dX2_writeNumbers_53 ?_
      refine at_iload_n hX rfl rfl dX2_writeNumbers_56 ?_
      obtain ⟨hi, v57, ev57, e⟩ := rA_some e
      refine at_iald hX (o := 14) (by decide) rfl hi dX2_writeNumbers_57 ?_
      refine at_ti ev57 ?_
      refine at_iload hX rfl dX2_writeNumbers_58 ?_
      refine at_iadd hX dX2_writeNumbers_60 ?_
      refine at_aload_n hX rfl rfl dX2_writeNumbers_61 ?_
      refine gf_X2_21 hX dX2_writeNumbers_62 ?_
      refine at_iload_n hX rfl rfl dX2_writeNumbers_65 ?_
      obtain ⟨hi, v66, ev66, e⟩ := rA_some e
      refine at_iald hX (o := 15) (by decide) rfl hi dX2_writeNumbers_66 ?_
      refine at_ti ev66 ?_
      refine at_iload hX rfl dX2_writeNumbers_67 ?_
      refine at_iadd hX dX2_writeNumbers_69 ?_
      refine at_aload_n hX rfl rfl dX2_writeNumbers_70 ?_
      refine gf_X2_24 hX dX2_writeNumbers_71 ?_
      refine at_iload_n hX rfl rfl dX2_writeNumbers_74 ?_
      obtain ⟨hi, v75, ev75, e⟩ := rA_some e
      refine at_iald hX (o := 16) (by decide) rfl hi dX2_writeNumbers_75 ?_
      refine at_ti ev75 ?_
      obtain ⟨v76, e1, e⟩ := ob_some e
      refine at_callN3 hX cv_X2_101 (by decide) (c_X6_indexOf _ _ _ _ _ _ e1) (Nat.le_of_ble_eq_true rfl) dX2_writeNumbers_76 ?_
      refine at_istore hX hn (by decide) dX2_writeNumbers_79 ?_
      refine at_iload hX rfl dX2_writeNumbers_81 ?_
      refine at_if_lt hX (tgt := 102) (by decide) dX2_writeNumbers_83 (fun c83 => ?_) (fun c83 => ?_)
      · replace e := ip_ c83 e
        exact at_sub [0, 1, 2, 3, 4, 5, 6] rfl ((A_X2_writeNumbers_102 hn hX hR (F_X2_writeNumbers_46 n k108) ih) _ _ _ _ _ _ _ e)
      · replace e := in_ c83 e
        refine at_iload hX rfl dX2_writeNumbers_86 ?_
        refine at_sipush hX (v := 180) (by decide) dX2_writeNumbers_88 ?_
        refine at_icmp_ge hX (tgt := 102) (by decide) dX2_writeNumbers_91 (fun c91 => ?_) (fun c91 => ?_)
        · replace e := ip_ c91 e
          exact at_sub [0, 1, 2, 3, 4, 5, 6] rfl ((A_X2_writeNumbers_102 hn hX hR (F_X2_writeNumbers_46 n k108) ih) _ _ _ _ _ _ _ e)
        · replace e := in_ c91 e
          refine at_aload_n hX rfl rfl dX2_writeNumbers_94 ?_
          refine gf_X2_40 hX dX2_writeNumbers_95 ?_
          refine at_iload hX rfl dX2_writeNumbers_98 ?_
          refine at_iload_n hX rfl rfl dX2_writeNumbers_100 ?_
          obtain ⟨hi, h101, eh101, e⟩ := wA_some e
          refine at_iast hX (o := 21) (by decide) rfl hi dX2_writeNumbers_101 ?_
          refine at_th eh101 ?_
          exact at_sub [0, 1, 2, 3, 4, 5, 6] rfl ((A_X2_writeNumbers_102 hn hX hR (F_X2_writeNumbers_46 n k108) ih) _ _ _ _ _ _ _ e)
def F_X2_writeNumbers_36 (n : Nat) (x1 : Int32) (x2 : Int32) (x3 : Int32) (x4 : Int32) (x5 : Int32) (h : Hp) : Option Hp := match n with
  | 0 => none
  | n + 1 => if x4 ≤ x5 then some h else (F_X2_writeNumbers_46 FU_ (F_X2_writeNumbers_108 (F_X2_writeNumbers_36 n))) x1 x2 x3 x4 x5 (0 : Int32) h
theorem A_X2_writeNumbers_36 {X : CX} {h' : Hp} (hn : (xc_ X).maxLocals = 8) (hX : Ok_ X RX2 cX2_writeNumbers 4) (hR : Rt_ X none none h') : ∀ (n : Nat) (x1 : Int32) (x2 : Int32) (x3 : Int32) (x4 : Int32) (x5 : Int32) (h : Hp), F_X2_writeNumbers_36 n x1 x2 x3 x4 x5 h = some h' → At_ X 36 [(0, .ref 2), (1, .int x1), (2, .int x2), (3, .int x3), (4, .int x4), (5, .int x5)] [] h := by
  intro n
  induction n with
  | zero => intro x1 x2 x3 x4 x5 h e; cases e
  | succ n ih =>
    intro x1 x2 x3 x4 x5 h e
    rw [F_X2_writeNumbers_36] at e
    refine at_iload hX rfl dX2_writeNumbers_36 ?_
    refine at_iload hX rfl dX2_writeNumbers_38 ?_
    refine at_icmp_ge hX (tgt := 114) (by decide) dX2_writeNumbers_40 (fun c40 => ?_) (fun c40 => ?_)
    · replace e := ip_ c40 e
      exact at_return hX hR rfl (by cases e; rfl) dX2_writeNumbers_114
    · replace e := in_ c40 e
      refine at_iconst hX (v := 0) (by decide) dX2_writeNumbers_43 ?_
      refine at_istore hX hn (by decide) dX2_writeNumbers_44 ?_
      exact at_sub [0, 1, 2, 3, 4, 5, 6] rfl ((A_X2_writeNumbers_46 hn hX hR (F_X2_writeNumbers_108 (F_X2_writeNumbers_36 n)) (A_X2_writeNumbers_108 hn hX hR (F_X2_writeNumbers_36 n) ih) FU_) _ _ _ _ _ _ _ e)
def F_X2_writeNumbers (x1 : Int32) (x2 : Int32) (h : Hp) : Option Hp := rA_ h 12 40 x1 fun v5 => rA_ h 13 40 x1 fun v11 => (F_X2_alongX v5 v11 h).bind fun v12 => rA_ h 12 40 x1 fun v21 => rA_ h 13 40 x1 fun v27 => (F_X2_alongY v21 v27 h).bind fun v28 => (F_X2_writeNumbers_36 FU_) x1 x2 v12 v28 (0 : Int32) h
theorem c_X2_writeNumbers (l : Launch) (G : Gl) (x1 : Int32) (x2 : Int32) (h : Hp) {h' : Hp} (e : F_X2_writeNumbers x1 x2 h = some h') : Does l G 4 M_X2_writeNumbers [.ref 2, .int x1, .int x2] h none h' := by
  refine Does.of (by decide) rfl (Nat.le_of_ble_eq_true rfl) (fun X hl hG hn hX hR => ?_)
  unfold F_X2_writeNumbers at e
  subst hl; subst hG
  show At_ X 0 [(0, .ref 2), (1, .int x1), (2, .int x2)] [] h
  refine at_aload_n hX rfl rfl dX2_writeNumbers_0 ?_
  refine gf_X2_9 hX dX2_writeNumbers_1 ?_
  refine at_iload_n hX rfl rfl dX2_writeNumbers_4 ?_
  obtain ⟨hi, v5, ev5, e⟩ := rA_some e
  refine at_iald hX (o := 12) (by decide) rfl hi dX2_writeNumbers_5 ?_
  refine at_ti ev5 ?_
  refine at_aload_n hX rfl rfl dX2_writeNumbers_6 ?_
  refine gf_X2_15 hX dX2_writeNumbers_7 ?_
  refine at_iload_n hX rfl rfl dX2_writeNumbers_10 ?_
  obtain ⟨hi, v11, ev11, e⟩ := rA_some e
  refine at_iald hX (o := 13) (by decide) rfl hi dX2_writeNumbers_11 ?_
  refine at_ti ev11 ?_
  obtain ⟨v12, e1, e⟩ := ob_some e
  refine at_callS2 hX cv_X2_53 (by decide) (c_X2_alongX _ _ _ _ _ e1) (Nat.le_of_ble_eq_true rfl) dX2_writeNumbers_12 ?_
  refine at_istore_n hX rfl hn (by decide) dX2_writeNumbers_15 ?_
  refine at_aload_n hX rfl rfl dX2_writeNumbers_16 ?_
  refine gf_X2_9 hX dX2_writeNumbers_17 ?_
  refine at_iload_n hX rfl rfl dX2_writeNumbers_20 ?_
  obtain ⟨hi, v21, ev21, e⟩ := rA_some e
  refine at_iald hX (o := 12) (by decide) rfl hi dX2_writeNumbers_21 ?_
  refine at_ti ev21 ?_
  refine at_aload_n hX rfl rfl dX2_writeNumbers_22 ?_
  refine gf_X2_15 hX dX2_writeNumbers_23 ?_
  refine at_iload_n hX rfl rfl dX2_writeNumbers_26 ?_
  obtain ⟨hi, v27, ev27, e⟩ := rA_some e
  refine at_iald hX (o := 13) (by decide) rfl hi dX2_writeNumbers_27 ?_
  refine at_ti ev27 ?_
  obtain ⟨v28, e1, e⟩ := ob_some e
  refine at_callS2 hX cv_X2_57 (by decide) (c_X2_alongY _ _ _ _ _ e1) (Nat.le_of_ble_eq_true rfl) dX2_writeNumbers_28 ?_
  refine at_istore hX hn (by decide) dX2_writeNumbers_31 ?_
  refine at_iconst hX (v := 0) (by decide) dX2_writeNumbers_33 ?_
  refine at_istore hX hn (by decide) dX2_writeNumbers_34 ?_
  exact at_sub [0, 1, 2, 3, 4, 5] rfl ((A_X2_writeNumbers_36 hn hX hR FU_) _ _ _ _ _ _ e)

def F_X2_sharedStuds (x1 : Int32) (x2 : Int32) (h : Hp) : Option Int32 := (F_X2_exists x1 h).bind fun v2 => if v2 = (0 : Int32) then some (0 : Int32) else (F_X2_exists x2 h).bind fun v10 => if v10 = (0 : Int32) then some (0 : Int32) else rA_ h 16 40 x1 fun v21 => rA_ h 16 40 x2 fun v27 => if ab_ (v21 - v27) = (1 : Int32) then rL_ h 18 40 x1 fun v43 => rL_ h 18 40 x2 fun v49 => (F_J13_bitCount_95d88 (v43 &&& v49)).bind fun v51 => some v51 else some (0 : Int32)
theorem c_X2_sharedStuds (l : Launch) (G : Gl) (x1 : Int32) (x2 : Int32) (h : Hp) {r : Int32} (e : F_X2_sharedStuds x1 x2 h = some r) : Does l G 2 M_X2_sharedStuds [.ref 2, .int x1, .int x2] h (some (.int r)) h := by
  refine Does.of (by decide) rfl (Nat.le_of_ble_eq_true rfl) (fun X hl hG hn hX hR => ?_)
  unfold F_X2_sharedStuds at e
  subst hl; subst hG
  show At_ X 0 [(0, .ref 2), (1, .int x1), (2, .int x2)] [] h
  refine at_aload_n hX rfl rfl dX2_sharedStuds_0 ?_
  refine at_iload_n hX rfl rfl dX2_sharedStuds_1 ?_
  obtain ⟨v2, e1, e⟩ := ob_some e
  refine at_callV1 hX cv_X2_77 (by decide) (c_X2_exists _ _ _ _ e1) (Nat.le_of_ble_eq_true rfl) dX2_sharedStuds_2 ?_
  refine at_if_eq hX (tgt := 36) (by decide) dX2_sharedStuds_5 (fun c5 => ?_) (fun c5 => ?_)
  · replace e := ip_ c5 e
    refine at_iconst hX (v := 0) (by decide) dX2_sharedStuds_36 ?_
    exact at_ireturn hX hR rfl (by cases e; rfl) rfl dX2_sharedStuds_37
  · replace e := in_ c5 e
    refine at_aload_n hX rfl rfl dX2_sharedStuds_8 ?_
    refine at_iload_n hX rfl rfl dX2_sharedStuds_9 ?_
    obtain ⟨v10, e1, e⟩ := ob_some e
    refine at_callV1 hX cv_X2_77 (by decide) (c_X2_exists _ _ _ _ e1) (Nat.le_of_ble_eq_true rfl) dX2_sharedStuds_10 ?_
    refine at_if_eq hX (tgt := 36) (by decide) dX2_sharedStuds_13 (fun c13 => ?_) (fun c13 => ?_)
    · replace e := ip_ c13 e
      refine at_iconst hX (v := 0) (by decide) dX2_sharedStuds_36 ?_
      exact at_ireturn hX hR rfl (by cases e; rfl) rfl dX2_sharedStuds_37
    · replace e := in_ c13 e
      refine at_aload_n hX rfl rfl dX2_sharedStuds_16 ?_
      refine gf_X2_24 hX dX2_sharedStuds_17 ?_
      refine at_iload_n hX rfl rfl dX2_sharedStuds_20 ?_
      obtain ⟨hi, v21, ev21, e⟩ := rA_some e
      refine at_iald hX (o := 16) (by decide) rfl hi dX2_sharedStuds_21 ?_
      refine at_ti ev21 ?_
      refine at_aload_n hX rfl rfl dX2_sharedStuds_22 ?_
      refine gf_X2_24 hX dX2_sharedStuds_23 ?_
      refine at_iload_n hX rfl rfl dX2_sharedStuds_26 ?_
      obtain ⟨hi, v27, ev27, e⟩ := rA_some e
      refine at_iald hX (o := 16) (by decide) rfl hi dX2_sharedStuds_27 ?_
      refine at_ti ev27 ?_
      refine at_isub hX dX2_sharedStuds_28 ?_
      refine at_mabs hX cv_X2_108 (by decide) (Nat.le_of_ble_eq_true rfl) dX2_sharedStuds_29 ?_
      refine at_iconst hX (v := 1) (by decide) dX2_sharedStuds_32 ?_
      refine at_icmp_eq hX (tgt := 38) (by decide) dX2_sharedStuds_33 (fun c33 => ?_) (fun c33 => ?_)
      · replace e := ip_ c33 e
        refine at_aload_n hX rfl rfl dX2_sharedStuds_38 ?_
        refine gf_X2_30 hX dX2_sharedStuds_39 ?_
        refine at_iload_n hX rfl rfl dX2_sharedStuds_42 ?_
        obtain ⟨hi, v43, ev43, e⟩ := rL_some e
        refine at_lald hX (o := 18) (by decide) rfl hi dX2_sharedStuds_43 ?_
        refine at_tl ev43 ?_
        refine at_aload_n hX rfl rfl dX2_sharedStuds_44 ?_
        refine gf_X2_30 hX dX2_sharedStuds_45 ?_
        refine at_iload_n hX rfl rfl dX2_sharedStuds_48 ?_
        obtain ⟨hi, v49, ev49, e⟩ := rL_some e
        refine at_lald hX (o := 18) (by decide) rfl hi dX2_sharedStuds_49 ?_
        refine at_tl ev49 ?_
        refine at_land hX dX2_sharedStuds_50 ?_
        obtain ⟨v51, e1, e⟩ := ob_some e
        refine at_callS1 hX cv_X2_71 (by decide) (c_J13_bitCount_95d88 _ _ _ _ e1) (Nat.le_of_ble_eq_true rfl) dX2_sharedStuds_51 ?_
        exact at_ireturn hX hR rfl (by cases e; rfl) rfl dX2_sharedStuds_54
      · replace e := in_ c33 e
        refine at_iconst hX (v := 0) (by decide) dX2_sharedStuds_36 ?_
        exact at_ireturn hX hR rfl (by cases e; rfl) rfl dX2_sharedStuds_37

def F_X2_join_40 (k2 : Int32 → Int32 → Hp → Option Hp) (x1 : Int32) (x2 : Int32) (h : Hp) : Option Hp := k2 x1 (x2 + (1 : Int32)) h
theorem A_X2_join_40 {X : CX} {h' : Hp} (hn : (xc_ X).maxLocals = 3) (hX : Ok_ X RX2 cX2_join 3) (hR : Rt_ X none none h') (k2 : Int32 → Int32 → Hp → Option Hp) (hk2 : ∀ (x1 : Int32) (x2 : Int32) (h : Hp), k2 x1 x2 h = some h' → At_ X 2 [(0, .ref 2), (1, .int x1), (2, .int x2)] [] h) (x1 : Int32) (x2 : Int32) (h : Hp) (e : F_X2_join_40 k2 x1 x2 h = some h') : At_ X 40 [(0, .ref 2), (1, .int x1), (2, .int x2)] [] h := by
  unfold F_X2_join_40 at e
  refine at_iinc hX hn (by decide) rfl (v := 1) (by decide) dX2_join_40 ?_
  refine at_goto hX (tgt := 2) (by decide) dX2_join_43 ?_
  exact at_sub [0, 1, 2] rfl (hk2 _ _ _ e)
def F_X2_join_2 (n : Nat) (x1 : Int32) (x2 : Int32) (h : Hp) : Option Hp := match n with
  | 0 => none
  | n + 1 => if x1 ≤ x2 then some h else (F_X2_sharedStuds x1 x2 h).bind fun v10 => if v10 ≤ (0 : Int32) then (F_X2_join_40 (F_X2_join_2 n)) x1 x2 h else rL_ h 19 40 x1 fun v22 => wL_ h 19 40 x1 (v22 ||| (ls_ (1 : Int64) x2)) fun h27 => rL_ h27 19 40 x2 fun v34 => wL_ h27 19 40 x2 (v34 ||| (ls_ (1 : Int64) x1)) fun h39 => (F_X2_join_40 (F_X2_join_2 n)) x1 x2 h39
theorem A_X2_join_2 {X : CX} {h' : Hp} (hn : (xc_ X).maxLocals = 3) (hX : Ok_ X RX2 cX2_join 3) (hR : Rt_ X none none h') : ∀ (n : Nat) (x1 : Int32) (x2 : Int32) (h : Hp), F_X2_join_2 n x1 x2 h = some h' → At_ X 2 [(0, .ref 2), (1, .int x1), (2, .int x2)] [] h := by
  intro n
  induction n with
  | zero => intro x1 x2 h e; cases e
  | succ n ih =>
    intro x1 x2 h e
    rw [F_X2_join_2] at e
    refine at_iload_n hX rfl rfl dX2_join_2 ?_
    refine at_iload_n hX rfl rfl dX2_join_3 ?_
    refine at_icmp_ge hX (tgt := 46) (by decide) dX2_join_4 (fun c4 => ?_) (fun c4 => ?_)
    · replace e := ip_ c4 e
      exact at_return hX hR rfl (by cases e; rfl) dX2_join_46
    · replace e := in_ c4 e
      refine at_aload_n hX rfl rfl dX2_join_7 ?_
      refine at_iload_n hX rfl rfl dX2_join_8 ?_
      refine at_iload_n hX rfl rfl dX2_join_9 ?_
      obtain ⟨v10, e1, e⟩ := ob_some e
      refine at_callV2 hX cv_X2_105 (by decide) (c_X2_sharedStuds _ _ _ _ _ e1) (Nat.le_of_ble_eq_true rfl) dX2_join_10 ?_
      refine at_if_le hX (tgt := 40) (by decide) dX2_join_13 (fun c13 => ?_) (fun c13 => ?_)
      · replace e := ip_ c13 e
        exact at_sub [0, 1, 2] rfl ((A_X2_join_40 hn hX hR (F_X2_join_2 n) ih) _ _ _ e)
      · replace e := in_ c13 e
        refine at_aload_n hX rfl rfl dX2_join_16 ?_
        refine gf_X2_34 hX dX2_join_17 ?_
        refine at_iload_n hX rfl rfl dX2_join_20 ?_
        refine at_dup2 hX rfl rfl dX2_join_21 ?_
        obtain ⟨hi, v22, ev22, e⟩ := rL_some e
        refine at_lald hX (o := 19) (by decide) rfl hi dX2_join_22 ?_
        refine at_tl ev22 ?_
        refine at_lconst hX (v := 1) (by decide) dX2_join_23 ?_
        refine at_iload_n hX rfl rfl dX2_join_24 ?_
        refine at_lshl hX dX2_join_25 ?_
        refine at_lor hX dX2_join_26 ?_
        obtain ⟨hi, h27, eh27, e⟩ := wL_some e
        refine at_last hX (o := 19) (by decide) rfl hi dX2_join_27 ?_
        refine at_th eh27 ?_
        refine at_aload_n hX rfl rfl dX2_join_28 ?_
        refine gf_X2_34 hX dX2_join_29 ?_
        refine at_iload_n hX rfl rfl dX2_join_32 ?_
        refine at_dup2 hX rfl rfl dX2_join_33 ?_
        obtain ⟨hi, v34, ev34, e⟩ := rL_some e
        refine at_lald hX (o := 19) (by decide) rfl hi dX2_join_34 ?_
        refine at_tl ev34 ?_
        refine at_lconst hX (v := 1) (by decide) dX2_join_35 ?_
        refine at_iload_n hX rfl rfl dX2_join_36 ?_
        refine at_lshl hX dX2_join_37 ?_
        refine at_lor hX dX2_join_38 ?_
        obtain ⟨hi, h39, eh39, e⟩ := wL_some e
        refine at_last hX (o := 19) (by decide) rfl hi dX2_join_39 ?_
        refine at_th eh39 ?_
        exact at_sub [0, 1, 2] rfl ((A_X2_join_40 hn hX hR (F_X2_join_2 n) ih) _ _ _ e)
def F_X2_join (x1 : Int32) (h : Hp) : Option Hp := (F_X2_join_2 FU_) x1 (0 : Int32) h
theorem c_X2_join (l : Launch) (G : Gl) (x1 : Int32) (h : Hp) {h' : Hp} (e : F_X2_join x1 h = some h') : Does l G 3 M_X2_join [.ref 2, .int x1] h none h' := by
  refine Does.of (by decide) rfl (Nat.le_of_ble_eq_true rfl) (fun X hl hG hn hX hR => ?_)
  unfold F_X2_join at e
  subst hl; subst hG
  show At_ X 0 [(0, .ref 2), (1, .int x1)] [] h
  refine at_iconst hX (v := 0) (by decide) dX2_join_0 ?_
  refine at_istore_n hX rfl hn (by decide) dX2_join_1 ?_
  exact at_sub [0, 1, 2] rfl ((A_X2_join_2 hn hX hR FU_) _ _ _ e)

def F_X2_add_133 (x5 : Int32) (x7 : Int32) (h : Hp) : Option (Int32 × Hp) := rL_ h 20 5 x5 fun v140 => rL_ h 18 40 x7 fun v147 => wL_ h 20 5 x5 (v140 ||| v147) fun h149 => (F_X2_writeNumbers x7 (x7 + (1 : Int32)) h149).bind fun h157 => (F_X2_join x7 h157).bind fun h163 => some (x7, h163)
theorem A_X2_add_133 {X : CX} {h' : Hp} {r : Int32} (hn : (xc_ X).maxLocals = 8) (hX : Ok_ X RX2 cX2_add 5) (hR : Rt_ X (some .int) (some (.int r)) h') (x5 : Int32) (x7 : Int32) (h : Hp) (e : F_X2_add_133 x5 x7 h = some (r, h')) : At_ X 133 [(0, .ref 2), (5, .int x5), (7, .int x7)] [] h := by
  unfold F_X2_add_133 at e
  refine at_aload_n hX rfl rfl dX2_add_133 ?_
  refine gf_X2_37 hX dX2_add_134 ?_
  refine at_iload hX rfl dX2_add_137 ?_
  refine at_dup2 hX rfl rfl dX2_add_139 ?_
  obtain ⟨hi, v140, ev140, e⟩ := rL_some e
  refine at_lald hX (o := 20) (by decide) rfl hi dX2_add_140 ?_
  refine at_tl ev140 ?_
  refine at_aload_n hX rfl rfl dX2_add_141 ?_
  refine gf_X2_30 hX dX2_add_142 ?_
  refine at_iload hX rfl dX2_add_145 ?_
  obtain ⟨hi, v147, ev147, e⟩ := rL_some e
  refine at_lald hX (o := 18) (by decide) rfl hi dX2_add_147 ?_
  refine at_tl ev147 ?_
  refine at_lor hX dX2_add_148 ?_
  obtain ⟨hi, h149, eh149, e⟩ := wL_some e
  refine at_last hX (o := 20) (by decide) rfl hi dX2_add_149 ?_
  refine at_th eh149 ?_
  refine at_aload_n hX rfl rfl dX2_add_150 ?_
  refine at_iload hX rfl dX2_add_151 ?_
  refine at_iload hX rfl dX2_add_153 ?_
  refine at_iconst hX (v := 1) (by decide) dX2_add_155 ?_
  refine at_iadd hX dX2_add_156 ?_
  obtain ⟨h157, e1, e⟩ := ob_some e
  refine at_callV2 hX cv_X2_88 (by decide) (c_X2_writeNumbers _ _ _ _ _ e1) (Nat.le_of_ble_eq_true rfl) dX2_add_157 ?_
  refine at_aload_n hX rfl rfl dX2_add_160 ?_
  refine at_iload hX rfl dX2_add_161 ?_
  obtain ⟨h163, e1, e⟩ := ob_some e
  refine at_callV1 hX cv_X2_92 (by decide) (c_X2_join _ _ _ _ e1) (Nat.le_of_ble_eq_true rfl) dX2_add_163 ?_
  refine at_iload hX rfl dX2_add_166 ?_
  exact at_ireturn hX hR rfl (by cases e; rfl) (by cases e; rfl) dX2_add_168
def F_X2_add (x1 : Int32) (x2 : Int32) (x3 : Int32) (x4 : Int32) (x5 : Int32) (x6 : Int32) (h : Hp) : Option (Int32 × Hp) := if (40 : Int32) ≤ gI_ h 138 then some ((-1 : Int32), h) else (F_X6_isPlace x3 x4 x5).bind fun v18 => if v18 = (0 : Int32) then some ((-1 : Int32), h) else wA_ h 12 40 (gI_ h 138) x1 fun h33 => wA_ h33 13 40 (gI_ h 138) x2 fun h41 => wA_ h41 14 40 (gI_ h 138) x3 fun h49 => wA_ h49 15 40 (gI_ h 138) x4 fun h58 => wA_ h58 16 40 (gI_ h 138) x5 fun h67 => wA_ h67 17 40 (gI_ h 138) x6 fun h76 => (F_X2_footprint x1 x2 x3 x4 h76).bind fun v88 => wL_ h76 18 40 (gI_ h 138) v88 fun h91 => bd_ (sI_ h91 138 ((gI_ h91 138) + (1 : Int32))) fun h99 => bd_ (sJ_ h99 139 ((gJ_ h99 139) ||| (ls_ (1 : Int64) (gI_ h 138)))) fun h112 => if x5 = (0 : Int32) then bd_ (sJ_ h112 140 ((gJ_ h112 140) ||| (ls_ (1 : Int64) (gI_ h 138)))) fun h130 => F_X2_add_133 x5 (gI_ h 138) h130 else F_X2_add_133 x5 (gI_ h 138) h112
theorem c_X2_add (l : Launch) (G : Gl) (x1 : Int32) (x2 : Int32) (x3 : Int32) (x4 : Int32) (x5 : Int32) (x6 : Int32) (h : Hp) {r : Int32} {h' : Hp} (e : F_X2_add x1 x2 x3 x4 x5 x6 h = some (r, h')) : Does l G 5 M_X2_add [.ref 2, .int x1, .int x2, .int x3, .int x4, .int x5, .int x6] h (some (.int r)) h' := by
  refine Does.of (by decide) rfl (Nat.le_of_ble_eq_true rfl) (fun X hl hG hn hX hR => ?_)
  unfold F_X2_add at e
  subst hl; subst hG
  show At_ X 0 [(0, .ref 2), (1, .int x1), (2, .int x2), (3, .int x3), (4, .int x4), (5, .int x5), (6, .int x6)] [] h
  refine at_aload_n hX rfl rfl dX2_add_0 ?_
  refine gf_X2_60 hX dX2_add_1 ?_
  refine at_istore hX hn (by decide) dX2_add_4 ?_
  refine at_iload hX rfl dX2_add_6 ?_
  refine at_bipush hX (v := 40) (by decide) dX2_add_8 ?_
  refine at_icmp_ge hX (tgt := 24) (by decide) dX2_add_10 (fun c10 => ?_) (fun c10 => ?_)
  · replace e := ip_ c10 e
    refine at_iconst hX (v := -1) (by decide) dX2_add_24 ?_
    exact at_ireturn hX hR rfl (by cases e; rfl) (by cases e; rfl) dX2_add_25
  · replace e := in_ c10 e
    refine at_iload_n hX rfl rfl dX2_add_13 ?_
    refine at_iload hX rfl dX2_add_14 ?_
    refine at_iload hX rfl dX2_add_16 ?_
    obtain ⟨v18, e1, e⟩ := ob_some e
    refine at_callN3 hX cv_X2_80 (by decide) (c_X6_isPlace _ _ _ _ _ _ e1) (Nat.le_of_ble_eq_true rfl) dX2_add_18 ?_
    refine at_if_ne hX (tgt := 26) (by decide) dX2_add_21 (fun c21 => ?_) (fun c21 => ?_)
    · replace e := in_ c21 e
      refine at_aload_n hX rfl rfl dX2_add_26 ?_
      refine gf_X2_9 hX dX2_add_27 ?_
      refine at_iload hX rfl dX2_add_30 ?_
      refine at_iload_n hX rfl rfl dX2_add_32 ?_
      obtain ⟨hi, h33, eh33, e⟩ := wA_some e
      refine at_iast hX (o := 12) (by decide) rfl hi dX2_add_33 ?_
      refine at_th eh33 ?_
      refine at_aload_n hX rfl rfl dX2_add_34 ?_
      refine gf_X2_15 hX dX2_add_35 ?_
      refine at_iload hX rfl dX2_add_38 ?_
      refine at_iload_n hX rfl rfl dX2_add_40 ?_
      obtain ⟨hi, h41, eh41, e⟩ := wA_some e
      refine at_iast hX (o := 13) (by decide) rfl hi dX2_add_41 ?_
      refine at_th eh41 ?_
      refine at_aload_n hX rfl rfl dX2_add_42 ?_
      refine gf_X2_18 hX dX2_add_43 ?_
      refine at_iload hX rfl dX2_add_46 ?_
      refine at_iload_n hX rfl rfl dX2_add_48 ?_
      obtain ⟨hi, h49, eh49, e⟩ := wA_some e
      refine at_iast hX (o := 14) (by decide) rfl hi dX2_add_49 ?_
      refine at_th eh49 ?_
      refine at_aload_n hX rfl rfl dX2_add_50 ?_
      refine gf_X2_21 hX dX2_add_51 ?_
      refine at_iload hX rfl dX2_add_54 ?_
      refine at_iload hX rfl dX2_add_56 ?_
      obtain ⟨hi, h58, eh58, e⟩ := wA_some e
      refine at_iast hX (o := 15) (by decide) rfl hi dX2_add_58 ?_
      refine at_th eh58 ?_
      refine at_aload_n hX rfl rfl dX2_add_59 ?_
      refine gf_X2_24 hX dX2_add_60 ?_
      refine at_iload hX rfl dX2_add_63 ?_
      refine at_iload hX rfl dX2_add_65 ?_
      obtain ⟨hi, h67, eh67, e⟩ := wA_some e
      refine at_iast hX (o := 16) (by decide) rfl hi dX2_add_67 ?_
      refine at_th eh67 ?_
      refine at_aload_n hX rfl rfl dX2_add_68 ?_
      refine gf_X2_27 hX dX2_add_69 ?_
      refine at_iload hX rfl dX2_add_72 ?_
      refine at_iload hX rfl dX2_add_74 ?_
      obtain ⟨hi, h76, eh76, e⟩ := wA_some e
      refine at_iast hX (o := 17) (by decide) rfl hi dX2_add_76 ?_
      refine at_th eh76 ?_
      refine at_aload_n hX rfl rfl dX2_add_77 ?_
      refine gf_X2_30 hX dX2_add_78 ?_
      refine at_iload hX rfl dX2_add_81 ?_
      refine at_iload_n hX rfl rfl dX2_add_83 ?_
      refine at_iload_n hX rfl rfl dX2_add_84 ?_
      refine at_iload_n hX rfl rfl dX2_add_85 ?_
      refine at_iload hX rfl dX2_add_86 ?_
      obtain ⟨v88, e1, e⟩ := ob_some e
      refine at_callS4 hX cv_X2_84 (by decide) (c_X2_footprint _ _ _ _ _ _ _ e1) (Nat.le_of_ble_eq_true rfl) dX2_add_88 ?_
      obtain ⟨hi, h91, eh91, e⟩ := wL_some e
      refine at_last hX (o := 18) (by decide) rfl hi dX2_add_91 ?_
      refine at_th eh91 ?_
      refine at_aload_n hX rfl rfl dX2_add_92 ?_
      refine at_dup hX rfl dX2_add_93 ?_
      refine gf_X2_60 hX dX2_add_94 ?_
      refine at_iconst hX (v := 1) (by decide) dX2_add_97 ?_
      refine at_iadd hX dX2_add_98 ?_
      obtain ⟨h99, eh99, e⟩ := bd_some e
      refine pf_X2_60 hX dX2_add_99 ?_
      refine at_th eh99 ?_
      refine at_aload_n hX rfl rfl dX2_add_102 ?_
      refine at_dup hX rfl dX2_add_103 ?_
      refine gf_X2_64 hX dX2_add_104 ?_
      refine at_lconst hX (v := 1) (by decide) dX2_add_107 ?_
      refine at_iload hX rfl dX2_add_108 ?_
      refine at_lshl hX dX2_add_110 ?_
      refine at_lor hX dX2_add_111 ?_
      obtain ⟨h112, eh112, e⟩ := bd_some e
      refine pf_X2_64 hX dX2_add_112 ?_
      refine at_th eh112 ?_
      refine at_iload hX rfl dX2_add_115 ?_
      refine at_if_ne hX (tgt := 133) (by decide) dX2_add_117 (fun c117 => ?_) (fun c117 => ?_)
      · replace e := in_ c117 e
        exact at_sub [0, 5, 7] rfl ((A_X2_add_133 hn hX hR) _ _ _ e)
      · replace e := ip_ c117 e
        refine at_aload_n hX rfl rfl dX2_add_120 ?_
        refine at_dup hX rfl dX2_add_121 ?_
        refine gf_X2_68 hX dX2_add_122 ?_
        refine at_lconst hX (v := 1) (by decide) dX2_add_125 ?_
        refine at_iload hX rfl dX2_add_126 ?_
        refine at_lshl hX dX2_add_128 ?_
        refine at_lor hX dX2_add_129 ?_
        obtain ⟨h130, eh130, e⟩ := bd_some e
        refine pf_X2_68 hX dX2_add_130 ?_
        refine at_th eh130 ?_
        exact at_sub [0, 5, 7] rfl ((A_X2_add_133 hn hX hR) _ _ _ e)
    · replace e := ip_ c21 e
      refine at_iconst hX (v := -1) (by decide) dX2_add_24 ?_
      exact at_ireturn hX hR rfl (by cases e; rfl) (by cases e; rfl) dX2_add_25

def F_X2_remove (x1 : Int32) (h : Hp) : Option Hp := (F_X2_isThere x1 h).bind fun v2 => if v2 = (0 : Int32) then some h else bd_ (sJ_ h 139 ((gJ_ h 139) &&& ((ls_ (1 : Int64) x1) ^^^ (-1 : Int64)))) fun h22 => bd_ (sJ_ h22 140 ((gJ_ h22 140) &&& (gJ_ h22 139))) fun h35 => rA_ h35 16 40 x1 fun v47 => rL_ h35 20 5 v47 fun v49 => rL_ h35 18 40 x1 fun v55 => wL_ h35 20 5 v47 (v49 &&& (v55 ^^^ (-1 : Int64))) fun h61 => (F_X2_writeNumbers x1 (0 : Int32) h61).bind fun h65 => some h65
theorem c_X2_remove (l : Launch) (G : Gl) (x1 : Int32) (h : Hp) {h' : Hp} (e : F_X2_remove x1 h = some h') : Does l G 5 M_X2_remove [.ref 2, .int x1] h none h' := by
  refine Does.of (by decide) rfl (Nat.le_of_ble_eq_true rfl) (fun X hl hG hn hX hR => ?_)
  unfold F_X2_remove at e
  subst hl; subst hG
  show At_ X 0 [(0, .ref 2), (1, .int x1)] [] h
  refine at_aload_n hX rfl rfl dX2_remove_0 ?_
  refine at_iload_n hX rfl rfl dX2_remove_1 ?_
  obtain ⟨v2, e1, e⟩ := ob_some e
  refine at_callV1 hX cv_X2_96 (by decide) (c_X2_isThere _ _ _ _ e1) (Nat.le_of_ble_eq_true rfl) dX2_remove_2 ?_
  refine at_if_ne hX (tgt := 9) (by decide) dX2_remove_5 (fun c5 => ?_) (fun c5 => ?_)
  · replace e := in_ c5 e
    refine at_aload_n hX rfl rfl dX2_remove_9 ?_
    refine at_dup hX rfl dX2_remove_10 ?_
    refine gf_X2_64 hX dX2_remove_11 ?_
    refine at_lconst hX (v := 1) (by decide) dX2_remove_14 ?_
    refine at_iload_n hX rfl rfl dX2_remove_15 ?_
    refine at_lshl hX dX2_remove_16 ?_
    refine at_ldc2 hX wk_X2_99 dX2_remove_17 ?_
    refine at_lxor hX dX2_remove_20 ?_
    refine at_land hX dX2_remove_21 ?_
    obtain ⟨h22, eh22, e⟩ := bd_some e
    refine pf_X2_64 hX dX2_remove_22 ?_
    refine at_th eh22 ?_
    refine at_aload_n hX rfl rfl dX2_remove_25 ?_
    refine at_dup hX rfl dX2_remove_26 ?_
    refine gf_X2_68 hX dX2_remove_27 ?_
    refine at_aload_n hX rfl rfl dX2_remove_30 ?_
    refine gf_X2_64 hX dX2_remove_31 ?_
    refine at_land hX dX2_remove_34 ?_
    obtain ⟨h35, eh35, e⟩ := bd_some e
    refine pf_X2_68 hX dX2_remove_35 ?_
    refine at_th eh35 ?_
    refine at_aload_n hX rfl rfl dX2_remove_38 ?_
    refine gf_X2_37 hX dX2_remove_39 ?_
    refine at_aload_n hX rfl rfl dX2_remove_42 ?_
    refine gf_X2_24 hX dX2_remove_43 ?_
    refine at_iload_n hX rfl rfl dX2_remove_46 ?_
    obtain ⟨hi, v47, ev47, e⟩ := rA_some e
    refine at_iald hX (o := 16) (by decide) rfl hi dX2_remove_47 ?_
    refine at_ti ev47 ?_
    refine at_dup2 hX rfl rfl dX2_remove_48 ?_
    obtain ⟨hi, v49, ev49, e⟩ := rL_some e
    refine at_lald hX (o := 20) (by decide) rfl hi dX2_remove_49 ?_
    refine at_tl ev49 ?_
    refine at_aload_n hX rfl rfl dX2_remove_50 ?_
    refine gf_X2_30 hX dX2_remove_51 ?_
    refine at_iload_n hX rfl rfl dX2_remove_54 ?_
    obtain ⟨hi, v55, ev55, e⟩ := rL_some e
    refine at_lald hX (o := 18) (by decide) rfl hi dX2_remove_55 ?_
    refine at_tl ev55 ?_
    refine at_ldc2 hX wk_X2_99 dX2_remove_56 ?_
    refine at_lxor hX dX2_remove_59 ?_
    refine at_land hX dX2_remove_60 ?_
    obtain ⟨hi, h61, eh61, e⟩ := wL_some e
    refine at_last hX (o := 20) (by decide) rfl hi dX2_remove_61 ?_
    refine at_th eh61 ?_
    refine at_aload_n hX rfl rfl dX2_remove_62 ?_
    refine at_iload_n hX rfl rfl dX2_remove_63 ?_
    refine at_iconst hX (v := 0) (by decide) dX2_remove_64 ?_
    obtain ⟨h65, e1, e⟩ := ob_some e
    refine at_callV2 hX cv_X2_88 (by decide) (c_X2_writeNumbers _ _ _ _ _ e1) (Nat.le_of_ble_eq_true rfl) dX2_remove_65 ?_
    exact at_return hX hR rfl (by cases e; rfl) dX2_remove_68
  · replace e := ip_ c5 e
    exact at_return hX hR rfl (by cases e; rfl) dX2_remove_8

def F_X2_neighboursOf (x1 : Int32) (h : Hp) : Option Int64 := (F_X2_exists x1 h).bind fun v2 => if v2 = (0 : Int32) then some (0 : Int64) else rL_ h 19 40 x1 fun v13 => some v13
theorem c_X2_neighboursOf (l : Launch) (G : Gl) (x1 : Int32) (h : Hp) {r : Int64} (e : F_X2_neighboursOf x1 h = some r) : Does l G 2 M_X2_neighboursOf [.ref 2, .int x1] h (some (.long r)) h := by
  refine Does.of (by decide) rfl (Nat.le_of_ble_eq_true rfl) (fun X hl hG hn hX hR => ?_)
  unfold F_X2_neighboursOf at e
  subst hl; subst hG
  show At_ X 0 [(0, .ref 2), (1, .int x1)] [] h
  refine at_aload_n hX rfl rfl dX2_neighboursOf_0 ?_
  refine at_iload_n hX rfl rfl dX2_neighboursOf_1 ?_
  obtain ⟨v2, e1, e⟩ := ob_some e
  refine at_callV1 hX cv_X2_77 (by decide) (c_X2_exists _ _ _ _ e1) (Nat.le_of_ble_eq_true rfl) dX2_neighboursOf_2 ?_
  refine at_if_eq hX (tgt := 17) (by decide) dX2_neighboursOf_5 (fun c5 => ?_) (fun c5 => ?_)
  · replace e := ip_ c5 e
    refine at_lconst hX (v := 0) (by decide) dX2_neighboursOf_17 ?_
    exact at_lreturn hX hR (by cases e; rfl) rfl dX2_neighboursOf_18
  · replace e := in_ c5 e
    refine at_aload_n hX rfl rfl dX2_neighboursOf_8 ?_
    refine gf_X2_34 hX dX2_neighboursOf_9 ?_
    refine at_iload_n hX rfl rfl dX2_neighboursOf_12 ?_
    obtain ⟨hi, v13, ev13, e⟩ := rL_some e
    refine at_lald hX (o := 19) (by decide) rfl hi dX2_neighboursOf_13 ?_
    refine at_tl ev13 ?_
    refine at_goto hX (tgt := 18) (by decide) dX2_neighboursOf_14 ?_
    exact at_lreturn hX hR (by cases e; rfl) rfl dX2_neighboursOf_18

def F_X2_sizeOf (x1 : Int32) (h : Hp) : Option Int32 := (F_X2_exists x1 h).bind fun v2 => if v2 = (0 : Int32) then some (0 : Int32) else rL_ h 18 40 x1 fun v13 => (F_J13_bitCount_95d88 v13).bind fun v14 => some v14
theorem c_X2_sizeOf (l : Launch) (G : Gl) (x1 : Int32) (h : Hp) {r : Int32} (e : F_X2_sizeOf x1 h = some r) : Does l G 2 M_X2_sizeOf [.ref 2, .int x1] h (some (.int r)) h := by
  refine Does.of (by decide) rfl (Nat.le_of_ble_eq_true rfl) (fun X hl hG hn hX hR => ?_)
  unfold F_X2_sizeOf at e
  subst hl; subst hG
  show At_ X 0 [(0, .ref 2), (1, .int x1)] [] h
  refine at_aload_n hX rfl rfl dX2_sizeOf_0 ?_
  refine at_iload_n hX rfl rfl dX2_sizeOf_1 ?_
  obtain ⟨v2, e1, e⟩ := ob_some e
  refine at_callV1 hX cv_X2_77 (by decide) (c_X2_exists _ _ _ _ e1) (Nat.le_of_ble_eq_true rfl) dX2_sizeOf_2 ?_
  refine at_if_eq hX (tgt := 20) (by decide) dX2_sizeOf_5 (fun c5 => ?_) (fun c5 => ?_)
  · replace e := ip_ c5 e
    refine at_iconst hX (v := 0) (by decide) dX2_sizeOf_20 ?_
    exact at_ireturn hX hR rfl (by cases e; rfl) rfl dX2_sizeOf_21
  · replace e := in_ c5 e
    refine at_aload_n hX rfl rfl dX2_sizeOf_8 ?_
    refine gf_X2_30 hX dX2_sizeOf_9 ?_
    refine at_iload_n hX rfl rfl dX2_sizeOf_12 ?_
    obtain ⟨hi, v13, ev13, e⟩ := rL_some e
    refine at_lald hX (o := 18) (by decide) rfl hi dX2_sizeOf_13 ?_
    refine at_tl ev13 ?_
    obtain ⟨v14, e1, e⟩ := ob_some e
    refine at_callS1 hX cv_X2_71 (by decide) (c_J13_bitCount_95d88 _ _ _ _ e1) (Nat.le_of_ble_eq_true rfl) dX2_sizeOf_14 ?_
    refine at_goto hX (tgt := 21) (by decide) dX2_sizeOf_17 ?_
    exact at_ireturn hX hR rfl (by cases e; rfl) rfl dX2_sizeOf_21

def F_X2_colourOf (x1 : Int32) (h : Hp) : Option Int32 := (F_X2_exists x1 h).bind fun v2 => if v2 = (0 : Int32) then some (0 : Int32) else rA_ h 17 40 x1 fun v13 => some v13
theorem c_X2_colourOf (l : Launch) (G : Gl) (x1 : Int32) (h : Hp) {r : Int32} (e : F_X2_colourOf x1 h = some r) : Does l G 2 M_X2_colourOf [.ref 2, .int x1] h (some (.int r)) h := by
  refine Does.of (by decide) rfl (Nat.le_of_ble_eq_true rfl) (fun X hl hG hn hX hR => ?_)
  unfold F_X2_colourOf at e
  subst hl; subst hG
  show At_ X 0 [(0, .ref 2), (1, .int x1)] [] h
  refine at_aload_n hX rfl rfl dX2_colourOf_0 ?_
  refine at_iload_n hX rfl rfl dX2_colourOf_1 ?_
  obtain ⟨v2, e1, e⟩ := ob_some e
  refine at_callV1 hX cv_X2_77 (by decide) (c_X2_exists _ _ _ _ e1) (Nat.le_of_ble_eq_true rfl) dX2_colourOf_2 ?_
  refine at_if_eq hX (tgt := 17) (by decide) dX2_colourOf_5 (fun c5 => ?_) (fun c5 => ?_)
  · replace e := ip_ c5 e
    refine at_iconst hX (v := 0) (by decide) dX2_colourOf_17 ?_
    exact at_ireturn hX hR rfl (by cases e; rfl) rfl dX2_colourOf_18
  · replace e := in_ c5 e
    refine at_aload_n hX rfl rfl dX2_colourOf_8 ?_
    refine gf_X2_27 hX dX2_colourOf_9 ?_
    refine at_iload_n hX rfl rfl dX2_colourOf_12 ?_
    obtain ⟨hi, v13, ev13, e⟩ := rA_some e
    refine at_iald hX (o := 17) (by decide) rfl hi dX2_colourOf_13 ?_
    refine at_ti ev13 ?_
    refine at_goto hX (tgt := 18) (by decide) dX2_colourOf_14 ?_
    exact at_ireturn hX hR rfl (by cases e; rfl) rfl dX2_colourOf_18

def F_X2_coveringFromAbove_78 (k6 : Int32 → Int64 → Int64 → Int32 → Hp → Option Int64) (x1 : Int32) (x2 : Int64) (x4 : Int64) (x6 : Int32) (h : Hp) : Option Int64 := k6 x1 x2 x4 (x6 + (1 : Int32)) h
theorem A_X2_coveringFromAbove_78 {X : CX} {h : Hp} {r : Int64} (hn : (xc_ X).maxLocals = 7) (hX : Ok_ X RX2 cX2_coveringFromAbove 2) (hR : Rt_ X (some .long) (some (.long r)) h) (k6 : Int32 → Int64 → Int64 → Int32 → Hp → Option Int64) (hk6 : ∀ (x1 : Int32) (x2 : Int64) (x4 : Int64) (x6 : Int32), k6 x1 x2 x4 x6 h = some r → At_ X 6 [(0, .ref 2), (1, .int x1), (2, .long x2), (4, .long x4), (6, .int x6)] [] h) (x1 : Int32) (x2 : Int64) (x4 : Int64) (x6 : Int32) (e : F_X2_coveringFromAbove_78 k6 x1 x2 x4 x6 h = some r) : At_ X 78 [(0, .ref 2), (1, .int x1), (2, .long x2), (4, .long x4), (6, .int x6)] [] h := by
  unfold F_X2_coveringFromAbove_78 at e
  refine at_iinc hX hn (by decide) rfl (v := 1) (by decide) dX2_coveringFromAbove_78 ?_
  refine at_goto hX (tgt := 6) (by decide) dX2_coveringFromAbove_81 ?_
  exact at_sub [0, 1, 2, 4, 6] rfl (hk6 _ _ _ _ e)
def F_X2_coveringFromAbove_6 (n : Nat) (x1 : Int32) (x2 : Int64) (x4 : Int64) (x6 : Int32) (h : Hp) : Option Int64 := match n with
  | 0 => none
  | n + 1 => if gI_ h 138 ≤ x6 then some x4 else (F_X2_exists x1 h).bind fun v17 => if v17 = (0 : Int32) then (F_X2_coveringFromAbove_78 (F_X2_coveringFromAbove_6 n)) x1 x2 x4 x6 h else if (lu_ x2 x6) &&& (1 : Int64) = (1 : Int64) then rA_ h 16 40 x6 fun v40 => rA_ h 16 40 x1 fun v46 => if v40 ≤ v46 then (F_X2_coveringFromAbove_78 (F_X2_coveringFromAbove_6 n)) x1 x2 x4 x6 h else rL_ h 18 40 x6 fun v56 => rL_ h 18 40 x1 fun v62 => if v56 &&& v62 = (0 : Int64) then (F_X2_coveringFromAbove_78 (F_X2_coveringFromAbove_6 n)) x1 x2 x4 x6 h else bd_ (x4 ||| (ls_ (1 : Int64) x6)) fun y76 => (F_X2_coveringFromAbove_78 (F_X2_coveringFromAbove_6 n)) x1 x2 y76 x6 h else (F_X2_coveringFromAbove_78 (F_X2_coveringFromAbove_6 n)) x1 x2 x4 x6 h
theorem A_X2_coveringFromAbove_6 {X : CX} {h : Hp} {r : Int64} (hn : (xc_ X).maxLocals = 7) (hX : Ok_ X RX2 cX2_coveringFromAbove 2) (hR : Rt_ X (some .long) (some (.long r)) h) : ∀ (n : Nat) (x1 : Int32) (x2 : Int64) (x4 : Int64) (x6 : Int32), F_X2_coveringFromAbove_6 n x1 x2 x4 x6 h = some r → At_ X 6 [(0, .ref 2), (1, .int x1), (2, .long x2), (4, .long x4), (6, .int x6)] [] h := by
  intro n
  induction n with
  | zero => intro x1 x2 x4 x6 e; cases e
  | succ n ih =>
    intro x1 x2 x4 x6 e
    rw [F_X2_coveringFromAbove_6] at e
    refine at_iload hX rfl dX2_coveringFromAbove_6 ?_
    refine at_aload_n hX rfl rfl dX2_coveringFromAbove_8 ?_
    refine gf_X2_60 hX dX2_coveringFromAbove_9 ?_
    refine at_icmp_ge hX (tgt := 84) (by decide) dX2_coveringFromAbove_12 (fun c12 => ?_) (fun c12 => ?_)
    · replace e := ip_ c12 e
      refine at_lload hX rfl dX2_coveringFromAbove_84 ?_
      exact at_lreturn hX hR (by cases e; rfl) rfl dX2_coveringFromAbove_86
    · replace e := in_ c12 e
      refine at_aload_n hX rfl rfl dX2_coveringFromAbove_15 ?_
      refine at_iload_n hX rfl rfl dX2_coveringFromAbove_16 ?_
      obtain ⟨v17, e1, e⟩ := ob_some e
      refine at_callV1 hX cv_X2_77 (by decide) (c_X2_exists _ _ _ _ e1) (Nat.le_of_ble_eq_true rfl) dX2_coveringFromAbove_17 ?_
      refine at_if_eq hX (tgt := 78) (by decide) dX2_coveringFromAbove_20 (fun c20 => ?_) (fun c20 => ?_)
      · replace e := ip_ c20 e
        exact at_sub [0, 1, 2, 4, 6] rfl ((A_X2_coveringFromAbove_78 hn hX hR (F_X2_coveringFromAbove_6 n) ih) _ _ _ _ e)
      · replace e := in_ c20 e
        refine at_lload_n hX rfl rfl dX2_coveringFromAbove_23 ?_
        refine at_iload hX rfl dX2_coveringFromAbove_24 ?_
        refine at_lushr hX dX2_coveringFromAbove_26 ?_
        refine at_lconst hX (v := 1) (by decide) dX2_coveringFromAbove_27 ?_
        refine at_land hX dX2_coveringFromAbove_28 ?_
        refine at_lconst hX (v := 1) (by decide) dX2_coveringFromAbove_29 ?_
        refine at_lcmp_ne hX (tgt := 78) (by decide) dX2_coveringFromAbove_30 dX2_coveringFromAbove_31 (fun c30 => ?_) (fun c30 => ?_)
        · replace e := in_ c30 e
          exact at_sub [0, 1, 2, 4, 6] rfl ((A_X2_coveringFromAbove_78 hn hX hR (F_X2_coveringFromAbove_6 n) ih) _ _ _ _ e)
        · replace e := ip_ c30 e
          refine at_aload_n hX rfl rfl dX2_coveringFromAbove_34 ?_
          refine gf_X2_24 hX dX2_coveringFromAbove_35 ?_
          refine at_iload hX rfl dX2_coveringFromAbove_38 ?_
          obtain ⟨hi, v40, ev40, e⟩ := rA_some e
          refine at_iald hX (o := 16) (by decide) rfl hi dX2_coveringFromAbove_40 ?_
          refine at_ti ev40 ?_
          refine at_aload_n hX rfl rfl dX2_coveringFromAbove_41 ?_
          refine gf_X2_24 hX dX2_coveringFromAbove_42 ?_
          refine at_iload_n hX rfl rfl dX2_coveringFromAbove_45 ?_
          obtain ⟨hi, v46, ev46, e⟩ := rA_some e
          refine at_iald hX (o := 16) (by decide) rfl hi dX2_coveringFromAbove_46 ?_
          refine at_ti ev46 ?_
          refine at_icmp_le hX (tgt := 78) (by decide) dX2_coveringFromAbove_47 (fun c47 => ?_) (fun c47 => ?_)
          · replace e := ip_ c47 e
            exact at_sub [0, 1, 2, 4, 6] rfl ((A_X2_coveringFromAbove_78 hn hX hR (F_X2_coveringFromAbove_6 n) ih) _ _ _ _ e)
          · replace e := in_ c47 e
            refine at_aload_n hX rfl rfl dX2_coveringFromAbove_50 ?_
            refine gf_X2_30 hX dX2_coveringFromAbove_51 ?_
            refine at_iload hX rfl dX2_coveringFromAbove_54 ?_
            obtain ⟨hi, v56, ev56, e⟩ := rL_some e
            refine at_lald hX (o := 18) (by decide) rfl hi dX2_coveringFromAbove_56 ?_
            refine at_tl ev56 ?_
            refine at_aload_n hX rfl rfl dX2_coveringFromAbove_57 ?_
            refine gf_X2_30 hX dX2_coveringFromAbove_58 ?_
            refine at_iload_n hX rfl rfl dX2_coveringFromAbove_61 ?_
            obtain ⟨hi, v62, ev62, e⟩ := rL_some e
            refine at_lald hX (o := 18) (by decide) rfl hi dX2_coveringFromAbove_62 ?_
            refine at_tl ev62 ?_
            refine at_land hX dX2_coveringFromAbove_63 ?_
            refine at_lconst hX (v := 0) (by decide) dX2_coveringFromAbove_64 ?_
            refine at_lcmp_eq hX (tgt := 78) (by decide) dX2_coveringFromAbove_65 dX2_coveringFromAbove_66 (fun c65 => ?_) (fun c65 => ?_)
            · replace e := ip_ c65 e
              exact at_sub [0, 1, 2, 4, 6] rfl ((A_X2_coveringFromAbove_78 hn hX hR (F_X2_coveringFromAbove_6 n) ih) _ _ _ _ e)
            · replace e := in_ c65 e
              refine at_lload hX rfl dX2_coveringFromAbove_69 ?_
              refine at_lconst hX (v := 1) (by decide) dX2_coveringFromAbove_71 ?_
              refine at_iload hX rfl dX2_coveringFromAbove_72 ?_
              refine at_lshl hX dX2_coveringFromAbove_74 ?_
              refine at_lor hX dX2_coveringFromAbove_75 ?_
              obtain ⟨y76, ey76, e⟩ := bd_some e
              refine at_tl ey76 ?_
              refine at_lstore hX hn (by decide) dX2_coveringFromAbove_76 ?_
              exact at_sub [0, 1, 2, 4, 6] rfl ((A_X2_coveringFromAbove_78 hn hX hR (F_X2_coveringFromAbove_6 n) ih) _ _ _ _ e)
def F_X2_coveringFromAbove (x1 : Int32) (x2 : Int64) (h : Hp) : Option Int64 := (F_X2_coveringFromAbove_6 FU_) x1 x2 (0 : Int64) (0 : Int32) h
theorem c_X2_coveringFromAbove (l : Launch) (G : Gl) (x1 : Int32) (x2 : Int64) (h : Hp) {r : Int64} (e : F_X2_coveringFromAbove x1 x2 h = some r) : Does l G 2 M_X2_coveringFromAbove [.ref 2, .int x1, .long x2] h (some (.long r)) h := by
  refine Does.of (by decide) rfl (Nat.le_of_ble_eq_true rfl) (fun X hl hG hn hX hR => ?_)
  unfold F_X2_coveringFromAbove at e
  subst hl; subst hG
  show At_ X 0 [(0, .ref 2), (1, .int x1), (2, .long x2)] [] h
  refine at_lconst hX (v := 0) (by decide) dX2_coveringFromAbove_0 ?_
  refine at_lstore hX hn (by decide) dX2_coveringFromAbove_1 ?_
  refine at_iconst hX (v := 0) (by decide) dX2_coveringFromAbove_3 ?_
  refine at_istore hX hn (by decide) dX2_coveringFromAbove_4 ?_
  exact at_sub [0, 1, 2, 4, 6] rfl ((A_X2_coveringFromAbove_6 hn hX hR FU_) _ _ _ _ e)
