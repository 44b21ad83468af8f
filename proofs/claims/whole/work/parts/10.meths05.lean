
def F_X7_floats_34 (k5 : Int32 → Int64 → Hp → Option Int32) (x4 : Int64) (s0 : Int32) (h : Hp) : Option Int32 := bd_ (x4 &&& (x4 - (1 : Int64))) fun y42 => k5 s0 y42 h
theorem A_X7_floats_34 {X : CX} {h : Hp} {r : Int32} (hn : (xc_ X).maxLocals = 6) (hX : Ok_ X RX7 cX7_floats 2) (hR : Rt_ X (some .boolean) (some (.int r)) h) (k5 : Int32 → Int64 → Hp → Option Int32) (hk5 : ∀ (x3 : Int32) (x4 : Int64), k5 x3 x4 h = some r → At_ X 5 [(0, .ref 7), (3, .int x3), (4, .long x4)] [] h) (x4 : Int64) (s0 : Int32) (e : F_X7_floats_34 k5 x4 s0 h = some r) : At_ X 34 [(0, .ref 7), (4, .long x4)] [.int s0] h := by
  unfold F_X7_floats_34 at e
  refine at_istore_n hX rfl hn (by decide) dX7_floats_34 ?_
  refine at_lload hX rfl dX7_floats_35 ?_
  refine at_lload hX rfl dX7_floats_37 ?_
  refine at_lconst hX (v := 1) (by decide) dX7_floats_39 ?_
  refine at_lsub hX dX7_floats_40 ?_
  refine at_land hX dX7_floats_41 ?_
  obtain ⟨y42, ey42, e⟩ := bd_some e
  refine at_tl ey42 ?_
  refine at_lstore hX hn (by decide) dX7_floats_42 ?_
  refine at_goto hX (tgt := 5) (by decide) dX7_floats_44 ?_
  exact at_sub [0, 3, 4] rfl (hk5 _ _ e)
def F_X7_floats_33 (k5 : Int32 → Int64 → Hp → Option Int32) (x4 : Int64) (h : Hp) : Option Int32 := (F_X7_floats_34 k5) x4 (0 : Int32) h
theorem A_X7_floats_33 {X : CX} {h : Hp} {r : Int32} (hn : (xc_ X).maxLocals = 6) (hX : Ok_ X RX7 cX7_floats 2) (hR : Rt_ X (some .boolean) (some (.int r)) h) (k5 : Int32 → Int64 → Hp → Option Int32) (hk5 : ∀ (x3 : Int32) (x4 : Int64), k5 x3 x4 h = some r → At_ X 5 [(0, .ref 7), (3, .int x3), (4, .long x4)] [] h) (x4 : Int64) (e : F_X7_floats_33 k5 x4 h = some r) : At_ X 33 [(0, .ref 7), (4, .long x4)] [] h := by
  unfold F_X7_floats_33 at e
  refine at_iconst hX (v := 0) (by decide) dX7_floats_33 ?_
  exact at_sub [0, 4] rfl ((A_X7_floats_34 hn hX hR k5 hk5) _ _ e)
def F_X7_floats_5 (n : Nat) (x3 : Int32) (x4 : Int64) (h : Hp) : Option Int32 := match n with
  | 0 => none
  | n + 1 => if x4 = (0 : Int64) then bz_ x3 fun z48 => some z48 else if x3 = (0 : Int32) then (F_X7_floats_33 (F_X7_floats_5 n)) x4 h else (F_X7_first x4).bind fun v22 => rA_ h 46 40 v22 fun v25 => if v25 ≤ (0 : Int32) then (F_X7_floats_33 (F_X7_floats_5 n)) x4 h else (F_X7_floats_34 (F_X7_floats_5 n)) x4 (1 : Int32) h
theorem A_X7_floats_5 {X : CX} {h : Hp} {r : Int32} (hn : (xc_ X).maxLocals = 6) (hX : Ok_ X RX7 cX7_floats 2) (hR : Rt_ X (some .boolean) (some (.int r)) h) : ∀ (n : Nat) (x3 : Int32) (x4 : Int64), F_X7_floats_5 n x3 x4 h = some r → At_ X 5 [(0, .ref 7), (3, .int x3), (4, .long x4)] [] h := by
  intro n
  induction n with
  | zero => intro x3 x4 e; cases e
  | succ n ih =>
    intro x3 x4 e
    rw [F_X7_floats_5] at e
    refine at_lload hX rfl dX7_floats_5 ?_
    refine at_lconst hX (v := 0) (by decide) dX7_floats_7 ?_
    refine at_lcmp_eq hX (tgt := 47) (by decide) dX7_floats_8 dX7_floats_9 (fun c8 => ?_) (fun c8 => ?_)
    · replace e := ip_ c8 e
      refine at_iload_n hX rfl rfl dX7_floats_47 ?_
      obtain ⟨hz, z48, ez48, e⟩ := bz_some e
      refine at_ti ez48 ?_
      exact at_ireturn hX hR (bz_nar hz ez48) (by cases e; rfl) rfl dX7_floats_48
    · replace e := in_ c8 e
      refine at_iload_n hX rfl rfl dX7_floats_12 ?_
      refine at_if_eq hX (tgt := 33) (by decide) dX7_floats_13 (fun c13 => ?_) (fun c13 => ?_)
      · replace e := ip_ c13 e
        exact at_sub [0, 4] rfl ((A_X7_floats_33 hn hX hR (F_X7_floats_5 n) ih) _ e)
      · replace e := in_ c13 e
        refine at_aload_n hX rfl rfl dX7_floats_16 ?_
        refine gf_X7_34 hX dX7_floats_17 ?_
        refine at_lload hX rfl dX7_floats_20 ?_
        obtain ⟨v22, e1, e⟩ := ob_some e
        refine at_callS1 hX cv_X7_171 (by decide) (c_X7_first _ _ _ _ e1) (Nat.le_of_ble_eq_true rfl) dX7_floats_22 ?_
        obtain ⟨hi, v25, ev25, e⟩ := rA_some e
        refine at_iald hX (o := 46) (by decide) rfl hi dX7_floats_25 ?_
        refine at_ti ev25 ?_
        refine at_if_le hX (tgt := 33) (by decide) dX7_floats_26 (fun c26 => ?_) (fun c26 => ?_)
        · replace e := ip_ c26 e
          exact at_sub [0, 4] rfl ((A_X7_floats_33 hn hX hR (F_X7_floats_5 n) ih) _ e)
        · replace e := in_ c26 e
          refine at_iconst hX (v := 1) (by decide) dX7_floats_29 ?_
          refine at_goto hX (tgt := 34) (by decide) dX7_floats_30 ?_
          exact at_sub [0, 4] rfl ((A_X7_floats_34 hn hX hR (F_X7_floats_5 n) ih) _ _ e)
def F_X7_floats (x1 : Int64) (h : Hp) : Option Int32 := (F_X7_floats_5 FU_) (1 : Int32) x1 h
theorem c_X7_floats (l : Launch) (G : Gl) (x1 : Int64) (h : Hp) {r : Int32} (e : F_X7_floats x1 h = some r) : Does l G 2 M_X7_floats [.ref 7, .long x1] h (some (.int r)) h := by
  refine Does.of (by decide) rfl (Nat.le_of_ble_eq_true rfl) (fun X hl hG hn hX hR => ?_)
  unfold F_X7_floats at e
  subst hl; subst hG
  show At_ X 0 [(0, .ref 7), (1, .long x1)] [] h
  refine at_iconst hX (v := 1) (by decide) dX7_floats_0 ?_
  refine at_istore_n hX rfl hn (by decide) dX7_floats_1 ?_
  refine at_lload_n hX rfl rfl dX7_floats_2 ?_
  refine at_lstore hX hn (by decide) dX7_floats_3 ?_
  exact at_sub [0, 3, 4] rfl ((A_X7_floats_5 hn hX hR FU_) _ _ e)

def F_X7_weight_5 (n : Nat) (x3 : Int32) (x4 : Int64) (h : Hp) : Option Int32 := match n with
  | 0 => none
  | n + 1 => if x4 = (0 : Int64) then some x3 else (F_X7_first x4).bind fun v16 => (F_X7_cells v16 h).bind fun v19 => bd_ (x4 &&& (x4 - (1 : Int64))) fun y31 => (F_X7_weight_5 n) (x3 + v19) y31 h
theorem A_X7_weight_5 {X : CX} {h : Hp} {r : Int32} (hn : (xc_ X).maxLocals = 6) (hX : Ok_ X RX7 cX7_weight 2) (hR : Rt_ X (some .int) (some (.int r)) h) : ∀ (n : Nat) (x3 : Int32) (x4 : Int64), F_X7_weight_5 n x3 x4 h = some r → At_ X 5 [(0, .ref 7), (3, .int x3), (4, .long x4)] [] h := by
  intro n
  induction n with
  | zero => intro x3 x4 e; cases e
  | succ n ih =>
    intro x3 x4 e
    rw [F_X7_weight_5] at e
    refine at_lload hX rfl dX7_weight_5 ?_
    refine at_lconst hX (v := 0) (by decide) dX7_weight_7 ?_
    refine at_lcmp_eq hX (tgt := 36) (by decide) dX7_weight_8 dX7_weight_9 (fun c8 => ?_) (fun c8 => ?_)
    · replace e := ip_ c8 e
      refine at_iload_n hX rfl rfl dX7_weight_36 ?_
      exact at_ireturn hX hR rfl (by cases e; rfl) rfl dX7_weight_37
    · replace e := in_ c8 e
      refine at_iload_n hX rfl rfl dX7_weight_12 ?_
      refine at_aload_n hX rfl rfl dX7_weight_13 ?_
      refine at_lload hX rfl dX7_weight_14 ?_
      obtain ⟨v16, e1, e⟩ := ob_some e
      refine at_callS1 hX cv_X7_171 (by decide) (c_X7_first _ _ _ _ e1) (Nat.le_of_ble_eq_true rfl) dX7_weight_16 ?_
      obtain ⟨v19, e1, e⟩ := ob_some e
      refine at_callV1 hX cv_X7_175 (by decide) (c_X7_cells _ _ _ _ e1) (Nat.le_of_ble_eq_true rfl) dX7_weight_19 ?_
      refine at_iadd hX dX7_weight_22 ?_
      refine at_istore_n hX rfl hn (by decide) dX7_weight_23 ?_
      refine at_lload hX rfl dX7_weight_24 ?_
      refine at_lload hX rfl dX7_weight_26 ?_
      refine at_lconst hX (v := 1) (by decide) dX7_weight_28 ?_
      refine at_lsub hX dX7_weight_29 ?_
      refine at_land hX dX7_weight_30 ?_
      obtain ⟨y31, ey31, e⟩ := bd_some e
      refine at_tl ey31 ?_
      refine at_lstore hX hn (by decide) dX7_weight_31 ?_
      refine at_goto hX (tgt := 5) (by decide) dX7_weight_33 ?_
      exact at_sub [0, 3, 4] rfl (ih _ _ e)
def F_X7_weight (x1 : Int64) (h : Hp) : Option Int32 := (F_X7_weight_5 FU_) (0 : Int32) x1 h
theorem c_X7_weight (l : Launch) (G : Gl) (x1 : Int64) (h : Hp) {r : Int32} (e : F_X7_weight x1 h = some r) : Does l G 2 M_X7_weight [.ref 7, .long x1] h (some (.int r)) h := by
  refine Does.of (by decide) rfl (Nat.le_of_ble_eq_true rfl) (fun X hl hG hn hX hR => ?_)
  unfold F_X7_weight at e
  subst hl; subst hG
  show At_ X 0 [(0, .ref 7), (1, .long x1)] [] h
  refine at_iconst hX (v := 0) (by decide) dX7_weight_0 ?_
  refine at_istore_n hX rfl hn (by decide) dX7_weight_1 ?_
  refine at_lload_n hX rfl rfl dX7_weight_2 ?_
  refine at_lstore hX hn (by decide) dX7_weight_3 ?_
  exact at_sub [0, 3, 4] rfl ((A_X7_weight_5 hn hX hR FU_) _ _ e)

def F_X7_isBorder_91 (k15 : Int32 → Int32 → Int32 → Int32 → Int32 → Hp → Option Int32) (x1 : Int32) (x2 : Int32) (x3 : Int32) (x5 : Int32) (s0 : Int32) (h : Hp) : Option Int32 := k15 x1 x2 x3 s0 (x5 + (1 : Int32)) h
theorem A_X7_isBorder_91 {X : CX} {h : Hp} {r : Int32} (hn : (xc_ X).maxLocals = 6) (hX : Ok_ X RX7 cX7_isBorder 1) (hR : Rt_ X (some .boolean) (some (.int r)) h) (k15 : Int32 → Int32 → Int32 → Int32 → Int32 → Hp → Option Int32) (hk15 : ∀ (x1 : Int32) (x2 : Int32) (x3 : Int32) (x4 : Int32) (x5 : Int32), k15 x1 x2 x3 x4 x5 h = some r → At_ X 15 [(0, .ref 7), (1, .int x1), (2, .int x2), (3, .int x3), (4, .int x4), (5, .int x5)] [] h) (x1 : Int32) (x2 : Int32) (x3 : Int32) (x5 : Int32) (s0 : Int32) (e : F_X7_isBorder_91 k15 x1 x2 x3 x5 s0 h = some r) : At_ X 91 [(0, .ref 7), (1, .int x1), (2, .int x2), (3, .int x3), (5, .int x5)] [.int s0] h := by
  unfold F_X7_isBorder_91 at e
  refine at_istore hX hn (by decide) dX7_isBorder_91 ?_
  refine at_iinc hX hn (by decide) rfl (v := 1) (by decide) dX7_isBorder_93 ?_
  refine at_goto hX (tgt := 15) (by decide) dX7_isBorder_96 ?_
  exact at_sub [0, 1, 2, 3, 4, 5] rfl (hk15 _ _ _ _ _ e)
def F_X7_isBorder_15 (n : Nat) (x1 : Int32) (x2 : Int32) (x3 : Int32) (x4 : Int32) (x5 : Int32) (h : Hp) : Option Int32 := match n with
  | 0 => none
  | n + 1 => if x3 ≤ x5 then bz_ x4 fun z101 => some z101 else if x4 = (0 : Int32) then bz_ x4 fun z101 => some z101 else rA_ h 51 14 x2 fun v31 => rA_ h 51 14 x1 fun v37 => rA_ h 52 14 x5 fun v45 => rA_ h 52 14 x1 fun v51 => rA_ h 52 14 x2 fun v59 => rA_ h 52 14 x1 fun v65 => rA_ h 51 14 x5 fun v73 => rA_ h 51 14 x1 fun v79 => if ((v31 - v37) * (v45 - v51)) - ((v59 - v65) * (v73 - v79)) < (0 : Int32) then (F_X7_isBorder_91 (F_X7_isBorder_15 n)) x1 x2 x3 x5 (0 : Int32) h else (F_X7_isBorder_91 (F_X7_isBorder_15 n)) x1 x2 x3 x5 (1 : Int32) h
theorem A_X7_isBorder_15 {X : CX} {h : Hp} {r : Int32} (hn : (xc_ X).maxLocals = 6) (hX : Ok_ X RX7 cX7_isBorder 1) (hR : Rt_ X (some .boolean) (some (.int r)) h) : ∀ (n : Nat) (x1 : Int32) (x2 : Int32) (x3 : Int32) (x4 : Int32) (x5 : Int32), F_X7_isBorder_15 n x1 x2 x3 x4 x5 h = some r → At_ X 15 [(0, .ref 7), (1, .int x1), (2, .int x2), (3, .int x3), (4, .int x4), (5, .int x5)] [] h := by
  intro n
  induction n with
  | zero => intro x1 x2 x3 x4 x5 e; cases e
  | succ n ih =>
    intro x1 x2 x3 x4 x5 e
    rw [F_X7_isBorder_15] at e
    refine at_iload hX rfl dX7_isBorder_15 ?_
    refine at_iload_n hX rfl rfl dX7_isBorder_17 ?_
    refine at_icmp_ge hX (tgt := 99) (by decide) dX7_isBorder_18 (fun c18 => ?_) (fun c18 => ?_)
    · replace e := ip_ c18 e
      refine at_iload hX rfl dX7_isBorder_99 ?_
      obtain ⟨hz, z101, ez101, e⟩ := bz_some e
      refine at_ti ez101 ?_
      exact at_ireturn hX hR (bz_nar hz ez101) (by cases e; rfl) rfl dX7_isBorder_101
    · replace e := in_ c18 e
      refine at_iload hX rfl dX7_isBorder_21 ?_
      refine at_if_eq hX (tgt := 99) (by decide) dX7_isBorder_23 (fun c23 => ?_) (fun c23 => ?_)
      · replace e := ip_ c23 e
        refine at_iload hX rfl dX7_isBorder_99 ?_
        obtain ⟨hz, z101, ez101, e⟩ := bz_some e
        refine at_ti ez101 ?_
        exact at_ireturn hX hR (bz_nar hz ez101) (by cases e; rfl) rfl dX7_isBorder_101
      · replace e := in_ c23 e
        refine at_aload_n hX rfl rfl dX7_isBorder_26 ?_
        refine gf_X7_54 hX dX7_isBorder_27 ?_
        refine at_iload_n hX rfl rfl dX7_isBorder_30 ?_
        obtain ⟨hi, v31, ev31, e⟩ := rA_some e
        refine at_iald hX (o := 51) (by decide) rfl hi dX7_isBorder_31 ?_
        refine at_ti ev31 ?_
        refine at_aload_n hX rfl rfl dX7_isBorder_32 ?_
        refine gf_X7_54 hX dX7_isBorder_33 ?_
        refine at_iload_n hX rfl rfl dX7_isBorder_36 ?_
        obtain ⟨hi, v37, ev37, e⟩ := rA_some e
        refine at_iald hX (o := 51) (by decide) rfl hi dX7_isBorder_37 ?_
        refine at_ti ev37 ?_
        refine at_isub hX dX7_isBorder_38 ?_
        refine at_aload_n hX rfl rfl dX7_isBorder_39 ?_
        refine gf_X7_57 hX dX7_isBorder_40 ?_
        refine at_iload hX rfl dX7_isBorder_43 ?_
        obtain ⟨hi, v45, ev45, e⟩ := rA_some e
        refine at_iald hX (o := 52) (by decide) rfl hi dX7_isBorder_45 ?_
        refine at_ti ev45 ?_
        refine at_aload_n hX rfl rfl dX7_isBorder_46 ?_
        refine gf_X7_57 hX dX7_isBorder_47 ?_
        refine at_iload_n hX rfl rfl dX7_isBorder_50 ?_
        obtain ⟨hi, v51, ev51, e⟩ := rA_some e
        refine at_iald hX (o := 52) (by decide) rfl hi dX7_isBorder_51 ?_
        refine at_ti ev51 ?_
        refine at_isub hX dX7_isBorder_52 ?_
        refine at_imul hX dX7_isBorder_53 ?_
        refine at_aload_n hX rfl rfl dX7_isBorder_54 ?_
        refine gf_X7_57 hX dX7_isBorder_55 ?_
        refine at_iload_n hX rfl rfl dX7_isBorder_58 ?_
        obtain ⟨hi, v59, ev59, e⟩ := rA_some e
        refine at_iald hX (o := 52) (by decide) rfl hi dX7_isBorder_59 ?_
        refine at_ti ev59 ?_
        refine at_aload_n hX rfl rfl dX7_isBorder_60 ?_
        refine gf_X7_57 hX dX7_isBorder_61 ?_
        refine at_iload_n hX rfl rfl dX7_isBorder_64 ?_
        obtain ⟨hi, v65, ev65, e⟩ := rA_some e
        refine at_iald hX (o := 52) (by decide) rfl hi dX7_isBorder_65 ?_
        refine at_ti ev65 ?_
        refine at_isub hX dX7_isBorder_66 ?_
        refine at_aload_n hX rfl rfl dX7_isBorder_67 ?_
        refine gf_X7_54 hX dX7_isBorder_68 ?_
        refine at_iload hX rfl dX7_isBorder_71 ?_
        obtain ⟨hi, v73, ev73, e⟩ := rA_some e
        refine at_iald hX (o := 51) (by decide) rfl hi dX7_isBorder_73 ?_
        refine at_ti ev73 ?_
        refine at_aload_n hX rfl rfl dX7_isBorder_74 ?_
        refine gf_X7_54 hX dX7_isBorder_75 ?_
        refine at_iload_n hX rfl rfl dX7_isBorder_78 ?_
        obtain ⟨hi, v79, ev79, e⟩ := rA_some e
        refine at_iald hX (o := 51) (by decide) rfl hi dX7_isBorder_79 ?_
        refine at_ti ev79 ?_
        refine at_isub hX dX7_isBorder_80 ?_
        refine at_imul hX dX7_isBorder_81 ?_
        refine at_isub hX dX7_isBorder_82 ?_
        refine at_if_lt hX (tgt := 90) (by decide) dX7_isBorder_83 (fun c83 => ?_) (fun c83 => ?_)
        · replace e := ip_ c83 e
          refine at_iconst hX (v := 0) (by decide) dX7_isBorder_90 ?_
          exact at_sub [0, 1, 2, 3, 5] rfl ((A_X7_isBorder_91 hn hX hR (F_X7_isBorder_15 n) ih) _ _ _ _ _ e)
        · replace e := in_ c83 e
          refine at_iconst hX (v := 1) (by decide) dX7_isBorder_86 ?_
          refine at_goto hX (tgt := 91) (by decide) dX7_isBorder_87 ?_
          exact at_sub [0, 1, 2, 3, 5] rfl ((A_X7_isBorder_91 hn hX hR (F_X7_isBorder_15 n) ih) _ _ _ _ _ e)
def F_X7_isBorder_10 (x1 : Int32) (x2 : Int32) (x3 : Int32) (s0 : Int32) (h : Hp) : Option Int32 := (F_X7_isBorder_15 FU_) x1 x2 x3 s0 (0 : Int32) h
theorem A_X7_isBorder_10 {X : CX} {h : Hp} {r : Int32} (hn : (xc_ X).maxLocals = 6) (hX : Ok_ X RX7 cX7_isBorder 1) (hR : Rt_ X (some .boolean) (some (.int r)) h) (x1 : Int32) (x2 : Int32) (x3 : Int32) (s0 : Int32) (e : F_X7_isBorder_10 x1 x2 x3 s0 h = some r) : At_ X 10 [(0, .ref 7), (1, .int x1), (2, .int x2), (3, .int x3)] [.int s0] h := by
  unfold F_X7_isBorder_10 at e
  refine at_istore hX hn (by decide) dX7_isBorder_10 ?_
  refine at_iconst hX (v := 0) (by decide) dX7_isBorder_12 ?_
  refine at_istore hX hn (by decide) dX7_isBorder_13 ?_
  exact at_sub [0, 1, 2, 3, 4, 5] rfl ((A_X7_isBorder_15 hn hX hR FU_) _ _ _ _ _ e)
def F_X7_isBorder (x1 : Int32) (x2 : Int32) (x3 : Int32) (h : Hp) : Option Int32 := if x1 = x2 then F_X7_isBorder_10 x1 x2 x3 (0 : Int32) h else F_X7_isBorder_10 x1 x2 x3 (1 : Int32) h
theorem c_X7_isBorder (l : Launch) (G : Gl) (x1 : Int32) (x2 : Int32) (x3 : Int32) (h : Hp) {r : Int32} (e : F_X7_isBorder x1 x2 x3 h = some r) : Does l G 1 M_X7_isBorder [.ref 7, .int x1, .int x2, .int x3] h (some (.int r)) h := by
  refine Does.of (by decide) rfl (Nat.le_of_ble_eq_true rfl) (fun X hl hG hn hX hR => ?_)
  unfold F_X7_isBorder at e
  subst hl; subst hG
  show At_ X 0 [(0, .ref 7), (1, .int x1), (2, .int x2), (3, .int x3)] [] h
  refine at_iload_n hX rfl rfl dX7_isBorder_0 ?_
  refine at_iload_n hX rfl rfl dX7_isBorder_1 ?_
  refine at_icmp_eq hX (tgt := 9) (by decide) dX7_isBorder_2 (fun c2 => ?_) (fun c2 => ?_)
  · replace e := ip_ c2 e
    refine at_iconst hX (v := 0) (by decide) dX7_isBorder_9 ?_
    exact at_sub [0, 1, 2, 3] rfl ((A_X7_isBorder_10 hn hX hR) _ _ _ _ e)
  · replace e := in_ c2 e
    refine at_iconst hX (v := 1) (by decide) dX7_isBorder_5 ?_
    refine at_goto hX (tgt := 10) (by decide) dX7_isBorder_6 ?_
    exact at_sub [0, 1, 2, 3] rfl ((A_X7_isBorder_10 hn hX hR) _ _ _ _ e)

def F_X7_stands_456 (x7 : Int32) (h : Hp) : Option (Int32 × Hp) := if x7 ≤ (0 : Int32) then some ((0 : Int32), h) else some ((1 : Int32), h)
theorem A_X7_stands_456 {X : CX} {h' : Hp} {r : Int32} (hn : (xc_ X).maxLocals = 14) (hX : Ok_ X RX7 cX7_stands 3) (hR : Rt_ X (some .boolean) (some (.int r)) h') (x7 : Int32) (h : Hp) (e : F_X7_stands_456 x7 h = some (r, h')) : At_ X 456 [(7, .int x7)] [] h := by
  unfold F_X7_stands_456 at e
  refine at_iload hX rfl dX7_stands_456 ?_
  refine at_if_le hX (tgt := 465) (by decide) dX7_stands_458 (fun c458 => ?_) (fun c458 => ?_)
  · replace e := ip_ c458 e
    refine at_iconst hX (v := 0) (by decide) dX7_stands_465 ?_
    exact at_ireturn hX hR rfl (by cases e; rfl) (by cases e; rfl) dX7_stands_466
  · replace e := in_ c458 e
    refine at_iconst hX (v := 1) (by decide) dX7_stands_461 ?_
    refine at_goto hX (tgt := 466) (by decide) dX7_stands_462 ?_
    exact at_ireturn hX hR rfl (by cases e; rfl) (by cases e; rfl) dX7_stands_466
def F_X7_stands_450 (k345 : Int64 → Int64 → Int32 → Int64 → Int32 → Hp → Option (Int32 × Hp)) (x3 : Int64) (x5 : Int64) (x7 : Int32) (x8 : Int64) (x10 : Int32) (h : Hp) : Option (Int32 × Hp) := k345 x3 x5 x7 x8 (x10 + (1 : Int32)) h
theorem A_X7_stands_450 {X : CX} {h' : Hp} {r : Int32} (hn : (xc_ X).maxLocals = 14) (hX : Ok_ X RX7 cX7_stands 3) (hR : Rt_ X (some .boolean) (some (.int r)) h') (k345 : Int64 → Int64 → Int32 → Int64 → Int32 → Hp → Option (Int32 × Hp)) (hk345 : ∀ (x3 : Int64) (x5 : Int64) (x7 : Int32) (x8 : Int64) (x10 : Int32) (h : Hp), k345 x3 x5 x7 x8 x10 h = some (r, h') → At_ X 345 [(0, .ref 7), (3, .long x3), (5, .long x5), (7, .int x7), (8, .long x8), (10, .int x10)] [] h) (x3 : Int64) (x5 : Int64) (x7 : Int32) (x8 : Int64) (x10 : Int32) (h : Hp) (e : F_X7_stands_450 k345 x3 x5 x7 x8 x10 h = some (r, h')) : At_ X 450 [(0, .ref 7), (3, .long x3), (5, .long x5), (7, .int x7), (8, .long x8), (10, .int x10)] [] h := by
  unfold F_X7_stands_450 at e
  refine at_iinc hX hn (by decide) rfl (v := 1) (by decide) dX7_stands_450 ?_
  refine at_goto hX (tgt := 345) (by decide) dX7_stands_453 ?_
  exact at_sub [0, 3, 5, 7, 8, 10] rfl (hk345 _ _ _ _ _ _ e)
def F_X7_stands_444 (k355 : Int64 → Int64 → Int32 → Int64 → Int32 → Int32 → Hp → Option (Int32 × Hp)) (x3 : Int64) (x5 : Int64) (x7 : Int32) (x8 : Int64) (x10 : Int32) (x11 : Int32) (h : Hp) : Option (Int32 × Hp) := k355 x3 x5 x7 x8 x10 (x11 + (1 : Int32)) h
theorem A_X7_stands_444 {X : CX} {h' : Hp} {r : Int32} (hn : (xc_ X).maxLocals = 14) (hX : Ok_ X RX7 cX7_stands 3) (hR : Rt_ X (some .boolean) (some (.int r)) h') (k355 : Int64 → Int64 → Int32 → Int64 → Int32 → Int32 → Hp → Option (Int32 × Hp)) (hk355 : ∀ (x3 : Int64) (x5 : Int64) (x7 : Int32) (x8 : Int64) (x10 : Int32) (x11 : Int32) (h : Hp), k355 x3 x5 x7 x8 x10 x11 h = some (r, h') → At_ X 355 [(0, .ref 7), (3, .long x3), (5, .long x5), (7, .int x7), (8, .long x8), (10, .int x10), (11, .int x11)] [] h) (x3 : Int64) (x5 : Int64) (x7 : Int32) (x8 : Int64) (x10 : Int32) (x11 : Int32) (h : Hp) (e : F_X7_stands_444 k355 x3 x5 x7 x8 x10 x11 h = some (r, h')) : At_ X 444 [(0, .ref 7), (3, .long x3), (5, .long x5), (7, .int x7), (8, .long x8), (10, .int x10), (11, .int x11)] [] h := by
  unfold F_X7_stands_444 at e
  refine at_iinc hX hn (by decide) rfl (v := 1) (by decide) dX7_stands_444 ?_
  refine at_goto hX (tgt := 355) (by decide) dX7_stands_447 ?_
  exact at_sub [0, 3, 5, 7, 8, 10, 11] rfl (hk355 _ _ _ _ _ _ _ e)
def F_X7_stands_355 (n : Nat) (k450 : Int64 → Int64 → Int32 → Int64 → Int32 → Hp → Option (Int32 × Hp)) (x3 : Int64) (x5 : Int64) (x7 : Int32) (x8 : Int64) (x10 : Int32) (x11 : Int32) (h : Hp) : Option (Int32 × Hp) := match n with
  | 0 => none
  | n + 1 => if x7 ≤ x11 then k450 x3 x5 x7 x8 x10 h else (F_X7_isBorder x10 x11 x7 h).bind fun v369 => if v369 = (0 : Int32) then (F_X7_stands_444 (F_X7_stands_355 n k450)) x3 x5 x7 x8 x10 x11 h else rA_ h 51 14 x11 fun v381 => rA_ h 51 14 x10 fun v388 => rA_ h 52 14 x10 fun v401 => rA_ h 52 14 x11 fun v412 => rA_ h 52 14 x10 fun v419 => rA_ h 51 14 x10 fun v431 => if (0 : Int64) ≤ (((v381 - v388).toInt64) * (x5 - (x8 * v401.toInt64))) - (((v412 - v419).toInt64) * (x3 - (x8 * v431.toInt64))) then (F_X7_stands_444 (F_X7_stands_355 n k450)) x3 x5 x7 x8 x10 x11 h else some ((0 : Int32), h)
theorem A_X7_stands_355 {X : CX} {h' : Hp} {r : Int32} (hn : (xc_ X).maxLocals = 14) (hX : Ok_ X RX7 cX7_stands 3) (hR : Rt_ X (some .boolean) (some (.int r)) h') (k450 : Int64 → Int64 → Int32 → Int64 → Int32 → Hp → Option (Int32 × Hp)) (hk450 : ∀ (x3 : Int64) (x5 : Int64) (x7 : Int32) (x8 : Int64) (x10 : Int32) (h : Hp), k450 x3 x5 x7 x8 x10 h = some (r, h') → At_ X 450 [(0, .ref 7), (3, .long x3), (5, .long x5), (7, .int x7), (8, .long x8), (10, .int x10)] [] h) : ∀ (n : Nat) (x3 : Int64) (x5 : Int64) (x7 : Int32) (x8 : Int64) (x10 : Int32) (x11 : Int32) (h : Hp), F_X7_stands_355 n k450 x3 x5 x7 x8 x10 x11 h = some (r, h') → At_ X 355 [(0, .ref 7), (3, .long x3), (5, .long x5), (7, .int x7), (8, .long x8), (10, .int x10), (11, .int x11)] [] h := by
  intro n
  induction n with
  | zero => intro x3 x5 x7 x8 x10 x11 h e; cases e
  | succ n ih =>
    intro x3 x5 x7 x8 x10 x11 h e
    rw [F_X7_stands_355] at e
    refine at_iload hX rfl dX7_stands_355 ?_
    refine at_iload hX rfl dX7_stands_357 ?_
    refine at_icmp_ge hX (tgt := 450) (by decide) dX7_stands_359 (fun c359 => ?_) (fun c359 => ?_)
    · replace e := ip_ c359 e
      exact at_sub [0, 3, 5, 7, 8, 10] rfl (hk450 _ _ _ _ _ _ e)
    · replace e := in_ c359 e
      refine at_aload_n hX rfl rfl dX7_stands_362 ?_
      refine at_iload hX rfl dX7_stands_363 ?_
      refine at_iload hX rfl dX7_stands_365 ?_
      refine at_iload hX rfl dX7_stands_367 ?_
      obtain ⟨v369, e1, e⟩ := ob_some e
      refine at_callV3 hX cv_X7_183 (by decide) (c_X7_isBorder _ _ _ _ _ _ e1) (Nat.le_of_ble_eq_true rfl) dX7_stands_369 ?_
      refine at_if_eq hX (tgt := 444) (by decide) dX7_stands_372 (fun c372 => ?_) (fun c372 => ?_)
      · replace e := ip_ c372 e
        exact at_sub [0, 3, 5, 7, 8, 10, 11] rfl ((A_X7_stands_444 hn hX hR (F_X7_stands_355 n k450) ih) _ _ _ _ _ _ _ e)
      · replace e := in_ c372 e
        refine at_aload_n hX rfl rfl dX7_stands_375 ?_
        refine gf_X7_54 hX dX7_stands_376 ?_
        refine at_iload hX rfl dX7_stands_379 ?_
        obtain ⟨hi, v381, ev381, e⟩ := rA_some e
        refine at_iald hX (o := 51) (by decide) rfl hi dX7_stands_381 ?_
        refine at_ti ev381 ?_
        refine at_aload_n hX rfl rfl dX7_stands_382 ?_
        refine gf_X7_54 hX dX7_stands_383 ?_
        refine at_iload hX rfl dX7_stands_386 ?_
        obtain ⟨hi, v388, ev388, e⟩ := rA_some e
        refine at_iald hX (o := 51) (by decide) rfl hi dX7_stands_388 ?_
        refine at_ti ev388 ?_
        refine at_isub hX dX7_stands_389 ?_
        refine at_i2l hX dX7_stands_390 ?_
        refine at_lload hX rfl dX7_stands_391 ?_
        refine at_lload hX rfl dX7_stands_393 ?_
        refine at_aload_n hX rfl rfl dX7_stands_395 ?_
        refine gf_X7_57 hX dX7_stands_396 ?_
        refine at_iload hX rfl dX7_stands_399 ?_
        obtain ⟨hi, v401, ev401, e⟩ := rA_some e
        refine at_iald hX (o := 52) (by decide) rfl hi dX7_stands_401 ?_
        refine at_ti ev401 ?_
        refine at_i2l hX dX7_stands_402 ?_
        refine at_lmul hX dX7_stands_403 ?_
        refine at_lsub hX dX7_stands_404 ?_
        refine at_lmul hX dX7_stands_405 ?_
        refine at_aload_n hX rfl rfl dX7_stands_406 ?_
        refine gf_X7_57 hX dX7_stands_407 ?_
        refine at_iload hX rfl dX7_stands_410 ?_
        obtain ⟨hi, v412, ev412, e⟩ := rA_some e
        refine at_iald hX (o := 52) (by decide) rfl hi dX7_stands_412 ?_
        refine at_ti ev412 ?_
        refine at_aload_n hX rfl rfl dX7_stands_413 ?_
        refine gf_X7_57 hX dX7_stands_414 ?_
        refine at_iload hX rfl dX7_stands_417 ?_
        obtain ⟨hi, v419, ev419, e⟩ := rA_some e
        refine at_iald hX (o := 52) (by decide) rfl hi dX7_stands_419 ?_
        refine at_ti ev419 ?_
        refine at_isub hX dX7_stands_420 ?_
        refine at_i2l hX dX7_stands_421 ?_
        refine at_lload_n hX rfl rfl dX7_stands_422 ?_
        refine at_lload hX rfl dX7_stands_423 ?_
        refine at_aload_n hX rfl rfl dX7_stands_425 ?_
        refine gf_X7_54 hX dX7_stands_426 ?_
        refine at_iload hX rfl dX7_stands_429 ?_
        obtain ⟨hi, v431, ev431, e⟩ := rA_some e
        refine at_iald hX (o := 51) (by decide) rfl hi dX7_stands_431 ?_
        refine at_ti ev431 ?_
        refine at_i2l hX dX7_stands_432 ?_
        refine at_lmul hX dX7_stands_433 ?_
        refine at_lsub hX dX7_stands_434 ?_
        refine at_lmul hX dX7_stands_435 ?_
        refine at_lsub hX dX7_stands_436 ?_
        refine at_lconst hX (v := 0) (by decide) dX7_stands_437 ?_
        refine at_lcmp_ge hX (tgt := 444) (by decide) dX7_stands_438 dX7_stands_439 (fun c438 => ?_) (fun c438 => ?_)
        · replace e := ip_ c438 e
          exact at_sub [0, 3, 5, 7, 8, 10, 11] rfl ((A_X7_stands_444 hn hX hR (F_X7_stands_355 n k450) ih) _ _ _ _ _ _ _ e)
        · replace e := in_ c438 e
          refine at_iconst hX (v := 0) (by decide) dX7_stands_442 ?_
          exact at_ireturn hX hR rfl (by cases e; rfl) (by cases e; rfl) dX7_stands_443
def F_X7_stands_345 (n : Nat) (k456 : Int32 → Hp → Option (Int32 × Hp)) (x3 : Int64) (x5 : Int64) (x7 : Int32) (x8 : Int64) (x10 : Int32) (h : Hp) : Option (Int32 × Hp) := match n with
  | 0 => none
  | n + 1 => if x7 ≤ x10 then k456 x7 h else (F_X7_stands_355 FU_ (F_X7_stands_450 (F_X7_stands_345 n k456))) x3 x5 x7 x8 x10 (0 : Int32) h
theorem A_X7_stands_345 {X : CX} {h' : Hp} {r : Int32} (hn : (xc_ X).maxLocals = 14) (hX : Ok_ X RX7 cX7_stands 3) (hR : Rt_ X (some .boolean) (some (.int r)) h') (k456 : Int32 → Hp → Option (Int32 × Hp)) (hk456 : ∀ (x7 : Int32) (h : Hp), k456 x7 h = some (r, h') → At_ X 456 [(7, .int x7)] [] h) : ∀ (n : Nat) (x3 : Int64) (x5 : Int64) (x7 : Int32) (x8 : Int64) (x10 : Int32) (h : Hp), F_X7_stands_345 n k456 x3 x5 x7 x8 x10 h = some (r, h') → At_ X 345 [(0, .ref 7), (3, .long x3), (5, .long x5), (7, .int x7), (8, .long x8), (10, .int x10)] [] h := by
  intro n
  induction n with
  | zero => intro x3 x5 x7 x8 x10 h e; cases e
  | succ n ih =>
    intro x3 x5 x7 x8 x10 h e
    rw [F_X7_stands_345] at e
    refine at_iload hX rfl dX7_stands_345 ?_
    refine at_iload hX rfl dX7_stands_347 ?_
    refine at_icmp_ge hX (tgt := 456) (by decide) dX7_stands_349 (fun c349 => ?_) (fun c349 => ?_)
    · replace e := ip_ c349 e
      exact at_sub [7] rfl (hk456 _ _ e)
    · replace e := in_ c349 e
      refine at_iconst hX (v := 0) (by decide) dX7_stands_352 ?_
      refine at_istore hX hn (by decide) dX7_stands_353 ?_
      exact at_sub [0, 3, 5, 7, 8, 10, 11] rfl ((A_X7_stands_355 hn hX hR (F_X7_stands_450 (F_X7_stands_345 n k456)) (A_X7_stands_450 hn hX hR (F_X7_stands_345 n k456) ih) FU_) _ _ _ _ _ _ _ e)
def F_X7_stands_330 (x1 : Int64) (x3 : Int64) (x5 : Int64) (x7 : Int32) (h : Hp) : Option (Int32 × Hp) := (F_X7_weight x1 h).bind fun v335 => bd_ ((2 : Int64) * v335.toInt64) fun y340 => (F_X7_stands_345 FU_ F_X7_stands_456) x3 x5 x7 y340 (0 : Int32) h
theorem A_X7_stands_330 {X : CX} {h' : Hp} {r : Int32} (hn : (xc_ X).maxLocals = 14) (hX : Ok_ X RX7 cX7_stands 3) (hR : Rt_ X (some .boolean) (some (.int r)) h') (x1 : Int64) (x3 : Int64) (x5 : Int64) (x7 : Int32) (h : Hp) (e : F_X7_stands_330 x1 x3 x5 x7 h = some (r, h')) : At_ X 330 [(0, .ref 7), (1, .long x1), (3, .long x3), (5, .long x5), (7, .int x7)] [] h := by
  unfold F_X7_stands_330 at e
  refine at_ldc2 hX wk_X7_178 dX7_stands_330 ?_
  refine at_aload_n hX rfl rfl dX7_stands_333 ?_
  refine at_lload_n hX rfl rfl dX7_stands_334 ?_
  obtain ⟨v335, e1, e⟩ := ob_some e
  refine at_callV1 hX cv_X7_180 (by decide) (c_X7_weight _ _ _ _ e1) (Nat.le_of_ble_eq_true rfl) dX7_stands_335 ?_
  refine at_i2l hX dX7_stands_338 ?_
  refine at_lmul hX dX7_stands_339 ?_
  obtain ⟨y340, ey340, e⟩ := bd_some e
  refine at_tl ey340 ?_
  refine at_lstore hX hn (by decide) dX7_stands_340 ?_
  refine at_iconst hX (v := 0) (by decide) dX7_stands_342 ?_
  refine at_istore hX hn (by decide) dX7_stands_343 ?_
  exact at_sub [0, 3, 5, 7, 8, 10] rfl ((A_X7_stands_345 hn hX hR F_X7_stands_456 (A_X7_stands_456 hn hX hR) FU_) _ _ _ _ _ _ e)
def F_X7_stands_324 (k251 : Int64 → Int64 → Int64 → Int32 → Int32 → Hp → Option (Int32 × Hp)) (x1 : Int64) (x3 : Int64) (x5 : Int64) (x7 : Int32) (x8 : Int32) (h : Hp) : Option (Int32 × Hp) := k251 x1 x3 x5 x7 (x8 + (1 : Int32)) h
theorem A_X7_stands_324 {X : CX} {h' : Hp} {r : Int32} (hn : (xc_ X).maxLocals = 14) (hX : Ok_ X RX7 cX7_stands 3) (hR : Rt_ X (some .boolean) (some (.int r)) h') (k251 : Int64 → Int64 → Int64 → Int32 → Int32 → Hp → Option (Int32 × Hp)) (hk251 : ∀ (x1 : Int64) (x3 : Int64) (x5 : Int64) (x7 : Int32) (x8 : Int32) (h : Hp), k251 x1 x3 x5 x7 x8 h = some (r, h') → At_ X 251 [(0, .ref 7), (1, .long x1), (3, .long x3), (5, .long x5), (7, .int x7), (8, .int x8)] [] h) (x1 : Int64) (x3 : Int64) (x5 : Int64) (x7 : Int32) (x8 : Int32) (h : Hp) (e : F_X7_stands_324 k251 x1 x3 x5 x7 x8 h = some (r, h')) : At_ X 324 [(0, .ref 7), (1, .long x1), (3, .long x3), (5, .long x5), (7, .int x7), (8, .int x8)] [] h := by
  unfold F_X7_stands_324 at e
  refine at_iinc hX hn (by decide) rfl (v := 1) (by decide) dX7_stands_324 ?_
  refine at_goto hX (tgt := 251) (by decide) dX7_stands_327 ?_
  exact at_sub [0, 1, 3, 5, 7, 8] rfl (hk251 _ _ _ _ _ _ e)
def F_X7_stands_251 (n : Nat) (k330 : Int64 → Int64 → Int64 → Int32 → Hp → Option (Int32 × Hp)) (x1 : Int64) (x3 : Int64) (x5 : Int64) (x7 : Int32) (x8 : Int32) (h : Hp) : Option (Int32 × Hp) := match n with
  | 0 => none
  | n + 1 => if (6 : Int32) < x8 then k330 x1 x3 x5 x7 h else rA_ h 50 7 x8 fun v264 => if (0 : Int32) ≤ v264 then rA_ h 49 7 x8 fun v283 => wA_ h 51 14 x7 v283 fun h284 => wA_ h284 52 14 x7 x8 fun h293 => rA_ h293 50 7 x8 fun v308 => wA_ h293 51 14 (x7 + (1 : Int32)) v308 fun h309 => wA_ h309 52 14 (x7 + (1 : Int32)) x8 fun h320 => (F_X7_stands_324 (F_X7_stands_251 n k330)) x1 x3 x5 (x7 + (2 : Int32)) x8 h320 else (F_X7_stands_324 (F_X7_stands_251 n k330)) x1 x3 x5 x7 x8 h
theorem A_X7_stands_251 {X : CX} {h' : Hp} {r : Int32} (hn : (xc_ X).maxLocals = 14) (hX : Ok_ X RX7 cX7_stands 3) (hR : Rt_ X (some .boolean) (some (.int r)) h') (k330 : Int64 → Int64 → Int64 → Int32 → Hp → Option (Int32 × Hp)) (hk330 : ∀ (x1 : Int64) (x3 : Int64) (x5 : Int64) (x7 : Int32) (h : Hp), k330 x1 x3 x5 x7 h = some (r, h') → At_ X 330 [(0, .ref 7), (1, .long x1), (3, .long x3), (5, .long x5), (7, .int x7)] [] h) : ∀ (n : Nat) (x1 : Int64) (x3 : Int64) (x5 : Int64) (x7 : Int32) (x8 : Int32) (h : Hp), F_X7_stands_251 n k330 x1 x3 x5 x7 x8 h = some (r, h') → At_ X 251 [(0, .ref 7), (1, .long x1), (3, .long x3), (5, .long x5), (7, .int x7), (8, .int x8)] [] h := by
  intro n
  induction n with
  | zero => intro x1 x3 x5 x7 x8 h e; cases e
  | succ n ih =>
    intro x1 x3 x5 x7 x8 h e
    rw [F_X7_stands_251] at e
    refine at_iload hX rfl dX7_stands_251 ?_
    refine at_bipush hX (v := 6) (by decide) dX7_stands_253 ?_
    refine at_icmp_gt hX (tgt := 330) (by decide) dX7_stands_255 (fun c255 => ?_) (fun c255 => ?_)
    · replace e := ip_ c255 e
      exact at_sub [0, 1, 3, 5, 7] rfl (hk330 _ _ _ _ _ e)
    · replace e := in_ c255 e
      refine at_aload_n hX rfl rfl dX7_stands_258 ?_
      refine gf_X7_51 hX dX7_stands_259 ?_
      refine at_iload hX rfl dX7_stands_262 ?_
      obtain ⟨hi, v264, ev264, e⟩ := rA_some e
      refine at_iald hX (o := 50) (by decide) rfl hi dX7_stands_264 ?_
      refine at_ti ev264 ?_
      refine at_if_ge hX (tgt := 271) (by decide) dX7_stands_265 (fun c265 => ?_) (fun c265 => ?_)
      · replace e := ip_ c265 e
        refine at_aload_n hX rfl rfl dX7_stands_271 ?_
        refine gf_X7_54 hX dX7_stands_272 ?_
        refine at_iload hX rfl dX7_stands_275 ?_
        refine at_aload_n hX rfl rfl dX7_stands_277 ?_
        refine gf_X7_48 hX dX7_stands_278 ?_
        refine at_iload hX rfl dX7_stands_281 ?_
        obtain ⟨hi, v283, ev283, e⟩ := rA_some e
        refine at_iald hX (o := 49) (by decide) rfl hi dX7_stands_283 ?_
        refine at_ti ev283 ?_
        obtain ⟨hi, h284, eh284, e⟩ := wA_some e
        refine at_iast hX (o := 51) (by decide) rfl hi dX7_stands_284 ?_
        refine at_th eh284 ?_
        refine at_aload_n hX rfl rfl dX7_stands_285 ?_
        refine gf_X7_57 hX dX7_stands_286 ?_
        refine at_iload hX rfl dX7_stands_289 ?_
        refine at_iload hX rfl dX7_stands_291 ?_
        obtain ⟨hi, h293, eh293, e⟩ := wA_some e
        refine at_iast hX (o := 52) (by decide) rfl hi dX7_stands_293 ?_
        refine at_th eh293 ?_
        refine at_aload_n hX rfl rfl dX7_stands_294 ?_
        refine gf_X7_54 hX dX7_stands_295 ?_
        refine at_iload hX rfl dX7_stands_298 ?_
        refine at_iconst hX (v := 1) (by decide) dX7_stands_300 ?_
        refine at_iadd hX dX7_stands_301 ?_
        refine at_aload_n hX rfl rfl dX7_stands_302 ?_
        refine gf_X7_51 hX dX7_stands_303 ?_
        refine at_iload hX rfl dX7_stands_306 ?_
        obtain ⟨hi, v308, ev308, e⟩ := rA_some e
        refine at_iald hX (o := 50) (by decide) rfl hi dX7_stands_308 ?_
        refine at_ti ev308 ?_
        obtain ⟨hi, h309, eh309, e⟩ := wA_some e
        refine at_iast hX (o := 51) (by decide) rfl hi dX7_stands_309 ?_
        refine at_th eh309 ?_
        refine at_aload_n hX rfl rfl dX7_stands_310 ?_
        refine gf_X7_57 hX dX7_stands_311 ?_
        refine at_iload hX rfl dX7_stands_314 ?_
        refine at_iconst hX (v := 1) (by decide) dX7_stands_316 ?_
        refine at_iadd hX dX7_stands_317 ?_
        refine at_iload hX rfl dX7_stands_318 ?_
        obtain ⟨hi, h320, eh320, e⟩ := wA_some e
        refine at_iast hX (o := 52) (by decide) rfl hi dX7_stands_320 ?_
        refine at_th eh320 ?_
        refine at_iinc hX hn (by decide) rfl (v := 2) (by decide) dX7_stands_321 ?_
        exact at_sub [0, 1, 3, 5, 7, 8] rfl ((A_X7_stands_324 hn hX hR (F_X7_stands_251 n k330) ih) _ _ _ _ _ _ e)
      · replace e := in_ c265 e
        refine at_goto hX (tgt := 324) (by decide) dX7_stands_268 ?_
        exact at_sub [0, 1, 3, 5, 7, 8] rfl ((A_X7_stands_324 hn hX hR (F_X7_stands_251 n k330) ih) _ _ _ _ _ _ e)
def F_X7_stands_245 (x1 : Int64) (x3 : Int64) (x5 : Int64) (h : Hp) : Option (Int32 × Hp) := (F_X7_stands_251 FU_ F_X7_stands_330) x1 x3 x5 (0 : Int32) (0 : Int32) h
theorem A_X7_stands_245 {X : CX} {h' : Hp} {r : Int32} (hn : (xc_ X).maxLocals = 14) (hX : Ok_ X RX7 cX7_stands 3) (hR : Rt_ X (some .boolean) (some (.int r)) h') (x1 : Int64) (x3 : Int64) (x5 : Int64) (h : Hp) (e : F_X7_stands_245 x1 x3 x5 h = some (r, h')) : At_ X 245 [(0, .ref 7), (1, .long x1), (3, .long x3), (5, .long x5)] [] h := by
  unfold F_X7_stands_245 at e
  refine at_iconst hX (v := 0) (by decide) dX7_stands_245 ?_
  refine at_istore hX hn (by decide) dX7_stands_246 ?_
  refine at_iconst hX (v := 0) (by decide) dX7_stands_248 ?_
  refine at_istore hX hn (by decide) dX7_stands_249 ?_
  exact at_sub [0, 1, 3, 5, 7, 8] rfl ((A_X7_stands_251 hn hX hR F_X7_stands_330 (A_X7_stands_330 hn hX hR) FU_) _ _ _ _ _ _ e)
def F_X7_stands_233 (k37 : Int64 → Int64 → Int64 → Int64 → Hp → Option (Int32 × Hp)) (x1 : Int64) (x3 : Int64) (x5 : Int64) (x7 : Int64) (h : Hp) : Option (Int32 × Hp) := bd_ (x7 &&& (x7 - (1 : Int64))) fun y240 => k37 x1 x3 x5 y240 h
theorem A_X7_stands_233 {X : CX} {h' : Hp} {r : Int32} (hn : (xc_ X).maxLocals = 14) (hX : Ok_ X RX7 cX7_stands 3) (hR : Rt_ X (some .boolean) (some (.int r)) h') (k37 : Int64 → Int64 → Int64 → Int64 → Hp → Option (Int32 × Hp)) (hk37 : ∀ (x1 : Int64) (x3 : Int64) (x5 : Int64) (x7 : Int64) (h : Hp), k37 x1 x3 x5 x7 h = some (r, h') → At_ X 37 [(0, .ref 7), (1, .long x1), (3, .long x3), (5, .long x5), (7, .long x7)] [] h) (x1 : Int64) (x3 : Int64) (x5 : Int64) (x7 : Int64) (h : Hp) (e : F_X7_stands_233 k37 x1 x3 x5 x7 h = some (r, h')) : At_ X 233 [(0, .ref 7), (1, .long x1), (3, .long x3), (5, .long x5), (7, .long x7)] [] h := by
  unfold F_X7_stands_233 at e
  refine at_lload hX rfl dX7_stands_233 ?_
  refine at_lload hX rfl dX7_stands_235 ?_
  refine at_lconst hX (v := 1) (by decide) dX7_stands_237 ?_
  refine at_lsub hX dX7_stands_238 ?_
  refine at_land hX dX7_stands_239 ?_
  obtain ⟨y240, ey240, e⟩ := bd_some e
  refine at_tl ey240 ?_
  refine at_lstore hX hn (by decide) dX7_stands_240 ?_
  refine at_goto hX (tgt := 37) (by decide) dX7_stands_242 ?_
  exact at_sub [0, 1, 3, 5, 7] rfl (hk37 _ _ _ _ _ e)
def F_X7_stands_155 (n : Nat) (k233 : Int64 → Int64 → Int64 → Int64 → Hp → Option (Int32 × Hp)) (x1 : Int64) (x3 : Int64) (x5 : Int64) (x7 : Int64) (x9 : Int32) (x10 : Int32) (x11 : Int32) (x12 : Int32) (h : Hp) : Option (Int32 × Hp) := match n with
  | 0 => none
  | n + 1 => if (2 : Int32) ≤ x12 then k233 x1 x3 x5 x7 h else rA_ h 45 40 x9 fun v167 => rA_ h 49 7 (v167 + (x12 * x11)) fun v188 => rA_ h 44 40 x9 fun v195 => wA_ h 49 7 (v167 + (x12 * x11)) (mn_ v188 v195) fun h199 => rA_ h199 50 7 (v167 + (x12 * x11)) fun v212 => rA_ h199 44 40 x9 fun v219 => wA_ h199 50 7 (v167 + (x12 * x11)) (mx_ v212 (v219 + x10)) fun h226 => (F_X7_stands_155 n k233) x1 x3 x5 x7 x9 x10 x11 (x12 + (1 : Int32)) h226
theorem A_X7_stands_155 {X : CX} {h' : Hp} {r : Int32} (hn : (xc_ X).maxLocals = 14) (hX : Ok_ X RX7 cX7_stands 3) (hR : Rt_ X (some .boolean) (some (.int r)) h') (k233 : Int64 → Int64 → Int64 → Int64 → Hp → Option (Int32 × Hp)) (hk233 : ∀ (x1 : Int64) (x3 : Int64) (x5 : Int64) (x7 : Int64) (h : Hp), k233 x1 x3 x5 x7 h = some (r, h') → At_ X 233 [(0, .ref 7), (1, .long x1), (3, .long x3), (5, .long x5), (7, .long x7)] [] h) : ∀ (n : Nat) (x1 : Int64) (x3 : Int64) (x5 : Int64) (x7 : Int64) (x9 : Int32) (x10 : Int32) (x11 : Int32) (x12 : Int32) (h : Hp), F_X7_stands_155 n k233 x1 x3 x5 x7 x9 x10 x11 x12 h = some (r, h') → At_ X 155 [(0, .ref 7), (1, .long x1), (3, .long x3), (5, .long x5), (7, .long x7), (9, .int x9), (10, .int x10), (11, .int x11), (12, .int x12)] [] h := by
  intro n
  induction n with
  | zero => intro x1 x3 x5 x7 x9 x10 x11 x12 h e; cases e
  | succ n ih =>
    intro x1 x3 x5 x7 x9 x10 x11 x12 h e
    rw [F_X7_stands_155] at e
    refine at_iload hX rfl dX7_stands_155 ?_
    refine at_iconst hX (v := 2) (by decide) dX7_stands_157 ?_
    refine at_icmp_ge hX (tgt := 233) (by decide) dX7_stands_158 (fun c158 => ?_) (fun c158 => ?_)
    · replace e := ip_ c158 e
      exact at_sub [0, 1, 3, 5, 7] rfl (hk233 _ _ _ _ _ e)
    · replace e := in_ c158 e
      refine at_aload_n hX rfl rfl dX7_stands_161 ?_
      refine gf_X7_31 hX dX7_stands_162 ?_
      refine at_iload hX rfl dX7_stands_165 ?_
      obtain ⟨hi, v167, ev167, e⟩ := rA_some e
      refine at_iald hX (o := 45) (by decide) rfl hi dX7_stands_167 ?_
      refine at_ti ev167 ?_
      refine at_iload hX rfl dX7_stands_168 ?_
      refine at_iload hX rfl dX7_stands_170 ?_
      refine at_imul hX dX7_stands_172 ?_
      refine at_iadd hX dX7_stands_173 ?_
      refine at_istore hX hn (by decide) dX7_stands_174 ?_
      refine at_aload_n hX rfl rfl dX7_stands_176 ?_
      refine gf_X7_48 hX dX7_stands_177 ?_
      refine at_iload hX rfl dX7_stands_180 ?_
      refine at_aload_n hX rfl rfl dX7_stands_182 ?_
      refine gf_X7_48 hX dX7_stands_183 ?_
      refine at_iload hX rfl dX7_stands_186 ?_
      obtain ⟨hi, v188, ev188, e⟩ := rA_some e
      refine at_iald hX (o := 49) (by decide) rfl hi dX7_stands_188 ?_
      refine at_ti ev188 ?_
      refine at_aload_n hX rfl rfl dX7_stands_189 ?_
      refine gf_X7_28 hX dX7_stands_190 ?_
      refine at_iload hX rfl dX7_stands_193 ?_
      obtain ⟨hi, v195, ev195, e⟩ := rA_some e
      refine at_iald hX (o := 44) (by decide) rfl hi dX7_stands_195 ?_
      refine at_ti ev195 ?_
      refine at_mmin hX cv_X7_162 (by decide) (Nat.le_of_ble_eq_true rfl) dX7_stands_196 ?_
      obtain ⟨hi, h199, eh199, e⟩ := wA_some e
      refine at_iast hX (o := 49) (by decide) rfl hi dX7_stands_199 ?_
      refine at_th eh199 ?_
      refine at_aload_n hX rfl rfl dX7_stands_200 ?_
      refine gf_X7_51 hX dX7_stands_201 ?_
      refine at_iload hX rfl dX7_stands_204 ?_
      refine at_aload_n hX rfl rfl dX7_stands_206 ?_
      refine gf_X7_51 hX dX7_stands_207 ?_
      refine at_iload hX rfl dX7_stands_210 ?_
      obtain ⟨hi, v212, ev212, e⟩ := rA_some e
      refine at_iald hX (o := 50) (by decide) rfl hi dX7_stands_212 ?_
      refine at_ti ev212 ?_
      refine at_aload_n hX rfl rfl dX7_stands_213 ?_
      refine gf_X7_28 hX dX7_stands_214 ?_
      refine at_iload hX rfl dX7_stands_217 ?_
      obtain ⟨hi, v219, ev219, e⟩ := rA_some e
      refine at_iald hX (o := 44) (by decide) rfl hi dX7_stands_219 ?_
      refine at_ti ev219 ?_
      refine at_iload hX rfl dX7_stands_220 ?_
      refine at_iadd hX dX7_stands_222 ?_
      refine at_mmax hX cv_X7_165 (by decide) (Nat.le_of_ble_eq_true rfl) dX7_stands_223 ?_
      obtain ⟨hi, h226, eh226, e⟩ := wA_some e
      refine at_iast hX (o := 50) (by decide) rfl hi dX7_stands_226 ?_
      refine at_th eh226 ?_
      refine at_iinc hX hn (by decide) rfl (v := 1) (by decide) dX7_stands_227 ?_
      refine at_goto hX (tgt := 155) (by decide) dX7_stands_230 ?_
      exact at_sub [0, 1, 3, 5, 7, 9, 10, 11, 12] rfl (ih _ _ _ _ _ _ _ _ _ e)
def F_X7_stands_37 (n : Nat) (k245 : Int64 → Int64 → Int64 → Hp → Option (Int32 × Hp)) (x1 : Int64) (x3 : Int64) (x5 : Int64) (x7 : Int64) (h : Hp) : Option (Int32 × Hp) := match n with
  | 0 => none
  | n + 1 => if x7 = (0 : Int64) then k245 x1 x3 x5 h else (F_X7_first x7).bind fun v46 => rA_ h 42 40 v46 fun v57 => rA_ h 43 40 v46 fun v64 => (F_X7_lengthX v57 v64 h).bind fun v65 => rA_ h 42 40 v46 fun v76 => rA_ h 43 40 v46 fun v83 => (F_X7_lengthY v76 v83 h).bind fun v84 => rA_ h 44 40 v46 fun v104 => bd_ (x3 + ((v84.toInt64 * v65.toInt64) * ((((2 : Int32) * v104) + v65).toInt64))) fun y112 => rA_ h 45 40 v46 fun v129 => bd_ (x5 + ((v84.toInt64 * v65.toInt64) * ((((2 : Int32) * v129) + v84).toInt64))) fun y137 => rA_ h 46 40 v46 fun v145 => if v145 ≤ (0 : Int32) then (F_X7_stands_155 FU_ (F_X7_stands_233 (F_X7_stands_37 n k245))) x1 y112 y137 x7 v46 v65 v84 (0 : Int32) h else (F_X7_stands_233 (F_X7_stands_37 n k245)) x1 y112 y137 x7 h
theorem A_X7_stands_37 {X : CX} {h' : Hp} {r : Int32} (hn : (xc_ X).maxLocals = 14) (hX : Ok_ X RX7 cX7_stands 3) (hR : Rt_ X (some .boolean) (some (.int r)) h') (k245 : Int64 → Int64 → Int64 → Hp → Option (Int32 × Hp)) (hk245 : ∀ (x1 : Int64) (x3 : Int64) (x5 : Int64) (h : Hp), k245 x1 x3 x5 h = some (r, h') → At_ X 245 [(0, .ref 7), (1, .long x1), (3, .long x3), (5, .long x5)] [] h) : ∀ (n : Nat) (x1 : Int64) (x3 : Int64) (x5 : Int64) (x7 : Int64) (h : Hp), F_X7_stands_37 n k245 x1 x3 x5 x7 h = some (r, h') → At_ X 37 [(0, .ref 7), (1, .long x1), (3, .long x3), (5, .long x5), (7, .long x7)] [] h := by
  intro n
  induction n with
  | zero => intro x1 x3 x5 x7 h e; cases e
  | succ n ih =>
    intro x1 x3 x5 x7 h e
    rw [F_X7_stands_37] at e
    refine at_lload hX rfl dX7_stands_37 ?_
    refine at_lconst hX (v := 0) (by decide) dX7_stands_39 ?_
    refine at_lcmp_eq hX (tgt := 245) (by decide) dX7_stands_40 dX7_stands_41 (fun c40 => ?_) (fun c40 => ?_)
    · replace e := ip_ c40 e
      exact at_sub [0, 1, 3, 5] rfl (hk245 _ _ _ _ e)
    · replace e := in_ c40 e
      refine at_lload hX rfl dX7_stands_44 ?_
      obtain ⟨v46, e1, e⟩ := ob_some e
      refine at_callS1 hX cv_X7_171 (by decide) (c_X7_first _ _ _ _ e1) (Nat.le_of_ble_eq_true rfl) dX7_stands_46 ?_
      refine at_istore hX hn (by decide) dX7_stands_49 ?_
      refine at_aload_n hX rfl rfl dX7_stands_51 ?_
      refine gf_X7_22 hX dX7_stands_52 ?_
      refine at_iload hX rfl dX7_stands_55 ?_
      obtain ⟨hi, v57, ev57, e⟩ := rA_some e
      refine at_iald hX (o := 42) (by decide) rfl hi dX7_stands_57 ?_
      refine at_ti ev57 ?_
      refine at_aload_n hX rfl rfl dX7_stands_58 ?_
      refine gf_X7_25 hX dX7_stands_59 ?_
      refine at_iload hX rfl dX7_stands_62 ?_
      obtain ⟨hi, v64, ev64, e⟩ := rA_some e
      refine at_iald hX (o := 43) (by decide) rfl hi dX7_stands_64 ?_
      refine at_ti ev64 ?_
      obtain ⟨v65, e1, e⟩ := ob_some e
      refine at_callS2 hX cv_X7_130 (by decide) (c_X7_lengthX _ _ _ _ _ e1) (Nat.le_of_ble_eq_true rfl) dX7_stands_65 ?_
      refine at_istore hX hn (by decide) dX7_stands_68 ?_
      refine at_aload_n hX rfl rfl dX7_stands_70 ?_
      refine gf_X7_22 hX dX7_stands_71 ?_
      refine at_iload hX rfl dX7_stands_74 ?_
      obtain ⟨hi, v76, ev76, e⟩ := rA_some e
      refine at_iald hX (o := 42) (by decide) rfl hi dX7_stands_76 ?_
      refine at_ti ev76 ?_
      refine at_aload_n hX rfl rfl dX7_stands_77 ?_
      refine gf_X7_25 hX dX7_stands_78 ?_
      refine at_iload hX rfl dX7_stands_81 ?_
      obtain ⟨hi, v83, ev83, e⟩ := rA_some e
      refine at_iald hX (o := 43) (by decide) rfl hi dX7_stands_83 ?_
      refine at_ti ev83 ?_
      obtain ⟨v84, e1, e⟩ := ob_some e
      refine at_callS2 hX cv_X7_126 (by decide) (c_X7_lengthY _ _ _ _ _ e1) (Nat.le_of_ble_eq_true rfl) dX7_stands_84 ?_
      refine at_istore hX hn (by decide) dX7_stands_87 ?_
      refine at_lload_n hX rfl rfl dX7_stands_89 ?_
      refine at_iload hX rfl dX7_stands_90 ?_
      refine at_i2l hX dX7_stands_92 ?_
      refine at_iload hX rfl dX7_stands_93 ?_
      refine at_i2l hX dX7_stands_95 ?_
      refine at_lmul hX dX7_stands_96 ?_
      refine at_iconst hX (v := 2) (by decide) dX7_stands_97 ?_
      refine at_aload_n hX rfl rfl dX7_stands_98 ?_
      refine gf_X7_28 hX dX7_stands_99 ?_
      refine at_iload hX rfl dX7_stands_102 ?_
      obtain ⟨hi, v104, ev104, e⟩ := rA_some e
      refine at_iald hX (o := 44) (by decide) rfl hi dX7_stands_104 ?_
      refine at_ti ev104 ?_
      refine at_imul hX dX7_stands_105 ?_
      refine at_iload hX rfl dX7_stands_106 ?_
      refine at_iadd hX dX7_stands_108 ?_
      refine at_i2l hX dX7_stands_109 ?_
      refine at_lmul hX dX7_stands_110 ?_
      refine at_ladd hX dX7_stands_111 ?_
      obtain ⟨y112, ey112, e⟩ := bd_some e
      refine at_tl ey112 ?_
      refine at_lstore_n hX rfl hn (by decide) dX7_stands_112 ?_
      refine at_lload hX rfl dX7_stands_113 ?_
      refine at_iload hX rfl dX7_stands_115 ?_
      refine at_i2l hX dX7_stands_117 ?_
      refine at_iload hX rfl dX7_stands_118 ?_
      refine at_i2l hX dX7_stands_120 ?_
      refine at_lmul hX dX7_stands_121 ?_
      refine at_iconst hX (v := 2) (by decide) dX7_stands_122 ?_
      refine at_aload_n hX rfl rfl dX7_stands_123 ?_
      refine gf_X7_31 hX dX7_stands_124 ?_
      refine at_iload hX rfl dX7_stands_127 ?_
      obtain ⟨hi, v129, ev129, e⟩ := rA_some e
      refine at_iald hX (o := 45) (by decide) rfl hi dX7_stands_129 ?_
      refine at_ti ev129 ?_
      refine at_imul hX dX7_stands_130 ?_
      refine at_iload hX rfl dX7_stands_131 ?_
      refine at_iadd hX dX7_stands_133 ?_
      refine at_i2l hX dX7_stands_134 ?_
      refine at_lmul hX dX7_stands_135 ?_
      refine at_ladd hX dX7_stands_136 ?_
      obtain ⟨y137, ey137, e⟩ := bd_some e
      refine at_tl ey137 ?_
      refine at_lstore hX hn (by decide) dX7_stands_137 ?_
      refine at_aload_n hX rfl rfl dX7_stands_139 ?_
      refine gf_X7_34 hX dX7_stands_140 ?_
      refine at_iload hX rfl dX7_stands_143 ?_
      obtain ⟨hi, v145, ev145, e⟩ := rA_some e
      refine at_iald hX (o := 46) (by decide) rfl hi dX7_stands_145 ?_
      refine at_ti ev145 ?_
      refine at_if_le hX (tgt := 152) (by decide) dX7_stands_146 (fun c146 => ?_) (fun c146 => ?_)
      · replace e := ip_ c146 e
        refine at_iconst hX (v := 0) (by decide) dX7_stands_152 ?_
        refine at_istore hX hn (by decide) dX7_stands_153 ?_
        exact at_sub [0, 1, 3, 5, 7, 9, 10, 11, 12] rfl ((A_X7_stands_155 hn hX hR (F_X7_stands_233 (F_X7_stands_37 n k245)) (A_X7_stands_233 hn hX hR (F_X7_stands_37 n k245) ih) FU_) _ _ _ _ _ _ _ _ _ e)
      · replace e := in_ c146 e
        refine at_goto hX (tgt := 233) (by decide) dX7_stands_149 ?_
        exact at_sub [0, 1, 3, 5, 7] rfl ((A_X7_stands_233 hn hX hR (F_X7_stands_37 n k245) ih) _ _ _ _ _ e)
def F_X7_stands_29 (x1 : Int64) (h : Hp) : Option (Int32 × Hp) := (F_X7_stands_37 FU_ F_X7_stands_245) x1 (0 : Int64) (0 : Int64) x1 h
theorem A_X7_stands_29 {X : CX} {h' : Hp} {r : Int32} (hn : (xc_ X).maxLocals = 14) (hX : Ok_ X RX7 cX7_stands 3) (hR : Rt_ X (some .boolean) (some (.int r)) h') (x1 : Int64) (h : Hp) (e : F_X7_stands_29 x1 h = some (r, h')) : At_ X 29 [(0, .ref 7), (1, .long x1)] [] h := by
  unfold F_X7_stands_29 at e
  refine at_lconst hX (v := 0) (by decide) dX7_stands_29 ?_
  refine at_lstore_n hX rfl hn (by decide) dX7_stands_30 ?_
  refine at_lconst hX (v := 0) (by decide) dX7_stands_31 ?_
  refine at_lstore hX hn (by decide) dX7_stands_32 ?_
  refine at_lload_n hX rfl rfl dX7_stands_34 ?_
  refine at_lstore hX hn (by decide) dX7_stands_35 ?_
  exact at_sub [0, 1, 3, 5, 7] rfl ((A_X7_stands_37 hn hX hR F_X7_stands_245 (A_X7_stands_245 hn hX hR) FU_) _ _ _ _ _ e)
def F_X7_stands_2 (n : Nat) (k29 : Int64 → Hp → Option (Int32 × Hp)) (x1 : Int64) (x3 : Int32) (h : Hp) : Option (Int32 × Hp) := match n with
  | 0 => none
  | n + 1 => if (6 : Int32) < x3 then k29 x1 h else wA_ h 49 7 x3 (7 : Int32) fun h15 => wA_ h15 50 7 x3 (-1 : Int32) fun h22 => (F_X7_stands_2 n k29) x1 (x3 + (1 : Int32)) h22
theorem A_X7_stands_2 {X : CX} {h' : Hp} {r : Int32} (hn : (xc_ X).maxLocals = 14) (hX : Ok_ X RX7 cX7_stands 3) (hR : Rt_ X (some .boolean) (some (.int r)) h') (k29 : Int64 → Hp → Option (Int32 × Hp)) (hk29 : ∀ (x1 : Int64) (h : Hp), k29 x1 h = some (r, h') → At_ X 29 [(0, .ref 7), (1, .long x1)] [] h) : ∀ (n : Nat) (x1 : Int64) (x3 : Int32) (h : Hp), F_X7_stands_2 n k29 x1 x3 h = some (r, h') → At_ X 2 [(0, .ref 7), (1, .long x1), (3, .int x3)] [] h := by
  intro n
  induction n with
  | zero => intro x1 x3 h e; cases e
  | succ n ih =>
    intro x1 x3 h e
    rw [F_X7_stands_2] at e
    refine at_iload_n hX rfl rfl dX7_stands_2 ?_
    refine at_bipush hX (v := 6) (by decide) dX7_stands_3 ?_
    refine at_icmp_gt hX (tgt := 29) (by decide) dX7_stands_5 (fun c5 => ?_) (fun c5 => ?_)
    · replace e := ip_ c5 e
      exact at_sub [0, 1] rfl (hk29 _ _ e)
    · replace e := in_ c5 e
      refine at_aload_n hX rfl rfl dX7_stands_8 ?_
      refine gf_X7_48 hX dX7_stands_9 ?_
      refine at_iload_n hX rfl rfl dX7_stands_12 ?_
      refine at_bipush hX (v := 7) (by decide) dX7_stands_13 ?_
      obtain ⟨hi, h15, eh15, e⟩ := wA_some e
      refine at_iast hX (o := 49) (by decide) rfl hi dX7_stands_15 ?_
      refine at_th eh15 ?_
      refine at_aload_n hX rfl rfl dX7_stands_16 ?_
      refine gf_X7_51 hX dX7_stands_17 ?_
      refine at_iload_n hX rfl rfl dX7_stands_20 ?_
      refine at_iconst hX (v := -1) (by decide) dX7_stands_21 ?_
      obtain ⟨hi, h22, eh22, e⟩ := wA_some e
      refine at_iast hX (o := 50) (by decide) rfl hi dX7_stands_22 ?_
      refine at_th eh22 ?_
      refine at_iinc hX hn (by decide) rfl (v := 1) (by decide) dX7_stands_23 ?_
      refine at_goto hX (tgt := 2) (by decide) dX7_stands_26 ?_
      exact at_sub [0, 1, 3] rfl (ih _ _ _ e)
def F_X7_stands (x1 : Int64) (h : Hp) : Option (Int32 × Hp) := (F_X7_stands_2 FU_ F_X7_stands_29) x1 (0 : Int32) h
theorem c_X7_stands (l : Launch) (G : Gl) (x1 : Int64) (h : Hp) {r : Int32} {h' : Hp} (e : F_X7_stands x1 h = some (r, h')) : Does l G 3 M_X7_stands [.ref 7, .long x1] h (some (.int r)) h' := by
  refine Does.of (by decide) rfl (Nat.le_of_ble_eq_true rfl) (fun X hl hG hn hX hR => ?_)
  unfold F_X7_stands at e
  subst hl; subst hG
  show At_ X 0 [(0, .ref 7), (1, .long x1)] [] h
  refine at_iconst hX (v := 0) (by decide) dX7_stands_0 ?_
  refine at_istore_n hX rfl hn (by decide) dX7_stands_1 ?_
  exact at_sub [0, 1, 3] rfl ((A_X7_stands_2 hn hX hR F_X7_stands_29 (A_X7_stands_29 hn hX hR) FU_) _ _ _ e)

def F_X7_weakAt_149 (k42 : Int32 → Int64 → Int32 → Int32 → Hp → Option Int32) (x3 : Int32) (x4 : Int64) (x7 : Int32) (s0 : Int32) (s1 : Int32) (h : Hp) : Option Int32 := k42 x3 x4 (s0 + s1) x7 h
theorem A_X7_weakAt_149 {X : CX} {h : Hp} {r : Int32} (hn : (xc_ X).maxLocals = 13) (hX : Ok_ X RX7 cX7_weakAt 3) (hR : Rt_ X (some .int) (some (.int r)) h) (k42 : Int32 → Int64 → Int32 → Int32 → Hp → Option Int32) (hk42 : ∀ (x3 : Int32) (x4 : Int64) (x6 : Int32) (x7 : Int32), k42 x3 x4 x6 x7 h = some r → At_ X 42 [(0, .ref 7), (3, .int x3), (4, .long x4), (6, .int x6), (7, .int x7)] [] h) (x3 : Int32) (x4 : Int64) (x7 : Int32) (s0 : Int32) (s1 : Int32) (e : F_X7_weakAt_149 k42 x3 x4 x7 s0 s1 h = some r) : At_ X 149 [(0, .ref 7), (3, .int x3), (4, .long x4), (7, .int x7)] [.int s1, .int s0] h := by
  unfold F_X7_weakAt_149 at e
  refine at_iadd hX dX7_weakAt_149 ?_
  refine at_istore hX hn (by decide) dX7_weakAt_150 ?_
  refine at_goto hX (tgt := 42) (by decide) dX7_weakAt_152 ?_
  exact at_sub [0, 3, 4, 6, 7] rfl (hk42 _ _ _ _ e)
def F_X7_weakAt_126 (k42 : Int32 → Int64 → Int32 → Int32 → Hp → Option Int32) (x3 : Int32) (x4 : Int64) (x6 : Int32) (x7 : Int32) (x8 : Int64) (x10 : Int32) (h : Hp) : Option Int32 := (F_X7_weight x8 h).bind fun v131 => if v131 ≤ (gI_ h 459) * x10 then (F_X7_weakAt_149 k42) x3 x4 x7 x6 (0 : Int32) h else (F_X7_weakAt_149 k42) x3 x4 x7 x6 (1 : Int32) h
theorem A_X7_weakAt_126 {X : CX} {h : Hp} {r : Int32} (hn : (xc_ X).maxLocals = 13) (hX : Ok_ X RX7 cX7_weakAt 3) (hR : Rt_ X (some .int) (some (.int r)) h) (k42 : Int32 → Int64 → Int32 → Int32 → Hp → Option Int32) (hk42 : ∀ (x3 : Int32) (x4 : Int64) (x6 : Int32) (x7 : Int32), k42 x3 x4 x6 x7 h = some r → At_ X 42 [(0, .ref 7), (3, .int x3), (4, .long x4), (6, .int x6), (7, .int x7)] [] h) (x3 : Int32) (x4 : Int64) (x6 : Int32) (x7 : Int32) (x8 : Int64) (x10 : Int32) (e : F_X7_weakAt_126 k42 x3 x4 x6 x7 x8 x10 h = some r) : At_ X 126 [(0, .ref 7), (3, .int x3), (4, .long x4), (6, .int x6), (7, .int x7), (8, .long x8), (10, .int x10)] [] h := by
  unfold F_X7_weakAt_126 at e
  refine at_iload hX rfl dX7_weakAt_126 ?_
  refine at_aload_n hX rfl rfl dX7_weakAt_128 ?_
  refine at_lload hX rfl dX7_weakAt_129 ?_
  obtain ⟨v131, e1, e⟩ := ob_some e
  refine at_callV1 hX cv_X7_180 (by decide) (c_X7_weight _ _ _ _ e1) (Nat.le_of_ble_eq_true rfl) dX7_weakAt_131 ?_
  refine at_aload_n hX rfl rfl dX7_weakAt_134 ?_
  refine gf_X7_40 hX dX7_weakAt_135 ?_
  refine at_iload hX rfl dX7_weakAt_138 ?_
  refine at_imul hX dX7_weakAt_140 ?_
  refine at_icmp_le hX (tgt := 148) (by decide) dX7_weakAt_141 (fun c141 => ?_) (fun c141 => ?_)
  · replace e := ip_ c141 e
    refine at_iconst hX (v := 0) (by decide) dX7_weakAt_148 ?_
    exact at_sub [0, 3, 4, 7] rfl ((A_X7_weakAt_149 hn hX hR k42 hk42) _ _ _ _ _ e)
  · replace e := in_ c141 e
    refine at_iconst hX (v := 1) (by decide) dX7_weakAt_144 ?_
    refine at_goto hX (tgt := 149) (by decide) dX7_weakAt_145 ?_
    exact at_sub [0, 3, 4, 7] rfl ((A_X7_weakAt_149 hn hX hR k42 hk42) _ _ _ _ _ e)
def F_X7_weakAt_92 (n : Nat) (k126 : Int32 → Int64 → Int32 → Int32 → Int64 → Int32 → Hp → Option Int32) (x3 : Int32) (x4 : Int64) (x6 : Int32) (x7 : Int32) (x8 : Int64) (x10 : Int32) (x11 : Int64) (h : Hp) : Option Int32 := match n with
  | 0 => none
  | n + 1 => if x11 = (0 : Int64) then k126 x3 x4 x6 x7 x8 x10 h else (F_X7_first x11).bind fun v105 => (F_X7_studsOf x3 v105 h).bind fun v108 => bd_ (x11 &&& (x11 - (1 : Int64))) fun y121 => (F_X7_weakAt_92 n k126) x3 x4 x6 x7 x8 (x10 + v108) y121 h
theorem A_X7_weakAt_92 {X : CX} {h : Hp} {r : Int32} (hn : (xc_ X).maxLocals = 13) (hX : Ok_ X RX7 cX7_weakAt 3) (hR : Rt_ X (some .int) (some (.int r)) h) (k126 : Int32 → Int64 → Int32 → Int32 → Int64 → Int32 → Hp → Option Int32) (hk126 : ∀ (x3 : Int32) (x4 : Int64) (x6 : Int32) (x7 : Int32) (x8 : Int64) (x10 : Int32), k126 x3 x4 x6 x7 x8 x10 h = some r → At_ X 126 [(0, .ref 7), (3, .int x3), (4, .long x4), (6, .int x6), (7, .int x7), (8, .long x8), (10, .int x10)] [] h) : ∀ (n : Nat) (x3 : Int32) (x4 : Int64) (x6 : Int32) (x7 : Int32) (x8 : Int64) (x10 : Int32) (x11 : Int64), F_X7_weakAt_92 n k126 x3 x4 x6 x7 x8 x10 x11 h = some r → At_ X 92 [(0, .ref 7), (3, .int x3), (4, .long x4), (6, .int x6), (7, .int x7), (8, .long x8), (10, .int x10), (11, .long x11)] [] h := by
  intro n
  induction n with
  | zero => intro x3 x4 x6 x7 x8 x10 x11 e; cases e
  | succ n ih =>
    intro x3 x4 x6 x7 x8 x10 x11 e
    rw [F_X7_weakAt_92] at e
    refine at_lload hX rfl dX7_weakAt_92 ?_
    refine at_lconst hX (v := 0) (by decide) dX7_weakAt_94 ?_
    refine at_lcmp_eq hX (tgt := 126) (by decide) dX7_weakAt_95 dX7_weakAt_96 (fun c95 => ?_) (fun c95 => ?_)
    · replace e := ip_ c95 e
      exact at_sub [0, 3, 4, 6, 7, 8, 10] rfl (hk126 _ _ _ _ _ _ e)
    · replace e := in_ c95 e
      refine at_iload hX rfl dX7_weakAt_99 ?_
      refine at_aload_n hX rfl rfl dX7_weakAt_101 ?_
      refine at_iload_n hX rfl rfl dX7_weakAt_102 ?_
      refine at_lload hX rfl dX7_weakAt_103 ?_
      obtain ⟨v105, e1, e⟩ := ob_some e
      refine at_callS1 hX cv_X7_171 (by decide) (c_X7_first _ _ _ _ e1) (Nat.le_of_ble_eq_true rfl) dX7_weakAt_105 ?_
      obtain ⟨v108, e1, e⟩ := ob_some e
      refine at_callV2 hX cv_X7_168 (by decide) (c_X7_studsOf _ _ _ _ _ e1) (Nat.le_of_ble_eq_true rfl) dX7_weakAt_108 ?_
      refine at_iadd hX dX7_weakAt_111 ?_
      refine at_istore hX hn (by decide) dX7_weakAt_112 ?_
      refine at_lload hX rfl dX7_weakAt_114 ?_
      refine at_lload hX rfl dX7_weakAt_116 ?_
      refine at_lconst hX (v := 1) (by decide) dX7_weakAt_118 ?_
      refine at_lsub hX dX7_weakAt_119 ?_
      refine at_land hX dX7_weakAt_120 ?_
      obtain ⟨y121, ey121, e⟩ := bd_some e
      refine at_tl ey121 ?_
      refine at_lstore hX hn (by decide) dX7_weakAt_121 ?_
      refine at_goto hX (tgt := 92) (by decide) dX7_weakAt_123 ?_
      exact at_sub [0, 3, 4, 6, 7, 8, 10, 11] rfl (ih _ _ _ _ _ _ _ e)
def F_X7_weakAt_42 (n : Nat) (x3 : Int32) (x4 : Int64) (x6 : Int32) (x7 : Int32) (h : Hp) : Option Int32 := match n with
  | 0 => none
  | n + 1 => if x4 = (0 : Int64) then some x6 else if x7 = (0 : Int32) then (F_X7_pieceIn x4 h).bind fun v57 => bd_ (x4 &&& (v57 ^^^ (-1 : Int64))) fun y71 => (F_X7_floats v57 h).bind fun v76 => if v76 = (0 : Int32) then (F_X7_weakAt_42 n) x3 y71 x6 x7 h else (F_X7_weakAt_92 FU_ (F_X7_weakAt_126 (F_X7_weakAt_42 n))) x3 y71 x6 x7 v57 (0 : Int32) v57 h else some x6
theorem A_X7_weakAt_42 {X : CX} {h : Hp} {r : Int32} (hn : (xc_ X).maxLocals = 13) (hX : Ok_ X RX7 cX7_weakAt 3) (hR : Rt_ X (some .int) (some (.int r)) h) : ∀ (n : Nat) (x3 : Int32) (x4 : Int64) (x6 : Int32) (x7 : Int32), F_X7_weakAt_42 n x3 x4 x6 x7 h = some r → At_ X 42 [(0, .ref 7), (3, .int x3), (4, .long x4), (6, .int x6), (7, .int x7)] [] h := by
  intro n
  induction n with
  | zero => intro x3 x4 x6 x7 e; cases e
  | succ n ih =>
    intro x3 x4 x6 x7 e
    rw [F_X7_weakAt_42] at e
    refine at_lload hX rfl dX7_weakAt_42 ?_
    refine at_lconst hX (v := 0) (by decide) dX7_weakAt_44 ?_
    refine at_lcmp_eq hX (tgt := 155) (by decide) dX7_weakAt_45 dX7_weakAt_46 (fun c45 => ?_) (fun c45 => ?_)
    · replace e := ip_ c45 e
      refine at_iload hX rfl dX7_weakAt_155 ?_
      exact at_ireturn hX hR rfl (by cases e; rfl) rfl dX7_weakAt_157
    · replace e := in_ c45 e
      refine at_iload hX rfl dX7_weakAt_49 ?_
      refine at_if_ne hX (tgt := 155) (by decide) dX7_weakAt_51 (fun c51 => ?_) (fun c51 => ?_)
      · replace e := in_ c51 e
        refine at_iload hX rfl dX7_weakAt_155 ?_
        exact at_ireturn hX hR rfl (by cases e; rfl) rfl dX7_weakAt_157
      · replace e := ip_ c51 e
        refine at_aload_n hX rfl rfl dX7_weakAt_54 ?_
        refine at_lload hX rfl dX7_weakAt_55 ?_
        obtain ⟨v57, e1, e⟩ := ob_some e
        refine at_callV1 hX cv_X7_186 (by decide) (c_X7_pieceIn _ _ _ _ e1) (Nat.le_of_ble_eq_true rfl) dX7_weakAt_57 ?_
        refine at_lstore hX hn (by decide) dX7_weakAt_60 ?_
        refine at_lload hX rfl dX7_weakAt_62 ?_
        refine at_lload hX rfl dX7_weakAt_64 ?_
        refine at_ldc2 hX wk_X7_155 dX7_weakAt_66 ?_
        refine at_lxor hX dX7_weakAt_69 ?_
        refine at_land hX dX7_weakAt_70 ?_
        obtain ⟨y71, ey71, e⟩ := bd_some e
        refine at_tl ey71 ?_
        refine at_lstore hX hn (by decide) dX7_weakAt_71 ?_
        refine at_aload_n hX rfl rfl dX7_weakAt_73 ?_
        refine at_lload hX rfl dX7_weakAt_74 ?_
        obtain ⟨v76, e1, e⟩ := ob_some e
        refine at_callV1 hX cv_X7_190 (by decide) (c_X7_floats _ _ _ _ e1) (Nat.le_of_ble_eq_true rfl) dX7_weakAt_76 ?_
        refine at_if_ne hX (tgt := 85) (by decide) dX7_weakAt_79 (fun c79 => ?_) (fun c79 => ?_)
        · replace e := in_ c79 e
          refine at_iconst hX (v := 0) (by decide) dX7_weakAt_85 ?_
          refine at_istore hX hn (by decide) dX7_weakAt_86 ?_
          refine at_lload hX rfl dX7_weakAt_88 ?_
          refine at_lstore hX hn (by decide) dX7_weakAt_90 ?_
          exact at_sub [0, 3, 4, 6, 7, 8, 10, 11] rfl ((A_X7_weakAt_92 hn hX hR (F_X7_weakAt_126 (F_X7_weakAt_42 n)) (A_X7_weakAt_126 hn hX hR (F_X7_weakAt_42 n) ih) FU_) _ _ _ _ _ _ _ e)
        · replace e := ip_ c79 e
          refine at_goto hX (tgt := 42) (by decide) dX7_weakAt_82 ?_
          exact at_sub [0, 3, 4, 6, 7] rfl (ih _ _ _ _ e)
def F_X7_weakAt (x1 : Int64) (x3 : Int32) (h : Hp) : Option Int32 := bd_ (x1 &&& ((ls_ (1 : Int64) x3) ^^^ (-1 : Int64))) fun y9 => if y9 = (0 : Int64) then some (-1 : Int32) else (F_X7_pieceIn y9 h).bind fun v21 => if v21 = y9 then some (-1 : Int32) else (F_X7_floats x1 h).bind fun v37 => (F_X7_weakAt_42 FU_) x3 y9 (0 : Int32) v37 h
theorem c_X7_weakAt (l : Launch) (G : Gl) (x1 : Int64) (x3 : Int32) (h : Hp) {r : Int32} (e : F_X7_weakAt x1 x3 h = some r) : Does l G 3 M_X7_weakAt [.ref 7, .long x1, .int x3] h (some (.int r)) h := by
  refine Does.of (by decide) rfl (Nat.le_of_ble_eq_true rfl) (fun X hl hG hn hX hR => ?_)
  unfold F_X7_weakAt at e
  subst hl; subst hG
  show At_ X 0 [(0, .ref 7), (1, .long x1), (3, .int x3)] [] h
  refine at_lload_n hX rfl rfl dX7_weakAt_0 ?_
  refine at_lconst hX (v := 1) (by decide) dX7_weakAt_1 ?_
  refine at_iload_n hX rfl rfl dX7_weakAt_2 ?_
  refine at_lshl hX dX7_weakAt_3 ?_
  refine at_ldc2 hX wk_X7_155 dX7_weakAt_4 ?_
  refine at_lxor hX dX7_weakAt_7 ?_
  refine at_land hX dX7_weakAt_8 ?_
  obtain ⟨y9, ey9, e⟩ := bd_some e
  refine at_tl ey9 ?_
  refine at_lstore hX hn (by decide) dX7_weakAt_9 ?_
  refine at_lload hX rfl dX7_weakAt_11 ?_
  refine at_lconst hX (v := 0) (by decide) dX7_weakAt_13 ?_
  refine at_lcmp_eq hX (tgt := 30) (by decide) dX7_weakAt_14 dX7_weakAt_15 (fun c14 => ?_) (fun c14 => ?_)
  · replace e := ip_ c14 e
    refine at_iconst hX (v := -1) (by decide) dX7_weakAt_30 ?_
    exact at_ireturn hX hR rfl (by cases e; rfl) rfl dX7_weakAt_31
  · replace e := in_ c14 e
    refine at_aload_n hX rfl rfl dX7_weakAt_18 ?_
    refine at_lload hX rfl dX7_weakAt_19 ?_
    obtain ⟨v21, e1, e⟩ := ob_some e
    refine at_callV1 hX cv_X7_186 (by decide) (c_X7_pieceIn _ _ _ _ e1) (Nat.le_of_ble_eq_true rfl) dX7_weakAt_21 ?_
    refine at_lload hX rfl dX7_weakAt_24 ?_
    refine at_lcmp_ne hX (tgt := 32) (by decide) dX7_weakAt_26 dX7_weakAt_27 (fun c26 => ?_) (fun c26 => ?_)
    · replace e := in_ c26 e
      refine at_iconst hX (v := 0) (by decide) dX7_weakAt_32 ?_
      refine at_istore hX hn (by decide) dX7_weakAt_33 ?_
      refine at_aload_n hX rfl rfl dX7_weakAt_35 ?_
      refine at_lload_n hX rfl rfl dX7_weakAt_36 ?_
      obtain ⟨v37, e1, e⟩ := ob_some e
      refine at_callV1 hX cv_X7_190 (by decide) (c_X7_floats _ _ _ _ e1) (Nat.le_of_ble_eq_true rfl) dX7_weakAt_37 ?_
      refine at_istore hX hn (by decide) dX7_weakAt_40 ?_
      exact at_sub [0, 3, 4, 6, 7] rfl ((A_X7_weakAt_42 hn hX hR FU_) _ _ _ _ e)
    · replace e := ip_ c26 e
      refine at_iconst hX (v := -1) (by decide) dX7_weakAt_30 ?_
      exact at_ireturn hX hR rfl (by cases e; rfl) rfl dX7_weakAt_31

def F_X7_isSound_83 (k2 : Int64 → Hp → Option (Int32 × Hp)) (x3 : Int64) (h : Hp) : Option (Int32 × Hp) := k2 x3 h
theorem A_X7_isSound_83 {X : CX} {h' : Hp} {r : Int32} (hn : (xc_ X).maxLocals = 9) (hX : Ok_ X RX7 cX7_isSound 4) (hR : Rt_ X (some .boolean) (some (.int r)) h') (k2 : Int64 → Hp → Option (Int32 × Hp)) (hk2 : ∀ (x3 : Int64) (h : Hp), k2 x3 h = some (r, h') → At_ X 2 [(0, .ref 7), (3, .long x3)] [] h) (x3 : Int64) (h : Hp) (e : F_X7_isSound_83 k2 x3 h = some (r, h')) : At_ X 83 [(0, .ref 7), (3, .long x3)] [] h := by
  unfold F_X7_isSound_83 at e
  refine at_goto hX (tgt := 2) (by decide) dX7_isSound_83 ?_
  exact at_sub [0, 3] rfl (hk2 _ _ e)
def F_X7_isSound_48 (n : Nat) (k83 : Int64 → Hp → Option (Int32 × Hp)) (x3 : Int64) (x5 : Int64) (x7 : Int64) (h : Hp) : Option (Int32 × Hp) := match n with
  | 0 => none
  | n + 1 => if x7 = (0 : Int64) then k83 x3 h else (F_X7_first x7).bind fun v60 => (F_X7_weakAt x5 v60 h).bind fun v63 => if v63 ≤ (0 : Int32) then bd_ (x7 &&& (x7 - (1 : Int64))) fun y78 => (F_X7_isSound_48 n k83) x3 x5 y78 h else some ((0 : Int32), h)
theorem A_X7_isSound_48 {X : CX} {h' : Hp} {r : Int32} (hn : (xc_ X).maxLocals = 9) (hX : Ok_ X RX7 cX7_isSound 4) (hR : Rt_ X (some .boolean) (some (.int r)) h') (k83 : Int64 → Hp → Option (Int32 × Hp)) (hk83 : ∀ (x3 : Int64) (h : Hp), k83 x3 h = some (r, h') → At_ X 83 [(0, .ref 7), (3, .long x3)] [] h) : ∀ (n : Nat) (x3 : Int64) (x5 : Int64) (x7 : Int64) (h : Hp), F_X7_isSound_48 n k83 x3 x5 x7 h = some (r, h') → At_ X 48 [(0, .ref 7), (3, .long x3), (5, .long x5), (7, .long x7)] [] h := by
  intro n
  induction n with
  | zero => intro x3 x5 x7 h e; cases e
  | succ n ih =>
    intro x3 x5 x7 h e
    rw [F_X7_isSound_48] at e
    refine at_lload hX rfl dX7_isSound_48 ?_
    refine at_lconst hX (v := 0) (by decide) dX7_isSound_50 ?_
    refine at_lcmp_eq hX (tgt := 83) (by decide) dX7_isSound_51 dX7_isSound_52 (fun c51 => ?_) (fun c51 => ?_)
    · replace e := ip_ c51 e
      exact at_sub [0, 3] rfl (hk83 _ _ e)
    · replace e := in_ c51 e
      refine at_aload_n hX rfl rfl dX7_isSound_55 ?_
      refine at_lload hX rfl dX7_isSound_56 ?_
      refine at_lload hX rfl dX7_isSound_58 ?_
      obtain ⟨v60, e1, e⟩ := ob_some e
      refine at_callS1 hX cv_X7_171 (by decide) (c_X7_first _ _ _ _ e1) (Nat.le_of_ble_eq_true rfl) dX7_isSound_60 ?_
      obtain ⟨v63, e1, e⟩ := ob_some e
      refine at_callV2 hX cv_X7_197 (by decide) (c_X7_weakAt _ _ _ _ _ e1) (Nat.le_of_ble_eq_true rfl) dX7_isSound_63 ?_
      refine at_if_le hX (tgt := 71) (by decide) dX7_isSound_66 (fun c66 => ?_) (fun c66 => ?_)
      · replace e := ip_ c66 e
        refine at_lload hX rfl dX7_isSound_71 ?_
        refine at_lload hX rfl dX7_isSound_73 ?_
        refine at_lconst hX (v := 1) (by decide) dX7_isSound_75 ?_
        refine at_lsub hX dX7_isSound_76 ?_
        refine at_land hX dX7_isSound_77 ?_
        obtain ⟨y78, ey78, e⟩ := bd_some e
        refine at_tl ey78 ?_
        refine at_lstore hX hn (by decide) dX7_isSound_78 ?_
        refine at_goto hX (tgt := 48) (by decide) dX7_isSound_80 ?_
        exact at_sub [0, 3, 5, 7] rfl (ih _ _ _ _ e)
      · replace e := in_ c66 e
        refine at_iconst hX (v := 0) (by decide) dX7_isSound_69 ?_
        exact at_ireturn hX hR rfl (by cases e; rfl) (by cases e; rfl) dX7_isSound_70
def F_X7_isSound_2 (n : Nat) (x3 : Int64) (h : Hp) : Option (Int32 × Hp) := match n with
  | 0 => none
  | n + 1 => if x3 = (0 : Int64) then some ((1 : Int32), h) else (F_X7_pieceIn x3 h).bind fun v10 => bd_ (x3 &&& (v10 ^^^ (-1 : Int64))) fun y23 => (F_X7_floats v10 h).bind fun v27 => if v27 = (0 : Int32) then (F_X7_stands v10 h).bind fun ((v36, h36) : Int32 × Hp) => if v36 = (0 : Int32) then some ((0 : Int32), h36) else (F_X7_isSound_48 FU_ (F_X7_isSound_83 (F_X7_isSound_2 n))) y23 v10 v10 h36 else some ((0 : Int32), h)
theorem A_X7_isSound_2 {X : CX} {h' : Hp} {r : Int32} (hn : (xc_ X).maxLocals = 9) (hX : Ok_ X RX7 cX7_isSound 4) (hR : Rt_ X (some .boolean) (some (.int r)) h') : ∀ (n : Nat) (x3 : Int64) (h : Hp), F_X7_isSound_2 n x3 h = some (r, h') → At_ X 2 [(0, .ref 7), (3, .long x3)] [] h := by
  intro n
  induction n with
  | zero => intro x3 h e; cases e
  | succ n ih =>
    intro x3 h e
    rw [F_X7_isSound_2] at e
    refine at_lload_n hX rfl rfl dX7_isSound_2 ?_
    refine at_lconst hX (v := 0) (by decide) dX7_isSound_3 ?_
    refine at_lcmp_eq hX (tgt := 86) (by decide) dX7_isSound_4 dX7_isSound_5 (fun c4 => ?_) (fun c4 => ?_)
    · replace e := ip_ c4 e
      refine at_iconst hX (v := 1) (by decide) dX7_isSound_86 ?_
      exact at_ireturn hX hR rfl (by cases e; rfl) (by cases e; rfl) dX7_isSound_87
    · replace e := in_ c4 e
      refine at_aload_n hX rfl rfl dX7_isSound_8 ?_
      refine at_lload_n hX rfl rfl dX7_isSound_9 ?_
      obtain ⟨v10, e1, e⟩ := ob_some e
      refine at_callV1 hX cv_X7_186 (by decide) (c_X7_pieceIn _ _ _ _ e1) (Nat.le_of_ble_eq_true rfl) dX7_isSound_10 ?_
      refine at_lstore hX hn (by decide) dX7_isSound_13 ?_
      refine at_lload_n hX rfl rfl dX7_isSound_15 ?_
      refine at_lload hX rfl dX7_isSound_16 ?_
      refine at_ldc2 hX wk_X7_155 dX7_isSound_18 ?_
      refine at_lxor hX dX7_isSound_21 ?_
      refine at_land hX dX7_isSound_22 ?_
      obtain ⟨y23, ey23, e⟩ := bd_some e
      refine at_tl ey23 ?_
      refine at_lstore_n hX rfl hn (by decide) dX7_isSound_23 ?_
      refine at_aload_n hX rfl rfl dX7_isSound_24 ?_
      refine at_lload hX rfl dX7_isSound_25 ?_
      obtain ⟨v27, e1, e⟩ := ob_some e
      refine at_callV1 hX cv_X7_190 (by decide) (c_X7_floats _ _ _ _ e1) (Nat.le_of_ble_eq_true rfl) dX7_isSound_27 ?_
      refine at_if_ne hX (tgt := 42) (by decide) dX7_isSound_30 (fun c30 => ?_) (fun c30 => ?_)
      · replace e := in_ c30 e
        refine at_iconst hX (v := 0) (by decide) dX7_isSound_42 ?_
        exact at_ireturn hX hR rfl (by cases e; rfl) (by cases e; rfl) dX7_isSound_43
      · replace e := ip_ c30 e
        refine at_aload_n hX rfl rfl dX7_isSound_33 ?_
        refine at_lload hX rfl dX7_isSound_34 ?_
        obtain ⟨⟨v36, h36⟩, e1, e⟩ := ob_some e
        refine at_callV1 hX cv_X7_194 (by decide) (c_X7_stands _ _ _ _ e1) (Nat.le_of_ble_eq_true rfl) dX7_isSound_36 ?_
        refine at_if_ne hX (tgt := 44) (by decide) dX7_isSound_39 (fun c39 => ?_) (fun c39 => ?_)
        · replace e := in_ c39 e
          refine at_lload hX rfl dX7_isSound_44 ?_
          refine at_lstore hX hn (by decide) dX7_isSound_46 ?_
          exact at_sub [0, 3, 5, 7] rfl ((A_X7_isSound_48 hn hX hR (F_X7_isSound_83 (F_X7_isSound_2 n)) (A_X7_isSound_83 hn hX hR (F_X7_isSound_2 n) ih) FU_) _ _ _ _ e)
        · replace e := ip_ c39 e
          refine at_iconst hX (v := 0) (by decide) dX7_isSound_42 ?_
          exact at_ireturn hX hR rfl (by cases e; rfl) (by cases e; rfl) dX7_isSound_43
def F_X7_isSound (x1 : Int64) (h : Hp) : Option (Int32 × Hp) := (F_X7_isSound_2 FU_) x1 h
theorem c_X7_isSound (l : Launch) (G : Gl) (x1 : Int64) (h : Hp) {r : Int32} {h' : Hp} (e : F_X7_isSound x1 h = some (r, h')) : Does l G 4 M_X7_isSound [.ref 7, .long x1] h (some (.int r)) h' := by
  refine Does.of (by decide) rfl (Nat.le_of_ble_eq_true rfl) (fun X hl hG hn hX hR => ?_)
  unfold F_X7_isSound at e
  subst hl; subst hG
  show At_ X 0 [(0, .ref 7), (1, .long x1)] [] h
  refine at_lload_n hX rfl rfl dX7_isSound_0 ?_
  refine at_lstore_n hX rfl hn (by decide) dX7_isSound_1 ?_
  exact at_sub [0, 3] rfl ((A_X7_isSound_2 hn hX hR FU_) _ _ e)

def F_X7_findPieces_14 (n : Nat) (x1 : Int64) (h : Hp) : Option Hp := match n with
  | 0 => none
  | n + 1 => if x1 = (0 : Int64) then some h else (F_X7_pieceIn x1 h).bind fun v30 => wL_ h 53 40 (gI_ h 467) v30 fun h33 => rL_ h33 53 40 (gI_ h33 467) fun v43 => bd_ (x1 &&& (v43 ^^^ (-1 : Int64))) fun y49 => bd_ (sI_ h33 467 ((gI_ h33 467) + (1 : Int32))) fun h57 => (F_X7_findPieces_14 n) y49 h57
theorem A_X7_findPieces_14 {X : CX} {h' : Hp} (hn : (xc_ X).maxLocals = 3) (hX : Ok_ X RX7 cX7_findPieces 4) (hR : Rt_ X none none h') : ∀ (n : Nat) (x1 : Int64) (h : Hp), F_X7_findPieces_14 n x1 h = some h' → At_ X 14 [(0, .ref 7), (1, .long x1)] [] h := by
  intro n
  induction n with
  | zero => intro x1 h e; cases e
  | succ n ih =>
    intro x1 h e
    rw [F_X7_findPieces_14] at e
    refine at_lload_n hX rfl rfl dX7_findPieces_14 ?_
    refine at_lconst hX (v := 0) (by decide) dX7_findPieces_15 ?_
    refine at_lcmp_eq hX (tgt := 63) (by decide) dX7_findPieces_16 dX7_findPieces_17 (fun c16 => ?_) (fun c16 => ?_)
    · replace e := ip_ c16 e
      exact at_return hX hR rfl (by cases e; rfl) dX7_findPieces_63
    · replace e := in_ c16 e
      refine at_aload_n hX rfl rfl dX7_findPieces_20 ?_
      refine gf_X7_60 hX dX7_findPieces_21 ?_
      refine at_aload_n hX rfl rfl dX7_findPieces_24 ?_
      refine gf_X7_204 hX dX7_findPieces_25 ?_
      refine at_aload_n hX rfl rfl dX7_findPieces_28 ?_
      refine at_lload_n hX rfl rfl dX7_findPieces_29 ?_
      obtain ⟨v30, e1, e⟩ := ob_some e
      refine at_callV1 hX cv_X7_186 (by decide) (c_X7_pieceIn _ _ _ _ e1) (Nat.le_of_ble_eq_true rfl) dX7_findPieces_30 ?_
      obtain ⟨hi, h33, eh33, e⟩ := wL_some e
      refine at_last hX (o := 53) (by decide) rfl hi dX7_findPieces_33 ?_
      refine at_th eh33 ?_
      refine at_lload_n hX rfl rfl dX7_findPieces_34 ?_
      refine at_aload_n hX rfl rfl dX7_findPieces_35 ?_
      refine gf_X7_60 hX dX7_findPieces_36 ?_
      refine at_aload_n hX rfl rfl dX7_findPieces_39 ?_
      refine gf_X7_204 hX dX7_findPieces_40 ?_
      obtain ⟨hi, v43, ev43, e⟩ := rL_some e
      refine at_lald hX (o := 53) (by decide) rfl hi dX7_findPieces_43 ?_
      refine at_tl ev43 ?_
      refine at_ldc2 hX wk_X7_155 dX7_findPieces_44 ?_
      refine at_lxor hX dX7_findPieces_47 ?_
      refine at_land hX dX7_findPieces_48 ?_
      obtain ⟨y49, ey49, e⟩ := bd_some e
      refine at_tl ey49 ?_
      refine at_lstore_n hX rfl hn (by decide) dX7_findPieces_49 ?_
      refine at_aload_n hX rfl rfl dX7_findPieces_50 ?_
      refine at_dup hX rfl dX7_findPieces_51 ?_
      refine gf_X7_204 hX dX7_findPieces_52 ?_
      refine at_iconst hX (v := 1) (by decide) dX7_findPieces_55 ?_
      refine at_iadd hX dX7_findPieces_56 ?_
      obtain ⟨h57, eh57, e⟩ := bd_some e
      refine pf_X7_204 hX dX7_findPieces_57 ?_
      refine at_th eh57 ?_
      refine at_goto hX (tgt := 14) (by decide) dX7_findPieces_60 ?_
      exact at_sub [0, 1] rfl (ih _ _ e)
def F_X7_findPieces (h : Hp) : Option Hp := (F_X7_links  h).bind fun h1 => bd_ (sI_ h1 467 (0 : Int32)) fun h6 => (F_X7_findPieces_14 FU_) (gJ_ h6 460) h6
theorem c_X7_findPieces (l : Launch) (G : Gl) (h : Hp) {h' : Hp} (e : F_X7_findPieces  h = some h') : Does l G 4 M_X7_findPieces [.ref 7] h none h' := by
  refine Does.of (by decide) rfl (Nat.le_of_ble_eq_true rfl) (fun X hl hG hn hX hR => ?_)
  unfold F_X7_findPieces at e
  subst hl; subst hG
  show At_ X 0 [(0, .ref 7)] [] h
  refine at_aload_n hX rfl rfl dX7_findPieces_0 ?_
  obtain ⟨h1, e1, e⟩ := ob_some e
  refine at_callV0 hX cv_X7_201 (by decide) (c_X7_links _ _  _ e1) (Nat.le_of_ble_eq_true rfl) dX7_findPieces_1 ?_
  refine at_aload_n hX rfl rfl dX7_findPieces_4 ?_
  refine at_iconst hX (v := 0) (by decide) dX7_findPieces_5 ?_
  obtain ⟨h6, eh6, e⟩ := bd_some e
  refine pf_X7_204 hX dX7_findPieces_6 ?_
  refine at_th eh6 ?_
  refine at_aload_n hX rfl rfl dX7_findPieces_9 ?_
  refine gf_X7_140 hX dX7_findPieces_10 ?_
  refine at_lstore_n hX rfl hn (by decide) dX7_findPieces_13 ?_
  exact at_sub [0, 1] rfl ((A_X7_findPieces_14 hn hX hR FU_) _ _ e)

def F_X7_pieces (h : Hp) : Option (Int32 × Hp) := (F_X7_findPieces  h).bind fun h1 => some (gI_ h1 467, h1)
theorem c_X7_pieces (l : Launch) (G : Gl) (h : Hp) {r : Int32} {h' : Hp} (e : F_X7_pieces  h = some (r, h')) : Does l G 5 M_X7_pieces [.ref 7] h (some (.int r)) h' := by
  refine Does.of (by decide) rfl (Nat.le_of_ble_eq_true rfl) (fun X hl hG hn hX hR => ?_)
  unfold F_X7_pieces at e
  subst hl; subst hG
  show At_ X 0 [(0, .ref 7)] [] h
  refine at_aload_n hX rfl rfl dX7_pieces_0 ?_
  obtain ⟨h1, e1, e⟩ := ob_some e
  refine at_callV0 hX cv_X7_207 (by decide) (c_X7_findPieces _ _  _ e1) (Nat.le_of_ble_eq_true rfl) dX7_pieces_1 ?_
  refine at_aload_n hX rfl rfl dX7_pieces_4 ?_
  refine gf_X7_204 hX dX7_pieces_5 ?_
  exact at_ireturn hX hR rfl (by cases e; rfl) (by cases e; rfl) dX7_pieces_8

def F_X7_pieceOfBrick_2 (n : Nat) (x1 : Int32) (x2 : Int32) (h : Hp) : Option Int32 := match n with
  | 0 => none
  | n + 1 => rL_ h 53 40 x2 fun v7 => if (la_ v7 x1) &&& (1 : Int64) = (0 : Int64) then (F_X7_pieceOfBrick_2 n) x1 (x2 + (1 : Int32)) h else some x2
theorem A_X7_pieceOfBrick_2 {X : CX} {h : Hp} {r : Int32} (hn : (xc_ X).maxLocals = 3) (hX : Ok_ X RX7 cX7_pieceOfBrick 1) (hR : Rt_ X (some .int) (some (.int r)) h) : ∀ (n : Nat) (x1 : Int32) (x2 : Int32), F_X7_pieceOfBrick_2 n x1 x2 h = some r → At_ X 2 [(0, .ref 7), (1, .int x1), (2, .int x2)] [] h := by
  intro n
  induction n with
  | zero => intro x1 x2 e; cases e
  | succ n ih =>
    intro x1 x2 e
    rw [F_X7_pieceOfBrick_2] at e
    refine at_aload_n hX rfl rfl dX7_pieceOfBrick_2 ?_
    refine gf_X7_60 hX dX7_pieceOfBrick_3 ?_
    refine at_iload_n hX rfl rfl dX7_pieceOfBrick_6 ?_
    obtain ⟨hi, v7, ev7, e⟩ := rL_some e
    refine at_lald hX (o := 53) (by decide) rfl hi dX7_pieceOfBrick_7 ?_
    refine at_tl ev7 ?_
    refine at_iload_n hX rfl rfl dX7_pieceOfBrick_8 ?_
    refine at_lshr hX dX7_pieceOfBrick_9 ?_
    refine at_lconst hX (v := 1) (by decide) dX7_pieceOfBrick_10 ?_
    refine at_land hX dX7_pieceOfBrick_11 ?_
    refine at_lconst hX (v := 0) (by decide) dX7_pieceOfBrick_12 ?_
    refine at_lcmp_ne hX (tgt := 23) (by decide) dX7_pieceOfBrick_13 dX7_pieceOfBrick_14 (fun c13 => ?_) (fun c13 => ?_)
    · replace e := in_ c13 e
      refine at_iload_n hX rfl rfl dX7_pieceOfBrick_23 ?_
      exact at_ireturn hX hR rfl (by cases e; rfl) rfl dX7_pieceOfBrick_24
    · replace e := ip_ c13 e
      refine at_iinc hX hn (by decide) rfl (v := 1) (by decide) dX7_pieceOfBrick_17 ?_
      refine at_goto hX (tgt := 2) (by decide) dX7_pieceOfBrick_20 ?_
      exact at_sub [0, 1, 2] rfl (ih _ _ e)
def F_X7_pieceOfBrick (x1 : Int32) (h : Hp) : Option Int32 := (F_X7_pieceOfBrick_2 FU_) x1 (0 : Int32) h
theorem c_X7_pieceOfBrick (l : Launch) (G : Gl) (x1 : Int32) (h : Hp) {r : Int32} (e : F_X7_pieceOfBrick x1 h = some r) : Does l G 1 M_X7_pieceOfBrick [.ref 7, .int x1] h (some (.int r)) h := by
  refine Does.of (by decide) rfl (Nat.le_of_ble_eq_true rfl) (fun X hl hG hn hX hR => ?_)
  unfold F_X7_pieceOfBrick at e
  subst hl; subst hG
  show At_ X 0 [(0, .ref 7), (1, .int x1)] [] h
  refine at_iconst hX (v := 0) (by decide) dX7_pieceOfBrick_0 ?_
  refine at_istore_n hX rfl hn (by decide) dX7_pieceOfBrick_1 ?_
  exact at_sub [0, 1, 2] rfl ((A_X7_pieceOfBrick_2 hn hX hR FU_) _ _ e)

def F_X7_piece (x1 : Int32) (h : Hp) : Option (Int32 × Hp) := (F_X7_isBrick x1 h).bind fun v2 => if v2 = (0 : Int32) then (F_X7_refuse (-1 : Int32) h).bind fun ((v10, h10) : Int32 × Hp) => some (v10, h10) else (F_X7_isThere x1 h).bind fun v16 => if v16 = (0 : Int32) then (F_X7_refuse (-3 : Int32) h).bind fun ((v25, h25) : Int32 × Hp) => some (v25, h25) else (F_X7_findPieces  h).bind fun h30 => (F_X7_pieceOfBrick x1 h30).bind fun v35 => some (v35, h30)
theorem c_X7_piece (l : Launch) (G : Gl) (x1 : Int32) (h : Hp) {r : Int32} {h' : Hp} (e : F_X7_piece x1 h = some (r, h')) : Does l G 5 M_X7_piece [.ref 7, .int x1] h (some (.int r)) h' := by
  refine Does.of (by decide) rfl (Nat.le_of_ble_eq_true rfl) (fun X hl hG hn hX hR => ?_)
  unfold F_X7_piece at e
  subst hl; subst hG
  show At_ X 0 [(0, .ref 7), (1, .int x1)] [] h
  refine at_aload_n hX rfl rfl dX7_piece_0 ?_
  refine at_iload_n hX rfl rfl dX7_piece_1 ?_
  obtain ⟨v2, e1, e⟩ := ob_some e
  refine at_callV1 hX cv_X7_148 (by decide) (c_X7_isBrick _ _ _ _ e1) (Nat.le_of_ble_eq_true rfl) dX7_piece_2 ?_
  refine at_if_ne hX (tgt := 14) (by decide) dX7_piece_5 (fun c5 => ?_) (fun c5 => ?_)
  · replace e := in_ c5 e
    refine at_aload_n hX rfl rfl dX7_piece_14 ?_
    refine at_iload_n hX rfl rfl dX7_piece_15 ?_
    obtain ⟨v16, e1, e⟩ := ob_some e
    refine at_callV1 hX cv_X7_152 (by decide) (c_X7_isThere _ _ _ _ e1) (Nat.le_of_ble_eq_true rfl) dX7_piece_16 ?_
    refine at_if_ne hX (tgt := 29) (by decide) dX7_piece_19 (fun c19 => ?_) (fun c19 => ?_)
    · replace e := in_ c19 e
      refine at_aload_n hX rfl rfl dX7_piece_29 ?_
      obtain ⟨h30, e1, e⟩ := ob_some e
      refine at_callV0 hX cv_X7_207 (by decide) (c_X7_findPieces _ _  _ e1) (Nat.le_of_ble_eq_true rfl) dX7_piece_30 ?_
      refine at_aload_n hX rfl rfl dX7_piece_33 ?_
      refine at_iload_n hX rfl rfl dX7_piece_34 ?_
      obtain ⟨v35, e1, e⟩ := ob_some e
      refine at_callV1 hX cv_X7_210 (by decide) (c_X7_pieceOfBrick _ _ _ _ e1) (Nat.le_of_ble_eq_true rfl) dX7_piece_35 ?_
      exact at_ireturn hX hR rfl (by cases e; rfl) (by cases e; rfl) dX7_piece_38
    · replace e := ip_ c19 e
      refine at_aload_n hX rfl rfl dX7_piece_22 ?_
      refine at_bipush hX (v := -3) (by decide) dX7_piece_23 ?_
      obtain ⟨⟨v25, h25⟩, e1, e⟩ := ob_some e
      refine at_callV1 hX cv_X7_106 (by decide) (c_X7_refuse _ _ _ _ e1) (Nat.le_of_ble_eq_true rfl) dX7_piece_25 ?_
      exact at_ireturn hX hR rfl (by cases e; rfl) (by cases e; rfl) dX7_piece_28
  · replace e := ip_ c5 e
    refine at_aload_n hX rfl rfl dX7_piece_8 ?_
    refine at_iconst hX (v := -1) (by decide) dX7_piece_9 ?_
    obtain ⟨⟨v10, h10⟩, e1, e⟩ := ob_some e
    refine at_callV1 hX cv_X7_106 (by decide) (c_X7_refuse _ _ _ _ e1) (Nat.le_of_ble_eq_true rfl) dX7_piece_10 ?_
    exact at_ireturn hX hR rfl (by cases e; rfl) (by cases e; rfl) dX7_piece_13

def F_X7_pieceOf (x1 : Int32) (x2 : Int32) (h : Hp) : Option (Int32 × Hp) := (F_X7_findPieces  h).bind fun h1 => (F_X7_isIn x1 (gI_ h1 467)).bind fun v9 => if v9 = (0 : Int32) then (F_X7_refuse (-1 : Int32) h1).bind fun ((v17, h17) : Int32 × Hp) => some (v17, h17) else if x2 = nI 0 then rL_ h1 53 40 x1 fun v58 => (F_X7_weight v58 h1).bind fun v59 => some (v59, h1) else if x2 = nI 1 then rL_ h1 53 40 x1 fun v69 => (F_X7_floats v69 h1).bind fun v70 => if v70 = (0 : Int32) then some ((0 : Int32), h1) else some ((1 : Int32), h1) else if x2 = nI 2 then rL_ h1 53 40 x1 fun v88 => (F_X7_stands v88 h1).bind fun ((v89, h89) : Int32 × Hp) => if v89 = (0 : Int32) then some ((0 : Int32), h89) else some ((1 : Int32), h89) else if x2 = nI 3 then rL_ h1 53 40 x1 fun v106 => (F_X7_bits v106).bind fun v107 => some (v107, h1) else (F_X7_refuse (-2 : Int32) h1).bind fun ((v114, h114) : Int32 × Hp) => some (v114, h114)
theorem c_X7_pieceOf (l : Launch) (G : Gl) (x1 : Int32) (x2 : Int32) (h : Hp) {r : Int32} {h' : Hp} (e : F_X7_pieceOf x1 x2 h = some (r, h')) : Does l G 5 M_X7_pieceOf [.ref 7, .int x1, .int x2] h (some (.int r)) h' := by
  refine Does.of (by decide) rfl (Nat.le_of_ble_eq_true rfl) (fun X hl hG hn hX hR => ?_)
  unfold F_X7_pieceOf at e
  subst hl; subst hG
  show At_ X 0 [(0, .ref 7), (1, .int x1), (2, .int x2)] [] h
  refine at_aload_n hX rfl rfl dX7_pieceOf_0 ?_
  obtain ⟨h1, e1, e⟩ := ob_some e
  refine at_callV0 hX cv_X7_207 (by decide) (c_X7_findPieces _ _  _ e1) (Nat.le_of_ble_eq_true rfl) dX7_pieceOf_1 ?_
  refine at_iload_n hX rfl rfl dX7_pieceOf_4 ?_
  refine at_aload_n hX rfl rfl dX7_pieceOf_5 ?_
  refine gf_X7_204 hX dX7_pieceOf_6 ?_
  obtain ⟨v9, e1, e⟩ := ob_some e
  refine at_callS2 hX cv_X7_98 (by decide) (c_X7_isIn _ _ _ _ _ e1) (Nat.le_of_ble_eq_true rfl) dX7_pieceOf_9 ?_
  refine at_if_ne hX (tgt := 21) (by decide) dX7_pieceOf_12 (fun c12 => ?_) (fun c12 => ?_)
  · replace e := in_ c12 e
    refine at_iload_n hX rfl rfl dX7_pieceOf_21 ?_
    by_cases w0 : x2 = nI 0
    · replace e := ip_ w0 e
      refine at_tabIn hX (tgt := 52) 0 30 w0 (by decide) (by decide) rfl (by decide) dX7_pieceOf_22 ?_
      refine at_aload_n hX rfl rfl dX7_pieceOf_52 ?_
      refine at_aload_n hX rfl rfl dX7_pieceOf_53 ?_
      refine gf_X7_60 hX dX7_pieceOf_54 ?_
      refine at_iload_n hX rfl rfl dX7_pieceOf_57 ?_
      obtain ⟨hi, v58, ev58, e⟩ := rL_some e
      refine at_lald hX (o := 53) (by decide) rfl hi dX7_pieceOf_58 ?_
      refine at_tl ev58 ?_
      obtain ⟨v59, e1, e⟩ := ob_some e
      refine at_callV1 hX cv_X7_180 (by decide) (c_X7_weight _ _ _ _ e1) (Nat.le_of_ble_eq_true rfl) dX7_pieceOf_59 ?_
      exact at_ireturn hX hR rfl (by cases e; rfl) (by cases e; rfl) dX7_pieceOf_62
    · replace e := in_ w0 e
      by_cases w1 : x2 = nI 1
      · replace e := ip_ w1 e
        refine at_tabIn hX (tgt := 63) 1 41 w1 (by decide) (by decide) rfl (by decide) dX7_pieceOf_22 ?_
        refine at_aload_n hX rfl rfl dX7_pieceOf_63 ?_
        refine at_aload_n hX rfl rfl dX7_pieceOf_64 ?_
        refine gf_X7_60 hX dX7_pieceOf_65 ?_
        refine at_iload_n hX rfl rfl dX7_pieceOf_68 ?_
        obtain ⟨hi, v69, ev69, e⟩ := rL_some e
        refine at_lald hX (o := 53) (by decide) rfl hi dX7_pieceOf_69 ?_
        refine at_tl ev69 ?_
        obtain ⟨v70, e1, e⟩ := ob_some e
        refine at_callV1 hX cv_X7_190 (by decide) (c_X7_floats _ _ _ _ e1) (Nat.le_of_ble_eq_true rfl) dX7_pieceOf_70 ?_
        refine at_if_eq hX (tgt := 80) (by decide) dX7_pieceOf_73 (fun c73 => ?_) (fun c73 => ?_)
        · replace e := ip_ c73 e
          refine at_iconst hX (v := 0) (by decide) dX7_pieceOf_80 ?_
          exact at_ireturn hX hR rfl (by cases e; rfl) (by cases e; rfl) dX7_pieceOf_81
        · replace e := in_ c73 e
          refine at_iconst hX (v := 1) (by decide) dX7_pieceOf_76 ?_
          refine at_goto hX (tgt := 81) (by decide) dX7_pieceOf_77 ?_
          exact at_ireturn hX hR rfl (by cases e; rfl) (by cases e; rfl) dX7_pieceOf_81
      · replace e := in_ w1 e
        by_cases w2 : x2 = nI 2
        · replace e := ip_ w2 e
          refine at_tabIn hX (tgt := 82) 2 60 w2 (by decide) (by decide) rfl (by decide) dX7_pieceOf_22 ?_
          refine at_aload_n hX rfl rfl dX7_pieceOf_82 ?_
          refine at_aload_n hX rfl rfl dX7_pieceOf_83 ?_
          refine gf_X7_60 hX dX7_pieceOf_84 ?_
          refine at_iload_n hX rfl rfl dX7_pieceOf_87 ?_
          obtain ⟨hi, v88, ev88, e⟩ := rL_some e
          refine at_lald hX (o := 53) (by decide) rfl hi dX7_pieceOf_88 ?_
          refine at_tl ev88 ?_
          obtain ⟨⟨v89, h89⟩, e1, e⟩ := ob_some e
          refine at_callV1 hX cv_X7_194 (by decide) (c_X7_stands _ _ _ _ e1) (Nat.le_of_ble_eq_true rfl) dX7_pieceOf_89 ?_
          refine at_if_eq hX (tgt := 99) (by decide) dX7_pieceOf_92 (fun c92 => ?_) (fun c92 => ?_)
          · replace e := ip_ c92 e
            refine at_iconst hX (v := 0) (by decide) dX7_pieceOf_99 ?_
            exact at_ireturn hX hR rfl (by cases e; rfl) (by cases e; rfl) dX7_pieceOf_100
          · replace e := in_ c92 e
            refine at_iconst hX (v := 1) (by decide) dX7_pieceOf_95 ?_
            refine at_goto hX (tgt := 100) (by decide) dX7_pieceOf_96 ?_
            exact at_ireturn hX hR rfl (by cases e; rfl) (by cases e; rfl) dX7_pieceOf_100
        · replace e := in_ w2 e
          by_cases w3 : x2 = nI 3
          · replace e := ip_ w3 e
            refine at_tabIn hX (tgt := 101) 3 79 w3 (by decide) (by decide) rfl (by decide) dX7_pieceOf_22 ?_
            refine at_aload_n hX rfl rfl dX7_pieceOf_101 ?_
            refine gf_X7_60 hX dX7_pieceOf_102 ?_
            refine at_iload_n hX rfl rfl dX7_pieceOf_105 ?_
            obtain ⟨hi, v106, ev106, e⟩ := rL_some e
            refine at_lald hX (o := 53) (by decide) rfl hi dX7_pieceOf_106 ?_
            refine at_tl ev106 ?_
            obtain ⟨v107, e1, e⟩ := ob_some e
            refine at_callS1 hX cv_X7_213 (by decide) (c_X7_bits _ _ _ _ e1) (Nat.le_of_ble_eq_true rfl) dX7_pieceOf_107 ?_
            exact at_ireturn hX hR rfl (by cases e; rfl) (by cases e; rfl) dX7_pieceOf_110
          · replace e := in_ w3 e
            refine at_tabOut hX (tgt := 111) (tab_out (hi := 3) (by decide) (fun j hj => by rcases (show j = 0 ∨ j = 1 ∨ j = 2 ∨ j = 3 by omega) with rfl | rfl | rfl | rfl <;> assumption)) (by decide) dX7_pieceOf_22 ?_
            refine at_aload_n hX rfl rfl dX7_pieceOf_111 ?_
            refine at_bipush hX (v := -2) (by decide) dX7_pieceOf_112 ?_
            obtain ⟨⟨v114, h114⟩, e1, e⟩ := ob_some e
            refine at_callV1 hX cv_X7_106 (by decide) (c_X7_refuse _ _ _ _ e1) (Nat.le_of_ble_eq_true rfl) dX7_pieceOf_114 ?_
            exact at_ireturn hX hR rfl (by cases e; rfl) (by cases e; rfl) dX7_pieceOf_117
  · replace e := ip_ c12 e
    refine at_aload_n hX rfl rfl dX7_pieceOf_15 ?_
    refine at_iconst hX (v := -1) (by decide) dX7_pieceOf_16 ?_
    obtain ⟨⟨v17, h17⟩, e1, e⟩ := ob_some e
    refine at_callV1 hX cv_X7_106 (by decide) (c_X7_refuse _ _ _ _ e1) (Nat.le_of_ble_eq_true rfl) dX7_pieceOf_17 ?_
    exact at_ireturn hX hR rfl (by cases e; rfl) (by cases e; rfl) dX7_pieceOf_20

def F_X7_key (x1 : Int32) (h : Hp) : Option (Int32 × Hp) := (F_X7_isBrick x1 h).bind fun v2 => if v2 = (0 : Int32) then (F_X7_refuse (-1 : Int32) h).bind fun ((v10, h10) : Int32 × Hp) => some (v10, h10) else (F_X7_isThere x1 h).bind fun v16 => if v16 = (0 : Int32) then (F_X7_refuse (-3 : Int32) h).bind fun ((v25, h25) : Int32 × Hp) => some (v25, h25) else (F_X7_findPieces  h).bind fun h30 => (F_X7_pieceOfBrick x1 h30).bind fun v40 => rL_ h30 53 40 v40 fun v43 => (F_X7_weakAt v43 x1 h30).bind fun v45 => if (0 : Int32) ≤ v45 then some ((1 : Int32), h30) else some ((0 : Int32), h30)
theorem c_X7_key (l : Launch) (G : Gl) (x1 : Int32) (h : Hp) {r : Int32} {h' : Hp} (e : F_X7_key x1 h = some (r, h')) : Does l G 5 M_X7_key [.ref 7, .int x1] h (some (.int r)) h' := by
  refine Does.of (by decide) rfl (Nat.le_of_ble_eq_true rfl) (fun X hl hG hn hX hR => ?_)
  unfold F_X7_key at e
  subst hl; subst hG
  show At_ X 0 [(0, .ref 7), (1, .int x1)] [] h
  refine at_aload_n hX rfl rfl dX7_key_0 ?_
  refine at_iload_n hX rfl rfl dX7_key_1 ?_
  obtain ⟨v2, e1, e⟩ := ob_some e
  refine at_callV1 hX cv_X7_148 (by decide) (c_X7_isBrick _ _ _ _ e1) (Nat.le_of_ble_eq_true rfl) dX7_key_2 ?_
  refine at_if_ne hX (tgt := 14) (by decide) dX7_key_5 (fun c5 => ?_) (fun c5 => ?_)
  · replace e := in_ c5 e
    refine at_aload_n hX rfl rfl dX7_key_14 ?_
    refine at_iload_n hX rfl rfl dX7_key_15 ?_
    obtain ⟨v16, e1, e⟩ := ob_some e
    refine at_callV1 hX cv_X7_152 (by decide) (c_X7_isThere _ _ _ _ e1) (Nat.le_of_ble_eq_true rfl) dX7_key_16 ?_
    refine at_if_ne hX (tgt := 29) (by decide) dX7_key_19 (fun c19 => ?_) (fun c19 => ?_)
    · replace e := in_ c19 e
      refine at_aload_n hX rfl rfl dX7_key_29 ?_
      obtain ⟨h30, e1, e⟩ := ob_some e
      refine at_callV0 hX cv_X7_207 (by decide) (c_X7_findPieces _ _  _ e1) (Nat.le_of_ble_eq_true rfl) dX7_key_30 ?_
      refine at_aload_n hX rfl rfl dX7_key_33 ?_
      refine at_aload_n hX rfl rfl dX7_key_34 ?_
      refine gf_X7_60 hX dX7_key_35 ?_
      refine at_aload_n hX rfl rfl dX7_key_38 ?_
      refine at_iload_n hX rfl rfl dX7_key_39 ?_
      obtain ⟨v40, e1, e⟩ := ob_some e
      refine at_callV1 hX cv_X7_210 (by decide) (c_X7_pieceOfBrick _ _ _ _ e1) (Nat.le_of_ble_eq_true rfl) dX7_key_40 ?_
      obtain ⟨hi, v43, ev43, e⟩ := rL_some e
      refine at_lald hX (o := 53) (by decide) rfl hi dX7_key_43 ?_
      refine at_tl ev43 ?_
      refine at_iload_n hX rfl rfl dX7_key_44 ?_
      obtain ⟨v45, e1, e⟩ := ob_some e
      refine at_callV2 hX cv_X7_197 (by decide) (c_X7_weakAt _ _ _ _ _ e1) (Nat.le_of_ble_eq_true rfl) dX7_key_45 ?_
      refine at_if_ge hX (tgt := 55) (by decide) dX7_key_48 (fun c48 => ?_) (fun c48 => ?_)
      · replace e := ip_ c48 e
        refine at_iconst hX (v := 1) (by decide) dX7_key_55 ?_
        exact at_ireturn hX hR rfl (by cases e; rfl) (by cases e; rfl) dX7_key_56
      · replace e := in_ c48 e
        refine at_iconst hX (v := 0) (by decide) dX7_key_51 ?_
        refine at_goto hX (tgt := 56) (by decide) dX7_key_52 ?_
        exact at_ireturn hX hR rfl (by cases e; rfl) (by cases e; rfl) dX7_key_56
    · replace e := ip_ c19 e
      refine at_aload_n hX rfl rfl dX7_key_22 ?_
      refine at_bipush hX (v := -3) (by decide) dX7_key_23 ?_
      obtain ⟨⟨v25, h25⟩, e1, e⟩ := ob_some e
      refine at_callV1 hX cv_X7_106 (by decide) (c_X7_refuse _ _ _ _ e1) (Nat.le_of_ble_eq_true rfl) dX7_key_25 ?_
      exact at_ireturn hX hR rfl (by cases e; rfl) (by cases e; rfl) dX7_key_28
  · replace e := ip_ c5 e
    refine at_aload_n hX rfl rfl dX7_key_8 ?_
    refine at_iconst hX (v := -1) (by decide) dX7_key_9 ?_
    obtain ⟨⟨v10, h10⟩, e1, e⟩ := ob_some e
    refine at_callV1 hX cv_X7_106 (by decide) (c_X7_refuse _ _ _ _ e1) (Nat.le_of_ble_eq_true rfl) dX7_key_10 ?_
    exact at_ireturn hX hR rfl (by cases e; rfl) (by cases e; rfl) dX7_key_13

def F_X7_weak (x1 : Int32) (h : Hp) : Option (Int32 × Hp) := (F_X7_isBrick x1 h).bind fun v2 => if v2 = (0 : Int32) then (F_X7_refuse (-1 : Int32) h).bind fun ((v10, h10) : Int32 × Hp) => some (v10, h10) else (F_X7_isThere x1 h).bind fun v16 => if v16 = (0 : Int32) then (F_X7_refuse (-3 : Int32) h).bind fun ((v25, h25) : Int32 × Hp) => some (v25, h25) else (F_X7_findPieces  h).bind fun h30 => (F_X7_pieceOfBrick x1 h30).bind fun v41 => rL_ h30 53 40 v41 fun v44 => (F_X7_weakAt v44 x1 h30).bind fun v46 => some (mx_ (0 : Int32) v46, h30)
theorem c_X7_weak (l : Launch) (G : Gl) (x1 : Int32) (h : Hp) {r : Int32} {h' : Hp} (e : F_X7_weak x1 h = some (r, h')) : Does l G 5 M_X7_weak [.ref 7, .int x1] h (some (.int r)) h' := by
  refine Does.of (by decide) rfl (Nat.le_of_ble_eq_true rfl) (fun X hl hG hn hX hR => ?_)
  unfold F_X7_weak at e
  subst hl; subst hG
  show At_ X 0 [(0, .ref 7), (1, .int x1)] [] h
  refine at_aload_n hX rfl rfl dX7_weak_0 ?_
  refine at_iload_n hX rfl rfl dX7_weak_1 ?_
  obtain ⟨v2, e1, e⟩ := ob_some e
  refine at_callV1 hX cv_X7_148 (by decide) (c_X7_isBrick _ _ _ _ e1) (Nat.le_of_ble_eq_true rfl) dX7_weak_2 ?_
  refine at_if_ne hX (tgt := 14) (by decide) dX7_weak_5 (fun c5 => ?_) (fun c5 => ?_)
  · replace e := in_ c5 e
    refine at_aload_n hX rfl rfl dX7_weak_14 ?_
    refine at_iload_n hX rfl rfl dX7_weak_15 ?_
    obtain ⟨v16, e1, e⟩ := ob_some e
    refine at_callV1 hX cv_X7_152 (by decide) (c_X7_isThere _ _ _ _ e1) (Nat.le_of_ble_eq_true rfl) dX7_weak_16 ?_
    refine at_if_ne hX (tgt := 29) (by decide) dX7_weak_19 (fun c19 => ?_) (fun c19 => ?_)
    · replace e := in_ c19 e
      refine at_aload_n hX rfl rfl dX7_weak_29 ?_
      obtain ⟨h30, e1, e⟩ := ob_some e
      refine at_callV0 hX cv_X7_207 (by decide) (c_X7_findPieces _ _  _ e1) (Nat.le_of_ble_eq_true rfl) dX7_weak_30 ?_
      refine at_iconst hX (v := 0) (by decide) dX7_weak_33 ?_
      refine at_aload_n hX rfl rfl dX7_weak_34 ?_
      refine at_aload_n hX rfl rfl dX7_weak_35 ?_
      refine gf_X7_60 hX dX7_weak_36 ?_
      refine at_aload_n hX rfl rfl dX7_weak_39 ?_
      refine at_iload_n hX rfl rfl dX7_weak_40 ?_
      obtain ⟨v41, e1, e⟩ := ob_some e
      refine at_callV1 hX cv_X7_210 (by decide) (c_X7_pieceOfBrick _ _ _ _ e1) (Nat.le_of_ble_eq_true rfl) dX7_weak_41 ?_
      obtain ⟨hi, v44, ev44, e⟩ := rL_some e
      refine at_lald hX (o := 53) (by decide) rfl hi dX7_weak_44 ?_
      refine at_tl ev44 ?_
      refine at_iload_n hX rfl rfl dX7_weak_45 ?_
      obtain ⟨v46, e1, e⟩ := ob_some e
      refine at_callV2 hX cv_X7_197 (by decide) (c_X7_weakAt _ _ _ _ _ e1) (Nat.le_of_ble_eq_true rfl) dX7_weak_46 ?_
      refine at_mmax hX cv_X7_165 (by decide) (Nat.le_of_ble_eq_true rfl) dX7_weak_49 ?_
      exact at_ireturn hX hR rfl (by cases e; rfl) (by cases e; rfl) dX7_weak_52
    · replace e := ip_ c19 e
      refine at_aload_n hX rfl rfl dX7_weak_22 ?_
      refine at_bipush hX (v := -3) (by decide) dX7_weak_23 ?_
      obtain ⟨⟨v25, h25⟩, e1, e⟩ := ob_some e
      refine at_callV1 hX cv_X7_106 (by decide) (c_X7_refuse _ _ _ _ e1) (Nat.le_of_ble_eq_true rfl) dX7_weak_25 ?_
      exact at_ireturn hX hR rfl (by cases e; rfl) (by cases e; rfl) dX7_weak_28
  · replace e := ip_ c5 e
    refine at_aload_n hX rfl rfl dX7_weak_8 ?_
    refine at_iconst hX (v := -1) (by decide) dX7_weak_9 ?_
    obtain ⟨⟨v10, h10⟩, e1, e⟩ := ob_some e
    refine at_callV1 hX cv_X7_106 (by decide) (c_X7_refuse _ _ _ _ e1) (Nat.le_of_ble_eq_true rfl) dX7_weak_10 ?_
    exact at_ireturn hX hR rfl (by cases e; rfl) (by cases e; rfl) dX7_weak_13

def F_X7_sound (h : Hp) : Option (Int32 × Hp) := (F_X7_links  h).bind fun h1 => (F_X7_isSound (gJ_ h1 460) h1).bind fun ((v9, h9) : Int32 × Hp) => if v9 = (0 : Int32) then some ((0 : Int32), h9) else some ((1 : Int32), h9)
theorem c_X7_sound (l : Launch) (G : Gl) (h : Hp) {r : Int32} {h' : Hp} (e : F_X7_sound  h = some (r, h')) : Does l G 5 M_X7_sound [.ref 7] h (some (.int r)) h' := by
  refine Does.of (by decide) rfl (Nat.le_of_ble_eq_true rfl) (fun X hl hG hn hX hR => ?_)
  unfold F_X7_sound at e
  subst hl; subst hG
  show At_ X 0 [(0, .ref 7)] [] h
  refine at_aload_n hX rfl rfl dX7_sound_0 ?_
  obtain ⟨h1, e1, e⟩ := ob_some e
  refine at_callV0 hX cv_X7_201 (by decide) (c_X7_links _ _  _ e1) (Nat.le_of_ble_eq_true rfl) dX7_sound_1 ?_
  refine at_aload_n hX rfl rfl dX7_sound_4 ?_
  refine at_aload_n hX rfl rfl dX7_sound_5 ?_
  refine gf_X7_140 hX dX7_sound_6 ?_
  obtain ⟨⟨v9, h9⟩, e1, e⟩ := ob_some e
  refine at_callV1 hX cv_X7_216 (by decide) (c_X7_isSound _ _ _ _ e1) (Nat.le_of_ble_eq_true rfl) dX7_sound_9 ?_
  refine at_if_eq hX (tgt := 19) (by decide) dX7_sound_12 (fun c12 => ?_) (fun c12 => ?_)
  · replace e := ip_ c12 e
    refine at_iconst hX (v := 0) (by decide) dX7_sound_19 ?_
    exact at_ireturn hX hR rfl (by cases e; rfl) (by cases e; rfl) dX7_sound_20
  · replace e := in_ c12 e
    refine at_iconst hX (v := 1) (by decide) dX7_sound_15 ?_
    refine at_goto hX (tgt := 20) (by decide) dX7_sound_16 ?_
    exact at_ireturn hX hR rfl (by cases e; rfl) (by cases e; rfl) dX7_sound_20

def F_X7_grip (x1 : Int32) (h : Hp) : Option (Int32 × Hp) := (F_X7_wrong x1 (1 : Int32) (40 : Int32)).bind fun v4 => if v4 = (0 : Int32) then bd_ (sI_ h 459 x1) fun h25 => some (gI_ h 459, h25) else (F_X7_refuse v4 h).bind fun ((v14, h14) : Int32 × Hp) => some (v14, h14)
theorem c_X7_grip (l : Launch) (G : Gl) (x1 : Int32) (h : Hp) {r : Int32} {h' : Hp} (e : F_X7_grip x1 h = some (r, h')) : Does l G 2 M_X7_grip [.ref 7, .int x1] h (some (.int r)) h' := by
  refine Does.of (by decide) rfl (Nat.le_of_ble_eq_true rfl) (fun X hl hG hn hX hR => ?_)
  unfold F_X7_grip at e
  subst hl; subst hG
  show At_ X 0 [(0, .ref 7), (1, .int x1)] [] h
  refine at_iload_n hX rfl rfl dX7_grip_0 ?_
  refine at_iconst hX (v := 1) (by decide) dX7_grip_1 ?_
  refine at_bipush hX (v := 40) (by decide) dX7_grip_2 ?_
  obtain ⟨v4, e1, e⟩ := ob_some e
  refine at_callS3 hX cv_X7_219 (by decide) (c_X7_wrong _ _ _ _ _ _ e1) (Nat.le_of_ble_eq_true rfl) dX7_grip_4 ?_
  refine at_istore_n hX rfl hn (by decide) dX7_grip_7 ?_
  refine at_iload_n hX rfl rfl dX7_grip_8 ?_
  refine at_if_eq hX (tgt := 18) (by decide) dX7_grip_9 (fun c9 => ?_) (fun c9 => ?_)
  · replace e := ip_ c9 e
    refine at_aload_n hX rfl rfl dX7_grip_18 ?_
    refine gf_X7_40 hX dX7_grip_19 ?_
    refine at_istore_n hX rfl hn (by decide) dX7_grip_22 ?_
    refine at_aload_n hX rfl rfl dX7_grip_23 ?_
    refine at_iload_n hX rfl rfl dX7_grip_24 ?_
    obtain ⟨h25, eh25, e⟩ := bd_some e
    refine pf_X7_40 hX dX7_grip_25 ?_
    refine at_th eh25 ?_
    refine at_iload_n hX rfl rfl dX7_grip_28 ?_
    exact at_ireturn hX hR rfl (by cases e; rfl) (by cases e; rfl) dX7_grip_29
  · replace e := in_ c9 e
    refine at_aload_n hX rfl rfl dX7_grip_12 ?_
    refine at_iload_n hX rfl rfl dX7_grip_13 ?_
    obtain ⟨⟨v14, h14⟩, e1, e⟩ := ob_some e
    refine at_callV1 hX cv_X7_106 (by decide) (c_X7_refuse _ _ _ _ e1) (Nat.le_of_ble_eq_true rfl) dX7_grip_14 ?_
    exact at_ireturn hX hR rfl (by cases e; rfl) (by cases e; rfl) dX7_grip_17

def F_X7_fit_173 (k19 : Int32 → Int32 → Int32 → Hp → Option (Int32 × Hp)) (x1 : Int32) (x3 : Int32) (s0 : Int32) (s1 : Int32) (h : Hp) : Option (Int32 × Hp) := k19 x1 (s0 + s1) (x3 + (1 : Int32)) h
theorem A_X7_fit_173 {X : CX} {h' : Hp} {r : Int32} (hn : (xc_ X).maxLocals = 7) (hX : Ok_ X RX7 cX7_fit 5) (hR : Rt_ X (some .int) (some (.int r)) h') (k19 : Int32 → Int32 → Int32 → Hp → Option (Int32 × Hp)) (hk19 : ∀ (x1 : Int32) (x2 : Int32) (x3 : Int32) (h : Hp), k19 x1 x2 x3 h = some (r, h') → At_ X 19 [(0, .ref 7), (1, .int x1), (2, .int x2), (3, .int x3)] [] h) (x1 : Int32) (x3 : Int32) (s0 : Int32) (s1 : Int32) (h : Hp) (e : F_X7_fit_173 k19 x1 x3 s0 s1 h = some (r, h')) : At_ X 173 [(0, .ref 7), (1, .int x1), (3, .int x3)] [.int s1, .int s0] h := by
  unfold F_X7_fit_173 at e
  refine at_iadd hX dX7_fit_173 ?_
  refine at_istore_n hX rfl hn (by decide) dX7_fit_174 ?_
  refine at_iinc hX hn (by decide) rfl (v := 1) (by decide) dX7_fit_175 ?_
  refine at_goto hX (tgt := 19) (by decide) dX7_fit_178 ?_
  exact at_sub [0, 1, 2, 3] rfl (hk19 _ _ _ _ e)
def F_X7_fit_160 (k19 : Int32 → Int32 → Int32 → Hp → Option (Int32 × Hp)) (x1 : Int32) (x2 : Int32) (x3 : Int32) (s0 : Int32) (h : Hp) : Option (Int32 × Hp) := if s0 = (0 : Int32) then (F_X7_fit_173 k19) x1 x3 x2 (0 : Int32) h else (F_X7_fit_173 k19) x1 x3 x2 (1 : Int32) h
theorem A_X7_fit_160 {X : CX} {h' : Hp} {r : Int32} (hn : (xc_ X).maxLocals = 7) (hX : Ok_ X RX7 cX7_fit 5) (hR : Rt_ X (some .int) (some (.int r)) h') (k19 : Int32 → Int32 → Int32 → Hp → Option (Int32 × Hp)) (hk19 : ∀ (x1 : Int32) (x2 : Int32) (x3 : Int32) (h : Hp), k19 x1 x2 x3 h = some (r, h') → At_ X 19 [(0, .ref 7), (1, .int x1), (2, .int x2), (3, .int x3)] [] h) (x1 : Int32) (x2 : Int32) (x3 : Int32) (s0 : Int32) (h : Hp) (e : F_X7_fit_160 k19 x1 x2 x3 s0 h = some (r, h')) : At_ X 160 [(0, .ref 7), (1, .int x1), (2, .int x2), (3, .int x3)] [.int s0] h := by
  unfold F_X7_fit_160 at e
  refine at_istore hX hn (by decide) dX7_fit_160 ?_
  refine at_iload_n hX rfl rfl dX7_fit_162 ?_
  refine at_iload hX rfl dX7_fit_163 ?_
  refine at_if_eq hX (tgt := 172) (by decide) dX7_fit_165 (fun c165 => ?_) (fun c165 => ?_)
  · replace e := ip_ c165 e
    refine at_iconst hX (v := 0) (by decide) dX7_fit_172 ?_
    exact at_sub [0, 1, 3] rfl ((A_X7_fit_173 hn hX hR k19 hk19) _ _ _ _ _ e)
  · replace e := in_ c165 e
    refine at_iconst hX (v := 1) (by decide) dX7_fit_168 ?_
    refine at_goto hX (tgt := 173) (by decide) dX7_fit_169 ?_
    exact at_sub [0, 1, 3] rfl ((A_X7_fit_173 hn hX hR k19 hk19) _ _ _ _ _ e)
def F_X7_fit_159 (k19 : Int32 → Int32 → Int32 → Hp → Option (Int32 × Hp)) (x1 : Int32) (x2 : Int32) (x3 : Int32) (h : Hp) : Option (Int32 × Hp) := (F_X7_fit_160 k19) x1 x2 x3 (0 : Int32) h
theorem A_X7_fit_159 {X : CX} {h' : Hp} {r : Int32} (hn : (xc_ X).maxLocals = 7) (hX : Ok_ X RX7 cX7_fit 5) (hR : Rt_ X (some .int) (some (.int r)) h') (k19 : Int32 → Int32 → Int32 → Hp → Option (Int32 × Hp)) (hk19 : ∀ (x1 : Int32) (x2 : Int32) (x3 : Int32) (h : Hp), k19 x1 x2 x3 h = some (r, h') → At_ X 19 [(0, .ref 7), (1, .int x1), (2, .int x2), (3, .int x3)] [] h) (x1 : Int32) (x2 : Int32) (x3 : Int32) (h : Hp) (e : F_X7_fit_159 k19 x1 x2 x3 h = some (r, h')) : At_ X 159 [(0, .ref 7), (1, .int x1), (2, .int x2), (3, .int x3)] [] h := by
  unfold F_X7_fit_159 at e
  refine at_iconst hX (v := 0) (by decide) dX7_fit_159 ?_
  exact at_sub [0, 1, 2, 3] rfl ((A_X7_fit_160 hn hX hR k19 hk19) _ _ _ _ _ e)
def F_X7_fit_141 (k19 : Int32 → Int32 → Int32 → Hp → Option (Int32 × Hp)) (x1 : Int32) (x2 : Int32) (x3 : Int32) (h : Hp) : Option (Int32 × Hp) := (F_X7_fit_160 k19) x1 x2 x3 (0 : Int32) h
theorem A_X7_fit_141 {X : CX} {h' : Hp} {r : Int32} (hn : (xc_ X).maxLocals = 7) (hX : Ok_ X RX7 cX7_fit 5) (hR : Rt_ X (some .int) (some (.int r)) h') (k19 : Int32 → Int32 → Int32 → Hp → Option (Int32 × Hp)) (hk19 : ∀ (x1 : Int32) (x2 : Int32) (x3 : Int32) (h : Hp), k19 x1 x2 x3 h = some (r, h') → At_ X 19 [(0, .ref 7), (1, .int x1), (2, .int x2), (3, .int x3)] [] h) (x1 : Int32) (x2 : Int32) (x3 : Int32) (h : Hp) (e : F_X7_fit_141 k19 x1 x2 x3 h = some (r, h')) : At_ X 141 [(0, .ref 7), (1, .int x1), (2, .int x2), (3, .int x3)] [] h := by
  unfold F_X7_fit_141 at e
  refine at_iconst hX (v := 0) (by decide) dX7_fit_141 ?_
  refine at_goto hX (tgt := 160) (by decide) dX7_fit_142 ?_
  exact at_sub [0, 1, 2, 3] rfl ((A_X7_fit_160 hn hX hR k19 hk19) _ _ _ _ _ e)
def F_X7_fit_76 (k19 : Int32 → Int32 → Int32 → Hp → Option (Int32 × Hp)) (x1 : Int32) (x2 : Int32) (x3 : Int32) (h : Hp) : Option (Int32 × Hp) := (F_X7_fit_160 k19) x1 x2 x3 (0 : Int32) h
theorem A_X7_fit_76 {X : CX} {h' : Hp} {r : Int32} (hn : (xc_ X).maxLocals = 7) (hX : Ok_ X RX7 cX7_fit 5) (hR : Rt_ X (some .int) (some (.int r)) h') (k19 : Int32 → Int32 → Int32 → Hp → Option (Int32 × Hp)) (hk19 : ∀ (x1 : Int32) (x2 : Int32) (x3 : Int32) (h : Hp), k19 x1 x2 x3 h = some (r, h') → At_ X 19 [(0, .ref 7), (1, .int x1), (2, .int x2), (3, .int x3)] [] h) (x1 : Int32) (x2 : Int32) (x3 : Int32) (h : Hp) (e : F_X7_fit_76 k19 x1 x2 x3 h = some (r, h')) : At_ X 76 [(0, .ref 7), (1, .int x1), (2, .int x2), (3, .int x3)] [] h := by
  unfold F_X7_fit_76 at e
  refine at_iconst hX (v := 0) (by decide) dX7_fit_76 ?_
  refine at_goto hX (tgt := 160) (by decide) dX7_fit_77 ?_
  exact at_sub [0, 1, 2, 3] rfl ((A_X7_fit_160 hn hX hR k19 hk19) _ _ _ _ _ e)
def F_X7_fit_56 (k19 : Int32 → Int32 → Int32 → Hp → Option (Int32 × Hp)) (x1 : Int32) (x2 : Int32) (x3 : Int32) (x4 : Int32) (s0 : Int32) (h : Hp) : Option (Int32 × Hp) := if x1 = (0 : Int32) then if x4 = (0 : Int32) then (F_X7_fit_76 k19) x1 x2 x3 h else if s0 = (0 : Int32) then (F_X7_fit_160 k19) x1 x2 x3 (1 : Int32) h else (F_X7_fit_76 k19) x1 x2 x3 h else if x1 = (1 : Int32) then if x4 = (0 : Int32) then (F_X7_fit_141 k19) x1 x2 x3 h else if s0 = (0 : Int32) then (F_X7_fit_141 k19) x1 x2 x3 h else rA_ h 40 180 x3 fun v104 => rA_ h 47 40 v104 fun v105 => rA_ h 39 180 x3 fun v111 => if v105 = v111 then (F_X7_fit_141 k19) x1 x2 x3 h else (F_X7_isInner (ir_ x3 (6 : Int32)) (ir_ (x3 / (6 : Int32)) (6 : Int32)) (x3 / (36 : Int32)) h).bind fun v131 => if v131 = (0 : Int32) then (F_X7_fit_160 k19) x1 x2 x3 (1 : Int32) h else (F_X7_fit_141 k19) x1 x2 x3 h else if s0 = (0 : Int32) then (F_X7_fit_159 k19) x1 x2 x3 h else if x4 = (0 : Int32) then (F_X7_fit_160 k19) x1 x2 x3 (1 : Int32) h else (F_X7_fit_159 k19) x1 x2 x3 h
theorem A_X7_fit_56 {X : CX} {h' : Hp} {r : Int32} (hn : (xc_ X).maxLocals = 7) (hX : Ok_ X RX7 cX7_fit 5) (hR : Rt_ X (some .int) (some (.int r)) h') (k19 : Int32 → Int32 → Int32 → Hp → Option (Int32 × Hp)) (hk19 : ∀ (x1 : Int32) (x2 : Int32) (x3 : Int32) (h : Hp), k19 x1 x2 x3 h = some (r, h') → At_ X 19 [(0, .ref 7), (1, .int x1), (2, .int x2), (3, .int x3)] [] h) (x1 : Int32) (x2 : Int32) (x3 : Int32) (x4 : Int32) (s0 : Int32) (h : Hp) (e : F_X7_fit_56 k19 x1 x2 x3 x4 s0 h = some (r, h')) : At_ X 56 [(0, .ref 7), (1, .int x1), (2, .int x2), (3, .int x3), (4, .int x4)] [.int s0] h := by
  unfold F_X7_fit_56 at e
  refine at_istore hX hn (by decide) dX7_fit_56 ?_
  refine at_iload_n hX rfl rfl dX7_fit_58 ?_
  refine at_if_ne hX (tgt := 80) (by decide) dX7_fit_59 (fun c59 => ?_) (fun c59 => ?_)
  · replace e := in_ c59 e
    refine at_iload_n hX rfl rfl dX7_fit_80 ?_
    refine at_iconst hX (v := 1) (by decide) dX7_fit_81 ?_
    refine at_icmp_ne hX (tgt := 145) (by decide) dX7_fit_82 (fun c82 => ?_) (fun c82 => ?_)
    · replace e := in_ c82 e
      refine at_iload hX rfl dX7_fit_145 ?_
      refine at_if_eq hX (tgt := 159) (by decide) dX7_fit_147 (fun c147 => ?_) (fun c147 => ?_)
      · replace e := ip_ c147 e
        exact at_sub [0, 1, 2, 3] rfl ((A_X7_fit_159 hn hX hR k19 hk19) _ _ _ _ e)
      · replace e := in_ c147 e
        refine at_iload hX rfl dX7_fit_150 ?_
        refine at_if_ne hX (tgt := 159) (by decide) dX7_fit_152 (fun c152 => ?_) (fun c152 => ?_)
        · replace e := in_ c152 e
          exact at_sub [0, 1, 2, 3] rfl ((A_X7_fit_159 hn hX hR k19 hk19) _ _ _ _ e)
        · replace e := ip_ c152 e
          refine at_iconst hX (v := 1) (by decide) dX7_fit_155 ?_
          refine at_goto hX (tgt := 160) (by decide) dX7_fit_156 ?_
          exact at_sub [0, 1, 2, 3] rfl ((A_X7_fit_160 hn hX hR k19 hk19) _ _ _ _ _ e)
    · replace e := ip_ c82 e
      refine at_iload hX rfl dX7_fit_85 ?_
      refine at_if_eq hX (tgt := 141) (by decide) dX7_fit_87 (fun c87 => ?_) (fun c87 => ?_)
      · replace e := ip_ c87 e
        exact at_sub [0, 1, 2, 3] rfl ((A_X7_fit_141 hn hX hR k19 hk19) _ _ _ _ e)
      · replace e := in_ c87 e
        refine at_iload hX rfl dX7_fit_90 ?_
        refine at_if_eq hX (tgt := 141) (by decide) dX7_fit_92 (fun c92 => ?_) (fun c92 => ?_)
        · replace e := ip_ c92 e
          exact at_sub [0, 1, 2, 3] rfl ((A_X7_fit_141 hn hX hR k19 hk19) _ _ _ _ e)
        · replace e := in_ c92 e
          refine at_aload_n hX rfl rfl dX7_fit_95 ?_
          refine gf_X7_37 hX dX7_fit_96 ?_
          refine at_aload_n hX rfl rfl dX7_fit_99 ?_
          refine gf_X7_16 hX dX7_fit_100 ?_
          refine at_iload_n hX rfl rfl dX7_fit_103 ?_
          obtain ⟨hi, v104, ev104, e⟩ := rA_some e
          refine at_iald hX (o := 40) (by decide) rfl hi dX7_fit_104 ?_
          refine at_ti ev104 ?_
          obtain ⟨hi, v105, ev105, e⟩ := rA_some e
          refine at_iald hX (o := 47) (by decide) rfl hi dX7_fit_105 ?_
          refine at_ti ev105 ?_
          refine at_aload_n hX rfl rfl dX7_fit_106 ?_
          refine gf_X7_13 hX dX7_fit_107 ?_
          refine at_iload_n hX rfl rfl dX7_fit_110 ?_
          obtain ⟨hi, v111, ev111, e⟩ := rA_some e
          refine at_iald hX (o := 39) (by decide) rfl hi dX7_fit_111 ?_
          refine at_ti ev111 ?_
          refine at_icmp_eq hX (tgt := 141) (by decide) dX7_fit_112 (fun c112 => ?_) (fun c112 => ?_)
          · replace e := ip_ c112 e
            exact at_sub [0, 1, 2, 3] rfl ((A_X7_fit_141 hn hX hR k19 hk19) _ _ _ _ e)
          · replace e := in_ c112 e
            refine at_aload_n hX rfl rfl dX7_fit_115 ?_
            refine at_iload_n hX rfl rfl dX7_fit_116 ?_
            refine at_bipush hX (v := 6) (by decide) dX7_fit_117 ?_
            refine at_irem hX (by decide) dX7_fit_119 ?_
            refine at_iload_n hX rfl rfl dX7_fit_120 ?_
            refine at_bipush hX (v := 6) (by decide) dX7_fit_121 ?_
            refine at_idiv hX (by decide) dX7_fit_123 ?_
            refine at_bipush hX (v := 6) (by decide) dX7_fit_124 ?_
            refine at_irem hX (by decide) dX7_fit_126 ?_
            refine at_iload_n hX rfl rfl dX7_fit_127 ?_
            refine at_bipush hX (v := 36) (by decide) dX7_fit_128 ?_
            refine at_idiv hX (by decide) dX7_fit_130 ?_
            obtain ⟨v131, e1, e⟩ := ob_some e
            refine at_callV3 hX cv_X7_117 (by decide) (c_X7_isInner _ _ _ _ _ _ e1) (Nat.le_of_ble_eq_true rfl) dX7_fit_131 ?_
            refine at_if_ne hX (tgt := 141) (by decide) dX7_fit_134 (fun c134 => ?_) (fun c134 => ?_)
            · replace e := in_ c134 e
              exact at_sub [0, 1, 2, 3] rfl ((A_X7_fit_141 hn hX hR k19 hk19) _ _ _ _ e)
            · replace e := ip_ c134 e
              refine at_iconst hX (v := 1) (by decide) dX7_fit_137 ?_
              refine at_goto hX (tgt := 160) (by decide) dX7_fit_138 ?_
              exact at_sub [0, 1, 2, 3] rfl ((A_X7_fit_160 hn hX hR k19 hk19) _ _ _ _ _ e)
  · replace e := ip_ c59 e
    refine at_iload hX rfl dX7_fit_62 ?_
    refine at_if_eq hX (tgt := 76) (by decide) dX7_fit_64 (fun c64 => ?_) (fun c64 => ?_)
    · replace e := ip_ c64 e
      exact at_sub [0, 1, 2, 3] rfl ((A_X7_fit_76 hn hX hR k19 hk19) _ _ _ _ e)
    · replace e := in_ c64 e
      refine at_iload hX rfl dX7_fit_67 ?_
      refine at_if_ne hX (tgt := 76) (by decide) dX7_fit_69 (fun c69 => ?_) (fun c69 => ?_)
      · replace e := in_ c69 e
        exact at_sub [0, 1, 2, 3] rfl ((A_X7_fit_76 hn hX hR k19 hk19) _ _ _ _ e)
      · replace e := ip_ c69 e
        refine at_iconst hX (v := 1) (by decide) dX7_fit_72 ?_
        refine at_goto hX (tgt := 160) (by decide) dX7_fit_73 ?_
        exact at_sub [0, 1, 2, 3] rfl ((A_X7_fit_160 hn hX hR k19 hk19) _ _ _ _ _ e)
def F_X7_fit_40 (k19 : Int32 → Int32 → Int32 → Hp → Option (Int32 × Hp)) (x1 : Int32) (x2 : Int32) (x3 : Int32) (s0 : Int32) (h : Hp) : Option (Int32 × Hp) := rA_ h 40 180 x3 fun v47 => if v47 < (0 : Int32) then (F_X7_fit_56 k19) x1 x2 x3 s0 (0 : Int32) h else (F_X7_fit_56 k19) x1 x2 x3 s0 (1 : Int32) h
theorem A_X7_fit_40 {X : CX} {h' : Hp} {r : Int32} (hn : (xc_ X).maxLocals = 7) (hX : Ok_ X RX7 cX7_fit 5) (hR : Rt_ X (some .int) (some (.int r)) h') (k19 : Int32 → Int32 → Int32 → Hp → Option (Int32 × Hp)) (hk19 : ∀ (x1 : Int32) (x2 : Int32) (x3 : Int32) (h : Hp), k19 x1 x2 x3 h = some (r, h') → At_ X 19 [(0, .ref 7), (1, .int x1), (2, .int x2), (3, .int x3)] [] h) (x1 : Int32) (x2 : Int32) (x3 : Int32) (s0 : Int32) (h : Hp) (e : F_X7_fit_40 k19 x1 x2 x3 s0 h = some (r, h')) : At_ X 40 [(0, .ref 7), (1, .int x1), (2, .int x2), (3, .int x3)] [.int s0] h := by
  unfold F_X7_fit_40 at e
  refine at_istore hX hn (by decide) dX7_fit_40 ?_
  refine at_aload_n hX rfl rfl dX7_fit_42 ?_
  refine gf_X7_16 hX dX7_fit_43 ?_
  refine at_iload_n hX rfl rfl dX7_fit_46 ?_
  obtain ⟨hi, v47, ev47, e⟩ := rA_some e
  refine at_iald hX (o := 40) (by decide) rfl hi dX7_fit_47 ?_
  refine at_ti ev47 ?_
  refine at_if_lt hX (tgt := 55) (by decide) dX7_fit_48 (fun c48 => ?_) (fun c48 => ?_)
  · replace e := ip_ c48 e
    refine at_iconst hX (v := 0) (by decide) dX7_fit_55 ?_
    exact at_sub [0, 1, 2, 3, 4] rfl ((A_X7_fit_56 hn hX hR k19 hk19) _ _ _ _ _ _ e)
  · replace e := in_ c48 e
    refine at_iconst hX (v := 1) (by decide) dX7_fit_51 ?_
    refine at_goto hX (tgt := 56) (by decide) dX7_fit_52 ?_
    exact at_sub [0, 1, 2, 3, 4] rfl ((A_X7_fit_56 hn hX hR k19 hk19) _ _ _ _ _ _ e)
def F_X7_fit_19 (n : Nat) (x1 : Int32) (x2 : Int32) (x3 : Int32) (h : Hp) : Option (Int32 × Hp) := match n with
  | 0 => none
  | n + 1 => if (180 : Int32) ≤ x3 then some (x2, h) else rA_ h 39 180 x3 fun v31 => if v31 ≤ (0 : Int32) then (F_X7_fit_40 (F_X7_fit_19 n)) x1 x2 x3 (0 : Int32) h else (F_X7_fit_40 (F_X7_fit_19 n)) x1 x2 x3 (1 : Int32) h
theorem A_X7_fit_19 {X : CX} {h' : Hp} {r : Int32} (hn : (xc_ X).maxLocals = 7) (hX : Ok_ X RX7 cX7_fit 5) (hR : Rt_ X (some .int) (some (.int r)) h') : ∀ (n : Nat) (x1 : Int32) (x2 : Int32) (x3 : Int32) (h : Hp), F_X7_fit_19 n x1 x2 x3 h = some (r, h') → At_ X 19 [(0, .ref 7), (1, .int x1), (2, .int x2), (3, .int x3)] [] h := by
  intro n
  induction n with
  | zero => intro x1 x2 x3 h e; cases e
  | succ n ih =>
    intro x1 x2 x3 h e
    rw [F_X7_fit_19] at e
    refine at_iload_n hX rfl rfl dX7_fit_19 ?_
    refine at_sipush hX (v := 180) (by decide) dX7_fit_20 ?_
    refine at_icmp_ge hX (tgt := 181) (by decide) dX7_fit_23 (fun c23 => ?_) (fun c23 => ?_)
    · replace e := ip_ c23 e
      refine at_iload_n hX rfl rfl dX7_fit_181 ?_
      exact at_ireturn hX hR rfl (by cases e; rfl) (by cases e; rfl) dX7_fit_182
    · replace e := in_ c23 e
      refine at_aload_n hX rfl rfl dX7_fit_26 ?_
      refine gf_X7_13 hX dX7_fit_27 ?_
      refine at_iload_n hX rfl rfl dX7_fit_30 ?_
      obtain ⟨hi, v31, ev31, e⟩ := rA_some e
      refine at_iald hX (o := 39) (by decide) rfl hi dX7_fit_31 ?_
      refine at_ti ev31 ?_
      refine at_if_le hX (tgt := 39) (by decide) dX7_fit_32 (fun c32 => ?_) (fun c32 => ?_)
      · replace e := ip_ c32 e
        refine at_iconst hX (v := 0) (by decide) dX7_fit_39 ?_
        exact at_sub [0, 1, 2, 3] rfl ((A_X7_fit_40 hn hX hR (F_X7_fit_19 n) ih) _ _ _ _ _ e)
      · replace e := in_ c32 e
        refine at_iconst hX (v := 1) (by decide) dX7_fit_35 ?_
        refine at_goto hX (tgt := 40) (by decide) dX7_fit_36 ?_
        exact at_sub [0, 1, 2, 3] rfl ((A_X7_fit_40 hn hX hR (F_X7_fit_19 n) ih) _ _ _ _ _ e)
def F_X7_fit (x1 : Int32) (h : Hp) : Option (Int32 × Hp) := (F_X7_isIn x1 (3 : Int32)).bind fun v2 => if v2 = (0 : Int32) then (F_X7_refuse (-2 : Int32) h).bind fun ((v11, h11) : Int32 × Hp) => some (v11, h11) else (F_X7_fit_19 FU_) x1 (0 : Int32) (0 : Int32) h
theorem c_X7_fit (l : Launch) (G : Gl) (x1 : Int32) (h : Hp) {r : Int32} {h' : Hp} (e : F_X7_fit x1 h = some (r, h')) : Does l G 5 M_X7_fit [.ref 7, .int x1] h (some (.int r)) h' := by
  refine Does.of (by decide) rfl (Nat.le_of_ble_eq_true rfl) (fun X hl hG hn hX hR => ?_)
  unfold F_X7_fit at e
  subst hl; subst hG
  show At_ X 0 [(0, .ref 7), (1, .int x1)] [] h
  refine at_iload_n hX rfl rfl dX7_fit_0 ?_
  refine at_iconst hX (v := 3) (by decide) dX7_fit_1 ?_
  obtain ⟨v2, e1, e⟩ := ob_some e
  refine at_callS2 hX cv_X7_98 (by decide) (c_X7_isIn _ _ _ _ _ e1) (Nat.le_of_ble_eq_true rfl) dX7_fit_2 ?_
  refine at_if_ne hX (tgt := 15) (by decide) dX7_fit_5 (fun c5 => ?_) (fun c5 => ?_)
  · replace e := in_ c5 e
    refine at_iconst hX (v := 0) (by decide) dX7_fit_15 ?_
    refine at_istore_n hX rfl hn (by decide) dX7_fit_16 ?_
    refine at_iconst hX (v := 0) (by decide) dX7_fit_17 ?_
    refine at_istore_n hX rfl hn (by decide) dX7_fit_18 ?_
    exact at_sub [0, 1, 2, 3] rfl ((A_X7_fit_19 hn hX hR FU_) _ _ _ _ e)
  · replace e := ip_ c5 e
    refine at_aload_n hX rfl rfl dX7_fit_8 ?_
    refine at_bipush hX (v := -2) (by decide) dX7_fit_9 ?_
    obtain ⟨⟨v11, h11⟩, e1, e⟩ := ob_some e
    refine at_callV1 hX cv_X7_106 (by decide) (c_X7_refuse _ _ _ _ e1) (Nat.le_of_ble_eq_true rfl) dX7_fit_11 ?_
    exact at_ireturn hX hR rfl (by cases e; rfl) (by cases e; rfl) dX7_fit_14

def F_X7_isSeam (x1 : Int32) (x2 : Int32) (h : Hp) : Option Int32 := rA_ h 40 180 x1 fun v5 => if v5 < (0 : Int32) then some (0 : Int32) else rA_ h 40 180 x2 fun v14 => if v14 < (0 : Int32) then some (0 : Int32) else rA_ h 40 180 x1 fun v23 => rA_ h 40 180 x2 fun v29 => if v23 = v29 then some (0 : Int32) else some (1 : Int32)
theorem c_X7_isSeam (l : Launch) (G : Gl) (x1 : Int32) (x2 : Int32) (h : Hp) {r : Int32} (e : F_X7_isSeam x1 x2 h = some r) : Does l G 1 M_X7_isSeam [.ref 7, .int x1, .int x2] h (some (.int r)) h := by
  refine Does.of (by decide) rfl (Nat.le_of_ble_eq_true rfl) (fun X hl hG hn hX hR => ?_)
  unfold F_X7_isSeam at e
  subst hl; subst hG
  show At_ X 0 [(0, .ref 7), (1, .int x1), (2, .int x2)] [] h
  refine at_aload_n hX rfl rfl dX7_isSeam_0 ?_
  refine gf_X7_16 hX dX7_isSeam_1 ?_
  refine at_iload_n hX rfl rfl dX7_isSeam_4 ?_
  obtain ⟨hi, v5, ev5, e⟩ := rA_some e
  refine at_iald hX (o := 40) (by decide) rfl hi dX7_isSeam_5 ?_
  refine at_ti ev5 ?_
  refine at_if_lt hX (tgt := 37) (by decide) dX7_isSeam_6 (fun c6 => ?_) (fun c6 => ?_)
  · replace e := ip_ c6 e
    refine at_iconst hX (v := 0) (by decide) dX7_isSeam_37 ?_
    exact at_ireturn hX hR rfl (by cases e; rfl) rfl dX7_isSeam_38
  · replace e := in_ c6 e
    refine at_aload_n hX rfl rfl dX7_isSeam_9 ?_
    refine gf_X7_16 hX dX7_isSeam_10 ?_
    refine at_iload_n hX rfl rfl dX7_isSeam_13 ?_
    obtain ⟨hi, v14, ev14, e⟩ := rA_some e
    refine at_iald hX (o := 40) (by decide) rfl hi dX7_isSeam_14 ?_
    refine at_ti ev14 ?_
    refine at_if_lt hX (tgt := 37) (by decide) dX7_isSeam_15 (fun c15 => ?_) (fun c15 => ?_)
    · replace e := ip_ c15 e
      refine at_iconst hX (v := 0) (by decide) dX7_isSeam_37 ?_
      exact at_ireturn hX hR rfl (by cases e; rfl) rfl dX7_isSeam_38
    · replace e := in_ c15 e
      refine at_aload_n hX rfl rfl dX7_isSeam_18 ?_
      refine gf_X7_16 hX dX7_isSeam_19 ?_
      refine at_iload_n hX rfl rfl dX7_isSeam_22 ?_
      obtain ⟨hi, v23, ev23, e⟩ := rA_some e
      refine at_iald hX (o := 40) (by decide) rfl hi dX7_isSeam_23 ?_
      refine at_ti ev23 ?_
      refine at_aload_n hX rfl rfl dX7_isSeam_24 ?_
      refine gf_X7_16 hX dX7_isSeam_25 ?_
      refine at_iload_n hX rfl rfl dX7_isSeam_28 ?_
      obtain ⟨hi, v29, ev29, e⟩ := rA_some e
      refine at_iald hX (o := 40) (by decide) rfl hi dX7_isSeam_29 ?_
      refine at_ti ev29 ?_
      refine at_icmp_eq hX (tgt := 37) (by decide) dX7_isSeam_30 (fun c30 => ?_) (fun c30 => ?_)
      · replace e := ip_ c30 e
        refine at_iconst hX (v := 0) (by decide) dX7_isSeam_37 ?_
        exact at_ireturn hX hR rfl (by cases e; rfl) rfl dX7_isSeam_38
      · replace e := in_ c30 e
        refine at_iconst hX (v := 1) (by decide) dX7_isSeam_33 ?_
        refine at_goto hX (tgt := 38) (by decide) dX7_isSeam_34 ?_
        exact at_ireturn hX hR rfl (by cases e; rfl) rfl dX7_isSeam_38
