
def F_X3_isNewPair_65 (x3 : Int32) (x4 : Int32) (x6 : Int32) (h : Hp) : Option Int32 := if x6 = (0 : Int32) then (F_X2_brickAt x3 x4 (gI_ h 207) h).bind fun v81 => if v81 = (-1 : Int32) then some (0 : Int32) else some (1 : Int32) else some (1 : Int32)
theorem A_X3_isNewPair_65 {X : CX} {h : Hp} {r : Int32} (hn : (xc_ X).maxLocals = 7) (hX : Ok_ X RX3 cX3_isNewPair 3) (hR : Rt_ X (some .boolean) (some (.int r)) h) (x3 : Int32) (x4 : Int32) (x6 : Int32) (e : F_X3_isNewPair_65 x3 x4 x6 h = some r) : At_ X 65 [(0, .ref 3), (3, .int x3), (4, .int x4), (6, .int x6)] [] h := by
  unfold F_X3_isNewPair_65 at e
  refine at_iload hX rfl dX3_isNewPair_65 ?_
  refine at_if_ne hX (tgt := 88) (by decide) dX3_isNewPair_67 (fun c67 => ?_) (fun c67 => ?_)
  · replace e := in_ c67 e
    refine at_iconst hX (v := 1) (by decide) dX3_isNewPair_88 ?_
    refine at_goto hX (tgt := 93) (by decide) dX3_isNewPair_89 ?_
    exact at_ireturn hX hR rfl (by cases e; rfl) rfl dX3_isNewPair_93
  · replace e := ip_ c67 e
    refine at_aload_n hX rfl rfl dX3_isNewPair_70 ?_
    refine gf_X3_43 hX dX3_isNewPair_71 ?_
    refine at_iload_n hX rfl rfl dX3_isNewPair_74 ?_
    refine at_iload hX rfl dX3_isNewPair_75 ?_
    refine at_aload_n hX rfl rfl dX3_isNewPair_77 ?_
    refine gf_X3_57 hX dX3_isNewPair_78 ?_
    obtain ⟨v81, e1, e⟩ := ob_some e
    refine at_callV3 hX cv_X3_87 (by decide) (c_X2_brickAt _ _ _ _ _ _ e1) (Nat.le_of_ble_eq_true rfl) dX3_isNewPair_81 ?_
    refine at_iconst hX (v := -1) (by decide) dX3_isNewPair_84 ?_
    refine at_icmp_eq hX (tgt := 92) (by decide) dX3_isNewPair_85 (fun c85 => ?_) (fun c85 => ?_)
    · replace e := ip_ c85 e
      refine at_iconst hX (v := 0) (by decide) dX3_isNewPair_92 ?_
      exact at_ireturn hX hR rfl (by cases e; rfl) rfl dX3_isNewPair_93
    · replace e := in_ c85 e
      refine at_iconst hX (v := 1) (by decide) dX3_isNewPair_88 ?_
      refine at_goto hX (tgt := 93) (by decide) dX3_isNewPair_89 ?_
      exact at_ireturn hX hR rfl (by cases e; rfl) rfl dX3_isNewPair_93
def F_X3_isNewPair_43 (x1 : Int32) (x2 : Int32) (x3 : Int32) (x4 : Int32) (x5 : Int32) (x6 : Int32) (h : Hp) : Option Int32 := if x5 = (0 : Int32) then (F_X2_brickAt x1 x2 (gI_ h 207) h).bind fun v58 => if v58 = (-1 : Int32) then some (0 : Int32) else F_X3_isNewPair_65 x3 x4 x6 h else F_X3_isNewPair_65 x3 x4 x6 h
theorem A_X3_isNewPair_43 {X : CX} {h : Hp} {r : Int32} (hn : (xc_ X).maxLocals = 7) (hX : Ok_ X RX3 cX3_isNewPair 3) (hR : Rt_ X (some .boolean) (some (.int r)) h) (x1 : Int32) (x2 : Int32) (x3 : Int32) (x4 : Int32) (x5 : Int32) (x6 : Int32) (e : F_X3_isNewPair_43 x1 x2 x3 x4 x5 x6 h = some r) : At_ X 43 [(0, .ref 3), (1, .int x1), (2, .int x2), (3, .int x3), (4, .int x4), (5, .int x5), (6, .int x6)] [] h := by
  unfold F_X3_isNewPair_43 at e
  refine at_iload hX rfl dX3_isNewPair_43 ?_
  refine at_if_ne hX (tgt := 65) (by decide) dX3_isNewPair_45 (fun c45 => ?_) (fun c45 => ?_)
  · replace e := in_ c45 e
    exact at_sub [0, 3, 4, 6] rfl ((A_X3_isNewPair_65 hn hX hR) _ _ _ e)
  · replace e := ip_ c45 e
    refine at_aload_n hX rfl rfl dX3_isNewPair_48 ?_
    refine gf_X3_43 hX dX3_isNewPair_49 ?_
    refine at_iload_n hX rfl rfl dX3_isNewPair_52 ?_
    refine at_iload_n hX rfl rfl dX3_isNewPair_53 ?_
    refine at_aload_n hX rfl rfl dX3_isNewPair_54 ?_
    refine gf_X3_57 hX dX3_isNewPair_55 ?_
    obtain ⟨v58, e1, e⟩ := ob_some e
    refine at_callV3 hX cv_X3_87 (by decide) (c_X2_brickAt _ _ _ _ _ _ e1) (Nat.le_of_ble_eq_true rfl) dX3_isNewPair_58 ?_
    refine at_iconst hX (v := -1) (by decide) dX3_isNewPair_61 ?_
    refine at_icmp_eq hX (tgt := 92) (by decide) dX3_isNewPair_62 (fun c62 => ?_) (fun c62 => ?_)
    · replace e := ip_ c62 e
      refine at_iconst hX (v := 0) (by decide) dX3_isNewPair_92 ?_
      exact at_ireturn hX hR rfl (by cases e; rfl) rfl dX3_isNewPair_93
    · replace e := in_ c62 e
      exact at_sub [0, 3, 4, 6] rfl ((A_X3_isNewPair_65 hn hX hR) _ _ _ e)
def F_X3_isNewPair_31 (x1 : Int32) (x2 : Int32) (x3 : Int32) (x4 : Int32) (x5 : Int32) (s0 : Int32) (h : Hp) : Option Int32 := if x5 = (0 : Int32) then if s0 = (0 : Int32) then some (0 : Int32) else F_X3_isNewPair_43 x1 x2 x3 x4 x5 s0 h else F_X3_isNewPair_43 x1 x2 x3 x4 x5 s0 h
theorem A_X3_isNewPair_31 {X : CX} {h : Hp} {r : Int32} (hn : (xc_ X).maxLocals = 7) (hX : Ok_ X RX3 cX3_isNewPair 3) (hR : Rt_ X (some .boolean) (some (.int r)) h) (x1 : Int32) (x2 : Int32) (x3 : Int32) (x4 : Int32) (x5 : Int32) (s0 : Int32) (e : F_X3_isNewPair_31 x1 x2 x3 x4 x5 s0 h = some r) : At_ X 31 [(0, .ref 3), (1, .int x1), (2, .int x2), (3, .int x3), (4, .int x4), (5, .int x5)] [.int s0] h := by
  unfold F_X3_isNewPair_31 at e
  refine at_istore hX hn (by decide) dX3_isNewPair_31 ?_
  refine at_iload hX rfl dX3_isNewPair_33 ?_
  refine at_if_ne hX (tgt := 43) (by decide) dX3_isNewPair_35 (fun c35 => ?_) (fun c35 => ?_)
  · replace e := in_ c35 e
    exact at_sub [0, 1, 2, 3, 4, 5, 6] rfl ((A_X3_isNewPair_43 hn hX hR) _ _ _ _ _ _ e)
  · replace e := ip_ c35 e
    refine at_iload hX rfl dX3_isNewPair_38 ?_
    refine at_if_eq hX (tgt := 92) (by decide) dX3_isNewPair_40 (fun c40 => ?_) (fun c40 => ?_)
    · replace e := ip_ c40 e
      refine at_iconst hX (v := 0) (by decide) dX3_isNewPair_92 ?_
      exact at_ireturn hX hR rfl (by cases e; rfl) rfl dX3_isNewPair_93
    · replace e := in_ c40 e
      exact at_sub [0, 1, 2, 3, 4, 5, 6] rfl ((A_X3_isNewPair_43 hn hX hR) _ _ _ _ _ _ e)
def F_X3_isNewPair_14 (x1 : Int32) (x2 : Int32) (x3 : Int32) (x4 : Int32) (s0 : Int32) (h : Hp) : Option Int32 := (F_X3_numberAt x3 x4 h).bind fun v20 => if v20 < (0 : Int32) then F_X3_isNewPair_31 x1 x2 x3 x4 s0 (0 : Int32) h else F_X3_isNewPair_31 x1 x2 x3 x4 s0 (1 : Int32) h
theorem A_X3_isNewPair_14 {X : CX} {h : Hp} {r : Int32} (hn : (xc_ X).maxLocals = 7) (hX : Ok_ X RX3 cX3_isNewPair 3) (hR : Rt_ X (some .boolean) (some (.int r)) h) (x1 : Int32) (x2 : Int32) (x3 : Int32) (x4 : Int32) (s0 : Int32) (e : F_X3_isNewPair_14 x1 x2 x3 x4 s0 h = some r) : At_ X 14 [(0, .ref 3), (1, .int x1), (2, .int x2), (3, .int x3), (4, .int x4)] [.int s0] h := by
  unfold F_X3_isNewPair_14 at e
  refine at_istore hX hn (by decide) dX3_isNewPair_14 ?_
  refine at_aload_n hX rfl rfl dX3_isNewPair_16 ?_
  refine at_iload_n hX rfl rfl dX3_isNewPair_17 ?_
  refine at_iload hX rfl dX3_isNewPair_18 ?_
  obtain ⟨v20, e1, e⟩ := ob_some e
  refine at_callV2 hX cv_X3_116 (by decide) (c_X3_numberAt _ _ _ _ _ e1) (Nat.le_of_ble_eq_true rfl) dX3_isNewPair_20 ?_
  refine at_if_lt hX (tgt := 30) (by decide) dX3_isNewPair_23 (fun c23 => ?_) (fun c23 => ?_)
  · replace e := ip_ c23 e
    refine at_iconst hX (v := 0) (by decide) dX3_isNewPair_30 ?_
    exact at_sub [0, 1, 2, 3, 4, 5] rfl ((A_X3_isNewPair_31 hn hX hR) _ _ _ _ _ _ e)
  · replace e := in_ c23 e
    refine at_iconst hX (v := 1) (by decide) dX3_isNewPair_26 ?_
    refine at_goto hX (tgt := 31) (by decide) dX3_isNewPair_27 ?_
    exact at_sub [0, 1, 2, 3, 4, 5] rfl ((A_X3_isNewPair_31 hn hX hR) _ _ _ _ _ _ e)
def F_X3_isNewPair (x1 : Int32) (x2 : Int32) (x3 : Int32) (x4 : Int32) (h : Hp) : Option Int32 := (F_X3_numberAt x1 x2 h).bind fun v3 => if v3 < (0 : Int32) then F_X3_isNewPair_14 x1 x2 x3 x4 (0 : Int32) h else F_X3_isNewPair_14 x1 x2 x3 x4 (1 : Int32) h
theorem c_X3_isNewPair (l : Launch) (G : Gl) (x1 : Int32) (x2 : Int32) (x3 : Int32) (x4 : Int32) (h : Hp) {r : Int32} (e : F_X3_isNewPair x1 x2 x3 x4 h = some r) : Does l G 3 M_X3_isNewPair [.ref 3, .int x1, .int x2, .int x3, .int x4] h (some (.int r)) h := by
  refine Does.of (by decide) rfl (Nat.le_of_ble_eq_true rfl) (fun X hl hG hn hX hR => ?_)
  unfold F_X3_isNewPair at e
  subst hl; subst hG
  show At_ X 0 [(0, .ref 3), (1, .int x1), (2, .int x2), (3, .int x3), (4, .int x4)] [] h
  refine at_aload_n hX rfl rfl dX3_isNewPair_0 ?_
  refine at_iload_n hX rfl rfl dX3_isNewPair_1 ?_
  refine at_iload_n hX rfl rfl dX3_isNewPair_2 ?_
  obtain ⟨v3, e1, e⟩ := ob_some e
  refine at_callV2 hX cv_X3_116 (by decide) (c_X3_numberAt _ _ _ _ _ e1) (Nat.le_of_ble_eq_true rfl) dX3_isNewPair_3 ?_
  refine at_if_lt hX (tgt := 13) (by decide) dX3_isNewPair_6 (fun c6 => ?_) (fun c6 => ?_)
  · replace e := ip_ c6 e
    refine at_iconst hX (v := 0) (by decide) dX3_isNewPair_13 ?_
    exact at_sub [0, 1, 2, 3, 4] rfl ((A_X3_isNewPair_14 hn hX hR) _ _ _ _ _ e)
  · replace e := in_ c6 e
    refine at_iconst hX (v := 1) (by decide) dX3_isNewPair_9 ?_
    refine at_goto hX (tgt := 14) (by decide) dX3_isNewPair_10 ?_
    exact at_sub [0, 1, 2, 3, 4] rfl ((A_X3_isNewPair_14 hn hX hR) _ _ _ _ _ e)

def F_X3_seamsOfSingles_69 (k4 : Int32 → Int32 → Hp → Option Int32) (x1 : Int32) (x2 : Int32) (h : Hp) : Option Int32 := k4 x1 (x2 + (1 : Int32)) h
theorem A_X3_seamsOfSingles_69 {X : CX} {h : Hp} {r : Int32} (hn : (xc_ X).maxLocals = 5) (hX : Ok_ X RX3 cX3_seamsOfSingles 4) (hR : Rt_ X (some .int) (some (.int r)) h) (k4 : Int32 → Int32 → Hp → Option Int32) (hk4 : ∀ (x1 : Int32) (x2 : Int32), k4 x1 x2 h = some r → At_ X 4 [(0, .ref 3), (1, .int x1), (2, .int x2)] [] h) (x1 : Int32) (x2 : Int32) (e : F_X3_seamsOfSingles_69 k4 x1 x2 h = some r) : At_ X 69 [(0, .ref 3), (1, .int x1), (2, .int x2)] [] h := by
  unfold F_X3_seamsOfSingles_69 at e
  refine at_iinc hX hn (by decide) rfl (v := 1) (by decide) dX3_seamsOfSingles_69 ?_
  refine at_goto hX (tgt := 4) (by decide) dX3_seamsOfSingles_72 ?_
  exact at_sub [0, 1, 2] rfl (hk4 _ _ e)
def F_X3_seamsOfSingles_45 (k4 : Int32 → Int32 → Hp → Option Int32) (x1 : Int32) (x2 : Int32) (x3 : Int32) (x4 : Int32) (h : Hp) : Option Int32 := (F_X3_isNewPair x3 x4 x3 (x4 + (1 : Int32)) h).bind fun v54 => if v54 = (0 : Int32) then (F_X3_seamsOfSingles_69 k4) x1 x2 h else rA_ h 25 36 x2 fun v66 => (F_X3_seamsOfSingles_69 k4) (x1 + v66) x2 h
theorem A_X3_seamsOfSingles_45 {X : CX} {h : Hp} {r : Int32} (hn : (xc_ X).maxLocals = 5) (hX : Ok_ X RX3 cX3_seamsOfSingles 4) (hR : Rt_ X (some .int) (some (.int r)) h) (k4 : Int32 → Int32 → Hp → Option Int32) (hk4 : ∀ (x1 : Int32) (x2 : Int32), k4 x1 x2 h = some r → At_ X 4 [(0, .ref 3), (1, .int x1), (2, .int x2)] [] h) (x1 : Int32) (x2 : Int32) (x3 : Int32) (x4 : Int32) (e : F_X3_seamsOfSingles_45 k4 x1 x2 x3 x4 h = some r) : At_ X 45 [(0, .ref 3), (1, .int x1), (2, .int x2), (3, .int x3), (4, .int x4)] [] h := by
  unfold F_X3_seamsOfSingles_45 at e
  refine at_aload_n hX rfl rfl dX3_seamsOfSingles_45 ?_
  refine at_iload_n hX rfl rfl dX3_seamsOfSingles_46 ?_
  refine at_iload hX rfl dX3_seamsOfSingles_47 ?_
  refine at_iload_n hX rfl rfl dX3_seamsOfSingles_49 ?_
  refine at_iload hX rfl dX3_seamsOfSingles_50 ?_
  refine at_iconst hX (v := 1) (by decide) dX3_seamsOfSingles_52 ?_
  refine at_iadd hX dX3_seamsOfSingles_53 ?_
  obtain ⟨v54, e1, e⟩ := ob_some e
  refine at_callV4 hX cv_X3_155 (by decide) (c_X3_isNewPair _ _ _ _ _ _ _ e1) (Nat.le_of_ble_eq_true rfl) dX3_seamsOfSingles_54 ?_
  refine at_if_eq hX (tgt := 69) (by decide) dX3_seamsOfSingles_57 (fun c57 => ?_) (fun c57 => ?_)
  · replace e := ip_ c57 e
    exact at_sub [0, 1, 2] rfl ((A_X3_seamsOfSingles_69 hn hX hR k4 hk4) _ _ e)
  · replace e := in_ c57 e
    refine at_iload_n hX rfl rfl dX3_seamsOfSingles_60 ?_
    refine at_aload_n hX rfl rfl dX3_seamsOfSingles_61 ?_
    refine gf_X3_21 hX dX3_seamsOfSingles_62 ?_
    refine at_iload_n hX rfl rfl dX3_seamsOfSingles_65 ?_
    obtain ⟨hi, v66, ev66, e⟩ := rA_some e
    refine at_iald hX (o := 25) (by decide) rfl hi dX3_seamsOfSingles_66 ?_
    refine at_ti ev66 ?_
    refine at_iadd hX dX3_seamsOfSingles_67 ?_
    refine at_istore_n hX rfl hn (by decide) dX3_seamsOfSingles_68 ?_
    exact at_sub [0, 1, 2] rfl ((A_X3_seamsOfSingles_69 hn hX hR k4 hk4) _ _ e)
def F_X3_seamsOfSingles_4 (n : Nat) (x1 : Int32) (x2 : Int32) (h : Hp) : Option Int32 := match n with
  | 0 => none
  | n + 1 => if (36 : Int32) ≤ x2 then some x1 else (F_X3_isNewPair (ir_ x2 (6 : Int32)) (x2 / (6 : Int32)) ((ir_ x2 (6 : Int32)) + (1 : Int32)) (x2 / (6 : Int32)) h).bind fun v30 => if v30 = (0 : Int32) then (F_X3_seamsOfSingles_45 (F_X3_seamsOfSingles_4 n)) x1 x2 (ir_ x2 (6 : Int32)) (x2 / (6 : Int32)) h else rA_ h 24 36 x2 fun v42 => (F_X3_seamsOfSingles_45 (F_X3_seamsOfSingles_4 n)) (x1 + v42) x2 (ir_ x2 (6 : Int32)) (x2 / (6 : Int32)) h
theorem A_X3_seamsOfSingles_4 {X : CX} {h : Hp} {r : Int32} (hn : (xc_ X).maxLocals = 5) (hX : Ok_ X RX3 cX3_seamsOfSingles 4) (hR : Rt_ X (some .int) (some (.int r)) h) : ∀ (n : Nat) (x1 : Int32) (x2 : Int32), F_X3_seamsOfSingles_4 n x1 x2 h = some r → At_ X 4 [(0, .ref 3), (1, .int x1), (2, .int x2)] [] h := by
  intro n
  induction n with
  | zero => intro x1 x2 e; cases e
  | succ n ih =>
    intro x1 x2 e
    rw [F_X3_seamsOfSingles_4] at e
    refine at_iload_n hX rfl rfl dX3_seamsOfSingles_4 ?_
    refine at_bipush hX (v := 36) (by decide) dX3_seamsOfSingles_5 ?_
    refine at_icmp_ge hX (tgt := 75) (by decide) dX3_seamsOfSingles_7 (fun c7 => ?_) (fun c7 => ?_)
    · replace e := ip_ c7 e
      refine at_iload_n hX rfl rfl dX3_seamsOfSingles_75 ?_
      exact at_ireturn hX hR rfl (by cases e; rfl) rfl dX3_seamsOfSingles_76
    · replace e := in_ c7 e
      refine at_iload_n hX rfl rfl dX3_seamsOfSingles_10 ?_
      refine at_bipush hX (v := 6) (by decide) dX3_seamsOfSingles_11 ?_
      refine at_irem hX (by decide) dX3_seamsOfSingles_13 ?_
      refine at_istore_n hX rfl hn (by decide) dX3_seamsOfSingles_14 ?_
      refine at_iload_n hX rfl rfl dX3_seamsOfSingles_15 ?_
      refine at_bipush hX (v := 6) (by decide) dX3_seamsOfSingles_16 ?_
      refine at_idiv hX (by decide) dX3_seamsOfSingles_18 ?_
      refine at_istore hX hn (by decide) dX3_seamsOfSingles_19 ?_
      refine at_aload_n hX rfl rfl dX3_seamsOfSingles_21 ?_
      refine at_iload_n hX rfl rfl dX3_seamsOfSingles_22 ?_
      refine at_iload hX rfl dX3_seamsOfSingles_23 ?_
      refine at_iload_n hX rfl rfl dX3_seamsOfSingles_25 ?_
      refine at_iconst hX (v := 1) (by decide) dX3_seamsOfSingles_26 ?_
      refine at_iadd hX dX3_seamsOfSingles_27 ?_
      refine at_iload hX rfl dX3_seamsOfSingles_28 ?_
      obtain ⟨v30, e1, e⟩ := ob_some e
      refine at_callV4 hX cv_X3_155 (by decide) (c_X3_isNewPair _ _ _ _ _ _ _ e1) (Nat.le_of_ble_eq_true rfl) dX3_seamsOfSingles_30 ?_
      refine at_if_eq hX (tgt := 45) (by decide) dX3_seamsOfSingles_33 (fun c33 => ?_) (fun c33 => ?_)
      · replace e := ip_ c33 e
        exact at_sub [0, 1, 2, 3, 4] rfl ((A_X3_seamsOfSingles_45 hn hX hR (F_X3_seamsOfSingles_4 n) ih) _ _ _ _ e)
      · replace e := in_ c33 e
        refine at_iload_n hX rfl rfl dX3_seamsOfSingles_36 ?_
        refine at_aload_n hX rfl rfl dX3_seamsOfSingles_37 ?_
        refine gf_X3_18 hX dX3_seamsOfSingles_38 ?_
        refine at_iload_n hX rfl rfl dX3_seamsOfSingles_41 ?_
        obtain ⟨hi, v42, ev42, e⟩ := rA_some e
        refine at_iald hX (o := 24) (by decide) rfl hi dX3_seamsOfSingles_42 ?_
        refine at_ti ev42 ?_
        refine at_iadd hX dX3_seamsOfSingles_43 ?_
        refine at_istore_n hX rfl hn (by decide) dX3_seamsOfSingles_44 ?_
        exact at_sub [0, 1, 2, 3, 4] rfl ((A_X3_seamsOfSingles_45 hn hX hR (F_X3_seamsOfSingles_4 n) ih) _ _ _ _ e)
def F_X3_seamsOfSingles (h : Hp) : Option Int32 := (F_X3_seamsOfSingles_4 FU_) (0 : Int32) (0 : Int32) h
theorem c_X3_seamsOfSingles (l : Launch) (G : Gl) (h : Hp) {r : Int32} (e : F_X3_seamsOfSingles  h = some r) : Does l G 4 M_X3_seamsOfSingles [.ref 3] h (some (.int r)) h := by
  refine Does.of (by decide) rfl (Nat.le_of_ble_eq_true rfl) (fun X hl hG hn hX hR => ?_)
  unfold F_X3_seamsOfSingles at e
  subst hl; subst hG
  show At_ X 0 [(0, .ref 3)] [] h
  refine at_iconst hX (v := 0) (by decide) dX3_seamsOfSingles_0 ?_
  refine at_istore_n hX rfl hn (by decide) dX3_seamsOfSingles_1 ?_
  refine at_iconst hX (v := 0) (by decide) dX3_seamsOfSingles_2 ?_
  refine at_istore_n hX rfl hn (by decide) dX3_seamsOfSingles_3 ?_
  exact at_sub [0, 1, 2] rfl ((A_X3_seamsOfSingles_4 hn hX hR FU_) _ _ e)

def F_X3_tell_6 (n : Nat) (x1 : Int32) (x2 : Int32) (x3 : Int32) (h : Hp) : Option Hp := match n with
  | 0 => none
  | n + 1 => if (16 : Int32) ≤ x3 then (F_X3_seamsOfSingles  h).bind fun v134 => bd_ (sI_ h 205 (v134 - x2)) fun h139 => some h139 else if x1 = (is_ (1 : Int32) (gI_ h 203)) - (1 : Int32) then (F_X3_seamsOfSingles  h).bind fun v134 => bd_ (sI_ h 205 (v134 - x2)) fun h139 => some h139 else (F_X3_bestWay x1 h).bind fun ((v26, h26) : Int32 × Hp) => if (0 : Int32) ≤ v26 then rA_ h26 22 16 (v26 / (12 : Int32)) fun v46 => rS_ [6, 6, 5, 5, 4, 3, 3, 2, 2, 1, 1, 0] (ir_ v26 (12 : Int32)) fun v62 => rS_ [0, 1, 0, 1, 0, 0, 1, 0, 1, 0, 1, 0] (ir_ v26 (12 : Int32)) fun v73 => wA_ h26 30 16 x3 (((v62 + ((10 : Int32) * v73)) + ((100 : Int32) * (ir_ v46 (6 : Int32)))) + ((1000 : Int32) * (v46 / (6 : Int32)))) fun h95 => rA_ h95 26 192 v26 fun v103 => rA_ h95 27 192 v26 fun v113 => bd_ (sI_ h95 204 ((gI_ h95 204) + (1 : Int32))) fun h123 => (F_X3_tell_6 n) (x1 ||| v103) (x2 + v113) (x3 + (1 : Int32)) h123 else some h26
theorem A_X3_tell_6 {X : CX} {h' : Hp} (hn : (xc_ X).maxLocals = 6) (hX : Ok_ X RX3 cX3_tell 45) (hR : Rt_ X none none h') : ∀ (n : Nat) (x1 : Int32) (x2 : Int32) (x3 : Int32) (h : Hp), F_X3_tell_6 n x1 x2 x3 h = some h' → At_ X 6 [(0, .ref 3), (1, .int x1), (2, .int x2), (3, .int x3)] [] h := by
  intro n
  induction n with
  | zero => intro x1 x2 x3 h e; cases e
  | succ n ih =>
    intro x1 x2 x3 h e
    rw [F_X3_tell_6] at e
    refine at_iload_n hX rfl rfl dX3_tell_6 ?_
    refine at_bipush hX (v := 16) (by decide) dX3_tell_7 ?_
    refine at_icmp_ge hX (tgt := 132) (by decide) dX3_tell_9 (fun c9 => ?_) (fun c9 => ?_)
    · replace e := ip_ c9 e
      refine at_aload_n hX rfl rfl dX3_tell_132 ?_
      refine at_aload_n hX rfl rfl dX3_tell_133 ?_
      obtain ⟨v134, e1, e⟩ := ob_some e
      refine at_callV0 hX cv_X3_123 (by decide) (c_X3_seamsOfSingles _ _  _ e1) (Nat.le_of_ble_eq_true rfl) dX3_tell_134 ?_
      refine at_iload_n hX rfl rfl dX3_tell_137 ?_
      refine at_isub hX dX3_tell_138 ?_
      obtain ⟨h139, eh139, e⟩ := bd_some e
      refine pf_X3_54 hX dX3_tell_139 ?_
      refine at_th eh139 ?_
      exact at_return hX hR rfl (by cases e; rfl) dX3_tell_142
    · replace e := in_ c9 e
      refine at_iload_n hX rfl rfl dX3_tell_12 ?_
      refine at_iconst hX (v := 1) (by decide) dX3_tell_13 ?_
      refine at_aload_n hX rfl rfl dX3_tell_14 ?_
      refine gf_X3_63 hX dX3_tell_15 ?_
      refine at_ishl hX dX3_tell_18 ?_
      refine at_iconst hX (v := 1) (by decide) dX3_tell_19 ?_
      refine at_isub hX dX3_tell_20 ?_
      refine at_icmp_eq hX (tgt := 132) (by decide) dX3_tell_21 (fun c21 => ?_) (fun c21 => ?_)
      · replace e := ip_ c21 e
        refine at_aload_n hX rfl rfl dX3_tell_132 ?_
        refine at_aload_n hX rfl rfl dX3_tell_133 ?_
        obtain ⟨v134, e1, e⟩ := ob_some e
        refine at_callV0 hX cv_X3_123 (by decide) (c_X3_seamsOfSingles _ _  _ e1) (Nat.le_of_ble_eq_true rfl) dX3_tell_134 ?_
        refine at_iload_n hX rfl rfl dX3_tell_137 ?_
        refine at_isub hX dX3_tell_138 ?_
        obtain ⟨h139, eh139, e⟩ := bd_some e
        refine pf_X3_54 hX dX3_tell_139 ?_
        refine at_th eh139 ?_
        exact at_return hX hR rfl (by cases e; rfl) dX3_tell_142
      · replace e := in_ c21 e
        refine at_aload_n hX rfl rfl dX3_tell_24 ?_
        refine at_iload_n hX rfl rfl dX3_tell_25 ?_
        obtain ⟨⟨v26, h26⟩, e1, e⟩ := ob_some e
        refine at_callV1 hX cv_X3_119 (by decide) (c_X3_bestWay _ _ _ _ e1) (Nat.le_of_ble_eq_true rfl) dX3_tell_26 ?_
        refine at_istore hX hn (by decide) dX3_tell_29 ?_
        refine at_iload hX rfl dX3_tell_31 ?_
        refine at_if_ge hX (tgt := 37) (by decide) dX3_tell_33 (fun c33 => ?_) (fun c33 => ?_)
        · replace e := ip_ c33 e
          refine at_aload_n hX rfl rfl dX3_tell_37 ?_
          refine gf_X3_11 hX dX3_tell_38 ?_
          refine at_iload hX rfl dX3_tell_41 ?_
          refine at_bipush hX (v := 12) (by decide) dX3_tell_43 ?_
          refine at_idiv hX (by decide) dX3_tell_45 ?_
          obtain ⟨hi, v46, ev46, e⟩ := rA_some e
          refine at_iald hX (o := 22) (by decide) rfl hi dX3_tell_46 ?_
          refine at_ti ev46 ?_
          refine at_istore hX hn (by decide) dX3_tell_47 ?_
          refine at_aload_n hX rfl rfl dX3_tell_49 ?_
          refine gf_X3_36 hX dX3_tell_50 ?_
          refine at_iload_n hX rfl rfl dX3_tell_53 ?_
          refine gs_X3_103 hX dX3_tell_54 ?_
          refine at_iload hX rfl dX3_tell_57 ?_
          refine at_bipush hX (v := 12) (by decide) dX3_tell_59 ?_
          refine at_irem hX (by decide) dX3_tell_61 ?_
          obtain ⟨hi, v62, ev62, e⟩ := rS_some e
          refine at_sald hX 2 rfl rfl hi dX3_tell_62 ?_
          refine at_ti ev62 ?_
          refine at_bipush hX (v := 10) (by decide) dX3_tell_63 ?_
          refine gs_X3_106 hX dX3_tell_65 ?_
          refine at_iload hX rfl dX3_tell_68 ?_
          refine at_bipush hX (v := 12) (by decide) dX3_tell_70 ?_
          refine at_irem hX (by decide) dX3_tell_72 ?_
          obtain ⟨hi, v73, ev73, e⟩ := rS_some e
          refine at_sald hX 3 rfl rfl hi dX3_tell_73 ?_
          refine at_ti ev73 ?_
          refine at_imul hX dX3_tell_74 ?_
          refine at_iadd hX dX3_tell_75 ?_
          refine at_bipush hX (v := 100) (by decide) dX3_tell_76 ?_
          refine at_iload hX rfl dX3_tell_78 ?_
          refine at_bipush hX (v := 6) (by decide) dX3_tell_80 ?_
          refine at_irem hX (by decide) dX3_tell_82 ?_
          refine at_imul hX dX3_tell_83 ?_
          refine at_iadd hX dX3_tell_84 ?_
          refine at_sipush hX (v := 1000) (by decide) dX3_tell_85 ?_
          refine at_iload hX rfl dX3_tell_88 ?_
          refine at_bipush hX (v := 6) (by decide) dX3_tell_90 ?_
          refine at_idiv hX (by decide) dX3_tell_92 ?_
          refine at_imul hX dX3_tell_93 ?_
          refine at_iadd hX dX3_tell_94 ?_
          obtain ⟨hi, h95, eh95, e⟩ := wA_some e
          refine at_iast hX (o := 30) (by decide) rfl hi dX3_tell_95 ?_
          refine at_th eh95 ?_
          refine at_iload_n hX rfl rfl dX3_tell_96 ?_
          refine at_aload_n hX rfl rfl dX3_tell_97 ?_
          refine gf_X3_24 hX dX3_tell_98 ?_
          refine at_iload hX rfl dX3_tell_101 ?_
          obtain ⟨hi, v103, ev103, e⟩ := rA_some e
          refine at_iald hX (o := 26) (by decide) rfl hi dX3_tell_103 ?_
          refine at_ti ev103 ?_
          refine at_ior hX dX3_tell_104 ?_
          refine at_istore_n hX rfl hn (by decide) dX3_tell_105 ?_
          refine at_iload_n hX rfl rfl dX3_tell_106 ?_
          refine at_aload_n hX rfl rfl dX3_tell_107 ?_
          refine gf_X3_27 hX dX3_tell_108 ?_
          refine at_iload hX rfl dX3_tell_111 ?_
          obtain ⟨hi, v113, ev113, e⟩ := rA_some e
          refine at_iald hX (o := 27) (by decide) rfl hi dX3_tell_113 ?_
          refine at_ti ev113 ?_
          refine at_iadd hX dX3_tell_114 ?_
          refine at_istore_n hX rfl hn (by decide) dX3_tell_115 ?_
          refine at_aload_n hX rfl rfl dX3_tell_116 ?_
          refine at_dup hX rfl dX3_tell_117 ?_
          refine gf_X3_51 hX dX3_tell_118 ?_
          refine at_iconst hX (v := 1) (by decide) dX3_tell_121 ?_
          refine at_iadd hX dX3_tell_122 ?_
          obtain ⟨h123, eh123, e⟩ := bd_some e
          refine pf_X3_51 hX dX3_tell_123 ?_
          refine at_th eh123 ?_
          refine at_iinc hX hn (by decide) rfl (v := 1) (by decide) dX3_tell_126 ?_
          refine at_goto hX (tgt := 6) (by decide) dX3_tell_129 ?_
          exact at_sub [0, 1, 2, 3] rfl (ih _ _ _ _ e)
        · replace e := in_ c33 e
          exact at_return hX hR rfl (by cases e; rfl) dX3_tell_36
def F_X3_tell (h : Hp) : Option Hp := (F_X3_tell_6 FU_) (0 : Int32) (0 : Int32) (0 : Int32) h
theorem c_X3_tell (l : Launch) (G : Gl) (h : Hp) {h' : Hp} (e : F_X3_tell  h = some h') : Does l G 45 M_X3_tell [.ref 3] h none h' := by
  refine Does.of (by decide) rfl (Nat.le_of_ble_eq_true rfl) (fun X hl hG hn hX hR => ?_)
  unfold F_X3_tell at e
  subst hl; subst hG
  show At_ X 0 [(0, .ref 3)] [] h
  refine at_iconst hX (v := 0) (by decide) dX3_tell_0 ?_
  refine at_istore_n hX rfl hn (by decide) dX3_tell_1 ?_
  refine at_iconst hX (v := 0) (by decide) dX3_tell_2 ?_
  refine at_istore_n hX rfl hn (by decide) dX3_tell_3 ?_
  refine at_iconst hX (v := 0) (by decide) dX3_tell_4 ?_
  refine at_istore_n hX rfl hn (by decide) dX3_tell_5 ?_
  exact at_sub [0, 1, 2, 3] rfl ((A_X3_tell_6 hn hX hR FU_) _ _ _ _ e)

def F_X3_findBest_69 (h : Hp) : Option (Int32 × Hp) := if (16 : Int32) < gI_ h 203 then some ((0 : Int32), h) else some ((1 : Int32), h)
theorem A_X3_findBest_69 {X : CX} {h' : Hp} {r : Int32} (hn : (xc_ X).maxLocals = 3) (hX : Ok_ X RX3 cX3_findBest 46) (hR : Rt_ X (some .boolean) (some (.int r)) h') (h : Hp) (e : F_X3_findBest_69  h = some (r, h')) : At_ X 69 [(0, .ref 3)] [] h := by
  unfold F_X3_findBest_69 at e
  refine at_aload_n hX rfl rfl dX3_findBest_69 ?_
  refine gf_X3_63 hX dX3_findBest_70 ?_
  refine at_bipush hX (v := 16) (by decide) dX3_findBest_73 ?_
  refine at_icmp_gt hX (tgt := 82) (by decide) dX3_findBest_75 (fun c75 => ?_) (fun c75 => ?_)
  · replace e := ip_ c75 e
    refine at_iconst hX (v := 0) (by decide) dX3_findBest_82 ?_
    exact at_ireturn hX hR rfl (by cases e; rfl) (by cases e; rfl) dX3_findBest_83
  · replace e := in_ c75 e
    refine at_iconst hX (v := 1) (by decide) dX3_findBest_78 ?_
    refine at_goto hX (tgt := 83) (by decide) dX3_findBest_79 ?_
    exact at_ireturn hX hR rfl (by cases e; rfl) (by cases e; rfl) dX3_findBest_83
def F_X3_findBest_16 (x1 : Int32) (x2 : Int32) (h : Hp) : Option (Int32 × Hp) := bd_ (sI_ h 206 x1) fun h18 => bd_ (sI_ h18 207 x2) fun h23 => bd_ (sI_ h23 204 (0 : Int32)) fun h28 => bd_ (sI_ h28 205 (0 : Int32)) fun h33 => (F_X3_collectCells  h33).bind fun h37 => if (16 : Int32) < gI_ h37 203 then F_X3_findBest_69 h37 else (F_X3_weighPairs  h37).bind fun h50 => (F_X3_findFits  h50).bind fun h54 => (F_J7_fill_53178_28 (0 : Int32) h54).bind fun h62 => (F_X3_tell  h62).bind fun h66 => F_X3_findBest_69 h66
theorem A_X3_findBest_16 {X : CX} {h' : Hp} {r : Int32} (hn : (xc_ X).maxLocals = 3) (hX : Ok_ X RX3 cX3_findBest 46) (hR : Rt_ X (some .boolean) (some (.int r)) h') (x1 : Int32) (x2 : Int32) (h : Hp) (e : F_X3_findBest_16 x1 x2 h = some (r, h')) : At_ X 16 [(0, .ref 3), (1, .int x1), (2, .int x2)] [] h := by
  unfold F_X3_findBest_16 at e
  refine at_aload_n hX rfl rfl dX3_findBest_16 ?_
  refine at_iload_n hX rfl rfl dX3_findBest_17 ?_
  obtain ⟨h18, eh18, e⟩ := bd_some e
  refine pf_X3_47 hX dX3_findBest_18 ?_
  refine at_th eh18 ?_
  refine at_aload_n hX rfl rfl dX3_findBest_21 ?_
  refine at_iload_n hX rfl rfl dX3_findBest_22 ?_
  obtain ⟨h23, eh23, e⟩ := bd_some e
  refine pf_X3_57 hX dX3_findBest_23 ?_
  refine at_th eh23 ?_
  refine at_aload_n hX rfl rfl dX3_findBest_26 ?_
  refine at_iconst hX (v := 0) (by decide) dX3_findBest_27 ?_
  obtain ⟨h28, eh28, e⟩ := bd_some e
  refine pf_X3_51 hX dX3_findBest_28 ?_
  refine at_th eh28 ?_
  refine at_aload_n hX rfl rfl dX3_findBest_31 ?_
  refine at_iconst hX (v := 0) (by decide) dX3_findBest_32 ?_
  obtain ⟨h33, eh33, e⟩ := bd_some e
  refine pf_X3_54 hX dX3_findBest_33 ?_
  refine at_th eh33 ?_
  refine at_aload_n hX rfl rfl dX3_findBest_36 ?_
  obtain ⟨h37, e1, e⟩ := ob_some e
  refine at_callV0 hX cv_X3_60 (by decide) (c_X3_collectCells _ _  _ e1) (Nat.le_of_ble_eq_true rfl) dX3_findBest_37 ?_
  refine at_aload_n hX rfl rfl dX3_findBest_40 ?_
  refine gf_X3_63 hX dX3_findBest_41 ?_
  refine at_bipush hX (v := 16) (by decide) dX3_findBest_44 ?_
  refine at_icmp_gt hX (tgt := 69) (by decide) dX3_findBest_46 (fun c46 => ?_) (fun c46 => ?_)
  · replace e := ip_ c46 e
    exact at_sub [0] rfl ((A_X3_findBest_69 hn hX hR) _ e)
  · replace e := in_ c46 e
    refine at_aload_n hX rfl rfl dX3_findBest_49 ?_
    obtain ⟨h50, e1, e⟩ := ob_some e
    refine at_callV0 hX cv_X3_66 (by decide) (c_X3_weighPairs _ _  _ e1) (Nat.le_of_ble_eq_true rfl) dX3_findBest_50 ?_
    refine at_aload_n hX rfl rfl dX3_findBest_53 ?_
    obtain ⟨h54, e1, e⟩ := ob_some e
    refine at_callV0 hX cv_X3_69 (by decide) (c_X3_findFits _ _  _ e1) (Nat.le_of_ble_eq_true rfl) dX3_findBest_54 ?_
    refine at_aload_n hX rfl rfl dX3_findBest_57 ?_
    refine gf_X3_30 hX dX3_findBest_58 ?_
    refine at_iconst hX (v := 0) (by decide) dX3_findBest_61 ?_
    obtain ⟨h62, e1, e⟩ := ob_some e
    refine at_callS2 hX cv_X3_72 (by decide) (c_J7_fill_53178_28 _ _ _ _ e1) (Nat.le_of_ble_eq_true rfl) dX3_findBest_62 ?_
    refine at_aload_n hX rfl rfl dX3_findBest_65 ?_
    obtain ⟨h66, e1, e⟩ := ob_some e
    refine at_callV0 hX cv_X3_78 (by decide) (c_X3_tell _ _  _ e1) (Nat.le_of_ble_eq_true rfl) dX3_findBest_66 ?_
    exact at_sub [0] rfl ((A_X3_findBest_69 hn hX hR) _ e)
def F_X3_findBest (x1 : Int32) (x2 : Int32) (h : Hp) : Option (Int32 × Hp) := if x1 = gI_ h 206 then if x2 = gI_ h 207 then F_X3_findBest_69 h else F_X3_findBest_16 x1 x2 h else F_X3_findBest_16 x1 x2 h
theorem c_X3_findBest (l : Launch) (G : Gl) (x1 : Int32) (x2 : Int32) (h : Hp) {r : Int32} {h' : Hp} (e : F_X3_findBest x1 x2 h = some (r, h')) : Does l G 46 M_X3_findBest [.ref 3, .int x1, .int x2] h (some (.int r)) h' := by
  refine Does.of (by decide) rfl (Nat.le_of_ble_eq_true rfl) (fun X hl hG hn hX hR => ?_)
  unfold F_X3_findBest at e
  subst hl; subst hG
  show At_ X 0 [(0, .ref 3), (1, .int x1), (2, .int x2)] [] h
  refine at_iload_n hX rfl rfl dX3_findBest_0 ?_
  refine at_aload_n hX rfl rfl dX3_findBest_1 ?_
  refine gf_X3_47 hX dX3_findBest_2 ?_
  refine at_icmp_ne hX (tgt := 16) (by decide) dX3_findBest_5 (fun c5 => ?_) (fun c5 => ?_)
  · replace e := in_ c5 e
    exact at_sub [0, 1, 2] rfl ((A_X3_findBest_16 hn hX hR) _ _ _ e)
  · replace e := ip_ c5 e
    refine at_iload_n hX rfl rfl dX3_findBest_8 ?_
    refine at_aload_n hX rfl rfl dX3_findBest_9 ?_
    refine gf_X3_57 hX dX3_findBest_10 ?_
    refine at_icmp_eq hX (tgt := 69) (by decide) dX3_findBest_13 (fun c13 => ?_) (fun c13 => ?_)
    · replace e := ip_ c13 e
      exact at_sub [0] rfl ((A_X3_findBest_69 hn hX hR) _ e)
    · replace e := in_ c13 e
      exact at_sub [0, 1, 2] rfl ((A_X3_findBest_16 hn hX hR) _ _ _ e)

def F_X4_currentGrip (h : Hp) : Option Int32 := some (gI_ h 259)
theorem c_X4_currentGrip (l : Launch) (G : Gl) (h : Hp) {r : Int32} (e : F_X4_currentGrip  h = some r) : Does l G 1 M_X4_currentGrip [.ref 4] h (some (.int r)) h := by
  refine Does.of (by decide) rfl (Nat.le_of_ble_eq_true rfl) (fun X hl hG hn hX hR => ?_)
  unfold F_X4_currentGrip at e
  subst hl; subst hG
  show At_ X 0 [(0, .ref 4)] [] h
  refine at_aload_n hX rfl rfl dX4_currentGrip_0 ?_
  refine gf_X4_18 hX dX4_currentGrip_1 ?_
  exact at_ireturn hX hR rfl (by cases e; rfl) rfl dX4_currentGrip_4

def F_X4_changeGrip (x1 : Int32) (h : Hp) : Option (Int32 × Hp) := bd_ (sI_ h 259 x1) fun h7 => some (gI_ h 259, h7)
theorem c_X4_changeGrip (l : Launch) (G : Gl) (x1 : Int32) (h : Hp) {r : Int32} {h' : Hp} (e : F_X4_changeGrip x1 h = some (r, h')) : Does l G 1 M_X4_changeGrip [.ref 4, .int x1] h (some (.int r)) h' := by
  refine Does.of (by decide) rfl (Nat.le_of_ble_eq_true rfl) (fun X hl hG hn hX hR => ?_)
  unfold F_X4_changeGrip at e
  subst hl; subst hG
  show At_ X 0 [(0, .ref 4), (1, .int x1)] [] h
  refine at_aload_n hX rfl rfl dX4_changeGrip_0 ?_
  refine gf_X4_18 hX dX4_changeGrip_1 ?_
  refine at_istore_n hX rfl hn (by decide) dX4_changeGrip_4 ?_
  refine at_aload_n hX rfl rfl dX4_changeGrip_5 ?_
  refine at_iload_n hX rfl rfl dX4_changeGrip_6 ?_
  obtain ⟨h7, eh7, e⟩ := bd_some e
  refine pf_X4_18 hX dX4_changeGrip_7 ?_
  refine at_th eh7 ?_
  refine at_iload_n hX rfl rfl dX4_changeGrip_10 ?_
  exact at_ireturn hX hR rfl (by cases e; rfl) (by cases e; rfl) dX4_changeGrip_11

def F_X6_least (x0 : Int64) : Option Int32 := (F_J13_bitCount_95d88 ((x0 &&& (-x0)) - (1 : Int64))).bind fun v6 => some v6
theorem c_X6_least (l : Launch) (G : Gl) (x0 : Int64) (h : Hp) {r : Int32} (e : F_X6_least x0 = some r) : Does l G 2 M_X6_least [.long x0] h (some (.int r)) h := by
  refine Does.of (by decide) rfl (Nat.le_of_ble_eq_true rfl) (fun X hl hG hn hX hR => ?_)
  unfold F_X6_least at e
  subst hl; subst hG
  show At_ X 0 [(0, .long x0)] [] h
  refine at_lload_n hX rfl rfl dX6_least_0 ?_
  refine at_lload_n hX rfl rfl dX6_least_1 ?_
  refine at_lneg hX dX6_least_2 ?_
  refine at_land hX dX6_least_3 ?_
  refine at_lconst hX (v := 1) (by decide) dX6_least_4 ?_
  refine at_lsub hX dX6_least_5 ?_
  obtain ⟨v6, e1, e⟩ := ob_some e
  refine at_callS1 hX cv_X6_153 (by decide) (c_J13_bitCount_95d88 _ _ _ _ e1) (Nat.le_of_ble_eq_true rfl) dX6_least_6 ?_
  exact at_ireturn hX hR rfl (by cases e; rfl) rfl dX6_least_9

def F_X4_reach_9 (n : Nat) (x3 : Int64) (x5 : Int64) (x7 : Int64) (x9 : Int32) (h : Hp) : Option Int64 := match n with
  | 0 => none
  | n + 1 => if (40 : Int32) ≤ x9 then some x5 else if x7 = (0 : Int64) then some x5 else (F_X6_least x7).bind fun v29 => (F_X2_neighboursOf v29 h).bind fun v32 => bd_ ((v32 &&& x3) &&& (x5 ^^^ (-1 : Int64))) fun y44 => bd_ ((x7 &&& (x7 - (1 : Int64))) ||| y44) fun y56 => (F_X4_reach_9 n) x3 (x5 ||| y44) y56 (x9 + (1 : Int32)) h
theorem A_X4_reach_9 {X : CX} {h : Hp} {r : Int64} (hn : (xc_ X).maxLocals = 12) (hX : Ok_ X RX4 cX4_reach 3) (hR : Rt_ X (some .long) (some (.long r)) h) : ∀ (n : Nat) (x3 : Int64) (x5 : Int64) (x7 : Int64) (x9 : Int32), F_X4_reach_9 n x3 x5 x7 x9 h = some r → At_ X 9 [(0, .ref 4), (3, .long x3), (5, .long x5), (7, .long x7), (9, .int x9)] [] h := by
  intro n
  induction n with
  | zero => intro x3 x5 x7 x9 e; cases e
  | succ n ih =>
    intro x3 x5 x7 x9 e
    rw [F_X4_reach_9] at e
    refine at_iload hX rfl dX4_reach_9 ?_
    refine at_bipush hX (v := 40) (by decide) dX4_reach_11 ?_
    refine at_icmp_ge hX (tgt := 71) (by decide) dX4_reach_13 (fun c13 => ?_) (fun c13 => ?_)
    · replace e := ip_ c13 e
      refine at_lload hX rfl dX4_reach_71 ?_
      exact at_lreturn hX hR (by cases e; rfl) rfl dX4_reach_73
    · replace e := in_ c13 e
      refine at_lload hX rfl dX4_reach_16 ?_
      refine at_lconst hX (v := 0) (by decide) dX4_reach_18 ?_
      refine at_lcmp_eq hX (tgt := 71) (by decide) dX4_reach_19 dX4_reach_20 (fun c19 => ?_) (fun c19 => ?_)
      · replace e := ip_ c19 e
        refine at_lload hX rfl dX4_reach_71 ?_
        exact at_lreturn hX hR (by cases e; rfl) rfl dX4_reach_73
      · replace e := in_ c19 e
        refine at_aload_n hX rfl rfl dX4_reach_23 ?_
        refine gf_X4_22 hX dX4_reach_24 ?_
        refine at_lload hX rfl dX4_reach_27 ?_
        obtain ⟨v29, e1, e⟩ := ob_some e
        refine at_callN1 hX cv_X4_26 (by decide) (c_X6_least _ _ _ _ e1) (Nat.le_of_ble_eq_true rfl) dX4_reach_29 ?_
        obtain ⟨v32, e1, e⟩ := ob_some e
        refine at_callV1 hX cv_X4_30 (by decide) (c_X2_neighboursOf _ _ _ _ e1) (Nat.le_of_ble_eq_true rfl) dX4_reach_32 ?_
        refine at_lload_n hX rfl rfl dX4_reach_35 ?_
        refine at_land hX dX4_reach_36 ?_
        refine at_lload hX rfl dX4_reach_37 ?_
        refine at_ldc2 hX wk_X4_36 dX4_reach_39 ?_
        refine at_lxor hX dX4_reach_42 ?_
        refine at_land hX dX4_reach_43 ?_
        obtain ⟨y44, ey44, e⟩ := bd_some e
        refine at_tl ey44 ?_
        refine at_lstore hX hn (by decide) dX4_reach_44 ?_
        refine at_lload hX rfl dX4_reach_46 ?_
        refine at_lload hX rfl dX4_reach_48 ?_
        refine at_lconst hX (v := 1) (by decide) dX4_reach_50 ?_
        refine at_lsub hX dX4_reach_51 ?_
        refine at_land hX dX4_reach_52 ?_
        refine at_lload hX rfl dX4_reach_53 ?_
        refine at_lor hX dX4_reach_55 ?_
        obtain ⟨y56, ey56, e⟩ := bd_some e
        refine at_tl ey56 ?_
        refine at_lstore hX hn (by decide) dX4_reach_56 ?_
        refine at_lload hX rfl dX4_reach_58 ?_
        refine at_lload hX rfl dX4_reach_60 ?_
        refine at_lor hX dX4_reach_62 ?_
        refine at_lstore hX hn (by decide) dX4_reach_63 ?_
        refine at_iinc hX hn (by decide) rfl (v := 1) (by decide) dX4_reach_65 ?_
        refine at_goto hX (tgt := 9) (by decide) dX4_reach_68 ?_
        exact at_sub [0, 3, 5, 7, 9] rfl (ih _ _ _ _ e)
def F_X4_reach (x1 : Int64) (x3 : Int64) (h : Hp) : Option Int64 := (F_X4_reach_9 FU_) x3 x1 x1 (0 : Int32) h
theorem c_X4_reach (l : Launch) (G : Gl) (x1 : Int64) (x3 : Int64) (h : Hp) {r : Int64} (e : F_X4_reach x1 x3 h = some r) : Does l G 3 M_X4_reach [.ref 4, .long x1, .long x3] h (some (.long r)) h := by
  refine Does.of (by decide) rfl (Nat.le_of_ble_eq_true rfl) (fun X hl hG hn hX hR => ?_)
  unfold F_X4_reach at e
  subst hl; subst hG
  show At_ X 0 [(0, .ref 4), (1, .long x1), (3, .long x3)] [] h
  refine at_lload_n hX rfl rfl dX4_reach_0 ?_
  refine at_lstore hX hn (by decide) dX4_reach_1 ?_
  refine at_lload_n hX rfl rfl dX4_reach_3 ?_
  refine at_lstore hX hn (by decide) dX4_reach_4 ?_
  refine at_iconst hX (v := 0) (by decide) dX4_reach_6 ?_
  refine at_istore hX hn (by decide) dX4_reach_7 ?_
  exact at_sub [0, 3, 5, 7, 9] rfl ((A_X4_reach_9 hn hX hR FU_) _ _ _ _ e)

def F_X4_pieceWith (x1 : Int32) (x2 : Int64) (h : Hp) : Option Int64 := (F_X4_reach ((ls_ (1 : Int64) x1) &&& x2) x2 h).bind fun v7 => some v7
theorem c_X4_pieceWith (l : Launch) (G : Gl) (x1 : Int32) (x2 : Int64) (h : Hp) {r : Int64} (e : F_X4_pieceWith x1 x2 h = some r) : Does l G 4 M_X4_pieceWith [.ref 4, .int x1, .long x2] h (some (.long r)) h := by
  refine Does.of (by decide) rfl (Nat.le_of_ble_eq_true rfl) (fun X hl hG hn hX hR => ?_)
  unfold F_X4_pieceWith at e
  subst hl; subst hG
  show At_ X 0 [(0, .ref 4), (1, .int x1), (2, .long x2)] [] h
  refine at_aload_n hX rfl rfl dX4_pieceWith_0 ?_
  refine at_lconst hX (v := 1) (by decide) dX4_pieceWith_1 ?_
  refine at_iload_n hX rfl rfl dX4_pieceWith_2 ?_
  refine at_lshl hX dX4_pieceWith_3 ?_
  refine at_lload_n hX rfl rfl dX4_pieceWith_4 ?_
  refine at_land hX dX4_pieceWith_5 ?_
  refine at_lload_n hX rfl rfl dX4_pieceWith_6 ?_
  obtain ⟨v7, e1, e⟩ := ob_some e
  refine at_callV2 hX cv_X4_38 (by decide) (c_X4_reach _ _ _ _ _ e1) (Nat.le_of_ble_eq_true rfl) dX4_pieceWith_7 ?_
  exact at_lreturn hX hR (by cases e; rfl) rfl dX4_pieceWith_10

def F_X4_countPieces_13 (n : Nat) (x1 : Int64) (x3 : Int32) (x4 : Int32) (h : Hp) : Option Int32 := match n with
  | 0 => none
  | n + 1 => if (40 : Int32) ≤ x4 then some x3 else if x1 = (0 : Int64) then some x3 else (F_X4_reach (x1 &&& (-x1)) x1 h).bind fun v33 => bd_ (x1 &&& (v33 ^^^ (-1 : Int64))) fun y41 => (F_X4_countPieces_13 n) y41 (x3 + (1 : Int32)) (x4 + (1 : Int32)) h
theorem A_X4_countPieces_13 {X : CX} {h : Hp} {r : Int32} (hn : (xc_ X).maxLocals = 5) (hX : Ok_ X RX4 cX4_countPieces 4) (hR : Rt_ X (some .int) (some (.int r)) h) : ∀ (n : Nat) (x1 : Int64) (x3 : Int32) (x4 : Int32), F_X4_countPieces_13 n x1 x3 x4 h = some r → At_ X 13 [(0, .ref 4), (1, .long x1), (3, .int x3), (4, .int x4)] [] h := by
  intro n
  induction n with
  | zero => intro x1 x3 x4 e; cases e
  | succ n ih =>
    intro x1 x3 x4 e
    rw [F_X4_countPieces_13] at e
    refine at_iload hX rfl dX4_countPieces_13 ?_
    refine at_bipush hX (v := 40) (by decide) dX4_countPieces_15 ?_
    refine at_icmp_ge hX (tgt := 51) (by decide) dX4_countPieces_17 (fun c17 => ?_) (fun c17 => ?_)
    · replace e := ip_ c17 e
      refine at_iload_n hX rfl rfl dX4_countPieces_51 ?_
      exact at_ireturn hX hR rfl (by cases e; rfl) rfl dX4_countPieces_52
    · replace e := in_ c17 e
      refine at_lload_n hX rfl rfl dX4_countPieces_20 ?_
      refine at_lconst hX (v := 0) (by decide) dX4_countPieces_21 ?_
      refine at_lcmp_eq hX (tgt := 51) (by decide) dX4_countPieces_22 dX4_countPieces_23 (fun c22 => ?_) (fun c22 => ?_)
      · replace e := ip_ c22 e
        refine at_iload_n hX rfl rfl dX4_countPieces_51 ?_
        exact at_ireturn hX hR rfl (by cases e; rfl) rfl dX4_countPieces_52
      · replace e := in_ c22 e
        refine at_lload_n hX rfl rfl dX4_countPieces_26 ?_
        refine at_aload_n hX rfl rfl dX4_countPieces_27 ?_
        refine at_lload_n hX rfl rfl dX4_countPieces_28 ?_
        refine at_lload_n hX rfl rfl dX4_countPieces_29 ?_
        refine at_lneg hX dX4_countPieces_30 ?_
        refine at_land hX dX4_countPieces_31 ?_
        refine at_lload_n hX rfl rfl dX4_countPieces_32 ?_
        obtain ⟨v33, e1, e⟩ := ob_some e
        refine at_callV2 hX cv_X4_38 (by decide) (c_X4_reach _ _ _ _ _ e1) (Nat.le_of_ble_eq_true rfl) dX4_countPieces_33 ?_
        refine at_ldc2 hX wk_X4_36 dX4_countPieces_36 ?_
        refine at_lxor hX dX4_countPieces_39 ?_
        refine at_land hX dX4_countPieces_40 ?_
        obtain ⟨y41, ey41, e⟩ := bd_some e
        refine at_tl ey41 ?_
        refine at_lstore_n hX rfl hn (by decide) dX4_countPieces_41 ?_
        refine at_iinc hX hn (by decide) rfl (v := 1) (by decide) dX4_countPieces_42 ?_
        refine at_iinc hX hn (by decide) rfl (v := 1) (by decide) dX4_countPieces_45 ?_
        refine at_goto hX (tgt := 13) (by decide) dX4_countPieces_48 ?_
        exact at_sub [0, 1, 3, 4] rfl (ih _ _ _ e)
def F_X4_countPieces (h : Hp) : Option Int32 := (F_X2_there  h).bind fun v4 => (F_X4_countPieces_13 FU_) v4 (0 : Int32) (0 : Int32) h
theorem c_X4_countPieces (l : Launch) (G : Gl) (h : Hp) {r : Int32} (e : F_X4_countPieces  h = some r) : Does l G 4 M_X4_countPieces [.ref 4] h (some (.int r)) h := by
  refine Does.of (by decide) rfl (Nat.le_of_ble_eq_true rfl) (fun X hl hG hn hX hR => ?_)
  unfold F_X4_countPieces at e
  subst hl; subst hG
  show At_ X 0 [(0, .ref 4)] [] h
  refine at_aload_n hX rfl rfl dX4_countPieces_0 ?_
  refine gf_X4_22 hX dX4_countPieces_1 ?_
  obtain ⟨v4, e1, e⟩ := ob_some e
  refine at_callV0 hX cv_X4_42 (by decide) (c_X2_there _ _  _ e1) (Nat.le_of_ble_eq_true rfl) dX4_countPieces_4 ?_
  refine at_lstore_n hX rfl hn (by decide) dX4_countPieces_7 ?_
  refine at_iconst hX (v := 0) (by decide) dX4_countPieces_8 ?_
  refine at_istore_n hX rfl hn (by decide) dX4_countPieces_9 ?_
  refine at_iconst hX (v := 0) (by decide) dX4_countPieces_10 ?_
  refine at_istore hX hn (by decide) dX4_countPieces_11 ?_
  exact at_sub [0, 1, 3, 4] rfl ((A_X4_countPieces_13 hn hX hR FU_) _ _ _ e)

def F_X4_floats (x1 : Int64) (h : Hp) : Option Int32 := (F_X2_ground  h).bind fun v5 => if x1 &&& v5 = (0 : Int64) then some (1 : Int32) else some (0 : Int32)
theorem c_X4_floats (l : Launch) (G : Gl) (x1 : Int64) (h : Hp) {r : Int32} (e : F_X4_floats x1 h = some r) : Does l G 2 M_X4_floats [.ref 4, .long x1] h (some (.int r)) h := by
  refine Does.of (by decide) rfl (Nat.le_of_ble_eq_true rfl) (fun X hl hG hn hX hR => ?_)
  unfold F_X4_floats at e
  subst hl; subst hG
  show At_ X 0 [(0, .ref 4), (1, .long x1)] [] h
  refine at_lload_n hX rfl rfl dX4_floats_0 ?_
  refine at_aload_n hX rfl rfl dX4_floats_1 ?_
  refine gf_X4_22 hX dX4_floats_2 ?_
  obtain ⟨v5, e1, e⟩ := ob_some e
  refine at_callV0 hX cv_X4_70 (by decide) (c_X2_ground _ _  _ e1) (Nat.le_of_ble_eq_true rfl) dX4_floats_5 ?_
  refine at_land hX dX4_floats_8 ?_
  refine at_lconst hX (v := 0) (by decide) dX4_floats_9 ?_
  refine at_lcmp_ne hX (tgt := 18) (by decide) dX4_floats_10 dX4_floats_11 (fun c10 => ?_) (fun c10 => ?_)
  · replace e := in_ c10 e
    refine at_iconst hX (v := 0) (by decide) dX4_floats_18 ?_
    exact at_ireturn hX hR rfl (by cases e; rfl) rfl dX4_floats_19
  · replace e := ip_ c10 e
    refine at_iconst hX (v := 1) (by decide) dX4_floats_14 ?_
    refine at_goto hX (tgt := 19) (by decide) dX4_floats_15 ?_
    exact at_ireturn hX hR rfl (by cases e; rfl) rfl dX4_floats_19

def F_X4_countFloating_58 (k13 : Int64 → Int32 → Int32 → Hp → Option Int32) (x1 : Int64) (x3 : Int32) (x4 : Int32) (h : Hp) : Option Int32 := k13 x1 x3 (x4 + (1 : Int32)) h
theorem A_X4_countFloating_58 {X : CX} {h : Hp} {r : Int32} (hn : (xc_ X).maxLocals = 7) (hX : Ok_ X RX4 cX4_countFloating 4) (hR : Rt_ X (some .int) (some (.int r)) h) (k13 : Int64 → Int32 → Int32 → Hp → Option Int32) (hk13 : ∀ (x1 : Int64) (x3 : Int32) (x4 : Int32), k13 x1 x3 x4 h = some r → At_ X 13 [(0, .ref 4), (1, .long x1), (3, .int x3), (4, .int x4)] [] h) (x1 : Int64) (x3 : Int32) (x4 : Int32) (e : F_X4_countFloating_58 k13 x1 x3 x4 h = some r) : At_ X 58 [(0, .ref 4), (1, .long x1), (3, .int x3), (4, .int x4)] [] h := by
  unfold F_X4_countFloating_58 at e
  refine at_iinc hX hn (by decide) rfl (v := 1) (by decide) dX4_countFloating_58 ?_
  refine at_goto hX (tgt := 13) (by decide) dX4_countFloating_61 ?_
  exact at_sub [0, 1, 3, 4] rfl (hk13 _ _ _ e)
def F_X4_countFloating_13 (n : Nat) (x1 : Int64) (x3 : Int32) (x4 : Int32) (h : Hp) : Option Int32 := match n with
  | 0 => none
  | n + 1 => if (40 : Int32) ≤ x4 then some x3 else if x1 = (0 : Int64) then some x3 else (F_X4_reach (x1 &&& (-x1)) x1 h).bind fun v32 => bd_ (x1 &&& (v32 ^^^ (-1 : Int64))) fun y45 => (F_X4_floats v32 h).bind fun v49 => if v49 = (0 : Int32) then (F_X4_countFloating_58 (F_X4_countFloating_13 n)) y45 x3 x4 h else (F_X4_countFloating_58 (F_X4_countFloating_13 n)) y45 (x3 + (1 : Int32)) x4 h
theorem A_X4_countFloating_13 {X : CX} {h : Hp} {r : Int32} (hn : (xc_ X).maxLocals = 7) (hX : Ok_ X RX4 cX4_countFloating 4) (hR : Rt_ X (some .int) (some (.int r)) h) : ∀ (n : Nat) (x1 : Int64) (x3 : Int32) (x4 : Int32), F_X4_countFloating_13 n x1 x3 x4 h = some r → At_ X 13 [(0, .ref 4), (1, .long x1), (3, .int x3), (4, .int x4)] [] h := by
  intro n
  induction n with
  | zero => intro x1 x3 x4 e; cases e
  | succ n ih =>
    intro x1 x3 x4 e
    rw [F_X4_countFloating_13] at e
    refine at_iload hX rfl dX4_countFloating_13 ?_
    refine at_bipush hX (v := 40) (by decide) dX4_countFloating_15 ?_
    refine at_icmp_ge hX (tgt := 64) (by decide) dX4_countFloating_17 (fun c17 => ?_) (fun c17 => ?_)
    · replace e := ip_ c17 e
      refine at_iload_n hX rfl rfl dX4_countFloating_64 ?_
      exact at_ireturn hX hR rfl (by cases e; rfl) rfl dX4_countFloating_65
    · replace e := in_ c17 e
      refine at_lload_n hX rfl rfl dX4_countFloating_20 ?_
      refine at_lconst hX (v := 0) (by decide) dX4_countFloating_21 ?_
      refine at_lcmp_eq hX (tgt := 64) (by decide) dX4_countFloating_22 dX4_countFloating_23 (fun c22 => ?_) (fun c22 => ?_)
      · replace e := ip_ c22 e
        refine at_iload_n hX rfl rfl dX4_countFloating_64 ?_
        exact at_ireturn hX hR rfl (by cases e; rfl) rfl dX4_countFloating_65
      · replace e := in_ c22 e
        refine at_aload_n hX rfl rfl dX4_countFloating_26 ?_
        refine at_lload_n hX rfl rfl dX4_countFloating_27 ?_
        refine at_lload_n hX rfl rfl dX4_countFloating_28 ?_
        refine at_lneg hX dX4_countFloating_29 ?_
        refine at_land hX dX4_countFloating_30 ?_
        refine at_lload_n hX rfl rfl dX4_countFloating_31 ?_
        obtain ⟨v32, e1, e⟩ := ob_some e
        refine at_callV2 hX cv_X4_38 (by decide) (c_X4_reach _ _ _ _ _ e1) (Nat.le_of_ble_eq_true rfl) dX4_countFloating_32 ?_
        refine at_lstore hX hn (by decide) dX4_countFloating_35 ?_
        refine at_lload_n hX rfl rfl dX4_countFloating_37 ?_
        refine at_lload hX rfl dX4_countFloating_38 ?_
        refine at_ldc2 hX wk_X4_36 dX4_countFloating_40 ?_
        refine at_lxor hX dX4_countFloating_43 ?_
        refine at_land hX dX4_countFloating_44 ?_
        obtain ⟨y45, ey45, e⟩ := bd_some e
        refine at_tl ey45 ?_
        refine at_lstore_n hX rfl hn (by decide) dX4_countFloating_45 ?_
        refine at_aload_n hX rfl rfl dX4_countFloating_46 ?_
        refine at_lload hX rfl dX4_countFloating_47 ?_
        obtain ⟨v49, e1, e⟩ := ob_some e
        refine at_callV1 hX cv_X4_46 (by decide) (c_X4_floats _ _ _ _ e1) (Nat.le_of_ble_eq_true rfl) dX4_countFloating_49 ?_
        refine at_if_eq hX (tgt := 58) (by decide) dX4_countFloating_52 (fun c52 => ?_) (fun c52 => ?_)
        · replace e := ip_ c52 e
          exact at_sub [0, 1, 3, 4] rfl ((A_X4_countFloating_58 hn hX hR (F_X4_countFloating_13 n) ih) _ _ _ e)
        · replace e := in_ c52 e
          refine at_iinc hX hn (by decide) rfl (v := 1) (by decide) dX4_countFloating_55 ?_
          exact at_sub [0, 1, 3, 4] rfl ((A_X4_countFloating_58 hn hX hR (F_X4_countFloating_13 n) ih) _ _ _ e)
def F_X4_countFloating (h : Hp) : Option Int32 := (F_X2_there  h).bind fun v4 => (F_X4_countFloating_13 FU_) v4 (0 : Int32) (0 : Int32) h
theorem c_X4_countFloating (l : Launch) (G : Gl) (h : Hp) {r : Int32} (e : F_X4_countFloating  h = some r) : Does l G 4 M_X4_countFloating [.ref 4] h (some (.int r)) h := by
  refine Does.of (by decide) rfl (Nat.le_of_ble_eq_true rfl) (fun X hl hG hn hX hR => ?_)
  unfold F_X4_countFloating at e
  subst hl; subst hG
  show At_ X 0 [(0, .ref 4)] [] h
  refine at_aload_n hX rfl rfl dX4_countFloating_0 ?_
  refine gf_X4_22 hX dX4_countFloating_1 ?_
  obtain ⟨v4, e1, e⟩ := ob_some e
  refine at_callV0 hX cv_X4_42 (by decide) (c_X2_there _ _  _ e1) (Nat.le_of_ble_eq_true rfl) dX4_countFloating_4 ?_
  refine at_lstore_n hX rfl hn (by decide) dX4_countFloating_7 ?_
  refine at_iconst hX (v := 0) (by decide) dX4_countFloating_8 ?_
  refine at_istore_n hX rfl hn (by decide) dX4_countFloating_9 ?_
  refine at_iconst hX (v := 0) (by decide) dX4_countFloating_10 ?_
  refine at_istore hX hn (by decide) dX4_countFloating_11 ?_
  exact at_sub [0, 1, 3, 4] rfl ((A_X4_countFloating_13 hn hX hR FU_) _ _ _ e)

def F_X4_isKey (x1 : Int32) (x2 : Int64) (h : Hp) : Option Int32 := bd_ (x2 &&& ((ls_ (1 : Int64) x1) ^^^ (-1 : Int64))) fun y9 => (F_X4_reach (y9 &&& (-y9)) y9 h).bind fun v20 => if v20 = y9 then some (0 : Int32) else some (1 : Int32)
theorem c_X4_isKey (l : Launch) (G : Gl) (x1 : Int32) (x2 : Int64) (h : Hp) {r : Int32} (e : F_X4_isKey x1 x2 h = some r) : Does l G 4 M_X4_isKey [.ref 4, .int x1, .long x2] h (some (.int r)) h := by
  refine Does.of (by decide) rfl (Nat.le_of_ble_eq_true rfl) (fun X hl hG hn hX hR => ?_)
  unfold F_X4_isKey at e
  subst hl; subst hG
  show At_ X 0 [(0, .ref 4), (1, .int x1), (2, .long x2)] [] h
  refine at_lload_n hX rfl rfl dX4_isKey_0 ?_
  refine at_lconst hX (v := 1) (by decide) dX4_isKey_1 ?_
  refine at_iload_n hX rfl rfl dX4_isKey_2 ?_
  refine at_lshl hX dX4_isKey_3 ?_
  refine at_ldc2 hX wk_X4_36 dX4_isKey_4 ?_
  refine at_lxor hX dX4_isKey_7 ?_
  refine at_land hX dX4_isKey_8 ?_
  obtain ⟨y9, ey9, e⟩ := bd_some e
  refine at_tl ey9 ?_
  refine at_lstore hX hn (by decide) dX4_isKey_9 ?_
  refine at_aload_n hX rfl rfl dX4_isKey_11 ?_
  refine at_lload hX rfl dX4_isKey_12 ?_
  refine at_lload hX rfl dX4_isKey_14 ?_
  refine at_lneg hX dX4_isKey_16 ?_
  refine at_land hX dX4_isKey_17 ?_
  refine at_lload hX rfl dX4_isKey_18 ?_
  obtain ⟨v20, e1, e⟩ := ob_some e
  refine at_callV2 hX cv_X4_38 (by decide) (c_X4_reach _ _ _ _ _ e1) (Nat.le_of_ble_eq_true rfl) dX4_isKey_20 ?_
  refine at_lload hX rfl dX4_isKey_23 ?_
  refine at_lcmp_eq hX (tgt := 33) (by decide) dX4_isKey_25 dX4_isKey_26 (fun c25 => ?_) (fun c25 => ?_)
  · replace e := ip_ c25 e
    refine at_iconst hX (v := 0) (by decide) dX4_isKey_33 ?_
    exact at_ireturn hX hR rfl (by cases e; rfl) rfl dX4_isKey_34
  · replace e := in_ c25 e
    refine at_iconst hX (v := 1) (by decide) dX4_isKey_29 ?_
    refine at_goto hX (tgt := 34) (by decide) dX4_isKey_30 ?_
    exact at_ireturn hX hR rfl (by cases e; rfl) rfl dX4_isKey_34

def F_X4_countKeys_49 (k4 : Int32 → Int32 → Hp → Option Int32) (x1 : Int32) (x2 : Int32) (h : Hp) : Option Int32 := k4 x1 (x2 + (1 : Int32)) h
theorem A_X4_countKeys_49 {X : CX} {h : Hp} {r : Int32} (hn : (xc_ X).maxLocals = 3) (hX : Ok_ X RX4 cX4_countKeys 5) (hR : Rt_ X (some .int) (some (.int r)) h) (k4 : Int32 → Int32 → Hp → Option Int32) (hk4 : ∀ (x1 : Int32) (x2 : Int32), k4 x1 x2 h = some r → At_ X 4 [(0, .ref 4), (1, .int x1), (2, .int x2)] [] h) (x1 : Int32) (x2 : Int32) (e : F_X4_countKeys_49 k4 x1 x2 h = some r) : At_ X 49 [(0, .ref 4), (1, .int x1), (2, .int x2)] [] h := by
  unfold F_X4_countKeys_49 at e
  refine at_iinc hX hn (by decide) rfl (v := 1) (by decide) dX4_countKeys_49 ?_
  refine at_goto hX (tgt := 4) (by decide) dX4_countKeys_52 ?_
  exact at_sub [0, 1, 2] rfl (hk4 _ _ e)
def F_X4_countKeys_4 (n : Nat) (x1 : Int32) (x2 : Int32) (h : Hp) : Option Int32 := match n with
  | 0 => none
  | n + 1 => (F_X2_ever  h).bind fun v9 => if v9 ≤ x2 then some x1 else (F_X2_isThere x2 h).bind fun v20 => if v20 = (0 : Int32) then (F_X4_countKeys_49 (F_X4_countKeys_4 n)) x1 x2 h else (F_X2_there  h).bind fun v34 => (F_X4_pieceWith x2 v34 h).bind fun v37 => (F_X4_isKey x2 v37 h).bind fun v40 => if v40 = (0 : Int32) then (F_X4_countKeys_49 (F_X4_countKeys_4 n)) x1 x2 h else (F_X4_countKeys_49 (F_X4_countKeys_4 n)) (x1 + (1 : Int32)) x2 h
theorem A_X4_countKeys_4 {X : CX} {h : Hp} {r : Int32} (hn : (xc_ X).maxLocals = 3) (hX : Ok_ X RX4 cX4_countKeys 5) (hR : Rt_ X (some .int) (some (.int r)) h) : ∀ (n : Nat) (x1 : Int32) (x2 : Int32), F_X4_countKeys_4 n x1 x2 h = some r → At_ X 4 [(0, .ref 4), (1, .int x1), (2, .int x2)] [] h := by
  intro n
  induction n with
  | zero => intro x1 x2 e; cases e
  | succ n ih =>
    intro x1 x2 e
    rw [F_X4_countKeys_4] at e
    refine at_iload_n hX rfl rfl dX4_countKeys_4 ?_
    refine at_aload_n hX rfl rfl dX4_countKeys_5 ?_
    refine gf_X4_22 hX dX4_countKeys_6 ?_
    obtain ⟨v9, e1, e⟩ := ob_some e
    refine at_callV0 hX cv_X4_50 (by decide) (c_X2_ever _ _  _ e1) (Nat.le_of_ble_eq_true rfl) dX4_countKeys_9 ?_
    refine at_icmp_ge hX (tgt := 55) (by decide) dX4_countKeys_12 (fun c12 => ?_) (fun c12 => ?_)
    · replace e := ip_ c12 e
      refine at_iload_n hX rfl rfl dX4_countKeys_55 ?_
      exact at_ireturn hX hR rfl (by cases e; rfl) rfl dX4_countKeys_56
    · replace e := in_ c12 e
      refine at_aload_n hX rfl rfl dX4_countKeys_15 ?_
      refine gf_X4_22 hX dX4_countKeys_16 ?_
      refine at_iload_n hX rfl rfl dX4_countKeys_19 ?_
      obtain ⟨v20, e1, e⟩ := ob_some e
      refine at_callV1 hX cv_X4_54 (by decide) (c_X2_isThere _ _ _ _ e1) (Nat.le_of_ble_eq_true rfl) dX4_countKeys_20 ?_
      refine at_if_eq hX (tgt := 49) (by decide) dX4_countKeys_23 (fun c23 => ?_) (fun c23 => ?_)
      · replace e := ip_ c23 e
        exact at_sub [0, 1, 2] rfl ((A_X4_countKeys_49 hn hX hR (F_X4_countKeys_4 n) ih) _ _ e)
      · replace e := in_ c23 e
        refine at_aload_n hX rfl rfl dX4_countKeys_26 ?_
        refine at_iload_n hX rfl rfl dX4_countKeys_27 ?_
        refine at_aload_n hX rfl rfl dX4_countKeys_28 ?_
        refine at_iload_n hX rfl rfl dX4_countKeys_29 ?_
        refine at_aload_n hX rfl rfl dX4_countKeys_30 ?_
        refine gf_X4_22 hX dX4_countKeys_31 ?_
        obtain ⟨v34, e1, e⟩ := ob_some e
        refine at_callV0 hX cv_X4_42 (by decide) (c_X2_there _ _  _ e1) (Nat.le_of_ble_eq_true rfl) dX4_countKeys_34 ?_
        obtain ⟨v37, e1, e⟩ := ob_some e
        refine at_callV2 hX cv_X4_58 (by decide) (c_X4_pieceWith _ _ _ _ _ e1) (Nat.le_of_ble_eq_true rfl) dX4_countKeys_37 ?_
        obtain ⟨v40, e1, e⟩ := ob_some e
        refine at_callV2 hX cv_X4_62 (by decide) (c_X4_isKey _ _ _ _ _ e1) (Nat.le_of_ble_eq_true rfl) dX4_countKeys_40 ?_
        refine at_if_eq hX (tgt := 49) (by decide) dX4_countKeys_43 (fun c43 => ?_) (fun c43 => ?_)
        · replace e := ip_ c43 e
          exact at_sub [0, 1, 2] rfl ((A_X4_countKeys_49 hn hX hR (F_X4_countKeys_4 n) ih) _ _ e)
        · replace e := in_ c43 e
          refine at_iinc hX hn (by decide) rfl (v := 1) (by decide) dX4_countKeys_46 ?_
          exact at_sub [0, 1, 2] rfl ((A_X4_countKeys_49 hn hX hR (F_X4_countKeys_4 n) ih) _ _ e)
def F_X4_countKeys (h : Hp) : Option Int32 := (F_X4_countKeys_4 FU_) (0 : Int32) (0 : Int32) h
theorem c_X4_countKeys (l : Launch) (G : Gl) (h : Hp) {r : Int32} (e : F_X4_countKeys  h = some r) : Does l G 5 M_X4_countKeys [.ref 4] h (some (.int r)) h := by
  refine Does.of (by decide) rfl (Nat.le_of_ble_eq_true rfl) (fun X hl hG hn hX hR => ?_)
  unfold F_X4_countKeys at e
  subst hl; subst hG
  show At_ X 0 [(0, .ref 4)] [] h
  refine at_iconst hX (v := 0) (by decide) dX4_countKeys_0 ?_
  refine at_istore_n hX rfl hn (by decide) dX4_countKeys_1 ?_
  refine at_iconst hX (v := 0) (by decide) dX4_countKeys_2 ?_
  refine at_istore_n hX rfl hn (by decide) dX4_countKeys_3 ?_
  exact at_sub [0, 1, 2] rfl ((A_X4_countKeys_4 hn hX hR FU_) _ _ e)

def F_X4_pieceNumbered_23 (n : Nat) (x1 : Int32) (x2 : Int64) (x4 : Int32) (h : Hp) : Option Int64 := match n with
  | 0 => none
  | n + 1 => if x1 ≤ x4 then (F_X4_reach (x2 &&& (-x2)) x2 h).bind fun v63 => some v63 else if x2 = (0 : Int64) then (F_X4_reach (x2 &&& (-x2)) x2 h).bind fun v63 => some v63 else (F_X4_reach (x2 &&& (-x2)) x2 h).bind fun v42 => bd_ (x2 &&& (v42 ^^^ (-1 : Int64))) fun y50 => (F_X4_pieceNumbered_23 n) x1 y50 (x4 + (1 : Int32)) h
theorem A_X4_pieceNumbered_23 {X : CX} {h : Hp} {r : Int64} (hn : (xc_ X).maxLocals = 5) (hX : Ok_ X RX4 cX4_pieceNumbered 4) (hR : Rt_ X (some .long) (some (.long r)) h) : ∀ (n : Nat) (x1 : Int32) (x2 : Int64) (x4 : Int32), F_X4_pieceNumbered_23 n x1 x2 x4 h = some r → At_ X 23 [(0, .ref 4), (1, .int x1), (2, .long x2), (4, .int x4)] [] h := by
  intro n
  induction n with
  | zero => intro x1 x2 x4 e; cases e
  | succ n ih =>
    intro x1 x2 x4 e
    rw [F_X4_pieceNumbered_23] at e
    refine at_iload hX rfl dX4_pieceNumbered_23 ?_
    refine at_iload_n hX rfl rfl dX4_pieceNumbered_25 ?_
    refine at_icmp_ge hX (tgt := 57) (by decide) dX4_pieceNumbered_26 (fun c26 => ?_) (fun c26 => ?_)
    · replace e := ip_ c26 e
      refine at_aload_n hX rfl rfl dX4_pieceNumbered_57 ?_
      refine at_lload_n hX rfl rfl dX4_pieceNumbered_58 ?_
      refine at_lload_n hX rfl rfl dX4_pieceNumbered_59 ?_
      refine at_lneg hX dX4_pieceNumbered_60 ?_
      refine at_land hX dX4_pieceNumbered_61 ?_
      refine at_lload_n hX rfl rfl dX4_pieceNumbered_62 ?_
      obtain ⟨v63, e1, e⟩ := ob_some e
      refine at_callV2 hX cv_X4_38 (by decide) (c_X4_reach _ _ _ _ _ e1) (Nat.le_of_ble_eq_true rfl) dX4_pieceNumbered_63 ?_
      exact at_lreturn hX hR (by cases e; rfl) rfl dX4_pieceNumbered_66
    · replace e := in_ c26 e
      refine at_lload_n hX rfl rfl dX4_pieceNumbered_29 ?_
      refine at_lconst hX (v := 0) (by decide) dX4_pieceNumbered_30 ?_
      refine at_lcmp_eq hX (tgt := 57) (by decide) dX4_pieceNumbered_31 dX4_pieceNumbered_32 (fun c31 => ?_) (fun c31 => ?_)
      · replace e := ip_ c31 e
        refine at_aload_n hX rfl rfl dX4_pieceNumbered_57 ?_
        refine at_lload_n hX rfl rfl dX4_pieceNumbered_58 ?_
        refine at_lload_n hX rfl rfl dX4_pieceNumbered_59 ?_
        refine at_lneg hX dX4_pieceNumbered_60 ?_
        refine at_land hX dX4_pieceNumbered_61 ?_
        refine at_lload_n hX rfl rfl dX4_pieceNumbered_62 ?_
        obtain ⟨v63, e1, e⟩ := ob_some e
        refine at_callV2 hX cv_X4_38 (by decide) (c_X4_reach _ _ _ _ _ e1) (Nat.le_of_ble_eq_true rfl) dX4_pieceNumbered_63 ?_
        exact at_lreturn hX hR (by cases e; rfl) rfl dX4_pieceNumbered_66
      · replace e := in_ c31 e
        refine at_lload_n hX rfl rfl dX4_pieceNumbered_35 ?_
        refine at_aload_n hX rfl rfl dX4_pieceNumbered_36 ?_
        refine at_lload_n hX rfl rfl dX4_pieceNumbered_37 ?_
        refine at_lload_n hX rfl rfl dX4_pieceNumbered_38 ?_
        refine at_lneg hX dX4_pieceNumbered_39 ?_
        refine at_land hX dX4_pieceNumbered_40 ?_
        refine at_lload_n hX rfl rfl dX4_pieceNumbered_41 ?_
        obtain ⟨v42, e1, e⟩ := ob_some e
        refine at_callV2 hX cv_X4_38 (by decide) (c_X4_reach _ _ _ _ _ e1) (Nat.le_of_ble_eq_true rfl) dX4_pieceNumbered_42 ?_
        refine at_ldc2 hX wk_X4_36 dX4_pieceNumbered_45 ?_
        refine at_lxor hX dX4_pieceNumbered_48 ?_
        refine at_land hX dX4_pieceNumbered_49 ?_
        obtain ⟨y50, ey50, e⟩ := bd_some e
        refine at_tl ey50 ?_
        refine at_lstore_n hX rfl hn (by decide) dX4_pieceNumbered_50 ?_
        refine at_iinc hX hn (by decide) rfl (v := 1) (by decide) dX4_pieceNumbered_51 ?_
        refine at_goto hX (tgt := 23) (by decide) dX4_pieceNumbered_54 ?_
        exact at_sub [0, 1, 2, 4] rfl (ih _ _ _ e)
def F_X4_pieceNumbered (x1 : Int32) (h : Hp) : Option Int64 := if x1 < (0 : Int32) then some (0 : Int64) else if x1 < (40 : Int32) then (F_X2_there  h).bind fun v16 => (F_X4_pieceNumbered_23 FU_) x1 v16 (0 : Int32) h else some (0 : Int64)
theorem c_X4_pieceNumbered (l : Launch) (G : Gl) (x1 : Int32) (h : Hp) {r : Int64} (e : F_X4_pieceNumbered x1 h = some r) : Does l G 4 M_X4_pieceNumbered [.ref 4, .int x1] h (some (.long r)) h := by
  refine Does.of (by decide) rfl (Nat.le_of_ble_eq_true rfl) (fun X hl hG hn hX hR => ?_)
  unfold F_X4_pieceNumbered at e
  subst hl; subst hG
  show At_ X 0 [(0, .ref 4), (1, .int x1)] [] h
  refine at_iload_n hX rfl rfl dX4_pieceNumbered_0 ?_
  refine at_if_lt hX (tgt := 10) (by decide) dX4_pieceNumbered_1 (fun c1 => ?_) (fun c1 => ?_)
  · replace e := ip_ c1 e
    refine at_lconst hX (v := 0) (by decide) dX4_pieceNumbered_10 ?_
    exact at_lreturn hX hR (by cases e; rfl) rfl dX4_pieceNumbered_11
  · replace e := in_ c1 e
    refine at_iload_n hX rfl rfl dX4_pieceNumbered_4 ?_
    refine at_bipush hX (v := 40) (by decide) dX4_pieceNumbered_5 ?_
    refine at_icmp_lt hX (tgt := 12) (by decide) dX4_pieceNumbered_7 (fun c7 => ?_) (fun c7 => ?_)
    · replace e := ip_ c7 e
      refine at_aload_n hX rfl rfl dX4_pieceNumbered_12 ?_
      refine gf_X4_22 hX dX4_pieceNumbered_13 ?_
      obtain ⟨v16, e1, e⟩ := ob_some e
      refine at_callV0 hX cv_X4_42 (by decide) (c_X2_there _ _  _ e1) (Nat.le_of_ble_eq_true rfl) dX4_pieceNumbered_16 ?_
      refine at_lstore_n hX rfl hn (by decide) dX4_pieceNumbered_19 ?_
      refine at_iconst hX (v := 0) (by decide) dX4_pieceNumbered_20 ?_
      refine at_istore hX hn (by decide) dX4_pieceNumbered_21 ?_
      exact at_sub [0, 1, 2, 4] rfl ((A_X4_pieceNumbered_23 hn hX hR FU_) _ _ _ e)
    · replace e := in_ c7 e
      refine at_lconst hX (v := 0) (by decide) dX4_pieceNumbered_10 ?_
      exact at_lreturn hX hR (by cases e; rfl) rfl dX4_pieceNumbered_11

def F_X4_numberOfPiece_14 (n : Nat) (x1 : Int32) (x2 : Int64) (x4 : Int32) (x5 : Int32) (h : Hp) : Option Int32 := match n with
  | 0 => none
  | n + 1 => if (40 : Int32) ≤ x5 then some x4 else if x2 = (0 : Int64) then some x4 else (F_X4_reach (x2 &&& (-x2)) x2 h).bind fun v33 => if (lu_ v33 x1) &&& (1 : Int64) = (1 : Int64) then some x4 else bd_ (x2 &&& (v33 ^^^ (-1 : Int64))) fun y60 => (F_X4_numberOfPiece_14 n) x1 y60 (x4 + (1 : Int32)) (x5 + (1 : Int32)) h
theorem A_X4_numberOfPiece_14 {X : CX} {h : Hp} {r : Int32} (hn : (xc_ X).maxLocals = 8) (hX : Ok_ X RX4 cX4_numberOfPiece 4) (hR : Rt_ X (some .int) (some (.int r)) h) : ∀ (n : Nat) (x1 : Int32) (x2 : Int64) (x4 : Int32) (x5 : Int32), F_X4_numberOfPiece_14 n x1 x2 x4 x5 h = some r → At_ X 14 [(0, .ref 4), (1, .int x1), (2, .long x2), (4, .int x4), (5, .int x5)] [] h := by
  intro n
  induction n with
  | zero => intro x1 x2 x4 x5 e; cases e
  | succ n ih =>
    intro x1 x2 x4 x5 e
    rw [F_X4_numberOfPiece_14] at e
    refine at_iload hX rfl dX4_numberOfPiece_14 ?_
    refine at_bipush hX (v := 40) (by decide) dX4_numberOfPiece_16 ?_
    refine at_icmp_ge hX (tgt := 70) (by decide) dX4_numberOfPiece_18 (fun c18 => ?_) (fun c18 => ?_)
    · replace e := ip_ c18 e
      refine at_iload hX rfl dX4_numberOfPiece_70 ?_
      exact at_ireturn hX hR rfl (by cases e; rfl) rfl dX4_numberOfPiece_72
    · replace e := in_ c18 e
      refine at_lload_n hX rfl rfl dX4_numberOfPiece_21 ?_
      refine at_lconst hX (v := 0) (by decide) dX4_numberOfPiece_22 ?_
      refine at_lcmp_eq hX (tgt := 70) (by decide) dX4_numberOfPiece_23 dX4_numberOfPiece_24 (fun c23 => ?_) (fun c23 => ?_)
      · replace e := ip_ c23 e
        refine at_iload hX rfl dX4_numberOfPiece_70 ?_
        exact at_ireturn hX hR rfl (by cases e; rfl) rfl dX4_numberOfPiece_72
      · replace e := in_ c23 e
        refine at_aload_n hX rfl rfl dX4_numberOfPiece_27 ?_
        refine at_lload_n hX rfl rfl dX4_numberOfPiece_28 ?_
        refine at_lload_n hX rfl rfl dX4_numberOfPiece_29 ?_
        refine at_lneg hX dX4_numberOfPiece_30 ?_
        refine at_land hX dX4_numberOfPiece_31 ?_
        refine at_lload_n hX rfl rfl dX4_numberOfPiece_32 ?_
        obtain ⟨v33, e1, e⟩ := ob_some e
        refine at_callV2 hX cv_X4_38 (by decide) (c_X4_reach _ _ _ _ _ e1) (Nat.le_of_ble_eq_true rfl) dX4_numberOfPiece_33 ?_
        refine at_lstore hX hn (by decide) dX4_numberOfPiece_36 ?_
        refine at_lload hX rfl dX4_numberOfPiece_38 ?_
        refine at_iload_n hX rfl rfl dX4_numberOfPiece_40 ?_
        refine at_lushr hX dX4_numberOfPiece_41 ?_
        refine at_lconst hX (v := 1) (by decide) dX4_numberOfPiece_42 ?_
        refine at_land hX dX4_numberOfPiece_43 ?_
        refine at_lconst hX (v := 1) (by decide) dX4_numberOfPiece_44 ?_
        refine at_lcmp_ne hX (tgt := 52) (by decide) dX4_numberOfPiece_45 dX4_numberOfPiece_46 (fun c45 => ?_) (fun c45 => ?_)
        · replace e := in_ c45 e
          refine at_lload_n hX rfl rfl dX4_numberOfPiece_52 ?_
          refine at_lload hX rfl dX4_numberOfPiece_53 ?_
          refine at_ldc2 hX wk_X4_36 dX4_numberOfPiece_55 ?_
          refine at_lxor hX dX4_numberOfPiece_58 ?_
          refine at_land hX dX4_numberOfPiece_59 ?_
          obtain ⟨y60, ey60, e⟩ := bd_some e
          refine at_tl ey60 ?_
          refine at_lstore_n hX rfl hn (by decide) dX4_numberOfPiece_60 ?_
          refine at_iinc hX hn (by decide) rfl (v := 1) (by decide) dX4_numberOfPiece_61 ?_
          refine at_iinc hX hn (by decide) rfl (v := 1) (by decide) dX4_numberOfPiece_64 ?_
          refine at_goto hX (tgt := 14) (by decide) dX4_numberOfPiece_67 ?_
          exact at_sub [0, 1, 2, 4, 5] rfl (ih _ _ _ _ e)
        · replace e := ip_ c45 e
          refine at_iload hX rfl dX4_numberOfPiece_49 ?_
          exact at_ireturn hX hR rfl (by cases e; rfl) rfl dX4_numberOfPiece_51
def F_X4_numberOfPiece (x1 : Int32) (h : Hp) : Option Int32 := (F_X2_there  h).bind fun v4 => (F_X4_numberOfPiece_14 FU_) x1 v4 (0 : Int32) (0 : Int32) h
theorem c_X4_numberOfPiece (l : Launch) (G : Gl) (x1 : Int32) (h : Hp) {r : Int32} (e : F_X4_numberOfPiece x1 h = some r) : Does l G 4 M_X4_numberOfPiece [.ref 4, .int x1] h (some (.int r)) h := by
  refine Does.of (by decide) rfl (Nat.le_of_ble_eq_true rfl) (fun X hl hG hn hX hR => ?_)
  unfold F_X4_numberOfPiece at e
  subst hl; subst hG
  show At_ X 0 [(0, .ref 4), (1, .int x1)] [] h
  refine at_aload_n hX rfl rfl dX4_numberOfPiece_0 ?_
  refine gf_X4_22 hX dX4_numberOfPiece_1 ?_
  obtain ⟨v4, e1, e⟩ := ob_some e
  refine at_callV0 hX cv_X4_42 (by decide) (c_X2_there _ _  _ e1) (Nat.le_of_ble_eq_true rfl) dX4_numberOfPiece_4 ?_
  refine at_lstore_n hX rfl hn (by decide) dX4_numberOfPiece_7 ?_
  refine at_iconst hX (v := 0) (by decide) dX4_numberOfPiece_8 ?_
  refine at_istore hX hn (by decide) dX4_numberOfPiece_9 ?_
  refine at_iconst hX (v := 0) (by decide) dX4_numberOfPiece_11 ?_
  refine at_istore hX hn (by decide) dX4_numberOfPiece_12 ?_
  exact at_sub [0, 1, 2, 4, 5] rfl ((A_X4_numberOfPiece_14 hn hX hR FU_) _ _ _ _ e)

def F_X4_weight_8 (n : Nat) (x3 : Int32) (x4 : Int64) (x6 : Int32) (h : Hp) : Option Int32 := match n with
  | 0 => none
  | n + 1 => if (40 : Int32) ≤ x6 then some x3 else if x4 = (0 : Int64) then some x3 else (F_X6_least x4).bind fun v29 => (F_X2_sizeOf v29 h).bind fun v32 => bd_ (x4 &&& (x4 - (1 : Int64))) fun y44 => (F_X4_weight_8 n) (x3 + v32) y44 (x6 + (1 : Int32)) h
theorem A_X4_weight_8 {X : CX} {h : Hp} {r : Int32} (hn : (xc_ X).maxLocals = 7) (hX : Ok_ X RX4 cX4_weight 3) (hR : Rt_ X (some .int) (some (.int r)) h) : ∀ (n : Nat) (x3 : Int32) (x4 : Int64) (x6 : Int32), F_X4_weight_8 n x3 x4 x6 h = some r → At_ X 8 [(0, .ref 4), (3, .int x3), (4, .long x4), (6, .int x6)] [] h := by
  intro n
  induction n with
  | zero => intro x3 x4 x6 e; cases e
  | succ n ih =>
    intro x3 x4 x6 e
    rw [F_X4_weight_8] at e
    refine at_iload hX rfl dX4_weight_8 ?_
    refine at_bipush hX (v := 40) (by decide) dX4_weight_10 ?_
    refine at_icmp_ge hX (tgt := 52) (by decide) dX4_weight_12 (fun c12 => ?_) (fun c12 => ?_)
    · replace e := ip_ c12 e
      refine at_iload_n hX rfl rfl dX4_weight_52 ?_
      exact at_ireturn hX hR rfl (by cases e; rfl) rfl dX4_weight_53
    · replace e := in_ c12 e
      refine at_lload hX rfl dX4_weight_15 ?_
      refine at_lconst hX (v := 0) (by decide) dX4_weight_17 ?_
      refine at_lcmp_eq hX (tgt := 52) (by decide) dX4_weight_18 dX4_weight_19 (fun c18 => ?_) (fun c18 => ?_)
      · replace e := ip_ c18 e
        refine at_iload_n hX rfl rfl dX4_weight_52 ?_
        exact at_ireturn hX hR rfl (by cases e; rfl) rfl dX4_weight_53
      · replace e := in_ c18 e
        refine at_iload_n hX rfl rfl dX4_weight_22 ?_
        refine at_aload_n hX rfl rfl dX4_weight_23 ?_
        refine gf_X4_22 hX dX4_weight_24 ?_
        refine at_lload hX rfl dX4_weight_27 ?_
        obtain ⟨v29, e1, e⟩ := ob_some e
        refine at_callN1 hX cv_X4_26 (by decide) (c_X6_least _ _ _ _ e1) (Nat.le_of_ble_eq_true rfl) dX4_weight_29 ?_
        obtain ⟨v32, e1, e⟩ := ob_some e
        refine at_callV1 hX cv_X4_66 (by decide) (c_X2_sizeOf _ _ _ _ e1) (Nat.le_of_ble_eq_true rfl) dX4_weight_32 ?_
        refine at_iadd hX dX4_weight_35 ?_
        refine at_istore_n hX rfl hn (by decide) dX4_weight_36 ?_
        refine at_lload hX rfl dX4_weight_37 ?_
        refine at_lload hX rfl dX4_weight_39 ?_
        refine at_lconst hX (v := 1) (by decide) dX4_weight_41 ?_
        refine at_lsub hX dX4_weight_42 ?_
        refine at_land hX dX4_weight_43 ?_
        obtain ⟨y44, ey44, e⟩ := bd_some e
        refine at_tl ey44 ?_
        refine at_lstore hX hn (by decide) dX4_weight_44 ?_
        refine at_iinc hX hn (by decide) rfl (v := 1) (by decide) dX4_weight_46 ?_
        refine at_goto hX (tgt := 8) (by decide) dX4_weight_49 ?_
        exact at_sub [0, 3, 4, 6] rfl (ih _ _ _ e)
def F_X4_weight (x1 : Int64) (h : Hp) : Option Int32 := (F_X4_weight_8 FU_) (0 : Int32) x1 (0 : Int32) h
theorem c_X4_weight (l : Launch) (G : Gl) (x1 : Int64) (h : Hp) {r : Int32} (e : F_X4_weight x1 h = some r) : Does l G 3 M_X4_weight [.ref 4, .long x1] h (some (.int r)) h := by
  refine Does.of (by decide) rfl (Nat.le_of_ble_eq_true rfl) (fun X hl hG hn hX hR => ?_)
  unfold F_X4_weight at e
  subst hl; subst hG
  show At_ X 0 [(0, .ref 4), (1, .long x1)] [] h
  refine at_iconst hX (v := 0) (by decide) dX4_weight_0 ?_
  refine at_istore_n hX rfl hn (by decide) dX4_weight_1 ?_
  refine at_lload_n hX rfl rfl dX4_weight_2 ?_
  refine at_lstore hX hn (by decide) dX4_weight_3 ?_
  refine at_iconst hX (v := 0) (by decide) dX4_weight_5 ?_
  refine at_istore hX hn (by decide) dX4_weight_6 ?_
  exact at_sub [0, 3, 4, 6] rfl ((A_X4_weight_8 hn hX hR FU_) _ _ _ e)

def F_X4_clearEdges (h : Hp) : Option Hp := (F_J7_fill_53178_31 (7 : Int32) h).bind fun h6 => (F_J7_fill_53178_32 (-1 : Int32) h6).bind fun h14 => some h14
theorem c_X4_clearEdges (l : Launch) (G : Gl) (h : Hp) {h' : Hp} (e : F_X4_clearEdges  h = some h') : Does l G 2 M_X4_clearEdges [.ref 4] h none h' := by
  refine Does.of (by decide) rfl (Nat.le_of_ble_eq_true rfl) (fun X hl hG hn hX hR => ?_)
  unfold F_X4_clearEdges at e
  subst hl; subst hG
  show At_ X 0 [(0, .ref 4)] [] h
  refine at_aload_n hX rfl rfl dX4_clearEdges_0 ?_
  refine gf_X4_9 hX dX4_clearEdges_1 ?_
  refine at_bipush hX (v := 7) (by decide) dX4_clearEdges_4 ?_
  obtain ⟨h6, e1, e⟩ := ob_some e
  refine at_callS2 hX cv_X4_97 (by decide) (c_J7_fill_53178_31 _ _ _ _ e1) (Nat.le_of_ble_eq_true rfl) dX4_clearEdges_6 ?_
  refine at_aload_n hX rfl rfl dX4_clearEdges_9 ?_
  refine gf_X4_15 hX dX4_clearEdges_10 ?_
  refine at_iconst hX (v := -1) (by decide) dX4_clearEdges_13 ?_
  obtain ⟨h14, e1, e⟩ := ob_some e
  refine at_callS2 hX cv_X4_97 (by decide) (c_J7_fill_53178_32 _ _ _ _ e1) (Nat.le_of_ble_eq_true rfl) dX4_clearEdges_14 ?_
  exact at_return hX hR rfl (by cases e; rfl) dX4_clearEdges_17

def F_X4_widenEdge (x1 : Int32) (x2 : Int32) (x3 : Int32) (h : Hp) : Option Hp := if x1 < (0 : Int32) then some h else if (6 : Int32) < x1 then some h else rA_ h 31 7 x1 fun v20 => wA_ h 31 7 x1 (mn_ v20 x2) fun h25 => rA_ h25 32 7 x1 fun v36 => wA_ h25 32 7 x1 (mx_ v36 x3) fun h41 => some h41
theorem c_X4_widenEdge (l : Launch) (G : Gl) (x1 : Int32) (x2 : Int32) (x3 : Int32) (h : Hp) {h' : Hp} (e : F_X4_widenEdge x1 x2 x3 h = some h') : Does l G 1 M_X4_widenEdge [.ref 4, .int x1, .int x2, .int x3] h none h' := by
  refine Does.of (by decide) rfl (Nat.le_of_ble_eq_true rfl) (fun X hl hG hn hX hR => ?_)
  unfold F_X4_widenEdge at e
  subst hl; subst hG
  show At_ X 0 [(0, .ref 4), (1, .int x1), (2, .int x2), (3, .int x3)] [] h
  refine at_iload_n hX rfl rfl dX4_widenEdge_0 ?_
  refine at_if_lt hX (tgt := 42) (by decide) dX4_widenEdge_1 (fun c1 => ?_) (fun c1 => ?_)
  · replace e := ip_ c1 e
    exact at_return hX hR rfl (by cases e; rfl) dX4_widenEdge_42
  · replace e := in_ c1 e
    refine at_iload_n hX rfl rfl dX4_widenEdge_4 ?_
    refine at_bipush hX (v := 6) (by decide) dX4_widenEdge_5 ?_
    refine at_icmp_gt hX (tgt := 42) (by decide) dX4_widenEdge_7 (fun c7 => ?_) (fun c7 => ?_)
    · replace e := ip_ c7 e
      exact at_return hX hR rfl (by cases e; rfl) dX4_widenEdge_42
    · replace e := in_ c7 e
      refine at_aload_n hX rfl rfl dX4_widenEdge_10 ?_
      refine gf_X4_9 hX dX4_widenEdge_11 ?_
      refine at_iload_n hX rfl rfl dX4_widenEdge_14 ?_
      refine at_aload_n hX rfl rfl dX4_widenEdge_15 ?_
      refine gf_X4_9 hX dX4_widenEdge_16 ?_
      refine at_iload_n hX rfl rfl dX4_widenEdge_19 ?_
      obtain ⟨hi, v20, ev20, e⟩ := rA_some e
      refine at_iald hX (o := 31) (by decide) rfl hi dX4_widenEdge_20 ?_
      refine at_ti ev20 ?_
      refine at_iload_n hX rfl rfl dX4_widenEdge_21 ?_
      refine at_mmin hX cv_X4_103 (by decide) (Nat.le_of_ble_eq_true rfl) dX4_widenEdge_22 ?_
      obtain ⟨hi, h25, eh25, e⟩ := wA_some e
      refine at_iast hX (o := 31) (by decide) rfl hi dX4_widenEdge_25 ?_
      refine at_th eh25 ?_
      refine at_aload_n hX rfl rfl dX4_widenEdge_26 ?_
      refine gf_X4_15 hX dX4_widenEdge_27 ?_
      refine at_iload_n hX rfl rfl dX4_widenEdge_30 ?_
      refine at_aload_n hX rfl rfl dX4_widenEdge_31 ?_
      refine gf_X4_15 hX dX4_widenEdge_32 ?_
      refine at_iload_n hX rfl rfl dX4_widenEdge_35 ?_
      obtain ⟨hi, v36, ev36, e⟩ := rA_some e
      refine at_iald hX (o := 32) (by decide) rfl hi dX4_widenEdge_36 ?_
      refine at_ti ev36 ?_
      refine at_iload_n hX rfl rfl dX4_widenEdge_37 ?_
      refine at_mmax hX cv_X4_108 (by decide) (Nat.le_of_ble_eq_true rfl) dX4_widenEdge_38 ?_
      obtain ⟨hi, h41, eh41, e⟩ := wA_some e
      refine at_iast hX (o := 32) (by decide) rfl hi dX4_widenEdge_41 ?_
      refine at_th eh41 ?_
      exact at_return hX hR rfl (by cases e; rfl) dX4_widenEdge_42

def F_X4_lineAt (x0 : Int32) (x1 : Int32) (x2 : Int32) (x3 : Int32) : Option Int32 := some ((x0 * x2) + ((x1 - x0) * x3))
theorem c_X4_lineAt (l : Launch) (G : Gl) (x0 : Int32) (x1 : Int32) (x2 : Int32) (x3 : Int32) (h : Hp) {r : Int32} (e : F_X4_lineAt x0 x1 x2 x3 = some r) : Does l G 1 M_X4_lineAt [.int x0, .int x1, .int x2, .int x3] h (some (.int r)) h := by
  refine Does.of (by decide) rfl (Nat.le_of_ble_eq_true rfl) (fun X hl hG hn hX hR => ?_)
  unfold F_X4_lineAt at e
  subst hl; subst hG
  show At_ X 0 [(0, .int x0), (1, .int x1), (2, .int x2), (3, .int x3)] [] h
  refine at_iload_n hX rfl rfl dX4_lineAt_0 ?_
  refine at_iload_n hX rfl rfl dX4_lineAt_1 ?_
  refine at_imul hX dX4_lineAt_2 ?_
  refine at_iload_n hX rfl rfl dX4_lineAt_3 ?_
  refine at_iload_n hX rfl rfl dX4_lineAt_4 ?_
  refine at_isub hX dX4_lineAt_5 ?_
  refine at_iload_n hX rfl rfl dX4_lineAt_6 ?_
  refine at_imul hX dX4_lineAt_7 ?_
  refine at_iadd hX dX4_lineAt_8 ?_
  exact at_ireturn hX hR rfl (by cases e; rfl) rfl dX4_lineAt_9

def F_X4_isWithinEdges_200 (x4 : Int32) (x5 : Int32) (h : Hp) : Option Int32 := if x4 = (0 : Int32) then some (0 : Int32) else if x5 = (0 : Int32) then some (0 : Int32) else some (1 : Int32)
theorem A_X4_isWithinEdges_200 {X : CX} {h : Hp} {r : Int32} (hn : (xc_ X).maxLocals = 13) (hX : Ok_ X RX4 cX4_isWithinEdges 2) (hR : Rt_ X (some .boolean) (some (.int r)) h) (x4 : Int32) (x5 : Int32) (e : F_X4_isWithinEdges_200 x4 x5 h = some r) : At_ X 200 [(4, .int x4), (5, .int x5)] [] h := by
  unfold F_X4_isWithinEdges_200 at e
  refine at_iload hX rfl dX4_isWithinEdges_200 ?_
  refine at_if_eq hX (tgt := 214) (by decide) dX4_isWithinEdges_202 (fun c202 => ?_) (fun c202 => ?_)
  · replace e := ip_ c202 e
    refine at_iconst hX (v := 0) (by decide) dX4_isWithinEdges_214 ?_
    exact at_ireturn hX hR rfl (by cases e; rfl) rfl dX4_isWithinEdges_215
  · replace e := in_ c202 e
    refine at_iload hX rfl dX4_isWithinEdges_205 ?_
    refine at_if_eq hX (tgt := 214) (by decide) dX4_isWithinEdges_207 (fun c207 => ?_) (fun c207 => ?_)
    · replace e := ip_ c207 e
      refine at_iconst hX (v := 0) (by decide) dX4_isWithinEdges_214 ?_
      exact at_ireturn hX hR rfl (by cases e; rfl) rfl dX4_isWithinEdges_215
    · replace e := in_ c207 e
      refine at_iconst hX (v := 1) (by decide) dX4_isWithinEdges_210 ?_
      refine at_goto hX (tgt := 215) (by decide) dX4_isWithinEdges_211 ?_
      exact at_ireturn hX hR rfl (by cases e; rfl) rfl dX4_isWithinEdges_215
def F_X4_isWithinEdges_194 (k9 : Int32 → Int32 → Int32 → Int32 → Int32 → Int32 → Hp → Option Int32) (x1 : Int32) (x2 : Int32) (x3 : Int32) (x4 : Int32) (x5 : Int32) (x6 : Int32) (h : Hp) : Option Int32 := k9 x1 x2 x3 x4 x5 (x6 + (1 : Int32)) h
theorem A_X4_isWithinEdges_194 {X : CX} {h : Hp} {r : Int32} (hn : (xc_ X).maxLocals = 13) (hX : Ok_ X RX4 cX4_isWithinEdges 2) (hR : Rt_ X (some .boolean) (some (.int r)) h) (k9 : Int32 → Int32 → Int32 → Int32 → Int32 → Int32 → Hp → Option Int32) (hk9 : ∀ (x1 : Int32) (x2 : Int32) (x3 : Int32) (x4 : Int32) (x5 : Int32) (x6 : Int32), k9 x1 x2 x3 x4 x5 x6 h = some r → At_ X 9 [(0, .ref 4), (1, .int x1), (2, .int x2), (3, .int x3), (4, .int x4), (5, .int x5), (6, .int x6)] [] h) (x1 : Int32) (x2 : Int32) (x3 : Int32) (x4 : Int32) (x5 : Int32) (x6 : Int32) (e : F_X4_isWithinEdges_194 k9 x1 x2 x3 x4 x5 x6 h = some r) : At_ X 194 [(0, .ref 4), (1, .int x1), (2, .int x2), (3, .int x3), (4, .int x4), (5, .int x5), (6, .int x6)] [] h := by
  unfold F_X4_isWithinEdges_194 at e
  refine at_iinc hX hn (by decide) rfl (v := 1) (by decide) dX4_isWithinEdges_194 ?_
  refine at_goto hX (tgt := 9) (by decide) dX4_isWithinEdges_197 ?_
  exact at_sub [0, 1, 2, 3, 4, 5, 6] rfl (hk9 _ _ _ _ _ _ e)
def F_X4_isWithinEdges_188 (k20 : Int32 → Int32 → Int32 → Int32 → Int32 → Int32 → Int32 → Hp → Option Int32) (x1 : Int32) (x2 : Int32) (x3 : Int32) (x4 : Int32) (x5 : Int32) (x6 : Int32) (x7 : Int32) (h : Hp) : Option Int32 := k20 x1 x2 x3 x4 x5 x6 (x7 + (1 : Int32)) h
theorem A_X4_isWithinEdges_188 {X : CX} {h : Hp} {r : Int32} (hn : (xc_ X).maxLocals = 13) (hX : Ok_ X RX4 cX4_isWithinEdges 2) (hR : Rt_ X (some .boolean) (some (.int r)) h) (k20 : Int32 → Int32 → Int32 → Int32 → Int32 → Int32 → Int32 → Hp → Option Int32) (hk20 : ∀ (x1 : Int32) (x2 : Int32) (x3 : Int32) (x4 : Int32) (x5 : Int32) (x6 : Int32) (x7 : Int32), k20 x1 x2 x3 x4 x5 x6 x7 h = some r → At_ X 20 [(0, .ref 4), (1, .int x1), (2, .int x2), (3, .int x3), (4, .int x4), (5, .int x5), (6, .int x6), (7, .int x7)] [] h) (x1 : Int32) (x2 : Int32) (x3 : Int32) (x4 : Int32) (x5 : Int32) (x6 : Int32) (x7 : Int32) (e : F_X4_isWithinEdges_188 k20 x1 x2 x3 x4 x5 x6 x7 h = some r) : At_ X 188 [(0, .ref 4), (1, .int x1), (2, .int x2), (3, .int x3), (4, .int x4), (5, .int x5), (6, .int x6), (7, .int x7)] [] h := by
  unfold F_X4_isWithinEdges_188 at e
  refine at_iinc hX hn (by decide) rfl (v := 1) (by decide) dX4_isWithinEdges_188 ?_
  refine at_goto hX (tgt := 20) (by decide) dX4_isWithinEdges_191 ?_
  exact at_sub [0, 1, 2, 3, 4, 5, 6, 7] rfl (hk20 _ _ _ _ _ _ _ e)
def F_X4_isWithinEdges_186 (k20 : Int32 → Int32 → Int32 → Int32 → Int32 → Int32 → Int32 → Hp → Option Int32) (x1 : Int32) (x2 : Int32) (x3 : Int32) (x4 : Int32) (x6 : Int32) (x7 : Int32) (s0 : Int32) (h : Hp) : Option Int32 := (F_X4_isWithinEdges_188 k20) x1 x2 x3 x4 s0 x6 x7 h
theorem A_X4_isWithinEdges_186 {X : CX} {h : Hp} {r : Int32} (hn : (xc_ X).maxLocals = 13) (hX : Ok_ X RX4 cX4_isWithinEdges 2) (hR : Rt_ X (some .boolean) (some (.int r)) h) (k20 : Int32 → Int32 → Int32 → Int32 → Int32 → Int32 → Int32 → Hp → Option Int32) (hk20 : ∀ (x1 : Int32) (x2 : Int32) (x3 : Int32) (x4 : Int32) (x5 : Int32) (x6 : Int32) (x7 : Int32), k20 x1 x2 x3 x4 x5 x6 x7 h = some r → At_ X 20 [(0, .ref 4), (1, .int x1), (2, .int x2), (3, .int x3), (4, .int x4), (5, .int x5), (6, .int x6), (7, .int x7)] [] h) (x1 : Int32) (x2 : Int32) (x3 : Int32) (x4 : Int32) (x6 : Int32) (x7 : Int32) (s0 : Int32) (e : F_X4_isWithinEdges_186 k20 x1 x2 x3 x4 x6 x7 s0 h = some r) : At_ X 186 [(0, .ref 4), (1, .int x1), (2, .int x2), (3, .int x3), (4, .int x4), (6, .int x6), (7, .int x7)] [.int s0] h := by
  unfold F_X4_isWithinEdges_186 at e
  refine at_istore hX hn (by decide) dX4_isWithinEdges_186 ?_
  exact at_sub [0, 1, 2, 3, 4, 5, 6, 7] rfl ((A_X4_isWithinEdges_188 hn hX hR k20 hk20) _ _ _ _ _ _ _ e)
def F_X4_isWithinEdges_181 (k20 : Int32 → Int32 → Int32 → Int32 → Int32 → Int32 → Int32 → Hp → Option Int32) (x1 : Int32) (x2 : Int32) (x3 : Int32) (x4 : Int32) (x6 : Int32) (x7 : Int32) (h : Hp) : Option Int32 := (F_X4_isWithinEdges_186 k20) x1 x2 x3 x4 x6 x7 (1 : Int32) h
theorem A_X4_isWithinEdges_181 {X : CX} {h : Hp} {r : Int32} (hn : (xc_ X).maxLocals = 13) (hX : Ok_ X RX4 cX4_isWithinEdges 2) (hR : Rt_ X (some .boolean) (some (.int r)) h) (k20 : Int32 → Int32 → Int32 → Int32 → Int32 → Int32 → Int32 → Hp → Option Int32) (hk20 : ∀ (x1 : Int32) (x2 : Int32) (x3 : Int32) (x4 : Int32) (x5 : Int32) (x6 : Int32) (x7 : Int32), k20 x1 x2 x3 x4 x5 x6 x7 h = some r → At_ X 20 [(0, .ref 4), (1, .int x1), (2, .int x2), (3, .int x3), (4, .int x4), (5, .int x5), (6, .int x6), (7, .int x7)] [] h) (x1 : Int32) (x2 : Int32) (x3 : Int32) (x4 : Int32) (x6 : Int32) (x7 : Int32) (e : F_X4_isWithinEdges_181 k20 x1 x2 x3 x4 x6 x7 h = some r) : At_ X 181 [(0, .ref 4), (1, .int x1), (2, .int x2), (3, .int x3), (4, .int x4), (6, .int x6), (7, .int x7)] [] h := by
  unfold F_X4_isWithinEdges_181 at e
  refine at_iconst hX (v := 1) (by decide) dX4_isWithinEdges_181 ?_
  refine at_goto hX (tgt := 186) (by decide) dX4_isWithinEdges_182 ?_
  exact at_sub [0, 1, 2, 3, 4, 6, 7] rfl ((A_X4_isWithinEdges_186 hn hX hR k20 hk20) _ _ _ _ _ _ _ e)
def F_X4_isWithinEdges_169 (k20 : Int32 → Int32 → Int32 → Int32 → Int32 → Int32 → Int32 → Hp → Option Int32) (x1 : Int32) (x2 : Int32) (x3 : Int32) (x5 : Int32) (x6 : Int32) (x7 : Int32) (x12 : Int32) (s0 : Int32) (h : Hp) : Option Int32 := if x5 = (0 : Int32) then if (0 : Int32) < x12 then (F_X4_isWithinEdges_186 k20) x1 x2 x3 s0 x6 x7 (0 : Int32) h else (F_X4_isWithinEdges_181 k20) x1 x2 x3 s0 x6 x7 h else (F_X4_isWithinEdges_181 k20) x1 x2 x3 s0 x6 x7 h
theorem A_X4_isWithinEdges_169 {X : CX} {h : Hp} {r : Int32} (hn : (xc_ X).maxLocals = 13) (hX : Ok_ X RX4 cX4_isWithinEdges 2) (hR : Rt_ X (some .boolean) (some (.int r)) h) (k20 : Int32 → Int32 → Int32 → Int32 → Int32 → Int32 → Int32 → Hp → Option Int32) (hk20 : ∀ (x1 : Int32) (x2 : Int32) (x3 : Int32) (x4 : Int32) (x5 : Int32) (x6 : Int32) (x7 : Int32), k20 x1 x2 x3 x4 x5 x6 x7 h = some r → At_ X 20 [(0, .ref 4), (1, .int x1), (2, .int x2), (3, .int x3), (4, .int x4), (5, .int x5), (6, .int x6), (7, .int x7)] [] h) (x1 : Int32) (x2 : Int32) (x3 : Int32) (x5 : Int32) (x6 : Int32) (x7 : Int32) (x12 : Int32) (s0 : Int32) (e : F_X4_isWithinEdges_169 k20 x1 x2 x3 x5 x6 x7 x12 s0 h = some r) : At_ X 169 [(0, .ref 4), (1, .int x1), (2, .int x2), (3, .int x3), (5, .int x5), (6, .int x6), (7, .int x7), (12, .int x12)] [.int s0] h := by
  unfold F_X4_isWithinEdges_169 at e
  refine at_istore hX hn (by decide) dX4_isWithinEdges_169 ?_
  refine at_iload hX rfl dX4_isWithinEdges_171 ?_
  refine at_if_ne hX (tgt := 181) (by decide) dX4_isWithinEdges_173 (fun c173 => ?_) (fun c173 => ?_)
  · replace e := in_ c173 e
    exact at_sub [0, 1, 2, 3, 4, 6, 7] rfl ((A_X4_isWithinEdges_181 hn hX hR k20 hk20) _ _ _ _ _ _ e)
  · replace e := ip_ c173 e
    refine at_iload hX rfl dX4_isWithinEdges_176 ?_
    refine at_if_gt hX (tgt := 185) (by decide) dX4_isWithinEdges_178 (fun c178 => ?_) (fun c178 => ?_)
    · replace e := ip_ c178 e
      refine at_iconst hX (v := 0) (by decide) dX4_isWithinEdges_185 ?_
      exact at_sub [0, 1, 2, 3, 4, 6, 7] rfl ((A_X4_isWithinEdges_186 hn hX hR k20 hk20) _ _ _ _ _ _ _ e)
    · replace e := in_ c178 e
      exact at_sub [0, 1, 2, 3, 4, 6, 7] rfl ((A_X4_isWithinEdges_181 hn hX hR k20 hk20) _ _ _ _ _ _ e)
def F_X4_isWithinEdges_164 (k20 : Int32 → Int32 → Int32 → Int32 → Int32 → Int32 → Int32 → Hp → Option Int32) (x1 : Int32) (x2 : Int32) (x3 : Int32) (x5 : Int32) (x6 : Int32) (x7 : Int32) (x12 : Int32) (h : Hp) : Option Int32 := (F_X4_isWithinEdges_169 k20) x1 x2 x3 x5 x6 x7 x12 (1 : Int32) h
theorem A_X4_isWithinEdges_164 {X : CX} {h : Hp} {r : Int32} (hn : (xc_ X).maxLocals = 13) (hX : Ok_ X RX4 cX4_isWithinEdges 2) (hR : Rt_ X (some .boolean) (some (.int r)) h) (k20 : Int32 → Int32 → Int32 → Int32 → Int32 → Int32 → Int32 → Hp → Option Int32) (hk20 : ∀ (x1 : Int32) (x2 : Int32) (x3 : Int32) (x4 : Int32) (x5 : Int32) (x6 : Int32) (x7 : Int32), k20 x1 x2 x3 x4 x5 x6 x7 h = some r → At_ X 20 [(0, .ref 4), (1, .int x1), (2, .int x2), (3, .int x3), (4, .int x4), (5, .int x5), (6, .int x6), (7, .int x7)] [] h) (x1 : Int32) (x2 : Int32) (x3 : Int32) (x5 : Int32) (x6 : Int32) (x7 : Int32) (x12 : Int32) (e : F_X4_isWithinEdges_164 k20 x1 x2 x3 x5 x6 x7 x12 h = some r) : At_ X 164 [(0, .ref 4), (1, .int x1), (2, .int x2), (3, .int x3), (5, .int x5), (6, .int x6), (7, .int x7), (12, .int x12)] [] h := by
  unfold F_X4_isWithinEdges_164 at e
  refine at_iconst hX (v := 1) (by decide) dX4_isWithinEdges_164 ?_
  refine at_goto hX (tgt := 169) (by decide) dX4_isWithinEdges_165 ?_
  exact at_sub [0, 1, 2, 3, 5, 6, 7, 12] rfl ((A_X4_isWithinEdges_169 hn hX hR k20 hk20) _ _ _ _ _ _ _ _ e)
def F_X4_isWithinEdges_48 (k20 : Int32 → Int32 → Int32 → Int32 → Int32 → Int32 → Int32 → Hp → Option Int32) (x1 : Int32) (x2 : Int32) (x3 : Int32) (x4 : Int32) (x5 : Int32) (x6 : Int32) (x7 : Int32) (s0 : Int32) (h : Hp) : Option Int32 := if s0 = (0 : Int32) then (F_X4_isWithinEdges_188 k20) x1 x2 x3 x4 x5 x6 x7 h else rA_ h 32 7 x6 fun v61 => if v61 < (0 : Int32) then (F_X4_isWithinEdges_188 k20) x1 x2 x3 x4 x5 x6 x7 h else rA_ h 32 7 x7 fun v71 => if v71 < (0 : Int32) then (F_X4_isWithinEdges_188 k20) x1 x2 x3 x4 x5 x6 x7 h else bd_ (mx_ (1 : Int32) (x7 - x6)) fun y84 => rA_ h 31 7 x6 fun v104 => rA_ h 31 7 x7 fun v111 => (F_X4_lineAt v104 v111 (y84 * x3) (x2 - (x6 * x3))).bind fun v118 => rA_ h 32 7 x6 fun v134 => rA_ h 32 7 x7 fun v141 => (F_X4_lineAt v134 v141 (y84 * x3) (x2 - (x6 * x3))).bind fun v148 => if x4 = (0 : Int32) then if (x1 * y84) - v118 < (0 : Int32) then (F_X4_isWithinEdges_169 k20) x1 x2 x3 x5 x6 x7 ((x1 * y84) - v148) (0 : Int32) h else (F_X4_isWithinEdges_164 k20) x1 x2 x3 x5 x6 x7 ((x1 * y84) - v148) h else (F_X4_isWithinEdges_164 k20) x1 x2 x3 x5 x6 x7 ((x1 * y84) - v148) h
theorem A_X4_isWithinEdges_48 {X : CX} {h : Hp} {r : Int32} (hn : (xc_ X).maxLocals = 13) (hX : Ok_ X RX4 cX4_isWithinEdges 2) (hR : Rt_ X (some .boolean) (some (.int r)) h) (k20 : Int32 → Int32 → Int32 → Int32 → Int32 → Int32 → Int32 → Hp → Option Int32) (hk20 : ∀ (x1 : Int32) (x2 : Int32) (x3 : Int32) (x4 : Int32) (x5 : Int32) (x6 : Int32) (x7 : Int32), k20 x1 x2 x3 x4 x5 x6 x7 h = some r → At_ X 20 [(0, .ref 4), (1, .int x1), (2, .int x2), (3, .int x3), (4, .int x4), (5, .int x5), (6, .int x6), (7, .int x7)] [] h) (x1 : Int32) (x2 : Int32) (x3 : Int32) (x4 : Int32) (x5 : Int32) (x6 : Int32) (x7 : Int32) (s0 : Int32) (e : F_X4_isWithinEdges_48 k20 x1 x2 x3 x4 x5 x6 x7 s0 h = some r) : At_ X 48 [(0, .ref 4), (1, .int x1), (2, .int x2), (3, .int x3), (4, .int x4), (5, .int x5), (6, .int x6), (7, .int x7)] [.int s0] h := by
  unfold F_X4_isWithinEdges_48 at e
  refine at_istore hX hn (by decide) dX4_isWithinEdges_48 ?_
  refine at_iload hX rfl dX4_isWithinEdges_50 ?_
  refine at_if_eq hX (tgt := 188) (by decide) dX4_isWithinEdges_52 (fun c52 => ?_) (fun c52 => ?_)
  · replace e := ip_ c52 e
    exact at_sub [0, 1, 2, 3, 4, 5, 6, 7] rfl ((A_X4_isWithinEdges_188 hn hX hR k20 hk20) _ _ _ _ _ _ _ e)
  · replace e := in_ c52 e
    refine at_aload_n hX rfl rfl dX4_isWithinEdges_55 ?_
    refine gf_X4_15 hX dX4_isWithinEdges_56 ?_
    refine at_iload hX rfl dX4_isWithinEdges_59 ?_
    obtain ⟨hi, v61, ev61, e⟩ := rA_some e
    refine at_iald hX (o := 32) (by decide) rfl hi dX4_isWithinEdges_61 ?_
    refine at_ti ev61 ?_
    refine at_if_lt hX (tgt := 188) (by decide) dX4_isWithinEdges_62 (fun c62 => ?_) (fun c62 => ?_)
    · replace e := ip_ c62 e
      exact at_sub [0, 1, 2, 3, 4, 5, 6, 7] rfl ((A_X4_isWithinEdges_188 hn hX hR k20 hk20) _ _ _ _ _ _ _ e)
    · replace e := in_ c62 e
      refine at_aload_n hX rfl rfl dX4_isWithinEdges_65 ?_
      refine gf_X4_15 hX dX4_isWithinEdges_66 ?_
      refine at_iload hX rfl dX4_isWithinEdges_69 ?_
      obtain ⟨hi, v71, ev71, e⟩ := rA_some e
      refine at_iald hX (o := 32) (by decide) rfl hi dX4_isWithinEdges_71 ?_
      refine at_ti ev71 ?_
      refine at_if_lt hX (tgt := 188) (by decide) dX4_isWithinEdges_72 (fun c72 => ?_) (fun c72 => ?_)
      · replace e := ip_ c72 e
        exact at_sub [0, 1, 2, 3, 4, 5, 6, 7] rfl ((A_X4_isWithinEdges_188 hn hX hR k20 hk20) _ _ _ _ _ _ _ e)
      · replace e := in_ c72 e
        refine at_iconst hX (v := 1) (by decide) dX4_isWithinEdges_75 ?_
        refine at_iload hX rfl dX4_isWithinEdges_76 ?_
        refine at_iload hX rfl dX4_isWithinEdges_78 ?_
        refine at_isub hX dX4_isWithinEdges_80 ?_
        refine at_mmax hX cv_X4_108 (by decide) (Nat.le_of_ble_eq_true rfl) dX4_isWithinEdges_81 ?_
        obtain ⟨y84, ey84, e⟩ := bd_some e
        refine at_ti ey84 ?_
        refine at_istore hX hn (by decide) dX4_isWithinEdges_84 ?_
        refine at_iload_n hX rfl rfl dX4_isWithinEdges_86 ?_
        refine at_iload hX rfl dX4_isWithinEdges_87 ?_
        refine at_iload_n hX rfl rfl dX4_isWithinEdges_89 ?_
        refine at_imul hX dX4_isWithinEdges_90 ?_
        refine at_isub hX dX4_isWithinEdges_91 ?_
        refine at_istore hX hn (by decide) dX4_isWithinEdges_92 ?_
        refine at_iload_n hX rfl rfl dX4_isWithinEdges_94 ?_
        refine at_iload hX rfl dX4_isWithinEdges_95 ?_
        refine at_imul hX dX4_isWithinEdges_97 ?_
        refine at_aload_n hX rfl rfl dX4_isWithinEdges_98 ?_
        refine gf_X4_9 hX dX4_isWithinEdges_99 ?_
        refine at_iload hX rfl dX4_isWithinEdges_102 ?_
        obtain ⟨hi, v104, ev104, e⟩ := rA_some e
        refine at_iald hX (o := 31) (by decide) rfl hi dX4_isWithinEdges_104 ?_
        refine at_ti ev104 ?_
        refine at_aload_n hX rfl rfl dX4_isWithinEdges_105 ?_
        refine gf_X4_9 hX dX4_isWithinEdges_106 ?_
        refine at_iload hX rfl dX4_isWithinEdges_109 ?_
        obtain ⟨hi, v111, ev111, e⟩ := rA_some e
        refine at_iald hX (o := 31) (by decide) rfl hi dX4_isWithinEdges_111 ?_
        refine at_ti ev111 ?_
        refine at_iload hX rfl dX4_isWithinEdges_112 ?_
        refine at_iload_n hX rfl rfl dX4_isWithinEdges_114 ?_
        refine at_imul hX dX4_isWithinEdges_115 ?_
        refine at_iload hX rfl dX4_isWithinEdges_116 ?_
        obtain ⟨v118, e1, e⟩ := ob_some e
        refine at_callS4 hX cv_X4_111 (by decide) (c_X4_lineAt _ _ _ _ _ _ _ e1) (Nat.le_of_ble_eq_true rfl) dX4_isWithinEdges_118 ?_
        refine at_isub hX dX4_isWithinEdges_121 ?_
        refine at_istore hX hn (by decide) dX4_isWithinEdges_122 ?_
        refine at_iload_n hX rfl rfl dX4_isWithinEdges_124 ?_
        refine at_iload hX rfl dX4_isWithinEdges_125 ?_
        refine at_imul hX dX4_isWithinEdges_127 ?_
        refine at_aload_n hX rfl rfl dX4_isWithinEdges_128 ?_
        refine gf_X4_15 hX dX4_isWithinEdges_129 ?_
        refine at_iload hX rfl dX4_isWithinEdges_132 ?_
        obtain ⟨hi, v134, ev134, e⟩ := rA_some e
        refine at_iald hX (o := 32) (by decide) rfl hi dX4_isWithinEdges_134 ?_
        refine at_ti ev134 ?_
        refine at_aload_n hX rfl rfl dX4_isWithinEdges_135 ?_
        refine gf_X4_15 hX dX4_isWithinEdges_136 ?_
        refine at_iload hX rfl dX4_isWithinEdges_139 ?_
        obtain ⟨hi, v141, ev141, e⟩ := rA_some e
        refine at_iald hX (o := 32) (by decide) rfl hi dX4_isWithinEdges_141 ?_
        refine at_ti ev141 ?_
        refine at_iload hX rfl dX4_isWithinEdges_142 ?_
        refine at_iload_n hX rfl rfl dX4_isWithinEdges_144 ?_
        refine at_imul hX dX4_isWithinEdges_145 ?_
        refine at_iload hX rfl dX4_isWithinEdges_146 ?_
        obtain ⟨v148, e1, e⟩ := ob_some e
        refine at_callS4 hX cv_X4_111 (by decide) (c_X4_lineAt _ _ _ _ _ _ _ e1) (Nat.le_of_ble_eq_true rfl) dX4_isWithinEdges_148 ?_
        refine at_isub hX dX4_isWithinEdges_151 ?_
        refine at_istore hX hn (by decide) dX4_isWithinEdges_152 ?_
        refine at_iload hX rfl dX4_isWithinEdges_154 ?_
        refine at_if_ne hX (tgt := 164) (by decide) dX4_isWithinEdges_156 (fun c156 => ?_) (fun c156 => ?_)
        · replace e := in_ c156 e
          exact at_sub [0, 1, 2, 3, 5, 6, 7, 12] rfl ((A_X4_isWithinEdges_164 hn hX hR k20 hk20) _ _ _ _ _ _ _ e)
        · replace e := ip_ c156 e
          refine at_iload hX rfl dX4_isWithinEdges_159 ?_
          refine at_if_lt hX (tgt := 168) (by decide) dX4_isWithinEdges_161 (fun c161 => ?_) (fun c161 => ?_)
          · replace e := ip_ c161 e
            refine at_iconst hX (v := 0) (by decide) dX4_isWithinEdges_168 ?_
            exact at_sub [0, 1, 2, 3, 5, 6, 7, 12] rfl ((A_X4_isWithinEdges_169 hn hX hR k20 hk20) _ _ _ _ _ _ _ _ e)
          · replace e := in_ c161 e
            exact at_sub [0, 1, 2, 3, 5, 6, 7, 12] rfl ((A_X4_isWithinEdges_164 hn hX hR k20 hk20) _ _ _ _ _ _ _ e)
def F_X4_isWithinEdges_47 (k20 : Int32 → Int32 → Int32 → Int32 → Int32 → Int32 → Int32 → Hp → Option Int32) (x1 : Int32) (x2 : Int32) (x3 : Int32) (x4 : Int32) (x5 : Int32) (x6 : Int32) (x7 : Int32) (h : Hp) : Option Int32 := (F_X4_isWithinEdges_48 k20) x1 x2 x3 x4 x5 x6 x7 (0 : Int32) h
theorem A_X4_isWithinEdges_47 {X : CX} {h : Hp} {r : Int32} (hn : (xc_ X).maxLocals = 13) (hX : Ok_ X RX4 cX4_isWithinEdges 2) (hR : Rt_ X (some .boolean) (some (.int r)) h) (k20 : Int32 → Int32 → Int32 → Int32 → Int32 → Int32 → Int32 → Hp → Option Int32) (hk20 : ∀ (x1 : Int32) (x2 : Int32) (x3 : Int32) (x4 : Int32) (x5 : Int32) (x6 : Int32) (x7 : Int32), k20 x1 x2 x3 x4 x5 x6 x7 h = some r → At_ X 20 [(0, .ref 4), (1, .int x1), (2, .int x2), (3, .int x3), (4, .int x4), (5, .int x5), (6, .int x6), (7, .int x7)] [] h) (x1 : Int32) (x2 : Int32) (x3 : Int32) (x4 : Int32) (x5 : Int32) (x6 : Int32) (x7 : Int32) (e : F_X4_isWithinEdges_47 k20 x1 x2 x3 x4 x5 x6 x7 h = some r) : At_ X 47 [(0, .ref 4), (1, .int x1), (2, .int x2), (3, .int x3), (4, .int x4), (5, .int x5), (6, .int x6), (7, .int x7)] [] h := by
  unfold F_X4_isWithinEdges_47 at e
  refine at_iconst hX (v := 0) (by decide) dX4_isWithinEdges_47 ?_
  exact at_sub [0, 1, 2, 3, 4, 5, 6, 7] rfl ((A_X4_isWithinEdges_48 hn hX hR k20 hk20) _ _ _ _ _ _ _ _ e)
def F_X4_isWithinEdges_20 (n : Nat) (k194 : Int32 → Int32 → Int32 → Int32 → Int32 → Int32 → Hp → Option Int32) (x1 : Int32) (x2 : Int32) (x3 : Int32) (x4 : Int32) (x5 : Int32) (x6 : Int32) (x7 : Int32) (h : Hp) : Option Int32 := match n with
  | 0 => none
  | n + 1 => if (6 : Int32) < x7 then k194 x1 x2 x3 x4 x5 x6 h else if x2 < x6 * x3 then (F_X4_isWithinEdges_47 (F_X4_isWithinEdges_20 n k194)) x1 x2 x3 x4 x5 x6 x7 h else if x7 * x3 < x2 then (F_X4_isWithinEdges_47 (F_X4_isWithinEdges_20 n k194)) x1 x2 x3 x4 x5 x6 x7 h else (F_X4_isWithinEdges_48 (F_X4_isWithinEdges_20 n k194)) x1 x2 x3 x4 x5 x6 x7 (1 : Int32) h
theorem A_X4_isWithinEdges_20 {X : CX} {h : Hp} {r : Int32} (hn : (xc_ X).maxLocals = 13) (hX : Ok_ X RX4 cX4_isWithinEdges 2) (hR : Rt_ X (some .boolean) (some (.int r)) h) (k194 : Int32 → Int32 → Int32 → Int32 → Int32 → Int32 → Hp → Option Int32) (hk194 : ∀ (x1 : Int32) (x2 : Int32) (x3 : Int32) (x4 : Int32) (x5 : Int32) (x6 : Int32), k194 x1 x2 x3 x4 x5 x6 h = some r → At_ X 194 [(0, .ref 4), (1, .int x1), (2, .int x2), (3, .int x3), (4, .int x4), (5, .int x5), (6, .int x6)] [] h) : ∀ (n : Nat) (x1 : Int32) (x2 : Int32) (x3 : Int32) (x4 : Int32) (x5 : Int32) (x6 : Int32) (x7 : Int32), F_X4_isWithinEdges_20 n k194 x1 x2 x3 x4 x5 x6 x7 h = some r → At_ X 20 [(0, .ref 4), (1, .int x1), (2, .int x2), (3, .int x3), (4, .int x4), (5, .int x5), (6, .int x6), (7, .int x7)] [] h := by
  intro n
  induction n with
  | zero => intro x1 x2 x3 x4 x5 x6 x7 e; cases e
  | succ n ih =>
    intro x1 x2 x3 x4 x5 x6 x7 e
    rw [F_X4_isWithinEdges_20] at e
    refine at_iload hX rfl dX4_isWithinEdges_20 ?_
    refine at_bipush hX (v := 6) (by decide) dX4_isWithinEdges_22 ?_
    refine at_icmp_gt hX (tgt := 194) (by decide) dX4_isWithinEdges_24 (fun c24 => ?_) (fun c24 => ?_)
    · replace e := ip_ c24 e
      exact at_sub [0, 1, 2, 3, 4, 5, 6] rfl (hk194 _ _ _ _ _ _ e)
    · replace e := in_ c24 e
      refine at_iload hX rfl dX4_isWithinEdges_27 ?_
      refine at_iload_n hX rfl rfl dX4_isWithinEdges_29 ?_
      refine at_imul hX dX4_isWithinEdges_30 ?_
      refine at_iload_n hX rfl rfl dX4_isWithinEdges_31 ?_
      refine at_icmp_gt hX (tgt := 47) (by decide) dX4_isWithinEdges_32 (fun c32 => ?_) (fun c32 => ?_)
      · replace e := ip_ c32 e
        exact at_sub [0, 1, 2, 3, 4, 5, 6, 7] rfl ((A_X4_isWithinEdges_47 hn hX hR (F_X4_isWithinEdges_20 n k194) ih) _ _ _ _ _ _ _ e)
      · replace e := in_ c32 e
        refine at_iload_n hX rfl rfl dX4_isWithinEdges_35 ?_
        refine at_iload hX rfl dX4_isWithinEdges_36 ?_
        refine at_iload_n hX rfl rfl dX4_isWithinEdges_38 ?_
        refine at_imul hX dX4_isWithinEdges_39 ?_
        refine at_icmp_gt hX (tgt := 47) (by decide) dX4_isWithinEdges_40 (fun c40 => ?_) (fun c40 => ?_)
        · replace e := ip_ c40 e
          exact at_sub [0, 1, 2, 3, 4, 5, 6, 7] rfl ((A_X4_isWithinEdges_47 hn hX hR (F_X4_isWithinEdges_20 n k194) ih) _ _ _ _ _ _ _ e)
        · replace e := in_ c40 e
          refine at_iconst hX (v := 1) (by decide) dX4_isWithinEdges_43 ?_
          refine at_goto hX (tgt := 48) (by decide) dX4_isWithinEdges_44 ?_
          exact at_sub [0, 1, 2, 3, 4, 5, 6, 7] rfl ((A_X4_isWithinEdges_48 hn hX hR (F_X4_isWithinEdges_20 n k194) ih) _ _ _ _ _ _ _ _ e)
def F_X4_isWithinEdges_9 (n : Nat) (k200 : Int32 → Int32 → Hp → Option Int32) (x1 : Int32) (x2 : Int32) (x3 : Int32) (x4 : Int32) (x5 : Int32) (x6 : Int32) (h : Hp) : Option Int32 := match n with
  | 0 => none
  | n + 1 => if (6 : Int32) < x6 then k200 x4 x5 h else (F_X4_isWithinEdges_20 FU_ (F_X4_isWithinEdges_194 (F_X4_isWithinEdges_9 n k200))) x1 x2 x3 x4 x5 x6 x6 h
theorem A_X4_isWithinEdges_9 {X : CX} {h : Hp} {r : Int32} (hn : (xc_ X).maxLocals = 13) (hX : Ok_ X RX4 cX4_isWithinEdges 2) (hR : Rt_ X (some .boolean) (some (.int r)) h) (k200 : Int32 → Int32 → Hp → Option Int32) (hk200 : ∀ (x4 : Int32) (x5 : Int32), k200 x4 x5 h = some r → At_ X 200 [(4, .int x4), (5, .int x5)] [] h) : ∀ (n : Nat) (x1 : Int32) (x2 : Int32) (x3 : Int32) (x4 : Int32) (x5 : Int32) (x6 : Int32), F_X4_isWithinEdges_9 n k200 x1 x2 x3 x4 x5 x6 h = some r → At_ X 9 [(0, .ref 4), (1, .int x1), (2, .int x2), (3, .int x3), (4, .int x4), (5, .int x5), (6, .int x6)] [] h := by
  intro n
  induction n with
  | zero => intro x1 x2 x3 x4 x5 x6 e; cases e
  | succ n ih =>
    intro x1 x2 x3 x4 x5 x6 e
    rw [F_X4_isWithinEdges_9] at e
    refine at_iload hX rfl dX4_isWithinEdges_9 ?_
    refine at_bipush hX (v := 6) (by decide) dX4_isWithinEdges_11 ?_
    refine at_icmp_gt hX (tgt := 200) (by decide) dX4_isWithinEdges_13 (fun c13 => ?_) (fun c13 => ?_)
    · replace e := ip_ c13 e
      exact at_sub [4, 5] rfl (hk200 _ _ e)
    · replace e := in_ c13 e
      refine at_iload hX rfl dX4_isWithinEdges_16 ?_
      refine at_istore hX hn (by decide) dX4_isWithinEdges_18 ?_
      exact at_sub [0, 1, 2, 3, 4, 5, 6, 7] rfl ((A_X4_isWithinEdges_20 hn hX hR (F_X4_isWithinEdges_194 (F_X4_isWithinEdges_9 n k200)) (A_X4_isWithinEdges_194 hn hX hR (F_X4_isWithinEdges_9 n k200) ih) FU_) _ _ _ _ _ _ _ e)
def F_X4_isWithinEdges (x1 : Int32) (x2 : Int32) (x3 : Int32) (h : Hp) : Option Int32 := (F_X4_isWithinEdges_9 FU_ F_X4_isWithinEdges_200) x1 x2 x3 (0 : Int32) (0 : Int32) (0 : Int32) h
theorem c_X4_isWithinEdges (l : Launch) (G : Gl) (x1 : Int32) (x2 : Int32) (x3 : Int32) (h : Hp) {r : Int32} (e : F_X4_isWithinEdges x1 x2 x3 h = some r) : Does l G 2 M_X4_isWithinEdges [.ref 4, .int x1, .int x2, .int x3] h (some (.int r)) h := by
  refine Does.of (by decide) rfl (Nat.le_of_ble_eq_true rfl) (fun X hl hG hn hX hR => ?_)
  unfold F_X4_isWithinEdges at e
  subst hl; subst hG
  show At_ X 0 [(0, .ref 4), (1, .int x1), (2, .int x2), (3, .int x3)] [] h
  refine at_iconst hX (v := 0) (by decide) dX4_isWithinEdges_0 ?_
  refine at_istore hX hn (by decide) dX4_isWithinEdges_1 ?_
  refine at_iconst hX (v := 0) (by decide) dX4_isWithinEdges_3 ?_
  refine at_istore hX hn (by decide) dX4_isWithinEdges_4 ?_
  refine at_iconst hX (v := 0) (by decide) dX4_isWithinEdges_6 ?_
  refine at_istore hX hn (by decide) dX4_isWithinEdges_7 ?_
  exact at_sub [0, 1, 2, 3, 4, 5, 6] rfl ((A_X4_isWithinEdges_9 hn hX hR F_X4_isWithinEdges_200 (A_X4_isWithinEdges_200 hn hX hR) FU_) _ _ _ _ _ _ e)

def F_X4_stands_208 (k31 : Int64 → Int32 → Int32 → Int32 → Int32 → Hp → Option (Int32 × Hp)) (x1 : Int64) (x3 : Int32) (x4 : Int32) (x5 : Int32) (x6 : Int32) (h : Hp) : Option (Int32 × Hp) := k31 x1 x3 x4 x5 (x6 + (1 : Int32)) h
theorem A_X4_stands_208 {X : CX} {h' : Hp} {r : Int32} (hn : (xc_ X).maxLocals = 12) (hX : Ok_ X RX4 cX4_stands 4) (hR : Rt_ X (some .boolean) (some (.int r)) h') (k31 : Int64 → Int32 → Int32 → Int32 → Int32 → Hp → Option (Int32 × Hp)) (hk31 : ∀ (x1 : Int64) (x3 : Int32) (x4 : Int32) (x5 : Int32) (x6 : Int32) (h : Hp), k31 x1 x3 x4 x5 x6 h = some (r, h') → At_ X 31 [(0, .ref 4), (1, .long x1), (3, .int x3), (4, .int x4), (5, .int x5), (6, .int x6)] [] h) (x1 : Int64) (x3 : Int32) (x4 : Int32) (x5 : Int32) (x6 : Int32) (h : Hp) (e : F_X4_stands_208 k31 x1 x3 x4 x5 x6 h = some (r, h')) : At_ X 208 [(0, .ref 4), (1, .long x1), (3, .int x3), (4, .int x4), (5, .int x5), (6, .int x6)] [] h := by
  unfold F_X4_stands_208 at e
  refine at_iinc hX hn (by decide) rfl (v := 1) (by decide) dX4_stands_208 ?_
  refine at_goto hX (tgt := 31) (by decide) dX4_stands_211 ?_
  exact at_sub [0, 1, 3, 4, 5, 6] rfl (hk31 _ _ _ _ _ _ e)
def F_X4_stands_31 (n : Nat) (x1 : Int64) (x3 : Int32) (x4 : Int32) (x5 : Int32) (x6 : Int32) (h : Hp) : Option (Int32 × Hp) := match n with
  | 0 => none
  | n + 1 => (F_X2_ever  h).bind fun v37 => if v37 ≤ x6 then (F_X4_isWithinEdges x4 x5 x3 h).bind fun v220 => bz_ v220 fun z223 => some (z223, h) else if (lu_ x1 x6) &&& (1 : Int64) = (1 : Int64) then (F_X2_sizeOf x6 h).bind fun v60 => (F_X2_told x6 (2 : Int32) h).bind fun v72 => (F_X2_told x6 (3 : Int32) h).bind fun v84 => (F_X2_told x6 (0 : Int32) h).bind fun v98 => (F_X2_told x6 (1 : Int32) h).bind fun v108 => (F_X2_alongX v98 v108 h).bind fun v111 => (F_X2_told x6 (0 : Int32) h).bind fun v126 => (F_X2_told x6 (1 : Int32) h).bind fun v136 => (F_X2_alongY v126 v136 h).bind fun v139 => bd_ (x4 + (v60 * (v72 + (v72 + v111)))) fun y156 => bd_ (x5 + (v60 * (v84 + (v84 + v139)))) fun y169 => (F_X2_ground  h).bind fun v175 => if (lu_ v175 x6) &&& (1 : Int64) = (1 : Int64) then (F_X4_widenEdge v84 v72 (v72 + v111) h).bind fun h195 => (F_X4_widenEdge (v84 + v139) v72 (v72 + v111) h195).bind fun h205 => (F_X4_stands_208 (F_X4_stands_31 n)) x1 x3 y156 y169 x6 h205 else (F_X4_stands_208 (F_X4_stands_31 n)) x1 x3 y156 y169 x6 h else (F_X4_stands_208 (F_X4_stands_31 n)) x1 x3 x4 x5 x6 h
theorem A_X4_stands_31 {X : CX} {h' : Hp} {r : Int32} (hn : (xc_ X).maxLocals = 12) (hX : Ok_ X RX4 cX4_stands 4) (hR : Rt_ X (some .boolean) (some (.int r)) h') : ∀ (n : Nat) (x1 : Int64) (x3 : Int32) (x4 : Int32) (x5 : Int32) (x6 : Int32) (h : Hp), F_X4_stands_31 n x1 x3 x4 x5 x6 h = some (r, h') → At_ X 31 [(0, .ref 4), (1, .long x1), (3, .int x3), (4, .int x4), (5, .int x5), (6, .int x6)] [] h := by
  intro n
  induction n with
  | zero => intro x1 x3 x4 x5 x6 h e; cases e
  | succ n ih =>
    intro x1 x3 x4 x5 x6 h e
    rw [F_X4_stands_31] at e
    refine at_iload hX rfl dX4_stands_31 ?_
    refine at_aload_n hX rfl rfl dX4_stands_33 ?_
    refine gf_X4_22 hX dX4_stands_34 ?_
    obtain ⟨v37, e1, e⟩ := ob_some e
    refine at_callV0 hX cv_X4_50 (by decide) (c_X2_ever _ _  _ e1) (Nat.le_of_ble_eq_true rfl) dX4_stands_37 ?_
    refine at_icmp_ge hX (tgt := 214) (by decide) dX4_stands_40 (fun c40 => ?_) (fun c40 => ?_)
    · replace e := ip_ c40 e
      refine at_aload_n hX rfl rfl dX4_stands_214 ?_
      refine at_iload hX rfl dX4_stands_215 ?_
      refine at_iload hX rfl dX4_stands_217 ?_
      refine at_iload_n hX rfl rfl dX4_stands_219 ?_
      obtain ⟨v220, e1, e⟩ := ob_some e
      refine at_callV3 hX cv_X4_93 (by decide) (c_X4_isWithinEdges _ _ _ _ _ _ e1) (Nat.le_of_ble_eq_true rfl) dX4_stands_220 ?_
      obtain ⟨hz, z223, ez223, e⟩ := bz_some e
      refine at_ti ez223 ?_
      exact at_ireturn hX hR (bz_nar hz ez223) (by cases e; rfl) (by cases e; rfl) dX4_stands_223
    · replace e := in_ c40 e
      refine at_lload_n hX rfl rfl dX4_stands_43 ?_
      refine at_iload hX rfl dX4_stands_44 ?_
      refine at_lushr hX dX4_stands_46 ?_
      refine at_lconst hX (v := 1) (by decide) dX4_stands_47 ?_
      refine at_land hX dX4_stands_48 ?_
      refine at_lconst hX (v := 1) (by decide) dX4_stands_49 ?_
      refine at_lcmp_ne hX (tgt := 208) (by decide) dX4_stands_50 dX4_stands_51 (fun c50 => ?_) (fun c50 => ?_)
      · replace e := in_ c50 e
        exact at_sub [0, 1, 3, 4, 5, 6] rfl ((A_X4_stands_208 hn hX hR (F_X4_stands_31 n) ih) _ _ _ _ _ _ e)
      · replace e := ip_ c50 e
        refine at_aload_n hX rfl rfl dX4_stands_54 ?_
        refine gf_X4_22 hX dX4_stands_55 ?_
        refine at_iload hX rfl dX4_stands_58 ?_
        obtain ⟨v60, e1, e⟩ := ob_some e
        refine at_callV1 hX cv_X4_66 (by decide) (c_X2_sizeOf _ _ _ _ e1) (Nat.le_of_ble_eq_true rfl) dX4_stands_60 ?_
        refine at_istore hX hn (by decide) dX4_stands_63 ?_
        refine at_aload_n hX rfl rfl dX4_stands_65 ?_
        refine gf_X4_22 hX dX4_stands_66 ?_
        refine at_iload hX rfl dX4_stands_69 ?_
        refine at_iconst hX (v := 2) (by decide) dX4_stands_71 ?_
        obtain ⟨v72, e1, e⟩ := ob_some e
        refine at_callV2 hX cv_X4_79 (by decide) (c_X2_told _ _ _ _ _ e1) (Nat.le_of_ble_eq_true rfl) dX4_stands_72 ?_
        refine at_istore hX hn (by decide) dX4_stands_75 ?_
        refine at_aload_n hX rfl rfl dX4_stands_77 ?_
        refine gf_X4_22 hX dX4_stands_78 ?_
        refine at_iload hX rfl dX4_stands_81 ?_
        refine at_iconst hX (v := 3) (by decide) dX4_stands_83 ?_
        obtain ⟨v84, e1, e⟩ := ob_some e
        refine at_callV2 hX cv_X4_79 (by decide) (c_X2_told _ _ _ _ _ e1) (Nat.le_of_ble_eq_true rfl) dX4_stands_84 ?_
        refine at_istore hX hn (by decide) dX4_stands_87 ?_
        refine at_iload hX rfl dX4_stands_89 ?_
        refine at_aload_n hX rfl rfl dX4_stands_91 ?_
        refine gf_X4_22 hX dX4_stands_92 ?_
        refine at_iload hX rfl dX4_stands_95 ?_
        refine at_iconst hX (v := 0) (by decide) dX4_stands_97 ?_
        obtain ⟨v98, e1, e⟩ := ob_some e
        refine at_callV2 hX cv_X4_79 (by decide) (c_X2_told _ _ _ _ _ e1) (Nat.le_of_ble_eq_true rfl) dX4_stands_98 ?_
        refine at_aload_n hX rfl rfl dX4_stands_101 ?_
        refine gf_X4_22 hX dX4_stands_102 ?_
        refine at_iload hX rfl dX4_stands_105 ?_
        refine at_iconst hX (v := 1) (by decide) dX4_stands_107 ?_
        obtain ⟨v108, e1, e⟩ := ob_some e
        refine at_callV2 hX cv_X4_79 (by decide) (c_X2_told _ _ _ _ _ e1) (Nat.le_of_ble_eq_true rfl) dX4_stands_108 ?_
        obtain ⟨v111, e1, e⟩ := ob_some e
        refine at_callS2 hX cv_X4_83 (by decide) (c_X2_alongX _ _ _ _ _ e1) (Nat.le_of_ble_eq_true rfl) dX4_stands_111 ?_
        refine at_iadd hX dX4_stands_114 ?_
        refine at_istore hX hn (by decide) dX4_stands_115 ?_
        refine at_iload hX rfl dX4_stands_117 ?_
        refine at_aload_n hX rfl rfl dX4_stands_119 ?_
        refine gf_X4_22 hX dX4_stands_120 ?_
        refine at_iload hX rfl dX4_stands_123 ?_
        refine at_iconst hX (v := 0) (by decide) dX4_stands_125 ?_
        obtain ⟨v126, e1, e⟩ := ob_some e
        refine at_callV2 hX cv_X4_79 (by decide) (c_X2_told _ _ _ _ _ e1) (Nat.le_of_ble_eq_true rfl) dX4_stands_126 ?_
        refine at_aload_n hX rfl rfl dX4_stands_129 ?_
        refine gf_X4_22 hX dX4_stands_130 ?_
        refine at_iload hX rfl dX4_stands_133 ?_
        refine at_iconst hX (v := 1) (by decide) dX4_stands_135 ?_
        obtain ⟨v136, e1, e⟩ := ob_some e
        refine at_callV2 hX cv_X4_79 (by decide) (c_X2_told _ _ _ _ _ e1) (Nat.le_of_ble_eq_true rfl) dX4_stands_136 ?_
        obtain ⟨v139, e1, e⟩ := ob_some e
        refine at_callS2 hX cv_X4_86 (by decide) (c_X2_alongY _ _ _ _ _ e1) (Nat.le_of_ble_eq_true rfl) dX4_stands_139 ?_
        refine at_iadd hX dX4_stands_142 ?_
        refine at_istore hX hn (by decide) dX4_stands_143 ?_
        refine at_iload hX rfl dX4_stands_145 ?_
        refine at_iload hX rfl dX4_stands_147 ?_
        refine at_iload hX rfl dX4_stands_149 ?_
        refine at_iload hX rfl dX4_stands_151 ?_
        refine at_iadd hX dX4_stands_153 ?_
        refine at_imul hX dX4_stands_154 ?_
        refine at_iadd hX dX4_stands_155 ?_
        obtain ⟨y156, ey156, e⟩ := bd_some e
        refine at_ti ey156 ?_
        refine at_istore hX hn (by decide) dX4_stands_156 ?_
        refine at_iload hX rfl dX4_stands_158 ?_
        refine at_iload hX rfl dX4_stands_160 ?_
        refine at_iload hX rfl dX4_stands_162 ?_
        refine at_iload hX rfl dX4_stands_164 ?_
        refine at_iadd hX dX4_stands_166 ?_
        refine at_imul hX dX4_stands_167 ?_
        refine at_iadd hX dX4_stands_168 ?_
        obtain ⟨y169, ey169, e⟩ := bd_some e
        refine at_ti ey169 ?_
        refine at_istore hX hn (by decide) dX4_stands_169 ?_
        refine at_aload_n hX rfl rfl dX4_stands_171 ?_
        refine gf_X4_22 hX dX4_stands_172 ?_
        obtain ⟨v175, e1, e⟩ := ob_some e
        refine at_callV0 hX cv_X4_70 (by decide) (c_X2_ground _ _  _ e1) (Nat.le_of_ble_eq_true rfl) dX4_stands_175 ?_
        refine at_iload hX rfl dX4_stands_178 ?_
        refine at_lushr hX dX4_stands_180 ?_
        refine at_lconst hX (v := 1) (by decide) dX4_stands_181 ?_
        refine at_land hX dX4_stands_182 ?_
        refine at_lconst hX (v := 1) (by decide) dX4_stands_183 ?_
        refine at_lcmp_ne hX (tgt := 208) (by decide) dX4_stands_184 dX4_stands_185 (fun c184 => ?_) (fun c184 => ?_)
        · replace e := in_ c184 e
          exact at_sub [0, 1, 3, 4, 5, 6] rfl ((A_X4_stands_208 hn hX hR (F_X4_stands_31 n) ih) _ _ _ _ _ _ e)
        · replace e := ip_ c184 e
          refine at_aload_n hX rfl rfl dX4_stands_188 ?_
          refine at_iload hX rfl dX4_stands_189 ?_
          refine at_iload hX rfl dX4_stands_191 ?_
          refine at_iload hX rfl dX4_stands_193 ?_
          obtain ⟨h195, e1, e⟩ := ob_some e
          refine at_callV3 hX cv_X4_89 (by decide) (c_X4_widenEdge _ _ _ _ _ _ e1) (Nat.le_of_ble_eq_true rfl) dX4_stands_195 ?_
          refine at_aload_n hX rfl rfl dX4_stands_198 ?_
          refine at_iload hX rfl dX4_stands_199 ?_
          refine at_iload hX rfl dX4_stands_201 ?_
          refine at_iload hX rfl dX4_stands_203 ?_
          obtain ⟨h205, e1, e⟩ := ob_some e
          refine at_callV3 hX cv_X4_89 (by decide) (c_X4_widenEdge _ _ _ _ _ _ e1) (Nat.le_of_ble_eq_true rfl) dX4_stands_205 ?_
          exact at_sub [0, 1, 3, 4, 5, 6] rfl ((A_X4_stands_208 hn hX hR (F_X4_stands_31 n) ih) _ _ _ _ _ _ e)
def F_X4_stands (x1 : Int64) (h : Hp) : Option (Int32 × Hp) := (F_X4_floats x1 h).bind fun v2 => if v2 = (0 : Int32) then (F_X4_weight x1 h).bind fun v13 => (F_X4_clearEdges  h).bind fun h25 => (F_X4_stands_31 FU_) x1 ((2 : Int32) * v13) (0 : Int32) (0 : Int32) (0 : Int32) h25 else some ((0 : Int32), h)
theorem c_X4_stands (l : Launch) (G : Gl) (x1 : Int64) (h : Hp) {r : Int32} {h' : Hp} (e : F_X4_stands x1 h = some (r, h')) : Does l G 4 M_X4_stands [.ref 4, .long x1] h (some (.int r)) h' := by
  refine Does.of (by decide) rfl (Nat.le_of_ble_eq_true rfl) (fun X hl hG hn hX hR => ?_)
  unfold F_X4_stands at e
  subst hl; subst hG
  show At_ X 0 [(0, .ref 4), (1, .long x1)] [] h
  refine at_aload_n hX rfl rfl dX4_stands_0 ?_
  refine at_lload_n hX rfl rfl dX4_stands_1 ?_
  obtain ⟨v2, e1, e⟩ := ob_some e
  refine at_callV1 hX cv_X4_46 (by decide) (c_X4_floats _ _ _ _ e1) (Nat.le_of_ble_eq_true rfl) dX4_stands_2 ?_
  refine at_if_eq hX (tgt := 10) (by decide) dX4_stands_5 (fun c5 => ?_) (fun c5 => ?_)
  · replace e := ip_ c5 e
    refine at_iconst hX (v := 2) (by decide) dX4_stands_10 ?_
    refine at_aload_n hX rfl rfl dX4_stands_11 ?_
    refine at_lload_n hX rfl rfl dX4_stands_12 ?_
    obtain ⟨v13, e1, e⟩ := ob_some e
    refine at_callV1 hX cv_X4_73 (by decide) (c_X4_weight _ _ _ _ e1) (Nat.le_of_ble_eq_true rfl) dX4_stands_13 ?_
    refine at_imul hX dX4_stands_16 ?_
    refine at_istore_n hX rfl hn (by decide) dX4_stands_17 ?_
    refine at_iconst hX (v := 0) (by decide) dX4_stands_18 ?_
    refine at_istore hX hn (by decide) dX4_stands_19 ?_
    refine at_iconst hX (v := 0) (by decide) dX4_stands_21 ?_
    refine at_istore hX hn (by decide) dX4_stands_22 ?_
    refine at_aload_n hX rfl rfl dX4_stands_24 ?_
    obtain ⟨h25, e1, e⟩ := ob_some e
    refine at_callV0 hX cv_X4_76 (by decide) (c_X4_clearEdges _ _  _ e1) (Nat.le_of_ble_eq_true rfl) dX4_stands_25 ?_
    refine at_iconst hX (v := 0) (by decide) dX4_stands_28 ?_
    refine at_istore hX hn (by decide) dX4_stands_29 ?_
    exact at_sub [0, 1, 3, 4, 5, 6] rfl ((A_X4_stands_31 hn hX hR FU_) _ _ _ _ _ _ e)
  · replace e := in_ c5 e
    refine at_iconst hX (v := 0) (by decide) dX4_stands_8 ?_
    exact at_ireturn hX hR rfl (by cases e; rfl) (by cases e; rfl) dX4_stands_9

def F_X4_studsBetween_44 (k6 : Int32 → Int64 → Int32 → Int32 → Hp → Option Int32) (x1 : Int32) (x2 : Int64) (x4 : Int32) (x5 : Int32) (h : Hp) : Option Int32 := k6 x1 x2 x4 (x5 + (1 : Int32)) h
theorem A_X4_studsBetween_44 {X : CX} {h : Hp} {r : Int32} (hn : (xc_ X).maxLocals = 6) (hX : Ok_ X RX4 cX4_studsBetween 3) (hR : Rt_ X (some .int) (some (.int r)) h) (k6 : Int32 → Int64 → Int32 → Int32 → Hp → Option Int32) (hk6 : ∀ (x1 : Int32) (x2 : Int64) (x4 : Int32) (x5 : Int32), k6 x1 x2 x4 x5 h = some r → At_ X 6 [(0, .ref 4), (1, .int x1), (2, .long x2), (4, .int x4), (5, .int x5)] [] h) (x1 : Int32) (x2 : Int64) (x4 : Int32) (x5 : Int32) (e : F_X4_studsBetween_44 k6 x1 x2 x4 x5 h = some r) : At_ X 44 [(0, .ref 4), (1, .int x1), (2, .long x2), (4, .int x4), (5, .int x5)] [] h := by
  unfold F_X4_studsBetween_44 at e
  refine at_iinc hX hn (by decide) rfl (v := 1) (by decide) dX4_studsBetween_44 ?_
  refine at_goto hX (tgt := 6) (by decide) dX4_studsBetween_47 ?_
  exact at_sub [0, 1, 2, 4, 5] rfl (hk6 _ _ _ _ e)
def F_X4_studsBetween_6 (n : Nat) (x1 : Int32) (x2 : Int64) (x4 : Int32) (x5 : Int32) (h : Hp) : Option Int32 := match n with
  | 0 => none
  | n + 1 => (F_X2_ever  h).bind fun v12 => if v12 ≤ x5 then some x4 else if (lu_ x2 x5) &&& (1 : Int64) = (1 : Int64) then (F_X2_sharedStuds x1 x5 h).bind fun v38 => (F_X4_studsBetween_44 (F_X4_studsBetween_6 n)) x1 x2 (x4 + v38) x5 h else (F_X4_studsBetween_44 (F_X4_studsBetween_6 n)) x1 x2 x4 x5 h
theorem A_X4_studsBetween_6 {X : CX} {h : Hp} {r : Int32} (hn : (xc_ X).maxLocals = 6) (hX : Ok_ X RX4 cX4_studsBetween 3) (hR : Rt_ X (some .int) (some (.int r)) h) : ∀ (n : Nat) (x1 : Int32) (x2 : Int64) (x4 : Int32) (x5 : Int32), F_X4_studsBetween_6 n x1 x2 x4 x5 h = some r → At_ X 6 [(0, .ref 4), (1, .int x1), (2, .long x2), (4, .int x4), (5, .int x5)] [] h := by
  intro n
  induction n with
  | zero => intro x1 x2 x4 x5 e; cases e
  | succ n ih =>
    intro x1 x2 x4 x5 e
    rw [F_X4_studsBetween_6] at e
    refine at_iload hX rfl dX4_studsBetween_6 ?_
    refine at_aload_n hX rfl rfl dX4_studsBetween_8 ?_
    refine gf_X4_22 hX dX4_studsBetween_9 ?_
    obtain ⟨v12, e1, e⟩ := ob_some e
    refine at_callV0 hX cv_X4_50 (by decide) (c_X2_ever _ _  _ e1) (Nat.le_of_ble_eq_true rfl) dX4_studsBetween_12 ?_
    refine at_icmp_ge hX (tgt := 50) (by decide) dX4_studsBetween_15 (fun c15 => ?_) (fun c15 => ?_)
    · replace e := ip_ c15 e
      refine at_iload hX rfl dX4_studsBetween_50 ?_
      exact at_ireturn hX hR rfl (by cases e; rfl) rfl dX4_studsBetween_52
    · replace e := in_ c15 e
      refine at_lload_n hX rfl rfl dX4_studsBetween_18 ?_
      refine at_iload hX rfl dX4_studsBetween_19 ?_
      refine at_lushr hX dX4_studsBetween_21 ?_
      refine at_lconst hX (v := 1) (by decide) dX4_studsBetween_22 ?_
      refine at_land hX dX4_studsBetween_23 ?_
      refine at_lconst hX (v := 1) (by decide) dX4_studsBetween_24 ?_
      refine at_lcmp_ne hX (tgt := 44) (by decide) dX4_studsBetween_25 dX4_studsBetween_26 (fun c25 => ?_) (fun c25 => ?_)
      · replace e := in_ c25 e
        exact at_sub [0, 1, 2, 4, 5] rfl ((A_X4_studsBetween_44 hn hX hR (F_X4_studsBetween_6 n) ih) _ _ _ _ e)
      · replace e := ip_ c25 e
        refine at_iload hX rfl dX4_studsBetween_29 ?_
        refine at_aload_n hX rfl rfl dX4_studsBetween_31 ?_
        refine gf_X4_22 hX dX4_studsBetween_32 ?_
        refine at_iload_n hX rfl rfl dX4_studsBetween_35 ?_
        refine at_iload hX rfl dX4_studsBetween_36 ?_
        obtain ⟨v38, e1, e⟩ := ob_some e
        refine at_callV2 hX cv_X4_124 (by decide) (c_X2_sharedStuds _ _ _ _ _ e1) (Nat.le_of_ble_eq_true rfl) dX4_studsBetween_38 ?_
        refine at_iadd hX dX4_studsBetween_41 ?_
        refine at_istore hX hn (by decide) dX4_studsBetween_42 ?_
        exact at_sub [0, 1, 2, 4, 5] rfl ((A_X4_studsBetween_44 hn hX hR (F_X4_studsBetween_6 n) ih) _ _ _ _ e)
def F_X4_studsBetween (x1 : Int32) (x2 : Int64) (h : Hp) : Option Int32 := (F_X4_studsBetween_6 FU_) x1 x2 (0 : Int32) (0 : Int32) h
theorem c_X4_studsBetween (l : Launch) (G : Gl) (x1 : Int32) (x2 : Int64) (h : Hp) {r : Int32} (e : F_X4_studsBetween x1 x2 h = some r) : Does l G 3 M_X4_studsBetween [.ref 4, .int x1, .long x2] h (some (.int r)) h := by
  refine Does.of (by decide) rfl (Nat.le_of_ble_eq_true rfl) (fun X hl hG hn hX hR => ?_)
  unfold F_X4_studsBetween at e
  subst hl; subst hG
  show At_ X 0 [(0, .ref 4), (1, .int x1), (2, .long x2)] [] h
  refine at_iconst hX (v := 0) (by decide) dX4_studsBetween_0 ?_
  refine at_istore hX hn (by decide) dX4_studsBetween_1 ?_
  refine at_iconst hX (v := 0) (by decide) dX4_studsBetween_3 ?_
  refine at_istore hX hn (by decide) dX4_studsBetween_4 ?_
  exact at_sub [0, 1, 2, 4, 5] rfl ((A_X4_studsBetween_6 hn hX hR FU_) _ _ _ _ e)

def F_X4_countWeak_136 (k64 : Int32 → Int64 → Int32 → Int32 → Hp → Option Int32) (x1 : Int32) (x4 : Int64) (x6 : Int32) (x7 : Int32) (h : Hp) : Option Int32 := k64 x1 x4 x6 (x7 + (1 : Int32)) h
theorem A_X4_countWeak_136 {X : CX} {h : Hp} {r : Int32} (hn : (xc_ X).maxLocals = 10) (hX : Ok_ X RX4 cX4_countWeak 4) (hR : Rt_ X (some .int) (some (.int r)) h) (k64 : Int32 → Int64 → Int32 → Int32 → Hp → Option Int32) (hk64 : ∀ (x1 : Int32) (x4 : Int64) (x6 : Int32) (x7 : Int32), k64 x1 x4 x6 x7 h = some r → At_ X 64 [(0, .ref 4), (1, .int x1), (4, .long x4), (6, .int x6), (7, .int x7)] [] h) (x1 : Int32) (x4 : Int64) (x6 : Int32) (x7 : Int32) (e : F_X4_countWeak_136 k64 x1 x4 x6 x7 h = some r) : At_ X 136 [(0, .ref 4), (1, .int x1), (4, .long x4), (6, .int x6), (7, .int x7)] [] h := by
  unfold F_X4_countWeak_136 at e
  refine at_iinc hX hn (by decide) rfl (v := 1) (by decide) dX4_countWeak_136 ?_
  refine at_goto hX (tgt := 64) (by decide) dX4_countWeak_139 ?_
  exact at_sub [0, 1, 4, 6, 7] rfl (hk64 _ _ _ _ e)
def F_X4_countWeak_64 (n : Nat) (x1 : Int32) (x4 : Int64) (x6 : Int32) (x7 : Int32) (h : Hp) : Option Int32 := match n with
  | 0 => none
  | n + 1 => if (40 : Int32) ≤ x7 then some x6 else if x4 = (0 : Int64) then some x6 else (F_X4_reach (x4 &&& (-x4)) x4 h).bind fun v87 => bd_ (x4 &&& (v87 ^^^ (-1 : Int64))) fun y101 => (F_X4_floats v87 h).bind fun v106 => if v106 = (0 : Int32) then (F_X4_countWeak_136 (F_X4_countWeak_64 n)) x1 y101 x6 x7 h else (F_X4_weight v87 h).bind fun v115 => (F_X4_studsBetween x1 v87 h).bind fun v126 => if v115 ≤ (gI_ h 259) * v126 then (F_X4_countWeak_136 (F_X4_countWeak_64 n)) x1 y101 x6 x7 h else (F_X4_countWeak_136 (F_X4_countWeak_64 n)) x1 y101 (x6 + (1 : Int32)) x7 h
theorem A_X4_countWeak_64 {X : CX} {h : Hp} {r : Int32} (hn : (xc_ X).maxLocals = 10) (hX : Ok_ X RX4 cX4_countWeak 4) (hR : Rt_ X (some .int) (some (.int r)) h) : ∀ (n : Nat) (x1 : Int32) (x4 : Int64) (x6 : Int32) (x7 : Int32), F_X4_countWeak_64 n x1 x4 x6 x7 h = some r → At_ X 64 [(0, .ref 4), (1, .int x1), (4, .long x4), (6, .int x6), (7, .int x7)] [] h := by
  intro n
  induction n with
  | zero => intro x1 x4 x6 x7 e; cases e
  | succ n ih =>
    intro x1 x4 x6 x7 e
    rw [F_X4_countWeak_64] at e
    refine at_iload hX rfl dX4_countWeak_64 ?_
    refine at_bipush hX (v := 40) (by decide) dX4_countWeak_66 ?_
    refine at_icmp_ge hX (tgt := 142) (by decide) dX4_countWeak_68 (fun c68 => ?_) (fun c68 => ?_)
    · replace e := ip_ c68 e
      refine at_iload hX rfl dX4_countWeak_142 ?_
      exact at_ireturn hX hR rfl (by cases e; rfl) rfl dX4_countWeak_144
    · replace e := in_ c68 e
      refine at_lload hX rfl dX4_countWeak_71 ?_
      refine at_lconst hX (v := 0) (by decide) dX4_countWeak_73 ?_
      refine at_lcmp_eq hX (tgt := 142) (by decide) dX4_countWeak_74 dX4_countWeak_75 (fun c74 => ?_) (fun c74 => ?_)
      · replace e := ip_ c74 e
        refine at_iload hX rfl dX4_countWeak_142 ?_
        exact at_ireturn hX hR rfl (by cases e; rfl) rfl dX4_countWeak_144
      · replace e := in_ c74 e
        refine at_aload_n hX rfl rfl dX4_countWeak_78 ?_
        refine at_lload hX rfl dX4_countWeak_79 ?_
        refine at_lload hX rfl dX4_countWeak_81 ?_
        refine at_lneg hX dX4_countWeak_83 ?_
        refine at_land hX dX4_countWeak_84 ?_
        refine at_lload hX rfl dX4_countWeak_85 ?_
        obtain ⟨v87, e1, e⟩ := ob_some e
        refine at_callV2 hX cv_X4_38 (by decide) (c_X4_reach _ _ _ _ _ e1) (Nat.le_of_ble_eq_true rfl) dX4_countWeak_87 ?_
        refine at_lstore hX hn (by decide) dX4_countWeak_90 ?_
        refine at_lload hX rfl dX4_countWeak_92 ?_
        refine at_lload hX rfl dX4_countWeak_94 ?_
        refine at_ldc2 hX wk_X4_36 dX4_countWeak_96 ?_
        refine at_lxor hX dX4_countWeak_99 ?_
        refine at_land hX dX4_countWeak_100 ?_
        obtain ⟨y101, ey101, e⟩ := bd_some e
        refine at_tl ey101 ?_
        refine at_lstore hX hn (by decide) dX4_countWeak_101 ?_
        refine at_aload_n hX rfl rfl dX4_countWeak_103 ?_
        refine at_lload hX rfl dX4_countWeak_104 ?_
        obtain ⟨v106, e1, e⟩ := ob_some e
        refine at_callV1 hX cv_X4_46 (by decide) (c_X4_floats _ _ _ _ e1) (Nat.le_of_ble_eq_true rfl) dX4_countWeak_106 ?_
        refine at_if_eq hX (tgt := 136) (by decide) dX4_countWeak_109 (fun c109 => ?_) (fun c109 => ?_)
        · replace e := ip_ c109 e
          exact at_sub [0, 1, 4, 6, 7] rfl ((A_X4_countWeak_136 hn hX hR (F_X4_countWeak_64 n) ih) _ _ _ _ e)
        · replace e := in_ c109 e
          refine at_aload_n hX rfl rfl dX4_countWeak_112 ?_
          refine at_lload hX rfl dX4_countWeak_113 ?_
          obtain ⟨v115, e1, e⟩ := ob_some e
          refine at_callV1 hX cv_X4_73 (by decide) (c_X4_weight _ _ _ _ e1) (Nat.le_of_ble_eq_true rfl) dX4_countWeak_115 ?_
          refine at_aload_n hX rfl rfl dX4_countWeak_118 ?_
          refine gf_X4_18 hX dX4_countWeak_119 ?_
          refine at_aload_n hX rfl rfl dX4_countWeak_122 ?_
          refine at_iload_n hX rfl rfl dX4_countWeak_123 ?_
          refine at_lload hX rfl dX4_countWeak_124 ?_
          obtain ⟨v126, e1, e⟩ := ob_some e
          refine at_callV2 hX cv_X4_120 (by decide) (c_X4_studsBetween _ _ _ _ _ e1) (Nat.le_of_ble_eq_true rfl) dX4_countWeak_126 ?_
          refine at_imul hX dX4_countWeak_129 ?_
          refine at_icmp_le hX (tgt := 136) (by decide) dX4_countWeak_130 (fun c130 => ?_) (fun c130 => ?_)
          · replace e := ip_ c130 e
            exact at_sub [0, 1, 4, 6, 7] rfl ((A_X4_countWeak_136 hn hX hR (F_X4_countWeak_64 n) ih) _ _ _ _ e)
          · replace e := in_ c130 e
            refine at_iinc hX hn (by decide) rfl (v := 1) (by decide) dX4_countWeak_133 ?_
            exact at_sub [0, 1, 4, 6, 7] rfl ((A_X4_countWeak_136 hn hX hR (F_X4_countWeak_64 n) ih) _ _ _ _ e)
def F_X4_countWeak (x1 : Int32) (x2 : Int64) (h : Hp) : Option Int32 := (F_X4_floats x2 h).bind fun v2 => if v2 = (0 : Int32) then (F_X2_neighboursOf x1 h).bind fun v13 => (F_J13_bitCount_95d88 (v13 &&& x2)).bind fun v18 => if (2 : Int32) ≤ v18 then bd_ (x2 &&& ((ls_ (1 : Int64) x1) ^^^ (-1 : Int64))) fun y36 => (F_X4_reach (y36 &&& (-y36)) y36 h).bind fun v47 => if v47 = y36 then some (0 : Int32) else (F_X4_countWeak_64 FU_) x1 y36 (0 : Int32) (0 : Int32) h else some (0 : Int32) else some (0 : Int32)
theorem c_X4_countWeak (l : Launch) (G : Gl) (x1 : Int32) (x2 : Int64) (h : Hp) {r : Int32} (e : F_X4_countWeak x1 x2 h = some r) : Does l G 4 M_X4_countWeak [.ref 4, .int x1, .long x2] h (some (.int r)) h := by
  refine Does.of (by decide) rfl (Nat.le_of_ble_eq_true rfl) (fun X hl hG hn hX hR => ?_)
  unfold F_X4_countWeak at e
  subst hl; subst hG
  show At_ X 0 [(0, .ref 4), (1, .int x1), (2, .long x2)] [] h
  refine at_aload_n hX rfl rfl dX4_countWeak_0 ?_
  refine at_lload_n hX rfl rfl dX4_countWeak_1 ?_
  obtain ⟨v2, e1, e⟩ := ob_some e
  refine at_callV1 hX cv_X4_46 (by decide) (c_X4_floats _ _ _ _ e1) (Nat.le_of_ble_eq_true rfl) dX4_countWeak_2 ?_
  refine at_if_ne hX (tgt := 25) (by decide) dX4_countWeak_5 (fun c5 => ?_) (fun c5 => ?_)
  · replace e := in_ c5 e
    refine at_iconst hX (v := 0) (by decide) dX4_countWeak_25 ?_
    exact at_ireturn hX hR rfl (by cases e; rfl) rfl dX4_countWeak_26
  · replace e := ip_ c5 e
    refine at_aload_n hX rfl rfl dX4_countWeak_8 ?_
    refine gf_X4_22 hX dX4_countWeak_9 ?_
    refine at_iload_n hX rfl rfl dX4_countWeak_12 ?_
    obtain ⟨v13, e1, e⟩ := ob_some e
    refine at_callV1 hX cv_X4_30 (by decide) (c_X2_neighboursOf _ _ _ _ e1) (Nat.le_of_ble_eq_true rfl) dX4_countWeak_13 ?_
    refine at_lload_n hX rfl rfl dX4_countWeak_16 ?_
    refine at_land hX dX4_countWeak_17 ?_
    obtain ⟨v18, e1, e⟩ := ob_some e
    refine at_callS1 hX cv_X4_115 (by decide) (c_J13_bitCount_95d88 _ _ _ _ e1) (Nat.le_of_ble_eq_true rfl) dX4_countWeak_18 ?_
    refine at_iconst hX (v := 2) (by decide) dX4_countWeak_21 ?_
    refine at_icmp_ge hX (tgt := 27) (by decide) dX4_countWeak_22 (fun c22 => ?_) (fun c22 => ?_)
    · replace e := ip_ c22 e
      refine at_lload_n hX rfl rfl dX4_countWeak_27 ?_
      refine at_lconst hX (v := 1) (by decide) dX4_countWeak_28 ?_
      refine at_iload_n hX rfl rfl dX4_countWeak_29 ?_
      refine at_lshl hX dX4_countWeak_30 ?_
      refine at_ldc2 hX wk_X4_36 dX4_countWeak_31 ?_
      refine at_lxor hX dX4_countWeak_34 ?_
      refine at_land hX dX4_countWeak_35 ?_
      obtain ⟨y36, ey36, e⟩ := bd_some e
      refine at_tl ey36 ?_
      refine at_lstore hX hn (by decide) dX4_countWeak_36 ?_
      refine at_aload_n hX rfl rfl dX4_countWeak_38 ?_
      refine at_lload hX rfl dX4_countWeak_39 ?_
      refine at_lload hX rfl dX4_countWeak_41 ?_
      refine at_lneg hX dX4_countWeak_43 ?_
      refine at_land hX dX4_countWeak_44 ?_
      refine at_lload hX rfl dX4_countWeak_45 ?_
      obtain ⟨v47, e1, e⟩ := ob_some e
      refine at_callV2 hX cv_X4_38 (by decide) (c_X4_reach _ _ _ _ _ e1) (Nat.le_of_ble_eq_true rfl) dX4_countWeak_47 ?_
      refine at_lload hX rfl dX4_countWeak_50 ?_
      refine at_lcmp_ne hX (tgt := 58) (by decide) dX4_countWeak_52 dX4_countWeak_53 (fun c52 => ?_) (fun c52 => ?_)
      · replace e := in_ c52 e
        refine at_iconst hX (v := 0) (by decide) dX4_countWeak_58 ?_
        refine at_istore hX hn (by decide) dX4_countWeak_59 ?_
        refine at_iconst hX (v := 0) (by decide) dX4_countWeak_61 ?_
        refine at_istore hX hn (by decide) dX4_countWeak_62 ?_
        exact at_sub [0, 1, 4, 6, 7] rfl ((A_X4_countWeak_64 hn hX hR FU_) _ _ _ _ e)
      · replace e := ip_ c52 e
        refine at_iconst hX (v := 0) (by decide) dX4_countWeak_56 ?_
        exact at_ireturn hX hR rfl (by cases e; rfl) rfl dX4_countWeak_57
    · replace e := in_ c22 e
      refine at_iconst hX (v := 0) (by decide) dX4_countWeak_25 ?_
      exact at_ireturn hX hR rfl (by cases e; rfl) rfl dX4_countWeak_26
