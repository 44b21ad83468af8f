
def F_X7_seams_109 (k4 : Int32 → Int32 → Int32 → Hp → Option Int32) (x1 : Int32) (x2 : Int32) (x3 : Int32) (h : Hp) : Option Int32 := k4 x1 x2 (x3 + (1 : Int32)) h
theorem A_X7_seams_109 {X : CX} {h : Hp} {r : Int32} (hn : (xc_ X).maxLocals = 4) (hX : Ok_ X RX7 cX7_seams 2) (hR : Rt_ X (some .int) (some (.int r)) h) (k4 : Int32 → Int32 → Int32 → Hp → Option Int32) (hk4 : ∀ (x1 : Int32) (x2 : Int32) (x3 : Int32), k4 x1 x2 x3 h = some r → At_ X 4 [(0, .ref 7), (1, .int x1), (2, .int x2), (3, .int x3)] [] h) (x1 : Int32) (x2 : Int32) (x3 : Int32) (e : F_X7_seams_109 k4 x1 x2 x3 h = some r) : At_ X 109 [(0, .ref 7), (1, .int x1), (2, .int x2), (3, .int x3)] [] h := by
  unfold F_X7_seams_109 at e
  refine at_iinc hX hn (by decide) rfl (v := 1) (by decide) dX7_seams_109 ?_
  refine at_goto hX (tgt := 4) (by decide) dX7_seams_112 ?_
  exact at_sub [0, 1, 2, 3] rfl (hk4 _ _ _ e)
def F_X7_seams_106 (k4 : Int32 → Int32 → Int32 → Hp → Option Int32) (x1 : Int32) (x2 : Int32) (x3 : Int32) (h : Hp) : Option Int32 := (F_X7_seams_109 k4) x1 (x2 + (1 : Int32)) x3 h
theorem A_X7_seams_106 {X : CX} {h : Hp} {r : Int32} (hn : (xc_ X).maxLocals = 4) (hX : Ok_ X RX7 cX7_seams 2) (hR : Rt_ X (some .int) (some (.int r)) h) (k4 : Int32 → Int32 → Int32 → Hp → Option Int32) (hk4 : ∀ (x1 : Int32) (x2 : Int32) (x3 : Int32), k4 x1 x2 x3 h = some r → At_ X 4 [(0, .ref 7), (1, .int x1), (2, .int x2), (3, .int x3)] [] h) (x1 : Int32) (x2 : Int32) (x3 : Int32) (e : F_X7_seams_106 k4 x1 x2 x3 h = some r) : At_ X 106 [(0, .ref 7), (1, .int x1), (2, .int x2), (3, .int x3)] [] h := by
  unfold F_X7_seams_106 at e
  refine at_iinc hX hn (by decide) rfl (v := 1) (by decide) dX7_seams_106 ?_
  exact at_sub [0, 1, 2, 3] rfl ((A_X7_seams_109 hn hX hR k4 hk4) _ _ _ e)
def F_X7_seams_58 (k4 : Int32 → Int32 → Int32 → Hp → Option Int32) (x1 : Int32) (x2 : Int32) (x3 : Int32) (h : Hp) : Option Int32 := if (5 : Int32) ≤ ir_ (x3 / (6 : Int32)) (6 : Int32) then (F_X7_seams_109 k4) x1 x2 x3 h else (F_X7_isSeam x3 (x3 + (6 : Int32)) h).bind fun v75 => if v75 = (0 : Int32) then (F_X7_seams_109 k4) x1 x2 x3 h else if x1 = (0 : Int32) then (F_X7_seams_106 k4) x1 x2 x3 h else if x3 < (36 : Int32) then (F_X7_seams_109 k4) x1 x2 x3 h else (F_X7_isSeam (x3 - (36 : Int32)) (x3 - (30 : Int32)) h).bind fun v100 => if v100 = (0 : Int32) then (F_X7_seams_109 k4) x1 x2 x3 h else (F_X7_seams_106 k4) x1 x2 x3 h
theorem A_X7_seams_58 {X : CX} {h : Hp} {r : Int32} (hn : (xc_ X).maxLocals = 4) (hX : Ok_ X RX7 cX7_seams 2) (hR : Rt_ X (some .int) (some (.int r)) h) (k4 : Int32 → Int32 → Int32 → Hp → Option Int32) (hk4 : ∀ (x1 : Int32) (x2 : Int32) (x3 : Int32), k4 x1 x2 x3 h = some r → At_ X 4 [(0, .ref 7), (1, .int x1), (2, .int x2), (3, .int x3)] [] h) (x1 : Int32) (x2 : Int32) (x3 : Int32) (e : F_X7_seams_58 k4 x1 x2 x3 h = some r) : At_ X 58 [(0, .ref 7), (1, .int x1), (2, .int x2), (3, .int x3)] [] h := by
  unfold F_X7_seams_58 at e
  refine at_iload_n hX rfl rfl dX7_seams_58 ?_
  refine at_bipush hX (v := 6) (by decide) dX7_seams_59 ?_
  refine at_idiv hX (by decide) dX7_seams_61 ?_
  refine at_bipush hX (v := 6) (by decide) dX7_seams_62 ?_
  refine at_irem hX (by decide) dX7_seams_64 ?_
  refine at_iconst hX (v := 5) (by decide) dX7_seams_65 ?_
  refine at_icmp_ge hX (tgt := 109) (by decide) dX7_seams_66 (fun c66 => ?_) (fun c66 => ?_)
  · replace e := ip_ c66 e
    exact at_sub [0, 1, 2, 3] rfl ((A_X7_seams_109 hn hX hR k4 hk4) _ _ _ e)
  · replace e := in_ c66 e
    refine at_aload_n hX rfl rfl dX7_seams_69 ?_
    refine at_iload_n hX rfl rfl dX7_seams_70 ?_
    refine at_iload_n hX rfl rfl dX7_seams_71 ?_
    refine at_bipush hX (v := 6) (by decide) dX7_seams_72 ?_
    refine at_iadd hX dX7_seams_74 ?_
    obtain ⟨v75, e1, e⟩ := ob_some e
    refine at_callV2 hX cv_X7_222 (by decide) (c_X7_isSeam _ _ _ _ _ e1) (Nat.le_of_ble_eq_true rfl) dX7_seams_75 ?_
    refine at_if_eq hX (tgt := 109) (by decide) dX7_seams_78 (fun c78 => ?_) (fun c78 => ?_)
    · replace e := ip_ c78 e
      exact at_sub [0, 1, 2, 3] rfl ((A_X7_seams_109 hn hX hR k4 hk4) _ _ _ e)
    · replace e := in_ c78 e
      refine at_iload_n hX rfl rfl dX7_seams_81 ?_
      refine at_if_eq hX (tgt := 106) (by decide) dX7_seams_82 (fun c82 => ?_) (fun c82 => ?_)
      · replace e := ip_ c82 e
        exact at_sub [0, 1, 2, 3] rfl ((A_X7_seams_106 hn hX hR k4 hk4) _ _ _ e)
      · replace e := in_ c82 e
        refine at_iload_n hX rfl rfl dX7_seams_85 ?_
        refine at_bipush hX (v := 36) (by decide) dX7_seams_86 ?_
        refine at_icmp_lt hX (tgt := 109) (by decide) dX7_seams_88 (fun c88 => ?_) (fun c88 => ?_)
        · replace e := ip_ c88 e
          exact at_sub [0, 1, 2, 3] rfl ((A_X7_seams_109 hn hX hR k4 hk4) _ _ _ e)
        · replace e := in_ c88 e
          refine at_aload_n hX rfl rfl dX7_seams_91 ?_
          refine at_iload_n hX rfl rfl dX7_seams_92 ?_
          refine at_bipush hX (v := 36) (by decide) dX7_seams_93 ?_
          refine at_isub hX dX7_seams_95 ?_
          refine at_iload_n hX rfl rfl dX7_seams_96 ?_
          refine at_bipush hX (v := 30) (by decide) dX7_seams_97 ?_
          refine at_isub hX dX7_seams_99 ?_
          obtain ⟨v100, e1, e⟩ := ob_some e
          refine at_callV2 hX cv_X7_222 (by decide) (c_X7_isSeam _ _ _ _ _ e1) (Nat.le_of_ble_eq_true rfl) dX7_seams_100 ?_
          refine at_if_eq hX (tgt := 109) (by decide) dX7_seams_103 (fun c103 => ?_) (fun c103 => ?_)
          · replace e := ip_ c103 e
            exact at_sub [0, 1, 2, 3] rfl ((A_X7_seams_109 hn hX hR k4 hk4) _ _ _ e)
          · replace e := in_ c103 e
            exact at_sub [0, 1, 2, 3] rfl ((A_X7_seams_106 hn hX hR k4 hk4) _ _ _ e)
def F_X7_seams_55 (k4 : Int32 → Int32 → Int32 → Hp → Option Int32) (x1 : Int32) (x2 : Int32) (x3 : Int32) (h : Hp) : Option Int32 := (F_X7_seams_58 k4) x1 (x2 + (1 : Int32)) x3 h
theorem A_X7_seams_55 {X : CX} {h : Hp} {r : Int32} (hn : (xc_ X).maxLocals = 4) (hX : Ok_ X RX7 cX7_seams 2) (hR : Rt_ X (some .int) (some (.int r)) h) (k4 : Int32 → Int32 → Int32 → Hp → Option Int32) (hk4 : ∀ (x1 : Int32) (x2 : Int32) (x3 : Int32), k4 x1 x2 x3 h = some r → At_ X 4 [(0, .ref 7), (1, .int x1), (2, .int x2), (3, .int x3)] [] h) (x1 : Int32) (x2 : Int32) (x3 : Int32) (e : F_X7_seams_55 k4 x1 x2 x3 h = some r) : At_ X 55 [(0, .ref 7), (1, .int x1), (2, .int x2), (3, .int x3)] [] h := by
  unfold F_X7_seams_55 at e
  refine at_iinc hX hn (by decide) rfl (v := 1) (by decide) dX7_seams_55 ?_
  exact at_sub [0, 1, 2, 3] rfl ((A_X7_seams_58 hn hX hR k4 hk4) _ _ _ e)
def F_X7_seams_4 (n : Nat) (x1 : Int32) (x2 : Int32) (x3 : Int32) (h : Hp) : Option Int32 := match n with
  | 0 => none
  | n + 1 => if (180 : Int32) ≤ x3 then some x2 else if (5 : Int32) ≤ ir_ x3 (6 : Int32) then (F_X7_seams_58 (F_X7_seams_4 n)) x1 x2 x3 h else (F_X7_isSeam x3 (x3 + (1 : Int32)) h).bind fun v24 => if v24 = (0 : Int32) then (F_X7_seams_58 (F_X7_seams_4 n)) x1 x2 x3 h else if x1 = (0 : Int32) then (F_X7_seams_55 (F_X7_seams_4 n)) x1 x2 x3 h else if x3 < (36 : Int32) then (F_X7_seams_58 (F_X7_seams_4 n)) x1 x2 x3 h else (F_X7_isSeam (x3 - (36 : Int32)) (x3 - (35 : Int32)) h).bind fun v49 => if v49 = (0 : Int32) then (F_X7_seams_58 (F_X7_seams_4 n)) x1 x2 x3 h else (F_X7_seams_55 (F_X7_seams_4 n)) x1 x2 x3 h
theorem A_X7_seams_4 {X : CX} {h : Hp} {r : Int32} (hn : (xc_ X).maxLocals = 4) (hX : Ok_ X RX7 cX7_seams 2) (hR : Rt_ X (some .int) (some (.int r)) h) : ∀ (n : Nat) (x1 : Int32) (x2 : Int32) (x3 : Int32), F_X7_seams_4 n x1 x2 x3 h = some r → At_ X 4 [(0, .ref 7), (1, .int x1), (2, .int x2), (3, .int x3)] [] h := by
  intro n
  induction n with
  | zero => intro x1 x2 x3 e; cases e
  | succ n ih =>
    intro x1 x2 x3 e
    rw [F_X7_seams_4] at e
    refine at_iload_n hX rfl rfl dX7_seams_4 ?_
    refine at_sipush hX (v := 180) (by decide) dX7_seams_5 ?_
    refine at_icmp_ge hX (tgt := 115) (by decide) dX7_seams_8 (fun c8 => ?_) (fun c8 => ?_)
    · replace e := ip_ c8 e
      refine at_iload_n hX rfl rfl dX7_seams_115 ?_
      exact at_ireturn hX hR rfl (by cases e; rfl) rfl dX7_seams_116
    · replace e := in_ c8 e
      refine at_iload_n hX rfl rfl dX7_seams_11 ?_
      refine at_bipush hX (v := 6) (by decide) dX7_seams_12 ?_
      refine at_irem hX (by decide) dX7_seams_14 ?_
      refine at_iconst hX (v := 5) (by decide) dX7_seams_15 ?_
      refine at_icmp_ge hX (tgt := 58) (by decide) dX7_seams_16 (fun c16 => ?_) (fun c16 => ?_)
      · replace e := ip_ c16 e
        exact at_sub [0, 1, 2, 3] rfl ((A_X7_seams_58 hn hX hR (F_X7_seams_4 n) ih) _ _ _ e)
      · replace e := in_ c16 e
        refine at_aload_n hX rfl rfl dX7_seams_19 ?_
        refine at_iload_n hX rfl rfl dX7_seams_20 ?_
        refine at_iload_n hX rfl rfl dX7_seams_21 ?_
        refine at_iconst hX (v := 1) (by decide) dX7_seams_22 ?_
        refine at_iadd hX dX7_seams_23 ?_
        obtain ⟨v24, e1, e⟩ := ob_some e
        refine at_callV2 hX cv_X7_222 (by decide) (c_X7_isSeam _ _ _ _ _ e1) (Nat.le_of_ble_eq_true rfl) dX7_seams_24 ?_
        refine at_if_eq hX (tgt := 58) (by decide) dX7_seams_27 (fun c27 => ?_) (fun c27 => ?_)
        · replace e := ip_ c27 e
          exact at_sub [0, 1, 2, 3] rfl ((A_X7_seams_58 hn hX hR (F_X7_seams_4 n) ih) _ _ _ e)
        · replace e := in_ c27 e
          refine at_iload_n hX rfl rfl dX7_seams_30 ?_
          refine at_if_eq hX (tgt := 55) (by decide) dX7_seams_31 (fun c31 => ?_) (fun c31 => ?_)
          · replace e := ip_ c31 e
            exact at_sub [0, 1, 2, 3] rfl ((A_X7_seams_55 hn hX hR (F_X7_seams_4 n) ih) _ _ _ e)
          · replace e := in_ c31 e
            refine at_iload_n hX rfl rfl dX7_seams_34 ?_
            refine at_bipush hX (v := 36) (by decide) dX7_seams_35 ?_
            refine at_icmp_lt hX (tgt := 58) (by decide) dX7_seams_37 (fun c37 => ?_) (fun c37 => ?_)
            · replace e := ip_ c37 e
              exact at_sub [0, 1, 2, 3] rfl ((A_X7_seams_58 hn hX hR (F_X7_seams_4 n) ih) _ _ _ e)
            · replace e := in_ c37 e
              refine at_aload_n hX rfl rfl dX7_seams_40 ?_
              refine at_iload_n hX rfl rfl dX7_seams_41 ?_
              refine at_bipush hX (v := 36) (by decide) dX7_seams_42 ?_
              refine at_isub hX dX7_seams_44 ?_
              refine at_iload_n hX rfl rfl dX7_seams_45 ?_
              refine at_bipush hX (v := 35) (by decide) dX7_seams_46 ?_
              refine at_isub hX dX7_seams_48 ?_
              obtain ⟨v49, e1, e⟩ := ob_some e
              refine at_callV2 hX cv_X7_222 (by decide) (c_X7_isSeam _ _ _ _ _ e1) (Nat.le_of_ble_eq_true rfl) dX7_seams_49 ?_
              refine at_if_eq hX (tgt := 58) (by decide) dX7_seams_52 (fun c52 => ?_) (fun c52 => ?_)
              · replace e := ip_ c52 e
                exact at_sub [0, 1, 2, 3] rfl ((A_X7_seams_58 hn hX hR (F_X7_seams_4 n) ih) _ _ _ e)
              · replace e := in_ c52 e
                exact at_sub [0, 1, 2, 3] rfl ((A_X7_seams_55 hn hX hR (F_X7_seams_4 n) ih) _ _ _ e)
def F_X7_seams (x1 : Int32) (h : Hp) : Option Int32 := (F_X7_seams_4 FU_) x1 (0 : Int32) (0 : Int32) h
theorem c_X7_seams (l : Launch) (G : Gl) (x1 : Int32) (h : Hp) {r : Int32} (e : F_X7_seams x1 h = some r) : Does l G 2 M_X7_seams [.ref 7, .int x1] h (some (.int r)) h := by
  refine Does.of (by decide) rfl (Nat.le_of_ble_eq_true rfl) (fun X hl hG hn hX hR => ?_)
  unfold F_X7_seams at e
  subst hl; subst hG
  show At_ X 0 [(0, .ref 7), (1, .int x1)] [] h
  refine at_iconst hX (v := 0) (by decide) dX7_seams_0 ?_
  refine at_istore_n hX rfl hn (by decide) dX7_seams_1 ?_
  refine at_iconst hX (v := 0) (by decide) dX7_seams_2 ?_
  refine at_istore_n hX rfl hn (by decide) dX7_seams_3 ?_
  exact at_sub [0, 1, 2, 3] rfl ((A_X7_seams_4 hn hX hR FU_) _ _ _ e)

def F_X7_cost_26 (x1 : Int32) (x2 : Int32) (s0 : Int32) (h : Hp) : Option Int32 := if (180 : Int32) ≤ x1 + (36 : Int32) then some (s0 + (0 : Int32)) else (F_X7_isSeam (x1 + (36 : Int32)) (x2 + (36 : Int32)) h).bind fun v45 => if v45 = (0 : Int32) then some (s0 + (0 : Int32)) else some (s0 + (1 : Int32))
theorem A_X7_cost_26 {X : CX} {h : Hp} {r : Int32} (hn : (xc_ X).maxLocals = 3) (hX : Ok_ X RX7 cX7_cost 2) (hR : Rt_ X (some .int) (some (.int r)) h) (x1 : Int32) (x2 : Int32) (s0 : Int32) (e : F_X7_cost_26 x1 x2 s0 h = some r) : At_ X 26 [(0, .ref 7), (1, .int x1), (2, .int x2)] [.int s0] h := by
  unfold F_X7_cost_26 at e
  refine at_iload_n hX rfl rfl dX7_cost_26 ?_
  refine at_bipush hX (v := 36) (by decide) dX7_cost_27 ?_
  refine at_iadd hX dX7_cost_29 ?_
  refine at_sipush hX (v := 180) (by decide) dX7_cost_30 ?_
  refine at_icmp_ge hX (tgt := 55) (by decide) dX7_cost_33 (fun c33 => ?_) (fun c33 => ?_)
  · replace e := ip_ c33 e
    refine at_iconst hX (v := 0) (by decide) dX7_cost_55 ?_
    refine at_iadd hX dX7_cost_56 ?_
    exact at_ireturn hX hR rfl (by cases e; rfl) rfl dX7_cost_57
  · replace e := in_ c33 e
    refine at_aload_n hX rfl rfl dX7_cost_36 ?_
    refine at_iload_n hX rfl rfl dX7_cost_37 ?_
    refine at_bipush hX (v := 36) (by decide) dX7_cost_38 ?_
    refine at_iadd hX dX7_cost_40 ?_
    refine at_iload_n hX rfl rfl dX7_cost_41 ?_
    refine at_bipush hX (v := 36) (by decide) dX7_cost_42 ?_
    refine at_iadd hX dX7_cost_44 ?_
    obtain ⟨v45, e1, e⟩ := ob_some e
    refine at_callV2 hX cv_X7_222 (by decide) (c_X7_isSeam _ _ _ _ _ e1) (Nat.le_of_ble_eq_true rfl) dX7_cost_45 ?_
    refine at_if_eq hX (tgt := 55) (by decide) dX7_cost_48 (fun c48 => ?_) (fun c48 => ?_)
    · replace e := ip_ c48 e
      refine at_iconst hX (v := 0) (by decide) dX7_cost_55 ?_
      refine at_iadd hX dX7_cost_56 ?_
      exact at_ireturn hX hR rfl (by cases e; rfl) rfl dX7_cost_57
    · replace e := in_ c48 e
      refine at_iconst hX (v := 1) (by decide) dX7_cost_51 ?_
      refine at_goto hX (tgt := 56) (by decide) dX7_cost_52 ?_
      refine at_iadd hX dX7_cost_56 ?_
      exact at_ireturn hX hR rfl (by cases e; rfl) rfl dX7_cost_57
def F_X7_cost_25 (x1 : Int32) (x2 : Int32) (h : Hp) : Option Int32 := F_X7_cost_26 x1 x2 (0 : Int32) h
theorem A_X7_cost_25 {X : CX} {h : Hp} {r : Int32} (hn : (xc_ X).maxLocals = 3) (hX : Ok_ X RX7 cX7_cost 2) (hR : Rt_ X (some .int) (some (.int r)) h) (x1 : Int32) (x2 : Int32) (e : F_X7_cost_25 x1 x2 h = some r) : At_ X 25 [(0, .ref 7), (1, .int x1), (2, .int x2)] [] h := by
  unfold F_X7_cost_25 at e
  refine at_iconst hX (v := 0) (by decide) dX7_cost_25 ?_
  exact at_sub [0, 1, 2] rfl ((A_X7_cost_26 hn hX hR) _ _ _ e)
def F_X7_cost (x1 : Int32) (x2 : Int32) (h : Hp) : Option Int32 := if x1 < (36 : Int32) then F_X7_cost_25 x1 x2 h else (F_X7_isSeam (x1 - (36 : Int32)) (x2 - (36 : Int32)) h).bind fun v15 => if v15 = (0 : Int32) then F_X7_cost_25 x1 x2 h else F_X7_cost_26 x1 x2 (1 : Int32) h
theorem c_X7_cost (l : Launch) (G : Gl) (x1 : Int32) (x2 : Int32) (h : Hp) {r : Int32} (e : F_X7_cost x1 x2 h = some r) : Does l G 2 M_X7_cost [.ref 7, .int x1, .int x2] h (some (.int r)) h := by
  refine Does.of (by decide) rfl (Nat.le_of_ble_eq_true rfl) (fun X hl hG hn hX hR => ?_)
  unfold F_X7_cost at e
  subst hl; subst hG
  show At_ X 0 [(0, .ref 7), (1, .int x1), (2, .int x2)] [] h
  refine at_iload_n hX rfl rfl dX7_cost_0 ?_
  refine at_bipush hX (v := 36) (by decide) dX7_cost_1 ?_
  refine at_icmp_lt hX (tgt := 25) (by decide) dX7_cost_3 (fun c3 => ?_) (fun c3 => ?_)
  · replace e := ip_ c3 e
    exact at_sub [0, 1, 2] rfl ((A_X7_cost_25 hn hX hR) _ _ e)
  · replace e := in_ c3 e
    refine at_aload_n hX rfl rfl dX7_cost_6 ?_
    refine at_iload_n hX rfl rfl dX7_cost_7 ?_
    refine at_bipush hX (v := 36) (by decide) dX7_cost_8 ?_
    refine at_isub hX dX7_cost_10 ?_
    refine at_iload_n hX rfl rfl dX7_cost_11 ?_
    refine at_bipush hX (v := 36) (by decide) dX7_cost_12 ?_
    refine at_isub hX dX7_cost_14 ?_
    obtain ⟨v15, e1, e⟩ := ob_some e
    refine at_callV2 hX cv_X7_222 (by decide) (c_X7_isSeam _ _ _ _ _ e1) (Nat.le_of_ble_eq_true rfl) dX7_cost_15 ?_
    refine at_if_eq hX (tgt := 25) (by decide) dX7_cost_18 (fun c18 => ?_) (fun c18 => ?_)
    · replace e := ip_ c18 e
      exact at_sub [0, 1, 2] rfl ((A_X7_cost_25 hn hX hR) _ _ e)
    · replace e := in_ c18 e
      refine at_iconst hX (v := 1) (by decide) dX7_cost_21 ?_
      refine at_goto hX (tgt := 26) (by decide) dX7_cost_22 ?_
      exact at_sub [0, 1, 2] rfl ((A_X7_cost_26 hn hX hR) _ _ _ e)

def F_X7_wrongCover_114 (h : Hp) : Option (Int32 × Hp) := if gI_ h 472 ≤ (16 : Int32) then some ((0 : Int32), h) else some ((-6 : Int32), h)
theorem A_X7_wrongCover_114 {X : CX} {h' : Hp} {r : Int32} (hn : (xc_ X).maxLocals = 4) (hX : Ok_ X RX7 cX7_wrongCover 2) (hR : Rt_ X (some .int) (some (.int r)) h') (h : Hp) (e : F_X7_wrongCover_114  h = some (r, h')) : At_ X 114 [(0, .ref 7)] [] h := by
  unfold F_X7_wrongCover_114 at e
  refine at_aload_n hX rfl rfl dX7_wrongCover_114 ?_
  refine gf_X7_225 hX dX7_wrongCover_115 ?_
  refine at_bipush hX (v := 16) (by decide) dX7_wrongCover_118 ?_
  refine at_icmp_le hX (tgt := 128) (by decide) dX7_wrongCover_120 (fun c120 => ?_) (fun c120 => ?_)
  · replace e := ip_ c120 e
    refine at_iconst hX (v := 0) (by decide) dX7_wrongCover_128 ?_
    exact at_ireturn hX hR rfl (by cases e; rfl) (by cases e; rfl) dX7_wrongCover_129
  · replace e := in_ c120 e
    refine at_bipush hX (v := -6) (by decide) dX7_wrongCover_123 ?_
    refine at_goto hX (tgt := 129) (by decide) dX7_wrongCover_125 ?_
    exact at_ireturn hX hR rfl (by cases e; rfl) (by cases e; rfl) dX7_wrongCover_129
def F_X7_wrongCover_108 (k27 : Int32 → Int32 → Int32 → Hp → Option (Int32 × Hp)) (x1 : Int32) (x2 : Int32) (x3 : Int32) (h : Hp) : Option (Int32 × Hp) := k27 x1 x2 (x3 + (1 : Int32)) h
theorem A_X7_wrongCover_108 {X : CX} {h' : Hp} {r : Int32} (hn : (xc_ X).maxLocals = 4) (hX : Ok_ X RX7 cX7_wrongCover 2) (hR : Rt_ X (some .int) (some (.int r)) h') (k27 : Int32 → Int32 → Int32 → Hp → Option (Int32 × Hp)) (hk27 : ∀ (x1 : Int32) (x2 : Int32) (x3 : Int32) (h : Hp), k27 x1 x2 x3 h = some (r, h') → At_ X 27 [(0, .ref 7), (1, .int x1), (2, .int x2), (3, .int x3)] [] h) (x1 : Int32) (x2 : Int32) (x3 : Int32) (h : Hp) (e : F_X7_wrongCover_108 k27 x1 x2 x3 h = some (r, h')) : At_ X 108 [(0, .ref 7), (1, .int x1), (2, .int x2), (3, .int x3)] [] h := by
  unfold F_X7_wrongCover_108 at e
  refine at_iinc hX hn (by decide) rfl (v := 1) (by decide) dX7_wrongCover_108 ?_
  refine at_goto hX (tgt := 27) (by decide) dX7_wrongCover_111 ?_
  exact at_sub [0, 1, 2, 3] rfl (hk27 _ _ _ _ e)
def F_X7_wrongCover_27 (n : Nat) (k114 : Hp → Option (Int32 × Hp)) (x1 : Int32) (x2 : Int32) (x3 : Int32) (h : Hp) : Option (Int32 × Hp) := match n with
  | 0 => none
  | n + 1 => if (36 : Int32) ≤ x3 then k114 h else wA_ h 57 36 x3 (-9 : Int32) fun h40 => rA_ h40 39 180 (((36 : Int32) * x2) + x3) fun v51 => if v51 = x1 then rA_ h40 40 180 (((36 : Int32) * x2) + x3) fun v66 => if v66 < (0 : Int32) then wA_ h40 57 36 x3 (gI_ h40 472) fun h82 => wA_ h82 54 36 (gI_ h82 472) (((36 : Int32) * x2) + x3) fun h97 => bd_ (sI_ h97 472 ((gI_ h97 472) + (1 : Int32))) fun h105 => (F_X7_wrongCover_108 (F_X7_wrongCover_27 n k114)) x1 x2 x3 h105 else (F_X7_wrongCover_108 (F_X7_wrongCover_27 n k114)) x1 x2 x3 h40 else (F_X7_wrongCover_108 (F_X7_wrongCover_27 n k114)) x1 x2 x3 h40
theorem A_X7_wrongCover_27 {X : CX} {h' : Hp} {r : Int32} (hn : (xc_ X).maxLocals = 4) (hX : Ok_ X RX7 cX7_wrongCover 2) (hR : Rt_ X (some .int) (some (.int r)) h') (k114 : Hp → Option (Int32 × Hp)) (hk114 : ∀ (h : Hp), k114  h = some (r, h') → At_ X 114 [(0, .ref 7)] [] h) : ∀ (n : Nat) (x1 : Int32) (x2 : Int32) (x3 : Int32) (h : Hp), F_X7_wrongCover_27 n k114 x1 x2 x3 h = some (r, h') → At_ X 27 [(0, .ref 7), (1, .int x1), (2, .int x2), (3, .int x3)] [] h := by
  intro n
  induction n with
  | zero => intro x1 x2 x3 h e; cases e
  | succ n ih =>
    intro x1 x2 x3 h e
    rw [F_X7_wrongCover_27] at e
    refine at_iload_n hX rfl rfl dX7_wrongCover_27 ?_
    refine at_bipush hX (v := 36) (by decide) dX7_wrongCover_28 ?_
    refine at_icmp_ge hX (tgt := 114) (by decide) dX7_wrongCover_30 (fun c30 => ?_) (fun c30 => ?_)
    · replace e := ip_ c30 e
      exact at_sub [0] rfl (hk114 _ e)
    · replace e := in_ c30 e
      refine at_aload_n hX rfl rfl dX7_wrongCover_33 ?_
      refine gf_X7_73 hX dX7_wrongCover_34 ?_
      refine at_iload_n hX rfl rfl dX7_wrongCover_37 ?_
      refine at_bipush hX (v := -9) (by decide) dX7_wrongCover_38 ?_
      obtain ⟨hi, h40, eh40, e⟩ := wA_some e
      refine at_iast hX (o := 57) (by decide) rfl hi dX7_wrongCover_40 ?_
      refine at_th eh40 ?_
      refine at_aload_n hX rfl rfl dX7_wrongCover_41 ?_
      refine gf_X7_13 hX dX7_wrongCover_42 ?_
      refine at_bipush hX (v := 36) (by decide) dX7_wrongCover_45 ?_
      refine at_iload_n hX rfl rfl dX7_wrongCover_47 ?_
      refine at_imul hX dX7_wrongCover_48 ?_
      refine at_iload_n hX rfl rfl dX7_wrongCover_49 ?_
      refine at_iadd hX dX7_wrongCover_50 ?_
      obtain ⟨hi, v51, ev51, e⟩ := rA_some e
      refine at_iald hX (o := 39) (by decide) rfl hi dX7_wrongCover_51 ?_
      refine at_ti ev51 ?_
      refine at_iload_n hX rfl rfl dX7_wrongCover_52 ?_
      refine at_icmp_ne hX (tgt := 108) (by decide) dX7_wrongCover_53 (fun c53 => ?_) (fun c53 => ?_)
      · replace e := in_ c53 e
        exact at_sub [0, 1, 2, 3] rfl ((A_X7_wrongCover_108 hn hX hR (F_X7_wrongCover_27 n k114) ih) _ _ _ _ e)
      · replace e := ip_ c53 e
        refine at_aload_n hX rfl rfl dX7_wrongCover_56 ?_
        refine gf_X7_16 hX dX7_wrongCover_57 ?_
        refine at_bipush hX (v := 36) (by decide) dX7_wrongCover_60 ?_
        refine at_iload_n hX rfl rfl dX7_wrongCover_62 ?_
        refine at_imul hX dX7_wrongCover_63 ?_
        refine at_iload_n hX rfl rfl dX7_wrongCover_64 ?_
        refine at_iadd hX dX7_wrongCover_65 ?_
        obtain ⟨hi, v66, ev66, e⟩ := rA_some e
        refine at_iald hX (o := 40) (by decide) rfl hi dX7_wrongCover_66 ?_
        refine at_ti ev66 ?_
        refine at_if_lt hX (tgt := 73) (by decide) dX7_wrongCover_67 (fun c67 => ?_) (fun c67 => ?_)
        · replace e := ip_ c67 e
          refine at_aload_n hX rfl rfl dX7_wrongCover_73 ?_
          refine gf_X7_73 hX dX7_wrongCover_74 ?_
          refine at_iload_n hX rfl rfl dX7_wrongCover_77 ?_
          refine at_aload_n hX rfl rfl dX7_wrongCover_78 ?_
          refine gf_X7_225 hX dX7_wrongCover_79 ?_
          obtain ⟨hi, h82, eh82, e⟩ := wA_some e
          refine at_iast hX (o := 57) (by decide) rfl hi dX7_wrongCover_82 ?_
          refine at_th eh82 ?_
          refine at_aload_n hX rfl rfl dX7_wrongCover_83 ?_
          refine gf_X7_63 hX dX7_wrongCover_84 ?_
          refine at_aload_n hX rfl rfl dX7_wrongCover_87 ?_
          refine gf_X7_225 hX dX7_wrongCover_88 ?_
          refine at_bipush hX (v := 36) (by decide) dX7_wrongCover_91 ?_
          refine at_iload_n hX rfl rfl dX7_wrongCover_93 ?_
          refine at_imul hX dX7_wrongCover_94 ?_
          refine at_iload_n hX rfl rfl dX7_wrongCover_95 ?_
          refine at_iadd hX dX7_wrongCover_96 ?_
          obtain ⟨hi, h97, eh97, e⟩ := wA_some e
          refine at_iast hX (o := 54) (by decide) rfl hi dX7_wrongCover_97 ?_
          refine at_th eh97 ?_
          refine at_aload_n hX rfl rfl dX7_wrongCover_98 ?_
          refine at_dup hX rfl dX7_wrongCover_99 ?_
          refine gf_X7_225 hX dX7_wrongCover_100 ?_
          refine at_iconst hX (v := 1) (by decide) dX7_wrongCover_103 ?_
          refine at_iadd hX dX7_wrongCover_104 ?_
          obtain ⟨h105, eh105, e⟩ := bd_some e
          refine pf_X7_225 hX dX7_wrongCover_105 ?_
          refine at_th eh105 ?_
          exact at_sub [0, 1, 2, 3] rfl ((A_X7_wrongCover_108 hn hX hR (F_X7_wrongCover_27 n k114) ih) _ _ _ _ e)
        · replace e := in_ c67 e
          refine at_goto hX (tgt := 108) (by decide) dX7_wrongCover_70 ?_
          exact at_sub [0, 1, 2, 3] rfl ((A_X7_wrongCover_108 hn hX hR (F_X7_wrongCover_27 n k114) ih) _ _ _ _ e)
def F_X7_wrongCover (x1 : Int32) (x2 : Int32) (h : Hp) : Option (Int32 × Hp) := (F_X7_isIn (x1 - (1 : Int32)) (5 : Int32)).bind fun v4 => if v4 = (0 : Int32) then some ((-1 : Int32), h) else (F_X7_isIn x2 (5 : Int32)).bind fun v12 => if v12 = (0 : Int32) then some ((-1 : Int32), h) else bd_ (sI_ h 472 (0 : Int32)) fun h22 => (F_X7_wrongCover_27 FU_ F_X7_wrongCover_114) x1 x2 (0 : Int32) h22
theorem c_X7_wrongCover (l : Launch) (G : Gl) (x1 : Int32) (x2 : Int32) (h : Hp) {r : Int32} {h' : Hp} (e : F_X7_wrongCover x1 x2 h = some (r, h')) : Does l G 2 M_X7_wrongCover [.ref 7, .int x1, .int x2] h (some (.int r)) h' := by
  refine Does.of (by decide) rfl (Nat.le_of_ble_eq_true rfl) (fun X hl hG hn hX hR => ?_)
  unfold F_X7_wrongCover at e
  subst hl; subst hG
  show At_ X 0 [(0, .ref 7), (1, .int x1), (2, .int x2)] [] h
  refine at_iload_n hX rfl rfl dX7_wrongCover_0 ?_
  refine at_iconst hX (v := 1) (by decide) dX7_wrongCover_1 ?_
  refine at_isub hX dX7_wrongCover_2 ?_
  refine at_iconst hX (v := 5) (by decide) dX7_wrongCover_3 ?_
  obtain ⟨v4, e1, e⟩ := ob_some e
  refine at_callS2 hX cv_X7_98 (by decide) (c_X7_isIn _ _ _ _ _ e1) (Nat.le_of_ble_eq_true rfl) dX7_wrongCover_4 ?_
  refine at_if_eq hX (tgt := 18) (by decide) dX7_wrongCover_7 (fun c7 => ?_) (fun c7 => ?_)
  · replace e := ip_ c7 e
    refine at_iconst hX (v := -1) (by decide) dX7_wrongCover_18 ?_
    exact at_ireturn hX hR rfl (by cases e; rfl) (by cases e; rfl) dX7_wrongCover_19
  · replace e := in_ c7 e
    refine at_iload_n hX rfl rfl dX7_wrongCover_10 ?_
    refine at_iconst hX (v := 5) (by decide) dX7_wrongCover_11 ?_
    obtain ⟨v12, e1, e⟩ := ob_some e
    refine at_callS2 hX cv_X7_98 (by decide) (c_X7_isIn _ _ _ _ _ e1) (Nat.le_of_ble_eq_true rfl) dX7_wrongCover_12 ?_
    refine at_if_ne hX (tgt := 20) (by decide) dX7_wrongCover_15 (fun c15 => ?_) (fun c15 => ?_)
    · replace e := in_ c15 e
      refine at_aload_n hX rfl rfl dX7_wrongCover_20 ?_
      refine at_iconst hX (v := 0) (by decide) dX7_wrongCover_21 ?_
      obtain ⟨h22, eh22, e⟩ := bd_some e
      refine pf_X7_225 hX dX7_wrongCover_22 ?_
      refine at_th eh22 ?_
      refine at_iconst hX (v := 0) (by decide) dX7_wrongCover_25 ?_
      refine at_istore_n hX rfl hn (by decide) dX7_wrongCover_26 ?_
      exact at_sub [0, 1, 2, 3] rfl ((A_X7_wrongCover_27 hn hX hR F_X7_wrongCover_114 (A_X7_wrongCover_114 hn hX hR) FU_) _ _ _ _ e)
    · replace e := ip_ c15 e
      refine at_iconst hX (v := -1) (by decide) dX7_wrongCover_18 ?_
      exact at_ireturn hX hR rfl (by cases e; rfl) (by cases e; rfl) dX7_wrongCover_19

def F_X7_shape_108 (k17 : Int32 → Int32 → Int32 → Int32 → Int32 → Hp → Option Int32) (x2 : Int32) (x3 : Int32) (x4 : Int32) (x5 : Int32) (x6 : Int32) (h : Hp) : Option Int32 := k17 x2 x3 x4 x5 (x6 + (1 : Int32)) h
theorem A_X7_shape_108 {X : CX} {h : Hp} {r : Int32} (hn : (xc_ X).maxLocals = 9) (hX : Ok_ X RX7 cX7_shape 2) (hR : Rt_ X (some .int) (some (.int r)) h) (k17 : Int32 → Int32 → Int32 → Int32 → Int32 → Hp → Option Int32) (hk17 : ∀ (x2 : Int32) (x3 : Int32) (x4 : Int32) (x5 : Int32) (x6 : Int32), k17 x2 x3 x4 x5 x6 h = some r → At_ X 17 [(0, .ref 7), (2, .int x2), (3, .int x3), (4, .int x4), (5, .int x5), (6, .int x6)] [] h) (x2 : Int32) (x3 : Int32) (x4 : Int32) (x5 : Int32) (x6 : Int32) (e : F_X7_shape_108 k17 x2 x3 x4 x5 x6 h = some r) : At_ X 108 [(0, .ref 7), (2, .int x2), (3, .int x3), (4, .int x4), (5, .int x5), (6, .int x6)] [] h := by
  unfold F_X7_shape_108 at e
  refine at_iinc hX hn (by decide) rfl (v := 1) (by decide) dX7_shape_108 ?_
  refine at_goto hX (tgt := 17) (by decide) dX7_shape_111 ?_
  exact at_sub [0, 2, 3, 4, 5, 6] rfl (hk17 _ _ _ _ _ e)
def F_X7_shape_30 (n : Nat) (k108 : Int32 → Int32 → Int32 → Int32 → Int32 → Hp → Option Int32) (x2 : Int32) (x3 : Int32) (x4 : Int32) (x5 : Int32) (x6 : Int32) (x7 : Int32) (h : Hp) : Option Int32 := match n with
  | 0 => none
  | n + 1 => (F_X7_lengthX x2 x3 h).bind fun v34 => if v34 ≤ x7 then k108 x2 x3 x4 x5 x6 h else if (6 : Int32) ≤ (ir_ x4 (6 : Int32)) + x7 then some (0 : Int32) else if (x4 / (6 : Int32)) + x6 < (6 : Int32) then rA_ h 57 36 ((x4 + ((6 : Int32) * x6)) + x7) fun v83 => if (0 : Int32) ≤ v83 then bd_ (x5 ||| (is_ (1 : Int32) v83)) fun y100 => (F_X7_shape_30 n k108) x2 x3 x4 y100 x6 (x7 + (1 : Int32)) h else some (0 : Int32) else some (0 : Int32)
theorem A_X7_shape_30 {X : CX} {h : Hp} {r : Int32} (hn : (xc_ X).maxLocals = 9) (hX : Ok_ X RX7 cX7_shape 2) (hR : Rt_ X (some .int) (some (.int r)) h) (k108 : Int32 → Int32 → Int32 → Int32 → Int32 → Hp → Option Int32) (hk108 : ∀ (x2 : Int32) (x3 : Int32) (x4 : Int32) (x5 : Int32) (x6 : Int32), k108 x2 x3 x4 x5 x6 h = some r → At_ X 108 [(0, .ref 7), (2, .int x2), (3, .int x3), (4, .int x4), (5, .int x5), (6, .int x6)] [] h) : ∀ (n : Nat) (x2 : Int32) (x3 : Int32) (x4 : Int32) (x5 : Int32) (x6 : Int32) (x7 : Int32), F_X7_shape_30 n k108 x2 x3 x4 x5 x6 x7 h = some r → At_ X 30 [(0, .ref 7), (2, .int x2), (3, .int x3), (4, .int x4), (5, .int x5), (6, .int x6), (7, .int x7)] [] h := by
  intro n
  induction n with
  | zero => intro x2 x3 x4 x5 x6 x7 e; cases e
  | succ n ih =>
    intro x2 x3 x4 x5 x6 x7 e
    rw [F_X7_shape_30] at e
    refine at_iload hX rfl dX7_shape_30 ?_
    refine at_iload_n hX rfl rfl dX7_shape_32 ?_
    refine at_iload_n hX rfl rfl dX7_shape_33 ?_
    obtain ⟨v34, e1, e⟩ := ob_some e
    refine at_callS2 hX cv_X7_130 (by decide) (c_X7_lengthX _ _ _ _ _ e1) (Nat.le_of_ble_eq_true rfl) dX7_shape_34 ?_
    refine at_icmp_ge hX (tgt := 108) (by decide) dX7_shape_37 (fun c37 => ?_) (fun c37 => ?_)
    · replace e := ip_ c37 e
      exact at_sub [0, 2, 3, 4, 5, 6] rfl (hk108 _ _ _ _ _ e)
    · replace e := in_ c37 e
      refine at_iload hX rfl dX7_shape_40 ?_
      refine at_bipush hX (v := 6) (by decide) dX7_shape_42 ?_
      refine at_irem hX (by decide) dX7_shape_44 ?_
      refine at_iload hX rfl dX7_shape_45 ?_
      refine at_iadd hX dX7_shape_47 ?_
      refine at_bipush hX (v := 6) (by decide) dX7_shape_48 ?_
      refine at_icmp_ge hX (tgt := 66) (by decide) dX7_shape_50 (fun c50 => ?_) (fun c50 => ?_)
      · replace e := ip_ c50 e
        refine at_iconst hX (v := 0) (by decide) dX7_shape_66 ?_
        exact at_ireturn hX hR rfl (by cases e; rfl) rfl dX7_shape_67
      · replace e := in_ c50 e
        refine at_iload hX rfl dX7_shape_53 ?_
        refine at_bipush hX (v := 6) (by decide) dX7_shape_55 ?_
        refine at_idiv hX (by decide) dX7_shape_57 ?_
        refine at_iload hX rfl dX7_shape_58 ?_
        refine at_iadd hX dX7_shape_60 ?_
        refine at_bipush hX (v := 6) (by decide) dX7_shape_61 ?_
        refine at_icmp_lt hX (tgt := 68) (by decide) dX7_shape_63 (fun c63 => ?_) (fun c63 => ?_)
        · replace e := ip_ c63 e
          refine at_aload_n hX rfl rfl dX7_shape_68 ?_
          refine gf_X7_73 hX dX7_shape_69 ?_
          refine at_iload hX rfl dX7_shape_72 ?_
          refine at_bipush hX (v := 6) (by decide) dX7_shape_74 ?_
          refine at_iload hX rfl dX7_shape_76 ?_
          refine at_imul hX dX7_shape_78 ?_
          refine at_iadd hX dX7_shape_79 ?_
          refine at_iload hX rfl dX7_shape_80 ?_
          refine at_iadd hX dX7_shape_82 ?_
          obtain ⟨hi, v83, ev83, e⟩ := rA_some e
          refine at_iald hX (o := 57) (by decide) rfl hi dX7_shape_83 ?_
          refine at_ti ev83 ?_
          refine at_istore hX hn (by decide) dX7_shape_84 ?_
          refine at_iload hX rfl dX7_shape_86 ?_
          refine at_if_ge hX (tgt := 93) (by decide) dX7_shape_88 (fun c88 => ?_) (fun c88 => ?_)
          · replace e := ip_ c88 e
            refine at_iload hX rfl dX7_shape_93 ?_
            refine at_iconst hX (v := 1) (by decide) dX7_shape_95 ?_
            refine at_iload hX rfl dX7_shape_96 ?_
            refine at_ishl hX dX7_shape_98 ?_
            refine at_ior hX dX7_shape_99 ?_
            obtain ⟨y100, ey100, e⟩ := bd_some e
            refine at_ti ey100 ?_
            refine at_istore hX hn (by decide) dX7_shape_100 ?_
            refine at_iinc hX hn (by decide) rfl (v := 1) (by decide) dX7_shape_102 ?_
            refine at_goto hX (tgt := 30) (by decide) dX7_shape_105 ?_
            exact at_sub [0, 2, 3, 4, 5, 6, 7] rfl (ih _ _ _ _ _ _ e)
          · replace e := in_ c88 e
            refine at_iconst hX (v := 0) (by decide) dX7_shape_91 ?_
            exact at_ireturn hX hR rfl (by cases e; rfl) rfl dX7_shape_92
        · replace e := in_ c63 e
          refine at_iconst hX (v := 0) (by decide) dX7_shape_66 ?_
          exact at_ireturn hX hR rfl (by cases e; rfl) rfl dX7_shape_67
def F_X7_shape_17 (n : Nat) (x2 : Int32) (x3 : Int32) (x4 : Int32) (x5 : Int32) (x6 : Int32) (h : Hp) : Option Int32 := match n with
  | 0 => none
  | n + 1 => (F_X7_lengthY x2 x3 h).bind fun v21 => if v21 ≤ x6 then some x5 else (F_X7_shape_30 FU_ (F_X7_shape_108 (F_X7_shape_17 n))) x2 x3 x4 x5 x6 (0 : Int32) h
theorem A_X7_shape_17 {X : CX} {h : Hp} {r : Int32} (hn : (xc_ X).maxLocals = 9) (hX : Ok_ X RX7 cX7_shape 2) (hR : Rt_ X (some .int) (some (.int r)) h) : ∀ (n : Nat) (x2 : Int32) (x3 : Int32) (x4 : Int32) (x5 : Int32) (x6 : Int32), F_X7_shape_17 n x2 x3 x4 x5 x6 h = some r → At_ X 17 [(0, .ref 7), (2, .int x2), (3, .int x3), (4, .int x4), (5, .int x5), (6, .int x6)] [] h := by
  intro n
  induction n with
  | zero => intro x2 x3 x4 x5 x6 e; cases e
  | succ n ih =>
    intro x2 x3 x4 x5 x6 e
    rw [F_X7_shape_17] at e
    refine at_iload hX rfl dX7_shape_17 ?_
    refine at_iload_n hX rfl rfl dX7_shape_19 ?_
    refine at_iload_n hX rfl rfl dX7_shape_20 ?_
    obtain ⟨v21, e1, e⟩ := ob_some e
    refine at_callS2 hX cv_X7_126 (by decide) (c_X7_lengthY _ _ _ _ _ e1) (Nat.le_of_ble_eq_true rfl) dX7_shape_21 ?_
    refine at_icmp_ge hX (tgt := 114) (by decide) dX7_shape_24 (fun c24 => ?_) (fun c24 => ?_)
    · replace e := ip_ c24 e
      refine at_iload hX rfl dX7_shape_114 ?_
      exact at_ireturn hX hR rfl (by cases e; rfl) rfl dX7_shape_116
    · replace e := in_ c24 e
      refine at_iconst hX (v := 0) (by decide) dX7_shape_27 ?_
      refine at_istore hX hn (by decide) dX7_shape_28 ?_
      exact at_sub [0, 2, 3, 4, 5, 6, 7] rfl ((A_X7_shape_30 hn hX hR (F_X7_shape_108 (F_X7_shape_17 n)) (A_X7_shape_108 hn hX hR (F_X7_shape_17 n) ih) FU_) _ _ _ _ _ _ e)
def F_X7_shape (x1 : Int32) (x2 : Int32) (x3 : Int32) (h : Hp) : Option Int32 := rA_ h 54 36 x1 fun v5 => (F_X7_shape_17 FU_) x2 x3 (ir_ v5 (36 : Int32)) (0 : Int32) (0 : Int32) h
theorem c_X7_shape (l : Launch) (G : Gl) (x1 : Int32) (x2 : Int32) (x3 : Int32) (h : Hp) {r : Int32} (e : F_X7_shape x1 x2 x3 h = some r) : Does l G 2 M_X7_shape [.ref 7, .int x1, .int x2, .int x3] h (some (.int r)) h := by
  refine Does.of (by decide) rfl (Nat.le_of_ble_eq_true rfl) (fun X hl hG hn hX hR => ?_)
  unfold F_X7_shape at e
  subst hl; subst hG
  show At_ X 0 [(0, .ref 7), (1, .int x1), (2, .int x2), (3, .int x3)] [] h
  refine at_aload_n hX rfl rfl dX7_shape_0 ?_
  refine gf_X7_63 hX dX7_shape_1 ?_
  refine at_iload_n hX rfl rfl dX7_shape_4 ?_
  obtain ⟨hi, v5, ev5, e⟩ := rA_some e
  refine at_iald hX (o := 54) (by decide) rfl hi dX7_shape_5 ?_
  refine at_ti ev5 ?_
  refine at_bipush hX (v := 36) (by decide) dX7_shape_6 ?_
  refine at_irem hX (by decide) dX7_shape_8 ?_
  refine at_istore hX hn (by decide) dX7_shape_9 ?_
  refine at_iconst hX (v := 0) (by decide) dX7_shape_11 ?_
  refine at_istore hX hn (by decide) dX7_shape_12 ?_
  refine at_iconst hX (v := 0) (by decide) dX7_shape_14 ?_
  refine at_istore hX hn (by decide) dX7_shape_15 ?_
  exact at_sub [0, 2, 3, 4, 5, 6] rfl ((A_X7_shape_17 hn hX hR FU_) _ _ _ _ _ e)

def F_X7_isOf (x1 : Int32) (x2 : Int32) (h : Hp) : Option Int32 := rA_ h 57 36 (ir_ x2 (36 : Int32)) fun v8 => if v8 < (0 : Int32) then some (0 : Int32) else if (ia_ x1 v8) &&& (1 : Int32) = (1 : Int32) then some (1 : Int32) else some (0 : Int32)
theorem c_X7_isOf (l : Launch) (G : Gl) (x1 : Int32) (x2 : Int32) (h : Hp) {r : Int32} (e : F_X7_isOf x1 x2 h = some r) : Does l G 1 M_X7_isOf [.ref 7, .int x1, .int x2] h (some (.int r)) h := by
  refine Does.of (by decide) rfl (Nat.le_of_ble_eq_true rfl) (fun X hl hG hn hX hR => ?_)
  unfold F_X7_isOf at e
  subst hl; subst hG
  show At_ X 0 [(0, .ref 7), (1, .int x1), (2, .int x2)] [] h
  refine at_aload_n hX rfl rfl dX7_isOf_0 ?_
  refine gf_X7_73 hX dX7_isOf_1 ?_
  refine at_iload_n hX rfl rfl dX7_isOf_4 ?_
  refine at_bipush hX (v := 36) (by decide) dX7_isOf_5 ?_
  refine at_irem hX (by decide) dX7_isOf_7 ?_
  obtain ⟨hi, v8, ev8, e⟩ := rA_some e
  refine at_iald hX (o := 57) (by decide) rfl hi dX7_isOf_8 ?_
  refine at_ti ev8 ?_
  refine at_istore_n hX rfl hn (by decide) dX7_isOf_9 ?_
  refine at_iload_n hX rfl rfl dX7_isOf_10 ?_
  refine at_if_lt hX (tgt := 27) (by decide) dX7_isOf_11 (fun c11 => ?_) (fun c11 => ?_)
  · replace e := ip_ c11 e
    refine at_iconst hX (v := 0) (by decide) dX7_isOf_27 ?_
    exact at_ireturn hX hR rfl (by cases e; rfl) rfl dX7_isOf_28
  · replace e := in_ c11 e
    refine at_iload_n hX rfl rfl dX7_isOf_14 ?_
    refine at_iload_n hX rfl rfl dX7_isOf_15 ?_
    refine at_ishr hX dX7_isOf_16 ?_
    refine at_iconst hX (v := 1) (by decide) dX7_isOf_17 ?_
    refine at_iand hX dX7_isOf_18 ?_
    refine at_iconst hX (v := 1) (by decide) dX7_isOf_19 ?_
    refine at_icmp_ne hX (tgt := 27) (by decide) dX7_isOf_20 (fun c20 => ?_) (fun c20 => ?_)
    · replace e := in_ c20 e
      refine at_iconst hX (v := 0) (by decide) dX7_isOf_27 ?_
      exact at_ireturn hX hR rfl (by cases e; rfl) rfl dX7_isOf_28
    · replace e := ip_ c20 e
      refine at_iconst hX (v := 1) (by decide) dX7_isOf_23 ?_
      refine at_goto hX (tgt := 28) (by decide) dX7_isOf_24 ?_
      exact at_ireturn hX hR rfl (by cases e; rfl) rfl dX7_isOf_28

def F_X7_spares_104 (k4 : Int32 → Int32 → Int32 → Hp → Option Int32) (x1 : Int32) (x2 : Int32) (x3 : Int32) (h : Hp) : Option Int32 := k4 x1 x2 (x3 + (1 : Int32)) h
theorem A_X7_spares_104 {X : CX} {h : Hp} {r : Int32} (hn : (xc_ X).maxLocals = 5) (hX : Ok_ X RX7 cX7_spares 3) (hR : Rt_ X (some .int) (some (.int r)) h) (k4 : Int32 → Int32 → Int32 → Hp → Option Int32) (hk4 : ∀ (x1 : Int32) (x2 : Int32) (x3 : Int32), k4 x1 x2 x3 h = some r → At_ X 4 [(0, .ref 7), (1, .int x1), (2, .int x2), (3, .int x3)] [] h) (x1 : Int32) (x2 : Int32) (x3 : Int32) (e : F_X7_spares_104 k4 x1 x2 x3 h = some r) : At_ X 104 [(0, .ref 7), (1, .int x1), (2, .int x2), (3, .int x3)] [] h := by
  unfold F_X7_spares_104 at e
  refine at_iinc hX hn (by decide) rfl (v := 1) (by decide) dX7_spares_104 ?_
  refine at_goto hX (tgt := 4) (by decide) dX7_spares_107 ?_
  exact at_sub [0, 1, 2, 3] rfl (hk4 _ _ _ e)
def F_X7_spares_65 (k4 : Int32 → Int32 → Int32 → Hp → Option Int32) (x1 : Int32) (x2 : Int32) (x3 : Int32) (x4 : Int32) (h : Hp) : Option Int32 := if (5 : Int32) ≤ ir_ (x4 / (6 : Int32)) (6 : Int32) then (F_X7_spares_104 k4) x1 x2 x3 h else (F_X7_isOf x1 (x4 + (6 : Int32)) h).bind fun v84 => if v84 = (0 : Int32) then (F_X7_spares_104 k4) x1 x2 x3 h else (F_X7_cost x4 (x4 + (6 : Int32)) h).bind fun v99 => (F_X7_spares_104 k4) x1 (x2 + v99) x3 h
theorem A_X7_spares_65 {X : CX} {h : Hp} {r : Int32} (hn : (xc_ X).maxLocals = 5) (hX : Ok_ X RX7 cX7_spares 3) (hR : Rt_ X (some .int) (some (.int r)) h) (k4 : Int32 → Int32 → Int32 → Hp → Option Int32) (hk4 : ∀ (x1 : Int32) (x2 : Int32) (x3 : Int32), k4 x1 x2 x3 h = some r → At_ X 4 [(0, .ref 7), (1, .int x1), (2, .int x2), (3, .int x3)] [] h) (x1 : Int32) (x2 : Int32) (x3 : Int32) (x4 : Int32) (e : F_X7_spares_65 k4 x1 x2 x3 x4 h = some r) : At_ X 65 [(0, .ref 7), (1, .int x1), (2, .int x2), (3, .int x3), (4, .int x4)] [] h := by
  unfold F_X7_spares_65 at e
  refine at_iload hX rfl dX7_spares_65 ?_
  refine at_bipush hX (v := 6) (by decide) dX7_spares_67 ?_
  refine at_idiv hX (by decide) dX7_spares_69 ?_
  refine at_bipush hX (v := 6) (by decide) dX7_spares_70 ?_
  refine at_irem hX (by decide) dX7_spares_72 ?_
  refine at_iconst hX (v := 5) (by decide) dX7_spares_73 ?_
  refine at_icmp_ge hX (tgt := 104) (by decide) dX7_spares_74 (fun c74 => ?_) (fun c74 => ?_)
  · replace e := ip_ c74 e
    exact at_sub [0, 1, 2, 3] rfl ((A_X7_spares_104 hn hX hR k4 hk4) _ _ _ e)
  · replace e := in_ c74 e
    refine at_aload_n hX rfl rfl dX7_spares_77 ?_
    refine at_iload_n hX rfl rfl dX7_spares_78 ?_
    refine at_iload hX rfl dX7_spares_79 ?_
    refine at_bipush hX (v := 6) (by decide) dX7_spares_81 ?_
    refine at_iadd hX dX7_spares_83 ?_
    obtain ⟨v84, e1, e⟩ := ob_some e
    refine at_callV2 hX cv_X7_228 (by decide) (c_X7_isOf _ _ _ _ _ e1) (Nat.le_of_ble_eq_true rfl) dX7_spares_84 ?_
    refine at_if_eq hX (tgt := 104) (by decide) dX7_spares_87 (fun c87 => ?_) (fun c87 => ?_)
    · replace e := ip_ c87 e
      exact at_sub [0, 1, 2, 3] rfl ((A_X7_spares_104 hn hX hR k4 hk4) _ _ _ e)
    · replace e := in_ c87 e
      refine at_iload_n hX rfl rfl dX7_spares_90 ?_
      refine at_aload_n hX rfl rfl dX7_spares_91 ?_
      refine at_iload hX rfl dX7_spares_92 ?_
      refine at_iload hX rfl dX7_spares_94 ?_
      refine at_bipush hX (v := 6) (by decide) dX7_spares_96 ?_
      refine at_iadd hX dX7_spares_98 ?_
      obtain ⟨v99, e1, e⟩ := ob_some e
      refine at_callV2 hX cv_X7_231 (by decide) (c_X7_cost _ _ _ _ _ e1) (Nat.le_of_ble_eq_true rfl) dX7_spares_99 ?_
      refine at_iadd hX dX7_spares_102 ?_
      refine at_istore_n hX rfl hn (by decide) dX7_spares_103 ?_
      exact at_sub [0, 1, 2, 3] rfl ((A_X7_spares_104 hn hX hR k4 hk4) _ _ _ e)
def F_X7_spares_4 (n : Nat) (x1 : Int32) (x2 : Int32) (x3 : Int32) (h : Hp) : Option Int32 := match n with
  | 0 => none
  | n + 1 => if gI_ h 472 ≤ x3 then some x2 else if (ia_ x1 x3) &&& (1 : Int32) = (0 : Int32) then (F_X7_spares_104 (F_X7_spares_4 n)) x1 x2 x3 h else rA_ h 54 36 x3 fun v28 => if (5 : Int32) ≤ ir_ v28 (6 : Int32) then (F_X7_spares_65 (F_X7_spares_4 n)) x1 x2 x3 v28 h else (F_X7_isOf x1 (v28 + (1 : Int32)) h).bind fun v46 => if v46 = (0 : Int32) then (F_X7_spares_65 (F_X7_spares_4 n)) x1 x2 x3 v28 h else (F_X7_cost v28 (v28 + (1 : Int32)) h).bind fun v60 => (F_X7_spares_65 (F_X7_spares_4 n)) x1 (x2 + v60) x3 v28 h
theorem A_X7_spares_4 {X : CX} {h : Hp} {r : Int32} (hn : (xc_ X).maxLocals = 5) (hX : Ok_ X RX7 cX7_spares 3) (hR : Rt_ X (some .int) (some (.int r)) h) : ∀ (n : Nat) (x1 : Int32) (x2 : Int32) (x3 : Int32), F_X7_spares_4 n x1 x2 x3 h = some r → At_ X 4 [(0, .ref 7), (1, .int x1), (2, .int x2), (3, .int x3)] [] h := by
  intro n
  induction n with
  | zero => intro x1 x2 x3 e; cases e
  | succ n ih =>
    intro x1 x2 x3 e
    rw [F_X7_spares_4] at e
    refine at_iload_n hX rfl rfl dX7_spares_4 ?_
    refine at_aload_n hX rfl rfl dX7_spares_5 ?_
    refine gf_X7_225 hX dX7_spares_6 ?_
    refine at_icmp_ge hX (tgt := 110) (by decide) dX7_spares_9 (fun c9 => ?_) (fun c9 => ?_)
    · replace e := ip_ c9 e
      refine at_iload_n hX rfl rfl dX7_spares_110 ?_
      exact at_ireturn hX hR rfl (by cases e; rfl) rfl dX7_spares_111
    · replace e := in_ c9 e
      refine at_iload_n hX rfl rfl dX7_spares_12 ?_
      refine at_iload_n hX rfl rfl dX7_spares_13 ?_
      refine at_ishr hX dX7_spares_14 ?_
      refine at_iconst hX (v := 1) (by decide) dX7_spares_15 ?_
      refine at_iand hX dX7_spares_16 ?_
      refine at_if_ne hX (tgt := 23) (by decide) dX7_spares_17 (fun c17 => ?_) (fun c17 => ?_)
      · replace e := in_ c17 e
        refine at_aload_n hX rfl rfl dX7_spares_23 ?_
        refine gf_X7_63 hX dX7_spares_24 ?_
        refine at_iload_n hX rfl rfl dX7_spares_27 ?_
        obtain ⟨hi, v28, ev28, e⟩ := rA_some e
        refine at_iald hX (o := 54) (by decide) rfl hi dX7_spares_28 ?_
        refine at_ti ev28 ?_
        refine at_istore hX hn (by decide) dX7_spares_29 ?_
        refine at_iload hX rfl dX7_spares_31 ?_
        refine at_bipush hX (v := 6) (by decide) dX7_spares_33 ?_
        refine at_irem hX (by decide) dX7_spares_35 ?_
        refine at_iconst hX (v := 5) (by decide) dX7_spares_36 ?_
        refine at_icmp_ge hX (tgt := 65) (by decide) dX7_spares_37 (fun c37 => ?_) (fun c37 => ?_)
        · replace e := ip_ c37 e
          exact at_sub [0, 1, 2, 3, 4] rfl ((A_X7_spares_65 hn hX hR (F_X7_spares_4 n) ih) _ _ _ _ e)
        · replace e := in_ c37 e
          refine at_aload_n hX rfl rfl dX7_spares_40 ?_
          refine at_iload_n hX rfl rfl dX7_spares_41 ?_
          refine at_iload hX rfl dX7_spares_42 ?_
          refine at_iconst hX (v := 1) (by decide) dX7_spares_44 ?_
          refine at_iadd hX dX7_spares_45 ?_
          obtain ⟨v46, e1, e⟩ := ob_some e
          refine at_callV2 hX cv_X7_228 (by decide) (c_X7_isOf _ _ _ _ _ e1) (Nat.le_of_ble_eq_true rfl) dX7_spares_46 ?_
          refine at_if_eq hX (tgt := 65) (by decide) dX7_spares_49 (fun c49 => ?_) (fun c49 => ?_)
          · replace e := ip_ c49 e
            exact at_sub [0, 1, 2, 3, 4] rfl ((A_X7_spares_65 hn hX hR (F_X7_spares_4 n) ih) _ _ _ _ e)
          · replace e := in_ c49 e
            refine at_iload_n hX rfl rfl dX7_spares_52 ?_
            refine at_aload_n hX rfl rfl dX7_spares_53 ?_
            refine at_iload hX rfl dX7_spares_54 ?_
            refine at_iload hX rfl dX7_spares_56 ?_
            refine at_iconst hX (v := 1) (by decide) dX7_spares_58 ?_
            refine at_iadd hX dX7_spares_59 ?_
            obtain ⟨v60, e1, e⟩ := ob_some e
            refine at_callV2 hX cv_X7_231 (by decide) (c_X7_cost _ _ _ _ _ e1) (Nat.le_of_ble_eq_true rfl) dX7_spares_60 ?_
            refine at_iadd hX dX7_spares_63 ?_
            refine at_istore_n hX rfl hn (by decide) dX7_spares_64 ?_
            exact at_sub [0, 1, 2, 3, 4] rfl ((A_X7_spares_65 hn hX hR (F_X7_spares_4 n) ih) _ _ _ _ e)
      · replace e := ip_ c17 e
        refine at_goto hX (tgt := 104) (by decide) dX7_spares_20 ?_
        exact at_sub [0, 1, 2, 3] rfl ((A_X7_spares_104 hn hX hR (F_X7_spares_4 n) ih) _ _ _ e)
def F_X7_spares (x1 : Int32) (h : Hp) : Option Int32 := (F_X7_spares_4 FU_) x1 (0 : Int32) (0 : Int32) h
theorem c_X7_spares (l : Launch) (G : Gl) (x1 : Int32) (h : Hp) {r : Int32} (e : F_X7_spares x1 h = some r) : Does l G 3 M_X7_spares [.ref 7, .int x1] h (some (.int r)) h := by
  refine Does.of (by decide) rfl (Nat.le_of_ble_eq_true rfl) (fun X hl hG hn hX hR => ?_)
  unfold F_X7_spares at e
  subst hl; subst hG
  show At_ X 0 [(0, .ref 7), (1, .int x1)] [] h
  refine at_iconst hX (v := 0) (by decide) dX7_spares_0 ?_
  refine at_istore_n hX rfl hn (by decide) dX7_spares_1 ?_
  refine at_iconst hX (v := 0) (by decide) dX7_spares_2 ?_
  refine at_istore_n hX rfl hn (by decide) dX7_spares_3 ?_
  exact at_sub [0, 1, 2, 3] rfl ((A_X7_spares_4 hn hX hR FU_) _ _ _ e)

def F_X7_shapeAt (x0 : Int32) (x1 : Int32) (x2 : Int32) : Option Int32 := some ((((x0 * (7 : Int32)) + x1) * (2 : Int32)) + x2)
theorem c_X7_shapeAt (l : Launch) (G : Gl) (x0 : Int32) (x1 : Int32) (x2 : Int32) (h : Hp) {r : Int32} (e : F_X7_shapeAt x0 x1 x2 = some r) : Does l G 1 M_X7_shapeAt [.int x0, .int x1, .int x2] h (some (.int r)) h := by
  refine Does.of (by decide) rfl (Nat.le_of_ble_eq_true rfl) (fun X hl hG hn hX hR => ?_)
  unfold F_X7_shapeAt at e
  subst hl; subst hG
  show At_ X 0 [(0, .int x0), (1, .int x1), (2, .int x2)] [] h
  refine at_iload_n hX rfl rfl dX7_shapeAt_0 ?_
  refine at_bipush hX (v := 7) (by decide) dX7_shapeAt_1 ?_
  refine at_imul hX dX7_shapeAt_3 ?_
  refine at_iload_n hX rfl rfl dX7_shapeAt_4 ?_
  refine at_iadd hX dX7_shapeAt_5 ?_
  refine at_iconst hX (v := 2) (by decide) dX7_shapeAt_6 ?_
  refine at_imul hX dX7_shapeAt_7 ?_
  refine at_iload_n hX rfl rfl dX7_shapeAt_8 ?_
  refine at_iadd hX dX7_shapeAt_9 ?_
  exact at_ireturn hX hR rfl (by cases e; rfl) rfl dX7_shapeAt_10

def F_X7_firstOpen_2 (n : Nat) (x0 : Int32) (x1 : Int32) : Option Int32 := match n with
  | 0 => none
  | n + 1 => if (ia_ x0 x1) &&& (1 : Int32) = (1 : Int32) then (F_X7_firstOpen_2 n) x0 (x1 + (1 : Int32)) else some x1
theorem A_X7_firstOpen_2 {X : CX} {h : Hp} {r : Int32} (hn : (xc_ X).maxLocals = 2) (hX : Ok_ X RX7 cX7_firstOpen 1) (hR : Rt_ X (some .int) (some (.int r)) h) : ∀ (n : Nat) (x0 : Int32) (x1 : Int32), F_X7_firstOpen_2 n x0 x1 = some r → At_ X 2 [(0, .int x0), (1, .int x1)] [] h := by
  intro n
  induction n with
  | zero => intro x0 x1 e; cases e
  | succ n ih =>
    intro x0 x1 e
    rw [F_X7_firstOpen_2] at e
    refine at_iload_n hX rfl rfl dX7_firstOpen_2 ?_
    refine at_iload_n hX rfl rfl dX7_firstOpen_3 ?_
    refine at_ishr hX dX7_firstOpen_4 ?_
    refine at_iconst hX (v := 1) (by decide) dX7_firstOpen_5 ?_
    refine at_iand hX dX7_firstOpen_6 ?_
    refine at_iconst hX (v := 1) (by decide) dX7_firstOpen_7 ?_
    refine at_icmp_ne hX (tgt := 17) (by decide) dX7_firstOpen_8 (fun c8 => ?_) (fun c8 => ?_)
    · replace e := in_ c8 e
      refine at_iload_n hX rfl rfl dX7_firstOpen_17 ?_
      exact at_ireturn hX hR rfl (by cases e; rfl) rfl dX7_firstOpen_18
    · replace e := ip_ c8 e
      refine at_iinc hX hn (by decide) rfl (v := 1) (by decide) dX7_firstOpen_11 ?_
      refine at_goto hX (tgt := 2) (by decide) dX7_firstOpen_14 ?_
      exact at_sub [0, 1] rfl (ih _ _ e)
def F_X7_firstOpen (x0 : Int32) : Option Int32 := (F_X7_firstOpen_2 FU_) x0 (0 : Int32)
theorem c_X7_firstOpen (l : Launch) (G : Gl) (x0 : Int32) (h : Hp) {r : Int32} (e : F_X7_firstOpen x0 = some r) : Does l G 1 M_X7_firstOpen [.int x0] h (some (.int r)) h := by
  refine Does.of (by decide) rfl (Nat.le_of_ble_eq_true rfl) (fun X hl hG hn hX hR => ?_)
  unfold F_X7_firstOpen at e
  subst hl; subst hG
  show At_ X 0 [(0, .int x0)] [] h
  refine at_iconst hX (v := 0) (by decide) dX7_firstOpen_0 ?_
  refine at_istore_n hX rfl hn (by decide) dX7_firstOpen_1 ?_
  exact at_sub [0, 1] rfl ((A_X7_firstOpen_2 hn hX hR FU_) _ _ e)

def F_X7_tries_98 (x1 : Int32) (x6 : Int32) (x7 : Int32) (h : Hp) : Option Hp := wA_ h 55 65536 x1 x6 fun h105 => wA_ h105 56 65536 x1 x7 fun h113 => some h113
theorem A_X7_tries_98 {X : CX} {h' : Hp} (hn : (xc_ X).maxLocals = 8) (hX : Ok_ X RX7 cX7_tries 2) (hR : Rt_ X none none h') (x1 : Int32) (x6 : Int32) (x7 : Int32) (h : Hp) (e : F_X7_tries_98 x1 x6 x7 h = some h') : At_ X 98 [(0, .ref 7), (1, .int x1), (6, .int x6), (7, .int x7)] [] h := by
  unfold F_X7_tries_98 at e
  refine at_aload_n hX rfl rfl dX7_tries_98 ?_
  refine gf_X7_67 hX dX7_tries_99 ?_
  refine at_iload_n hX rfl rfl dX7_tries_102 ?_
  refine at_iload hX rfl dX7_tries_103 ?_
  obtain ⟨hi, h105, eh105, e⟩ := wA_some e
  refine at_iast hX (o := 55) (by decide) rfl hi dX7_tries_105 ?_
  refine at_th eh105 ?_
  refine at_aload_n hX rfl rfl dX7_tries_106 ?_
  refine gf_X7_70 hX dX7_tries_107 ?_
  refine at_iload_n hX rfl rfl dX7_tries_110 ?_
  refine at_iload hX rfl dX7_tries_111 ?_
  obtain ⟨hi, h113, eh113, e⟩ := wA_some e
  refine at_iast hX (o := 56) (by decide) rfl hi dX7_tries_113 ?_
  refine at_th eh113 ?_
  exact at_return hX hR rfl (by cases e; rfl) dX7_tries_114
def F_X7_tries (x1 : Int32) (x2 : Int32) (x3 : Int32) (x4 : Int32) (h : Hp) : Option Hp := (F_X7_shapeAt x2 x3 x4).bind fun v8 => rA_ h 58 224 v8 fun v11 => if v11 = (0 : Int32) then some h else if v11 &&& x1 = (0 : Int32) then rA_ h 55 65536 (x1 ||| v11) fun v36 => rA_ h 56 65536 (x1 ||| v11) fun v48 => (F_X7_shapeAt x2 x3 x4).bind fun v57 => rA_ h 59 224 v57 fun v60 => rA_ h 55 65536 x1 fun v71 => if v71 < (1 : Int32) + v36 then some h else rA_ h 55 65536 x1 fun v82 => if (1 : Int32) + v36 = v82 then rA_ h 56 65536 x1 fun v93 => if v48 - v60 < v93 then F_X7_tries_98 x1 ((1 : Int32) + v36) (v48 - v60) h else some h else F_X7_tries_98 x1 ((1 : Int32) + v36) (v48 - v60) h else some h
theorem c_X7_tries (l : Launch) (G : Gl) (x1 : Int32) (x2 : Int32) (x3 : Int32) (x4 : Int32) (h : Hp) {h' : Hp} (e : F_X7_tries x1 x2 x3 x4 h = some h') : Does l G 2 M_X7_tries [.ref 7, .int x1, .int x2, .int x3, .int x4] h none h' := by
  refine Does.of (by decide) rfl (Nat.le_of_ble_eq_true rfl) (fun X hl hG hn hX hR => ?_)
  unfold F_X7_tries at e
  subst hl; subst hG
  show At_ X 0 [(0, .ref 7), (1, .int x1), (2, .int x2), (3, .int x3), (4, .int x4)] [] h
  refine at_aload_n hX rfl rfl dX7_tries_0 ?_
  refine gf_X7_76 hX dX7_tries_1 ?_
  refine at_iload_n hX rfl rfl dX7_tries_4 ?_
  refine at_iload_n hX rfl rfl dX7_tries_5 ?_
  refine at_iload hX rfl dX7_tries_6 ?_
  obtain ⟨v8, e1, e⟩ := ob_some e
  refine at_callS3 hX cv_X7_237 (by decide) (c_X7_shapeAt _ _ _ _ _ _ e1) (Nat.le_of_ble_eq_true rfl) dX7_tries_8 ?_
  obtain ⟨hi, v11, ev11, e⟩ := rA_some e
  refine at_iald hX (o := 58) (by decide) rfl hi dX7_tries_11 ?_
  refine at_ti ev11 ?_
  refine at_istore hX hn (by decide) dX7_tries_12 ?_
  refine at_iload hX rfl dX7_tries_14 ?_
  refine at_if_eq hX (tgt := 26) (by decide) dX7_tries_16 (fun c16 => ?_) (fun c16 => ?_)
  · replace e := ip_ c16 e
    exact at_return hX hR rfl (by cases e; rfl) dX7_tries_26
  · replace e := in_ c16 e
    refine at_iload hX rfl dX7_tries_19 ?_
    refine at_iload_n hX rfl rfl dX7_tries_21 ?_
    refine at_iand hX dX7_tries_22 ?_
    refine at_if_eq hX (tgt := 27) (by decide) dX7_tries_23 (fun c23 => ?_) (fun c23 => ?_)
    · replace e := ip_ c23 e
      refine at_iconst hX (v := 1) (by decide) dX7_tries_27 ?_
      refine at_aload_n hX rfl rfl dX7_tries_28 ?_
      refine gf_X7_67 hX dX7_tries_29 ?_
      refine at_iload_n hX rfl rfl dX7_tries_32 ?_
      refine at_iload hX rfl dX7_tries_33 ?_
      refine at_ior hX dX7_tries_35 ?_
      obtain ⟨hi, v36, ev36, e⟩ := rA_some e
      refine at_iald hX (o := 55) (by decide) rfl hi dX7_tries_36 ?_
      refine at_ti ev36 ?_
      refine at_iadd hX dX7_tries_37 ?_
      refine at_istore hX hn (by decide) dX7_tries_38 ?_
      refine at_aload_n hX rfl rfl dX7_tries_40 ?_
      refine gf_X7_70 hX dX7_tries_41 ?_
      refine at_iload_n hX rfl rfl dX7_tries_44 ?_
      refine at_iload hX rfl dX7_tries_45 ?_
      refine at_ior hX dX7_tries_47 ?_
      obtain ⟨hi, v48, ev48, e⟩ := rA_some e
      refine at_iald hX (o := 56) (by decide) rfl hi dX7_tries_48 ?_
      refine at_ti ev48 ?_
      refine at_aload_n hX rfl rfl dX7_tries_49 ?_
      refine gf_X7_79 hX dX7_tries_50 ?_
      refine at_iload_n hX rfl rfl dX7_tries_53 ?_
      refine at_iload_n hX rfl rfl dX7_tries_54 ?_
      refine at_iload hX rfl dX7_tries_55 ?_
      obtain ⟨v57, e1, e⟩ := ob_some e
      refine at_callS3 hX cv_X7_237 (by decide) (c_X7_shapeAt _ _ _ _ _ _ e1) (Nat.le_of_ble_eq_true rfl) dX7_tries_57 ?_
      obtain ⟨hi, v60, ev60, e⟩ := rA_some e
      refine at_iald hX (o := 59) (by decide) rfl hi dX7_tries_60 ?_
      refine at_ti ev60 ?_
      refine at_isub hX dX7_tries_61 ?_
      refine at_istore hX hn (by decide) dX7_tries_62 ?_
      refine at_iload hX rfl dX7_tries_64 ?_
      refine at_aload_n hX rfl rfl dX7_tries_66 ?_
      refine gf_X7_67 hX dX7_tries_67 ?_
      refine at_iload_n hX rfl rfl dX7_tries_70 ?_
      obtain ⟨hi, v71, ev71, e⟩ := rA_some e
      refine at_iald hX (o := 55) (by decide) rfl hi dX7_tries_71 ?_
      refine at_ti ev71 ?_
      refine at_icmp_gt hX (tgt := 97) (by decide) dX7_tries_72 (fun c72 => ?_) (fun c72 => ?_)
      · replace e := ip_ c72 e
        exact at_return hX hR rfl (by cases e; rfl) dX7_tries_97
      · replace e := in_ c72 e
        refine at_iload hX rfl dX7_tries_75 ?_
        refine at_aload_n hX rfl rfl dX7_tries_77 ?_
        refine gf_X7_67 hX dX7_tries_78 ?_
        refine at_iload_n hX rfl rfl dX7_tries_81 ?_
        obtain ⟨hi, v82, ev82, e⟩ := rA_some e
        refine at_iald hX (o := 55) (by decide) rfl hi dX7_tries_82 ?_
        refine at_ti ev82 ?_
        refine at_icmp_ne hX (tgt := 98) (by decide) dX7_tries_83 (fun c83 => ?_) (fun c83 => ?_)
        · replace e := in_ c83 e
          exact at_sub [0, 1, 6, 7] rfl ((A_X7_tries_98 hn hX hR) _ _ _ _ e)
        · replace e := ip_ c83 e
          refine at_iload hX rfl dX7_tries_86 ?_
          refine at_aload_n hX rfl rfl dX7_tries_88 ?_
          refine gf_X7_70 hX dX7_tries_89 ?_
          refine at_iload_n hX rfl rfl dX7_tries_92 ?_
          obtain ⟨hi, v93, ev93, e⟩ := rA_some e
          refine at_iald hX (o := 56) (by decide) rfl hi dX7_tries_93 ?_
          refine at_ti ev93 ?_
          refine at_icmp_lt hX (tgt := 98) (by decide) dX7_tries_94 (fun c94 => ?_) (fun c94 => ?_)
          · replace e := ip_ c94 e
            exact at_sub [0, 1, 6, 7] rfl ((A_X7_tries_98 hn hX hR) _ _ _ _ e)
          · replace e := in_ c94 e
            exact at_return hX hR rfl (by cases e; rfl) dX7_tries_97
    · replace e := in_ c23 e
      exact at_return hX hR rfl (by cases e; rfl) dX7_tries_26

def F_X7_parted (x1 : Int32) (x2 : Int32) (h : Hp) : Option Int32 := rA_ h 40 180 x2 fun v5 => if (0 : Int32) ≤ v5 then (F_X7_cost x1 x2 h).bind fun v24 => some v24 else rA_ h 57 36 (ir_ x2 (36 : Int32)) fun v17 => if v17 < (0 : Int32) then some (0 : Int32) else (F_X7_cost x1 x2 h).bind fun v24 => some v24
theorem c_X7_parted (l : Launch) (G : Gl) (x1 : Int32) (x2 : Int32) (h : Hp) {r : Int32} (e : F_X7_parted x1 x2 h = some r) : Does l G 3 M_X7_parted [.ref 7, .int x1, .int x2] h (some (.int r)) h := by
  refine Does.of (by decide) rfl (Nat.le_of_ble_eq_true rfl) (fun X hl hG hn hX hR => ?_)
  unfold F_X7_parted at e
  subst hl; subst hG
  show At_ X 0 [(0, .ref 7), (1, .int x1), (2, .int x2)] [] h
  refine at_aload_n hX rfl rfl dX7_parted_0 ?_
  refine gf_X7_16 hX dX7_parted_1 ?_
  refine at_iload_n hX rfl rfl dX7_parted_4 ?_
  obtain ⟨hi, v5, ev5, e⟩ := rA_some e
  refine at_iald hX (o := 40) (by decide) rfl hi dX7_parted_5 ?_
  refine at_ti ev5 ?_
  refine at_if_ge hX (tgt := 21) (by decide) dX7_parted_6 (fun c6 => ?_) (fun c6 => ?_)
  · replace e := ip_ c6 e
    refine at_aload_n hX rfl rfl dX7_parted_21 ?_
    refine at_iload_n hX rfl rfl dX7_parted_22 ?_
    refine at_iload_n hX rfl rfl dX7_parted_23 ?_
    obtain ⟨v24, e1, e⟩ := ob_some e
    refine at_callV2 hX cv_X7_231 (by decide) (c_X7_cost _ _ _ _ _ e1) (Nat.le_of_ble_eq_true rfl) dX7_parted_24 ?_
    refine at_goto hX (tgt := 31) (by decide) dX7_parted_27 ?_
    exact at_ireturn hX hR rfl (by cases e; rfl) rfl dX7_parted_31
  · replace e := in_ c6 e
    refine at_aload_n hX rfl rfl dX7_parted_9 ?_
    refine gf_X7_73 hX dX7_parted_10 ?_
    refine at_iload_n hX rfl rfl dX7_parted_13 ?_
    refine at_bipush hX (v := 36) (by decide) dX7_parted_14 ?_
    refine at_irem hX (by decide) dX7_parted_16 ?_
    obtain ⟨hi, v17, ev17, e⟩ := rA_some e
    refine at_iald hX (o := 57) (by decide) rfl hi dX7_parted_17 ?_
    refine at_ti ev17 ?_
    refine at_if_lt hX (tgt := 30) (by decide) dX7_parted_18 (fun c18 => ?_) (fun c18 => ?_)
    · replace e := ip_ c18 e
      refine at_iconst hX (v := 0) (by decide) dX7_parted_30 ?_
      exact at_ireturn hX hR rfl (by cases e; rfl) rfl dX7_parted_31
    · replace e := in_ c18 e
      refine at_aload_n hX rfl rfl dX7_parted_21 ?_
      refine at_iload_n hX rfl rfl dX7_parted_22 ?_
      refine at_iload_n hX rfl rfl dX7_parted_23 ?_
      obtain ⟨v24, e1, e⟩ := ob_some e
      refine at_callV2 hX cv_X7_231 (by decide) (c_X7_cost _ _ _ _ _ e1) (Nat.le_of_ble_eq_true rfl) dX7_parted_24 ?_
      refine at_goto hX (tgt := 31) (by decide) dX7_parted_27 ?_
      exact at_ireturn hX hR rfl (by cases e; rfl) rfl dX7_parted_31

def F_X7_covers_352 (k208 : Int32 → Hp → Option Hp) (x2 : Int32) (h : Hp) : Option Hp := k208 (x2 + (1 : Int32)) h
theorem A_X7_covers_352 {X : CX} {h' : Hp} (hn : (xc_ X).maxLocals = 6) (hX : Ok_ X RX7 cX7_covers 4) (hR : Rt_ X none none h') (k208 : Int32 → Hp → Option Hp) (hk208 : ∀ (x2 : Int32) (h : Hp), k208 x2 h = some h' → At_ X 208 [(0, .ref 7), (2, .int x2)] [] h) (x2 : Int32) (h : Hp) (e : F_X7_covers_352 k208 x2 h = some h') : At_ X 352 [(0, .ref 7), (2, .int x2)] [] h := by
  unfold F_X7_covers_352 at e
  refine at_iinc hX hn (by decide) rfl (v := 1) (by decide) dX7_covers_352 ?_
  refine at_goto hX (tgt := 208) (by decide) dX7_covers_355 ?_
  exact at_sub [0, 2] rfl (hk208 _ _ e)
def F_X7_covers_312 (k208 : Int32 → Hp → Option Hp) (x2 : Int32) (x3 : Int32) (h : Hp) : Option Hp := if ir_ (x3 / (6 : Int32)) (6 : Int32) ≤ (0 : Int32) then (F_X7_covers_352 k208) x2 h else rA_ h 40 180 (x3 - (6 : Int32)) fun v330 => if v330 < (0 : Int32) then (F_X7_covers_352 k208) x2 h else (F_X7_cost (x3 - (6 : Int32)) x3 h).bind fun v345 => bd_ (sI_ h 473 ((gI_ h 473) + v345)) fun h349 => (F_X7_covers_352 k208) x2 h349
theorem A_X7_covers_312 {X : CX} {h' : Hp} (hn : (xc_ X).maxLocals = 6) (hX : Ok_ X RX7 cX7_covers 4) (hR : Rt_ X none none h') (k208 : Int32 → Hp → Option Hp) (hk208 : ∀ (x2 : Int32) (h : Hp), k208 x2 h = some h' → At_ X 208 [(0, .ref 7), (2, .int x2)] [] h) (x2 : Int32) (x3 : Int32) (h : Hp) (e : F_X7_covers_312 k208 x2 x3 h = some h') : At_ X 312 [(0, .ref 7), (2, .int x2), (3, .int x3)] [] h := by
  unfold F_X7_covers_312 at e
  refine at_iload_n hX rfl rfl dX7_covers_312 ?_
  refine at_bipush hX (v := 6) (by decide) dX7_covers_313 ?_
  refine at_idiv hX (by decide) dX7_covers_315 ?_
  refine at_bipush hX (v := 6) (by decide) dX7_covers_316 ?_
  refine at_irem hX (by decide) dX7_covers_318 ?_
  refine at_if_le hX (tgt := 352) (by decide) dX7_covers_319 (fun c319 => ?_) (fun c319 => ?_)
  · replace e := ip_ c319 e
    exact at_sub [0, 2] rfl ((A_X7_covers_352 hn hX hR k208 hk208) _ _ e)
  · replace e := in_ c319 e
    refine at_aload_n hX rfl rfl dX7_covers_322 ?_
    refine gf_X7_16 hX dX7_covers_323 ?_
    refine at_iload_n hX rfl rfl dX7_covers_326 ?_
    refine at_bipush hX (v := 6) (by decide) dX7_covers_327 ?_
    refine at_isub hX dX7_covers_329 ?_
    obtain ⟨hi, v330, ev330, e⟩ := rA_some e
    refine at_iald hX (o := 40) (by decide) rfl hi dX7_covers_330 ?_
    refine at_ti ev330 ?_
    refine at_if_lt hX (tgt := 352) (by decide) dX7_covers_331 (fun c331 => ?_) (fun c331 => ?_)
    · replace e := ip_ c331 e
      exact at_sub [0, 2] rfl ((A_X7_covers_352 hn hX hR k208 hk208) _ _ e)
    · replace e := in_ c331 e
      refine at_aload_n hX rfl rfl dX7_covers_334 ?_
      refine at_dup hX rfl dX7_covers_335 ?_
      refine gf_X7_250 hX dX7_covers_336 ?_
      refine at_aload_n hX rfl rfl dX7_covers_339 ?_
      refine at_iload_n hX rfl rfl dX7_covers_340 ?_
      refine at_bipush hX (v := 6) (by decide) dX7_covers_341 ?_
      refine at_isub hX dX7_covers_343 ?_
      refine at_iload_n hX rfl rfl dX7_covers_344 ?_
      obtain ⟨v345, e1, e⟩ := ob_some e
      refine at_callV2 hX cv_X7_231 (by decide) (c_X7_cost _ _ _ _ _ e1) (Nat.le_of_ble_eq_true rfl) dX7_covers_345 ?_
      refine at_iadd hX dX7_covers_348 ?_
      obtain ⟨h349, eh349, e⟩ := bd_some e
      refine pf_X7_250 hX dX7_covers_349 ?_
      refine at_th eh349 ?_
      exact at_sub [0, 2] rfl ((A_X7_covers_352 hn hX hR k208 hk208) _ _ e)
def F_X7_covers_277 (k208 : Int32 → Hp → Option Hp) (x2 : Int32) (x3 : Int32) (h : Hp) : Option Hp := if ir_ x3 (6 : Int32) ≤ (0 : Int32) then (F_X7_covers_312 k208) x2 x3 h else rA_ h 40 180 (x3 - (1 : Int32)) fun v291 => if v291 < (0 : Int32) then (F_X7_covers_312 k208) x2 x3 h else (F_X7_cost (x3 - (1 : Int32)) x3 h).bind fun v305 => bd_ (sI_ h 473 ((gI_ h 473) + v305)) fun h309 => (F_X7_covers_312 k208) x2 x3 h309
theorem A_X7_covers_277 {X : CX} {h' : Hp} (hn : (xc_ X).maxLocals = 6) (hX : Ok_ X RX7 cX7_covers 4) (hR : Rt_ X none none h') (k208 : Int32 → Hp → Option Hp) (hk208 : ∀ (x2 : Int32) (h : Hp), k208 x2 h = some h' → At_ X 208 [(0, .ref 7), (2, .int x2)] [] h) (x2 : Int32) (x3 : Int32) (h : Hp) (e : F_X7_covers_277 k208 x2 x3 h = some h') : At_ X 277 [(0, .ref 7), (2, .int x2), (3, .int x3)] [] h := by
  unfold F_X7_covers_277 at e
  refine at_iload_n hX rfl rfl dX7_covers_277 ?_
  refine at_bipush hX (v := 6) (by decide) dX7_covers_278 ?_
  refine at_irem hX (by decide) dX7_covers_280 ?_
  refine at_if_le hX (tgt := 312) (by decide) dX7_covers_281 (fun c281 => ?_) (fun c281 => ?_)
  · replace e := ip_ c281 e
    exact at_sub [0, 2, 3] rfl ((A_X7_covers_312 hn hX hR k208 hk208) _ _ _ e)
  · replace e := in_ c281 e
    refine at_aload_n hX rfl rfl dX7_covers_284 ?_
    refine gf_X7_16 hX dX7_covers_285 ?_
    refine at_iload_n hX rfl rfl dX7_covers_288 ?_
    refine at_iconst hX (v := 1) (by decide) dX7_covers_289 ?_
    refine at_isub hX dX7_covers_290 ?_
    obtain ⟨hi, v291, ev291, e⟩ := rA_some e
    refine at_iald hX (o := 40) (by decide) rfl hi dX7_covers_291 ?_
    refine at_ti ev291 ?_
    refine at_if_lt hX (tgt := 312) (by decide) dX7_covers_292 (fun c292 => ?_) (fun c292 => ?_)
    · replace e := ip_ c292 e
      exact at_sub [0, 2, 3] rfl ((A_X7_covers_312 hn hX hR k208 hk208) _ _ _ e)
    · replace e := in_ c292 e
      refine at_aload_n hX rfl rfl dX7_covers_295 ?_
      refine at_dup hX rfl dX7_covers_296 ?_
      refine gf_X7_250 hX dX7_covers_297 ?_
      refine at_aload_n hX rfl rfl dX7_covers_300 ?_
      refine at_iload_n hX rfl rfl dX7_covers_301 ?_
      refine at_iconst hX (v := 1) (by decide) dX7_covers_302 ?_
      refine at_isub hX dX7_covers_303 ?_
      refine at_iload_n hX rfl rfl dX7_covers_304 ?_
      obtain ⟨v305, e1, e⟩ := ob_some e
      refine at_callV2 hX cv_X7_231 (by decide) (c_X7_cost _ _ _ _ _ e1) (Nat.le_of_ble_eq_true rfl) dX7_covers_305 ?_
      refine at_iadd hX dX7_covers_308 ?_
      obtain ⟨h309, eh309, e⟩ := bd_some e
      refine pf_X7_250 hX dX7_covers_309 ?_
      refine at_th eh309 ?_
      exact at_sub [0, 2, 3] rfl ((A_X7_covers_312 hn hX hR k208 hk208) _ _ _ e)
def F_X7_covers_248 (k208 : Int32 → Hp → Option Hp) (x2 : Int32) (x3 : Int32) (h : Hp) : Option Hp := if (5 : Int32) ≤ ir_ (x3 / (6 : Int32)) (6 : Int32) then (F_X7_covers_277 k208) x2 x3 h else (F_X7_parted x3 (x3 + (6 : Int32)) h).bind fun v270 => bd_ (sI_ h 473 ((gI_ h 473) + v270)) fun h274 => (F_X7_covers_277 k208) x2 x3 h274
theorem A_X7_covers_248 {X : CX} {h' : Hp} (hn : (xc_ X).maxLocals = 6) (hX : Ok_ X RX7 cX7_covers 4) (hR : Rt_ X none none h') (k208 : Int32 → Hp → Option Hp) (hk208 : ∀ (x2 : Int32) (h : Hp), k208 x2 h = some h' → At_ X 208 [(0, .ref 7), (2, .int x2)] [] h) (x2 : Int32) (x3 : Int32) (h : Hp) (e : F_X7_covers_248 k208 x2 x3 h = some h') : At_ X 248 [(0, .ref 7), (2, .int x2), (3, .int x3)] [] h := by
  unfold F_X7_covers_248 at e
  refine at_iload_n hX rfl rfl dX7_covers_248 ?_
  refine at_bipush hX (v := 6) (by decide) dX7_covers_249 ?_
  refine at_idiv hX (by decide) dX7_covers_251 ?_
  refine at_bipush hX (v := 6) (by decide) dX7_covers_252 ?_
  refine at_irem hX (by decide) dX7_covers_254 ?_
  refine at_iconst hX (v := 5) (by decide) dX7_covers_255 ?_
  refine at_icmp_ge hX (tgt := 277) (by decide) dX7_covers_256 (fun c256 => ?_) (fun c256 => ?_)
  · replace e := ip_ c256 e
    exact at_sub [0, 2, 3] rfl ((A_X7_covers_277 hn hX hR k208 hk208) _ _ _ e)
  · replace e := in_ c256 e
    refine at_aload_n hX rfl rfl dX7_covers_259 ?_
    refine at_dup hX rfl dX7_covers_260 ?_
    refine gf_X7_250 hX dX7_covers_261 ?_
    refine at_aload_n hX rfl rfl dX7_covers_264 ?_
    refine at_iload_n hX rfl rfl dX7_covers_265 ?_
    refine at_iload_n hX rfl rfl dX7_covers_266 ?_
    refine at_bipush hX (v := 6) (by decide) dX7_covers_267 ?_
    refine at_iadd hX dX7_covers_269 ?_
    obtain ⟨v270, e1, e⟩ := ob_some e
    refine at_callV2 hX cv_X7_253 (by decide) (c_X7_parted _ _ _ _ _ e1) (Nat.le_of_ble_eq_true rfl) dX7_covers_270 ?_
    refine at_iadd hX dX7_covers_273 ?_
    obtain ⟨h274, eh274, e⟩ := bd_some e
    refine pf_X7_250 hX dX7_covers_274 ?_
    refine at_th eh274 ?_
    exact at_sub [0, 2, 3] rfl ((A_X7_covers_277 hn hX hR k208 hk208) _ _ _ e)
def F_X7_covers_208 (n : Nat) (x2 : Int32) (h : Hp) : Option Hp := match n with
  | 0 => none
  | n + 1 => if gI_ h 472 ≤ x2 then some h else rA_ h 54 36 x2 fun v221 => if (5 : Int32) ≤ ir_ v221 (6 : Int32) then (F_X7_covers_248 (F_X7_covers_208 n)) x2 v221 h else (F_X7_parted v221 (v221 + (1 : Int32)) h).bind fun v241 => bd_ (sI_ h 473 ((gI_ h 473) + v241)) fun h245 => (F_X7_covers_248 (F_X7_covers_208 n)) x2 v221 h245
theorem A_X7_covers_208 {X : CX} {h' : Hp} (hn : (xc_ X).maxLocals = 6) (hX : Ok_ X RX7 cX7_covers 4) (hR : Rt_ X none none h') : ∀ (n : Nat) (x2 : Int32) (h : Hp), F_X7_covers_208 n x2 h = some h' → At_ X 208 [(0, .ref 7), (2, .int x2)] [] h := by
  intro n
  induction n with
  | zero => intro x2 h e; cases e
  | succ n ih =>
    intro x2 h e
    rw [F_X7_covers_208] at e
    refine at_iload_n hX rfl rfl dX7_covers_208 ?_
    refine at_aload_n hX rfl rfl dX7_covers_209 ?_
    refine gf_X7_225 hX dX7_covers_210 ?_
    refine at_icmp_ge hX (tgt := 358) (by decide) dX7_covers_213 (fun c213 => ?_) (fun c213 => ?_)
    · replace e := ip_ c213 e
      exact at_return hX hR rfl (by cases e; rfl) dX7_covers_358
    · replace e := in_ c213 e
      refine at_aload_n hX rfl rfl dX7_covers_216 ?_
      refine gf_X7_63 hX dX7_covers_217 ?_
      refine at_iload_n hX rfl rfl dX7_covers_220 ?_
      obtain ⟨hi, v221, ev221, e⟩ := rA_some e
      refine at_iald hX (o := 54) (by decide) rfl hi dX7_covers_221 ?_
      refine at_ti ev221 ?_
      refine at_istore_n hX rfl hn (by decide) dX7_covers_222 ?_
      refine at_iload_n hX rfl rfl dX7_covers_223 ?_
      refine at_bipush hX (v := 6) (by decide) dX7_covers_224 ?_
      refine at_irem hX (by decide) dX7_covers_226 ?_
      refine at_iconst hX (v := 5) (by decide) dX7_covers_227 ?_
      refine at_icmp_ge hX (tgt := 248) (by decide) dX7_covers_228 (fun c228 => ?_) (fun c228 => ?_)
      · replace e := ip_ c228 e
        exact at_sub [0, 2, 3] rfl ((A_X7_covers_248 hn hX hR (F_X7_covers_208 n) ih) _ _ _ e)
      · replace e := in_ c228 e
        refine at_aload_n hX rfl rfl dX7_covers_231 ?_
        refine at_dup hX rfl dX7_covers_232 ?_
        refine gf_X7_250 hX dX7_covers_233 ?_
        refine at_aload_n hX rfl rfl dX7_covers_236 ?_
        refine at_iload_n hX rfl rfl dX7_covers_237 ?_
        refine at_iload_n hX rfl rfl dX7_covers_238 ?_
        refine at_iconst hX (v := 1) (by decide) dX7_covers_239 ?_
        refine at_iadd hX dX7_covers_240 ?_
        obtain ⟨v241, e1, e⟩ := ob_some e
        refine at_callV2 hX cv_X7_253 (by decide) (c_X7_parted _ _ _ _ _ e1) (Nat.le_of_ble_eq_true rfl) dX7_covers_241 ?_
        refine at_iadd hX dX7_covers_244 ?_
        obtain ⟨h245, eh245, e⟩ := bd_some e
        refine pf_X7_250 hX dX7_covers_245 ?_
        refine at_th eh245 ?_
        exact at_sub [0, 2, 3] rfl ((A_X7_covers_248 hn hX hR (F_X7_covers_208 n) ih) _ _ _ e)
def F_X7_covers_201 (h : Hp) : Option Hp := bd_ (sI_ h 473 (0 : Int32)) fun h203 => (F_X7_covers_208 FU_) (0 : Int32) h203
theorem A_X7_covers_201 {X : CX} {h' : Hp} (hn : (xc_ X).maxLocals = 6) (hX : Ok_ X RX7 cX7_covers 4) (hR : Rt_ X none none h') (h : Hp) (e : F_X7_covers_201  h = some h') : At_ X 201 [(0, .ref 7)] [] h := by
  unfold F_X7_covers_201 at e
  refine at_aload_n hX rfl rfl dX7_covers_201 ?_
  refine at_iconst hX (v := 0) (by decide) dX7_covers_202 ?_
  obtain ⟨h203, eh203, e⟩ := bd_some e
  refine pf_X7_250 hX dX7_covers_203 ?_
  refine at_th eh203 ?_
  refine at_iconst hX (v := 0) (by decide) dX7_covers_206 ?_
  refine at_istore_n hX rfl hn (by decide) dX7_covers_207 ?_
  exact at_sub [0, 2] rfl ((A_X7_covers_208 hn hX hR FU_) _ _ e)
def F_X7_covers_195 (k115 : Int32 → Int32 → Hp → Option Hp) (x1 : Int32) (x2 : Int32) (h : Hp) : Option Hp := k115 x1 (x2 + (-1 : Int32)) h
theorem A_X7_covers_195 {X : CX} {h' : Hp} (hn : (xc_ X).maxLocals = 6) (hX : Ok_ X RX7 cX7_covers 4) (hR : Rt_ X none none h') (k115 : Int32 → Int32 → Hp → Option Hp) (hk115 : ∀ (x1 : Int32) (x2 : Int32) (h : Hp), k115 x1 x2 h = some h' → At_ X 115 [(0, .ref 7), (1, .int x1), (2, .int x2)] [] h) (x1 : Int32) (x2 : Int32) (h : Hp) (e : F_X7_covers_195 k115 x1 x2 h = some h') : At_ X 195 [(0, .ref 7), (1, .int x1), (2, .int x2)] [] h := by
  unfold F_X7_covers_195 at e
  refine at_iinc hX hn (by decide) rfl (v := -1) (by decide) dX7_covers_195 ?_
  refine at_goto hX (tgt := 115) (by decide) dX7_covers_198 ?_
  exact at_sub [0, 1, 2] rfl (hk115 _ _ _ e)
def F_X7_covers_189 (k157 : Int32 → Int32 → Int32 → Int32 → Hp → Option Hp) (x1 : Int32) (x2 : Int32) (x3 : Int32) (x4 : Int32) (h : Hp) : Option Hp := k157 x1 x2 x3 (x4 + (1 : Int32)) h
theorem A_X7_covers_189 {X : CX} {h' : Hp} (hn : (xc_ X).maxLocals = 6) (hX : Ok_ X RX7 cX7_covers 4) (hR : Rt_ X none none h') (k157 : Int32 → Int32 → Int32 → Int32 → Hp → Option Hp) (hk157 : ∀ (x1 : Int32) (x2 : Int32) (x3 : Int32) (x4 : Int32) (h : Hp), k157 x1 x2 x3 x4 h = some h' → At_ X 157 [(0, .ref 7), (1, .int x1), (2, .int x2), (3, .int x3), (4, .int x4)] [] h) (x1 : Int32) (x2 : Int32) (x3 : Int32) (x4 : Int32) (h : Hp) (e : F_X7_covers_189 k157 x1 x2 x3 x4 h = some h') : At_ X 189 [(0, .ref 7), (1, .int x1), (2, .int x2), (3, .int x3), (4, .int x4)] [] h := by
  unfold F_X7_covers_189 at e
  refine at_iinc hX hn (by decide) rfl (v := 1) (by decide) dX7_covers_189 ?_
  refine at_goto hX (tgt := 157) (by decide) dX7_covers_192 ?_
  exact at_sub [0, 1, 2, 3, 4] rfl (hk157 _ _ _ _ _ e)
def F_X7_covers_167 (n : Nat) (k189 : Int32 → Int32 → Int32 → Int32 → Hp → Option Hp) (x1 : Int32) (x2 : Int32) (x3 : Int32) (x4 : Int32) (x5 : Int32) (h : Hp) : Option Hp := match n with
  | 0 => none
  | n + 1 => if (2 : Int32) ≤ x5 then k189 x1 x2 x3 x4 h else (F_X7_tries x2 x3 x4 x5 h).bind fun h180 => (F_X7_covers_167 n k189) x1 x2 x3 x4 (x5 + (1 : Int32)) h180
theorem A_X7_covers_167 {X : CX} {h' : Hp} (hn : (xc_ X).maxLocals = 6) (hX : Ok_ X RX7 cX7_covers 4) (hR : Rt_ X none none h') (k189 : Int32 → Int32 → Int32 → Int32 → Hp → Option Hp) (hk189 : ∀ (x1 : Int32) (x2 : Int32) (x3 : Int32) (x4 : Int32) (h : Hp), k189 x1 x2 x3 x4 h = some h' → At_ X 189 [(0, .ref 7), (1, .int x1), (2, .int x2), (3, .int x3), (4, .int x4)] [] h) : ∀ (n : Nat) (x1 : Int32) (x2 : Int32) (x3 : Int32) (x4 : Int32) (x5 : Int32) (h : Hp), F_X7_covers_167 n k189 x1 x2 x3 x4 x5 h = some h' → At_ X 167 [(0, .ref 7), (1, .int x1), (2, .int x2), (3, .int x3), (4, .int x4), (5, .int x5)] [] h := by
  intro n
  induction n with
  | zero => intro x1 x2 x3 x4 x5 h e; cases e
  | succ n ih =>
    intro x1 x2 x3 x4 x5 h e
    rw [F_X7_covers_167] at e
    refine at_iload hX rfl dX7_covers_167 ?_
    refine at_iconst hX (v := 2) (by decide) dX7_covers_169 ?_
    refine at_icmp_ge hX (tgt := 189) (by decide) dX7_covers_170 (fun c170 => ?_) (fun c170 => ?_)
    · replace e := ip_ c170 e
      exact at_sub [0, 1, 2, 3, 4] rfl (hk189 _ _ _ _ _ e)
    · replace e := in_ c170 e
      refine at_aload_n hX rfl rfl dX7_covers_173 ?_
      refine at_iload_n hX rfl rfl dX7_covers_174 ?_
      refine at_iload_n hX rfl rfl dX7_covers_175 ?_
      refine at_iload hX rfl dX7_covers_176 ?_
      refine at_iload hX rfl dX7_covers_178 ?_
      obtain ⟨h180, e1, e⟩ := ob_some e
      refine at_callV4 hX cv_X7_246 (by decide) (c_X7_tries _ _ _ _ _ _ _ e1) (Nat.le_of_ble_eq_true rfl) dX7_covers_180 ?_
      refine at_iinc hX hn (by decide) rfl (v := 1) (by decide) dX7_covers_183 ?_
      refine at_goto hX (tgt := 167) (by decide) dX7_covers_186 ?_
      exact at_sub [0, 1, 2, 3, 4, 5] rfl (ih _ _ _ _ _ _ e)
def F_X7_covers_157 (n : Nat) (k195 : Int32 → Int32 → Hp → Option Hp) (x1 : Int32) (x2 : Int32) (x3 : Int32) (x4 : Int32) (h : Hp) : Option Hp := match n with
  | 0 => none
  | n + 1 => if (7 : Int32) ≤ x4 then k195 x1 x2 h else (F_X7_covers_167 FU_ (F_X7_covers_189 (F_X7_covers_157 n k195))) x1 x2 x3 x4 (0 : Int32) h
theorem A_X7_covers_157 {X : CX} {h' : Hp} (hn : (xc_ X).maxLocals = 6) (hX : Ok_ X RX7 cX7_covers 4) (hR : Rt_ X none none h') (k195 : Int32 → Int32 → Hp → Option Hp) (hk195 : ∀ (x1 : Int32) (x2 : Int32) (h : Hp), k195 x1 x2 h = some h' → At_ X 195 [(0, .ref 7), (1, .int x1), (2, .int x2)] [] h) : ∀ (n : Nat) (x1 : Int32) (x2 : Int32) (x3 : Int32) (x4 : Int32) (h : Hp), F_X7_covers_157 n k195 x1 x2 x3 x4 h = some h' → At_ X 157 [(0, .ref 7), (1, .int x1), (2, .int x2), (3, .int x3), (4, .int x4)] [] h := by
  intro n
  induction n with
  | zero => intro x1 x2 x3 x4 h e; cases e
  | succ n ih =>
    intro x1 x2 x3 x4 h e
    rw [F_X7_covers_157] at e
    refine at_iload hX rfl dX7_covers_157 ?_
    refine at_bipush hX (v := 7) (by decide) dX7_covers_159 ?_
    refine at_icmp_ge hX (tgt := 195) (by decide) dX7_covers_161 (fun c161 => ?_) (fun c161 => ?_)
    · replace e := ip_ c161 e
      exact at_sub [0, 1, 2] rfl (hk195 _ _ _ e)
    · replace e := in_ c161 e
      refine at_iconst hX (v := 0) (by decide) dX7_covers_164 ?_
      refine at_istore hX hn (by decide) dX7_covers_165 ?_
      exact at_sub [0, 1, 2, 3, 4, 5] rfl ((A_X7_covers_167 hn hX hR (F_X7_covers_189 (F_X7_covers_157 n k195)) (A_X7_covers_189 hn hX hR (F_X7_covers_157 n k195) ih) FU_) _ _ _ _ _ _ e)
def F_X7_covers_115 (n : Nat) (k201 : Hp → Option Hp) (x1 : Int32) (x2 : Int32) (h : Hp) : Option Hp := match n with
  | 0 => none
  | n + 1 => if x2 < (0 : Int32) then k201 h else wA_ h 55 65536 x2 (0 : Int32) fun h125 => wA_ h125 56 65536 x2 (0 : Int32) fun h132 => if x2 = x1 then (F_X7_covers_195 (F_X7_covers_115 n k201)) x1 x2 h132 else wA_ h132 55 65536 x2 (17 : Int32) fun h148 => (F_X7_firstOpen x2).bind fun v150 => (F_X7_covers_157 FU_ (F_X7_covers_195 (F_X7_covers_115 n k201))) x1 x2 v150 (0 : Int32) h148
theorem A_X7_covers_115 {X : CX} {h' : Hp} (hn : (xc_ X).maxLocals = 6) (hX : Ok_ X RX7 cX7_covers 4) (hR : Rt_ X none none h') (k201 : Hp → Option Hp) (hk201 : ∀ (h : Hp), k201  h = some h' → At_ X 201 [(0, .ref 7)] [] h) : ∀ (n : Nat) (x1 : Int32) (x2 : Int32) (h : Hp), F_X7_covers_115 n k201 x1 x2 h = some h' → At_ X 115 [(0, .ref 7), (1, .int x1), (2, .int x2)] [] h := by
  intro n
  induction n with
  | zero => intro x1 x2 h e; cases e
  | succ n ih =>
    intro x1 x2 h e
    rw [F_X7_covers_115] at e
    refine at_iload_n hX rfl rfl dX7_covers_115 ?_
    refine at_if_lt hX (tgt := 201) (by decide) dX7_covers_116 (fun c116 => ?_) (fun c116 => ?_)
    · replace e := ip_ c116 e
      exact at_sub [0] rfl (hk201 _ e)
    · replace e := in_ c116 e
      refine at_aload_n hX rfl rfl dX7_covers_119 ?_
      refine gf_X7_67 hX dX7_covers_120 ?_
      refine at_iload_n hX rfl rfl dX7_covers_123 ?_
      refine at_iconst hX (v := 0) (by decide) dX7_covers_124 ?_
      obtain ⟨hi, h125, eh125, e⟩ := wA_some e
      refine at_iast hX (o := 55) (by decide) rfl hi dX7_covers_125 ?_
      refine at_th eh125 ?_
      refine at_aload_n hX rfl rfl dX7_covers_126 ?_
      refine gf_X7_70 hX dX7_covers_127 ?_
      refine at_iload_n hX rfl rfl dX7_covers_130 ?_
      refine at_iconst hX (v := 0) (by decide) dX7_covers_131 ?_
      obtain ⟨hi, h132, eh132, e⟩ := wA_some e
      refine at_iast hX (o := 56) (by decide) rfl hi dX7_covers_132 ?_
      refine at_th eh132 ?_
      refine at_iload_n hX rfl rfl dX7_covers_133 ?_
      refine at_iload_n hX rfl rfl dX7_covers_134 ?_
      refine at_icmp_ne hX (tgt := 141) (by decide) dX7_covers_135 (fun c135 => ?_) (fun c135 => ?_)
      · replace e := in_ c135 e
        refine at_aload_n hX rfl rfl dX7_covers_141 ?_
        refine gf_X7_67 hX dX7_covers_142 ?_
        refine at_iload_n hX rfl rfl dX7_covers_145 ?_
        refine at_bipush hX (v := 17) (by decide) dX7_covers_146 ?_
        obtain ⟨hi, h148, eh148, e⟩ := wA_some e
        refine at_iast hX (o := 55) (by decide) rfl hi dX7_covers_148 ?_
        refine at_th eh148 ?_
        refine at_iload_n hX rfl rfl dX7_covers_149 ?_
        obtain ⟨v150, e1, e⟩ := ob_some e
        refine at_callS1 hX cv_X7_243 (by decide) (c_X7_firstOpen _ _ _ _ e1) (Nat.le_of_ble_eq_true rfl) dX7_covers_150 ?_
        refine at_istore_n hX rfl hn (by decide) dX7_covers_153 ?_
        refine at_iconst hX (v := 0) (by decide) dX7_covers_154 ?_
        refine at_istore hX hn (by decide) dX7_covers_155 ?_
        exact at_sub [0, 1, 2, 3, 4] rfl ((A_X7_covers_157 hn hX hR (F_X7_covers_195 (F_X7_covers_115 n k201)) (A_X7_covers_195 hn hX hR (F_X7_covers_115 n k201) ih) FU_) _ _ _ _ _ e)
      · replace e := ip_ c135 e
        refine at_goto hX (tgt := 195) (by decide) dX7_covers_138 ?_
        exact at_sub [0, 1, 2] rfl ((A_X7_covers_195 hn hX hR (F_X7_covers_115 n k201) ih) _ _ _ e)
def F_X7_covers_104 (h : Hp) : Option Hp := bd_ ((is_ (1 : Int32) (gI_ h 472)) - (1 : Int32)) fun y112 => (F_X7_covers_115 FU_ F_X7_covers_201) y112 y112 h
theorem A_X7_covers_104 {X : CX} {h' : Hp} (hn : (xc_ X).maxLocals = 6) (hX : Ok_ X RX7 cX7_covers 4) (hR : Rt_ X none none h') (h : Hp) (e : F_X7_covers_104  h = some h') : At_ X 104 [(0, .ref 7)] [] h := by
  unfold F_X7_covers_104 at e
  refine at_iconst hX (v := 1) (by decide) dX7_covers_104 ?_
  refine at_aload_n hX rfl rfl dX7_covers_105 ?_
  refine gf_X7_225 hX dX7_covers_106 ?_
  refine at_ishl hX dX7_covers_109 ?_
  refine at_iconst hX (v := 1) (by decide) dX7_covers_110 ?_
  refine at_isub hX dX7_covers_111 ?_
  obtain ⟨y112, ey112, e⟩ := bd_some e
  refine at_ti ey112 ?_
  refine at_istore_n hX rfl hn (by decide) dX7_covers_112 ?_
  refine at_iload_n hX rfl rfl dX7_covers_113 ?_
  refine at_istore_n hX rfl hn (by decide) dX7_covers_114 ?_
  exact at_sub [0, 1, 2] rfl ((A_X7_covers_115 hn hX hR F_X7_covers_201 (A_X7_covers_201 hn hX hR) FU_) _ _ _ e)
def F_X7_covers_98 (k2 : Int32 → Hp → Option Hp) (x1 : Int32) (h : Hp) : Option Hp := k2 (x1 + (1 : Int32)) h
theorem A_X7_covers_98 {X : CX} {h' : Hp} (hn : (xc_ X).maxLocals = 6) (hX : Ok_ X RX7 cX7_covers 4) (hR : Rt_ X none none h') (k2 : Int32 → Hp → Option Hp) (hk2 : ∀ (x1 : Int32) (h : Hp), k2 x1 h = some h' → At_ X 2 [(0, .ref 7), (1, .int x1)] [] h) (x1 : Int32) (h : Hp) (e : F_X7_covers_98 k2 x1 h = some h') : At_ X 98 [(0, .ref 7), (1, .int x1)] [] h := by
  unfold F_X7_covers_98 at e
  refine at_iinc hX hn (by decide) rfl (v := 1) (by decide) dX7_covers_98 ?_
  refine at_goto hX (tgt := 2) (by decide) dX7_covers_101 ?_
  exact at_sub [0, 1] rfl (hk2 _ _ e)
def F_X7_covers_92 (k12 : Int32 → Int32 → Hp → Option Hp) (x1 : Int32) (x2 : Int32) (h : Hp) : Option Hp := k12 x1 (x2 + (1 : Int32)) h
theorem A_X7_covers_92 {X : CX} {h' : Hp} (hn : (xc_ X).maxLocals = 6) (hX : Ok_ X RX7 cX7_covers 4) (hR : Rt_ X none none h') (k12 : Int32 → Int32 → Hp → Option Hp) (hk12 : ∀ (x1 : Int32) (x2 : Int32) (h : Hp), k12 x1 x2 h = some h' → At_ X 12 [(0, .ref 7), (1, .int x1), (2, .int x2)] [] h) (x1 : Int32) (x2 : Int32) (h : Hp) (e : F_X7_covers_92 k12 x1 x2 h = some h') : At_ X 92 [(0, .ref 7), (1, .int x1), (2, .int x2)] [] h := by
  unfold F_X7_covers_92 at e
  refine at_iinc hX hn (by decide) rfl (v := 1) (by decide) dX7_covers_92 ?_
  refine at_goto hX (tgt := 12) (by decide) dX7_covers_95 ?_
  exact at_sub [0, 1, 2] rfl (hk12 _ _ _ e)
def F_X7_covers_54 (k20 : Int32 → Int32 → Int32 → Hp → Option Hp) (x1 : Int32) (x2 : Int32) (x3 : Int32) (s0 : Int32) (h : Hp) : Option Hp := (F_X7_shapeAt x1 x2 x3).bind fun v63 => wA_ h 58 224 v63 s0 fun h68 => (F_X7_shapeAt x1 x2 x3).bind fun v76 => (F_X7_spares s0 h68).bind fun v82 => wA_ h68 59 224 v76 v82 fun h85 => k20 x1 x2 (x3 + (1 : Int32)) h85
theorem A_X7_covers_54 {X : CX} {h' : Hp} (hn : (xc_ X).maxLocals = 6) (hX : Ok_ X RX7 cX7_covers 4) (hR : Rt_ X none none h') (k20 : Int32 → Int32 → Int32 → Hp → Option Hp) (hk20 : ∀ (x1 : Int32) (x2 : Int32) (x3 : Int32) (h : Hp), k20 x1 x2 x3 h = some h' → At_ X 20 [(0, .ref 7), (1, .int x1), (2, .int x2), (3, .int x3)] [] h) (x1 : Int32) (x2 : Int32) (x3 : Int32) (s0 : Int32) (h : Hp) (e : F_X7_covers_54 k20 x1 x2 x3 s0 h = some h') : At_ X 54 [(0, .ref 7), (1, .int x1), (2, .int x2), (3, .int x3)] [.int s0] h := by
  unfold F_X7_covers_54 at e
  refine at_istore hX hn (by decide) dX7_covers_54 ?_
  refine at_aload_n hX rfl rfl dX7_covers_56 ?_
  refine gf_X7_76 hX dX7_covers_57 ?_
  refine at_iload_n hX rfl rfl dX7_covers_60 ?_
  refine at_iload_n hX rfl rfl dX7_covers_61 ?_
  refine at_iload_n hX rfl rfl dX7_covers_62 ?_
  obtain ⟨v63, e1, e⟩ := ob_some e
  refine at_callS3 hX cv_X7_237 (by decide) (c_X7_shapeAt _ _ _ _ _ _ e1) (Nat.le_of_ble_eq_true rfl) dX7_covers_63 ?_
  refine at_iload hX rfl dX7_covers_66 ?_
  obtain ⟨hi, h68, eh68, e⟩ := wA_some e
  refine at_iast hX (o := 58) (by decide) rfl hi dX7_covers_68 ?_
  refine at_th eh68 ?_
  refine at_aload_n hX rfl rfl dX7_covers_69 ?_
  refine gf_X7_79 hX dX7_covers_70 ?_
  refine at_iload_n hX rfl rfl dX7_covers_73 ?_
  refine at_iload_n hX rfl rfl dX7_covers_74 ?_
  refine at_iload_n hX rfl rfl dX7_covers_75 ?_
  obtain ⟨v76, e1, e⟩ := ob_some e
  refine at_callS3 hX cv_X7_237 (by decide) (c_X7_shapeAt _ _ _ _ _ _ e1) (Nat.le_of_ble_eq_true rfl) dX7_covers_76 ?_
  refine at_aload_n hX rfl rfl dX7_covers_79 ?_
  refine at_iload hX rfl dX7_covers_80 ?_
  obtain ⟨v82, e1, e⟩ := ob_some e
  refine at_callV1 hX cv_X7_240 (by decide) (c_X7_spares _ _ _ _ e1) (Nat.le_of_ble_eq_true rfl) dX7_covers_82 ?_
  obtain ⟨hi, h85, eh85, e⟩ := wA_some e
  refine at_iast hX (o := 59) (by decide) rfl hi dX7_covers_85 ?_
  refine at_th eh85 ?_
  refine at_iinc hX hn (by decide) rfl (v := 1) (by decide) dX7_covers_86 ?_
  refine at_goto hX (tgt := 20) (by decide) dX7_covers_89 ?_
  exact at_sub [0, 1, 2, 3] rfl (hk20 _ _ _ _ e)
def F_X7_covers_47 (k20 : Int32 → Int32 → Int32 → Hp → Option Hp) (x1 : Int32) (x2 : Int32) (x3 : Int32) (h : Hp) : Option Hp := (F_X7_shape x1 x2 x3 h).bind fun v51 => (F_X7_covers_54 k20) x1 x2 x3 v51 h
theorem A_X7_covers_47 {X : CX} {h' : Hp} (hn : (xc_ X).maxLocals = 6) (hX : Ok_ X RX7 cX7_covers 4) (hR : Rt_ X none none h') (k20 : Int32 → Int32 → Int32 → Hp → Option Hp) (hk20 : ∀ (x1 : Int32) (x2 : Int32) (x3 : Int32) (h : Hp), k20 x1 x2 x3 h = some h' → At_ X 20 [(0, .ref 7), (1, .int x1), (2, .int x2), (3, .int x3)] [] h) (x1 : Int32) (x2 : Int32) (x3 : Int32) (h : Hp) (e : F_X7_covers_47 k20 x1 x2 x3 h = some h') : At_ X 47 [(0, .ref 7), (1, .int x1), (2, .int x2), (3, .int x3)] [] h := by
  unfold F_X7_covers_47 at e
  refine at_aload_n hX rfl rfl dX7_covers_47 ?_
  refine at_iload_n hX rfl rfl dX7_covers_48 ?_
  refine at_iload_n hX rfl rfl dX7_covers_49 ?_
  refine at_iload_n hX rfl rfl dX7_covers_50 ?_
  obtain ⟨v51, e1, e⟩ := ob_some e
  refine at_callV3 hX cv_X7_234 (by decide) (c_X7_shape _ _ _ _ _ _ e1) (Nat.le_of_ble_eq_true rfl) dX7_covers_51 ?_
  exact at_sub [0, 1, 2, 3] rfl ((A_X7_covers_54 hn hX hR k20 hk20) _ _ _ _ _ e)
def F_X7_covers_20 (n : Nat) (k92 : Int32 → Int32 → Hp → Option Hp) (x1 : Int32) (x2 : Int32) (x3 : Int32) (h : Hp) : Option Hp := match n with
  | 0 => none
  | n + 1 => if (2 : Int32) ≤ x3 then k92 x1 x2 h else if x3 = (1 : Int32) then rS_ [1, 2, 3, 4, 2, 3, 4] x2 fun v34 => rS_ [1, 1, 1, 1, 2, 2, 2] x2 fun v39 => if v34 = v39 then (F_X7_covers_54 (F_X7_covers_20 n k92)) x1 x2 x3 (0 : Int32) h else (F_X7_covers_47 (F_X7_covers_20 n k92)) x1 x2 x3 h else (F_X7_covers_47 (F_X7_covers_20 n k92)) x1 x2 x3 h
theorem A_X7_covers_20 {X : CX} {h' : Hp} (hn : (xc_ X).maxLocals = 6) (hX : Ok_ X RX7 cX7_covers 4) (hR : Rt_ X none none h') (k92 : Int32 → Int32 → Hp → Option Hp) (hk92 : ∀ (x1 : Int32) (x2 : Int32) (h : Hp), k92 x1 x2 h = some h' → At_ X 92 [(0, .ref 7), (1, .int x1), (2, .int x2)] [] h) : ∀ (n : Nat) (x1 : Int32) (x2 : Int32) (x3 : Int32) (h : Hp), F_X7_covers_20 n k92 x1 x2 x3 h = some h' → At_ X 20 [(0, .ref 7), (1, .int x1), (2, .int x2), (3, .int x3)] [] h := by
  intro n
  induction n with
  | zero => intro x1 x2 x3 h e; cases e
  | succ n ih =>
    intro x1 x2 x3 h e
    rw [F_X7_covers_20] at e
    refine at_iload_n hX rfl rfl dX7_covers_20 ?_
    refine at_iconst hX (v := 2) (by decide) dX7_covers_21 ?_
    refine at_icmp_ge hX (tgt := 92) (by decide) dX7_covers_22 (fun c22 => ?_) (fun c22 => ?_)
    · replace e := ip_ c22 e
      exact at_sub [0, 1, 2] rfl (hk92 _ _ _ e)
    · replace e := in_ c22 e
      refine at_iload_n hX rfl rfl dX7_covers_25 ?_
      refine at_iconst hX (v := 1) (by decide) dX7_covers_26 ?_
      refine at_icmp_ne hX (tgt := 47) (by decide) dX7_covers_27 (fun c27 => ?_) (fun c27 => ?_)
      · replace e := in_ c27 e
        exact at_sub [0, 1, 2, 3] rfl ((A_X7_covers_47 hn hX hR (F_X7_covers_20 n k92) ih) _ _ _ _ e)
      · replace e := ip_ c27 e
        refine gs_X7_120 hX dX7_covers_30 ?_
        refine at_iload_n hX rfl rfl dX7_covers_33 ?_
        obtain ⟨hi, v34, ev34, e⟩ := rS_some e
        refine at_sald hX 6 rfl rfl hi dX7_covers_34 ?_
        refine at_ti ev34 ?_
        refine gs_X7_123 hX dX7_covers_35 ?_
        refine at_iload_n hX rfl rfl dX7_covers_38 ?_
        obtain ⟨hi, v39, ev39, e⟩ := rS_some e
        refine at_sald hX 7 rfl rfl hi dX7_covers_39 ?_
        refine at_ti ev39 ?_
        refine at_icmp_ne hX (tgt := 47) (by decide) dX7_covers_40 (fun c40 => ?_) (fun c40 => ?_)
        · replace e := in_ c40 e
          exact at_sub [0, 1, 2, 3] rfl ((A_X7_covers_47 hn hX hR (F_X7_covers_20 n k92) ih) _ _ _ _ e)
        · replace e := ip_ c40 e
          refine at_iconst hX (v := 0) (by decide) dX7_covers_43 ?_
          refine at_goto hX (tgt := 54) (by decide) dX7_covers_44 ?_
          exact at_sub [0, 1, 2, 3] rfl ((A_X7_covers_54 hn hX hR (F_X7_covers_20 n k92) ih) _ _ _ _ _ e)
def F_X7_covers_12 (n : Nat) (k98 : Int32 → Hp → Option Hp) (x1 : Int32) (x2 : Int32) (h : Hp) : Option Hp := match n with
  | 0 => none
  | n + 1 => if (7 : Int32) ≤ x2 then k98 x1 h else (F_X7_covers_20 FU_ (F_X7_covers_92 (F_X7_covers_12 n k98))) x1 x2 (0 : Int32) h
theorem A_X7_covers_12 {X : CX} {h' : Hp} (hn : (xc_ X).maxLocals = 6) (hX : Ok_ X RX7 cX7_covers 4) (hR : Rt_ X none none h') (k98 : Int32 → Hp → Option Hp) (hk98 : ∀ (x1 : Int32) (h : Hp), k98 x1 h = some h' → At_ X 98 [(0, .ref 7), (1, .int x1)] [] h) : ∀ (n : Nat) (x1 : Int32) (x2 : Int32) (h : Hp), F_X7_covers_12 n k98 x1 x2 h = some h' → At_ X 12 [(0, .ref 7), (1, .int x1), (2, .int x2)] [] h := by
  intro n
  induction n with
  | zero => intro x1 x2 h e; cases e
  | succ n ih =>
    intro x1 x2 h e
    rw [F_X7_covers_12] at e
    refine at_iload_n hX rfl rfl dX7_covers_12 ?_
    refine at_bipush hX (v := 7) (by decide) dX7_covers_13 ?_
    refine at_icmp_ge hX (tgt := 98) (by decide) dX7_covers_15 (fun c15 => ?_) (fun c15 => ?_)
    · replace e := ip_ c15 e
      exact at_sub [0, 1] rfl (hk98 _ _ e)
    · replace e := in_ c15 e
      refine at_iconst hX (v := 0) (by decide) dX7_covers_18 ?_
      refine at_istore_n hX rfl hn (by decide) dX7_covers_19 ?_
      exact at_sub [0, 1, 2, 3] rfl ((A_X7_covers_20 hn hX hR (F_X7_covers_92 (F_X7_covers_12 n k98)) (A_X7_covers_92 hn hX hR (F_X7_covers_12 n k98) ih) FU_) _ _ _ _ e)
def F_X7_covers_2 (n : Nat) (k104 : Hp → Option Hp) (x1 : Int32) (h : Hp) : Option Hp := match n with
  | 0 => none
  | n + 1 => if gI_ h 472 ≤ x1 then k104 h else (F_X7_covers_12 FU_ (F_X7_covers_98 (F_X7_covers_2 n k104))) x1 (0 : Int32) h
theorem A_X7_covers_2 {X : CX} {h' : Hp} (hn : (xc_ X).maxLocals = 6) (hX : Ok_ X RX7 cX7_covers 4) (hR : Rt_ X none none h') (k104 : Hp → Option Hp) (hk104 : ∀ (h : Hp), k104  h = some h' → At_ X 104 [(0, .ref 7)] [] h) : ∀ (n : Nat) (x1 : Int32) (h : Hp), F_X7_covers_2 n k104 x1 h = some h' → At_ X 2 [(0, .ref 7), (1, .int x1)] [] h := by
  intro n
  induction n with
  | zero => intro x1 h e; cases e
  | succ n ih =>
    intro x1 h e
    rw [F_X7_covers_2] at e
    refine at_iload_n hX rfl rfl dX7_covers_2 ?_
    refine at_aload_n hX rfl rfl dX7_covers_3 ?_
    refine gf_X7_225 hX dX7_covers_4 ?_
    refine at_icmp_ge hX (tgt := 104) (by decide) dX7_covers_7 (fun c7 => ?_) (fun c7 => ?_)
    · replace e := ip_ c7 e
      exact at_sub [0] rfl (hk104 _ e)
    · replace e := in_ c7 e
      refine at_iconst hX (v := 0) (by decide) dX7_covers_10 ?_
      refine at_istore_n hX rfl hn (by decide) dX7_covers_11 ?_
      exact at_sub [0, 1, 2] rfl ((A_X7_covers_12 hn hX hR (F_X7_covers_98 (F_X7_covers_2 n k104)) (A_X7_covers_98 hn hX hR (F_X7_covers_2 n k104) ih) FU_) _ _ _ e)
def F_X7_covers (h : Hp) : Option Hp := (F_X7_covers_2 FU_ F_X7_covers_104) (0 : Int32) h
theorem c_X7_covers (l : Launch) (G : Gl) (h : Hp) {h' : Hp} (e : F_X7_covers  h = some h') : Does l G 4 M_X7_covers [.ref 7] h none h' := by
  refine Does.of (by decide) rfl (Nat.le_of_ble_eq_true rfl) (fun X hl hG hn hX hR => ?_)
  unfold F_X7_covers at e
  subst hl; subst hG
  show At_ X 0 [(0, .ref 7)] [] h
  refine at_iconst hX (v := 0) (by decide) dX7_covers_0 ?_
  refine at_istore_n hX rfl hn (by decide) dX7_covers_1 ?_
  exact at_sub [0, 1] rfl ((A_X7_covers_2 hn hX hR F_X7_covers_104 (A_X7_covers_104 hn hX hR) FU_) _ _ e)

def F_X7_next_112 (k8 : Int32 → Int32 → Int32 → Hp → Option Int32) (x1 : Int32) (x2 : Int32) (x3 : Int32) (h : Hp) : Option Int32 := k8 x1 x2 (x3 + (-1 : Int32)) h
theorem A_X7_next_112 {X : CX} {h : Hp} {r : Int32} (hn : (xc_ X).maxLocals = 6) (hX : Ok_ X RX7 cX7_next 2) (hR : Rt_ X (some .int) (some (.int r)) h) (k8 : Int32 → Int32 → Int32 → Hp → Option Int32) (hk8 : ∀ (x1 : Int32) (x2 : Int32) (x3 : Int32), k8 x1 x2 x3 h = some r → At_ X 8 [(0, .ref 7), (1, .int x1), (2, .int x2), (3, .int x3)] [] h) (x1 : Int32) (x2 : Int32) (x3 : Int32) (e : F_X7_next_112 k8 x1 x2 x3 h = some r) : At_ X 112 [(0, .ref 7), (1, .int x1), (2, .int x2), (3, .int x3)] [] h := by
  unfold F_X7_next_112 at e
  refine at_iinc hX hn (by decide) rfl (v := -1) (by decide) dX7_next_112 ?_
  refine at_goto hX (tgt := 8) (by decide) dX7_next_115 ?_
  exact at_sub [0, 1, 2, 3] rfl (hk8 _ _ _ e)
def F_X7_next_106 (k15 : Int32 → Int32 → Int32 → Int32 → Hp → Option Int32) (x1 : Int32) (x2 : Int32) (x3 : Int32) (x4 : Int32) (h : Hp) : Option Int32 := k15 x1 x2 x3 (x4 + (1 : Int32)) h
theorem A_X7_next_106 {X : CX} {h : Hp} {r : Int32} (hn : (xc_ X).maxLocals = 6) (hX : Ok_ X RX7 cX7_next 2) (hR : Rt_ X (some .int) (some (.int r)) h) (k15 : Int32 → Int32 → Int32 → Int32 → Hp → Option Int32) (hk15 : ∀ (x1 : Int32) (x2 : Int32) (x3 : Int32) (x4 : Int32), k15 x1 x2 x3 x4 h = some r → At_ X 15 [(0, .ref 7), (1, .int x1), (2, .int x2), (3, .int x3), (4, .int x4)] [] h) (x1 : Int32) (x2 : Int32) (x3 : Int32) (x4 : Int32) (e : F_X7_next_106 k15 x1 x2 x3 x4 h = some r) : At_ X 106 [(0, .ref 7), (1, .int x1), (2, .int x2), (3, .int x3), (4, .int x4)] [] h := by
  unfold F_X7_next_106 at e
  refine at_iinc hX hn (by decide) rfl (v := 1) (by decide) dX7_next_106 ?_
  refine at_goto hX (tgt := 15) (by decide) dX7_next_109 ?_
  exact at_sub [0, 1, 2, 3, 4] rfl (hk15 _ _ _ _ e)
def F_X7_next_15 (n : Nat) (k112 : Int32 → Int32 → Int32 → Hp → Option Int32) (x1 : Int32) (x2 : Int32) (x3 : Int32) (x4 : Int32) (h : Hp) : Option Int32 := match n with
  | 0 => none
  | n + 1 => if (2 : Int32) ≤ x4 then k112 x1 x2 x3 h else (F_X7_shapeAt x2 x3 x4).bind fun v29 => rA_ h 58 224 v29 fun v32 => if v32 = (0 : Int32) then (F_X7_next_106 (F_X7_next_15 n k112)) x1 x2 x3 x4 h else if v32 &&& x1 = (0 : Int32) then rA_ h 55 65536 (x1 ||| v32) fun v56 => rA_ h 55 65536 x1 fun v63 => if (1 : Int32) + v56 = v63 then rA_ h 56 65536 (x1 ||| v32) fun v75 => (F_X7_shapeAt x2 x3 x4).bind fun v84 => rA_ h 59 224 v84 fun v87 => rA_ h 56 65536 x1 fun v94 => if v75 - v87 = v94 then some (x3 + ((10 : Int32) * x4)) else (F_X7_next_106 (F_X7_next_15 n k112)) x1 x2 x3 x4 h else (F_X7_next_106 (F_X7_next_15 n k112)) x1 x2 x3 x4 h else (F_X7_next_106 (F_X7_next_15 n k112)) x1 x2 x3 x4 h
theorem A_X7_next_15 {X : CX} {h : Hp} {r : Int32} (hn : (xc_ X).maxLocals = 6) (hX : Ok_ X RX7 cX7_next 2) (hR : Rt_ X (some .int) (some (.int r)) h) (k112 : Int32 → Int32 → Int32 → Hp → Option Int32) (hk112 : ∀ (x1 : Int32) (x2 : Int32) (x3 : Int32), k112 x1 x2 x3 h = some r → At_ X 112 [(0, .ref 7), (1, .int x1), (2, .int x2), (3, .int x3)] [] h) : ∀ (n : Nat) (x1 : Int32) (x2 : Int32) (x3 : Int32) (x4 : Int32), F_X7_next_15 n k112 x1 x2 x3 x4 h = some r → At_ X 15 [(0, .ref 7), (1, .int x1), (2, .int x2), (3, .int x3), (4, .int x4)] [] h := by
  intro n
  induction n with
  | zero => intro x1 x2 x3 x4 e; cases e
  | succ n ih =>
    intro x1 x2 x3 x4 e
    rw [F_X7_next_15] at e
    refine at_iload hX rfl dX7_next_15 ?_
    refine at_iconst hX (v := 2) (by decide) dX7_next_17 ?_
    refine at_icmp_ge hX (tgt := 112) (by decide) dX7_next_18 (fun c18 => ?_) (fun c18 => ?_)
    · replace e := ip_ c18 e
      exact at_sub [0, 1, 2, 3] rfl (hk112 _ _ _ e)
    · replace e := in_ c18 e
      refine at_aload_n hX rfl rfl dX7_next_21 ?_
      refine gf_X7_76 hX dX7_next_22 ?_
      refine at_iload_n hX rfl rfl dX7_next_25 ?_
      refine at_iload_n hX rfl rfl dX7_next_26 ?_
      refine at_iload hX rfl dX7_next_27 ?_
      obtain ⟨v29, e1, e⟩ := ob_some e
      refine at_callS3 hX cv_X7_237 (by decide) (c_X7_shapeAt _ _ _ _ _ _ e1) (Nat.le_of_ble_eq_true rfl) dX7_next_29 ?_
      obtain ⟨hi, v32, ev32, e⟩ := rA_some e
      refine at_iald hX (o := 58) (by decide) rfl hi dX7_next_32 ?_
      refine at_ti ev32 ?_
      refine at_istore hX hn (by decide) dX7_next_33 ?_
      refine at_iload hX rfl dX7_next_35 ?_
      refine at_if_eq hX (tgt := 106) (by decide) dX7_next_37 (fun c37 => ?_) (fun c37 => ?_)
      · replace e := ip_ c37 e
        exact at_sub [0, 1, 2, 3, 4] rfl ((A_X7_next_106 hn hX hR (F_X7_next_15 n k112) ih) _ _ _ _ e)
      · replace e := in_ c37 e
        refine at_iload hX rfl dX7_next_40 ?_
        refine at_iload_n hX rfl rfl dX7_next_42 ?_
        refine at_iand hX dX7_next_43 ?_
        refine at_if_ne hX (tgt := 106) (by decide) dX7_next_44 (fun c44 => ?_) (fun c44 => ?_)
        · replace e := in_ c44 e
          exact at_sub [0, 1, 2, 3, 4] rfl ((A_X7_next_106 hn hX hR (F_X7_next_15 n k112) ih) _ _ _ _ e)
        · replace e := ip_ c44 e
          refine at_iconst hX (v := 1) (by decide) dX7_next_47 ?_
          refine at_aload_n hX rfl rfl dX7_next_48 ?_
          refine gf_X7_67 hX dX7_next_49 ?_
          refine at_iload_n hX rfl rfl dX7_next_52 ?_
          refine at_iload hX rfl dX7_next_53 ?_
          refine at_ior hX dX7_next_55 ?_
          obtain ⟨hi, v56, ev56, e⟩ := rA_some e
          refine at_iald hX (o := 55) (by decide) rfl hi dX7_next_56 ?_
          refine at_ti ev56 ?_
          refine at_iadd hX dX7_next_57 ?_
          refine at_aload_n hX rfl rfl dX7_next_58 ?_
          refine gf_X7_67 hX dX7_next_59 ?_
          refine at_iload_n hX rfl rfl dX7_next_62 ?_
          obtain ⟨hi, v63, ev63, e⟩ := rA_some e
          refine at_iald hX (o := 55) (by decide) rfl hi dX7_next_63 ?_
          refine at_ti ev63 ?_
          refine at_icmp_ne hX (tgt := 106) (by decide) dX7_next_64 (fun c64 => ?_) (fun c64 => ?_)
          · replace e := in_ c64 e
            exact at_sub [0, 1, 2, 3, 4] rfl ((A_X7_next_106 hn hX hR (F_X7_next_15 n k112) ih) _ _ _ _ e)
          · replace e := ip_ c64 e
            refine at_aload_n hX rfl rfl dX7_next_67 ?_
            refine gf_X7_70 hX dX7_next_68 ?_
            refine at_iload_n hX rfl rfl dX7_next_71 ?_
            refine at_iload hX rfl dX7_next_72 ?_
            refine at_ior hX dX7_next_74 ?_
            obtain ⟨hi, v75, ev75, e⟩ := rA_some e
            refine at_iald hX (o := 56) (by decide) rfl hi dX7_next_75 ?_
            refine at_ti ev75 ?_
            refine at_aload_n hX rfl rfl dX7_next_76 ?_
            refine gf_X7_79 hX dX7_next_77 ?_
            refine at_iload_n hX rfl rfl dX7_next_80 ?_
            refine at_iload_n hX rfl rfl dX7_next_81 ?_
            refine at_iload hX rfl dX7_next_82 ?_
            obtain ⟨v84, e1, e⟩ := ob_some e
            refine at_callS3 hX cv_X7_237 (by decide) (c_X7_shapeAt _ _ _ _ _ _ e1) (Nat.le_of_ble_eq_true rfl) dX7_next_84 ?_
            obtain ⟨hi, v87, ev87, e⟩ := rA_some e
            refine at_iald hX (o := 59) (by decide) rfl hi dX7_next_87 ?_
            refine at_ti ev87 ?_
            refine at_isub hX dX7_next_88 ?_
            refine at_aload_n hX rfl rfl dX7_next_89 ?_
            refine gf_X7_70 hX dX7_next_90 ?_
            refine at_iload_n hX rfl rfl dX7_next_93 ?_
            obtain ⟨hi, v94, ev94, e⟩ := rA_some e
            refine at_iald hX (o := 56) (by decide) rfl hi dX7_next_94 ?_
            refine at_ti ev94 ?_
            refine at_icmp_ne hX (tgt := 106) (by decide) dX7_next_95 (fun c95 => ?_) (fun c95 => ?_)
            · replace e := in_ c95 e
              exact at_sub [0, 1, 2, 3, 4] rfl ((A_X7_next_106 hn hX hR (F_X7_next_15 n k112) ih) _ _ _ _ e)
            · replace e := ip_ c95 e
              refine at_iload_n hX rfl rfl dX7_next_98 ?_
              refine at_bipush hX (v := 10) (by decide) dX7_next_99 ?_
              refine at_iload hX rfl dX7_next_101 ?_
              refine at_imul hX dX7_next_103 ?_
              refine at_iadd hX dX7_next_104 ?_
              exact at_ireturn hX hR rfl (by cases e; rfl) rfl dX7_next_105
def F_X7_next_8 (n : Nat) (x1 : Int32) (x2 : Int32) (x3 : Int32) (h : Hp) : Option Int32 := match n with
  | 0 => none
  | n + 1 => if x3 < (0 : Int32) then some (-9 : Int32) else (F_X7_next_15 FU_ (F_X7_next_112 (F_X7_next_8 n))) x1 x2 x3 (0 : Int32) h
theorem A_X7_next_8 {X : CX} {h : Hp} {r : Int32} (hn : (xc_ X).maxLocals = 6) (hX : Ok_ X RX7 cX7_next 2) (hR : Rt_ X (some .int) (some (.int r)) h) : ∀ (n : Nat) (x1 : Int32) (x2 : Int32) (x3 : Int32), F_X7_next_8 n x1 x2 x3 h = some r → At_ X 8 [(0, .ref 7), (1, .int x1), (2, .int x2), (3, .int x3)] [] h := by
  intro n
  induction n with
  | zero => intro x1 x2 x3 e; cases e
  | succ n ih =>
    intro x1 x2 x3 e
    rw [F_X7_next_8] at e
    refine at_iload_n hX rfl rfl dX7_next_8 ?_
    refine at_if_lt hX (tgt := 118) (by decide) dX7_next_9 (fun c9 => ?_) (fun c9 => ?_)
    · replace e := ip_ c9 e
      refine at_bipush hX (v := -9) (by decide) dX7_next_118 ?_
      exact at_ireturn hX hR rfl (by cases e; rfl) rfl dX7_next_120
    · replace e := in_ c9 e
      refine at_iconst hX (v := 0) (by decide) dX7_next_12 ?_
      refine at_istore hX hn (by decide) dX7_next_13 ?_
      exact at_sub [0, 1, 2, 3, 4] rfl ((A_X7_next_15 hn hX hR (F_X7_next_112 (F_X7_next_8 n)) (A_X7_next_112 hn hX hR (F_X7_next_8 n) ih) FU_) _ _ _ _ e)
def F_X7_next (x1 : Int32) (h : Hp) : Option Int32 := (F_X7_firstOpen x1).bind fun v1 => (F_X7_next_8 FU_) x1 v1 (6 : Int32) h
theorem c_X7_next (l : Launch) (G : Gl) (x1 : Int32) (h : Hp) {r : Int32} (e : F_X7_next x1 h = some r) : Does l G 2 M_X7_next [.ref 7, .int x1] h (some (.int r)) h := by
  refine Does.of (by decide) rfl (Nat.le_of_ble_eq_true rfl) (fun X hl hG hn hX hR => ?_)
  unfold F_X7_next at e
  subst hl; subst hG
  show At_ X 0 [(0, .ref 7), (1, .int x1)] [] h
  refine at_iload_n hX rfl rfl dX7_next_0 ?_
  obtain ⟨v1, e1, e⟩ := ob_some e
  refine at_callS1 hX cv_X7_243 (by decide) (c_X7_firstOpen _ _ _ _ e1) (Nat.le_of_ble_eq_true rfl) dX7_next_1 ?_
  refine at_istore_n hX rfl hn (by decide) dX7_next_4 ?_
  refine at_bipush hX (v := 6) (by decide) dX7_next_5 ?_
  refine at_istore_n hX rfl hn (by decide) dX7_next_7 ?_
  exact at_sub [0, 1, 2, 3] rfl ((A_X7_next_8 hn hX hR FU_) _ _ _ e)

def F_X7_cover (x1 : Int32) (x2 : Int32) (h : Hp) : Option (Int32 × Hp) := (F_X7_wrongCover x1 x2 h).bind fun ((v3, h3) : Int32 × Hp) => if v3 = (0 : Int32) then (F_X7_covers  h3).bind fun h18 => rA_ h18 55 65536 (0 : Int32) fun v26 => some (v26, h18) else (F_X7_refuse v3 h3).bind fun ((v13, h13) : Int32 × Hp) => some (v13, h13)
theorem c_X7_cover (l : Launch) (G : Gl) (x1 : Int32) (x2 : Int32) (h : Hp) {r : Int32} {h' : Hp} (e : F_X7_cover x1 x2 h = some (r, h')) : Does l G 5 M_X7_cover [.ref 7, .int x1, .int x2] h (some (.int r)) h' := by
  refine Does.of (by decide) rfl (Nat.le_of_ble_eq_true rfl) (fun X hl hG hn hX hR => ?_)
  unfold F_X7_cover at e
  subst hl; subst hG
  show At_ X 0 [(0, .ref 7), (1, .int x1), (2, .int x2)] [] h
  refine at_aload_n hX rfl rfl dX7_cover_0 ?_
  refine at_iload_n hX rfl rfl dX7_cover_1 ?_
  refine at_iload_n hX rfl rfl dX7_cover_2 ?_
  obtain ⟨⟨v3, h3⟩, e1, e⟩ := ob_some e
  refine at_callV2 hX cv_X7_256 (by decide) (c_X7_wrongCover _ _ _ _ _ e1) (Nat.le_of_ble_eq_true rfl) dX7_cover_3 ?_
  refine at_istore_n hX rfl hn (by decide) dX7_cover_6 ?_
  refine at_iload_n hX rfl rfl dX7_cover_7 ?_
  refine at_if_eq hX (tgt := 17) (by decide) dX7_cover_8 (fun c8 => ?_) (fun c8 => ?_)
  · replace e := ip_ c8 e
    refine at_aload_n hX rfl rfl dX7_cover_17 ?_
    obtain ⟨h18, e1, e⟩ := ob_some e
    refine at_callV0 hX cv_X7_259 (by decide) (c_X7_covers _ _  _ e1) (Nat.le_of_ble_eq_true rfl) dX7_cover_18 ?_
    refine at_aload_n hX rfl rfl dX7_cover_21 ?_
    refine gf_X7_67 hX dX7_cover_22 ?_
    refine at_iconst hX (v := 0) (by decide) dX7_cover_25 ?_
    obtain ⟨hi, v26, ev26, e⟩ := rA_some e
    refine at_iald hX (o := 55) (by decide) rfl hi dX7_cover_26 ?_
    refine at_ti ev26 ?_
    exact at_ireturn hX hR rfl (by cases e; rfl) (by cases e; rfl) dX7_cover_27
  · replace e := in_ c8 e
    refine at_aload_n hX rfl rfl dX7_cover_11 ?_
    refine at_iload_n hX rfl rfl dX7_cover_12 ?_
    obtain ⟨⟨v13, h13⟩, e1, e⟩ := ob_some e
    refine at_callV1 hX cv_X7_106 (by decide) (c_X7_refuse _ _ _ _ e1) (Nat.le_of_ble_eq_true rfl) dX7_cover_13 ?_
    exact at_ireturn hX hR rfl (by cases e; rfl) (by cases e; rfl) dX7_cover_16

def F_X7_coverSeams (x1 : Int32) (x2 : Int32) (h : Hp) : Option (Int32 × Hp) := (F_X7_wrongCover x1 x2 h).bind fun ((v3, h3) : Int32 × Hp) => if v3 = (0 : Int32) then (F_X7_covers  h3).bind fun h18 => rA_ h18 56 65536 (0 : Int32) fun v30 => some ((gI_ h18 473) + v30, h18) else (F_X7_refuse v3 h3).bind fun ((v13, h13) : Int32 × Hp) => some (v13, h13)
theorem c_X7_coverSeams (l : Launch) (G : Gl) (x1 : Int32) (x2 : Int32) (h : Hp) {r : Int32} {h' : Hp} (e : F_X7_coverSeams x1 x2 h = some (r, h')) : Does l G 5 M_X7_coverSeams [.ref 7, .int x1, .int x2] h (some (.int r)) h' := by
  refine Does.of (by decide) rfl (Nat.le_of_ble_eq_true rfl) (fun X hl hG hn hX hR => ?_)
  unfold F_X7_coverSeams at e
  subst hl; subst hG
  show At_ X 0 [(0, .ref 7), (1, .int x1), (2, .int x2)] [] h
  refine at_aload_n hX rfl rfl dX7_coverSeams_0 ?_
  refine at_iload_n hX rfl rfl dX7_coverSeams_1 ?_
  refine at_iload_n hX rfl rfl dX7_coverSeams_2 ?_
  obtain ⟨⟨v3, h3⟩, e1, e⟩ := ob_some e
  refine at_callV2 hX cv_X7_256 (by decide) (c_X7_wrongCover _ _ _ _ _ e1) (Nat.le_of_ble_eq_true rfl) dX7_coverSeams_3 ?_
  refine at_istore_n hX rfl hn (by decide) dX7_coverSeams_6 ?_
  refine at_iload_n hX rfl rfl dX7_coverSeams_7 ?_
  refine at_if_eq hX (tgt := 17) (by decide) dX7_coverSeams_8 (fun c8 => ?_) (fun c8 => ?_)
  · replace e := ip_ c8 e
    refine at_aload_n hX rfl rfl dX7_coverSeams_17 ?_
    obtain ⟨h18, e1, e⟩ := ob_some e
    refine at_callV0 hX cv_X7_259 (by decide) (c_X7_covers _ _  _ e1) (Nat.le_of_ble_eq_true rfl) dX7_coverSeams_18 ?_
    refine at_aload_n hX rfl rfl dX7_coverSeams_21 ?_
    refine gf_X7_250 hX dX7_coverSeams_22 ?_
    refine at_aload_n hX rfl rfl dX7_coverSeams_25 ?_
    refine gf_X7_70 hX dX7_coverSeams_26 ?_
    refine at_iconst hX (v := 0) (by decide) dX7_coverSeams_29 ?_
    obtain ⟨hi, v30, ev30, e⟩ := rA_some e
    refine at_iald hX (o := 56) (by decide) rfl hi dX7_coverSeams_30 ?_
    refine at_ti ev30 ?_
    refine at_iadd hX dX7_coverSeams_31 ?_
    exact at_ireturn hX hR rfl (by cases e; rfl) (by cases e; rfl) dX7_coverSeams_32
  · replace e := in_ c8 e
    refine at_aload_n hX rfl rfl dX7_coverSeams_11 ?_
    refine at_iload_n hX rfl rfl dX7_coverSeams_12 ?_
    obtain ⟨⟨v13, h13⟩, e1, e⟩ := ob_some e
    refine at_callV1 hX cv_X7_106 (by decide) (c_X7_refuse _ _ _ _ e1) (Nat.le_of_ble_eq_true rfl) dX7_coverSeams_13 ?_
    exact at_ireturn hX hR rfl (by cases e; rfl) (by cases e; rfl) dX7_coverSeams_16

def F_X7_coverAt_94 (x5 : Int32) (h : Hp) : Option (Int32 × Hp) := (F_X7_firstOpen x5).bind fun v100 => rA_ h 54 36 v100 fun v103 => (F_X7_next x5 h).bind fun v112 => some ((v112 + ((100 : Int32) * (ir_ (ir_ v103 (36 : Int32)) (6 : Int32)))) + ((1000 : Int32) * ((ir_ v103 (36 : Int32)) / (6 : Int32))), h)
theorem A_X7_coverAt_94 {X : CX} {h' : Hp} {r : Int32} (hn : (xc_ X).maxLocals = 8) (hX : Ok_ X RX7 cX7_coverAt 5) (hR : Rt_ X (some .int) (some (.int r)) h') (x5 : Int32) (h : Hp) (e : F_X7_coverAt_94 x5 h = some (r, h')) : At_ X 94 [(0, .ref 7), (5, .int x5)] [] h := by
  unfold F_X7_coverAt_94 at e
  refine at_aload_n hX rfl rfl dX7_coverAt_94 ?_
  refine gf_X7_63 hX dX7_coverAt_95 ?_
  refine at_iload hX rfl dX7_coverAt_98 ?_
  obtain ⟨v100, e1, e⟩ := ob_some e
  refine at_callS1 hX cv_X7_243 (by decide) (c_X7_firstOpen _ _ _ _ e1) (Nat.le_of_ble_eq_true rfl) dX7_coverAt_100 ?_
  obtain ⟨hi, v103, ev103, e⟩ := rA_some e
  refine at_iald hX (o := 54) (by decide) rfl hi dX7_coverAt_103 ?_
  refine at_ti ev103 ?_
  refine at_bipush hX (v := 36) (by decide) dX7_coverAt_104 ?_
  refine at_irem hX (by decide) dX7_coverAt_106 ?_
  refine at_istore hX hn (by decide) dX7_coverAt_107 ?_
  refine at_aload_n hX rfl rfl dX7_coverAt_109 ?_
  refine at_iload hX rfl dX7_coverAt_110 ?_
  obtain ⟨v112, e1, e⟩ := ob_some e
  refine at_callV1 hX cv_X7_262 (by decide) (c_X7_next _ _ _ _ e1) (Nat.le_of_ble_eq_true rfl) dX7_coverAt_112 ?_
  refine at_bipush hX (v := 100) (by decide) dX7_coverAt_115 ?_
  refine at_iload hX rfl dX7_coverAt_117 ?_
  refine at_bipush hX (v := 6) (by decide) dX7_coverAt_119 ?_
  refine at_irem hX (by decide) dX7_coverAt_121 ?_
  refine at_imul hX dX7_coverAt_122 ?_
  refine at_iadd hX dX7_coverAt_123 ?_
  refine at_sipush hX (v := 1000) (by decide) dX7_coverAt_124 ?_
  refine at_iload hX rfl dX7_coverAt_127 ?_
  refine at_bipush hX (v := 6) (by decide) dX7_coverAt_129 ?_
  refine at_idiv hX (by decide) dX7_coverAt_131 ?_
  refine at_imul hX dX7_coverAt_132 ?_
  refine at_iadd hX dX7_coverAt_133 ?_
  exact at_ireturn hX hR rfl (by cases e; rfl) (by cases e; rfl) dX7_coverAt_134
def F_X7_coverAt_46 (n : Nat) (k94 : Int32 → Hp → Option (Int32 × Hp)) (x3 : Int32) (x5 : Int32) (x6 : Int32) (h : Hp) : Option (Int32 × Hp) := match n with
  | 0 => none
  | n + 1 => if x3 ≤ x6 then k94 x5 h else (F_X7_next x5 h).bind fun v55 => (F_X7_firstOpen x5).bind fun v68 => (F_X7_shapeAt v68 (ir_ v55 (10 : Int32)) (v55 / (10 : Int32))).bind fun v81 => rA_ h 58 224 v81 fun v84 => (F_X7_coverAt_46 n k94) x3 (x5 ||| v84) (x6 + (1 : Int32)) h
theorem A_X7_coverAt_46 {X : CX} {h' : Hp} {r : Int32} (hn : (xc_ X).maxLocals = 8) (hX : Ok_ X RX7 cX7_coverAt 5) (hR : Rt_ X (some .int) (some (.int r)) h') (k94 : Int32 → Hp → Option (Int32 × Hp)) (hk94 : ∀ (x5 : Int32) (h : Hp), k94 x5 h = some (r, h') → At_ X 94 [(0, .ref 7), (5, .int x5)] [] h) : ∀ (n : Nat) (x3 : Int32) (x5 : Int32) (x6 : Int32) (h : Hp), F_X7_coverAt_46 n k94 x3 x5 x6 h = some (r, h') → At_ X 46 [(0, .ref 7), (3, .int x3), (5, .int x5), (6, .int x6)] [] h := by
  intro n
  induction n with
  | zero => intro x3 x5 x6 h e; cases e
  | succ n ih =>
    intro x3 x5 x6 h e
    rw [F_X7_coverAt_46] at e
    refine at_iload hX rfl dX7_coverAt_46 ?_
    refine at_iload_n hX rfl rfl dX7_coverAt_48 ?_
    refine at_icmp_ge hX (tgt := 94) (by decide) dX7_coverAt_49 (fun c49 => ?_) (fun c49 => ?_)
    · replace e := ip_ c49 e
      exact at_sub [0, 5] rfl (hk94 _ _ e)
    · replace e := in_ c49 e
      refine at_aload_n hX rfl rfl dX7_coverAt_52 ?_
      refine at_iload hX rfl dX7_coverAt_53 ?_
      obtain ⟨v55, e1, e⟩ := ob_some e
      refine at_callV1 hX cv_X7_262 (by decide) (c_X7_next _ _ _ _ e1) (Nat.le_of_ble_eq_true rfl) dX7_coverAt_55 ?_
      refine at_istore hX hn (by decide) dX7_coverAt_58 ?_
      refine at_iload hX rfl dX7_coverAt_60 ?_
      refine at_aload_n hX rfl rfl dX7_coverAt_62 ?_
      refine gf_X7_76 hX dX7_coverAt_63 ?_
      refine at_iload hX rfl dX7_coverAt_66 ?_
      obtain ⟨v68, e1, e⟩ := ob_some e
      refine at_callS1 hX cv_X7_243 (by decide) (c_X7_firstOpen _ _ _ _ e1) (Nat.le_of_ble_eq_true rfl) dX7_coverAt_68 ?_
      refine at_iload hX rfl dX7_coverAt_71 ?_
      refine at_bipush hX (v := 10) (by decide) dX7_coverAt_73 ?_
      refine at_irem hX (by decide) dX7_coverAt_75 ?_
      refine at_iload hX rfl dX7_coverAt_76 ?_
      refine at_bipush hX (v := 10) (by decide) dX7_coverAt_78 ?_
      refine at_idiv hX (by decide) dX7_coverAt_80 ?_
      obtain ⟨v81, e1, e⟩ := ob_some e
      refine at_callS3 hX cv_X7_237 (by decide) (c_X7_shapeAt _ _ _ _ _ _ e1) (Nat.le_of_ble_eq_true rfl) dX7_coverAt_81 ?_
      obtain ⟨hi, v84, ev84, e⟩ := rA_some e
      refine at_iald hX (o := 58) (by decide) rfl hi dX7_coverAt_84 ?_
      refine at_ti ev84 ?_
      refine at_ior hX dX7_coverAt_85 ?_
      refine at_istore hX hn (by decide) dX7_coverAt_86 ?_
      refine at_iinc hX hn (by decide) rfl (v := 1) (by decide) dX7_coverAt_88 ?_
      refine at_goto hX (tgt := 46) (by decide) dX7_coverAt_91 ?_
      exact at_sub [0, 3, 5, 6] rfl (ih _ _ _ _ e)
def F_X7_coverAt (x1 : Int32) (x2 : Int32) (x3 : Int32) (h : Hp) : Option (Int32 × Hp) := (F_X7_wrongCover x1 x2 h).bind fun ((v3, h3) : Int32 × Hp) => if v3 = (0 : Int32) then (F_X7_covers  h3).bind fun h21 => rA_ h21 55 65536 (0 : Int32) fun v30 => (F_X7_isIn x3 v30).bind fun v31 => if v31 = (0 : Int32) then some ((-9 : Int32), h21) else (F_X7_coverAt_46 FU_ F_X7_coverAt_94) x3 (0 : Int32) (0 : Int32) h21 else (F_X7_refuse v3 h3).bind fun ((v16, h16) : Int32 × Hp) => some (v16, h16)
theorem c_X7_coverAt (l : Launch) (G : Gl) (x1 : Int32) (x2 : Int32) (x3 : Int32) (h : Hp) {r : Int32} {h' : Hp} (e : F_X7_coverAt x1 x2 x3 h = some (r, h')) : Does l G 5 M_X7_coverAt [.ref 7, .int x1, .int x2, .int x3] h (some (.int r)) h' := by
  refine Does.of (by decide) rfl (Nat.le_of_ble_eq_true rfl) (fun X hl hG hn hX hR => ?_)
  unfold F_X7_coverAt at e
  subst hl; subst hG
  show At_ X 0 [(0, .ref 7), (1, .int x1), (2, .int x2), (3, .int x3)] [] h
  refine at_aload_n hX rfl rfl dX7_coverAt_0 ?_
  refine at_iload_n hX rfl rfl dX7_coverAt_1 ?_
  refine at_iload_n hX rfl rfl dX7_coverAt_2 ?_
  obtain ⟨⟨v3, h3⟩, e1, e⟩ := ob_some e
  refine at_callV2 hX cv_X7_256 (by decide) (c_X7_wrongCover _ _ _ _ _ e1) (Nat.le_of_ble_eq_true rfl) dX7_coverAt_3 ?_
  refine at_istore hX hn (by decide) dX7_coverAt_6 ?_
  refine at_iload hX rfl dX7_coverAt_8 ?_
  refine at_if_eq hX (tgt := 20) (by decide) dX7_coverAt_10 (fun c10 => ?_) (fun c10 => ?_)
  · replace e := ip_ c10 e
    refine at_aload_n hX rfl rfl dX7_coverAt_20 ?_
    obtain ⟨h21, e1, e⟩ := ob_some e
    refine at_callV0 hX cv_X7_259 (by decide) (c_X7_covers _ _  _ e1) (Nat.le_of_ble_eq_true rfl) dX7_coverAt_21 ?_
    refine at_iload_n hX rfl rfl dX7_coverAt_24 ?_
    refine at_aload_n hX rfl rfl dX7_coverAt_25 ?_
    refine gf_X7_67 hX dX7_coverAt_26 ?_
    refine at_iconst hX (v := 0) (by decide) dX7_coverAt_29 ?_
    obtain ⟨hi, v30, ev30, e⟩ := rA_some e
    refine at_iald hX (o := 55) (by decide) rfl hi dX7_coverAt_30 ?_
    refine at_ti ev30 ?_
    obtain ⟨v31, e1, e⟩ := ob_some e
    refine at_callS2 hX cv_X7_98 (by decide) (c_X7_isIn _ _ _ _ _ e1) (Nat.le_of_ble_eq_true rfl) dX7_coverAt_31 ?_
    refine at_if_ne hX (tgt := 40) (by decide) dX7_coverAt_34 (fun c34 => ?_) (fun c34 => ?_)
    · replace e := in_ c34 e
      refine at_iconst hX (v := 0) (by decide) dX7_coverAt_40 ?_
      refine at_istore hX hn (by decide) dX7_coverAt_41 ?_
      refine at_iconst hX (v := 0) (by decide) dX7_coverAt_43 ?_
      refine at_istore hX hn (by decide) dX7_coverAt_44 ?_
      exact at_sub [0, 3, 5, 6] rfl ((A_X7_coverAt_46 hn hX hR F_X7_coverAt_94 (A_X7_coverAt_94 hn hX hR) FU_) _ _ _ _ e)
    · replace e := ip_ c34 e
      refine at_bipush hX (v := -9) (by decide) dX7_coverAt_37 ?_
      exact at_ireturn hX hR rfl (by cases e; rfl) (by cases e; rfl) dX7_coverAt_39
  · replace e := in_ c10 e
    refine at_aload_n hX rfl rfl dX7_coverAt_13 ?_
    refine at_iload hX rfl dX7_coverAt_14 ?_
    obtain ⟨⟨v16, h16⟩, e1, e⟩ := ob_some e
    refine at_callV1 hX cv_X7_106 (by decide) (c_X7_refuse _ _ _ _ e1) (Nat.le_of_ble_eq_true rfl) dX7_coverAt_16 ?_
    exact at_ireturn hX hR rfl (by cases e; rfl) (by cases e; rfl) dX7_coverAt_19

def F_X7_lay_54 (n : Nat) (x1 : Int32) (x2 : Int32) (x4 : Int32) (x5 : Int32) (x6 : Int32) (h : Hp) : Option (Int32 × Hp) := match n with
  | 0 => none
  | n + 1 => if x4 ≤ x6 then some (x4, h) else (F_X7_next x5 h).bind fun v64 => (F_X7_firstOpen x5).bind fun v75 => rA_ h 54 36 v75 fun v78 => (F_X7_firstOpen x5).bind fun v92 => (F_X7_shapeAt v92 (ir_ v64 (10 : Int32)) (v64 / (10 : Int32))).bind fun v105 => rA_ h 58 224 v105 fun v108 => (F_X7_adds (ir_ v64 (10 : Int32)) (v64 / (10 : Int32)) (ir_ (ir_ v78 (36 : Int32)) (6 : Int32)) ((ir_ v78 (36 : Int32)) / (6 : Int32)) x2 x1 h).bind fun h135 => (F_X7_lay_54 n) x1 x2 x4 (x5 ||| v108) (x6 + (1 : Int32)) h135
theorem A_X7_lay_54 {X : CX} {h' : Hp} {r : Int32} (hn : (xc_ X).maxLocals = 9) (hX : Ok_ X RX7 cX7_lay 5) (hR : Rt_ X (some .int) (some (.int r)) h') : ∀ (n : Nat) (x1 : Int32) (x2 : Int32) (x4 : Int32) (x5 : Int32) (x6 : Int32) (h : Hp), F_X7_lay_54 n x1 x2 x4 x5 x6 h = some (r, h') → At_ X 54 [(0, .ref 7), (1, .int x1), (2, .int x2), (4, .int x4), (5, .int x5), (6, .int x6)] [] h := by
  intro n
  induction n with
  | zero => intro x1 x2 x4 x5 x6 h e; cases e
  | succ n ih =>
    intro x1 x2 x4 x5 x6 h e
    rw [F_X7_lay_54] at e
    refine at_iload hX rfl dX7_lay_54 ?_
    refine at_iload hX rfl dX7_lay_56 ?_
    refine at_icmp_ge hX (tgt := 144) (by decide) dX7_lay_58 (fun c58 => ?_) (fun c58 => ?_)
    · replace e := ip_ c58 e
      refine at_iload hX rfl dX7_lay_144 ?_
      exact at_ireturn hX hR rfl (by cases e; rfl) (by cases e; rfl) dX7_lay_146
    · replace e := in_ c58 e
      refine at_aload_n hX rfl rfl dX7_lay_61 ?_
      refine at_iload hX rfl dX7_lay_62 ?_
      obtain ⟨v64, e1, e⟩ := ob_some e
      refine at_callV1 hX cv_X7_262 (by decide) (c_X7_next _ _ _ _ e1) (Nat.le_of_ble_eq_true rfl) dX7_lay_64 ?_
      refine at_istore hX hn (by decide) dX7_lay_67 ?_
      refine at_aload_n hX rfl rfl dX7_lay_69 ?_
      refine gf_X7_63 hX dX7_lay_70 ?_
      refine at_iload hX rfl dX7_lay_73 ?_
      obtain ⟨v75, e1, e⟩ := ob_some e
      refine at_callS1 hX cv_X7_243 (by decide) (c_X7_firstOpen _ _ _ _ e1) (Nat.le_of_ble_eq_true rfl) dX7_lay_75 ?_
      obtain ⟨hi, v78, ev78, e⟩ := rA_some e
      refine at_iald hX (o := 54) (by decide) rfl hi dX7_lay_78 ?_
      refine at_ti ev78 ?_
      refine at_bipush hX (v := 36) (by decide) dX7_lay_79 ?_
      refine at_irem hX (by decide) dX7_lay_81 ?_
      refine at_istore hX hn (by decide) dX7_lay_82 ?_
      refine at_iload hX rfl dX7_lay_84 ?_
      refine at_aload_n hX rfl rfl dX7_lay_86 ?_
      refine gf_X7_76 hX dX7_lay_87 ?_
      refine at_iload hX rfl dX7_lay_90 ?_
      obtain ⟨v92, e1, e⟩ := ob_some e
      refine at_callS1 hX cv_X7_243 (by decide) (c_X7_firstOpen _ _ _ _ e1) (Nat.le_of_ble_eq_true rfl) dX7_lay_92 ?_
      refine at_iload hX rfl dX7_lay_95 ?_
      refine at_bipush hX (v := 10) (by decide) dX7_lay_97 ?_
      refine at_irem hX (by decide) dX7_lay_99 ?_
      refine at_iload hX rfl dX7_lay_100 ?_
      refine at_bipush hX (v := 10) (by decide) dX7_lay_102 ?_
      refine at_idiv hX (by decide) dX7_lay_104 ?_
      obtain ⟨v105, e1, e⟩ := ob_some e
      refine at_callS3 hX cv_X7_237 (by decide) (c_X7_shapeAt _ _ _ _ _ _ e1) (Nat.le_of_ble_eq_true rfl) dX7_lay_105 ?_
      obtain ⟨hi, v108, ev108, e⟩ := rA_some e
      refine at_iald hX (o := 58) (by decide) rfl hi dX7_lay_108 ?_
      refine at_ti ev108 ?_
      refine at_ior hX dX7_lay_109 ?_
      refine at_istore hX hn (by decide) dX7_lay_110 ?_
      refine at_aload_n hX rfl rfl dX7_lay_112 ?_
      refine at_iload hX rfl dX7_lay_113 ?_
      refine at_bipush hX (v := 10) (by decide) dX7_lay_115 ?_
      refine at_irem hX (by decide) dX7_lay_117 ?_
      refine at_iload hX rfl dX7_lay_118 ?_
      refine at_bipush hX (v := 10) (by decide) dX7_lay_120 ?_
      refine at_idiv hX (by decide) dX7_lay_122 ?_
      refine at_iload hX rfl dX7_lay_123 ?_
      refine at_bipush hX (v := 6) (by decide) dX7_lay_125 ?_
      refine at_irem hX (by decide) dX7_lay_127 ?_
      refine at_iload hX rfl dX7_lay_128 ?_
      refine at_bipush hX (v := 6) (by decide) dX7_lay_130 ?_
      refine at_idiv hX (by decide) dX7_lay_132 ?_
      refine at_iload_n hX rfl rfl dX7_lay_133 ?_
      refine at_iload_n hX rfl rfl dX7_lay_134 ?_
      obtain ⟨h135, e1, e⟩ := ob_some e
      refine at_callV6 hX cv_X7_144 (by decide) (c_X7_adds _ _ _ _ _ _ _ _ _ e1) (Nat.le_of_ble_eq_true rfl) dX7_lay_135 ?_
      refine at_iinc hX hn (by decide) rfl (v := 1) (by decide) dX7_lay_138 ?_
      refine at_goto hX (tgt := 54) (by decide) dX7_lay_141 ?_
      exact at_sub [0, 1, 2, 4, 5, 6] rfl (ih _ _ _ _ _ _ e)
def F_X7_lay (x1 : Int32) (x2 : Int32) (h : Hp) : Option (Int32 × Hp) := (F_X7_wrongCover x1 x2 h).bind fun ((v3, h3) : Int32 × Hp) => if v3 = (0 : Int32) then (F_X7_covers  h3).bind fun h18 => rA_ h18 55 65536 (0 : Int32) fun v26 => if (gI_ h18 458) + v26 ≤ (40 : Int32) then (F_X7_lay_54 FU_) x1 x2 v26 (0 : Int32) (0 : Int32) h18 else (F_X7_refuse (-6 : Int32) h18).bind fun ((v44, h44) : Int32 × Hp) => some (v44, h44) else (F_X7_refuse v3 h3).bind fun ((v13, h13) : Int32 × Hp) => some (v13, h13)
theorem c_X7_lay (l : Launch) (G : Gl) (x1 : Int32) (x2 : Int32) (h : Hp) {r : Int32} {h' : Hp} (e : F_X7_lay x1 x2 h = some (r, h')) : Does l G 5 M_X7_lay [.ref 7, .int x1, .int x2] h (some (.int r)) h' := by
  refine Does.of (by decide) rfl (Nat.le_of_ble_eq_true rfl) (fun X hl hG hn hX hR => ?_)
  unfold F_X7_lay at e
  subst hl; subst hG
  show At_ X 0 [(0, .ref 7), (1, .int x1), (2, .int x2)] [] h
  refine at_aload_n hX rfl rfl dX7_lay_0 ?_
  refine at_iload_n hX rfl rfl dX7_lay_1 ?_
  refine at_iload_n hX rfl rfl dX7_lay_2 ?_
  obtain ⟨⟨v3, h3⟩, e1, e⟩ := ob_some e
  refine at_callV2 hX cv_X7_256 (by decide) (c_X7_wrongCover _ _ _ _ _ e1) (Nat.le_of_ble_eq_true rfl) dX7_lay_3 ?_
  refine at_istore_n hX rfl hn (by decide) dX7_lay_6 ?_
  refine at_iload_n hX rfl rfl dX7_lay_7 ?_
  refine at_if_eq hX (tgt := 17) (by decide) dX7_lay_8 (fun c8 => ?_) (fun c8 => ?_)
  · replace e := ip_ c8 e
    refine at_aload_n hX rfl rfl dX7_lay_17 ?_
    obtain ⟨h18, e1, e⟩ := ob_some e
    refine at_callV0 hX cv_X7_259 (by decide) (c_X7_covers _ _  _ e1) (Nat.le_of_ble_eq_true rfl) dX7_lay_18 ?_
    refine at_aload_n hX rfl rfl dX7_lay_21 ?_
    refine gf_X7_67 hX dX7_lay_22 ?_
    refine at_iconst hX (v := 0) (by decide) dX7_lay_25 ?_
    obtain ⟨hi, v26, ev26, e⟩ := rA_some e
    refine at_iald hX (o := 55) (by decide) rfl hi dX7_lay_26 ?_
    refine at_ti ev26 ?_
    refine at_istore hX hn (by decide) dX7_lay_27 ?_
    refine at_aload_n hX rfl rfl dX7_lay_29 ?_
    refine gf_X7_133 hX dX7_lay_30 ?_
    refine at_iload hX rfl dX7_lay_33 ?_
    refine at_iadd hX dX7_lay_35 ?_
    refine at_bipush hX (v := 40) (by decide) dX7_lay_36 ?_
    refine at_icmp_le hX (tgt := 48) (by decide) dX7_lay_38 (fun c38 => ?_) (fun c38 => ?_)
    · replace e := ip_ c38 e
      refine at_iconst hX (v := 0) (by decide) dX7_lay_48 ?_
      refine at_istore hX hn (by decide) dX7_lay_49 ?_
      refine at_iconst hX (v := 0) (by decide) dX7_lay_51 ?_
      refine at_istore hX hn (by decide) dX7_lay_52 ?_
      exact at_sub [0, 1, 2, 4, 5, 6] rfl ((A_X7_lay_54 hn hX hR FU_) _ _ _ _ _ _ e)
    · replace e := in_ c38 e
      refine at_aload_n hX rfl rfl dX7_lay_41 ?_
      refine at_bipush hX (v := -6) (by decide) dX7_lay_42 ?_
      obtain ⟨⟨v44, h44⟩, e1, e⟩ := ob_some e
      refine at_callV1 hX cv_X7_106 (by decide) (c_X7_refuse _ _ _ _ e1) (Nat.le_of_ble_eq_true rfl) dX7_lay_44 ?_
      exact at_ireturn hX hR rfl (by cases e; rfl) (by cases e; rfl) dX7_lay_47
  · replace e := in_ c8 e
    refine at_aload_n hX rfl rfl dX7_lay_11 ?_
    refine at_iload_n hX rfl rfl dX7_lay_12 ?_
    obtain ⟨⟨v13, h13⟩, e1, e⟩ := ob_some e
    refine at_callV1 hX cv_X7_106 (by decide) (c_X7_refuse _ _ _ _ e1) (Nat.le_of_ble_eq_true rfl) dX7_lay_13 ?_
    exact at_ireturn hX hR rfl (by cases e; rfl) (by cases e; rfl) dX7_lay_16
