
def F_X2_brickAt (x1 : Int32) (x2 : Int32) (x3 : Int32) (h : Hp) : Option Int32 := (F_X6_isPlace x1 x2 x3).bind fun v3 => if v3 = (0 : Int32) then some (-1 : Int32) else (F_X6_indexOf x1 x2 x3).bind fun v16 => rA_ h 21 180 v16 fun v19 => some (v19 - (1 : Int32))
theorem c_X2_brickAt (l : Launch) (G : Gl) (x1 : Int32) (x2 : Int32) (x3 : Int32) (h : Hp) {r : Int32} (e : F_X2_brickAt x1 x2 x3 h = some r) : Does l G 2 M_X2_brickAt [.ref 2, .int x1, .int x2, .int x3] h (some (.int r)) h := by
  refine Does.of (by decide) rfl (Nat.le_of_ble_eq_true rfl) (fun X hl hG hn hX hR => ?_)
  unfold F_X2_brickAt at e
  subst hl; subst hG
  show At_ X 0 [(0, .ref 2), (1, .int x1), (2, .int x2), (3, .int x3)] [] h
  refine at_iload_n hX rfl rfl dX2_brickAt_0 ?_
  refine at_iload_n hX rfl rfl dX2_brickAt_1 ?_
  refine at_iload_n hX rfl rfl dX2_brickAt_2 ?_
  obtain ⟨v3, e1, e⟩ := ob_some e
  refine at_callN3 hX cv_X2_80 (by decide) (c_X6_isPlace _ _ _ _ _ _ e1) (Nat.le_of_ble_eq_true rfl) dX2_brickAt_3 ?_
  refine at_if_eq hX (tgt := 25) (by decide) dX2_brickAt_6 (fun c6 => ?_) (fun c6 => ?_)
  · replace e := ip_ c6 e
    refine at_iconst hX (v := -1) (by decide) dX2_brickAt_25 ?_
    exact at_ireturn hX hR rfl (by cases e; rfl) rfl dX2_brickAt_26
  · replace e := in_ c6 e
    refine at_aload_n hX rfl rfl dX2_brickAt_9 ?_
    refine gf_X2_40 hX dX2_brickAt_10 ?_
    refine at_iload_n hX rfl rfl dX2_brickAt_13 ?_
    refine at_iload_n hX rfl rfl dX2_brickAt_14 ?_
    refine at_iload_n hX rfl rfl dX2_brickAt_15 ?_
    obtain ⟨v16, e1, e⟩ := ob_some e
    refine at_callN3 hX cv_X2_101 (by decide) (c_X6_indexOf _ _ _ _ _ _ e1) (Nat.le_of_ble_eq_true rfl) dX2_brickAt_16 ?_
    obtain ⟨hi, v19, ev19, e⟩ := rA_some e
    refine at_iald hX (o := 21) (by decide) rfl hi dX2_brickAt_19 ?_
    refine at_ti ev19 ?_
    refine at_iconst hX (v := 1) (by decide) dX2_brickAt_20 ?_
    refine at_isub hX dX2_brickAt_21 ?_
    refine at_goto hX (tgt := 26) (by decide) dX2_brickAt_22 ?_
    exact at_ireturn hX hR rfl (by cases e; rfl) rfl dX2_brickAt_26

def F_X2_areTwo (x0 : Int32) (x1 : Int32) : Option Int32 := if x0 = (-1 : Int32) then some (0 : Int32) else if x1 = (-1 : Int32) then some (0 : Int32) else if x0 = x1 then some (0 : Int32) else some (1 : Int32)
theorem c_X2_areTwo (l : Launch) (G : Gl) (x0 : Int32) (x1 : Int32) (h : Hp) {r : Int32} (e : F_X2_areTwo x0 x1 = some r) : Does l G 1 M_X2_areTwo [.int x0, .int x1] h (some (.int r)) h := by
  refine Does.of (by decide) rfl (Nat.le_of_ble_eq_true rfl) (fun X hl hG hn hX hR => ?_)
  unfold F_X2_areTwo at e
  subst hl; subst hG
  show At_ X 0 [(0, .int x0), (1, .int x1)] [] h
  refine at_iload_n hX rfl rfl dX2_areTwo_0 ?_
  refine at_iconst hX (v := -1) (by decide) dX2_areTwo_1 ?_
  refine at_icmp_eq hX (tgt := 19) (by decide) dX2_areTwo_2 (fun c2 => ?_) (fun c2 => ?_)
  · replace e := ip_ c2 e
    refine at_iconst hX (v := 0) (by decide) dX2_areTwo_19 ?_
    exact at_ireturn hX hR rfl (by cases e; rfl) rfl dX2_areTwo_20
  · replace e := in_ c2 e
    refine at_iload_n hX rfl rfl dX2_areTwo_5 ?_
    refine at_iconst hX (v := -1) (by decide) dX2_areTwo_6 ?_
    refine at_icmp_eq hX (tgt := 19) (by decide) dX2_areTwo_7 (fun c7 => ?_) (fun c7 => ?_)
    · replace e := ip_ c7 e
      refine at_iconst hX (v := 0) (by decide) dX2_areTwo_19 ?_
      exact at_ireturn hX hR rfl (by cases e; rfl) rfl dX2_areTwo_20
    · replace e := in_ c7 e
      refine at_iload_n hX rfl rfl dX2_areTwo_10 ?_
      refine at_iload_n hX rfl rfl dX2_areTwo_11 ?_
      refine at_icmp_eq hX (tgt := 19) (by decide) dX2_areTwo_12 (fun c12 => ?_) (fun c12 => ?_)
      · replace e := ip_ c12 e
        refine at_iconst hX (v := 0) (by decide) dX2_areTwo_19 ?_
        exact at_ireturn hX hR rfl (by cases e; rfl) rfl dX2_areTwo_20
      · replace e := in_ c12 e
        refine at_iconst hX (v := 1) (by decide) dX2_areTwo_15 ?_
        refine at_goto hX (tgt := 20) (by decide) dX2_areTwo_16 ?_
        exact at_ireturn hX hR rfl (by cases e; rfl) rfl dX2_areTwo_20

def F_X2_isSeamRight (x1 : Int32) (x2 : Int32) (x3 : Int32) (h : Hp) : Option Int32 := (F_X2_brickAt x1 x2 x3 h).bind fun v4 => (F_X2_brickAt (x1 + (1 : Int32)) x2 x3 h).bind fun v13 => (F_X2_areTwo v4 v13).bind fun v16 => bz_ v16 fun z19 => some z19
theorem c_X2_isSeamRight (l : Launch) (G : Gl) (x1 : Int32) (x2 : Int32) (x3 : Int32) (h : Hp) {r : Int32} (e : F_X2_isSeamRight x1 x2 x3 h = some r) : Does l G 3 M_X2_isSeamRight [.ref 2, .int x1, .int x2, .int x3] h (some (.int r)) h := by
  refine Does.of (by decide) rfl (Nat.le_of_ble_eq_true rfl) (fun X hl hG hn hX hR => ?_)
  unfold F_X2_isSeamRight at e
  subst hl; subst hG
  show At_ X 0 [(0, .ref 2), (1, .int x1), (2, .int x2), (3, .int x3)] [] h
  refine at_aload_n hX rfl rfl dX2_isSeamRight_0 ?_
  refine at_iload_n hX rfl rfl dX2_isSeamRight_1 ?_
  refine at_iload_n hX rfl rfl dX2_isSeamRight_2 ?_
  refine at_iload_n hX rfl rfl dX2_isSeamRight_3 ?_
  obtain ⟨v4, e1, e⟩ := ob_some e
  refine at_callV3 hX cv_X2_114 (by decide) (c_X2_brickAt _ _ _ _ _ _ e1) (Nat.le_of_ble_eq_true rfl) dX2_isSeamRight_4 ?_
  refine at_aload_n hX rfl rfl dX2_isSeamRight_7 ?_
  refine at_iload_n hX rfl rfl dX2_isSeamRight_8 ?_
  refine at_iconst hX (v := 1) (by decide) dX2_isSeamRight_9 ?_
  refine at_iadd hX dX2_isSeamRight_10 ?_
  refine at_iload_n hX rfl rfl dX2_isSeamRight_11 ?_
  refine at_iload_n hX rfl rfl dX2_isSeamRight_12 ?_
  obtain ⟨v13, e1, e⟩ := ob_some e
  refine at_callV3 hX cv_X2_114 (by decide) (c_X2_brickAt _ _ _ _ _ _ e1) (Nat.le_of_ble_eq_true rfl) dX2_isSeamRight_13 ?_
  obtain ⟨v16, e1, e⟩ := ob_some e
  refine at_callS2 hX cv_X2_117 (by decide) (c_X2_areTwo _ _ _ _ _ e1) (Nat.le_of_ble_eq_true rfl) dX2_isSeamRight_16 ?_
  obtain ⟨hz, z19, ez19, e⟩ := bz_some e
  refine at_ti ez19 ?_
  exact at_ireturn hX hR (bz_nar hz ez19) (by cases e; rfl) rfl dX2_isSeamRight_19

def F_X2_isSeamBehind (x1 : Int32) (x2 : Int32) (x3 : Int32) (h : Hp) : Option Int32 := (F_X2_brickAt x1 x2 x3 h).bind fun v4 => (F_X2_brickAt x1 (x2 + (1 : Int32)) x3 h).bind fun v13 => (F_X2_areTwo v4 v13).bind fun v16 => bz_ v16 fun z19 => some z19
theorem c_X2_isSeamBehind (l : Launch) (G : Gl) (x1 : Int32) (x2 : Int32) (x3 : Int32) (h : Hp) {r : Int32} (e : F_X2_isSeamBehind x1 x2 x3 h = some r) : Does l G 3 M_X2_isSeamBehind [.ref 2, .int x1, .int x2, .int x3] h (some (.int r)) h := by
  refine Does.of (by decide) rfl (Nat.le_of_ble_eq_true rfl) (fun X hl hG hn hX hR => ?_)
  unfold F_X2_isSeamBehind at e
  subst hl; subst hG
  show At_ X 0 [(0, .ref 2), (1, .int x1), (2, .int x2), (3, .int x3)] [] h
  refine at_aload_n hX rfl rfl dX2_isSeamBehind_0 ?_
  refine at_iload_n hX rfl rfl dX2_isSeamBehind_1 ?_
  refine at_iload_n hX rfl rfl dX2_isSeamBehind_2 ?_
  refine at_iload_n hX rfl rfl dX2_isSeamBehind_3 ?_
  obtain ⟨v4, e1, e⟩ := ob_some e
  refine at_callV3 hX cv_X2_114 (by decide) (c_X2_brickAt _ _ _ _ _ _ e1) (Nat.le_of_ble_eq_true rfl) dX2_isSeamBehind_4 ?_
  refine at_aload_n hX rfl rfl dX2_isSeamBehind_7 ?_
  refine at_iload_n hX rfl rfl dX2_isSeamBehind_8 ?_
  refine at_iload_n hX rfl rfl dX2_isSeamBehind_9 ?_
  refine at_iconst hX (v := 1) (by decide) dX2_isSeamBehind_10 ?_
  refine at_iadd hX dX2_isSeamBehind_11 ?_
  refine at_iload_n hX rfl rfl dX2_isSeamBehind_12 ?_
  obtain ⟨v13, e1, e⟩ := ob_some e
  refine at_callV3 hX cv_X2_114 (by decide) (c_X2_brickAt _ _ _ _ _ _ e1) (Nat.le_of_ble_eq_true rfl) dX2_isSeamBehind_13 ?_
  obtain ⟨v16, e1, e⟩ := ob_some e
  refine at_callS2 hX cv_X2_117 (by decide) (c_X2_areTwo _ _ _ _ _ e1) (Nat.le_of_ble_eq_true rfl) dX2_isSeamBehind_16 ?_
  obtain ⟨hz, z19, ez19, e⟩ := bz_some e
  refine at_ti ez19 ?_
  exact at_ireturn hX hR (bz_nar hz ez19) (by cases e; rfl) rfl dX2_isSeamBehind_19

def F_X2_countSeams_115 (k12 : Int32 → Int32 → Int32 → Hp → Option Int32) (x1 : Int32) (x2 : Int32) (x3 : Int32) (h : Hp) : Option Int32 := k12 x1 x2 (x3 + (1 : Int32)) h
theorem A_X2_countSeams_115 {X : CX} {h : Hp} {r : Int32} (hn : (xc_ X).maxLocals = 6) (hX : Ok_ X RX2 cX2_countSeams 4) (hR : Rt_ X (some .int) (some (.int r)) h) (k12 : Int32 → Int32 → Int32 → Hp → Option Int32) (hk12 : ∀ (x1 : Int32) (x2 : Int32) (x3 : Int32), k12 x1 x2 x3 h = some r → At_ X 12 [(0, .ref 2), (1, .int x1), (2, .int x2), (3, .int x3)] [] h) (x1 : Int32) (x2 : Int32) (x3 : Int32) (e : F_X2_countSeams_115 k12 x1 x2 x3 h = some r) : At_ X 115 [(0, .ref 2), (1, .int x1), (2, .int x2), (3, .int x3)] [] h := by
  unfold F_X2_countSeams_115 at e
  refine at_iinc hX hn (by decide) rfl (v := 1) (by decide) dX2_countSeams_115 ?_
  refine at_goto hX (tgt := 12) (by decide) dX2_countSeams_118 ?_
  exact at_sub [0, 1, 2, 3] rfl (hk12 _ _ _ e)
def F_X2_countSeams_109 (k20 : Int32 → Int32 → Int32 → Int32 → Hp → Option Int32) (x1 : Int32) (x2 : Int32) (x3 : Int32) (x4 : Int32) (h : Hp) : Option Int32 := k20 x1 x2 x3 (x4 + (1 : Int32)) h
theorem A_X2_countSeams_109 {X : CX} {h : Hp} {r : Int32} (hn : (xc_ X).maxLocals = 6) (hX : Ok_ X RX2 cX2_countSeams 4) (hR : Rt_ X (some .int) (some (.int r)) h) (k20 : Int32 → Int32 → Int32 → Int32 → Hp → Option Int32) (hk20 : ∀ (x1 : Int32) (x2 : Int32) (x3 : Int32) (x4 : Int32), k20 x1 x2 x3 x4 h = some r → At_ X 20 [(0, .ref 2), (1, .int x1), (2, .int x2), (3, .int x3), (4, .int x4)] [] h) (x1 : Int32) (x2 : Int32) (x3 : Int32) (x4 : Int32) (e : F_X2_countSeams_109 k20 x1 x2 x3 x4 h = some r) : At_ X 109 [(0, .ref 2), (1, .int x1), (2, .int x2), (3, .int x3), (4, .int x4)] [] h := by
  unfold F_X2_countSeams_109 at e
  refine at_iinc hX hn (by decide) rfl (v := 1) (by decide) dX2_countSeams_109 ?_
  refine at_goto hX (tgt := 20) (by decide) dX2_countSeams_112 ?_
  exact at_sub [0, 1, 2, 3, 4] rfl (hk20 _ _ _ _ e)
def F_X2_countSeams_103 (k30 : Int32 → Int32 → Int32 → Int32 → Int32 → Hp → Option Int32) (x1 : Int32) (x2 : Int32) (x3 : Int32) (x4 : Int32) (x5 : Int32) (h : Hp) : Option Int32 := k30 x1 x2 x3 x4 (x5 + (1 : Int32)) h
theorem A_X2_countSeams_103 {X : CX} {h : Hp} {r : Int32} (hn : (xc_ X).maxLocals = 6) (hX : Ok_ X RX2 cX2_countSeams 4) (hR : Rt_ X (some .int) (some (.int r)) h) (k30 : Int32 → Int32 → Int32 → Int32 → Int32 → Hp → Option Int32) (hk30 : ∀ (x1 : Int32) (x2 : Int32) (x3 : Int32) (x4 : Int32) (x5 : Int32), k30 x1 x2 x3 x4 x5 h = some r → At_ X 30 [(0, .ref 2), (1, .int x1), (2, .int x2), (3, .int x3), (4, .int x4), (5, .int x5)] [] h) (x1 : Int32) (x2 : Int32) (x3 : Int32) (x4 : Int32) (x5 : Int32) (e : F_X2_countSeams_103 k30 x1 x2 x3 x4 x5 h = some r) : At_ X 103 [(0, .ref 2), (1, .int x1), (2, .int x2), (3, .int x3), (4, .int x4), (5, .int x5)] [] h := by
  unfold F_X2_countSeams_103 at e
  refine at_iinc hX hn (by decide) rfl (v := 1) (by decide) dX2_countSeams_103 ?_
  refine at_goto hX (tgt := 30) (by decide) dX2_countSeams_106 ?_
  exact at_sub [0, 1, 2, 3, 4, 5] rfl (hk30 _ _ _ _ _ e)
def F_X2_countSeams_100 (k30 : Int32 → Int32 → Int32 → Int32 → Int32 → Hp → Option Int32) (x1 : Int32) (x2 : Int32) (x3 : Int32) (x4 : Int32) (x5 : Int32) (h : Hp) : Option Int32 := (F_X2_countSeams_103 k30) x1 (x2 + (1 : Int32)) x3 x4 x5 h
theorem A_X2_countSeams_100 {X : CX} {h : Hp} {r : Int32} (hn : (xc_ X).maxLocals = 6) (hX : Ok_ X RX2 cX2_countSeams 4) (hR : Rt_ X (some .int) (some (.int r)) h) (k30 : Int32 → Int32 → Int32 → Int32 → Int32 → Hp → Option Int32) (hk30 : ∀ (x1 : Int32) (x2 : Int32) (x3 : Int32) (x4 : Int32) (x5 : Int32), k30 x1 x2 x3 x4 x5 h = some r → At_ X 30 [(0, .ref 2), (1, .int x1), (2, .int x2), (3, .int x3), (4, .int x4), (5, .int x5)] [] h) (x1 : Int32) (x2 : Int32) (x3 : Int32) (x4 : Int32) (x5 : Int32) (e : F_X2_countSeams_100 k30 x1 x2 x3 x4 x5 h = some r) : At_ X 100 [(0, .ref 2), (1, .int x1), (2, .int x2), (3, .int x3), (4, .int x4), (5, .int x5)] [] h := by
  unfold F_X2_countSeams_100 at e
  refine at_iinc hX hn (by decide) rfl (v := 1) (by decide) dX2_countSeams_100 ?_
  exact at_sub [0, 1, 2, 3, 4, 5] rfl ((A_X2_countSeams_103 hn hX hR k30 hk30) _ _ _ _ _ e)
def F_X2_countSeams_70 (k30 : Int32 → Int32 → Int32 → Int32 → Int32 → Hp → Option Int32) (x1 : Int32) (x2 : Int32) (x3 : Int32) (x4 : Int32) (x5 : Int32) (h : Hp) : Option Int32 := (F_X2_isSeamBehind x5 x4 x3 h).bind fun v76 => if v76 = (0 : Int32) then (F_X2_countSeams_103 k30) x1 x2 x3 x4 x5 h else if x1 = (0 : Int32) then (F_X2_countSeams_100 k30) x1 x2 x3 x4 x5 h else (F_X2_isSeamBehind x5 x4 (x3 - (1 : Int32)) h).bind fun v94 => if v94 = (0 : Int32) then (F_X2_countSeams_103 k30) x1 x2 x3 x4 x5 h else (F_X2_countSeams_100 k30) x1 x2 x3 x4 x5 h
theorem A_X2_countSeams_70 {X : CX} {h : Hp} {r : Int32} (hn : (xc_ X).maxLocals = 6) (hX : Ok_ X RX2 cX2_countSeams 4) (hR : Rt_ X (some .int) (some (.int r)) h) (k30 : Int32 → Int32 → Int32 → Int32 → Int32 → Hp → Option Int32) (hk30 : ∀ (x1 : Int32) (x2 : Int32) (x3 : Int32) (x4 : Int32) (x5 : Int32), k30 x1 x2 x3 x4 x5 h = some r → At_ X 30 [(0, .ref 2), (1, .int x1), (2, .int x2), (3, .int x3), (4, .int x4), (5, .int x5)] [] h) (x1 : Int32) (x2 : Int32) (x3 : Int32) (x4 : Int32) (x5 : Int32) (e : F_X2_countSeams_70 k30 x1 x2 x3 x4 x5 h = some r) : At_ X 70 [(0, .ref 2), (1, .int x1), (2, .int x2), (3, .int x3), (4, .int x4), (5, .int x5)] [] h := by
  unfold F_X2_countSeams_70 at e
  refine at_aload_n hX rfl rfl dX2_countSeams_70 ?_
  refine at_iload hX rfl dX2_countSeams_71 ?_
  refine at_iload hX rfl dX2_countSeams_73 ?_
  refine at_iload_n hX rfl rfl dX2_countSeams_75 ?_
  obtain ⟨v76, e1, e⟩ := ob_some e
  refine at_callV3 hX cv_X2_124 (by decide) (c_X2_isSeamBehind _ _ _ _ _ _ e1) (Nat.le_of_ble_eq_true rfl) dX2_countSeams_76 ?_
  refine at_if_eq hX (tgt := 103) (by decide) dX2_countSeams_79 (fun c79 => ?_) (fun c79 => ?_)
  · replace e := ip_ c79 e
    exact at_sub [0, 1, 2, 3, 4, 5] rfl ((A_X2_countSeams_103 hn hX hR k30 hk30) _ _ _ _ _ e)
  · replace e := in_ c79 e
    refine at_iload_n hX rfl rfl dX2_countSeams_82 ?_
    refine at_if_eq hX (tgt := 100) (by decide) dX2_countSeams_83 (fun c83 => ?_) (fun c83 => ?_)
    · replace e := ip_ c83 e
      exact at_sub [0, 1, 2, 3, 4, 5] rfl ((A_X2_countSeams_100 hn hX hR k30 hk30) _ _ _ _ _ e)
    · replace e := in_ c83 e
      refine at_aload_n hX rfl rfl dX2_countSeams_86 ?_
      refine at_iload hX rfl dX2_countSeams_87 ?_
      refine at_iload hX rfl dX2_countSeams_89 ?_
      refine at_iload_n hX rfl rfl dX2_countSeams_91 ?_
      refine at_iconst hX (v := 1) (by decide) dX2_countSeams_92 ?_
      refine at_isub hX dX2_countSeams_93 ?_
      obtain ⟨v94, e1, e⟩ := ob_some e
      refine at_callV3 hX cv_X2_124 (by decide) (c_X2_isSeamBehind _ _ _ _ _ _ e1) (Nat.le_of_ble_eq_true rfl) dX2_countSeams_94 ?_
      refine at_if_eq hX (tgt := 103) (by decide) dX2_countSeams_97 (fun c97 => ?_) (fun c97 => ?_)
      · replace e := ip_ c97 e
        exact at_sub [0, 1, 2, 3, 4, 5] rfl ((A_X2_countSeams_103 hn hX hR k30 hk30) _ _ _ _ _ e)
      · replace e := in_ c97 e
        exact at_sub [0, 1, 2, 3, 4, 5] rfl ((A_X2_countSeams_100 hn hX hR k30 hk30) _ _ _ _ _ e)
def F_X2_countSeams_67 (k30 : Int32 → Int32 → Int32 → Int32 → Int32 → Hp → Option Int32) (x1 : Int32) (x2 : Int32) (x3 : Int32) (x4 : Int32) (x5 : Int32) (h : Hp) : Option Int32 := (F_X2_countSeams_70 k30) x1 (x2 + (1 : Int32)) x3 x4 x5 h
theorem A_X2_countSeams_67 {X : CX} {h : Hp} {r : Int32} (hn : (xc_ X).maxLocals = 6) (hX : Ok_ X RX2 cX2_countSeams 4) (hR : Rt_ X (some .int) (some (.int r)) h) (k30 : Int32 → Int32 → Int32 → Int32 → Int32 → Hp → Option Int32) (hk30 : ∀ (x1 : Int32) (x2 : Int32) (x3 : Int32) (x4 : Int32) (x5 : Int32), k30 x1 x2 x3 x4 x5 h = some r → At_ X 30 [(0, .ref 2), (1, .int x1), (2, .int x2), (3, .int x3), (4, .int x4), (5, .int x5)] [] h) (x1 : Int32) (x2 : Int32) (x3 : Int32) (x4 : Int32) (x5 : Int32) (e : F_X2_countSeams_67 k30 x1 x2 x3 x4 x5 h = some r) : At_ X 67 [(0, .ref 2), (1, .int x1), (2, .int x2), (3, .int x3), (4, .int x4), (5, .int x5)] [] h := by
  unfold F_X2_countSeams_67 at e
  refine at_iinc hX hn (by decide) rfl (v := 1) (by decide) dX2_countSeams_67 ?_
  exact at_sub [0, 1, 2, 3, 4, 5] rfl ((A_X2_countSeams_70 hn hX hR k30 hk30) _ _ _ _ _ e)
def F_X2_countSeams_30 (n : Nat) (k109 : Int32 → Int32 → Int32 → Int32 → Hp → Option Int32) (x1 : Int32) (x2 : Int32) (x3 : Int32) (x4 : Int32) (x5 : Int32) (h : Hp) : Option Int32 := match n with
  | 0 => none
  | n + 1 => if (6 : Int32) ≤ x5 then k109 x1 x2 x3 x4 h else (F_X2_isSeamRight x5 x4 x3 h).bind fun v43 => if v43 = (0 : Int32) then (F_X2_countSeams_70 (F_X2_countSeams_30 n k109)) x1 x2 x3 x4 x5 h else if x1 = (0 : Int32) then (F_X2_countSeams_67 (F_X2_countSeams_30 n k109)) x1 x2 x3 x4 x5 h else (F_X2_isSeamRight x5 x4 (x3 - (1 : Int32)) h).bind fun v61 => if v61 = (0 : Int32) then (F_X2_countSeams_70 (F_X2_countSeams_30 n k109)) x1 x2 x3 x4 x5 h else (F_X2_countSeams_67 (F_X2_countSeams_30 n k109)) x1 x2 x3 x4 x5 h
theorem A_X2_countSeams_30 {X : CX} {h : Hp} {r : Int32} (hn : (xc_ X).maxLocals = 6) (hX : Ok_ X RX2 cX2_countSeams 4) (hR : Rt_ X (some .int) (some (.int r)) h) (k109 : Int32 → Int32 → Int32 → Int32 → Hp → Option Int32) (hk109 : ∀ (x1 : Int32) (x2 : Int32) (x3 : Int32) (x4 : Int32), k109 x1 x2 x3 x4 h = some r → At_ X 109 [(0, .ref 2), (1, .int x1), (2, .int x2), (3, .int x3), (4, .int x4)] [] h) : ∀ (n : Nat) (x1 : Int32) (x2 : Int32) (x3 : Int32) (x4 : Int32) (x5 : Int32), F_X2_countSeams_30 n k109 x1 x2 x3 x4 x5 h = some r → At_ X 30 [(0, .ref 2), (1, .int x1), (2, .int x2), (3, .int x3), (4, .int x4), (5, .int x5)] [] h := by
  intro n
  induction n with
  | zero => intro x1 x2 x3 x4 x5 e; cases e
  | succ n ih =>
    intro x1 x2 x3 x4 x5 e
    rw [F_X2_countSeams_30] at e
    refine at_iload hX rfl dX2_countSeams_30 ?_
    refine at_bipush hX (v := 6) (by decide) dX2_countSeams_32 ?_
    refine at_icmp_ge hX (tgt := 109) (by decide) dX2_countSeams_34 (fun c34 => ?_) (fun c34 => ?_)
    · replace e := ip_ c34 e
      exact at_sub [0, 1, 2, 3, 4] rfl (hk109 _ _ _ _ e)
    · replace e := in_ c34 e
      refine at_aload_n hX rfl rfl dX2_countSeams_37 ?_
      refine at_iload hX rfl dX2_countSeams_38 ?_
      refine at_iload hX rfl dX2_countSeams_40 ?_
      refine at_iload_n hX rfl rfl dX2_countSeams_42 ?_
      obtain ⟨v43, e1, e⟩ := ob_some e
      refine at_callV3 hX cv_X2_121 (by decide) (c_X2_isSeamRight _ _ _ _ _ _ e1) (Nat.le_of_ble_eq_true rfl) dX2_countSeams_43 ?_
      refine at_if_eq hX (tgt := 70) (by decide) dX2_countSeams_46 (fun c46 => ?_) (fun c46 => ?_)
      · replace e := ip_ c46 e
        exact at_sub [0, 1, 2, 3, 4, 5] rfl ((A_X2_countSeams_70 hn hX hR (F_X2_countSeams_30 n k109) ih) _ _ _ _ _ e)
      · replace e := in_ c46 e
        refine at_iload_n hX rfl rfl dX2_countSeams_49 ?_
        refine at_if_eq hX (tgt := 67) (by decide) dX2_countSeams_50 (fun c50 => ?_) (fun c50 => ?_)
        · replace e := ip_ c50 e
          exact at_sub [0, 1, 2, 3, 4, 5] rfl ((A_X2_countSeams_67 hn hX hR (F_X2_countSeams_30 n k109) ih) _ _ _ _ _ e)
        · replace e := in_ c50 e
          refine at_aload_n hX rfl rfl dX2_countSeams_53 ?_
          refine at_iload hX rfl dX2_countSeams_54 ?_
          refine at_iload hX rfl dX2_countSeams_56 ?_
          refine at_iload_n hX rfl rfl dX2_countSeams_58 ?_
          refine at_iconst hX (v := 1) (by decide) dX2_countSeams_59 ?_
          refine at_isub hX dX2_countSeams_60 ?_
          obtain ⟨v61, e1, e⟩ := ob_some e
          refine at_callV3 hX cv_X2_121 (by decide) (c_X2_isSeamRight _ _ _ _ _ _ e1) (Nat.le_of_ble_eq_true rfl) dX2_countSeams_61 ?_
          refine at_if_eq hX (tgt := 70) (by decide) dX2_countSeams_64 (fun c64 => ?_) (fun c64 => ?_)
          · replace e := ip_ c64 e
            exact at_sub [0, 1, 2, 3, 4, 5] rfl ((A_X2_countSeams_70 hn hX hR (F_X2_countSeams_30 n k109) ih) _ _ _ _ _ e)
          · replace e := in_ c64 e
            exact at_sub [0, 1, 2, 3, 4, 5] rfl ((A_X2_countSeams_67 hn hX hR (F_X2_countSeams_30 n k109) ih) _ _ _ _ _ e)
def F_X2_countSeams_20 (n : Nat) (k115 : Int32 → Int32 → Int32 → Hp → Option Int32) (x1 : Int32) (x2 : Int32) (x3 : Int32) (x4 : Int32) (h : Hp) : Option Int32 := match n with
  | 0 => none
  | n + 1 => if (6 : Int32) ≤ x4 then k115 x1 x2 x3 h else (F_X2_countSeams_30 FU_ (F_X2_countSeams_109 (F_X2_countSeams_20 n k115))) x1 x2 x3 x4 (0 : Int32) h
theorem A_X2_countSeams_20 {X : CX} {h : Hp} {r : Int32} (hn : (xc_ X).maxLocals = 6) (hX : Ok_ X RX2 cX2_countSeams 4) (hR : Rt_ X (some .int) (some (.int r)) h) (k115 : Int32 → Int32 → Int32 → Hp → Option Int32) (hk115 : ∀ (x1 : Int32) (x2 : Int32) (x3 : Int32), k115 x1 x2 x3 h = some r → At_ X 115 [(0, .ref 2), (1, .int x1), (2, .int x2), (3, .int x3)] [] h) : ∀ (n : Nat) (x1 : Int32) (x2 : Int32) (x3 : Int32) (x4 : Int32), F_X2_countSeams_20 n k115 x1 x2 x3 x4 h = some r → At_ X 20 [(0, .ref 2), (1, .int x1), (2, .int x2), (3, .int x3), (4, .int x4)] [] h := by
  intro n
  induction n with
  | zero => intro x1 x2 x3 x4 e; cases e
  | succ n ih =>
    intro x1 x2 x3 x4 e
    rw [F_X2_countSeams_20] at e
    refine at_iload hX rfl dX2_countSeams_20 ?_
    refine at_bipush hX (v := 6) (by decide) dX2_countSeams_22 ?_
    refine at_icmp_ge hX (tgt := 115) (by decide) dX2_countSeams_24 (fun c24 => ?_) (fun c24 => ?_)
    · replace e := ip_ c24 e
      exact at_sub [0, 1, 2, 3] rfl (hk115 _ _ _ e)
    · replace e := in_ c24 e
      refine at_iconst hX (v := 0) (by decide) dX2_countSeams_27 ?_
      refine at_istore hX hn (by decide) dX2_countSeams_28 ?_
      exact at_sub [0, 1, 2, 3, 4, 5] rfl ((A_X2_countSeams_30 hn hX hR (F_X2_countSeams_109 (F_X2_countSeams_20 n k115)) (A_X2_countSeams_109 hn hX hR (F_X2_countSeams_20 n k115) ih) FU_) _ _ _ _ _ e)
def F_X2_countSeams_12 (n : Nat) (x1 : Int32) (x2 : Int32) (x3 : Int32) (h : Hp) : Option Int32 := match n with
  | 0 => none
  | n + 1 => if (5 : Int32) ≤ x3 then some x2 else (F_X2_countSeams_20 FU_ (F_X2_countSeams_115 (F_X2_countSeams_12 n))) x1 x2 x3 (0 : Int32) h
theorem A_X2_countSeams_12 {X : CX} {h : Hp} {r : Int32} (hn : (xc_ X).maxLocals = 6) (hX : Ok_ X RX2 cX2_countSeams 4) (hR : Rt_ X (some .int) (some (.int r)) h) : ∀ (n : Nat) (x1 : Int32) (x2 : Int32) (x3 : Int32), F_X2_countSeams_12 n x1 x2 x3 h = some r → At_ X 12 [(0, .ref 2), (1, .int x1), (2, .int x2), (3, .int x3)] [] h := by
  intro n
  induction n with
  | zero => intro x1 x2 x3 e; cases e
  | succ n ih =>
    intro x1 x2 x3 e
    rw [F_X2_countSeams_12] at e
    refine at_iload_n hX rfl rfl dX2_countSeams_12 ?_
    refine at_iconst hX (v := 5) (by decide) dX2_countSeams_13 ?_
    refine at_icmp_ge hX (tgt := 121) (by decide) dX2_countSeams_14 (fun c14 => ?_) (fun c14 => ?_)
    · replace e := ip_ c14 e
      refine at_iload_n hX rfl rfl dX2_countSeams_121 ?_
      exact at_ireturn hX hR rfl (by cases e; rfl) rfl dX2_countSeams_122
    · replace e := in_ c14 e
      refine at_iconst hX (v := 0) (by decide) dX2_countSeams_17 ?_
      refine at_istore hX hn (by decide) dX2_countSeams_18 ?_
      exact at_sub [0, 1, 2, 3, 4] rfl ((A_X2_countSeams_20 hn hX hR (F_X2_countSeams_115 (F_X2_countSeams_12 n)) (A_X2_countSeams_115 hn hX hR (F_X2_countSeams_12 n) ih) FU_) _ _ _ _ e)
def F_X2_countSeams_11 (x1 : Int32) (x2 : Int32) (s0 : Int32) (h : Hp) : Option Int32 := (F_X2_countSeams_12 FU_) x1 x2 s0 h
theorem A_X2_countSeams_11 {X : CX} {h : Hp} {r : Int32} (hn : (xc_ X).maxLocals = 6) (hX : Ok_ X RX2 cX2_countSeams 4) (hR : Rt_ X (some .int) (some (.int r)) h) (x1 : Int32) (x2 : Int32) (s0 : Int32) (e : F_X2_countSeams_11 x1 x2 s0 h = some r) : At_ X 11 [(0, .ref 2), (1, .int x1), (2, .int x2)] [.int s0] h := by
  unfold F_X2_countSeams_11 at e
  refine at_istore_n hX rfl hn (by decide) dX2_countSeams_11 ?_
  exact at_sub [0, 1, 2, 3] rfl ((A_X2_countSeams_12 hn hX hR FU_) _ _ _ e)
def F_X2_countSeams (x1 : Int32) (h : Hp) : Option Int32 := if x1 = (0 : Int32) then F_X2_countSeams_11 x1 (0 : Int32) (0 : Int32) h else F_X2_countSeams_11 x1 (0 : Int32) (1 : Int32) h
theorem c_X2_countSeams (l : Launch) (G : Gl) (x1 : Int32) (h : Hp) {r : Int32} (e : F_X2_countSeams x1 h = some r) : Does l G 4 M_X2_countSeams [.ref 2, .int x1] h (some (.int r)) h := by
  refine Does.of (by decide) rfl (Nat.le_of_ble_eq_true rfl) (fun X hl hG hn hX hR => ?_)
  unfold F_X2_countSeams at e
  subst hl; subst hG
  show At_ X 0 [(0, .ref 2), (1, .int x1)] [] h
  refine at_iconst hX (v := 0) (by decide) dX2_countSeams_0 ?_
  refine at_istore_n hX rfl hn (by decide) dX2_countSeams_1 ?_
  refine at_iload_n hX rfl rfl dX2_countSeams_2 ?_
  refine at_if_eq hX (tgt := 10) (by decide) dX2_countSeams_3 (fun c3 => ?_) (fun c3 => ?_)
  · replace e := ip_ c3 e
    refine at_iconst hX (v := 0) (by decide) dX2_countSeams_10 ?_
    exact at_sub [0, 1, 2] rfl ((A_X2_countSeams_11 hn hX hR) _ _ _ e)
  · replace e := in_ c3 e
    refine at_iconst hX (v := 1) (by decide) dX2_countSeams_6 ?_
    refine at_goto hX (tgt := 11) (by decide) dX2_countSeams_7 ?_
    exact at_sub [0, 1, 2] rfl ((A_X2_countSeams_11 hn hX hR) _ _ _ e)

def F_X2_onLine (x1 : Int32) (x2 : Int32) (x3 : Int32) (x4 : Int32) (h : Hp) : Option Int32 := if x1 = nI 0 then (F_X2_brickAt x2 x4 x3 h).bind fun v37 => some v37 else if x1 = nI 1 then (F_X2_brickAt ((5 : Int32) - x4) x2 x3 h).bind fun v48 => some v48 else if x1 = nI 2 then (F_X2_brickAt x2 ((5 : Int32) - x4) x3 h).bind fun v59 => some v59 else if x1 = nI 3 then (F_X2_brickAt x4 x2 x3 h).bind fun v68 => some v68 else (F_X2_brickAt x2 x3 ((4 : Int32) - x4) h).bind fun v79 => some v79
theorem c_X2_onLine (l : Launch) (G : Gl) (x1 : Int32) (x2 : Int32) (x3 : Int32) (x4 : Int32) (h : Hp) {r : Int32} (e : F_X2_onLine x1 x2 x3 x4 h = some r) : Does l G 3 M_X2_onLine [.ref 2, .int x1, .int x2, .int x3, .int x4] h (some (.int r)) h := by
  refine Does.of (by decide) rfl (Nat.le_of_ble_eq_true rfl) (fun X hl hG hn hX hR => ?_)
  unfold F_X2_onLine at e
  subst hl; subst hG
  show At_ X 0 [(0, .ref 2), (1, .int x1), (2, .int x2), (3, .int x3), (4, .int x4)] [] h
  refine at_iload_n hX rfl rfl dX2_onLine_0 ?_
  by_cases w0 : x1 = nI 0
  · replace e := ip_ w0 e
    refine at_tabIn hX (tgt := 32) 0 31 w0 (by decide) (by decide) rfl (by decide) dX2_onLine_1 ?_
    refine at_aload_n hX rfl rfl dX2_onLine_32 ?_
    refine at_iload_n hX rfl rfl dX2_onLine_33 ?_
    refine at_iload hX rfl dX2_onLine_34 ?_
    refine at_iload_n hX rfl rfl dX2_onLine_36 ?_
    obtain ⟨v37, e1, e⟩ := ob_some e
    refine at_callV3 hX cv_X2_114 (by decide) (c_X2_brickAt _ _ _ _ _ _ e1) (Nat.le_of_ble_eq_true rfl) dX2_onLine_37 ?_
    exact at_ireturn hX hR rfl (by cases e; rfl) rfl dX2_onLine_40
  · replace e := in_ w0 e
    by_cases w1 : x1 = nI 1
    · replace e := ip_ w1 e
      refine at_tabIn hX (tgt := 41) 1 40 w1 (by decide) (by decide) rfl (by decide) dX2_onLine_1 ?_
      refine at_aload_n hX rfl rfl dX2_onLine_41 ?_
      refine at_iconst hX (v := 5) (by decide) dX2_onLine_42 ?_
      refine at_iload hX rfl dX2_onLine_43 ?_
      refine at_isub hX dX2_onLine_45 ?_
      refine at_iload_n hX rfl rfl dX2_onLine_46 ?_
      refine at_iload_n hX rfl rfl dX2_onLine_47 ?_
      obtain ⟨v48, e1, e⟩ := ob_some e
      refine at_callV3 hX cv_X2_114 (by decide) (c_X2_brickAt _ _ _ _ _ _ e1) (Nat.le_of_ble_eq_true rfl) dX2_onLine_48 ?_
      exact at_ireturn hX hR rfl (by cases e; rfl) rfl dX2_onLine_51
    · replace e := in_ w1 e
      by_cases w2 : x1 = nI 2
      · replace e := ip_ w2 e
        refine at_tabIn hX (tgt := 52) 2 51 w2 (by decide) (by decide) rfl (by decide) dX2_onLine_1 ?_
        refine at_aload_n hX rfl rfl dX2_onLine_52 ?_
        refine at_iload_n hX rfl rfl dX2_onLine_53 ?_
        refine at_iconst hX (v := 5) (by decide) dX2_onLine_54 ?_
        refine at_iload hX rfl dX2_onLine_55 ?_
        refine at_isub hX dX2_onLine_57 ?_
        refine at_iload_n hX rfl rfl dX2_onLine_58 ?_
        obtain ⟨v59, e1, e⟩ := ob_some e
        refine at_callV3 hX cv_X2_114 (by decide) (c_X2_brickAt _ _ _ _ _ _ e1) (Nat.le_of_ble_eq_true rfl) dX2_onLine_59 ?_
        exact at_ireturn hX hR rfl (by cases e; rfl) rfl dX2_onLine_62
      · replace e := in_ w2 e
        by_cases w3 : x1 = nI 3
        · replace e := ip_ w3 e
          refine at_tabIn hX (tgt := 63) 3 62 w3 (by decide) (by decide) rfl (by decide) dX2_onLine_1 ?_
          refine at_aload_n hX rfl rfl dX2_onLine_63 ?_
          refine at_iload hX rfl dX2_onLine_64 ?_
          refine at_iload_n hX rfl rfl dX2_onLine_66 ?_
          refine at_iload_n hX rfl rfl dX2_onLine_67 ?_
          obtain ⟨v68, e1, e⟩ := ob_some e
          refine at_callV3 hX cv_X2_114 (by decide) (c_X2_brickAt _ _ _ _ _ _ e1) (Nat.le_of_ble_eq_true rfl) dX2_onLine_68 ?_
          exact at_ireturn hX hR rfl (by cases e; rfl) rfl dX2_onLine_71
        · replace e := in_ w3 e
          refine at_tabOut hX (tgt := 72) (tab_out (hi := 3) (by decide) (fun j hj => by rcases (show j = 0 ∨ j = 1 ∨ j = 2 ∨ j = 3 by omega) with rfl | rfl | rfl | rfl <;> assumption)) (by decide) dX2_onLine_1 ?_
          refine at_aload_n hX rfl rfl dX2_onLine_72 ?_
          refine at_iload_n hX rfl rfl dX2_onLine_73 ?_
          refine at_iload_n hX rfl rfl dX2_onLine_74 ?_
          refine at_iconst hX (v := 4) (by decide) dX2_onLine_75 ?_
          refine at_iload hX rfl dX2_onLine_76 ?_
          refine at_isub hX dX2_onLine_78 ?_
          obtain ⟨v79, e1, e⟩ := ob_some e
          refine at_callV3 hX cv_X2_114 (by decide) (c_X2_brickAt _ _ _ _ _ _ e1) (Nat.le_of_ble_eq_true rfl) dX2_onLine_79 ?_
          exact at_ireturn hX hR rfl (by cases e; rfl) rfl dX2_onLine_82

def F_X2_colourSeen_16 (n : Nat) (x1 : Int32) (x2 : Int32) (x3 : Int32) (x4 : Int32) (x5 : Int32) (h : Hp) : Option Int32 := match n with
  | 0 => none
  | n + 1 => if x4 ≤ x5 then some (0 : Int32) else (F_X2_onLine x1 x2 x3 x5 h).bind fun v29 => if v29 = (-1 : Int32) then (F_X2_colourSeen_16 n) x1 x2 x3 x4 (x5 + (1 : Int32)) h else (F_X2_colourOf v29 h).bind fun v43 => some v43
theorem A_X2_colourSeen_16 {X : CX} {h : Hp} {r : Int32} (hn : (xc_ X).maxLocals = 7) (hX : Ok_ X RX2 cX2_colourSeen 4) (hR : Rt_ X (some .int) (some (.int r)) h) : ∀ (n : Nat) (x1 : Int32) (x2 : Int32) (x3 : Int32) (x4 : Int32) (x5 : Int32), F_X2_colourSeen_16 n x1 x2 x3 x4 x5 h = some r → At_ X 16 [(0, .ref 2), (1, .int x1), (2, .int x2), (3, .int x3), (4, .int x4), (5, .int x5)] [] h := by
  intro n
  induction n with
  | zero => intro x1 x2 x3 x4 x5 e; cases e
  | succ n ih =>
    intro x1 x2 x3 x4 x5 e
    rw [F_X2_colourSeen_16] at e
    refine at_iload hX rfl dX2_colourSeen_16 ?_
    refine at_iload hX rfl dX2_colourSeen_18 ?_
    refine at_icmp_ge hX (tgt := 53) (by decide) dX2_colourSeen_20 (fun c20 => ?_) (fun c20 => ?_)
    · replace e := ip_ c20 e
      refine at_iconst hX (v := 0) (by decide) dX2_colourSeen_53 ?_
      exact at_ireturn hX hR rfl (by cases e; rfl) rfl dX2_colourSeen_54
    · replace e := in_ c20 e
      refine at_aload_n hX rfl rfl dX2_colourSeen_23 ?_
      refine at_iload_n hX rfl rfl dX2_colourSeen_24 ?_
      refine at_iload_n hX rfl rfl dX2_colourSeen_25 ?_
      refine at_iload_n hX rfl rfl dX2_colourSeen_26 ?_
      refine at_iload hX rfl dX2_colourSeen_27 ?_
      obtain ⟨v29, e1, e⟩ := ob_some e
      refine at_callV4 hX cv_X2_127 (by decide) (c_X2_onLine _ _ _ _ _ _ _ e1) (Nat.le_of_ble_eq_true rfl) dX2_colourSeen_29 ?_
      refine at_istore hX hn (by decide) dX2_colourSeen_32 ?_
      refine at_iload hX rfl dX2_colourSeen_34 ?_
      refine at_iconst hX (v := -1) (by decide) dX2_colourSeen_36 ?_
      refine at_icmp_eq hX (tgt := 47) (by decide) dX2_colourSeen_37 (fun c37 => ?_) (fun c37 => ?_)
      · replace e := ip_ c37 e
        refine at_iinc hX hn (by decide) rfl (v := 1) (by decide) dX2_colourSeen_47 ?_
        refine at_goto hX (tgt := 16) (by decide) dX2_colourSeen_50 ?_
        exact at_sub [0, 1, 2, 3, 4, 5] rfl (ih _ _ _ _ _ e)
      · replace e := in_ c37 e
        refine at_aload_n hX rfl rfl dX2_colourSeen_40 ?_
        refine at_iload hX rfl dX2_colourSeen_41 ?_
        obtain ⟨v43, e1, e⟩ := ob_some e
        refine at_callV1 hX cv_X2_131 (by decide) (c_X2_colourOf _ _ _ _ e1) (Nat.le_of_ble_eq_true rfl) dX2_colourSeen_43 ?_
        exact at_ireturn hX hR rfl (by cases e; rfl) rfl dX2_colourSeen_46
def F_X2_colourSeen_11 (x1 : Int32) (x2 : Int32) (x3 : Int32) (s0 : Int32) (h : Hp) : Option Int32 := (F_X2_colourSeen_16 FU_) x1 x2 x3 s0 (0 : Int32) h
theorem A_X2_colourSeen_11 {X : CX} {h : Hp} {r : Int32} (hn : (xc_ X).maxLocals = 7) (hX : Ok_ X RX2 cX2_colourSeen 4) (hR : Rt_ X (some .int) (some (.int r)) h) (x1 : Int32) (x2 : Int32) (x3 : Int32) (s0 : Int32) (e : F_X2_colourSeen_11 x1 x2 x3 s0 h = some r) : At_ X 11 [(0, .ref 2), (1, .int x1), (2, .int x2), (3, .int x3)] [.int s0] h := by
  unfold F_X2_colourSeen_11 at e
  refine at_istore hX hn (by decide) dX2_colourSeen_11 ?_
  refine at_iconst hX (v := 0) (by decide) dX2_colourSeen_13 ?_
  refine at_istore hX hn (by decide) dX2_colourSeen_14 ?_
  exact at_sub [0, 1, 2, 3, 4, 5] rfl ((A_X2_colourSeen_16 hn hX hR FU_) _ _ _ _ _ e)
def F_X2_colourSeen (x1 : Int32) (x2 : Int32) (x3 : Int32) (h : Hp) : Option Int32 := if x1 = (4 : Int32) then F_X2_colourSeen_11 x1 x2 x3 (5 : Int32) h else F_X2_colourSeen_11 x1 x2 x3 (6 : Int32) h
theorem c_X2_colourSeen (l : Launch) (G : Gl) (x1 : Int32) (x2 : Int32) (x3 : Int32) (h : Hp) {r : Int32} (e : F_X2_colourSeen x1 x2 x3 h = some r) : Does l G 4 M_X2_colourSeen [.ref 2, .int x1, .int x2, .int x3] h (some (.int r)) h := by
  refine Does.of (by decide) rfl (Nat.le_of_ble_eq_true rfl) (fun X hl hG hn hX hR => ?_)
  unfold F_X2_colourSeen at e
  subst hl; subst hG
  show At_ X 0 [(0, .ref 2), (1, .int x1), (2, .int x2), (3, .int x3)] [] h
  refine at_iload_n hX rfl rfl dX2_colourSeen_0 ?_
  refine at_iconst hX (v := 4) (by decide) dX2_colourSeen_1 ?_
  refine at_icmp_ne hX (tgt := 9) (by decide) dX2_colourSeen_2 (fun c2 => ?_) (fun c2 => ?_)
  · replace e := in_ c2 e
    refine at_bipush hX (v := 6) (by decide) dX2_colourSeen_9 ?_
    exact at_sub [0, 1, 2, 3] rfl ((A_X2_colourSeen_11 hn hX hR) _ _ _ _ e)
  · replace e := ip_ c2 e
    refine at_iconst hX (v := 5) (by decide) dX2_colourSeen_5 ?_
    refine at_goto hX (tgt := 11) (by decide) dX2_colourSeen_6 ?_
    exact at_sub [0, 1, 2, 3] rfl ((A_X2_colourSeen_11 hn hX hR) _ _ _ _ e)

def F_X3_forget (h : Hp) : Option Hp := bd_ (sI_ h 206 (0 : Int32)) fun h2 => some h2
theorem c_X3_forget (l : Launch) (G : Gl) (h : Hp) {h' : Hp} (e : F_X3_forget  h = some h') : Does l G 1 M_X3_forget [.ref 3] h none h' := by
  refine Does.of (by decide) rfl (Nat.le_of_ble_eq_true rfl) (fun X hl hG hn hX hR => ?_)
  unfold F_X3_forget at e
  subst hl; subst hG
  show At_ X 0 [(0, .ref 3)] [] h
  refine at_aload_n hX rfl rfl dX3_forget_0 ?_
  refine at_iconst hX (v := 0) (by decide) dX3_forget_1 ?_
  obtain ⟨h2, eh2, e⟩ := bd_some e
  refine pf_X3_47 hX dX3_forget_2 ?_
  refine at_th eh2 ?_
  exact at_return hX hR rfl (by cases e; rfl) dX3_forget_5

def F_X3_length (h : Hp) : Option Int32 := some (gI_ h 204)
theorem c_X3_length (l : Launch) (G : Gl) (h : Hp) {r : Int32} (e : F_X3_length  h = some r) : Does l G 1 M_X3_length [.ref 3] h (some (.int r)) h := by
  refine Does.of (by decide) rfl (Nat.le_of_ble_eq_true rfl) (fun X hl hG hn hX hR => ?_)
  unfold F_X3_length at e
  subst hl; subst hG
  show At_ X 0 [(0, .ref 3)] [] h
  refine at_aload_n hX rfl rfl dX3_length_0 ?_
  refine gf_X3_51 hX dX3_length_1 ?_
  exact at_ireturn hX hR rfl (by cases e; rfl) rfl dX3_length_4

def F_X3_newSeams (h : Hp) : Option Int32 := some (gI_ h 205)
theorem c_X3_newSeams (l : Launch) (G : Gl) (h : Hp) {r : Int32} (e : F_X3_newSeams  h = some r) : Does l G 1 M_X3_newSeams [.ref 3] h (some (.int r)) h := by
  refine Does.of (by decide) rfl (Nat.le_of_ble_eq_true rfl) (fun X hl hG hn hX hR => ?_)
  unfold F_X3_newSeams at e
  subst hl; subst hG
  show At_ X 0 [(0, .ref 3)] [] h
  refine at_aload_n hX rfl rfl dX3_newSeams_0 ?_
  refine gf_X3_54 hX dX3_newSeams_1 ?_
  exact at_ireturn hX hR rfl (by cases e; rfl) rfl dX3_newSeams_4

def F_X3_toldAt (x1 : Int32) (h : Hp) : Option Int32 := if x1 < (0 : Int32) then some (-9 : Int32) else if gI_ h 204 ≤ x1 then some (-9 : Int32) else rA_ h 30 16 x1 fun v17 => some v17
theorem c_X3_toldAt (l : Launch) (G : Gl) (x1 : Int32) (h : Hp) {r : Int32} (e : F_X3_toldAt x1 h = some r) : Does l G 1 M_X3_toldAt [.ref 3, .int x1] h (some (.int r)) h := by
  refine Does.of (by decide) rfl (Nat.le_of_ble_eq_true rfl) (fun X hl hG hn hX hR => ?_)
  unfold F_X3_toldAt at e
  subst hl; subst hG
  show At_ X 0 [(0, .ref 3), (1, .int x1)] [] h
  refine at_iload_n hX rfl rfl dX3_toldAt_0 ?_
  refine at_if_lt hX (tgt := 21) (by decide) dX3_toldAt_1 (fun c1 => ?_) (fun c1 => ?_)
  · replace e := ip_ c1 e
    refine at_bipush hX (v := -9) (by decide) dX3_toldAt_21 ?_
    exact at_ireturn hX hR rfl (by cases e; rfl) rfl dX3_toldAt_23
  · replace e := in_ c1 e
    refine at_iload_n hX rfl rfl dX3_toldAt_4 ?_
    refine at_aload_n hX rfl rfl dX3_toldAt_5 ?_
    refine gf_X3_51 hX dX3_toldAt_6 ?_
    refine at_icmp_ge hX (tgt := 21) (by decide) dX3_toldAt_9 (fun c9 => ?_) (fun c9 => ?_)
    · replace e := ip_ c9 e
      refine at_bipush hX (v := -9) (by decide) dX3_toldAt_21 ?_
      exact at_ireturn hX hR rfl (by cases e; rfl) rfl dX3_toldAt_23
    · replace e := in_ c9 e
      refine at_aload_n hX rfl rfl dX3_toldAt_12 ?_
      refine gf_X3_36 hX dX3_toldAt_13 ?_
      refine at_iload_n hX rfl rfl dX3_toldAt_16 ?_
      obtain ⟨hi, v17, ev17, e⟩ := rA_some e
      refine at_iald hX (o := 30) (by decide) rfl hi dX3_toldAt_17 ?_
      refine at_ti ev17 ?_
      refine at_goto hX (tgt := 23) (by decide) dX3_toldAt_18 ?_
      exact at_ireturn hX hR rfl (by cases e; rfl) rfl dX3_toldAt_23

def F_X3_collectCells_106 (k7 : Int32 → Hp → Option Hp) (x1 : Int32) (h : Hp) : Option Hp := k7 (x1 + (1 : Int32)) h
theorem A_X3_collectCells_106 {X : CX} {h' : Hp} (hn : (xc_ X).maxLocals = 4) (hX : Ok_ X RX3 cX3_collectCells 3) (hR : Rt_ X none none h') (k7 : Int32 → Hp → Option Hp) (hk7 : ∀ (x1 : Int32) (h : Hp), k7 x1 h = some h' → At_ X 7 [(0, .ref 3), (1, .int x1)] [] h) (x1 : Int32) (h : Hp) (e : F_X3_collectCells_106 k7 x1 h = some h') : At_ X 106 [(0, .ref 3), (1, .int x1)] [] h := by
  unfold F_X3_collectCells_106 at e
  refine at_iinc hX hn (by decide) rfl (v := 1) (by decide) dX3_collectCells_106 ?_
  refine at_goto hX (tgt := 7) (by decide) dX3_collectCells_109 ?_
  exact at_sub [0, 1] rfl (hk7 _ _ e)
def F_X3_collectCells_96 (k7 : Int32 → Hp → Option Hp) (x1 : Int32) (h : Hp) : Option Hp := bd_ (sI_ h 203 ((gI_ h 203) + (1 : Int32))) fun h103 => (F_X3_collectCells_106 k7) x1 h103
theorem A_X3_collectCells_96 {X : CX} {h' : Hp} (hn : (xc_ X).maxLocals = 4) (hX : Ok_ X RX3 cX3_collectCells 3) (hR : Rt_ X none none h') (k7 : Int32 → Hp → Option Hp) (hk7 : ∀ (x1 : Int32) (h : Hp), k7 x1 h = some h' → At_ X 7 [(0, .ref 3), (1, .int x1)] [] h) (x1 : Int32) (h : Hp) (e : F_X3_collectCells_96 k7 x1 h = some h') : At_ X 96 [(0, .ref 3), (1, .int x1)] [] h := by
  unfold F_X3_collectCells_96 at e
  refine at_aload_n hX rfl rfl dX3_collectCells_96 ?_
  refine at_dup hX rfl dX3_collectCells_97 ?_
  refine gf_X3_63 hX dX3_collectCells_98 ?_
  refine at_iconst hX (v := 1) (by decide) dX3_collectCells_101 ?_
  refine at_iadd hX dX3_collectCells_102 ?_
  obtain ⟨h103, eh103, e⟩ := bd_some e
  refine pf_X3_63 hX dX3_collectCells_103 ?_
  refine at_th eh103 ?_
  exact at_sub [0, 1] rfl ((A_X3_collectCells_106 hn hX hR k7 hk7) _ _ e)
def F_X3_collectCells_7 (n : Nat) (x1 : Int32) (h : Hp) : Option Hp := match n with
  | 0 => none
  | n + 1 => if (36 : Int32) ≤ x1 then some h else wA_ h 23 36 x1 (-1 : Int32) fun h29 => (F_X0_colourAt (ir_ x1 (6 : Int32)) (x1 / (6 : Int32)) (gI_ h29 207) h29).bind fun v40 => if v40 = gI_ h29 206 then (F_X2_brickAt (ir_ x1 (6 : Int32)) (x1 / (6 : Int32)) (gI_ h29 207) h29).bind fun v60 => if v60 = (-1 : Int32) then wA_ h29 23 36 x1 (gI_ h29 203) fun h76 => if (16 : Int32) ≤ gI_ h76 203 then (F_X3_collectCells_96 (F_X3_collectCells_7 n)) x1 h76 else wA_ h76 22 16 (gI_ h76 203) x1 fun h95 => (F_X3_collectCells_96 (F_X3_collectCells_7 n)) x1 h95 else (F_X3_collectCells_106 (F_X3_collectCells_7 n)) x1 h29 else (F_X3_collectCells_106 (F_X3_collectCells_7 n)) x1 h29
theorem A_X3_collectCells_7 {X : CX} {h' : Hp} (hn : (xc_ X).maxLocals = 4) (hX : Ok_ X RX3 cX3_collectCells 3) (hR : Rt_ X none none h') : ∀ (n : Nat) (x1 : Int32) (h : Hp), F_X3_collectCells_7 n x1 h = some h' → At_ X 7 [(0, .ref 3), (1, .int x1)] [] h := by
  intro n
  induction n with
  | zero => intro x1 h e; cases e
  | succ n ih =>
    intro x1 h e
    rw [F_X3_collectCells_7] at e
    refine at_iload_n hX rfl rfl dX3_collectCells_7 ?_
    refine at_bipush hX (v := 36) (by decide) dX3_collectCells_8 ?_
    refine at_icmp_ge hX (tgt := 112) (by decide) dX3_collectCells_10 (fun c10 => ?_) (fun c10 => ?_)
    · replace e := ip_ c10 e
      exact at_return hX hR rfl (by cases e; rfl) dX3_collectCells_112
    · replace e := in_ c10 e
      refine at_iload_n hX rfl rfl dX3_collectCells_13 ?_
      refine at_bipush hX (v := 6) (by decide) dX3_collectCells_14 ?_
      refine at_irem hX (by decide) dX3_collectCells_16 ?_
      refine at_istore_n hX rfl hn (by decide) dX3_collectCells_17 ?_
      refine at_iload_n hX rfl rfl dX3_collectCells_18 ?_
      refine at_bipush hX (v := 6) (by decide) dX3_collectCells_19 ?_
      refine at_idiv hX (by decide) dX3_collectCells_21 ?_
      refine at_istore_n hX rfl hn (by decide) dX3_collectCells_22 ?_
      refine at_aload_n hX rfl rfl dX3_collectCells_23 ?_
      refine gf_X3_15 hX dX3_collectCells_24 ?_
      refine at_iload_n hX rfl rfl dX3_collectCells_27 ?_
      refine at_iconst hX (v := -1) (by decide) dX3_collectCells_28 ?_
      obtain ⟨hi, h29, eh29, e⟩ := wA_some e
      refine at_iast hX (o := 23) (by decide) rfl hi dX3_collectCells_29 ?_
      refine at_th eh29 ?_
      refine at_aload_n hX rfl rfl dX3_collectCells_30 ?_
      refine gf_X3_39 hX dX3_collectCells_31 ?_
      refine at_iload_n hX rfl rfl dX3_collectCells_34 ?_
      refine at_iload_n hX rfl rfl dX3_collectCells_35 ?_
      refine at_aload_n hX rfl rfl dX3_collectCells_36 ?_
      refine gf_X3_57 hX dX3_collectCells_37 ?_
      obtain ⟨v40, e1, e⟩ := ob_some e
      refine at_callV3 hX cv_X3_81 (by decide) (c_X0_colourAt _ _ _ _ _ _ e1) (Nat.le_of_ble_eq_true rfl) dX3_collectCells_40 ?_
      refine at_aload_n hX rfl rfl dX3_collectCells_43 ?_
      refine gf_X3_47 hX dX3_collectCells_44 ?_
      refine at_icmp_ne hX (tgt := 106) (by decide) dX3_collectCells_47 (fun c47 => ?_) (fun c47 => ?_)
      · replace e := in_ c47 e
        exact at_sub [0, 1] rfl ((A_X3_collectCells_106 hn hX hR (F_X3_collectCells_7 n) ih) _ _ e)
      · replace e := ip_ c47 e
        refine at_aload_n hX rfl rfl dX3_collectCells_50 ?_
        refine gf_X3_43 hX dX3_collectCells_51 ?_
        refine at_iload_n hX rfl rfl dX3_collectCells_54 ?_
        refine at_iload_n hX rfl rfl dX3_collectCells_55 ?_
        refine at_aload_n hX rfl rfl dX3_collectCells_56 ?_
        refine gf_X3_57 hX dX3_collectCells_57 ?_
        obtain ⟨v60, e1, e⟩ := ob_some e
        refine at_callV3 hX cv_X3_87 (by decide) (c_X2_brickAt _ _ _ _ _ _ e1) (Nat.le_of_ble_eq_true rfl) dX3_collectCells_60 ?_
        refine at_iconst hX (v := -1) (by decide) dX3_collectCells_63 ?_
        refine at_icmp_ne hX (tgt := 106) (by decide) dX3_collectCells_64 (fun c64 => ?_) (fun c64 => ?_)
        · replace e := in_ c64 e
          exact at_sub [0, 1] rfl ((A_X3_collectCells_106 hn hX hR (F_X3_collectCells_7 n) ih) _ _ e)
        · replace e := ip_ c64 e
          refine at_aload_n hX rfl rfl dX3_collectCells_67 ?_
          refine gf_X3_15 hX dX3_collectCells_68 ?_
          refine at_iload_n hX rfl rfl dX3_collectCells_71 ?_
          refine at_aload_n hX rfl rfl dX3_collectCells_72 ?_
          refine gf_X3_63 hX dX3_collectCells_73 ?_
          obtain ⟨hi, h76, eh76, e⟩ := wA_some e
          refine at_iast hX (o := 23) (by decide) rfl hi dX3_collectCells_76 ?_
          refine at_th eh76 ?_
          refine at_aload_n hX rfl rfl dX3_collectCells_77 ?_
          refine gf_X3_63 hX dX3_collectCells_78 ?_
          refine at_bipush hX (v := 16) (by decide) dX3_collectCells_81 ?_
          refine at_icmp_ge hX (tgt := 96) (by decide) dX3_collectCells_83 (fun c83 => ?_) (fun c83 => ?_)
          · replace e := ip_ c83 e
            exact at_sub [0, 1] rfl ((A_X3_collectCells_96 hn hX hR (F_X3_collectCells_7 n) ih) _ _ e)
          · replace e := in_ c83 e
            refine at_aload_n hX rfl rfl dX3_collectCells_86 ?_
            refine gf_X3_11 hX dX3_collectCells_87 ?_
            refine at_aload_n hX rfl rfl dX3_collectCells_90 ?_
            refine gf_X3_63 hX dX3_collectCells_91 ?_
            refine at_iload_n hX rfl rfl dX3_collectCells_94 ?_
            obtain ⟨hi, h95, eh95, e⟩ := wA_some e
            refine at_iast hX (o := 22) (by decide) rfl hi dX3_collectCells_95 ?_
            refine at_th eh95 ?_
            exact at_sub [0, 1] rfl ((A_X3_collectCells_96 hn hX hR (F_X3_collectCells_7 n) ih) _ _ e)
def F_X3_collectCells (h : Hp) : Option Hp := bd_ (sI_ h 203 (0 : Int32)) fun h2 => (F_X3_collectCells_7 FU_) (0 : Int32) h2
theorem c_X3_collectCells (l : Launch) (G : Gl) (h : Hp) {h' : Hp} (e : F_X3_collectCells  h = some h') : Does l G 3 M_X3_collectCells [.ref 3] h none h' := by
  refine Does.of (by decide) rfl (Nat.le_of_ble_eq_true rfl) (fun X hl hG hn hX hR => ?_)
  unfold F_X3_collectCells at e
  subst hl; subst hG
  show At_ X 0 [(0, .ref 3)] [] h
  refine at_aload_n hX rfl rfl dX3_collectCells_0 ?_
  refine at_iconst hX (v := 0) (by decide) dX3_collectCells_1 ?_
  obtain ⟨h2, eh2, e⟩ := bd_some e
  refine pf_X3_63 hX dX3_collectCells_2 ?_
  refine at_th eh2 ?_
  refine at_iconst hX (v := 0) (by decide) dX3_collectCells_5 ?_
  refine at_istore_n hX rfl hn (by decide) dX3_collectCells_6 ?_
  exact at_sub [0, 1] rfl ((A_X3_collectCells_7 hn hX hR FU_) _ _ e)

def F_X3_weighPairs_122 (k2 : Int32 → Hp → Option Hp) (x1 : Int32) (s1 : Int32) (s2 : Int32) (s3 : Int32) (h : Hp) : Option Hp := wA_ h 25 36 s1 (s2 + s3) fun h123 => k2 (x1 + (1 : Int32)) h123
theorem A_X3_weighPairs_122 {X : CX} {h' : Hp} (hn : (xc_ X).maxLocals = 4) (hX : Ok_ X RX3 cX3_weighPairs 4) (hR : Rt_ X none none h') (k2 : Int32 → Hp → Option Hp) (hk2 : ∀ (x1 : Int32) (h : Hp), k2 x1 h = some h' → At_ X 2 [(0, .ref 3), (1, .int x1)] [] h) (x1 : Int32) (s1 : Int32) (s2 : Int32) (s3 : Int32) (h : Hp) (e : F_X3_weighPairs_122 k2 x1 s1 s2 s3 h = some h') : At_ X 122 [(0, .ref 3), (1, .int x1)] [.int s3, .int s2, .int s1, .ref 25] h := by
  unfold F_X3_weighPairs_122 at e
  refine at_iadd hX dX3_weighPairs_122 ?_
  obtain ⟨hi, h123, eh123, e⟩ := wA_some e
  refine at_iast hX (o := 25) (by decide) rfl hi dX3_weighPairs_123 ?_
  refine at_th eh123 ?_
  refine at_iinc hX hn (by decide) rfl (v := 1) (by decide) dX3_weighPairs_124 ?_
  refine at_goto hX (tgt := 2) (by decide) dX3_weighPairs_127 ?_
  exact at_sub [0, 1] rfl (hk2 _ _ e)
def F_X3_weighPairs_99 (k2 : Int32 → Hp → Option Hp) (x1 : Int32) (x2 : Int32) (x3 : Int32) (s1 : Int32) (s2 : Int32) (h : Hp) : Option Hp := (F_X2_isSeamBehind x2 x3 ((gI_ h 207) + (1 : Int32)) h).bind fun v111 => if v111 = (0 : Int32) then (F_X3_weighPairs_122 k2) x1 s1 s2 (0 : Int32) h else (F_X3_weighPairs_122 k2) x1 s1 s2 (1 : Int32) h
theorem A_X3_weighPairs_99 {X : CX} {h' : Hp} (hn : (xc_ X).maxLocals = 4) (hX : Ok_ X RX3 cX3_weighPairs 4) (hR : Rt_ X none none h') (k2 : Int32 → Hp → Option Hp) (hk2 : ∀ (x1 : Int32) (h : Hp), k2 x1 h = some h' → At_ X 2 [(0, .ref 3), (1, .int x1)] [] h) (x1 : Int32) (x2 : Int32) (x3 : Int32) (s1 : Int32) (s2 : Int32) (h : Hp) (e : F_X3_weighPairs_99 k2 x1 x2 x3 s1 s2 h = some h') : At_ X 99 [(0, .ref 3), (1, .int x1), (2, .int x2), (3, .int x3)] [.int s2, .int s1, .ref 25] h := by
  unfold F_X3_weighPairs_99 at e
  refine at_aload_n hX rfl rfl dX3_weighPairs_99 ?_
  refine gf_X3_43 hX dX3_weighPairs_100 ?_
  refine at_iload_n hX rfl rfl dX3_weighPairs_103 ?_
  refine at_iload_n hX rfl rfl dX3_weighPairs_104 ?_
  refine at_aload_n hX rfl rfl dX3_weighPairs_105 ?_
  refine gf_X3_57 hX dX3_weighPairs_106 ?_
  refine at_iconst hX (v := 1) (by decide) dX3_weighPairs_109 ?_
  refine at_iadd hX dX3_weighPairs_110 ?_
  obtain ⟨v111, e1, e⟩ := ob_some e
  refine at_callV3 hX cv_X3_96 (by decide) (c_X2_isSeamBehind _ _ _ _ _ _ e1) (Nat.le_of_ble_eq_true rfl) dX3_weighPairs_111 ?_
  refine at_if_eq hX (tgt := 121) (by decide) dX3_weighPairs_114 (fun c114 => ?_) (fun c114 => ?_)
  · replace e := ip_ c114 e
    refine at_iconst hX (v := 0) (by decide) dX3_weighPairs_121 ?_
    exact at_sub [0, 1] rfl ((A_X3_weighPairs_122 hn hX hR k2 hk2) _ _ _ _ _ e)
  · replace e := in_ c114 e
    refine at_iconst hX (v := 1) (by decide) dX3_weighPairs_117 ?_
    refine at_goto hX (tgt := 122) (by decide) dX3_weighPairs_118 ?_
    exact at_sub [0, 1] rfl ((A_X3_weighPairs_122 hn hX hR k2 hk2) _ _ _ _ _ e)
def F_X3_weighPairs_69 (k2 : Int32 → Hp → Option Hp) (x1 : Int32) (x2 : Int32) (x3 : Int32) (s1 : Int32) (s2 : Int32) (s3 : Int32) (h : Hp) : Option Hp := wA_ h 24 36 s1 (s2 + s3) fun h70 => (F_X2_isSeamBehind x2 x3 ((gI_ h70 207) - (1 : Int32)) h70).bind fun v88 => if v88 = (0 : Int32) then (F_X3_weighPairs_99 k2) x1 x2 x3 x1 (0 : Int32) h70 else (F_X3_weighPairs_99 k2) x1 x2 x3 x1 (1 : Int32) h70
theorem A_X3_weighPairs_69 {X : CX} {h' : Hp} (hn : (xc_ X).maxLocals = 4) (hX : Ok_ X RX3 cX3_weighPairs 4) (hR : Rt_ X none none h') (k2 : Int32 → Hp → Option Hp) (hk2 : ∀ (x1 : Int32) (h : Hp), k2 x1 h = some h' → At_ X 2 [(0, .ref 3), (1, .int x1)] [] h) (x1 : Int32) (x2 : Int32) (x3 : Int32) (s1 : Int32) (s2 : Int32) (s3 : Int32) (h : Hp) (e : F_X3_weighPairs_69 k2 x1 x2 x3 s1 s2 s3 h = some h') : At_ X 69 [(0, .ref 3), (1, .int x1), (2, .int x2), (3, .int x3)] [.int s3, .int s2, .int s1, .ref 24] h := by
  unfold F_X3_weighPairs_69 at e
  refine at_iadd hX dX3_weighPairs_69 ?_
  obtain ⟨hi, h70, eh70, e⟩ := wA_some e
  refine at_iast hX (o := 24) (by decide) rfl hi dX3_weighPairs_70 ?_
  refine at_th eh70 ?_
  refine at_aload_n hX rfl rfl dX3_weighPairs_71 ?_
  refine gf_X3_21 hX dX3_weighPairs_72 ?_
  refine at_iload_n hX rfl rfl dX3_weighPairs_75 ?_
  refine at_aload_n hX rfl rfl dX3_weighPairs_76 ?_
  refine gf_X3_43 hX dX3_weighPairs_77 ?_
  refine at_iload_n hX rfl rfl dX3_weighPairs_80 ?_
  refine at_iload_n hX rfl rfl dX3_weighPairs_81 ?_
  refine at_aload_n hX rfl rfl dX3_weighPairs_82 ?_
  refine gf_X3_57 hX dX3_weighPairs_83 ?_
  refine at_iconst hX (v := 1) (by decide) dX3_weighPairs_86 ?_
  refine at_isub hX dX3_weighPairs_87 ?_
  obtain ⟨v88, e1, e⟩ := ob_some e
  refine at_callV3 hX cv_X3_96 (by decide) (c_X2_isSeamBehind _ _ _ _ _ _ e1) (Nat.le_of_ble_eq_true rfl) dX3_weighPairs_88 ?_
  refine at_if_eq hX (tgt := 98) (by decide) dX3_weighPairs_91 (fun c91 => ?_) (fun c91 => ?_)
  · replace e := ip_ c91 e
    refine at_iconst hX (v := 0) (by decide) dX3_weighPairs_98 ?_
    exact at_sub [0, 1, 2, 3] rfl ((A_X3_weighPairs_99 hn hX hR k2 hk2) _ _ _ _ _ _ e)
  · replace e := in_ c91 e
    refine at_iconst hX (v := 1) (by decide) dX3_weighPairs_94 ?_
    refine at_goto hX (tgt := 99) (by decide) dX3_weighPairs_95 ?_
    exact at_sub [0, 1, 2, 3] rfl ((A_X3_weighPairs_99 hn hX hR k2 hk2) _ _ _ _ _ _ e)
def F_X3_weighPairs_46 (k2 : Int32 → Hp → Option Hp) (x1 : Int32) (x2 : Int32) (x3 : Int32) (s1 : Int32) (s2 : Int32) (h : Hp) : Option Hp := (F_X2_isSeamRight x2 x3 ((gI_ h 207) + (1 : Int32)) h).bind fun v58 => if v58 = (0 : Int32) then (F_X3_weighPairs_69 k2) x1 x2 x3 s1 s2 (0 : Int32) h else (F_X3_weighPairs_69 k2) x1 x2 x3 s1 s2 (1 : Int32) h
theorem A_X3_weighPairs_46 {X : CX} {h' : Hp} (hn : (xc_ X).maxLocals = 4) (hX : Ok_ X RX3 cX3_weighPairs 4) (hR : Rt_ X none none h') (k2 : Int32 → Hp → Option Hp) (hk2 : ∀ (x1 : Int32) (h : Hp), k2 x1 h = some h' → At_ X 2 [(0, .ref 3), (1, .int x1)] [] h) (x1 : Int32) (x2 : Int32) (x3 : Int32) (s1 : Int32) (s2 : Int32) (h : Hp) (e : F_X3_weighPairs_46 k2 x1 x2 x3 s1 s2 h = some h') : At_ X 46 [(0, .ref 3), (1, .int x1), (2, .int x2), (3, .int x3)] [.int s2, .int s1, .ref 24] h := by
  unfold F_X3_weighPairs_46 at e
  refine at_aload_n hX rfl rfl dX3_weighPairs_46 ?_
  refine gf_X3_43 hX dX3_weighPairs_47 ?_
  refine at_iload_n hX rfl rfl dX3_weighPairs_50 ?_
  refine at_iload_n hX rfl rfl dX3_weighPairs_51 ?_
  refine at_aload_n hX rfl rfl dX3_weighPairs_52 ?_
  refine gf_X3_57 hX dX3_weighPairs_53 ?_
  refine at_iconst hX (v := 1) (by decide) dX3_weighPairs_56 ?_
  refine at_iadd hX dX3_weighPairs_57 ?_
  obtain ⟨v58, e1, e⟩ := ob_some e
  refine at_callV3 hX cv_X3_92 (by decide) (c_X2_isSeamRight _ _ _ _ _ _ e1) (Nat.le_of_ble_eq_true rfl) dX3_weighPairs_58 ?_
  refine at_if_eq hX (tgt := 68) (by decide) dX3_weighPairs_61 (fun c61 => ?_) (fun c61 => ?_)
  · replace e := ip_ c61 e
    refine at_iconst hX (v := 0) (by decide) dX3_weighPairs_68 ?_
    exact at_sub [0, 1, 2, 3] rfl ((A_X3_weighPairs_69 hn hX hR k2 hk2) _ _ _ _ _ _ _ e)
  · replace e := in_ c61 e
    refine at_iconst hX (v := 1) (by decide) dX3_weighPairs_64 ?_
    refine at_goto hX (tgt := 69) (by decide) dX3_weighPairs_65 ?_
    exact at_sub [0, 1, 2, 3] rfl ((A_X3_weighPairs_69 hn hX hR k2 hk2) _ _ _ _ _ _ _ e)
def F_X3_weighPairs_2 (n : Nat) (x1 : Int32) (h : Hp) : Option Hp := match n with
  | 0 => none
  | n + 1 => if (36 : Int32) ≤ x1 then some h else (F_X2_isSeamRight (ir_ x1 (6 : Int32)) (x1 / (6 : Int32)) ((gI_ h 207) - (1 : Int32)) h).bind fun v35 => if v35 = (0 : Int32) then (F_X3_weighPairs_46 (F_X3_weighPairs_2 n)) x1 (ir_ x1 (6 : Int32)) (x1 / (6 : Int32)) x1 (0 : Int32) h else (F_X3_weighPairs_46 (F_X3_weighPairs_2 n)) x1 (ir_ x1 (6 : Int32)) (x1 / (6 : Int32)) x1 (1 : Int32) h
theorem A_X3_weighPairs_2 {X : CX} {h' : Hp} (hn : (xc_ X).maxLocals = 4) (hX : Ok_ X RX3 cX3_weighPairs 4) (hR : Rt_ X none none h') : ∀ (n : Nat) (x1 : Int32) (h : Hp), F_X3_weighPairs_2 n x1 h = some h' → At_ X 2 [(0, .ref 3), (1, .int x1)] [] h := by
  intro n
  induction n with
  | zero => intro x1 h e; cases e
  | succ n ih =>
    intro x1 h e
    rw [F_X3_weighPairs_2] at e
    refine at_iload_n hX rfl rfl dX3_weighPairs_2 ?_
    refine at_bipush hX (v := 36) (by decide) dX3_weighPairs_3 ?_
    refine at_icmp_ge hX (tgt := 130) (by decide) dX3_weighPairs_5 (fun c5 => ?_) (fun c5 => ?_)
    · replace e := ip_ c5 e
      exact at_return hX hR rfl (by cases e; rfl) dX3_weighPairs_130
    · replace e := in_ c5 e
      refine at_iload_n hX rfl rfl dX3_weighPairs_8 ?_
      refine at_bipush hX (v := 6) (by decide) dX3_weighPairs_9 ?_
      refine at_irem hX (by decide) dX3_weighPairs_11 ?_
      refine at_istore_n hX rfl hn (by decide) dX3_weighPairs_12 ?_
      refine at_iload_n hX rfl rfl dX3_weighPairs_13 ?_
      refine at_bipush hX (v := 6) (by decide) dX3_weighPairs_14 ?_
      refine at_idiv hX (by decide) dX3_weighPairs_16 ?_
      refine at_istore_n hX rfl hn (by decide) dX3_weighPairs_17 ?_
      refine at_aload_n hX rfl rfl dX3_weighPairs_18 ?_
      refine gf_X3_18 hX dX3_weighPairs_19 ?_
      refine at_iload_n hX rfl rfl dX3_weighPairs_22 ?_
      refine at_aload_n hX rfl rfl dX3_weighPairs_23 ?_
      refine gf_X3_43 hX dX3_weighPairs_24 ?_
      refine at_iload_n hX rfl rfl dX3_weighPairs_27 ?_
      refine at_iload_n hX rfl rfl dX3_weighPairs_28 ?_
      refine at_aload_n hX rfl rfl dX3_weighPairs_29 ?_
      refine gf_X3_57 hX dX3_weighPairs_30 ?_
      refine at_iconst hX (v := 1) (by decide) dX3_weighPairs_33 ?_
      refine at_isub hX dX3_weighPairs_34 ?_
      obtain ⟨v35, e1, e⟩ := ob_some e
      refine at_callV3 hX cv_X3_92 (by decide) (c_X2_isSeamRight _ _ _ _ _ _ e1) (Nat.le_of_ble_eq_true rfl) dX3_weighPairs_35 ?_
      refine at_if_eq hX (tgt := 45) (by decide) dX3_weighPairs_38 (fun c38 => ?_) (fun c38 => ?_)
      · replace e := ip_ c38 e
        refine at_iconst hX (v := 0) (by decide) dX3_weighPairs_45 ?_
        exact at_sub [0, 1, 2, 3] rfl ((A_X3_weighPairs_46 hn hX hR (F_X3_weighPairs_2 n) ih) _ _ _ _ _ _ e)
      · replace e := in_ c38 e
        refine at_iconst hX (v := 1) (by decide) dX3_weighPairs_41 ?_
        refine at_goto hX (tgt := 46) (by decide) dX3_weighPairs_42 ?_
        exact at_sub [0, 1, 2, 3] rfl ((A_X3_weighPairs_46 hn hX hR (F_X3_weighPairs_2 n) ih) _ _ _ _ _ _ e)
def F_X3_weighPairs (h : Hp) : Option Hp := (F_X3_weighPairs_2 FU_) (0 : Int32) h
theorem c_X3_weighPairs (l : Launch) (G : Gl) (h : Hp) {h' : Hp} (e : F_X3_weighPairs  h = some h') : Does l G 4 M_X3_weighPairs [.ref 3] h none h' := by
  refine Does.of (by decide) rfl (Nat.le_of_ble_eq_true rfl) (fun X hl hG hn hX hR => ?_)
  unfold F_X3_weighPairs at e
  subst hl; subst hG
  show At_ X 0 [(0, .ref 3)] [] h
  refine at_iconst hX (v := 0) (by decide) dX3_weighPairs_0 ?_
  refine at_istore_n hX rfl hn (by decide) dX3_weighPairs_1 ?_
  exact at_sub [0, 1] rfl ((A_X3_weighPairs_2 hn hX hR FU_) _ _ e)

def F_X3_numberAt (x1 : Int32) (x2 : Int32) (h : Hp) : Option Int32 := if (6 : Int32) ≤ x1 then some (-1 : Int32) else if x2 < (6 : Int32) then rA_ h 23 36 ((x2 * (6 : Int32)) + x1) fun v24 => if (16 : Int32) ≤ v24 then some (-1 : Int32) else some v24 else some (-1 : Int32)
theorem c_X3_numberAt (l : Launch) (G : Gl) (x1 : Int32) (x2 : Int32) (h : Hp) {r : Int32} (e : F_X3_numberAt x1 x2 h = some r) : Does l G 1 M_X3_numberAt [.ref 3, .int x1, .int x2] h (some (.int r)) h := by
  refine Does.of (by decide) rfl (Nat.le_of_ble_eq_true rfl) (fun X hl hG hn hX hR => ?_)
  unfold F_X3_numberAt at e
  subst hl; subst hG
  show At_ X 0 [(0, .ref 3), (1, .int x1), (2, .int x2)] [] h
  refine at_iload_n hX rfl rfl dX3_numberAt_0 ?_
  refine at_bipush hX (v := 6) (by decide) dX3_numberAt_1 ?_
  refine at_icmp_ge hX (tgt := 12) (by decide) dX3_numberAt_3 (fun c3 => ?_) (fun c3 => ?_)
  · replace e := ip_ c3 e
    refine at_iconst hX (v := -1) (by decide) dX3_numberAt_12 ?_
    exact at_ireturn hX hR rfl (by cases e; rfl) rfl dX3_numberAt_13
  · replace e := in_ c3 e
    refine at_iload_n hX rfl rfl dX3_numberAt_6 ?_
    refine at_bipush hX (v := 6) (by decide) dX3_numberAt_7 ?_
    refine at_icmp_lt hX (tgt := 14) (by decide) dX3_numberAt_9 (fun c9 => ?_) (fun c9 => ?_)
    · replace e := ip_ c9 e
      refine at_aload_n hX rfl rfl dX3_numberAt_14 ?_
      refine gf_X3_15 hX dX3_numberAt_15 ?_
      refine at_iload_n hX rfl rfl dX3_numberAt_18 ?_
      refine at_bipush hX (v := 6) (by decide) dX3_numberAt_19 ?_
      refine at_imul hX dX3_numberAt_21 ?_
      refine at_iload_n hX rfl rfl dX3_numberAt_22 ?_
      refine at_iadd hX dX3_numberAt_23 ?_
      obtain ⟨hi, v24, ev24, e⟩ := rA_some e
      refine at_iald hX (o := 23) (by decide) rfl hi dX3_numberAt_24 ?_
      refine at_ti ev24 ?_
      refine at_istore_n hX rfl hn (by decide) dX3_numberAt_25 ?_
      refine at_iload_n hX rfl rfl dX3_numberAt_26 ?_
      refine at_bipush hX (v := 16) (by decide) dX3_numberAt_27 ?_
      refine at_icmp_ge hX (tgt := 36) (by decide) dX3_numberAt_29 (fun c29 => ?_) (fun c29 => ?_)
      · replace e := ip_ c29 e
        refine at_iconst hX (v := -1) (by decide) dX3_numberAt_36 ?_
        exact at_ireturn hX hR rfl (by cases e; rfl) rfl dX3_numberAt_37
      · replace e := in_ c29 e
        refine at_iload_n hX rfl rfl dX3_numberAt_32 ?_
        refine at_goto hX (tgt := 37) (by decide) dX3_numberAt_33 ?_
        exact at_ireturn hX hR rfl (by cases e; rfl) rfl dX3_numberAt_37
    · replace e := in_ c9 e
      refine at_iconst hX (v := -1) (by decide) dX3_numberAt_12 ?_
      exact at_ireturn hX hR rfl (by cases e; rfl) rfl dX3_numberAt_13

def F_X3_findFit_186 (x5 : Int32) (x6 : Int32) (x7 : Int32) (h : Hp) : Option Hp := wA_ h 26 192 x5 x6 fun h194 => wA_ h194 27 192 x5 x7 fun h203 => some h203
theorem A_X3_findFit_186 {X : CX} {h' : Hp} (hn : (xc_ X).maxLocals = 11) (hX : Ok_ X RX3 cX3_findFit 4) (hR : Rt_ X none none h') (x5 : Int32) (x6 : Int32) (x7 : Int32) (h : Hp) (e : F_X3_findFit_186 x5 x6 x7 h = some h') : At_ X 186 [(0, .ref 3), (5, .int x5), (6, .int x6), (7, .int x7)] [] h := by
  unfold F_X3_findFit_186 at e
  refine at_aload_n hX rfl rfl dX3_findFit_186 ?_
  refine gf_X3_24 hX dX3_findFit_187 ?_
  refine at_iload hX rfl dX3_findFit_190 ?_
  refine at_iload hX rfl dX3_findFit_192 ?_
  obtain ⟨hi, h194, eh194, e⟩ := wA_some e
  refine at_iast hX (o := 26) (by decide) rfl hi dX3_findFit_194 ?_
  refine at_th eh194 ?_
  refine at_aload_n hX rfl rfl dX3_findFit_195 ?_
  refine gf_X3_27 hX dX3_findFit_196 ?_
  refine at_iload hX rfl dX3_findFit_199 ?_
  refine at_iload hX rfl dX3_findFit_201 ?_
  obtain ⟨hi, h203, eh203, e⟩ := wA_some e
  refine at_iast hX (o := 27) (by decide) rfl hi dX3_findFit_203 ?_
  refine at_th eh203 ?_
  exact at_return hX hR rfl (by cases e; rfl) dX3_findFit_204
def F_X3_findFit_180 (k54 : Int32 → Int32 → Int32 → Int32 → Int32 → Int32 → Int32 → Hp → Option Hp) (x1 : Int32) (x3 : Int32) (x4 : Int32) (x5 : Int32) (x6 : Int32) (x7 : Int32) (x8 : Int32) (h : Hp) : Option Hp := k54 x1 x3 x4 x5 x6 x7 (x8 + (1 : Int32)) h
theorem A_X3_findFit_180 {X : CX} {h' : Hp} (hn : (xc_ X).maxLocals = 11) (hX : Ok_ X RX3 cX3_findFit 4) (hR : Rt_ X none none h') (k54 : Int32 → Int32 → Int32 → Int32 → Int32 → Int32 → Int32 → Hp → Option Hp) (hk54 : ∀ (x1 : Int32) (x3 : Int32) (x4 : Int32) (x5 : Int32) (x6 : Int32) (x7 : Int32) (x8 : Int32) (h : Hp), k54 x1 x3 x4 x5 x6 x7 x8 h = some h' → At_ X 54 [(0, .ref 3), (1, .int x1), (3, .int x3), (4, .int x4), (5, .int x5), (6, .int x6), (7, .int x7), (8, .int x8)] [] h) (x1 : Int32) (x3 : Int32) (x4 : Int32) (x5 : Int32) (x6 : Int32) (x7 : Int32) (x8 : Int32) (h : Hp) (e : F_X3_findFit_180 k54 x1 x3 x4 x5 x6 x7 x8 h = some h') : At_ X 180 [(0, .ref 3), (1, .int x1), (3, .int x3), (4, .int x4), (5, .int x5), (6, .int x6), (7, .int x7), (8, .int x8)] [] h := by
  unfold F_X3_findFit_180 at e
  refine at_iinc hX hn (by decide) rfl (v := 1) (by decide) dX3_findFit_180 ?_
  refine at_goto hX (tgt := 54) (by decide) dX3_findFit_183 ?_
  exact at_sub [0, 1, 3, 4, 5, 6, 7, 8] rfl (hk54 _ _ _ _ _ _ _ _ e)
def F_X3_findFit_171 (k64 : Int32 → Int32 → Int32 → Int32 → Int32 → Int32 → Int32 → Int32 → Hp → Option Hp) (x1 : Int32) (x3 : Int32) (x4 : Int32) (x5 : Int32) (x6 : Int32) (x8 : Int32) (x9 : Int32) (s0 : Int32) (s1 : Int32) (h : Hp) : Option Hp := k64 x1 x3 x4 x5 x6 (s0 + s1) x8 (x9 + (1 : Int32)) h
theorem A_X3_findFit_171 {X : CX} {h' : Hp} (hn : (xc_ X).maxLocals = 11) (hX : Ok_ X RX3 cX3_findFit 4) (hR : Rt_ X none none h') (k64 : Int32 → Int32 → Int32 → Int32 → Int32 → Int32 → Int32 → Int32 → Hp → Option Hp) (hk64 : ∀ (x1 : Int32) (x3 : Int32) (x4 : Int32) (x5 : Int32) (x6 : Int32) (x7 : Int32) (x8 : Int32) (x9 : Int32) (h : Hp), k64 x1 x3 x4 x5 x6 x7 x8 x9 h = some h' → At_ X 64 [(0, .ref 3), (1, .int x1), (3, .int x3), (4, .int x4), (5, .int x5), (6, .int x6), (7, .int x7), (8, .int x8), (9, .int x9)] [] h) (x1 : Int32) (x3 : Int32) (x4 : Int32) (x5 : Int32) (x6 : Int32) (x8 : Int32) (x9 : Int32) (s0 : Int32) (s1 : Int32) (h : Hp) (e : F_X3_findFit_171 k64 x1 x3 x4 x5 x6 x8 x9 s0 s1 h = some h') : At_ X 171 [(0, .ref 3), (1, .int x1), (3, .int x3), (4, .int x4), (5, .int x5), (6, .int x6), (8, .int x8), (9, .int x9)] [.int s1, .int s0] h := by
  unfold F_X3_findFit_171 at e
  refine at_iadd hX dX3_findFit_171 ?_
  refine at_istore hX hn (by decide) dX3_findFit_172 ?_
  refine at_iinc hX hn (by decide) rfl (v := 1) (by decide) dX3_findFit_174 ?_
  refine at_goto hX (tgt := 64) (by decide) dX3_findFit_177 ?_
  exact at_sub [0, 1, 3, 4, 5, 6, 7, 8, 9] rfl (hk64 _ _ _ _ _ _ _ _ _ e)
def F_X3_findFit_141 (k64 : Int32 → Int32 → Int32 → Int32 → Int32 → Int32 → Int32 → Int32 → Hp → Option Hp) (x1 : Int32) (x3 : Int32) (x4 : Int32) (x5 : Int32) (x6 : Int32) (x8 : Int32) (x9 : Int32) (x10 : Int32) (s0 : Int32) (s1 : Int32) (h : Hp) : Option Hp := if x4 ≤ x8 + (1 : Int32) then (F_X3_findFit_171 k64) x1 x3 x4 x5 x6 x8 x9 (s0 + s1) (0 : Int32) h else rA_ h 22 16 x10 fun v165 => rA_ h 25 36 v165 fun v166 => (F_X3_findFit_171 k64) x1 x3 x4 x5 x6 x8 x9 (s0 + s1) v166 h
theorem A_X3_findFit_141 {X : CX} {h' : Hp} (hn : (xc_ X).maxLocals = 11) (hX : Ok_ X RX3 cX3_findFit 4) (hR : Rt_ X none none h') (k64 : Int32 → Int32 → Int32 → Int32 → Int32 → Int32 → Int32 → Int32 → Hp → Option Hp) (hk64 : ∀ (x1 : Int32) (x3 : Int32) (x4 : Int32) (x5 : Int32) (x6 : Int32) (x7 : Int32) (x8 : Int32) (x9 : Int32) (h : Hp), k64 x1 x3 x4 x5 x6 x7 x8 x9 h = some h' → At_ X 64 [(0, .ref 3), (1, .int x1), (3, .int x3), (4, .int x4), (5, .int x5), (6, .int x6), (7, .int x7), (8, .int x8), (9, .int x9)] [] h) (x1 : Int32) (x3 : Int32) (x4 : Int32) (x5 : Int32) (x6 : Int32) (x8 : Int32) (x9 : Int32) (x10 : Int32) (s0 : Int32) (s1 : Int32) (h : Hp) (e : F_X3_findFit_141 k64 x1 x3 x4 x5 x6 x8 x9 x10 s0 s1 h = some h') : At_ X 141 [(0, .ref 3), (1, .int x1), (3, .int x3), (4, .int x4), (5, .int x5), (6, .int x6), (8, .int x8), (9, .int x9), (10, .int x10)] [.int s1, .int s0] h := by
  unfold F_X3_findFit_141 at e
  refine at_iadd hX dX3_findFit_141 ?_
  refine at_istore hX hn (by decide) dX3_findFit_142 ?_
  refine at_iload hX rfl dX3_findFit_144 ?_
  refine at_iload hX rfl dX3_findFit_146 ?_
  refine at_iconst hX (v := 1) (by decide) dX3_findFit_148 ?_
  refine at_iadd hX dX3_findFit_149 ?_
  refine at_iload hX rfl dX3_findFit_150 ?_
  refine at_icmp_ge hX (tgt := 170) (by decide) dX3_findFit_152 (fun c152 => ?_) (fun c152 => ?_)
  · replace e := ip_ c152 e
    refine at_iconst hX (v := 0) (by decide) dX3_findFit_170 ?_
    exact at_sub [0, 1, 3, 4, 5, 6, 8, 9] rfl ((A_X3_findFit_171 hn hX hR k64 hk64) _ _ _ _ _ _ _ _ _ _ e)
  · replace e := in_ c152 e
    refine at_aload_n hX rfl rfl dX3_findFit_155 ?_
    refine gf_X3_21 hX dX3_findFit_156 ?_
    refine at_aload_n hX rfl rfl dX3_findFit_159 ?_
    refine gf_X3_11 hX dX3_findFit_160 ?_
    refine at_iload hX rfl dX3_findFit_163 ?_
    obtain ⟨hi, v165, ev165, e⟩ := rA_some e
    refine at_iald hX (o := 22) (by decide) rfl hi dX3_findFit_165 ?_
    refine at_ti ev165 ?_
    obtain ⟨hi, v166, ev166, e⟩ := rA_some e
    refine at_iald hX (o := 25) (by decide) rfl hi dX3_findFit_166 ?_
    refine at_ti ev166 ?_
    refine at_goto hX (tgt := 171) (by decide) dX3_findFit_167 ?_
    exact at_sub [0, 1, 3, 4, 5, 6, 8, 9] rfl ((A_X3_findFit_171 hn hX hR k64 hk64) _ _ _ _ _ _ _ _ _ _ e)
def F_X3_findFit_64 (n : Nat) (k180 : Int32 → Int32 → Int32 → Int32 → Int32 → Int32 → Int32 → Hp → Option Hp) (x1 : Int32) (x3 : Int32) (x4 : Int32) (x5 : Int32) (x6 : Int32) (x7 : Int32) (x8 : Int32) (x9 : Int32) (h : Hp) : Option Hp := match n with
  | 0 => none
  | n + 1 => if x3 ≤ x9 then k180 x1 x3 x4 x5 x6 x7 x8 h else rA_ h 22 16 x1 fun v76 => rA_ h 22 16 x1 fun v88 => (F_X3_numberAt ((ir_ v76 (6 : Int32)) + x9) ((v88 / (6 : Int32)) + x8) h).bind fun v95 => if (0 : Int32) ≤ v95 then bd_ (x6 ||| (is_ (1 : Int32) v95)) fun y113 => if x3 ≤ x9 + (1 : Int32) then (F_X3_findFit_141 (F_X3_findFit_64 n k180)) x1 x3 x4 x5 y113 x8 x9 v95 x7 (0 : Int32) h else rA_ h 22 16 v95 fun v135 => rA_ h 24 36 v135 fun v136 => (F_X3_findFit_141 (F_X3_findFit_64 n k180)) x1 x3 x4 x5 y113 x8 x9 v95 x7 v136 h else some h
theorem A_X3_findFit_64 {X : CX} {h' : Hp} (hn : (xc_ X).maxLocals = 11) (hX : Ok_ X RX3 cX3_findFit 4) (hR : Rt_ X none none h') (k180 : Int32 → Int32 → Int32 → Int32 → Int32 → Int32 → Int32 → Hp → Option Hp) (hk180 : ∀ (x1 : Int32) (x3 : Int32) (x4 : Int32) (x5 : Int32) (x6 : Int32) (x7 : Int32) (x8 : Int32) (h : Hp), k180 x1 x3 x4 x5 x6 x7 x8 h = some h' → At_ X 180 [(0, .ref 3), (1, .int x1), (3, .int x3), (4, .int x4), (5, .int x5), (6, .int x6), (7, .int x7), (8, .int x8)] [] h) : ∀ (n : Nat) (x1 : Int32) (x3 : Int32) (x4 : Int32) (x5 : Int32) (x6 : Int32) (x7 : Int32) (x8 : Int32) (x9 : Int32) (h : Hp), F_X3_findFit_64 n k180 x1 x3 x4 x5 x6 x7 x8 x9 h = some h' → At_ X 64 [(0, .ref 3), (1, .int x1), (3, .int x3), (4, .int x4), (5, .int x5), (6, .int x6), (7, .int x7), (8, .int x8), (9, .int x9)] [] h := by
  intro n
  induction n with
  | zero => intro x1 x3 x4 x5 x6 x7 x8 x9 h e; cases e
  | succ n ih =>
    intro x1 x3 x4 x5 x6 x7 x8 x9 h e
    rw [F_X3_findFit_64] at e
    refine at_iload hX rfl dX3_findFit_64 ?_
    refine at_iload_n hX rfl rfl dX3_findFit_66 ?_
    refine at_icmp_ge hX (tgt := 180) (by decide) dX3_findFit_67 (fun c67 => ?_) (fun c67 => ?_)
    · replace e := ip_ c67 e
      exact at_sub [0, 1, 3, 4, 5, 6, 7, 8] rfl (hk180 _ _ _ _ _ _ _ _ e)
    · replace e := in_ c67 e
      refine at_aload_n hX rfl rfl dX3_findFit_70 ?_
      refine at_aload_n hX rfl rfl dX3_findFit_71 ?_
      refine gf_X3_11 hX dX3_findFit_72 ?_
      refine at_iload_n hX rfl rfl dX3_findFit_75 ?_
      obtain ⟨hi, v76, ev76, e⟩ := rA_some e
      refine at_iald hX (o := 22) (by decide) rfl hi dX3_findFit_76 ?_
      refine at_ti ev76 ?_
      refine at_bipush hX (v := 6) (by decide) dX3_findFit_77 ?_
      refine at_irem hX (by decide) dX3_findFit_79 ?_
      refine at_iload hX rfl dX3_findFit_80 ?_
      refine at_iadd hX dX3_findFit_82 ?_
      refine at_aload_n hX rfl rfl dX3_findFit_83 ?_
      refine gf_X3_11 hX dX3_findFit_84 ?_
      refine at_iload_n hX rfl rfl dX3_findFit_87 ?_
      obtain ⟨hi, v88, ev88, e⟩ := rA_some e
      refine at_iald hX (o := 22) (by decide) rfl hi dX3_findFit_88 ?_
      refine at_ti ev88 ?_
      refine at_bipush hX (v := 6) (by decide) dX3_findFit_89 ?_
      refine at_idiv hX (by decide) dX3_findFit_91 ?_
      refine at_iload hX rfl dX3_findFit_92 ?_
      refine at_iadd hX dX3_findFit_94 ?_
      obtain ⟨v95, e1, e⟩ := ob_some e
      refine at_callV2 hX cv_X3_116 (by decide) (c_X3_numberAt _ _ _ _ _ e1) (Nat.le_of_ble_eq_true rfl) dX3_findFit_95 ?_
      refine at_istore hX hn (by decide) dX3_findFit_98 ?_
      refine at_iload hX rfl dX3_findFit_100 ?_
      refine at_if_ge hX (tgt := 106) (by decide) dX3_findFit_102 (fun c102 => ?_) (fun c102 => ?_)
      · replace e := ip_ c102 e
        refine at_iload hX rfl dX3_findFit_106 ?_
        refine at_iconst hX (v := 1) (by decide) dX3_findFit_108 ?_
        refine at_iload hX rfl dX3_findFit_109 ?_
        refine at_ishl hX dX3_findFit_111 ?_
        refine at_ior hX dX3_findFit_112 ?_
        obtain ⟨y113, ey113, e⟩ := bd_some e
        refine at_ti ey113 ?_
        refine at_istore hX hn (by decide) dX3_findFit_113 ?_
        refine at_iload hX rfl dX3_findFit_115 ?_
        refine at_iload hX rfl dX3_findFit_117 ?_
        refine at_iconst hX (v := 1) (by decide) dX3_findFit_119 ?_
        refine at_iadd hX dX3_findFit_120 ?_
        refine at_iload_n hX rfl rfl dX3_findFit_121 ?_
        refine at_icmp_ge hX (tgt := 140) (by decide) dX3_findFit_122 (fun c122 => ?_) (fun c122 => ?_)
        · replace e := ip_ c122 e
          refine at_iconst hX (v := 0) (by decide) dX3_findFit_140 ?_
          exact at_sub [0, 1, 3, 4, 5, 6, 8, 9, 10] rfl ((A_X3_findFit_141 hn hX hR (F_X3_findFit_64 n k180) ih) _ _ _ _ _ _ _ _ _ _ _ e)
        · replace e := in_ c122 e
          refine at_aload_n hX rfl rfl dX3_findFit_125 ?_
          refine gf_X3_18 hX dX3_findFit_126 ?_
          refine at_aload_n hX rfl rfl dX3_findFit_129 ?_
          refine gf_X3_11 hX dX3_findFit_130 ?_
          refine at_iload hX rfl dX3_findFit_133 ?_
          obtain ⟨hi, v135, ev135, e⟩ := rA_some e
          refine at_iald hX (o := 22) (by decide) rfl hi dX3_findFit_135 ?_
          refine at_ti ev135 ?_
          obtain ⟨hi, v136, ev136, e⟩ := rA_some e
          refine at_iald hX (o := 24) (by decide) rfl hi dX3_findFit_136 ?_
          refine at_ti ev136 ?_
          refine at_goto hX (tgt := 141) (by decide) dX3_findFit_137 ?_
          exact at_sub [0, 1, 3, 4, 5, 6, 8, 9, 10] rfl ((A_X3_findFit_141 hn hX hR (F_X3_findFit_64 n k180) ih) _ _ _ _ _ _ _ _ _ _ _ e)
      · replace e := in_ c102 e
        exact at_return hX hR rfl (by cases e; rfl) dX3_findFit_105
def F_X3_findFit_54 (n : Nat) (k186 : Int32 → Int32 → Int32 → Hp → Option Hp) (x1 : Int32) (x3 : Int32) (x4 : Int32) (x5 : Int32) (x6 : Int32) (x7 : Int32) (x8 : Int32) (h : Hp) : Option Hp := match n with
  | 0 => none
  | n + 1 => if x4 ≤ x8 then k186 x5 x6 x7 h else (F_X3_findFit_64 FU_ (F_X3_findFit_180 (F_X3_findFit_54 n k186))) x1 x3 x4 x5 x6 x7 x8 (0 : Int32) h
theorem A_X3_findFit_54 {X : CX} {h' : Hp} (hn : (xc_ X).maxLocals = 11) (hX : Ok_ X RX3 cX3_findFit 4) (hR : Rt_ X none none h') (k186 : Int32 → Int32 → Int32 → Hp → Option Hp) (hk186 : ∀ (x5 : Int32) (x6 : Int32) (x7 : Int32) (h : Hp), k186 x5 x6 x7 h = some h' → At_ X 186 [(0, .ref 3), (5, .int x5), (6, .int x6), (7, .int x7)] [] h) : ∀ (n : Nat) (x1 : Int32) (x3 : Int32) (x4 : Int32) (x5 : Int32) (x6 : Int32) (x7 : Int32) (x8 : Int32) (h : Hp), F_X3_findFit_54 n k186 x1 x3 x4 x5 x6 x7 x8 h = some h' → At_ X 54 [(0, .ref 3), (1, .int x1), (3, .int x3), (4, .int x4), (5, .int x5), (6, .int x6), (7, .int x7), (8, .int x8)] [] h := by
  intro n
  induction n with
  | zero => intro x1 x3 x4 x5 x6 x7 x8 h e; cases e
  | succ n ih =>
    intro x1 x3 x4 x5 x6 x7 x8 h e
    rw [F_X3_findFit_54] at e
    refine at_iload hX rfl dX3_findFit_54 ?_
    refine at_iload hX rfl dX3_findFit_56 ?_
    refine at_icmp_ge hX (tgt := 186) (by decide) dX3_findFit_58 (fun c58 => ?_) (fun c58 => ?_)
    · replace e := ip_ c58 e
      exact at_sub [0, 5, 6, 7] rfl (hk186 _ _ _ _ e)
    · replace e := in_ c58 e
      refine at_iconst hX (v := 0) (by decide) dX3_findFit_61 ?_
      refine at_istore hX hn (by decide) dX3_findFit_62 ?_
      exact at_sub [0, 1, 3, 4, 5, 6, 7, 8, 9] rfl ((A_X3_findFit_64 hn hX hR (F_X3_findFit_180 (F_X3_findFit_54 n k186)) (A_X3_findFit_180 hn hX hR (F_X3_findFit_54 n k186) ih) FU_) _ _ _ _ _ _ _ _ _ e)
def F_X3_findFit (x1 : Int32) (x2 : Int32) (h : Hp) : Option Hp := rS_ [6, 6, 5, 5, 4, 3, 3, 2, 2, 1, 1, 0] x2 fun v4 => rS_ [0, 1, 0, 1, 0, 0, 1, 0, 1, 0, 1, 0] x2 fun v9 => (F_X2_alongX v4 v9 h).bind fun v10 => rS_ [6, 6, 5, 5, 4, 3, 3, 2, 2, 1, 1, 0] x2 fun v18 => rS_ [0, 1, 0, 1, 0, 0, 1, 0, 1, 0, 1, 0] x2 fun v23 => (F_X2_alongY v18 v23 h).bind fun v24 => wA_ h 26 192 ((x1 * (12 : Int32)) + x2) (0 : Int32) fun h44 => (F_X3_findFit_54 FU_ F_X3_findFit_186) x1 v10 v24 ((x1 * (12 : Int32)) + x2) (0 : Int32) (0 : Int32) (0 : Int32) h44
theorem c_X3_findFit (l : Launch) (G : Gl) (x1 : Int32) (x2 : Int32) (h : Hp) {h' : Hp} (e : F_X3_findFit x1 x2 h = some h') : Does l G 4 M_X3_findFit [.ref 3, .int x1, .int x2] h none h' := by
  refine Does.of (by decide) rfl (Nat.le_of_ble_eq_true rfl) (fun X hl hG hn hX hR => ?_)
  unfold F_X3_findFit at e
  subst hl; subst hG
  show At_ X 0 [(0, .ref 3), (1, .int x1), (2, .int x2)] [] h
  refine gs_X3_103 hX dX3_findFit_0 ?_
  refine at_iload_n hX rfl rfl dX3_findFit_3 ?_
  obtain ⟨hi, v4, ev4, e⟩ := rS_some e
  refine at_sald hX 2 rfl rfl hi dX3_findFit_4 ?_
  refine at_ti ev4 ?_
  refine gs_X3_106 hX dX3_findFit_5 ?_
  refine at_iload_n hX rfl rfl dX3_findFit_8 ?_
  obtain ⟨hi, v9, ev9, e⟩ := rS_some e
  refine at_sald hX 3 rfl rfl hi dX3_findFit_9 ?_
  refine at_ti ev9 ?_
  obtain ⟨v10, e1, e⟩ := ob_some e
  refine at_callS2 hX cv_X3_109 (by decide) (c_X2_alongX _ _ _ _ _ e1) (Nat.le_of_ble_eq_true rfl) dX3_findFit_10 ?_
  refine at_istore_n hX rfl hn (by decide) dX3_findFit_13 ?_
  refine gs_X3_103 hX dX3_findFit_14 ?_
  refine at_iload_n hX rfl rfl dX3_findFit_17 ?_
  obtain ⟨hi, v18, ev18, e⟩ := rS_some e
  refine at_sald hX 2 rfl rfl hi dX3_findFit_18 ?_
  refine at_ti ev18 ?_
  refine gs_X3_106 hX dX3_findFit_19 ?_
  refine at_iload_n hX rfl rfl dX3_findFit_22 ?_
  obtain ⟨hi, v23, ev23, e⟩ := rS_some e
  refine at_sald hX 3 rfl rfl hi dX3_findFit_23 ?_
  refine at_ti ev23 ?_
  obtain ⟨v24, e1, e⟩ := ob_some e
  refine at_callS2 hX cv_X3_113 (by decide) (c_X2_alongY _ _ _ _ _ e1) (Nat.le_of_ble_eq_true rfl) dX3_findFit_24 ?_
  refine at_istore hX hn (by decide) dX3_findFit_27 ?_
  refine at_iload_n hX rfl rfl dX3_findFit_29 ?_
  refine at_bipush hX (v := 12) (by decide) dX3_findFit_30 ?_
  refine at_imul hX dX3_findFit_32 ?_
  refine at_iload_n hX rfl rfl dX3_findFit_33 ?_
  refine at_iadd hX dX3_findFit_34 ?_
  refine at_istore hX hn (by decide) dX3_findFit_35 ?_
  refine at_aload_n hX rfl rfl dX3_findFit_37 ?_
  refine gf_X3_24 hX dX3_findFit_38 ?_
  refine at_iload hX rfl dX3_findFit_41 ?_
  refine at_iconst hX (v := 0) (by decide) dX3_findFit_43 ?_
  obtain ⟨hi, h44, eh44, e⟩ := wA_some e
  refine at_iast hX (o := 26) (by decide) rfl hi dX3_findFit_44 ?_
  refine at_th eh44 ?_
  refine at_iconst hX (v := 0) (by decide) dX3_findFit_45 ?_
  refine at_istore hX hn (by decide) dX3_findFit_46 ?_
  refine at_iconst hX (v := 0) (by decide) dX3_findFit_48 ?_
  refine at_istore hX hn (by decide) dX3_findFit_49 ?_
  refine at_iconst hX (v := 0) (by decide) dX3_findFit_51 ?_
  refine at_istore hX hn (by decide) dX3_findFit_52 ?_
  exact at_sub [0, 1, 3, 4, 5, 6, 7, 8] rfl ((A_X3_findFit_54 hn hX hR F_X3_findFit_186 (A_X3_findFit_186 hn hX hR) FU_) _ _ _ _ _ _ _ _ e)

def F_X3_findFits_36 (k2 : Int32 → Hp → Option Hp) (x1 : Int32) (h : Hp) : Option Hp := k2 (x1 + (1 : Int32)) h
theorem A_X3_findFits_36 {X : CX} {h' : Hp} (hn : (xc_ X).maxLocals = 3) (hX : Ok_ X RX3 cX3_findFits 5) (hR : Rt_ X none none h') (k2 : Int32 → Hp → Option Hp) (hk2 : ∀ (x1 : Int32) (h : Hp), k2 x1 h = some h' → At_ X 2 [(0, .ref 3), (1, .int x1)] [] h) (x1 : Int32) (h : Hp) (e : F_X3_findFits_36 k2 x1 h = some h') : At_ X 36 [(0, .ref 3), (1, .int x1)] [] h := by
  unfold F_X3_findFits_36 at e
  refine at_iinc hX hn (by decide) rfl (v := 1) (by decide) dX3_findFits_36 ?_
  refine at_goto hX (tgt := 2) (by decide) dX3_findFits_39 ?_
  exact at_sub [0, 1] rfl (hk2 _ _ e)
def F_X3_findFits_18 (n : Nat) (k36 : Int32 → Hp → Option Hp) (x1 : Int32) (x2 : Int32) (h : Hp) : Option Hp := match n with
  | 0 => none
  | n + 1 => if (12 : Int32) ≤ x2 then k36 x1 h else (F_X3_findFit x1 x2 h).bind fun h27 => (F_X3_findFits_18 n k36) x1 (x2 + (1 : Int32)) h27
theorem A_X3_findFits_18 {X : CX} {h' : Hp} (hn : (xc_ X).maxLocals = 3) (hX : Ok_ X RX3 cX3_findFits 5) (hR : Rt_ X none none h') (k36 : Int32 → Hp → Option Hp) (hk36 : ∀ (x1 : Int32) (h : Hp), k36 x1 h = some h' → At_ X 36 [(0, .ref 3), (1, .int x1)] [] h) : ∀ (n : Nat) (x1 : Int32) (x2 : Int32) (h : Hp), F_X3_findFits_18 n k36 x1 x2 h = some h' → At_ X 18 [(0, .ref 3), (1, .int x1), (2, .int x2)] [] h := by
  intro n
  induction n with
  | zero => intro x1 x2 h e; cases e
  | succ n ih =>
    intro x1 x2 h e
    rw [F_X3_findFits_18] at e
    refine at_iload_n hX rfl rfl dX3_findFits_18 ?_
    refine at_bipush hX (v := 12) (by decide) dX3_findFits_19 ?_
    refine at_icmp_ge hX (tgt := 36) (by decide) dX3_findFits_21 (fun c21 => ?_) (fun c21 => ?_)
    · replace e := ip_ c21 e
      exact at_sub [0, 1] rfl (hk36 _ _ e)
    · replace e := in_ c21 e
      refine at_aload_n hX rfl rfl dX3_findFits_24 ?_
      refine at_iload_n hX rfl rfl dX3_findFits_25 ?_
      refine at_iload_n hX rfl rfl dX3_findFits_26 ?_
      obtain ⟨h27, e1, e⟩ := ob_some e
      refine at_callV2 hX cv_X3_99 (by decide) (c_X3_findFit _ _ _ _ _ e1) (Nat.le_of_ble_eq_true rfl) dX3_findFits_27 ?_
      refine at_iinc hX hn (by decide) rfl (v := 1) (by decide) dX3_findFits_30 ?_
      refine at_goto hX (tgt := 18) (by decide) dX3_findFits_33 ?_
      exact at_sub [0, 1, 2] rfl (ih _ _ _ e)
def F_X3_findFits_2 (n : Nat) (x1 : Int32) (h : Hp) : Option Hp := match n with
  | 0 => none
  | n + 1 => if gI_ h 203 ≤ x1 then some h else if (16 : Int32) ≤ x1 then some h else (F_X3_findFits_18 FU_ (F_X3_findFits_36 (F_X3_findFits_2 n))) x1 (0 : Int32) h
theorem A_X3_findFits_2 {X : CX} {h' : Hp} (hn : (xc_ X).maxLocals = 3) (hX : Ok_ X RX3 cX3_findFits 5) (hR : Rt_ X none none h') : ∀ (n : Nat) (x1 : Int32) (h : Hp), F_X3_findFits_2 n x1 h = some h' → At_ X 2 [(0, .ref 3), (1, .int x1)] [] h := by
  intro n
  induction n with
  | zero => intro x1 h e; cases e
  | succ n ih =>
    intro x1 h e
    rw [F_X3_findFits_2] at e
    refine at_iload_n hX rfl rfl dX3_findFits_2 ?_
    refine at_aload_n hX rfl rfl dX3_findFits_3 ?_
    refine gf_X3_63 hX dX3_findFits_4 ?_
    refine at_icmp_ge hX (tgt := 42) (by decide) dX3_findFits_7 (fun c7 => ?_) (fun c7 => ?_)
    · replace e := ip_ c7 e
      exact at_return hX hR rfl (by cases e; rfl) dX3_findFits_42
    · replace e := in_ c7 e
      refine at_iload_n hX rfl rfl dX3_findFits_10 ?_
      refine at_bipush hX (v := 16) (by decide) dX3_findFits_11 ?_
      refine at_icmp_ge hX (tgt := 42) (by decide) dX3_findFits_13 (fun c13 => ?_) (fun c13 => ?_)
      · replace e := ip_ c13 e
        exact at_return hX hR rfl (by cases e; rfl) dX3_findFits_42
      · replace e := in_ c13 e
        refine at_iconst hX (v := 0) (by decide) dX3_findFits_16 ?_
        refine at_istore_n hX rfl hn (by decide) dX3_findFits_17 ?_
        exact at_sub [0, 1, 2] rfl ((A_X3_findFits_18 hn hX hR (F_X3_findFits_36 (F_X3_findFits_2 n)) (A_X3_findFits_36 hn hX hR (F_X3_findFits_2 n) ih) FU_) _ _ _ e)
def F_X3_findFits (h : Hp) : Option Hp := (F_X3_findFits_2 FU_) (0 : Int32) h
theorem c_X3_findFits (l : Launch) (G : Gl) (h : Hp) {h' : Hp} (e : F_X3_findFits  h = some h') : Does l G 5 M_X3_findFits [.ref 3] h none h' := by
  refine Does.of (by decide) rfl (Nat.le_of_ble_eq_true rfl) (fun X hl hG hn hX hR => ?_)
  unfold F_X3_findFits at e
  subst hl; subst hG
  show At_ X 0 [(0, .ref 3)] [] h
  refine at_iconst hX (v := 0) (by decide) dX3_findFits_0 ?_
  refine at_istore_n hX rfl hn (by decide) dX3_findFits_1 ?_
  exact at_sub [0, 1] rfl ((A_X3_findFits_2 hn hX hR FU_) _ _ e)

def F_J7_fill_53178_28_5 (n : Nat) (x1 : Int32) (x2 : Int32) (x3 : Int32) (h : Hp) : Option Hp := match n with
  | 0 => none
  | n + 1 => if x3 ≤ x2 then some h else wA_ h 28 2048 x2 x1 fun h13 => (F_J7_fill_53178_28_5 n) x1 (x2 + (1 : Int32)) x3 h13
theorem A_J7_fill_53178_28_5 {X : CX} {h' : Hp} (hn : (xc_ X).maxLocals = 4) (hX : Ok_ X RJ7 cJ7_fill_53178 1) (hR : Rt_ X none none h') : ∀ (n : Nat) (x1 : Int32) (x2 : Int32) (x3 : Int32) (h : Hp), F_J7_fill_53178_28_5 n x1 x2 x3 h = some h' → At_ X 5 [(0, .ref 28), (1, .int x1), (2, .int x2), (3, .int x3)] [] h := by
  intro n
  induction n with
  | zero => intro x1 x2 x3 h e; cases e
  | succ n ih =>
    intro x1 x2 x3 h e
    rw [F_J7_fill_53178_28_5] at e
    refine at_iload_n hX rfl rfl dJ7_fill_53178_5 ?_
    refine at_iload_n hX rfl rfl dJ7_fill_53178_6 ?_
    refine at_icmp_ge hX (tgt := 20) (by decide) dJ7_fill_53178_7 (fun c7 => ?_) (fun c7 => ?_)
    · replace e := ip_ c7 e
      exact at_return hX hR rfl (by cases e; rfl) dJ7_fill_53178_20
    · replace e := in_ c7 e
      refine at_aload_n hX rfl rfl dJ7_fill_53178_10 ?_
      refine at_iload_n hX rfl rfl dJ7_fill_53178_11 ?_
      refine at_iload_n hX rfl rfl dJ7_fill_53178_12 ?_
      obtain ⟨hi, h13, eh13, e⟩ := wA_some e
      refine at_iast hX (o := 28) (by decide) rfl hi dJ7_fill_53178_13 ?_
      refine at_th eh13 ?_
      refine at_iinc hX hn (by decide) rfl (v := 1) (by decide) dJ7_fill_53178_14 ?_
      refine at_goto hX (tgt := 5) (by decide) dJ7_fill_53178_17 ?_
      exact at_sub [0, 1, 2, 3] rfl (ih _ _ _ _ e)
def F_J7_fill_53178_28 (x1 : Int32) (h : Hp) : Option Hp := (F_J7_fill_53178_28_5 FU_) x1 (0 : Int32) (2048 : Int32) h
theorem c_J7_fill_53178_28 (l : Launch) (G : Gl) (x1 : Int32) (h : Hp) {h' : Hp} (e : F_J7_fill_53178_28 x1 h = some h') : Does l G 1 M_J7_fill_53178 [.ref 28, .int x1] h none h' := by
  refine Does.of (by decide) rfl (Nat.le_of_ble_eq_true rfl) (fun X hl hG hn hX hR => ?_)
  unfold F_J7_fill_53178_28 at e
  subst hl; subst hG
  show At_ X 0 [(0, .ref 28), (1, .int x1)] [] h
  refine at_iconst hX (v := 0) (by decide) dJ7_fill_53178_0 ?_
  refine at_istore_n hX rfl hn (by decide) dJ7_fill_53178_1 ?_
  refine at_aload_n hX rfl rfl dJ7_fill_53178_2 ?_
  refine at_alen hX (o := 28) (v := 2048) (by decide) rfl (by decide) dJ7_fill_53178_3 ?_
  refine at_istore_n hX rfl hn (by decide) dJ7_fill_53178_4 ?_
  exact at_sub [0, 1, 2, 3] rfl ((A_J7_fill_53178_28_5 hn hX hR FU_) _ _ _ _ e)

def F_J7_fill_53178_31_5 (n : Nat) (x1 : Int32) (x2 : Int32) (x3 : Int32) (h : Hp) : Option Hp := match n with
  | 0 => none
  | n + 1 => if x3 ≤ x2 then some h else wA_ h 31 7 x2 x1 fun h13 => (F_J7_fill_53178_31_5 n) x1 (x2 + (1 : Int32)) x3 h13
theorem A_J7_fill_53178_31_5 {X : CX} {h' : Hp} (hn : (xc_ X).maxLocals = 4) (hX : Ok_ X RJ7 cJ7_fill_53178 1) (hR : Rt_ X none none h') : ∀ (n : Nat) (x1 : Int32) (x2 : Int32) (x3 : Int32) (h : Hp), F_J7_fill_53178_31_5 n x1 x2 x3 h = some h' → At_ X 5 [(0, .ref 31), (1, .int x1), (2, .int x2), (3, .int x3)] [] h := by
  intro n
  induction n with
  | zero => intro x1 x2 x3 h e; cases e
  | succ n ih =>
    intro x1 x2 x3 h e
    rw [F_J7_fill_53178_31_5] at e
    refine at_iload_n hX rfl rfl dJ7_fill_53178_5 ?_
    refine at_iload_n hX rfl rfl dJ7_fill_53178_6 ?_
    refine at_icmp_ge hX (tgt := 20) (by decide) dJ7_fill_53178_7 (fun c7 => ?_) (fun c7 => ?_)
    · replace e := ip_ c7 e
      exact at_return hX hR rfl (by cases e; rfl) dJ7_fill_53178_20
    · replace e := in_ c7 e
      refine at_aload_n hX rfl rfl dJ7_fill_53178_10 ?_
      refine at_iload_n hX rfl rfl dJ7_fill_53178_11 ?_
      refine at_iload_n hX rfl rfl dJ7_fill_53178_12 ?_
      obtain ⟨hi, h13, eh13, e⟩ := wA_some e
      refine at_iast hX (o := 31) (by decide) rfl hi dJ7_fill_53178_13 ?_
      refine at_th eh13 ?_
      refine at_iinc hX hn (by decide) rfl (v := 1) (by decide) dJ7_fill_53178_14 ?_
      refine at_goto hX (tgt := 5) (by decide) dJ7_fill_53178_17 ?_
      exact at_sub [0, 1, 2, 3] rfl (ih _ _ _ _ e)
def F_J7_fill_53178_31 (x1 : Int32) (h : Hp) : Option Hp := (F_J7_fill_53178_31_5 FU_) x1 (0 : Int32) (7 : Int32) h
theorem c_J7_fill_53178_31 (l : Launch) (G : Gl) (x1 : Int32) (h : Hp) {h' : Hp} (e : F_J7_fill_53178_31 x1 h = some h') : Does l G 1 M_J7_fill_53178 [.ref 31, .int x1] h none h' := by
  refine Does.of (by decide) rfl (Nat.le_of_ble_eq_true rfl) (fun X hl hG hn hX hR => ?_)
  unfold F_J7_fill_53178_31 at e
  subst hl; subst hG
  show At_ X 0 [(0, .ref 31), (1, .int x1)] [] h
  refine at_iconst hX (v := 0) (by decide) dJ7_fill_53178_0 ?_
  refine at_istore_n hX rfl hn (by decide) dJ7_fill_53178_1 ?_
  refine at_aload_n hX rfl rfl dJ7_fill_53178_2 ?_
  refine at_alen hX (o := 31) (v := 7) (by decide) rfl (by decide) dJ7_fill_53178_3 ?_
  refine at_istore_n hX rfl hn (by decide) dJ7_fill_53178_4 ?_
  exact at_sub [0, 1, 2, 3] rfl ((A_J7_fill_53178_31_5 hn hX hR FU_) _ _ _ _ e)

def F_J7_fill_53178_32_5 (n : Nat) (x1 : Int32) (x2 : Int32) (x3 : Int32) (h : Hp) : Option Hp := match n with
  | 0 => none
  | n + 1 => if x3 ≤ x2 then some h else wA_ h 32 7 x2 x1 fun h13 => (F_J7_fill_53178_32_5 n) x1 (x2 + (1 : Int32)) x3 h13
theorem A_J7_fill_53178_32_5 {X : CX} {h' : Hp} (hn : (xc_ X).maxLocals = 4) (hX : Ok_ X RJ7 cJ7_fill_53178 1) (hR : Rt_ X none none h') : ∀ (n : Nat) (x1 : Int32) (x2 : Int32) (x3 : Int32) (h : Hp), F_J7_fill_53178_32_5 n x1 x2 x3 h = some h' → At_ X 5 [(0, .ref 32), (1, .int x1), (2, .int x2), (3, .int x3)] [] h := by
  intro n
  induction n with
  | zero => intro x1 x2 x3 h e; cases e
  | succ n ih =>
    intro x1 x2 x3 h e
    rw [F_J7_fill_53178_32_5] at e
    refine at_iload_n hX rfl rfl dJ7_fill_53178_5 ?_
    refine at_iload_n hX rfl rfl dJ7_fill_53178_6 ?_
    refine at_icmp_ge hX (tgt := 20) (by decide) dJ7_fill_53178_7 (fun c7 => ?_) (fun c7 => ?_)
    · replace e := ip_ c7 e
      exact at_return hX hR rfl (by cases e; rfl) dJ7_fill_53178_20
    · replace e := in_ c7 e
      refine at_aload_n hX rfl rfl dJ7_fill_53178_10 ?_
      refine at_iload_n hX rfl rfl dJ7_fill_53178_11 ?_
      refine at_iload_n hX rfl rfl dJ7_fill_53178_12 ?_
      obtain ⟨hi, h13, eh13, e⟩ := wA_some e
      refine at_iast hX (o := 32) (by decide) rfl hi dJ7_fill_53178_13 ?_
      refine at_th eh13 ?_
      refine at_iinc hX hn (by decide) rfl (v := 1) (by decide) dJ7_fill_53178_14 ?_
      refine at_goto hX (tgt := 5) (by decide) dJ7_fill_53178_17 ?_
      exact at_sub [0, 1, 2, 3] rfl (ih _ _ _ _ e)
def F_J7_fill_53178_32 (x1 : Int32) (h : Hp) : Option Hp := (F_J7_fill_53178_32_5 FU_) x1 (0 : Int32) (7 : Int32) h
theorem c_J7_fill_53178_32 (l : Launch) (G : Gl) (x1 : Int32) (h : Hp) {h' : Hp} (e : F_J7_fill_53178_32 x1 h = some h') : Does l G 1 M_J7_fill_53178 [.ref 32, .int x1] h none h' := by
  refine Does.of (by decide) rfl (Nat.le_of_ble_eq_true rfl) (fun X hl hG hn hX hR => ?_)
  unfold F_J7_fill_53178_32 at e
  subst hl; subst hG
  show At_ X 0 [(0, .ref 32), (1, .int x1)] [] h
  refine at_iconst hX (v := 0) (by decide) dJ7_fill_53178_0 ?_
  refine at_istore_n hX rfl hn (by decide) dJ7_fill_53178_1 ?_
  refine at_aload_n hX rfl rfl dJ7_fill_53178_2 ?_
  refine at_alen hX (o := 32) (v := 7) (by decide) rfl (by decide) dJ7_fill_53178_3 ?_
  refine at_istore_n hX rfl hn (by decide) dJ7_fill_53178_4 ?_
  exact at_sub [0, 1, 2, 3] rfl ((A_J7_fill_53178_32_5 hn hX hR FU_) _ _ _ _ e)

def F_J6_bitCount_0f7a4 (x0 : Int32) : Option Int32 := bd_ (x0 - ((iu_ x0 (1 : Int32)) &&& (1431655765 : Int32))) fun y9 => bd_ ((y9 &&& (858993459 : Int32)) + ((iu_ y9 (2 : Int32)) &&& (858993459 : Int32))) fun y23 => bd_ ((y23 + (iu_ y23 (4 : Int32))) &&& (252645135 : Int32)) fun y33 => bd_ (y33 + (iu_ y33 (8 : Int32))) fun y40 => bd_ (y40 + (iu_ y40 (16 : Int32))) fun y47 => some (y47 &&& (63 : Int32))
theorem c_J6_bitCount_0f7a4 (l : Launch) (G : Gl) (x0 : Int32) (h : Hp) {r : Int32} (e : F_J6_bitCount_0f7a4 x0 = some r) : Does l G 1 M_J6_bitCount_0f7a4 [.int x0] h (some (.int r)) h := by
  refine Does.of (by decide) rfl (Nat.le_of_ble_eq_true rfl) (fun X hl hG hn hX hR => ?_)
  unfold F_J6_bitCount_0f7a4 at e
  subst hl; subst hG
  show At_ X 0 [(0, .int x0)] [] h
  refine at_iload_n hX rfl rfl dJ6_bitCount_0f7a4_0 ?_
  refine at_iload_n hX rfl rfl dJ6_bitCount_0f7a4_1 ?_
  refine at_iconst hX (v := 1) (by decide) dJ6_bitCount_0f7a4_2 ?_
  refine at_iushr hX dJ6_bitCount_0f7a4_3 ?_
  refine at_ldcw hX wk_J6_265 dJ6_bitCount_0f7a4_4 ?_
  refine at_iand hX dJ6_bitCount_0f7a4_7 ?_
  refine at_isub hX dJ6_bitCount_0f7a4_8 ?_
  obtain ⟨y9, ey9, e⟩ := bd_some e
  refine at_ti ey9 ?_
  refine at_istore_n hX rfl hn (by decide) dJ6_bitCount_0f7a4_9 ?_
  refine at_iload_n hX rfl rfl dJ6_bitCount_0f7a4_10 ?_
  refine at_ldcw hX wk_J6_266 dJ6_bitCount_0f7a4_11 ?_
  refine at_iand hX dJ6_bitCount_0f7a4_14 ?_
  refine at_iload_n hX rfl rfl dJ6_bitCount_0f7a4_15 ?_
  refine at_iconst hX (v := 2) (by decide) dJ6_bitCount_0f7a4_16 ?_
  refine at_iushr hX dJ6_bitCount_0f7a4_17 ?_
  refine at_ldcw hX wk_J6_266 dJ6_bitCount_0f7a4_18 ?_
  refine at_iand hX dJ6_bitCount_0f7a4_21 ?_
  refine at_iadd hX dJ6_bitCount_0f7a4_22 ?_
  obtain ⟨y23, ey23, e⟩ := bd_some e
  refine at_ti ey23 ?_
  refine at_istore_n hX rfl hn (by decide) dJ6_bitCount_0f7a4_23 ?_
  refine at_iload_n hX rfl rfl dJ6_bitCount_0f7a4_24 ?_
  refine at_iload_n hX rfl rfl dJ6_bitCount_0f7a4_25 ?_
  refine at_iconst hX (v := 4) (by decide) dJ6_bitCount_0f7a4_26 ?_
  refine at_iushr hX dJ6_bitCount_0f7a4_27 ?_
  refine at_iadd hX dJ6_bitCount_0f7a4_28 ?_
  refine at_ldcw hX wk_J6_267 dJ6_bitCount_0f7a4_29 ?_
  refine at_iand hX dJ6_bitCount_0f7a4_32 ?_
  obtain ⟨y33, ey33, e⟩ := bd_some e
  refine at_ti ey33 ?_
  refine at_istore_n hX rfl hn (by decide) dJ6_bitCount_0f7a4_33 ?_
  refine at_iload_n hX rfl rfl dJ6_bitCount_0f7a4_34 ?_
  refine at_iload_n hX rfl rfl dJ6_bitCount_0f7a4_35 ?_
  refine at_bipush hX (v := 8) (by decide) dJ6_bitCount_0f7a4_36 ?_
  refine at_iushr hX dJ6_bitCount_0f7a4_38 ?_
  refine at_iadd hX dJ6_bitCount_0f7a4_39 ?_
  obtain ⟨y40, ey40, e⟩ := bd_some e
  refine at_ti ey40 ?_
  refine at_istore_n hX rfl hn (by decide) dJ6_bitCount_0f7a4_40 ?_
  refine at_iload_n hX rfl rfl dJ6_bitCount_0f7a4_41 ?_
  refine at_iload_n hX rfl rfl dJ6_bitCount_0f7a4_42 ?_
  refine at_bipush hX (v := 16) (by decide) dJ6_bitCount_0f7a4_43 ?_
  refine at_iushr hX dJ6_bitCount_0f7a4_45 ?_
  refine at_iadd hX dJ6_bitCount_0f7a4_46 ?_
  obtain ⟨y47, ey47, e⟩ := bd_some e
  refine at_ti ey47 ?_
  refine at_istore_n hX rfl hn (by decide) dJ6_bitCount_0f7a4_47 ?_
  refine at_iload_n hX rfl rfl dJ6_bitCount_0f7a4_48 ?_
  refine at_bipush hX (v := 63) (by decide) dJ6_bitCount_0f7a4_49 ?_
  refine at_iand hX dJ6_bitCount_0f7a4_51 ?_
  exact at_ireturn hX hR rfl (by cases e; rfl) rfl dJ6_bitCount_0f7a4_52

def F_X3_firstFree (x1 : Int32) : Option Int32 := (F_J6_bitCount_0f7a4 (x1 &&& ((x1 + (1 : Int32)) ^^^ (-1 : Int32)))).bind fun v7 => some v7
theorem c_X3_firstFree (l : Launch) (G : Gl) (x1 : Int32) (h : Hp) {r : Int32} (e : F_X3_firstFree x1 = some r) : Does l G 2 M_X3_firstFree [.ref 3, .int x1] h (some (.int r)) h := by
  refine Does.of (by decide) rfl (Nat.le_of_ble_eq_true rfl) (fun X hl hG hn hX hR => ?_)
  unfold F_X3_firstFree at e
  subst hl; subst hG
  show At_ X 0 [(0, .ref 3), (1, .int x1)] [] h
  refine at_iload_n hX rfl rfl dX3_firstFree_0 ?_
  refine at_iload_n hX rfl rfl dX3_firstFree_1 ?_
  refine at_iconst hX (v := 1) (by decide) dX3_firstFree_2 ?_
  refine at_iadd hX dX3_firstFree_3 ?_
  refine at_iconst hX (v := -1) (by decide) dX3_firstFree_4 ?_
  refine at_ixor hX dX3_firstFree_5 ?_
  refine at_iand hX dX3_firstFree_6 ?_
  obtain ⟨v7, e1, e⟩ := ob_some e
  refine at_callS1 hX cv_X3_137 (by decide) (c_J6_bitCount_0f7a4 _ _ _ _ e1) (Nat.le_of_ble_eq_true rfl) dX3_firstFree_7 ?_
  exact at_ireturn hX hR rfl (by cases e; rfl) rfl dX3_firstFree_10

def F_X3_slotOf_10 (n : Nat) (x1 : Int32) (x2 : Int32) (x3 : Int32) (h : Hp) : Option Int32 := match n with
  | 0 => none
  | n + 1 => if (2048 : Int32) ≤ x3 then some (-1 : Int32) else bd_ ((x2 + x3) &&& (2047 : Int32)) fun y24 => rA_ h 28 2048 y24 fun v32 => if v32 = (0 : Int32) then some y24 else rA_ h 28 2048 y24 fun v42 => if v42 = x1 + (1 : Int32) then some y24 else (F_X3_slotOf_10 n) x1 x2 (x3 + (1 : Int32)) h
theorem A_X3_slotOf_10 {X : CX} {h : Hp} {r : Int32} (hn : (xc_ X).maxLocals = 5) (hX : Ok_ X RX3 cX3_slotOf 1) (hR : Rt_ X (some .int) (some (.int r)) h) : ∀ (n : Nat) (x1 : Int32) (x2 : Int32) (x3 : Int32), F_X3_slotOf_10 n x1 x2 x3 h = some r → At_ X 10 [(0, .ref 3), (1, .int x1), (2, .int x2), (3, .int x3)] [] h := by
  intro n
  induction n with
  | zero => intro x1 x2 x3 e; cases e
  | succ n ih =>
    intro x1 x2 x3 e
    rw [F_X3_slotOf_10] at e
    refine at_iload_n hX rfl rfl dX3_slotOf_10 ?_
    refine at_sipush hX (v := 2048) (by decide) dX3_slotOf_11 ?_
    refine at_icmp_ge hX (tgt := 58) (by decide) dX3_slotOf_14 (fun c14 => ?_) (fun c14 => ?_)
    · replace e := ip_ c14 e
      refine at_iconst hX (v := -1) (by decide) dX3_slotOf_58 ?_
      exact at_ireturn hX hR rfl (by cases e; rfl) rfl dX3_slotOf_59
    · replace e := in_ c14 e
      refine at_iload_n hX rfl rfl dX3_slotOf_17 ?_
      refine at_iload_n hX rfl rfl dX3_slotOf_18 ?_
      refine at_iadd hX dX3_slotOf_19 ?_
      refine at_sipush hX (v := 2047) (by decide) dX3_slotOf_20 ?_
      refine at_iand hX dX3_slotOf_23 ?_
      obtain ⟨y24, ey24, e⟩ := bd_some e
      refine at_ti ey24 ?_
      refine at_istore hX hn (by decide) dX3_slotOf_24 ?_
      refine at_aload_n hX rfl rfl dX3_slotOf_26 ?_
      refine gf_X3_30 hX dX3_slotOf_27 ?_
      refine at_iload hX rfl dX3_slotOf_30 ?_
      obtain ⟨hi, v32, ev32, e⟩ := rA_some e
      refine at_iald hX (o := 28) (by decide) rfl hi dX3_slotOf_32 ?_
      refine at_ti ev32 ?_
      refine at_if_eq hX (tgt := 49) (by decide) dX3_slotOf_33 (fun c33 => ?_) (fun c33 => ?_)
      · replace e := ip_ c33 e
        refine at_iload hX rfl dX3_slotOf_49 ?_
        exact at_ireturn hX hR rfl (by cases e; rfl) rfl dX3_slotOf_51
      · replace e := in_ c33 e
        refine at_aload_n hX rfl rfl dX3_slotOf_36 ?_
        refine gf_X3_30 hX dX3_slotOf_37 ?_
        refine at_iload hX rfl dX3_slotOf_40 ?_
        obtain ⟨hi, v42, ev42, e⟩ := rA_some e
        refine at_iald hX (o := 28) (by decide) rfl hi dX3_slotOf_42 ?_
        refine at_ti ev42 ?_
        refine at_iload_n hX rfl rfl dX3_slotOf_43 ?_
        refine at_iconst hX (v := 1) (by decide) dX3_slotOf_44 ?_
        refine at_iadd hX dX3_slotOf_45 ?_
        refine at_icmp_ne hX (tgt := 52) (by decide) dX3_slotOf_46 (fun c46 => ?_) (fun c46 => ?_)
        · replace e := in_ c46 e
          refine at_iinc hX hn (by decide) rfl (v := 1) (by decide) dX3_slotOf_52 ?_
          refine at_goto hX (tgt := 10) (by decide) dX3_slotOf_55 ?_
          exact at_sub [0, 1, 2, 3] rfl (ih _ _ _ e)
        · replace e := ip_ c46 e
          refine at_iload hX rfl dX3_slotOf_49 ?_
          exact at_ireturn hX hR rfl (by cases e; rfl) rfl dX3_slotOf_51
def F_X3_slotOf (x1 : Int32) (h : Hp) : Option Int32 := bd_ (iu_ (x1 * (-1640531535 : Int32)) (21 : Int32)) fun y7 => (F_X3_slotOf_10 FU_) x1 y7 (0 : Int32) h
theorem c_X3_slotOf (l : Launch) (G : Gl) (x1 : Int32) (h : Hp) {r : Int32} (e : F_X3_slotOf x1 h = some r) : Does l G 1 M_X3_slotOf [.ref 3, .int x1] h (some (.int r)) h := by
  refine Does.of (by decide) rfl (Nat.le_of_ble_eq_true rfl) (fun X hl hG hn hX hR => ?_)
  unfold F_X3_slotOf at e
  subst hl; subst hG
  show At_ X 0 [(0, .ref 3), (1, .int x1)] [] h
  refine at_iload_n hX rfl rfl dX3_slotOf_0 ?_
  refine at_ldc hX wk_X3_154 dX3_slotOf_1 ?_
  refine at_imul hX dX3_slotOf_3 ?_
  refine at_bipush hX (v := 21) (by decide) dX3_slotOf_4 ?_
  refine at_iushr hX dX3_slotOf_6 ?_
  obtain ⟨y7, ey7, e⟩ := bd_some e
  refine at_ti ey7 ?_
  refine at_istore_n hX rfl hn (by decide) dX3_slotOf_7 ?_
  refine at_iconst hX (v := 0) (by decide) dX3_slotOf_8 ?_
  refine at_istore_n hX rfl hn (by decide) dX3_slotOf_9 ?_
  exact at_sub [0, 1, 2, 3] rfl ((A_X3_slotOf_10 hn hX hR FU_) _ _ _ e)

def F_X3_isFree (x1 : Int32) (x2 : Int32) (h : Hp) : Option Int32 := rA_ h 26 192 x1 fun v5 => if v5 = (0 : Int32) then some (0 : Int32) else rA_ h 26 192 x1 fun v14 => if v14 &&& x2 = (0 : Int32) then some (1 : Int32) else some (0 : Int32)
theorem c_X3_isFree (l : Launch) (G : Gl) (x1 : Int32) (x2 : Int32) (h : Hp) {r : Int32} (e : F_X3_isFree x1 x2 h = some r) : Does l G 1 M_X3_isFree [.ref 3, .int x1, .int x2] h (some (.int r)) h := by
  refine Does.of (by decide) rfl (Nat.le_of_ble_eq_true rfl) (fun X hl hG hn hX hR => ?_)
  unfold F_X3_isFree at e
  subst hl; subst hG
  show At_ X 0 [(0, .ref 3), (1, .int x1), (2, .int x2)] [] h
  refine at_aload_n hX rfl rfl dX3_isFree_0 ?_
  refine gf_X3_24 hX dX3_isFree_1 ?_
  refine at_iload_n hX rfl rfl dX3_isFree_4 ?_
  obtain ⟨hi, v5, ev5, e⟩ := rA_some e
  refine at_iald hX (o := 26) (by decide) rfl hi dX3_isFree_5 ?_
  refine at_ti ev5 ?_
  refine at_if_eq hX (tgt := 24) (by decide) dX3_isFree_6 (fun c6 => ?_) (fun c6 => ?_)
  · replace e := ip_ c6 e
    refine at_iconst hX (v := 0) (by decide) dX3_isFree_24 ?_
    exact at_ireturn hX hR rfl (by cases e; rfl) rfl dX3_isFree_25
  · replace e := in_ c6 e
    refine at_aload_n hX rfl rfl dX3_isFree_9 ?_
    refine gf_X3_24 hX dX3_isFree_10 ?_
    refine at_iload_n hX rfl rfl dX3_isFree_13 ?_
    obtain ⟨hi, v14, ev14, e⟩ := rA_some e
    refine at_iald hX (o := 26) (by decide) rfl hi dX3_isFree_14 ?_
    refine at_ti ev14 ?_
    refine at_iload_n hX rfl rfl dX3_isFree_15 ?_
    refine at_iand hX dX3_isFree_16 ?_
    refine at_if_ne hX (tgt := 24) (by decide) dX3_isFree_17 (fun c17 => ?_) (fun c17 => ?_)
    · replace e := in_ c17 e
      refine at_iconst hX (v := 0) (by decide) dX3_isFree_24 ?_
      exact at_ireturn hX hR rfl (by cases e; rfl) rfl dX3_isFree_25
    · replace e := ip_ c17 e
      refine at_iconst hX (v := 1) (by decide) dX3_isFree_20 ?_
      refine at_goto hX (tgt := 25) (by decide) dX3_isFree_21 ?_
      exact at_ireturn hX hR rfl (by cases e; rfl) rfl dX3_isFree_25

def F_X3_keep (x1 : Int32) (x2 : Int32) (h : Hp) : Option Hp := (F_X3_slotOf x1 h).bind fun v2 => if v2 < (0 : Int32) then some h else wA_ h 28 2048 v2 (x1 + (1 : Int32)) fun h18 => wA_ h18 29 2048 v2 x2 fun h25 => some h25
theorem c_X3_keep (l : Launch) (G : Gl) (x1 : Int32) (x2 : Int32) (h : Hp) {h' : Hp} (e : F_X3_keep x1 x2 h = some h') : Does l G 2 M_X3_keep [.ref 3, .int x1, .int x2] h none h' := by
  refine Does.of (by decide) rfl (Nat.le_of_ble_eq_true rfl) (fun X hl hG hn hX hR => ?_)
  unfold F_X3_keep at e
  subst hl; subst hG
  show At_ X 0 [(0, .ref 3), (1, .int x1), (2, .int x2)] [] h
  refine at_aload_n hX rfl rfl dX3_keep_0 ?_
  refine at_iload_n hX rfl rfl dX3_keep_1 ?_
  obtain ⟨v2, e1, e⟩ := ob_some e
  refine at_callV1 hX cv_X3_143 (by decide) (c_X3_slotOf _ _ _ _ e1) (Nat.le_of_ble_eq_true rfl) dX3_keep_2 ?_
  refine at_istore_n hX rfl hn (by decide) dX3_keep_5 ?_
  refine at_iload_n hX rfl rfl dX3_keep_6 ?_
  refine at_if_lt hX (tgt := 26) (by decide) dX3_keep_7 (fun c7 => ?_) (fun c7 => ?_)
  · replace e := ip_ c7 e
    exact at_return hX hR rfl (by cases e; rfl) dX3_keep_26
  · replace e := in_ c7 e
    refine at_aload_n hX rfl rfl dX3_keep_10 ?_
    refine gf_X3_30 hX dX3_keep_11 ?_
    refine at_iload_n hX rfl rfl dX3_keep_14 ?_
    refine at_iload_n hX rfl rfl dX3_keep_15 ?_
    refine at_iconst hX (v := 1) (by decide) dX3_keep_16 ?_
    refine at_iadd hX dX3_keep_17 ?_
    obtain ⟨hi, h18, eh18, e⟩ := wA_some e
    refine at_iast hX (o := 28) (by decide) rfl hi dX3_keep_18 ?_
    refine at_th eh18 ?_
    refine at_aload_n hX rfl rfl dX3_keep_19 ?_
    refine gf_X3_33 hX dX3_keep_20 ?_
    refine at_iload_n hX rfl rfl dX3_keep_23 ?_
    refine at_iload_n hX rfl rfl dX3_keep_24 ?_
    obtain ⟨hi, h25, eh25, e⟩ := wA_some e
    refine at_iast hX (o := 29) (by decide) rfl hi dX3_keep_25 ?_
    refine at_th eh25 ?_
    exact at_return hX hR rfl (by cases e; rfl) dX3_keep_26

def F_X3_cheapest_132 (kr : Int32 → Int32 → Hp → Option (Int32 × Hp)) (k68 : Int32 → Int32 → Int32 → Int32 → Int32 → Hp → Option (Int32 × Hp)) (x1 : Int32) (x2 : Int32) (x3 : Int32) (x5 : Int32) (x6 : Int32) (h : Hp) : Option (Int32 × Hp) := k68 x1 x2 x3 x5 (x6 + (1 : Int32)) h
theorem A_X3_cheapest_132 {dr : Nat} {X : CX} {h' : Hp} {r : Int32} (hn : (xc_ X).maxLocals = 9) (hX : Ok_ X RX3 cX3_cheapest (dr + 1)) (hR : Rt_ X (some .int) (some (.int r)) h') (kr : Int32 → Int32 → Hp → Option (Int32 × Hp)) (hkr : 3 ≤ dr ∧ ∀ (x1 : Int32) (x2 : Int32) (h : Hp) (r : Int32) (h' : Hp), kr x1 x2 h = some (r, h') → Does (xl_ X) (xG_ X) dr M_X3_cheapest [.ref 3, .int x1, .int x2] h (some (.int r)) h') (k68 : Int32 → Int32 → Int32 → Int32 → Int32 → Hp → Option (Int32 × Hp)) (hk68 : ∀ (x1 : Int32) (x2 : Int32) (x3 : Int32) (x5 : Int32) (x6 : Int32) (h : Hp), k68 x1 x2 x3 x5 x6 h = some (r, h') → At_ X 68 [(0, .ref 3), (1, .int x1), (2, .int x2), (3, .int x3), (5, .int x5), (6, .int x6)] [] h) (x1 : Int32) (x2 : Int32) (x3 : Int32) (x5 : Int32) (x6 : Int32) (h : Hp) (e : F_X3_cheapest_132 kr k68 x1 x2 x3 x5 x6 h = some (r, h')) : At_ X 132 [(0, .ref 3), (1, .int x1), (2, .int x2), (3, .int x3), (5, .int x5), (6, .int x6)] [] h := by
  unfold F_X3_cheapest_132 at e
  refine at_iinc hX hn (by decide) rfl (v := 1) (by decide) dX3_cheapest_132 ?_
  refine at_goto hX (tgt := 68) (by decide) dX3_cheapest_135 ?_
  exact at_sub [0, 1, 2, 3, 5, 6] rfl (hk68 _ _ _ _ _ _ e)
def F_X3_cheapest_68 (n : Nat) (kr : Int32 → Int32 → Hp → Option (Int32 × Hp)) (x1 : Int32) (x2 : Int32) (x3 : Int32) (x5 : Int32) (x6 : Int32) (h : Hp) : Option (Int32 × Hp) := match n with
  | 0 => none
  | n + 1 => if (12 : Int32) ≤ x6 then (F_X3_keep x1 x5 h).bind fun h142 => some (x5, h142) else (F_X3_isFree ((x3 * (12 : Int32)) + x6) x1 h).bind fun v88 => if v88 = (0 : Int32) then (F_X3_cheapest_132 kr (F_X3_cheapest_68 n kr)) x1 x2 x3 x5 x6 h else rA_ h 26 192 ((x3 * (12 : Int32)) + x6) fun v102 => (kr (x1 ||| v102) (x2 + (1 : Int32)) h).bind fun ((v107, h107) : Int32 × Hp) => rA_ h107 27 192 ((x3 * (12 : Int32)) + x6) fun v122 => bd_ (mn_ x5 (((100 : Int32) - v122) + v107)) fun y130 => (F_X3_cheapest_132 kr (F_X3_cheapest_68 n kr)) x1 x2 x3 y130 x6 h107
theorem A_X3_cheapest_68 {dr : Nat} {X : CX} {h' : Hp} {r : Int32} (hn : (xc_ X).maxLocals = 9) (hX : Ok_ X RX3 cX3_cheapest (dr + 1)) (hR : Rt_ X (some .int) (some (.int r)) h') (kr : Int32 → Int32 → Hp → Option (Int32 × Hp)) (hkr : 3 ≤ dr ∧ ∀ (x1 : Int32) (x2 : Int32) (h : Hp) (r : Int32) (h' : Hp), kr x1 x2 h = some (r, h') → Does (xl_ X) (xG_ X) dr M_X3_cheapest [.ref 3, .int x1, .int x2] h (some (.int r)) h') : ∀ (n : Nat) (x1 : Int32) (x2 : Int32) (x3 : Int32) (x5 : Int32) (x6 : Int32) (h : Hp), F_X3_cheapest_68 n kr x1 x2 x3 x5 x6 h = some (r, h') → At_ X 68 [(0, .ref 3), (1, .int x1), (2, .int x2), (3, .int x3), (5, .int x5), (6, .int x6)] [] h := by
  intro n
  induction n with
  | zero => intro x1 x2 x3 x5 x6 h e; cases e
  | succ n ih =>
    intro x1 x2 x3 x5 x6 h e
    rw [F_X3_cheapest_68] at e
    refine at_iload hX rfl dX3_cheapest_68 ?_
    refine at_bipush hX (v := 12) (by decide) dX3_cheapest_70 ?_
    refine at_icmp_ge hX (tgt := 138) (by decide) dX3_cheapest_72 (fun c72 => ?_) (fun c72 => ?_)
    · replace e := ip_ c72 e
      refine at_aload_n hX rfl rfl dX3_cheapest_138 ?_
      refine at_iload_n hX rfl rfl dX3_cheapest_139 ?_
      refine at_iload hX rfl dX3_cheapest_140 ?_
      obtain ⟨h142, e1, e⟩ := ob_some e
      refine at_callV2 hX cv_X3_151 (by omega) (c_X3_keep _ _ _ _ _ e1) (Nat.le_of_ble_eq_true rfl) dX3_cheapest_142 ?_
      refine at_iload hX rfl dX3_cheapest_145 ?_
      exact at_ireturn hX hR rfl (by cases e; rfl) (by cases e; rfl) dX3_cheapest_147
    · replace e := in_ c72 e
      refine at_iload_n hX rfl rfl dX3_cheapest_75 ?_
      refine at_bipush hX (v := 12) (by decide) dX3_cheapest_76 ?_
      refine at_imul hX dX3_cheapest_78 ?_
      refine at_iload hX rfl dX3_cheapest_79 ?_
      refine at_iadd hX dX3_cheapest_81 ?_
      refine at_istore hX hn (by decide) dX3_cheapest_82 ?_
      refine at_aload_n hX rfl rfl dX3_cheapest_84 ?_
      refine at_iload hX rfl dX3_cheapest_85 ?_
      refine at_iload_n hX rfl rfl dX3_cheapest_87 ?_
      obtain ⟨v88, e1, e⟩ := ob_some e
      refine at_callV2 hX cv_X3_133 (by omega) (c_X3_isFree _ _ _ _ _ e1) (Nat.le_of_ble_eq_true rfl) dX3_cheapest_88 ?_
      refine at_if_eq hX (tgt := 132) (by decide) dX3_cheapest_91 (fun c91 => ?_) (fun c91 => ?_)
      · replace e := ip_ c91 e
        exact at_sub [0, 1, 2, 3, 5, 6] rfl ((A_X3_cheapest_132 hn hX hR kr hkr (F_X3_cheapest_68 n kr) ih) _ _ _ _ _ _ e)
      · replace e := in_ c91 e
        refine at_aload_n hX rfl rfl dX3_cheapest_94 ?_
        refine at_iload_n hX rfl rfl dX3_cheapest_95 ?_
        refine at_aload_n hX rfl rfl dX3_cheapest_96 ?_
        refine gf_X3_24 hX dX3_cheapest_97 ?_
        refine at_iload hX rfl dX3_cheapest_100 ?_
        obtain ⟨hi, v102, ev102, e⟩ := rA_some e
        refine at_iald hX (o := 26) (by decide) rfl hi dX3_cheapest_102 ?_
        refine at_ti ev102 ?_
        refine at_ior hX dX3_cheapest_103 ?_
        refine at_iload_n hX rfl rfl dX3_cheapest_104 ?_
        refine at_iconst hX (v := 1) (by decide) dX3_cheapest_105 ?_
        refine at_iadd hX dX3_cheapest_106 ?_
        obtain ⟨⟨v107, h107⟩, e1, e⟩ := ob_some e
        refine at_callV2 hX cv_X3_130 (by omega) (hkr.2  _ _ _ _ _ e1) (Nat.le_of_ble_eq_true rfl) dX3_cheapest_107 ?_
        refine at_istore hX hn (by decide) dX3_cheapest_110 ?_
        refine at_iload hX rfl dX3_cheapest_112 ?_
        refine at_bipush hX (v := 100) (by decide) dX3_cheapest_114 ?_
        refine at_aload_n hX rfl rfl dX3_cheapest_116 ?_
        refine gf_X3_27 hX dX3_cheapest_117 ?_
        refine at_iload hX rfl dX3_cheapest_120 ?_
        obtain ⟨hi, v122, ev122, e⟩ := rA_some e
        refine at_iald hX (o := 27) (by decide) rfl hi dX3_cheapest_122 ?_
        refine at_ti ev122 ?_
        refine at_isub hX dX3_cheapest_123 ?_
        refine at_iload hX rfl dX3_cheapest_124 ?_
        refine at_iadd hX dX3_cheapest_126 ?_
        refine at_mmin hX cv_X3_146 (by omega) (Nat.le_of_ble_eq_true rfl) dX3_cheapest_127 ?_
        obtain ⟨y130, ey130, e⟩ := bd_some e
        refine at_ti ey130 ?_
        refine at_istore hX hn (by decide) dX3_cheapest_130 ?_
        exact at_sub [0, 1, 2, 3, 5, 6] rfl ((A_X3_cheapest_132 hn hX hR kr hkr (F_X3_cheapest_68 n kr) ih) _ _ _ _ _ _ e)
def F_X3_cheapest_61 (kr : Int32 → Int32 → Hp → Option (Int32 × Hp)) (x1 : Int32) (x2 : Int32) (x3 : Int32) (h : Hp) : Option (Int32 × Hp) := (F_X3_cheapest_68 FU_ kr) x1 x2 x3 (1000000 : Int32) (0 : Int32) h
theorem A_X3_cheapest_61 {dr : Nat} {X : CX} {h' : Hp} {r : Int32} (hn : (xc_ X).maxLocals = 9) (hX : Ok_ X RX3 cX3_cheapest (dr + 1)) (hR : Rt_ X (some .int) (some (.int r)) h') (kr : Int32 → Int32 → Hp → Option (Int32 × Hp)) (hkr : 3 ≤ dr ∧ ∀ (x1 : Int32) (x2 : Int32) (h : Hp) (r : Int32) (h' : Hp), kr x1 x2 h = some (r, h') → Does (xl_ X) (xG_ X) dr M_X3_cheapest [.ref 3, .int x1, .int x2] h (some (.int r)) h') (x1 : Int32) (x2 : Int32) (x3 : Int32) (h : Hp) (e : F_X3_cheapest_61 kr x1 x2 x3 h = some (r, h')) : At_ X 61 [(0, .ref 3), (1, .int x1), (2, .int x2), (3, .int x3)] [] h := by
  unfold F_X3_cheapest_61 at e
  refine at_ldc hX wk_X3_142 dX3_cheapest_61 ?_
  refine at_istore hX hn (by decide) dX3_cheapest_63 ?_
  refine at_iconst hX (v := 0) (by decide) dX3_cheapest_65 ?_
  refine at_istore hX hn (by decide) dX3_cheapest_66 ?_
  exact at_sub [0, 1, 2, 3, 5, 6] rfl ((A_X3_cheapest_68 hn hX hR kr hkr FU_) _ _ _ _ _ _ e)
def F_X3_cheapest_0 (kr : Int32 → Int32 → Hp → Option (Int32 × Hp)) (x1 : Int32) (x2 : Int32) (h : Hp) : Option (Int32 × Hp) := (F_X3_firstFree x1).bind fun v2 => if v2 < gI_ h 203 then if (16 : Int32) ≤ x2 then some ((1000000 : Int32), h) else if v2 < (16 : Int32) then (F_X3_slotOf x1 h).bind fun v33 => if v33 < (0 : Int32) then (F_X3_cheapest_61 kr) x1 x2 v2 h else rA_ h 28 2048 v33 fun v49 => if v49 = (0 : Int32) then (F_X3_cheapest_61 kr) x1 x2 v2 h else rA_ h 29 2048 v33 fun v59 => some (v59, h) else some ((1000000 : Int32), h) else some ((0 : Int32), h)
def F_X3_cheapest (n : Nat) (x1 : Int32) (x2 : Int32) (h : Hp) : Option (Int32 × Hp) := match n with
  | 0 => none
  | n + 1 => F_X3_cheapest_0 (F_X3_cheapest n) x1 x2 h
theorem A_X3_cheapest_0 {dr : Nat} {X : CX} {h' : Hp} {r : Int32} (hn : (xc_ X).maxLocals = 9) (hX : Ok_ X RX3 cX3_cheapest (dr + 1)) (hR : Rt_ X (some .int) (some (.int r)) h') (kr : Int32 → Int32 → Hp → Option (Int32 × Hp)) (hkr : 3 ≤ dr ∧ ∀ (x1 : Int32) (x2 : Int32) (h : Hp) (r : Int32) (h' : Hp), kr x1 x2 h = some (r, h') → Does (xl_ X) (xG_ X) dr M_X3_cheapest [.ref 3, .int x1, .int x2] h (some (.int r)) h') (x1 : Int32) (x2 : Int32) (h : Hp) (e : F_X3_cheapest_0 kr x1 x2 h = some (r, h')) : At_ X 0 [(0, .ref 3), (1, .int x1), (2, .int x2)] [] h := by
  unfold F_X3_cheapest_0 at e
  refine at_aload_n hX rfl rfl dX3_cheapest_0 ?_
  refine at_iload_n hX rfl rfl dX3_cheapest_1 ?_
  obtain ⟨v2, e1, e⟩ := ob_some e
  refine at_callV1 hX cv_X3_127 (by omega) (c_X3_firstFree _ _ _ _ e1) (Nat.le_of_ble_eq_true rfl) dX3_cheapest_2 ?_
  refine at_istore_n hX rfl hn (by decide) dX3_cheapest_5 ?_
  refine at_iload_n hX rfl rfl dX3_cheapest_6 ?_
  refine at_aload_n hX rfl rfl dX3_cheapest_7 ?_
  refine gf_X3_63 hX dX3_cheapest_8 ?_
  refine at_icmp_lt hX (tgt := 16) (by decide) dX3_cheapest_11 (fun c11 => ?_) (fun c11 => ?_)
  · replace e := ip_ c11 e
    refine at_iload_n hX rfl rfl dX3_cheapest_16 ?_
    refine at_bipush hX (v := 16) (by decide) dX3_cheapest_17 ?_
    refine at_icmp_ge hX (tgt := 28) (by decide) dX3_cheapest_19 (fun c19 => ?_) (fun c19 => ?_)
    · replace e := ip_ c19 e
      refine at_ldc hX wk_X3_142 dX3_cheapest_28 ?_
      exact at_ireturn hX hR rfl (by cases e; rfl) (by cases e; rfl) dX3_cheapest_30
    · replace e := in_ c19 e
      refine at_iload_n hX rfl rfl dX3_cheapest_22 ?_
      refine at_bipush hX (v := 16) (by decide) dX3_cheapest_23 ?_
      refine at_icmp_lt hX (tgt := 31) (by decide) dX3_cheapest_25 (fun c25 => ?_) (fun c25 => ?_)
      · replace e := ip_ c25 e
        refine at_aload_n hX rfl rfl dX3_cheapest_31 ?_
        refine at_iload_n hX rfl rfl dX3_cheapest_32 ?_
        obtain ⟨v33, e1, e⟩ := ob_some e
        refine at_callV1 hX cv_X3_143 (by omega) (c_X3_slotOf _ _ _ _ e1) (Nat.le_of_ble_eq_true rfl) dX3_cheapest_33 ?_
        refine at_istore hX hn (by decide) dX3_cheapest_36 ?_
        refine at_iload hX rfl dX3_cheapest_38 ?_
        refine at_if_lt hX (tgt := 61) (by decide) dX3_cheapest_40 (fun c40 => ?_) (fun c40 => ?_)
        · replace e := ip_ c40 e
          exact at_sub [0, 1, 2, 3] rfl ((A_X3_cheapest_61 hn hX hR kr hkr) _ _ _ _ e)
        · replace e := in_ c40 e
          refine at_aload_n hX rfl rfl dX3_cheapest_43 ?_
          refine gf_X3_30 hX dX3_cheapest_44 ?_
          refine at_iload hX rfl dX3_cheapest_47 ?_
          obtain ⟨hi, v49, ev49, e⟩ := rA_some e
          refine at_iald hX (o := 28) (by decide) rfl hi dX3_cheapest_49 ?_
          refine at_ti ev49 ?_
          refine at_if_eq hX (tgt := 61) (by decide) dX3_cheapest_50 (fun c50 => ?_) (fun c50 => ?_)
          · replace e := ip_ c50 e
            exact at_sub [0, 1, 2, 3] rfl ((A_X3_cheapest_61 hn hX hR kr hkr) _ _ _ _ e)
          · replace e := in_ c50 e
            refine at_aload_n hX rfl rfl dX3_cheapest_53 ?_
            refine gf_X3_33 hX dX3_cheapest_54 ?_
            refine at_iload hX rfl dX3_cheapest_57 ?_
            obtain ⟨hi, v59, ev59, e⟩ := rA_some e
            refine at_iald hX (o := 29) (by decide) rfl hi dX3_cheapest_59 ?_
            refine at_ti ev59 ?_
            exact at_ireturn hX hR rfl (by cases e; rfl) (by cases e; rfl) dX3_cheapest_60
      · replace e := in_ c25 e
        refine at_ldc hX wk_X3_142 dX3_cheapest_28 ?_
        exact at_ireturn hX hR rfl (by cases e; rfl) (by cases e; rfl) dX3_cheapest_30
  · replace e := in_ c11 e
    refine at_iconst hX (v := 0) (by decide) dX3_cheapest_14 ?_
    exact at_ireturn hX hR rfl (by cases e; rfl) (by cases e; rfl) dX3_cheapest_15
theorem c_X3_cheapest_r (l : Launch) (G : Gl) : ∀ (n : Nat) (x1 : Int32) (x2 : Int32) (h : Hp) (r : Int32) (h' : Hp) , F_X3_cheapest n x1 x2 h = some (r, h') → Does l G (n + 3) M_X3_cheapest [.ref 3, .int x1, .int x2] h (some (.int r)) h' := by
  intro n
  induction n with
  | zero => intro x1 x2 h r h' e; cases e
  | succ n ih =>
    intro x1 x2 h r h' e
    rw [F_X3_cheapest] at e
    refine Does.of (by decide) rfl (Nat.le_of_ble_eq_true rfl) (fun X hl hG hn hX hR => ?_)
    subst hl; subst hG
    have hX : Ok_ X RX3 cX3_cheapest (n + 3 + 1) := by rw [show n + 3 + 1 = n + 1 + 3 by omega]; exact hX
    exact A_X3_cheapest_0 hn hX hR (F_X3_cheapest n) ⟨by omega, fun x1 x2 h r h' e => ih x1 x2 h r h' e⟩ _ _ _ e
theorem c_X3_cheapest (l : Launch) (G : Gl) (x1 : Int32) (x2 : Int32) (h : Hp) {r : Int32} {h' : Hp} (e : F_X3_cheapest RF_ x1 x2 h = some (r, h')) : Does l G 43 M_X3_cheapest [.ref 3, .int x1, .int x2] h (some (.int r)) h' := c_X3_cheapest_r l G RF_ x1 x2 h r h' e

def F_X3_bestWay_80 (k16 : Int32 → Int32 → Int32 → Int32 → Hp → Option (Int32 × Hp)) (x1 : Int32) (x2 : Int32) (x3 : Int32) (x4 : Int32) (h : Hp) : Option (Int32 × Hp) := k16 x1 x2 x3 (x4 + (1 : Int32)) h
theorem A_X3_bestWay_80 {X : CX} {h' : Hp} {r : Int32} (hn : (xc_ X).maxLocals = 6) (hX : Ok_ X RX3 cX3_bestWay 44) (hR : Rt_ X (some .int) (some (.int r)) h') (k16 : Int32 → Int32 → Int32 → Int32 → Hp → Option (Int32 × Hp)) (hk16 : ∀ (x1 : Int32) (x2 : Int32) (x3 : Int32) (x4 : Int32) (h : Hp), k16 x1 x2 x3 x4 h = some (r, h') → At_ X 16 [(0, .ref 3), (1, .int x1), (2, .int x2), (3, .int x3), (4, .int x4)] [] h) (x1 : Int32) (x2 : Int32) (x3 : Int32) (x4 : Int32) (h : Hp) (e : F_X3_bestWay_80 k16 x1 x2 x3 x4 h = some (r, h')) : At_ X 80 [(0, .ref 3), (1, .int x1), (2, .int x2), (3, .int x3), (4, .int x4)] [] h := by
  unfold F_X3_bestWay_80 at e
  refine at_iinc hX hn (by decide) rfl (v := 1) (by decide) dX3_bestWay_80 ?_
  refine at_goto hX (tgt := 16) (by decide) dX3_bestWay_83 ?_
  exact at_sub [0, 1, 2, 3, 4] rfl (hk16 _ _ _ _ _ e)
def F_X3_bestWay_16 (n : Nat) (x1 : Int32) (x2 : Int32) (x3 : Int32) (x4 : Int32) (h : Hp) : Option (Int32 × Hp) := match n with
  | 0 => none
  | n + 1 => if (12 : Int32) ≤ x4 then some ((-1 : Int32), h) else if (16 : Int32) ≤ x2 then some ((-1 : Int32), h) else (F_X3_isFree ((x2 * (12 : Int32)) + x4) x1 h).bind fun v42 => if v42 = (0 : Int32) then (F_X3_bestWay_80 (F_X3_bestWay_16 n)) x1 x2 x3 x4 h else rA_ h 27 192 ((x2 * (12 : Int32)) + x4) fun v56 => rA_ h 26 192 ((x2 * (12 : Int32)) + x4) fun v66 => (F_X3_cheapest RF_ (x1 ||| v66) (1 : Int32) h).bind fun ((v69, h69) : Int32 × Hp) => if ((100 : Int32) - v56) + v69 = x3 then some ((x2 * (12 : Int32)) + x4, h69) else (F_X3_bestWay_80 (F_X3_bestWay_16 n)) x1 x2 x3 x4 h69
theorem A_X3_bestWay_16 {X : CX} {h' : Hp} {r : Int32} (hn : (xc_ X).maxLocals = 6) (hX : Ok_ X RX3 cX3_bestWay 44) (hR : Rt_ X (some .int) (some (.int r)) h') : ∀ (n : Nat) (x1 : Int32) (x2 : Int32) (x3 : Int32) (x4 : Int32) (h : Hp), F_X3_bestWay_16 n x1 x2 x3 x4 h = some (r, h') → At_ X 16 [(0, .ref 3), (1, .int x1), (2, .int x2), (3, .int x3), (4, .int x4)] [] h := by
  intro n
  induction n with
  | zero => intro x1 x2 x3 x4 h e; cases e
  | succ n ih =>
    intro x1 x2 x3 x4 h e
    rw [F_X3_bestWay_16] at e
    refine at_iload hX rfl dX3_bestWay_16 ?_
    refine at_bipush hX (v := 12) (by decide) dX3_bestWay_18 ?_
    refine at_icmp_ge hX (tgt := 86) (by decide) dX3_bestWay_20 (fun c20 => ?_) (fun c20 => ?_)
    · replace e := ip_ c20 e
      refine at_iconst hX (v := -1) (by decide) dX3_bestWay_86 ?_
      exact at_ireturn hX hR rfl (by cases e; rfl) (by cases e; rfl) dX3_bestWay_87
    · replace e := in_ c20 e
      refine at_iload_n hX rfl rfl dX3_bestWay_23 ?_
      refine at_bipush hX (v := 16) (by decide) dX3_bestWay_24 ?_
      refine at_icmp_ge hX (tgt := 86) (by decide) dX3_bestWay_26 (fun c26 => ?_) (fun c26 => ?_)
      · replace e := ip_ c26 e
        refine at_iconst hX (v := -1) (by decide) dX3_bestWay_86 ?_
        exact at_ireturn hX hR rfl (by cases e; rfl) (by cases e; rfl) dX3_bestWay_87
      · replace e := in_ c26 e
        refine at_iload_n hX rfl rfl dX3_bestWay_29 ?_
        refine at_bipush hX (v := 12) (by decide) dX3_bestWay_30 ?_
        refine at_imul hX dX3_bestWay_32 ?_
        refine at_iload hX rfl dX3_bestWay_33 ?_
        refine at_iadd hX dX3_bestWay_35 ?_
        refine at_istore hX hn (by decide) dX3_bestWay_36 ?_
        refine at_aload_n hX rfl rfl dX3_bestWay_38 ?_
        refine at_iload hX rfl dX3_bestWay_39 ?_
        refine at_iload_n hX rfl rfl dX3_bestWay_41 ?_
        obtain ⟨v42, e1, e⟩ := ob_some e
        refine at_callV2 hX cv_X3_133 (by decide) (c_X3_isFree _ _ _ _ _ e1) (Nat.le_of_ble_eq_true rfl) dX3_bestWay_42 ?_
        refine at_if_eq hX (tgt := 80) (by decide) dX3_bestWay_45 (fun c45 => ?_) (fun c45 => ?_)
        · replace e := ip_ c45 e
          exact at_sub [0, 1, 2, 3, 4] rfl ((A_X3_bestWay_80 hn hX hR (F_X3_bestWay_16 n) ih) _ _ _ _ _ e)
        · replace e := in_ c45 e
          refine at_bipush hX (v := 100) (by decide) dX3_bestWay_48 ?_
          refine at_aload_n hX rfl rfl dX3_bestWay_50 ?_
          refine gf_X3_27 hX dX3_bestWay_51 ?_
          refine at_iload hX rfl dX3_bestWay_54 ?_
          obtain ⟨hi, v56, ev56, e⟩ := rA_some e
          refine at_iald hX (o := 27) (by decide) rfl hi dX3_bestWay_56 ?_
          refine at_ti ev56 ?_
          refine at_isub hX dX3_bestWay_57 ?_
          refine at_aload_n hX rfl rfl dX3_bestWay_58 ?_
          refine at_iload_n hX rfl rfl dX3_bestWay_59 ?_
          refine at_aload_n hX rfl rfl dX3_bestWay_60 ?_
          refine gf_X3_24 hX dX3_bestWay_61 ?_
          refine at_iload hX rfl dX3_bestWay_64 ?_
          obtain ⟨hi, v66, ev66, e⟩ := rA_some e
          refine at_iald hX (o := 26) (by decide) rfl hi dX3_bestWay_66 ?_
          refine at_ti ev66 ?_
          refine at_ior hX dX3_bestWay_67 ?_
          refine at_iconst hX (v := 1) (by decide) dX3_bestWay_68 ?_
          obtain ⟨⟨v69, h69⟩, e1, e⟩ := ob_some e
          refine at_callV2 hX cv_X3_130 (by decide) (c_X3_cheapest _ _ _ _ _ e1) (Nat.le_of_ble_eq_true rfl) dX3_bestWay_69 ?_
          refine at_iadd hX dX3_bestWay_72 ?_
          refine at_iload_n hX rfl rfl dX3_bestWay_73 ?_
          refine at_icmp_ne hX (tgt := 80) (by decide) dX3_bestWay_74 (fun c74 => ?_) (fun c74 => ?_)
          · replace e := in_ c74 e
            exact at_sub [0, 1, 2, 3, 4] rfl ((A_X3_bestWay_80 hn hX hR (F_X3_bestWay_16 n) ih) _ _ _ _ _ e)
          · replace e := ip_ c74 e
            refine at_iload hX rfl dX3_bestWay_77 ?_
            exact at_ireturn hX hR rfl (by cases e; rfl) (by cases e; rfl) dX3_bestWay_79
def F_X3_bestWay (x1 : Int32) (h : Hp) : Option (Int32 × Hp) := (F_X3_firstFree x1).bind fun v2 => (F_X3_cheapest RF_ x1 (0 : Int32) h).bind fun ((v9, h9) : Int32 × Hp) => (F_X3_bestWay_16 FU_) x1 v2 v9 (0 : Int32) h9
theorem c_X3_bestWay (l : Launch) (G : Gl) (x1 : Int32) (h : Hp) {r : Int32} {h' : Hp} (e : F_X3_bestWay x1 h = some (r, h')) : Does l G 44 M_X3_bestWay [.ref 3, .int x1] h (some (.int r)) h' := by
  refine Does.of (by decide) rfl (Nat.le_of_ble_eq_true rfl) (fun X hl hG hn hX hR => ?_)
  unfold F_X3_bestWay at e
  subst hl; subst hG
  show At_ X 0 [(0, .ref 3), (1, .int x1)] [] h
  refine at_aload_n hX rfl rfl dX3_bestWay_0 ?_
  refine at_iload_n hX rfl rfl dX3_bestWay_1 ?_
  obtain ⟨v2, e1, e⟩ := ob_some e
  refine at_callV1 hX cv_X3_127 (by decide) (c_X3_firstFree _ _ _ _ e1) (Nat.le_of_ble_eq_true rfl) dX3_bestWay_2 ?_
  refine at_istore_n hX rfl hn (by decide) dX3_bestWay_5 ?_
  refine at_aload_n hX rfl rfl dX3_bestWay_6 ?_
  refine at_iload_n hX rfl rfl dX3_bestWay_7 ?_
  refine at_iconst hX (v := 0) (by decide) dX3_bestWay_8 ?_
  obtain ⟨⟨v9, h9⟩, e1, e⟩ := ob_some e
  refine at_callV2 hX cv_X3_130 (by decide) (c_X3_cheapest _ _ _ _ _ e1) (Nat.le_of_ble_eq_true rfl) dX3_bestWay_9 ?_
  refine at_istore_n hX rfl hn (by decide) dX3_bestWay_12 ?_
  refine at_iconst hX (v := 0) (by decide) dX3_bestWay_13 ?_
  refine at_istore hX hn (by decide) dX3_bestWay_14 ?_
  exact at_sub [0, 1, 2, 3, 4] rfl ((A_X3_bestWay_16 hn hX hR FU_) _ _ _ _ _ e)
