
def F_X7_box_20 (x1 : Int32) (x2 : Int32) (s0 : Int32) (h : Hp) : Option (Int32 × Hp) := if s0 = (0 : Int32) then rA_ h 41 7 x1 fun v36 => wA_ h 41 7 x1 x2 fun h45 => some (v36, h45) else (F_X7_refuse s0 h).bind fun ((v27, h27) : Int32 × Hp) => some (v27, h27)
theorem A_X7_box_20 {X : CX} {h' : Hp} {r : Int32} (hn : (xc_ X).maxLocals = 5) (hX : Ok_ X RX7 cX7_box 2) (hR : Rt_ X (some .int) (some (.int r)) h') (x1 : Int32) (x2 : Int32) (s0 : Int32) (h : Hp) (e : F_X7_box_20 x1 x2 s0 h = some (r, h')) : At_ X 20 [(0, .ref 7), (1, .int x1), (2, .int x2)] [.int s0] h := by
  unfold F_X7_box_20 at e
  refine at_istore_n hX rfl hn (by decide) dX7_box_20 ?_
  refine at_iload_n hX rfl rfl dX7_box_21 ?_
  refine at_if_eq hX (tgt := 31) (by decide) dX7_box_22 (fun c22 => ?_) (fun c22 => ?_)
  · replace e := ip_ c22 e
    refine at_aload_n hX rfl rfl dX7_box_31 ?_
    refine gf_X7_19 hX dX7_box_32 ?_
    refine at_iload_n hX rfl rfl dX7_box_35 ?_
    obtain ⟨hi, v36, ev36, e⟩ := rA_some e
    refine at_iald hX (o := 41) (by decide) rfl hi dX7_box_36 ?_
    refine at_ti ev36 ?_
    refine at_istore hX hn (by decide) dX7_box_37 ?_
    refine at_aload_n hX rfl rfl dX7_box_39 ?_
    refine gf_X7_19 hX dX7_box_40 ?_
    refine at_iload_n hX rfl rfl dX7_box_43 ?_
    refine at_iload_n hX rfl rfl dX7_box_44 ?_
    obtain ⟨hi, h45, eh45, e⟩ := wA_some e
    refine at_iast hX (o := 41) (by decide) rfl hi dX7_box_45 ?_
    refine at_th eh45 ?_
    refine at_iload hX rfl dX7_box_46 ?_
    exact at_ireturn hX hR rfl (by cases e; rfl) (by cases e; rfl) dX7_box_48
  · replace e := in_ c22 e
    refine at_aload_n hX rfl rfl dX7_box_25 ?_
    refine at_iload_n hX rfl rfl dX7_box_26 ?_
    obtain ⟨⟨v27, h27⟩, e1, e⟩ := ob_some e
    refine at_callV1 hX cv_X7_106 (by decide) (c_X7_refuse _ _ _ _ e1) (Nat.le_of_ble_eq_true rfl) dX7_box_27 ?_
    exact at_ireturn hX hR rfl (by cases e; rfl) (by cases e; rfl) dX7_box_30
def F_X7_box (x1 : Int32) (x2 : Int32) (h : Hp) : Option (Int32 × Hp) := (F_X7_isIn x1 (7 : Int32)).bind fun v3 => if v3 = (0 : Int32) then F_X7_box_20 x1 x2 (-1 : Int32) h else (F_X7_wrong x2 (0 : Int32) (99 : Int32)).bind fun v13 => F_X7_box_20 x1 x2 v13 h
theorem c_X7_box (l : Launch) (G : Gl) (x1 : Int32) (x2 : Int32) (h : Hp) {r : Int32} {h' : Hp} (e : F_X7_box x1 x2 h = some (r, h')) : Does l G 2 M_X7_box [.ref 7, .int x1, .int x2] h (some (.int r)) h' := by
  refine Does.of (by decide) rfl (Nat.le_of_ble_eq_true rfl) (fun X hl hG hn hX hR => ?_)
  unfold F_X7_box at e
  subst hl; subst hG
  show At_ X 0 [(0, .ref 7), (1, .int x1), (2, .int x2)] [] h
  refine at_iload_n hX rfl rfl dX7_box_0 ?_
  refine at_bipush hX (v := 7) (by decide) dX7_box_1 ?_
  obtain ⟨v3, e1, e⟩ := ob_some e
  refine at_callS2 hX cv_X7_98 (by decide) (c_X7_isIn _ _ _ _ _ e1) (Nat.le_of_ble_eq_true rfl) dX7_box_3 ?_
  refine at_if_eq hX (tgt := 19) (by decide) dX7_box_6 (fun c6 => ?_) (fun c6 => ?_)
  · replace e := ip_ c6 e
    refine at_iconst hX (v := -1) (by decide) dX7_box_19 ?_
    exact at_sub [0, 1, 2] rfl ((A_X7_box_20 hn hX hR) _ _ _ _ e)
  · replace e := in_ c6 e
    refine at_iload_n hX rfl rfl dX7_box_9 ?_
    refine at_iconst hX (v := 0) (by decide) dX7_box_10 ?_
    refine at_bipush hX (v := 99) (by decide) dX7_box_11 ?_
    obtain ⟨v13, e1, e⟩ := ob_some e
    refine at_callS3 hX cv_X7_219 (by decide) (c_X7_wrong _ _ _ _ _ _ e1) (Nat.le_of_ble_eq_true rfl) dX7_box_13 ?_
    refine at_goto hX (tgt := 20) (by decide) dX7_box_16 ?_
    exact at_sub [0, 1, 2] rfl ((A_X7_box_20 hn hX hR) _ _ _ _ e)

def F_X7_findLacking_217 (k119 : Int32 → Hp → Option Hp) (x1 : Int32) (h : Hp) : Option Hp := k119 (x1 + (-1 : Int32)) h
theorem A_X7_findLacking_217 {X : CX} {h' : Hp} (hn : (xc_ X).maxLocals = 2) (hX : Ok_ X RX7 cX7_findLacking 2) (hR : Rt_ X none none h') (k119 : Int32 → Hp → Option Hp) (hk119 : ∀ (x1 : Int32) (h : Hp), k119 x1 h = some h' → At_ X 119 [(0, .ref 7), (1, .int x1)] [] h) (x1 : Int32) (h : Hp) (e : F_X7_findLacking_217 k119 x1 h = some h') : At_ X 217 [(0, .ref 7), (1, .int x1)] [] h := by
  unfold F_X7_findLacking_217 at e
  refine at_iinc hX hn (by decide) rfl (v := -1) (by decide) dX7_findLacking_217 ?_
  refine at_goto hX (tgt := 119) (by decide) dX7_findLacking_220 ?_
  exact at_sub [0, 1] rfl (hk119 _ _ e)
def F_X7_findLacking_173 (k123 : Int32 → Hp → Option Hp) (k217 : Int32 → Hp → Option Hp) (x1 : Int32) (s0 : Int32) (s1 : Int32) (h : Hp) : Option Hp := if s0 ≤ s1 then k217 x1 h else rS_ [0, 0, 0, 1, 1, 2, 4] x1 fun v184 => rA_ h 60 7 v184 fun v186 => wA_ h 60 7 v184 (v186 - (1 : Int32)) fun h189 => rS_ [0, 0, 1, 1, 1, 2, 4] x1 fun v198 => rA_ h189 60 7 v198 fun v200 => wA_ h189 60 7 v198 (v200 - (1 : Int32)) fun h203 => rA_ h203 61 7 x1 fun v210 => wA_ h203 61 7 x1 (v210 - (1 : Int32)) fun h213 => k123 x1 h213
theorem A_X7_findLacking_173 {X : CX} {h' : Hp} (hn : (xc_ X).maxLocals = 2) (hX : Ok_ X RX7 cX7_findLacking 2) (hR : Rt_ X none none h') (k123 : Int32 → Hp → Option Hp) (hk123 : ∀ (x1 : Int32) (h : Hp), k123 x1 h = some h' → At_ X 123 [(0, .ref 7), (1, .int x1)] [] h) (k217 : Int32 → Hp → Option Hp) (hk217 : ∀ (x1 : Int32) (h : Hp), k217 x1 h = some h' → At_ X 217 [(0, .ref 7), (1, .int x1)] [] h) (x1 : Int32) (s0 : Int32) (s1 : Int32) (h : Hp) (e : F_X7_findLacking_173 k123 k217 x1 s0 s1 h = some h') : At_ X 173 [(0, .ref 7), (1, .int x1)] [.int s1, .int s0] h := by
  unfold F_X7_findLacking_173 at e
  refine at_icmp_le hX (tgt := 217) (by decide) dX7_findLacking_173 (fun c173 => ?_) (fun c173 => ?_)
  · replace e := ip_ c173 e
    exact at_sub [0, 1] rfl (hk217 _ _ e)
  · replace e := in_ c173 e
    refine at_aload_n hX rfl rfl dX7_findLacking_176 ?_
    refine gf_X7_82 hX dX7_findLacking_177 ?_
    refine gs_X7_265 hX dX7_findLacking_180 ?_
    refine at_iload_n hX rfl rfl dX7_findLacking_183 ?_
    obtain ⟨hi, v184, ev184, e⟩ := rS_some e
    refine at_sald hX 8 rfl rfl hi dX7_findLacking_184 ?_
    refine at_ti ev184 ?_
    refine at_dup2 hX rfl rfl dX7_findLacking_185 ?_
    obtain ⟨hi, v186, ev186, e⟩ := rA_some e
    refine at_iald hX (o := 60) (by decide) rfl hi dX7_findLacking_186 ?_
    refine at_ti ev186 ?_
    refine at_iconst hX (v := 1) (by decide) dX7_findLacking_187 ?_
    refine at_isub hX dX7_findLacking_188 ?_
    obtain ⟨hi, h189, eh189, e⟩ := wA_some e
    refine at_iast hX (o := 60) (by decide) rfl hi dX7_findLacking_189 ?_
    refine at_th eh189 ?_
    refine at_aload_n hX rfl rfl dX7_findLacking_190 ?_
    refine gf_X7_82 hX dX7_findLacking_191 ?_
    refine gs_X7_268 hX dX7_findLacking_194 ?_
    refine at_iload_n hX rfl rfl dX7_findLacking_197 ?_
    obtain ⟨hi, v198, ev198, e⟩ := rS_some e
    refine at_sald hX 9 rfl rfl hi dX7_findLacking_198 ?_
    refine at_ti ev198 ?_
    refine at_dup2 hX rfl rfl dX7_findLacking_199 ?_
    obtain ⟨hi, v200, ev200, e⟩ := rA_some e
    refine at_iald hX (o := 60) (by decide) rfl hi dX7_findLacking_200 ?_
    refine at_ti ev200 ?_
    refine at_iconst hX (v := 1) (by decide) dX7_findLacking_201 ?_
    refine at_isub hX dX7_findLacking_202 ?_
    obtain ⟨hi, h203, eh203, e⟩ := wA_some e
    refine at_iast hX (o := 60) (by decide) rfl hi dX7_findLacking_203 ?_
    refine at_th eh203 ?_
    refine at_aload_n hX rfl rfl dX7_findLacking_204 ?_
    refine gf_X7_85 hX dX7_findLacking_205 ?_
    refine at_iload_n hX rfl rfl dX7_findLacking_208 ?_
    refine at_dup2 hX rfl rfl dX7_findLacking_209 ?_
    obtain ⟨hi, v210, ev210, e⟩ := rA_some e
    refine at_iald hX (o := 61) (by decide) rfl hi dX7_findLacking_210 ?_
    refine at_ti ev210 ?_
    refine at_iconst hX (v := 1) (by decide) dX7_findLacking_211 ?_
    refine at_isub hX dX7_findLacking_212 ?_
    obtain ⟨hi, h213, eh213, e⟩ := wA_some e
    refine at_iast hX (o := 61) (by decide) rfl hi dX7_findLacking_213 ?_
    refine at_th eh213 ?_
    refine at_goto hX (tgt := 123) (by decide) dX7_findLacking_214 ?_
    exact at_sub [0, 1] rfl (hk123 _ _ e)
def F_X7_findLacking_123 (n : Nat) (k217 : Int32 → Hp → Option Hp) (x1 : Int32) (h : Hp) : Option Hp := match n with
  | 0 => none
  | n + 1 => rA_ h 61 7 x1 fun v128 => if v128 ≤ (0 : Int32) then k217 x1 h else rS_ [0, 0, 0, 1, 1, 2, 4] x1 fun v140 => rA_ h 60 7 v140 fun v141 => if v141 ≤ (0 : Int32) then k217 x1 h else rS_ [0, 0, 1, 1, 1, 2, 4] x1 fun v153 => rA_ h 60 7 v153 fun v154 => rS_ [0, 0, 0, 1, 1, 2, 4] x1 fun v159 => rS_ [0, 0, 1, 1, 1, 2, 4] x1 fun v164 => if v159 = v164 then (F_X7_findLacking_173 (F_X7_findLacking_123 n k217) k217) x1 v154 (1 : Int32) h else (F_X7_findLacking_173 (F_X7_findLacking_123 n k217) k217) x1 v154 (0 : Int32) h
theorem A_X7_findLacking_123 {X : CX} {h' : Hp} (hn : (xc_ X).maxLocals = 2) (hX : Ok_ X RX7 cX7_findLacking 2) (hR : Rt_ X none none h') (k217 : Int32 → Hp → Option Hp) (hk217 : ∀ (x1 : Int32) (h : Hp), k217 x1 h = some h' → At_ X 217 [(0, .ref 7), (1, .int x1)] [] h) : ∀ (n : Nat) (x1 : Int32) (h : Hp), F_X7_findLacking_123 n k217 x1 h = some h' → At_ X 123 [(0, .ref 7), (1, .int x1)] [] h := by
  intro n
  induction n with
  | zero => intro x1 h e; cases e
  | succ n ih =>
    intro x1 h e
    rw [F_X7_findLacking_123] at e
    refine at_aload_n hX rfl rfl dX7_findLacking_123 ?_
    refine gf_X7_85 hX dX7_findLacking_124 ?_
    refine at_iload_n hX rfl rfl dX7_findLacking_127 ?_
    obtain ⟨hi, v128, ev128, e⟩ := rA_some e
    refine at_iald hX (o := 61) (by decide) rfl hi dX7_findLacking_128 ?_
    refine at_ti ev128 ?_
    refine at_if_le hX (tgt := 217) (by decide) dX7_findLacking_129 (fun c129 => ?_) (fun c129 => ?_)
    · replace e := ip_ c129 e
      exact at_sub [0, 1] rfl (hk217 _ _ e)
    · replace e := in_ c129 e
      refine at_aload_n hX rfl rfl dX7_findLacking_132 ?_
      refine gf_X7_82 hX dX7_findLacking_133 ?_
      refine gs_X7_265 hX dX7_findLacking_136 ?_
      refine at_iload_n hX rfl rfl dX7_findLacking_139 ?_
      obtain ⟨hi, v140, ev140, e⟩ := rS_some e
      refine at_sald hX 8 rfl rfl hi dX7_findLacking_140 ?_
      refine at_ti ev140 ?_
      obtain ⟨hi, v141, ev141, e⟩ := rA_some e
      refine at_iald hX (o := 60) (by decide) rfl hi dX7_findLacking_141 ?_
      refine at_ti ev141 ?_
      refine at_if_le hX (tgt := 217) (by decide) dX7_findLacking_142 (fun c142 => ?_) (fun c142 => ?_)
      · replace e := ip_ c142 e
        exact at_sub [0, 1] rfl (hk217 _ _ e)
      · replace e := in_ c142 e
        refine at_aload_n hX rfl rfl dX7_findLacking_145 ?_
        refine gf_X7_82 hX dX7_findLacking_146 ?_
        refine gs_X7_268 hX dX7_findLacking_149 ?_
        refine at_iload_n hX rfl rfl dX7_findLacking_152 ?_
        obtain ⟨hi, v153, ev153, e⟩ := rS_some e
        refine at_sald hX 9 rfl rfl hi dX7_findLacking_153 ?_
        refine at_ti ev153 ?_
        obtain ⟨hi, v154, ev154, e⟩ := rA_some e
        refine at_iald hX (o := 60) (by decide) rfl hi dX7_findLacking_154 ?_
        refine at_ti ev154 ?_
        refine gs_X7_265 hX dX7_findLacking_155 ?_
        refine at_iload_n hX rfl rfl dX7_findLacking_158 ?_
        obtain ⟨hi, v159, ev159, e⟩ := rS_some e
        refine at_sald hX 8 rfl rfl hi dX7_findLacking_159 ?_
        refine at_ti ev159 ?_
        refine gs_X7_268 hX dX7_findLacking_160 ?_
        refine at_iload_n hX rfl rfl dX7_findLacking_163 ?_
        obtain ⟨hi, v164, ev164, e⟩ := rS_some e
        refine at_sald hX 9 rfl rfl hi dX7_findLacking_164 ?_
        refine at_ti ev164 ?_
        refine at_icmp_ne hX (tgt := 172) (by decide) dX7_findLacking_165 (fun c165 => ?_) (fun c165 => ?_)
        · replace e := in_ c165 e
          refine at_iconst hX (v := 0) (by decide) dX7_findLacking_172 ?_
          exact at_sub [0, 1] rfl ((A_X7_findLacking_173 hn hX hR (F_X7_findLacking_123 n k217) ih k217 hk217) _ _ _ _ e)
        · replace e := ip_ c165 e
          refine at_iconst hX (v := 1) (by decide) dX7_findLacking_168 ?_
          refine at_goto hX (tgt := 173) (by decide) dX7_findLacking_169 ?_
          exact at_sub [0, 1] rfl ((A_X7_findLacking_173 hn hX hR (F_X7_findLacking_123 n k217) ih k217 hk217) _ _ _ _ e)
def F_X7_findLacking_119 (n : Nat) (x1 : Int32) (h : Hp) : Option Hp := match n with
  | 0 => none
  | n + 1 => if x1 ≤ (0 : Int32) then some h else (F_X7_findLacking_123 FU_ (F_X7_findLacking_217 (F_X7_findLacking_119 n))) x1 h
theorem A_X7_findLacking_119 {X : CX} {h' : Hp} (hn : (xc_ X).maxLocals = 2) (hX : Ok_ X RX7 cX7_findLacking 2) (hR : Rt_ X none none h') : ∀ (n : Nat) (x1 : Int32) (h : Hp), F_X7_findLacking_119 n x1 h = some h' → At_ X 119 [(0, .ref 7), (1, .int x1)] [] h := by
  intro n
  induction n with
  | zero => intro x1 h e; cases e
  | succ n ih =>
    intro x1 h e
    rw [F_X7_findLacking_119] at e
    refine at_iload_n hX rfl rfl dX7_findLacking_119 ?_
    refine at_if_le hX (tgt := 223) (by decide) dX7_findLacking_120 (fun c120 => ?_) (fun c120 => ?_)
    · replace e := ip_ c120 e
      exact at_return hX hR rfl (by cases e; rfl) dX7_findLacking_223
    · replace e := in_ c120 e
      exact at_sub [0, 1] rfl ((A_X7_findLacking_123 hn hX hR (F_X7_findLacking_217 (F_X7_findLacking_119 n)) (A_X7_findLacking_217 hn hX hR (F_X7_findLacking_119 n) ih) FU_) _ _ e)
def F_X7_findLacking_116 (h : Hp) : Option Hp := (F_X7_findLacking_119 FU_) (6 : Int32) h
theorem A_X7_findLacking_116 {X : CX} {h' : Hp} (hn : (xc_ X).maxLocals = 2) (hX : Ok_ X RX7 cX7_findLacking 2) (hR : Rt_ X none none h') (h : Hp) (e : F_X7_findLacking_116  h = some h') : At_ X 116 [(0, .ref 7)] [] h := by
  unfold F_X7_findLacking_116 at e
  refine at_bipush hX (v := 6) (by decide) dX7_findLacking_116 ?_
  refine at_istore_n hX rfl hn (by decide) dX7_findLacking_118 ?_
  exact at_sub [0, 1] rfl ((A_X7_findLacking_119 hn hX hR FU_) _ _ e)
def F_X7_findLacking_71 (n : Nat) (k116 : Hp → Option Hp) (x1 : Int32) (h : Hp) : Option Hp := match n with
  | 0 => none
  | n + 1 => if (7 : Int32) ≤ x1 then k116 h else rA_ h 60 7 x1 fun v88 => wA_ h 61 7 x1 (mx_ (0 : Int32) (-v88)) fun h93 => rA_ h93 60 7 x1 fun v105 => wA_ h93 60 7 x1 (mx_ (0 : Int32) v105) fun h109 => (F_X7_findLacking_71 n k116) (x1 + (1 : Int32)) h109
theorem A_X7_findLacking_71 {X : CX} {h' : Hp} (hn : (xc_ X).maxLocals = 2) (hX : Ok_ X RX7 cX7_findLacking 2) (hR : Rt_ X none none h') (k116 : Hp → Option Hp) (hk116 : ∀ (h : Hp), k116  h = some h' → At_ X 116 [(0, .ref 7)] [] h) : ∀ (n : Nat) (x1 : Int32) (h : Hp), F_X7_findLacking_71 n k116 x1 h = some h' → At_ X 71 [(0, .ref 7), (1, .int x1)] [] h := by
  intro n
  induction n with
  | zero => intro x1 h e; cases e
  | succ n ih =>
    intro x1 h e
    rw [F_X7_findLacking_71] at e
    refine at_iload_n hX rfl rfl dX7_findLacking_71 ?_
    refine at_bipush hX (v := 7) (by decide) dX7_findLacking_72 ?_
    refine at_icmp_ge hX (tgt := 116) (by decide) dX7_findLacking_74 (fun c74 => ?_) (fun c74 => ?_)
    · replace e := ip_ c74 e
      exact at_sub [0] rfl (hk116 _ e)
    · replace e := in_ c74 e
      refine at_aload_n hX rfl rfl dX7_findLacking_77 ?_
      refine gf_X7_85 hX dX7_findLacking_78 ?_
      refine at_iload_n hX rfl rfl dX7_findLacking_81 ?_
      refine at_iconst hX (v := 0) (by decide) dX7_findLacking_82 ?_
      refine at_aload_n hX rfl rfl dX7_findLacking_83 ?_
      refine gf_X7_82 hX dX7_findLacking_84 ?_
      refine at_iload_n hX rfl rfl dX7_findLacking_87 ?_
      obtain ⟨hi, v88, ev88, e⟩ := rA_some e
      refine at_iald hX (o := 60) (by decide) rfl hi dX7_findLacking_88 ?_
      refine at_ti ev88 ?_
      refine at_ineg hX dX7_findLacking_89 ?_
      refine at_mmax hX cv_X7_165 (by decide) (Nat.le_of_ble_eq_true rfl) dX7_findLacking_90 ?_
      obtain ⟨hi, h93, eh93, e⟩ := wA_some e
      refine at_iast hX (o := 61) (by decide) rfl hi dX7_findLacking_93 ?_
      refine at_th eh93 ?_
      refine at_aload_n hX rfl rfl dX7_findLacking_94 ?_
      refine gf_X7_82 hX dX7_findLacking_95 ?_
      refine at_iload_n hX rfl rfl dX7_findLacking_98 ?_
      refine at_iconst hX (v := 0) (by decide) dX7_findLacking_99 ?_
      refine at_aload_n hX rfl rfl dX7_findLacking_100 ?_
      refine gf_X7_82 hX dX7_findLacking_101 ?_
      refine at_iload_n hX rfl rfl dX7_findLacking_104 ?_
      obtain ⟨hi, v105, ev105, e⟩ := rA_some e
      refine at_iald hX (o := 60) (by decide) rfl hi dX7_findLacking_105 ?_
      refine at_ti ev105 ?_
      refine at_mmax hX cv_X7_165 (by decide) (Nat.le_of_ble_eq_true rfl) dX7_findLacking_106 ?_
      obtain ⟨hi, h109, eh109, e⟩ := wA_some e
      refine at_iast hX (o := 60) (by decide) rfl hi dX7_findLacking_109 ?_
      refine at_th eh109 ?_
      refine at_iinc hX hn (by decide) rfl (v := 1) (by decide) dX7_findLacking_110 ?_
      refine at_goto hX (tgt := 71) (by decide) dX7_findLacking_113 ?_
      exact at_sub [0, 1] rfl (ih _ _ e)
def F_X7_findLacking_69 (h : Hp) : Option Hp := (F_X7_findLacking_71 FU_ F_X7_findLacking_116) (0 : Int32) h
theorem A_X7_findLacking_69 {X : CX} {h' : Hp} (hn : (xc_ X).maxLocals = 2) (hX : Ok_ X RX7 cX7_findLacking 2) (hR : Rt_ X none none h') (h : Hp) (e : F_X7_findLacking_69  h = some h') : At_ X 69 [(0, .ref 7)] [] h := by
  unfold F_X7_findLacking_69 at e
  refine at_iconst hX (v := 0) (by decide) dX7_findLacking_69 ?_
  refine at_istore_n hX rfl hn (by decide) dX7_findLacking_70 ?_
  exact at_sub [0, 1] rfl ((A_X7_findLacking_71 hn hX hR F_X7_findLacking_116 (A_X7_findLacking_116 hn hX hR) FU_) _ _ e)
def F_X7_findLacking_61 (k28 : Int32 → Hp → Option Hp) (x1 : Int32) (s1 : Int32) (s2 : Int32) (s3 : Int32) (h : Hp) : Option Hp := wA_ h 60 7 s1 (s2 - s3) fun h62 => k28 (x1 + (1 : Int32)) h62
theorem A_X7_findLacking_61 {X : CX} {h' : Hp} (hn : (xc_ X).maxLocals = 2) (hX : Ok_ X RX7 cX7_findLacking 2) (hR : Rt_ X none none h') (k28 : Int32 → Hp → Option Hp) (hk28 : ∀ (x1 : Int32) (h : Hp), k28 x1 h = some h' → At_ X 28 [(0, .ref 7), (1, .int x1)] [] h) (x1 : Int32) (s1 : Int32) (s2 : Int32) (s3 : Int32) (h : Hp) (e : F_X7_findLacking_61 k28 x1 s1 s2 s3 h = some h') : At_ X 61 [(0, .ref 7), (1, .int x1)] [.int s3, .int s2, .int s1, .ref 60] h := by
  unfold F_X7_findLacking_61 at e
  refine at_isub hX dX7_findLacking_61 ?_
  obtain ⟨hi, h62, eh62, e⟩ := wA_some e
  refine at_iast hX (o := 60) (by decide) rfl hi dX7_findLacking_62 ?_
  refine at_th eh62 ?_
  refine at_iinc hX hn (by decide) rfl (v := 1) (by decide) dX7_findLacking_63 ?_
  refine at_goto hX (tgt := 28) (by decide) dX7_findLacking_66 ?_
  exact at_sub [0, 1] rfl (hk28 _ _ e)
def F_X7_findLacking_28 (n : Nat) (k69 : Hp → Option Hp) (x1 : Int32) (h : Hp) : Option Hp := match n with
  | 0 => none
  | n + 1 => if gI_ h 458 ≤ x1 then k69 h else rA_ h 42 40 x1 fun v45 => rA_ h 60 7 v45 fun v47 => (F_X7_isThere x1 h).bind fun v50 => if v50 = (0 : Int32) then (F_X7_findLacking_61 (F_X7_findLacking_28 n k69)) x1 v45 v47 (0 : Int32) h else (F_X7_findLacking_61 (F_X7_findLacking_28 n k69)) x1 v45 v47 (1 : Int32) h
theorem A_X7_findLacking_28 {X : CX} {h' : Hp} (hn : (xc_ X).maxLocals = 2) (hX : Ok_ X RX7 cX7_findLacking 2) (hR : Rt_ X none none h') (k69 : Hp → Option Hp) (hk69 : ∀ (h : Hp), k69  h = some h' → At_ X 69 [(0, .ref 7)] [] h) : ∀ (n : Nat) (x1 : Int32) (h : Hp), F_X7_findLacking_28 n k69 x1 h = some h' → At_ X 28 [(0, .ref 7), (1, .int x1)] [] h := by
  intro n
  induction n with
  | zero => intro x1 h e; cases e
  | succ n ih =>
    intro x1 h e
    rw [F_X7_findLacking_28] at e
    refine at_iload_n hX rfl rfl dX7_findLacking_28 ?_
    refine at_aload_n hX rfl rfl dX7_findLacking_29 ?_
    refine gf_X7_133 hX dX7_findLacking_30 ?_
    refine at_icmp_ge hX (tgt := 69) (by decide) dX7_findLacking_33 (fun c33 => ?_) (fun c33 => ?_)
    · replace e := ip_ c33 e
      exact at_sub [0] rfl (hk69 _ e)
    · replace e := in_ c33 e
      refine at_aload_n hX rfl rfl dX7_findLacking_36 ?_
      refine gf_X7_82 hX dX7_findLacking_37 ?_
      refine at_aload_n hX rfl rfl dX7_findLacking_40 ?_
      refine gf_X7_22 hX dX7_findLacking_41 ?_
      refine at_iload_n hX rfl rfl dX7_findLacking_44 ?_
      obtain ⟨hi, v45, ev45, e⟩ := rA_some e
      refine at_iald hX (o := 42) (by decide) rfl hi dX7_findLacking_45 ?_
      refine at_ti ev45 ?_
      refine at_dup2 hX rfl rfl dX7_findLacking_46 ?_
      obtain ⟨hi, v47, ev47, e⟩ := rA_some e
      refine at_iald hX (o := 60) (by decide) rfl hi dX7_findLacking_47 ?_
      refine at_ti ev47 ?_
      refine at_aload_n hX rfl rfl dX7_findLacking_48 ?_
      refine at_iload_n hX rfl rfl dX7_findLacking_49 ?_
      obtain ⟨v50, e1, e⟩ := ob_some e
      refine at_callV1 hX cv_X7_152 (by decide) (c_X7_isThere _ _ _ _ e1) (Nat.le_of_ble_eq_true rfl) dX7_findLacking_50 ?_
      refine at_if_eq hX (tgt := 60) (by decide) dX7_findLacking_53 (fun c53 => ?_) (fun c53 => ?_)
      · replace e := ip_ c53 e
        refine at_iconst hX (v := 0) (by decide) dX7_findLacking_60 ?_
        exact at_sub [0, 1] rfl ((A_X7_findLacking_61 hn hX hR (F_X7_findLacking_28 n k69) ih) _ _ _ _ _ e)
      · replace e := in_ c53 e
        refine at_iconst hX (v := 1) (by decide) dX7_findLacking_56 ?_
        refine at_goto hX (tgt := 61) (by decide) dX7_findLacking_57 ?_
        exact at_sub [0, 1] rfl ((A_X7_findLacking_61 hn hX hR (F_X7_findLacking_28 n k69) ih) _ _ _ _ _ e)
def F_X7_findLacking_26 (h : Hp) : Option Hp := (F_X7_findLacking_28 FU_ F_X7_findLacking_69) (0 : Int32) h
theorem A_X7_findLacking_26 {X : CX} {h' : Hp} (hn : (xc_ X).maxLocals = 2) (hX : Ok_ X RX7 cX7_findLacking 2) (hR : Rt_ X none none h') (h : Hp) (e : F_X7_findLacking_26  h = some h') : At_ X 26 [(0, .ref 7)] [] h := by
  unfold F_X7_findLacking_26 at e
  refine at_iconst hX (v := 0) (by decide) dX7_findLacking_26 ?_
  refine at_istore_n hX rfl hn (by decide) dX7_findLacking_27 ?_
  exact at_sub [0, 1] rfl ((A_X7_findLacking_28 hn hX hR F_X7_findLacking_69 (A_X7_findLacking_69 hn hX hR) FU_) _ _ e)
def F_X7_findLacking_2 (n : Nat) (k26 : Hp → Option Hp) (x1 : Int32) (h : Hp) : Option Hp := match n with
  | 0 => none
  | n + 1 => if (7 : Int32) ≤ x1 then k26 h else rA_ h 41 7 x1 fun v18 => wA_ h 60 7 x1 v18 fun h19 => (F_X7_findLacking_2 n k26) (x1 + (1 : Int32)) h19
theorem A_X7_findLacking_2 {X : CX} {h' : Hp} (hn : (xc_ X).maxLocals = 2) (hX : Ok_ X RX7 cX7_findLacking 2) (hR : Rt_ X none none h') (k26 : Hp → Option Hp) (hk26 : ∀ (h : Hp), k26  h = some h' → At_ X 26 [(0, .ref 7)] [] h) : ∀ (n : Nat) (x1 : Int32) (h : Hp), F_X7_findLacking_2 n k26 x1 h = some h' → At_ X 2 [(0, .ref 7), (1, .int x1)] [] h := by
  intro n
  induction n with
  | zero => intro x1 h e; cases e
  | succ n ih =>
    intro x1 h e
    rw [F_X7_findLacking_2] at e
    refine at_iload_n hX rfl rfl dX7_findLacking_2 ?_
    refine at_bipush hX (v := 7) (by decide) dX7_findLacking_3 ?_
    refine at_icmp_ge hX (tgt := 26) (by decide) dX7_findLacking_5 (fun c5 => ?_) (fun c5 => ?_)
    · replace e := ip_ c5 e
      exact at_sub [0] rfl (hk26 _ e)
    · replace e := in_ c5 e
      refine at_aload_n hX rfl rfl dX7_findLacking_8 ?_
      refine gf_X7_82 hX dX7_findLacking_9 ?_
      refine at_iload_n hX rfl rfl dX7_findLacking_12 ?_
      refine at_aload_n hX rfl rfl dX7_findLacking_13 ?_
      refine gf_X7_19 hX dX7_findLacking_14 ?_
      refine at_iload_n hX rfl rfl dX7_findLacking_17 ?_
      obtain ⟨hi, v18, ev18, e⟩ := rA_some e
      refine at_iald hX (o := 41) (by decide) rfl hi dX7_findLacking_18 ?_
      refine at_ti ev18 ?_
      obtain ⟨hi, h19, eh19, e⟩ := wA_some e
      refine at_iast hX (o := 60) (by decide) rfl hi dX7_findLacking_19 ?_
      refine at_th eh19 ?_
      refine at_iinc hX hn (by decide) rfl (v := 1) (by decide) dX7_findLacking_20 ?_
      refine at_goto hX (tgt := 2) (by decide) dX7_findLacking_23 ?_
      exact at_sub [0, 1] rfl (ih _ _ e)
def F_X7_findLacking (h : Hp) : Option Hp := (F_X7_findLacking_2 FU_ F_X7_findLacking_26) (0 : Int32) h
theorem c_X7_findLacking (l : Launch) (G : Gl) (h : Hp) {h' : Hp} (e : F_X7_findLacking  h = some h') : Does l G 2 M_X7_findLacking [.ref 7] h none h' := by
  refine Does.of (by decide) rfl (Nat.le_of_ble_eq_true rfl) (fun X hl hG hn hX hR => ?_)
  unfold F_X7_findLacking at e
  subst hl; subst hG
  show At_ X 0 [(0, .ref 7)] [] h
  refine at_iconst hX (v := 0) (by decide) dX7_findLacking_0 ?_
  refine at_istore_n hX rfl hn (by decide) dX7_findLacking_1 ?_
  exact at_sub [0, 1] rfl ((A_X7_findLacking_2 hn hX hR F_X7_findLacking_26 (A_X7_findLacking_26 hn hX hR) FU_) _ _ e)

def F_X7_lacking_8 (n : Nat) (x1 : Int32) (x2 : Int32) (h : Hp) : Option (Int32 × Hp) := match n with
  | 0 => none
  | n + 1 => if (7 : Int32) ≤ x2 then some (x1, h) else rA_ h 61 7 x2 fun v20 => (F_X7_lacking_8 n) (x1 + v20) (x2 + (1 : Int32)) h
theorem A_X7_lacking_8 {X : CX} {h' : Hp} {r : Int32} (hn : (xc_ X).maxLocals = 3) (hX : Ok_ X RX7 cX7_lacking 3) (hR : Rt_ X (some .int) (some (.int r)) h') : ∀ (n : Nat) (x1 : Int32) (x2 : Int32) (h : Hp), F_X7_lacking_8 n x1 x2 h = some (r, h') → At_ X 8 [(0, .ref 7), (1, .int x1), (2, .int x2)] [] h := by
  intro n
  induction n with
  | zero => intro x1 x2 h e; cases e
  | succ n ih =>
    intro x1 x2 h e
    rw [F_X7_lacking_8] at e
    refine at_iload_n hX rfl rfl dX7_lacking_8 ?_
    refine at_bipush hX (v := 7) (by decide) dX7_lacking_9 ?_
    refine at_icmp_ge hX (tgt := 29) (by decide) dX7_lacking_11 (fun c11 => ?_) (fun c11 => ?_)
    · replace e := ip_ c11 e
      refine at_iload_n hX rfl rfl dX7_lacking_29 ?_
      exact at_ireturn hX hR rfl (by cases e; rfl) (by cases e; rfl) dX7_lacking_30
    · replace e := in_ c11 e
      refine at_iload_n hX rfl rfl dX7_lacking_14 ?_
      refine at_aload_n hX rfl rfl dX7_lacking_15 ?_
      refine gf_X7_85 hX dX7_lacking_16 ?_
      refine at_iload_n hX rfl rfl dX7_lacking_19 ?_
      obtain ⟨hi, v20, ev20, e⟩ := rA_some e
      refine at_iald hX (o := 61) (by decide) rfl hi dX7_lacking_20 ?_
      refine at_ti ev20 ?_
      refine at_iadd hX dX7_lacking_21 ?_
      refine at_istore_n hX rfl hn (by decide) dX7_lacking_22 ?_
      refine at_iinc hX hn (by decide) rfl (v := 1) (by decide) dX7_lacking_23 ?_
      refine at_goto hX (tgt := 8) (by decide) dX7_lacking_26 ?_
      exact at_sub [0, 1, 2] rfl (ih _ _ _ e)
def F_X7_lacking (h : Hp) : Option (Int32 × Hp) := (F_X7_findLacking  h).bind fun h1 => (F_X7_lacking_8 FU_) (0 : Int32) (0 : Int32) h1
theorem c_X7_lacking (l : Launch) (G : Gl) (h : Hp) {r : Int32} {h' : Hp} (e : F_X7_lacking  h = some (r, h')) : Does l G 3 M_X7_lacking [.ref 7] h (some (.int r)) h' := by
  refine Does.of (by decide) rfl (Nat.le_of_ble_eq_true rfl) (fun X hl hG hn hX hR => ?_)
  unfold F_X7_lacking at e
  subst hl; subst hG
  show At_ X 0 [(0, .ref 7)] [] h
  refine at_aload_n hX rfl rfl dX7_lacking_0 ?_
  obtain ⟨h1, e1, e⟩ := ob_some e
  refine at_callV0 hX cv_X7_271 (by decide) (c_X7_findLacking _ _  _ e1) (Nat.le_of_ble_eq_true rfl) dX7_lacking_1 ?_
  refine at_iconst hX (v := 0) (by decide) dX7_lacking_4 ?_
  refine at_istore_n hX rfl hn (by decide) dX7_lacking_5 ?_
  refine at_iconst hX (v := 0) (by decide) dX7_lacking_6 ?_
  refine at_istore_n hX rfl hn (by decide) dX7_lacking_7 ?_
  exact at_sub [0, 1, 2] rfl ((A_X7_lacking_8 hn hX hR FU_) _ _ _ e)

def F_X7_lacks (x1 : Int32) (h : Hp) : Option (Int32 × Hp) := (F_X7_isIn x1 (7 : Int32)).bind fun v3 => if v3 = (0 : Int32) then (F_X7_refuse (-1 : Int32) h).bind fun ((v11, h11) : Int32 × Hp) => some (v11, h11) else (F_X7_findLacking  h).bind fun h16 => rA_ h16 61 7 x1 fun v24 => some (v24, h16)
theorem c_X7_lacks (l : Launch) (G : Gl) (x1 : Int32) (h : Hp) {r : Int32} {h' : Hp} (e : F_X7_lacks x1 h = some (r, h')) : Does l G 3 M_X7_lacks [.ref 7, .int x1] h (some (.int r)) h' := by
  refine Does.of (by decide) rfl (Nat.le_of_ble_eq_true rfl) (fun X hl hG hn hX hR => ?_)
  unfold F_X7_lacks at e
  subst hl; subst hG
  show At_ X 0 [(0, .ref 7), (1, .int x1)] [] h
  refine at_iload_n hX rfl rfl dX7_lacks_0 ?_
  refine at_bipush hX (v := 7) (by decide) dX7_lacks_1 ?_
  obtain ⟨v3, e1, e⟩ := ob_some e
  refine at_callS2 hX cv_X7_98 (by decide) (c_X7_isIn _ _ _ _ _ e1) (Nat.le_of_ble_eq_true rfl) dX7_lacks_3 ?_
  refine at_if_ne hX (tgt := 15) (by decide) dX7_lacks_6 (fun c6 => ?_) (fun c6 => ?_)
  · replace e := in_ c6 e
    refine at_aload_n hX rfl rfl dX7_lacks_15 ?_
    obtain ⟨h16, e1, e⟩ := ob_some e
    refine at_callV0 hX cv_X7_271 (by decide) (c_X7_findLacking _ _  _ e1) (Nat.le_of_ble_eq_true rfl) dX7_lacks_16 ?_
    refine at_aload_n hX rfl rfl dX7_lacks_19 ?_
    refine gf_X7_85 hX dX7_lacks_20 ?_
    refine at_iload_n hX rfl rfl dX7_lacks_23 ?_
    obtain ⟨hi, v24, ev24, e⟩ := rA_some e
    refine at_iald hX (o := 61) (by decide) rfl hi dX7_lacks_24 ?_
    refine at_ti ev24 ?_
    exact at_ireturn hX hR rfl (by cases e; rfl) (by cases e; rfl) dX7_lacks_25
  · replace e := ip_ c6 e
    refine at_aload_n hX rfl rfl dX7_lacks_9 ?_
    refine at_iconst hX (v := -1) (by decide) dX7_lacks_10 ?_
    obtain ⟨⟨v11, h11⟩, e1, e⟩ := ob_some e
    refine at_callV1 hX cv_X7_106 (by decide) (c_X7_refuse _ _ _ _ e1) (Nat.le_of_ble_eq_true rfl) dX7_lacks_11 ?_
    exact at_ireturn hX hR rfl (by cases e; rfl) (by cases e; rfl) dX7_lacks_14

def F_X7_isAbove (x1 : Int32) (x2 : Int32) (h : Hp) : Option Int32 := rA_ h 44 40 x1 fun v5 => rA_ h 42 40 x1 fun v11 => rA_ h 43 40 x1 fun v17 => (F_X7_lengthX v11 v17 h).bind fun v18 => rA_ h 44 40 x2 fun v27 => rA_ h 42 40 x2 fun v33 => rA_ h 43 40 x2 fun v39 => (F_X7_lengthX v33 v39 h).bind fun v40 => rA_ h 44 40 x1 fun v52 => rA_ h 44 40 x2 fun v58 => bd_ ((mn_ (v5 + v18) (v27 + v40)) - (mx_ v52 v58)) fun y63 => rA_ h 45 40 x1 fun v69 => rA_ h 42 40 x1 fun v75 => rA_ h 43 40 x1 fun v81 => (F_X7_lengthY v75 v81 h).bind fun v82 => rA_ h 45 40 x2 fun v91 => rA_ h 42 40 x2 fun v97 => rA_ h 43 40 x2 fun v103 => (F_X7_lengthY v97 v103 h).bind fun v104 => rA_ h 45 40 x1 fun v116 => rA_ h 45 40 x2 fun v122 => bd_ ((mn_ (v69 + v82) (v91 + v104)) - (mx_ v116 v122)) fun y127 => rA_ h 46 40 x1 fun v134 => rA_ h 46 40 x2 fun v140 => if v134 ≤ v140 then some (0 : Int32) else if y63 ≤ (0 : Int32) then some (0 : Int32) else if y127 ≤ (0 : Int32) then some (0 : Int32) else some (1 : Int32)
theorem c_X7_isAbove (l : Launch) (G : Gl) (x1 : Int32) (x2 : Int32) (h : Hp) {r : Int32} (e : F_X7_isAbove x1 x2 h = some r) : Does l G 2 M_X7_isAbove [.ref 7, .int x1, .int x2] h (some (.int r)) h := by
  refine Does.of (by decide) rfl (Nat.le_of_ble_eq_true rfl) (fun X hl hG hn hX hR => ?_)
  unfold F_X7_isAbove at e
  subst hl; subst hG
  show At_ X 0 [(0, .ref 7), (1, .int x1), (2, .int x2)] [] h
  refine at_aload_n hX rfl rfl dX7_isAbove_0 ?_
  refine gf_X7_28 hX dX7_isAbove_1 ?_
  refine at_iload_n hX rfl rfl dX7_isAbove_4 ?_
  obtain ⟨hi, v5, ev5, e⟩ := rA_some e
  refine at_iald hX (o := 44) (by decide) rfl hi dX7_isAbove_5 ?_
  refine at_ti ev5 ?_
  refine at_aload_n hX rfl rfl dX7_isAbove_6 ?_
  refine gf_X7_22 hX dX7_isAbove_7 ?_
  refine at_iload_n hX rfl rfl dX7_isAbove_10 ?_
  obtain ⟨hi, v11, ev11, e⟩ := rA_some e
  refine at_iald hX (o := 42) (by decide) rfl hi dX7_isAbove_11 ?_
  refine at_ti ev11 ?_
  refine at_aload_n hX rfl rfl dX7_isAbove_12 ?_
  refine gf_X7_25 hX dX7_isAbove_13 ?_
  refine at_iload_n hX rfl rfl dX7_isAbove_16 ?_
  obtain ⟨hi, v17, ev17, e⟩ := rA_some e
  refine at_iald hX (o := 43) (by decide) rfl hi dX7_isAbove_17 ?_
  refine at_ti ev17 ?_
  obtain ⟨v18, e1, e⟩ := ob_some e
  refine at_callS2 hX cv_X7_130 (by decide) (c_X7_lengthX _ _ _ _ _ e1) (Nat.le_of_ble_eq_true rfl) dX7_isAbove_18 ?_
  refine at_iadd hX dX7_isAbove_21 ?_
  refine at_aload_n hX rfl rfl dX7_isAbove_22 ?_
  refine gf_X7_28 hX dX7_isAbove_23 ?_
  refine at_iload_n hX rfl rfl dX7_isAbove_26 ?_
  obtain ⟨hi, v27, ev27, e⟩ := rA_some e
  refine at_iald hX (o := 44) (by decide) rfl hi dX7_isAbove_27 ?_
  refine at_ti ev27 ?_
  refine at_aload_n hX rfl rfl dX7_isAbove_28 ?_
  refine gf_X7_22 hX dX7_isAbove_29 ?_
  refine at_iload_n hX rfl rfl dX7_isAbove_32 ?_
  obtain ⟨hi, v33, ev33, e⟩ := rA_some e
  refine at_iald hX (o := 42) (by decide) rfl hi dX7_isAbove_33 ?_
  refine at_ti ev33 ?_
  refine at_aload_n hX rfl rfl dX7_isAbove_34 ?_
  refine gf_X7_25 hX dX7_isAbove_35 ?_
  refine at_iload_n hX rfl rfl dX7_isAbove_38 ?_
  obtain ⟨hi, v39, ev39, e⟩ := rA_some e
  refine at_iald hX (o := 43) (by decide) rfl hi dX7_isAbove_39 ?_
  refine at_ti ev39 ?_
  obtain ⟨v40, e1, e⟩ := ob_some e
  refine at_callS2 hX cv_X7_130 (by decide) (c_X7_lengthX _ _ _ _ _ e1) (Nat.le_of_ble_eq_true rfl) dX7_isAbove_40 ?_
  refine at_iadd hX dX7_isAbove_43 ?_
  refine at_mmin hX cv_X7_162 (by decide) (Nat.le_of_ble_eq_true rfl) dX7_isAbove_44 ?_
  refine at_aload_n hX rfl rfl dX7_isAbove_47 ?_
  refine gf_X7_28 hX dX7_isAbove_48 ?_
  refine at_iload_n hX rfl rfl dX7_isAbove_51 ?_
  obtain ⟨hi, v52, ev52, e⟩ := rA_some e
  refine at_iald hX (o := 44) (by decide) rfl hi dX7_isAbove_52 ?_
  refine at_ti ev52 ?_
  refine at_aload_n hX rfl rfl dX7_isAbove_53 ?_
  refine gf_X7_28 hX dX7_isAbove_54 ?_
  refine at_iload_n hX rfl rfl dX7_isAbove_57 ?_
  obtain ⟨hi, v58, ev58, e⟩ := rA_some e
  refine at_iald hX (o := 44) (by decide) rfl hi dX7_isAbove_58 ?_
  refine at_ti ev58 ?_
  refine at_mmax hX cv_X7_165 (by decide) (Nat.le_of_ble_eq_true rfl) dX7_isAbove_59 ?_
  refine at_isub hX dX7_isAbove_62 ?_
  obtain ⟨y63, ey63, e⟩ := bd_some e
  refine at_ti ey63 ?_
  refine at_istore_n hX rfl hn (by decide) dX7_isAbove_63 ?_
  refine at_aload_n hX rfl rfl dX7_isAbove_64 ?_
  refine gf_X7_31 hX dX7_isAbove_65 ?_
  refine at_iload_n hX rfl rfl dX7_isAbove_68 ?_
  obtain ⟨hi, v69, ev69, e⟩ := rA_some e
  refine at_iald hX (o := 45) (by decide) rfl hi dX7_isAbove_69 ?_
  refine at_ti ev69 ?_
  refine at_aload_n hX rfl rfl dX7_isAbove_70 ?_
  refine gf_X7_22 hX dX7_isAbove_71 ?_
  refine at_iload_n hX rfl rfl dX7_isAbove_74 ?_
  obtain ⟨hi, v75, ev75, e⟩ := rA_some e
  refine at_iald hX (o := 42) (by decide) rfl hi dX7_isAbove_75 ?_
  refine at_ti ev75 ?_
  refine at_aload_n hX rfl rfl dX7_isAbove_76 ?_
  refine gf_X7_25 hX dX7_isAbove_77 ?_
  refine at_iload_n hX rfl rfl dX7_isAbove_80 ?_
  obtain ⟨hi, v81, ev81, e⟩ := rA_some e
  refine at_iald hX (o := 43) (by decide) rfl hi dX7_isAbove_81 ?_
  refine at_ti ev81 ?_
  obtain ⟨v82, e1, e⟩ := ob_some e
  refine at_callS2 hX cv_X7_126 (by decide) (c_X7_lengthY _ _ _ _ _ e1) (Nat.le_of_ble_eq_true rfl) dX7_isAbove_82 ?_
  refine at_iadd hX dX7_isAbove_85 ?_
  refine at_aload_n hX rfl rfl dX7_isAbove_86 ?_
  refine gf_X7_31 hX dX7_isAbove_87 ?_
  refine at_iload_n hX rfl rfl dX7_isAbove_90 ?_
  obtain ⟨hi, v91, ev91, e⟩ := rA_some e
  refine at_iald hX (o := 45) (by decide) rfl hi dX7_isAbove_91 ?_
  refine at_ti ev91 ?_
  refine at_aload_n hX rfl rfl dX7_isAbove_92 ?_
  refine gf_X7_22 hX dX7_isAbove_93 ?_
  refine at_iload_n hX rfl rfl dX7_isAbove_96 ?_
  obtain ⟨hi, v97, ev97, e⟩ := rA_some e
  refine at_iald hX (o := 42) (by decide) rfl hi dX7_isAbove_97 ?_
  refine at_ti ev97 ?_
  refine at_aload_n hX rfl rfl dX7_isAbove_98 ?_
  refine gf_X7_25 hX dX7_isAbove_99 ?_
  refine at_iload_n hX rfl rfl dX7_isAbove_102 ?_
  obtain ⟨hi, v103, ev103, e⟩ := rA_some e
  refine at_iald hX (o := 43) (by decide) rfl hi dX7_isAbove_103 ?_
  refine at_ti ev103 ?_
  obtain ⟨v104, e1, e⟩ := ob_some e
  refine at_callS2 hX cv_X7_126 (by decide) (c_X7_lengthY _ _ _ _ _ e1) (Nat.le_of_ble_eq_true rfl) dX7_isAbove_104 ?_
  refine at_iadd hX dX7_isAbove_107 ?_
  refine at_mmin hX cv_X7_162 (by decide) (Nat.le_of_ble_eq_true rfl) dX7_isAbove_108 ?_
  refine at_aload_n hX rfl rfl dX7_isAbove_111 ?_
  refine gf_X7_31 hX dX7_isAbove_112 ?_
  refine at_iload_n hX rfl rfl dX7_isAbove_115 ?_
  obtain ⟨hi, v116, ev116, e⟩ := rA_some e
  refine at_iald hX (o := 45) (by decide) rfl hi dX7_isAbove_116 ?_
  refine at_ti ev116 ?_
  refine at_aload_n hX rfl rfl dX7_isAbove_117 ?_
  refine gf_X7_31 hX dX7_isAbove_118 ?_
  refine at_iload_n hX rfl rfl dX7_isAbove_121 ?_
  obtain ⟨hi, v122, ev122, e⟩ := rA_some e
  refine at_iald hX (o := 45) (by decide) rfl hi dX7_isAbove_122 ?_
  refine at_ti ev122 ?_
  refine at_mmax hX cv_X7_165 (by decide) (Nat.le_of_ble_eq_true rfl) dX7_isAbove_123 ?_
  refine at_isub hX dX7_isAbove_126 ?_
  obtain ⟨y127, ey127, e⟩ := bd_some e
  refine at_ti ey127 ?_
  refine at_istore hX hn (by decide) dX7_isAbove_127 ?_
  refine at_aload_n hX rfl rfl dX7_isAbove_129 ?_
  refine gf_X7_34 hX dX7_isAbove_130 ?_
  refine at_iload_n hX rfl rfl dX7_isAbove_133 ?_
  obtain ⟨hi, v134, ev134, e⟩ := rA_some e
  refine at_iald hX (o := 46) (by decide) rfl hi dX7_isAbove_134 ?_
  refine at_ti ev134 ?_
  refine at_aload_n hX rfl rfl dX7_isAbove_135 ?_
  refine gf_X7_34 hX dX7_isAbove_136 ?_
  refine at_iload_n hX rfl rfl dX7_isAbove_139 ?_
  obtain ⟨hi, v140, ev140, e⟩ := rA_some e
  refine at_iald hX (o := 46) (by decide) rfl hi dX7_isAbove_140 ?_
  refine at_ti ev140 ?_
  refine at_icmp_le hX (tgt := 157) (by decide) dX7_isAbove_141 (fun c141 => ?_) (fun c141 => ?_)
  · replace e := ip_ c141 e
    refine at_iconst hX (v := 0) (by decide) dX7_isAbove_157 ?_
    exact at_ireturn hX hR rfl (by cases e; rfl) rfl dX7_isAbove_158
  · replace e := in_ c141 e
    refine at_iload_n hX rfl rfl dX7_isAbove_144 ?_
    refine at_if_le hX (tgt := 157) (by decide) dX7_isAbove_145 (fun c145 => ?_) (fun c145 => ?_)
    · replace e := ip_ c145 e
      refine at_iconst hX (v := 0) (by decide) dX7_isAbove_157 ?_
      exact at_ireturn hX hR rfl (by cases e; rfl) rfl dX7_isAbove_158
    · replace e := in_ c145 e
      refine at_iload hX rfl dX7_isAbove_148 ?_
      refine at_if_le hX (tgt := 157) (by decide) dX7_isAbove_150 (fun c150 => ?_) (fun c150 => ?_)
      · replace e := ip_ c150 e
        refine at_iconst hX (v := 0) (by decide) dX7_isAbove_157 ?_
        exact at_ireturn hX hR rfl (by cases e; rfl) rfl dX7_isAbove_158
      · replace e := in_ c150 e
        refine at_iconst hX (v := 1) (by decide) dX7_isAbove_153 ?_
        refine at_goto hX (tgt := 158) (by decide) dX7_isAbove_154 ?_
        exact at_ireturn hX hR rfl (by cases e; rfl) rfl dX7_isAbove_158

def F_X7_covered_36 (k6 : Int32 → Int32 → Int64 → Hp → Option Int32) (x1 : Int32) (x5 : Int64) (s0 : Int32) (h : Hp) : Option Int32 := bd_ (x5 &&& (x5 - (1 : Int64))) fun y45 => k6 x1 s0 y45 h
theorem A_X7_covered_36 {X : CX} {h : Hp} {r : Int32} (hn : (xc_ X).maxLocals = 7) (hX : Ok_ X RX7 cX7_covered 3) (hR : Rt_ X (some .boolean) (some (.int r)) h) (k6 : Int32 → Int32 → Int64 → Hp → Option Int32) (hk6 : ∀ (x1 : Int32) (x4 : Int32) (x5 : Int64), k6 x1 x4 x5 h = some r → At_ X 6 [(0, .ref 7), (1, .int x1), (4, .int x4), (5, .long x5)] [] h) (x1 : Int32) (x5 : Int64) (s0 : Int32) (e : F_X7_covered_36 k6 x1 x5 s0 h = some r) : At_ X 36 [(0, .ref 7), (1, .int x1), (5, .long x5)] [.int s0] h := by
  unfold F_X7_covered_36 at e
  refine at_istore hX hn (by decide) dX7_covered_36 ?_
  refine at_lload hX rfl dX7_covered_38 ?_
  refine at_lload hX rfl dX7_covered_40 ?_
  refine at_lconst hX (v := 1) (by decide) dX7_covered_42 ?_
  refine at_lsub hX dX7_covered_43 ?_
  refine at_land hX dX7_covered_44 ?_
  obtain ⟨y45, ey45, e⟩ := bd_some e
  refine at_tl ey45 ?_
  refine at_lstore hX hn (by decide) dX7_covered_45 ?_
  refine at_goto hX (tgt := 6) (by decide) dX7_covered_47 ?_
  exact at_sub [0, 1, 4, 5] rfl (hk6 _ _ _ e)
def F_X7_covered_31 (k6 : Int32 → Int32 → Int64 → Hp → Option Int32) (x1 : Int32) (x5 : Int64) (h : Hp) : Option Int32 := (F_X7_covered_36 k6) x1 x5 (1 : Int32) h
theorem A_X7_covered_31 {X : CX} {h : Hp} {r : Int32} (hn : (xc_ X).maxLocals = 7) (hX : Ok_ X RX7 cX7_covered 3) (hR : Rt_ X (some .boolean) (some (.int r)) h) (k6 : Int32 → Int32 → Int64 → Hp → Option Int32) (hk6 : ∀ (x1 : Int32) (x4 : Int32) (x5 : Int64), k6 x1 x4 x5 h = some r → At_ X 6 [(0, .ref 7), (1, .int x1), (4, .int x4), (5, .long x5)] [] h) (x1 : Int32) (x5 : Int64) (e : F_X7_covered_31 k6 x1 x5 h = some r) : At_ X 31 [(0, .ref 7), (1, .int x1), (5, .long x5)] [] h := by
  unfold F_X7_covered_31 at e
  refine at_iconst hX (v := 1) (by decide) dX7_covered_31 ?_
  refine at_goto hX (tgt := 36) (by decide) dX7_covered_32 ?_
  exact at_sub [0, 1, 5] rfl ((A_X7_covered_36 hn hX hR k6 hk6) _ _ _ e)
def F_X7_covered_6 (n : Nat) (x1 : Int32) (x4 : Int32) (x5 : Int64) (h : Hp) : Option Int32 := match n with
  | 0 => none
  | n + 1 => if x5 = (0 : Int64) then bz_ x4 fun z52 => some z52 else if x4 = (0 : Int32) then (F_X7_first x5).bind fun v21 => (F_X7_isAbove v21 x1 h).bind fun v25 => if v25 = (0 : Int32) then (F_X7_covered_36 (F_X7_covered_6 n)) x1 x5 (0 : Int32) h else (F_X7_covered_31 (F_X7_covered_6 n)) x1 x5 h else (F_X7_covered_31 (F_X7_covered_6 n)) x1 x5 h
theorem A_X7_covered_6 {X : CX} {h : Hp} {r : Int32} (hn : (xc_ X).maxLocals = 7) (hX : Ok_ X RX7 cX7_covered 3) (hR : Rt_ X (some .boolean) (some (.int r)) h) : ∀ (n : Nat) (x1 : Int32) (x4 : Int32) (x5 : Int64), F_X7_covered_6 n x1 x4 x5 h = some r → At_ X 6 [(0, .ref 7), (1, .int x1), (4, .int x4), (5, .long x5)] [] h := by
  intro n
  induction n with
  | zero => intro x1 x4 x5 e; cases e
  | succ n ih =>
    intro x1 x4 x5 e
    rw [F_X7_covered_6] at e
    refine at_lload hX rfl dX7_covered_6 ?_
    refine at_lconst hX (v := 0) (by decide) dX7_covered_8 ?_
    refine at_lcmp_eq hX (tgt := 50) (by decide) dX7_covered_9 dX7_covered_10 (fun c9 => ?_) (fun c9 => ?_)
    · replace e := ip_ c9 e
      refine at_iload hX rfl dX7_covered_50 ?_
      obtain ⟨hz, z52, ez52, e⟩ := bz_some e
      refine at_ti ez52 ?_
      exact at_ireturn hX hR (bz_nar hz ez52) (by cases e; rfl) rfl dX7_covered_52
    · replace e := in_ c9 e
      refine at_iload hX rfl dX7_covered_13 ?_
      refine at_if_ne hX (tgt := 31) (by decide) dX7_covered_15 (fun c15 => ?_) (fun c15 => ?_)
      · replace e := in_ c15 e
        exact at_sub [0, 1, 5] rfl ((A_X7_covered_31 hn hX hR (F_X7_covered_6 n) ih) _ _ e)
      · replace e := ip_ c15 e
        refine at_aload_n hX rfl rfl dX7_covered_18 ?_
        refine at_lload hX rfl dX7_covered_19 ?_
        obtain ⟨v21, e1, e⟩ := ob_some e
        refine at_callS1 hX cv_X7_171 (by decide) (c_X7_first _ _ _ _ e1) (Nat.le_of_ble_eq_true rfl) dX7_covered_21 ?_
        refine at_iload_n hX rfl rfl dX7_covered_24 ?_
        obtain ⟨v25, e1, e⟩ := ob_some e
        refine at_callV2 hX cv_X7_274 (by decide) (c_X7_isAbove _ _ _ _ _ e1) (Nat.le_of_ble_eq_true rfl) dX7_covered_25 ?_
        refine at_if_eq hX (tgt := 35) (by decide) dX7_covered_28 (fun c28 => ?_) (fun c28 => ?_)
        · replace e := ip_ c28 e
          refine at_iconst hX (v := 0) (by decide) dX7_covered_35 ?_
          exact at_sub [0, 1, 5] rfl ((A_X7_covered_36 hn hX hR (F_X7_covered_6 n) ih) _ _ _ e)
        · replace e := in_ c28 e
          exact at_sub [0, 1, 5] rfl ((A_X7_covered_31 hn hX hR (F_X7_covered_6 n) ih) _ _ e)
def F_X7_covered (x1 : Int32) (x2 : Int64) (h : Hp) : Option Int32 := (F_X7_covered_6 FU_) x1 (0 : Int32) x2 h
theorem c_X7_covered (l : Launch) (G : Gl) (x1 : Int32) (x2 : Int64) (h : Hp) {r : Int32} (e : F_X7_covered x1 x2 h = some r) : Does l G 3 M_X7_covered [.ref 7, .int x1, .long x2] h (some (.int r)) h := by
  refine Does.of (by decide) rfl (Nat.le_of_ble_eq_true rfl) (fun X hl hG hn hX hR => ?_)
  unfold F_X7_covered at e
  subst hl; subst hG
  show At_ X 0 [(0, .ref 7), (1, .int x1), (2, .long x2)] [] h
  refine at_iconst hX (v := 0) (by decide) dX7_covered_0 ?_
  refine at_istore hX hn (by decide) dX7_covered_1 ?_
  refine at_lload_n hX rfl rfl dX7_covered_3 ?_
  refine at_lstore hX hn (by decide) dX7_covered_4 ?_
  exact at_sub [0, 1, 4, 5] rfl ((A_X7_covered_6 hn hX hR FU_) _ _ _ e)

def F_X7_goes_121 (kr : Int32 → Int32 → Int64 → Hp → Option (Int32 × Hp)) (k24 : Int32 → Int32 → Int64 → Int32 → Hp → Option (Int32 × Hp)) (x1 : Int32) (x2 : Int32) (x3 : Int64) (x5 : Int32) (h : Hp) : Option (Int32 × Hp) := k24 x1 x2 x3 (x5 + (1 : Int32)) h
theorem A_X7_goes_121 {dr : Nat} {X : CX} {h' : Hp} {r : Int32} (hn : (xc_ X).maxLocals = 6) (hX : Ok_ X RX7 cX7_goes (dr + 1)) (hR : Rt_ X (some .boolean) (some (.int r)) h') (kr : Int32 → Int32 → Int64 → Hp → Option (Int32 × Hp)) (hkr : 5 ≤ dr ∧ ∀ (x1 : Int32) (x2 : Int32) (x3 : Int64) (h : Hp) (r : Int32) (h' : Hp), kr x1 x2 x3 h = some (r, h') → Does (xl_ X) (xG_ X) dr M_X7_goes [.ref 7, .int x1, .int x2, .long x3] h (some (.int r)) h') (k24 : Int32 → Int32 → Int64 → Int32 → Hp → Option (Int32 × Hp)) (hk24 : ∀ (x1 : Int32) (x2 : Int32) (x3 : Int64) (x5 : Int32) (h : Hp), k24 x1 x2 x3 x5 h = some (r, h') → At_ X 24 [(0, .ref 7), (1, .int x1), (2, .int x2), (3, .long x3), (5, .int x5)] [] h) (x1 : Int32) (x2 : Int32) (x3 : Int64) (x5 : Int32) (h : Hp) (e : F_X7_goes_121 kr k24 x1 x2 x3 x5 h = some (r, h')) : At_ X 121 [(0, .ref 7), (1, .int x1), (2, .int x2), (3, .long x3), (5, .int x5)] [] h := by
  unfold F_X7_goes_121 at e
  refine at_iinc hX hn (by decide) rfl (v := 1) (by decide) dX7_goes_121 ?_
  refine at_goto hX (tgt := 24) (by decide) dX7_goes_124 ?_
  exact at_sub [0, 1, 2, 3, 5] rfl (hk24 _ _ _ _ _ e)
def F_X7_goes_24 (n : Nat) (kr : Int32 → Int32 → Int64 → Hp → Option (Int32 × Hp)) (x1 : Int32) (x2 : Int32) (x3 : Int64) (x5 : Int32) (h : Hp) : Option (Int32 × Hp) := match n with
  | 0 => none
  | n + 1 => if gI_ h 481 ≤ x5 then wA_ h 63 4096 x2 (1 : Int32) fun h133 => some ((0 : Int32), h133) else if (ia_ x2 x5) &&& (1 : Int32) = (1 : Int32) then (F_X7_goes_121 kr (F_X7_goes_24 n kr)) x1 x2 x3 x5 h else rA_ h 64 12 x5 fun v50 => (F_X7_covered v50 x3 h).bind fun v52 => if v52 = (0 : Int32) then rA_ h 64 12 x5 fun v67 => (F_X7_isSound (x3 ||| (ls_ (1 : Int64) v67)) h).bind fun ((v70, h70) : Int32 × Hp) => if v70 = (0 : Int32) then (F_X7_goes_121 kr (F_X7_goes_24 n kr)) x1 x2 x3 x5 h70 else rA_ h70 64 12 x5 fun v90 => wA_ h70 62 12 x1 v90 fun h91 => rA_ h91 64 12 x5 fun v110 => (kr (x1 + (1 : Int32)) (x2 ||| (is_ (1 : Int32) x5)) (x3 ||| (ls_ (1 : Int64) v110)) h91).bind fun ((v113, h113) : Int32 × Hp) => if v113 = (0 : Int32) then (F_X7_goes_121 kr (F_X7_goes_24 n kr)) x1 x2 x3 x5 h113 else some ((1 : Int32), h113) else (F_X7_goes_121 kr (F_X7_goes_24 n kr)) x1 x2 x3 x5 h
theorem A_X7_goes_24 {dr : Nat} {X : CX} {h' : Hp} {r : Int32} (hn : (xc_ X).maxLocals = 6) (hX : Ok_ X RX7 cX7_goes (dr + 1)) (hR : Rt_ X (some .boolean) (some (.int r)) h') (kr : Int32 → Int32 → Int64 → Hp → Option (Int32 × Hp)) (hkr : 5 ≤ dr ∧ ∀ (x1 : Int32) (x2 : Int32) (x3 : Int64) (h : Hp) (r : Int32) (h' : Hp), kr x1 x2 x3 h = some (r, h') → Does (xl_ X) (xG_ X) dr M_X7_goes [.ref 7, .int x1, .int x2, .long x3] h (some (.int r)) h') : ∀ (n : Nat) (x1 : Int32) (x2 : Int32) (x3 : Int64) (x5 : Int32) (h : Hp), F_X7_goes_24 n kr x1 x2 x3 x5 h = some (r, h') → At_ X 24 [(0, .ref 7), (1, .int x1), (2, .int x2), (3, .long x3), (5, .int x5)] [] h := by
  intro n
  induction n with
  | zero => intro x1 x2 x3 x5 h e; cases e
  | succ n ih =>
    intro x1 x2 x3 x5 h e
    rw [F_X7_goes_24] at e
    refine at_iload hX rfl dX7_goes_24 ?_
    refine at_aload_n hX rfl rfl dX7_goes_26 ?_
    refine gf_X7_277 hX dX7_goes_27 ?_
    refine at_icmp_ge hX (tgt := 127) (by decide) dX7_goes_30 (fun c30 => ?_) (fun c30 => ?_)
    · replace e := ip_ c30 e
      refine at_aload_n hX rfl rfl dX7_goes_127 ?_
      refine gf_X7_91 hX dX7_goes_128 ?_
      refine at_iload_n hX rfl rfl dX7_goes_131 ?_
      refine at_iconst hX (v := 1) (by decide) dX7_goes_132 ?_
      obtain ⟨hi, h133, eh133, e⟩ := wA_some e
      refine at_zast hX (o := 63) (by decide) rfl (by decide) hi dX7_goes_133 ?_
      refine at_th eh133 ?_
      refine at_iconst hX (v := 0) (by decide) dX7_goes_134 ?_
      exact at_ireturn hX hR rfl (by cases e; rfl) (by cases e; rfl) dX7_goes_135
    · replace e := in_ c30 e
      refine at_iload_n hX rfl rfl dX7_goes_33 ?_
      refine at_iload hX rfl dX7_goes_34 ?_
      refine at_ishr hX dX7_goes_36 ?_
      refine at_iconst hX (v := 1) (by decide) dX7_goes_37 ?_
      refine at_iand hX dX7_goes_38 ?_
      refine at_iconst hX (v := 1) (by decide) dX7_goes_39 ?_
      refine at_icmp_eq hX (tgt := 121) (by decide) dX7_goes_40 (fun c40 => ?_) (fun c40 => ?_)
      · replace e := ip_ c40 e
        exact at_sub [0, 1, 2, 3, 5] rfl ((A_X7_goes_121 hn hX hR kr hkr (F_X7_goes_24 n kr) ih) _ _ _ _ _ e)
      · replace e := in_ c40 e
        refine at_aload_n hX rfl rfl dX7_goes_43 ?_
        refine at_aload_n hX rfl rfl dX7_goes_44 ?_
        refine gf_X7_95 hX dX7_goes_45 ?_
        refine at_iload hX rfl dX7_goes_48 ?_
        obtain ⟨hi, v50, ev50, e⟩ := rA_some e
        refine at_iald hX (o := 64) (by decide) rfl hi dX7_goes_50 ?_
        refine at_ti ev50 ?_
        refine at_lload_n hX rfl rfl dX7_goes_51 ?_
        obtain ⟨v52, e1, e⟩ := ob_some e
        refine at_callV2 hX cv_X7_280 (by omega) (c_X7_covered _ _ _ _ _ e1) (Nat.le_of_ble_eq_true rfl) dX7_goes_52 ?_
        refine at_if_ne hX (tgt := 121) (by decide) dX7_goes_55 (fun c55 => ?_) (fun c55 => ?_)
        · replace e := in_ c55 e
          exact at_sub [0, 1, 2, 3, 5] rfl ((A_X7_goes_121 hn hX hR kr hkr (F_X7_goes_24 n kr) ih) _ _ _ _ _ e)
        · replace e := ip_ c55 e
          refine at_aload_n hX rfl rfl dX7_goes_58 ?_
          refine at_lload_n hX rfl rfl dX7_goes_59 ?_
          refine at_lconst hX (v := 1) (by decide) dX7_goes_60 ?_
          refine at_aload_n hX rfl rfl dX7_goes_61 ?_
          refine gf_X7_95 hX dX7_goes_62 ?_
          refine at_iload hX rfl dX7_goes_65 ?_
          obtain ⟨hi, v67, ev67, e⟩ := rA_some e
          refine at_iald hX (o := 64) (by decide) rfl hi dX7_goes_67 ?_
          refine at_ti ev67 ?_
          refine at_lshl hX dX7_goes_68 ?_
          refine at_lor hX dX7_goes_69 ?_
          obtain ⟨⟨v70, h70⟩, e1, e⟩ := ob_some e
          refine at_callV1 hX cv_X7_216 (by omega) (c_X7_isSound _ _ _ _ e1) (Nat.le_of_ble_eq_true rfl) dX7_goes_70 ?_
          refine at_if_ne hX (tgt := 79) (by decide) dX7_goes_73 (fun c73 => ?_) (fun c73 => ?_)
          · replace e := in_ c73 e
            refine at_aload_n hX rfl rfl dX7_goes_79 ?_
            refine gf_X7_88 hX dX7_goes_80 ?_
            refine at_iload_n hX rfl rfl dX7_goes_83 ?_
            refine at_aload_n hX rfl rfl dX7_goes_84 ?_
            refine gf_X7_95 hX dX7_goes_85 ?_
            refine at_iload hX rfl dX7_goes_88 ?_
            obtain ⟨hi, v90, ev90, e⟩ := rA_some e
            refine at_iald hX (o := 64) (by decide) rfl hi dX7_goes_90 ?_
            refine at_ti ev90 ?_
            obtain ⟨hi, h91, eh91, e⟩ := wA_some e
            refine at_iast hX (o := 62) (by decide) rfl hi dX7_goes_91 ?_
            refine at_th eh91 ?_
            refine at_aload_n hX rfl rfl dX7_goes_92 ?_
            refine at_iload_n hX rfl rfl dX7_goes_93 ?_
            refine at_iconst hX (v := 1) (by decide) dX7_goes_94 ?_
            refine at_iadd hX dX7_goes_95 ?_
            refine at_iload_n hX rfl rfl dX7_goes_96 ?_
            refine at_iconst hX (v := 1) (by decide) dX7_goes_97 ?_
            refine at_iload hX rfl dX7_goes_98 ?_
            refine at_ishl hX dX7_goes_100 ?_
            refine at_ior hX dX7_goes_101 ?_
            refine at_lload_n hX rfl rfl dX7_goes_102 ?_
            refine at_lconst hX (v := 1) (by decide) dX7_goes_103 ?_
            refine at_aload_n hX rfl rfl dX7_goes_104 ?_
            refine gf_X7_95 hX dX7_goes_105 ?_
            refine at_iload hX rfl dX7_goes_108 ?_
            obtain ⟨hi, v110, ev110, e⟩ := rA_some e
            refine at_iald hX (o := 64) (by decide) rfl hi dX7_goes_110 ?_
            refine at_ti ev110 ?_
            refine at_lshl hX dX7_goes_111 ?_
            refine at_lor hX dX7_goes_112 ?_
            obtain ⟨⟨v113, h113⟩, e1, e⟩ := ob_some e
            refine at_callV3 hX cv_X7_284 (by omega) (hkr.2  _ _ _ _ _ _ e1) (Nat.le_of_ble_eq_true rfl) dX7_goes_113 ?_
            refine at_if_eq hX (tgt := 121) (by decide) dX7_goes_116 (fun c116 => ?_) (fun c116 => ?_)
            · replace e := ip_ c116 e
              exact at_sub [0, 1, 2, 3, 5] rfl ((A_X7_goes_121 hn hX hR kr hkr (F_X7_goes_24 n kr) ih) _ _ _ _ _ e)
            · replace e := in_ c116 e
              refine at_iconst hX (v := 1) (by decide) dX7_goes_119 ?_
              exact at_ireturn hX hR rfl (by cases e; rfl) (by cases e; rfl) dX7_goes_120
          · replace e := ip_ c73 e
            refine at_goto hX (tgt := 121) (by decide) dX7_goes_76 ?_
            exact at_sub [0, 1, 2, 3, 5] rfl ((A_X7_goes_121 hn hX hR kr hkr (F_X7_goes_24 n kr) ih) _ _ _ _ _ e)
def F_X7_goes_0 (kr : Int32 → Int32 → Int64 → Hp → Option (Int32 × Hp)) (x1 : Int32) (x2 : Int32) (x3 : Int64) (h : Hp) : Option (Int32 × Hp) := if x1 = gI_ h 481 then some ((1 : Int32), h) else rA_ h 63 4096 x2 fun v15 => if v15 = (0 : Int32) then (F_X7_goes_24 FU_ kr) x1 x2 x3 (0 : Int32) h else some ((0 : Int32), h)
def F_X7_goes (n : Nat) (x1 : Int32) (x2 : Int32) (x3 : Int64) (h : Hp) : Option (Int32 × Hp) := match n with
  | 0 => none
  | n + 1 => F_X7_goes_0 (F_X7_goes n) x1 x2 x3 h
theorem A_X7_goes_0 {dr : Nat} {X : CX} {h' : Hp} {r : Int32} (hn : (xc_ X).maxLocals = 6) (hX : Ok_ X RX7 cX7_goes (dr + 1)) (hR : Rt_ X (some .boolean) (some (.int r)) h') (kr : Int32 → Int32 → Int64 → Hp → Option (Int32 × Hp)) (hkr : 5 ≤ dr ∧ ∀ (x1 : Int32) (x2 : Int32) (x3 : Int64) (h : Hp) (r : Int32) (h' : Hp), kr x1 x2 x3 h = some (r, h') → Does (xl_ X) (xG_ X) dr M_X7_goes [.ref 7, .int x1, .int x2, .long x3] h (some (.int r)) h') (x1 : Int32) (x2 : Int32) (x3 : Int64) (h : Hp) (e : F_X7_goes_0 kr x1 x2 x3 h = some (r, h')) : At_ X 0 [(0, .ref 7), (1, .int x1), (2, .int x2), (3, .long x3)] [] h := by
  unfold F_X7_goes_0 at e
  refine at_iload_n hX rfl rfl dX7_goes_0 ?_
  refine at_aload_n hX rfl rfl dX7_goes_1 ?_
  refine gf_X7_277 hX dX7_goes_2 ?_
  refine at_icmp_ne hX (tgt := 10) (by decide) dX7_goes_5 (fun c5 => ?_) (fun c5 => ?_)
  · replace e := in_ c5 e
    refine at_aload_n hX rfl rfl dX7_goes_10 ?_
    refine gf_X7_91 hX dX7_goes_11 ?_
    refine at_iload_n hX rfl rfl dX7_goes_14 ?_
    obtain ⟨hi, v15, ev15, e⟩ := rA_some e
    refine at_zald hX (o := 63) (by decide) rfl hi dX7_goes_15 ?_
    refine at_ti ev15 ?_
    refine at_if_eq hX (tgt := 21) (by decide) dX7_goes_16 (fun c16 => ?_) (fun c16 => ?_)
    · replace e := ip_ c16 e
      refine at_iconst hX (v := 0) (by decide) dX7_goes_21 ?_
      refine at_istore hX hn (by decide) dX7_goes_22 ?_
      exact at_sub [0, 1, 2, 3, 5] rfl ((A_X7_goes_24 hn hX hR kr hkr FU_) _ _ _ _ _ e)
    · replace e := in_ c16 e
      refine at_iconst hX (v := 0) (by decide) dX7_goes_19 ?_
      exact at_ireturn hX hR rfl (by cases e; rfl) (by cases e; rfl) dX7_goes_20
  · replace e := ip_ c5 e
    refine at_iconst hX (v := 1) (by decide) dX7_goes_8 ?_
    exact at_ireturn hX hR rfl (by cases e; rfl) (by cases e; rfl) dX7_goes_9
theorem c_X7_goes_r (l : Launch) (G : Gl) : ∀ (n : Nat) (x1 : Int32) (x2 : Int32) (x3 : Int64) (h : Hp) (r : Int32) (h' : Hp) , F_X7_goes n x1 x2 x3 h = some (r, h') → Does l G (n + 5) M_X7_goes [.ref 7, .int x1, .int x2, .long x3] h (some (.int r)) h' := by
  intro n
  induction n with
  | zero => intro x1 x2 x3 h r h' e; cases e
  | succ n ih =>
    intro x1 x2 x3 h r h' e
    rw [F_X7_goes] at e
    refine Does.of (by decide) rfl (Nat.le_of_ble_eq_true rfl) (fun X hl hG hn hX hR => ?_)
    subst hl; subst hG
    have hX : Ok_ X RX7 cX7_goes (n + 5 + 1) := by rw [show n + 5 + 1 = n + 1 + 5 by omega]; exact hX
    exact A_X7_goes_0 hn hX hR (F_X7_goes n) ⟨by omega, fun x1 x2 x3 h r h' e => ih x1 x2 x3 h r h' e⟩ _ _ _ _ e
theorem c_X7_goes (l : Launch) (G : Gl) (x1 : Int32) (x2 : Int32) (x3 : Int64) (h : Hp) {r : Int32} {h' : Hp} (e : F_X7_goes RF_ x1 x2 x3 h = some (r, h')) : Does l G 45 M_X7_goes [.ref 7, .int x1, .int x2, .long x3] h (some (.int r)) h' := c_X7_goes_r l G RF_ x1 x2 x3 h r h' e

def F_X7_order_97 (x1 : Int32) (h : Hp) : Option (Int32 × Hp) := (F_X7_isIn x1 (gI_ h 481)).bind fun v102 => if v102 = (0 : Int32) then some ((-9 : Int32), h) else (F_X7_goes RF_ (0 : Int32) (0 : Int32) (0 : Int64) h).bind fun ((v112, h112) : Int32 × Hp) => if v112 = (0 : Int32) then some ((-9 : Int32), h112) else rA_ h112 62 12 x1 fun v123 => some (v123, h112)
theorem A_X7_order_97 {X : CX} {h' : Hp} {r : Int32} (hn : (xc_ X).maxLocals = 3) (hX : Ok_ X RX7 cX7_order 46) (hR : Rt_ X (some .int) (some (.int r)) h') (x1 : Int32) (h : Hp) (e : F_X7_order_97 x1 h = some (r, h')) : At_ X 97 [(0, .ref 7), (1, .int x1)] [] h := by
  unfold F_X7_order_97 at e
  refine at_iload_n hX rfl rfl dX7_order_97 ?_
  refine at_aload_n hX rfl rfl dX7_order_98 ?_
  refine gf_X7_277 hX dX7_order_99 ?_
  obtain ⟨v102, e1, e⟩ := ob_some e
  refine at_callS2 hX cv_X7_98 (by decide) (c_X7_isIn _ _ _ _ _ e1) (Nat.le_of_ble_eq_true rfl) dX7_order_102 ?_
  refine at_if_eq hX (tgt := 127) (by decide) dX7_order_105 (fun c105 => ?_) (fun c105 => ?_)
  · replace e := ip_ c105 e
    refine at_bipush hX (v := -9) (by decide) dX7_order_127 ?_
    exact at_ireturn hX hR rfl (by cases e; rfl) (by cases e; rfl) dX7_order_129
  · replace e := in_ c105 e
    refine at_aload_n hX rfl rfl dX7_order_108 ?_
    refine at_iconst hX (v := 0) (by decide) dX7_order_109 ?_
    refine at_iconst hX (v := 0) (by decide) dX7_order_110 ?_
    refine at_lconst hX (v := 0) (by decide) dX7_order_111 ?_
    obtain ⟨⟨v112, h112⟩, e1, e⟩ := ob_some e
    refine at_callV3 hX cv_X7_284 (by decide) (c_X7_goes _ _ _ _ _ _ e1) (Nat.le_of_ble_eq_true rfl) dX7_order_112 ?_
    refine at_if_eq hX (tgt := 127) (by decide) dX7_order_115 (fun c115 => ?_) (fun c115 => ?_)
    · replace e := ip_ c115 e
      refine at_bipush hX (v := -9) (by decide) dX7_order_127 ?_
      exact at_ireturn hX hR rfl (by cases e; rfl) (by cases e; rfl) dX7_order_129
    · replace e := in_ c115 e
      refine at_aload_n hX rfl rfl dX7_order_118 ?_
      refine gf_X7_88 hX dX7_order_119 ?_
      refine at_iload_n hX rfl rfl dX7_order_122 ?_
      obtain ⟨hi, v123, ev123, e⟩ := rA_some e
      refine at_iald hX (o := 62) (by decide) rfl hi dX7_order_123 ?_
      refine at_ti ev123 ?_
      refine at_goto hX (tgt := 129) (by decide) dX7_order_124 ?_
      exact at_ireturn hX hR rfl (by cases e; rfl) (by cases e; rfl) dX7_order_129
def F_X7_order_74 (n : Nat) (k97 : Int32 → Hp → Option (Int32 × Hp)) (x1 : Int32) (x2 : Int32) (h : Hp) : Option (Int32 × Hp) := match n with
  | 0 => none
  | n + 1 => if is_ (1 : Int32) (gI_ h 481) ≤ x2 then k97 x1 h else wA_ h 63 4096 x2 (0 : Int32) fun h90 => (F_X7_order_74 n k97) x1 (x2 + (1 : Int32)) h90
theorem A_X7_order_74 {X : CX} {h' : Hp} {r : Int32} (hn : (xc_ X).maxLocals = 3) (hX : Ok_ X RX7 cX7_order 46) (hR : Rt_ X (some .int) (some (.int r)) h') (k97 : Int32 → Hp → Option (Int32 × Hp)) (hk97 : ∀ (x1 : Int32) (h : Hp), k97 x1 h = some (r, h') → At_ X 97 [(0, .ref 7), (1, .int x1)] [] h) : ∀ (n : Nat) (x1 : Int32) (x2 : Int32) (h : Hp), F_X7_order_74 n k97 x1 x2 h = some (r, h') → At_ X 74 [(0, .ref 7), (1, .int x1), (2, .int x2)] [] h := by
  intro n
  induction n with
  | zero => intro x1 x2 h e; cases e
  | succ n ih =>
    intro x1 x2 h e
    rw [F_X7_order_74] at e
    refine at_iload_n hX rfl rfl dX7_order_74 ?_
    refine at_iconst hX (v := 1) (by decide) dX7_order_75 ?_
    refine at_aload_n hX rfl rfl dX7_order_76 ?_
    refine gf_X7_277 hX dX7_order_77 ?_
    refine at_ishl hX dX7_order_80 ?_
    refine at_icmp_ge hX (tgt := 97) (by decide) dX7_order_81 (fun c81 => ?_) (fun c81 => ?_)
    · replace e := ip_ c81 e
      exact at_sub [0, 1] rfl (hk97 _ _ e)
    · replace e := in_ c81 e
      refine at_aload_n hX rfl rfl dX7_order_84 ?_
      refine gf_X7_91 hX dX7_order_85 ?_
      refine at_iload_n hX rfl rfl dX7_order_88 ?_
      refine at_iconst hX (v := 0) (by decide) dX7_order_89 ?_
      obtain ⟨hi, h90, eh90, e⟩ := wA_some e
      refine at_zast hX (o := 63) (by decide) rfl (by decide) hi dX7_order_90 ?_
      refine at_th eh90 ?_
      refine at_iinc hX hn (by decide) rfl (v := 1) (by decide) dX7_order_91 ?_
      refine at_goto hX (tgt := 74) (by decide) dX7_order_94 ?_
      exact at_sub [0, 1, 2] rfl (ih _ _ _ e)
def F_X7_order_68 (x1 : Int32) (h : Hp) : Option (Int32 × Hp) := (F_X7_links  h).bind fun h69 => (F_X7_order_74 FU_ F_X7_order_97) x1 (0 : Int32) h69
theorem A_X7_order_68 {X : CX} {h' : Hp} {r : Int32} (hn : (xc_ X).maxLocals = 3) (hX : Ok_ X RX7 cX7_order 46) (hR : Rt_ X (some .int) (some (.int r)) h') (x1 : Int32) (h : Hp) (e : F_X7_order_68 x1 h = some (r, h')) : At_ X 68 [(0, .ref 7), (1, .int x1)] [] h := by
  unfold F_X7_order_68 at e
  refine at_aload_n hX rfl rfl dX7_order_68 ?_
  obtain ⟨h69, e1, e⟩ := ob_some e
  refine at_callV0 hX cv_X7_201 (by decide) (c_X7_links _ _  _ e1) (Nat.le_of_ble_eq_true rfl) dX7_order_69 ?_
  refine at_iconst hX (v := 0) (by decide) dX7_order_72 ?_
  refine at_istore_n hX rfl hn (by decide) dX7_order_73 ?_
  exact at_sub [0, 1, 2] rfl ((A_X7_order_74 hn hX hR F_X7_order_97 (A_X7_order_97 hn hX hR) FU_) _ _ _ e)
def F_X7_order_62 (k7 : Int32 → Int32 → Hp → Option (Int32 × Hp)) (x1 : Int32) (x2 : Int32) (h : Hp) : Option (Int32 × Hp) := k7 x1 (x2 + (1 : Int32)) h
theorem A_X7_order_62 {X : CX} {h' : Hp} {r : Int32} (hn : (xc_ X).maxLocals = 3) (hX : Ok_ X RX7 cX7_order 46) (hR : Rt_ X (some .int) (some (.int r)) h') (k7 : Int32 → Int32 → Hp → Option (Int32 × Hp)) (hk7 : ∀ (x1 : Int32) (x2 : Int32) (h : Hp), k7 x1 x2 h = some (r, h') → At_ X 7 [(0, .ref 7), (1, .int x1), (2, .int x2)] [] h) (x1 : Int32) (x2 : Int32) (h : Hp) (e : F_X7_order_62 k7 x1 x2 h = some (r, h')) : At_ X 62 [(0, .ref 7), (1, .int x1), (2, .int x2)] [] h := by
  unfold F_X7_order_62 at e
  refine at_iinc hX hn (by decide) rfl (v := 1) (by decide) dX7_order_62 ?_
  refine at_goto hX (tgt := 7) (by decide) dX7_order_65 ?_
  exact at_sub [0, 1, 2] rfl (hk7 _ _ _ e)
def F_X7_order_7 (n : Nat) (k68 : Int32 → Hp → Option (Int32 × Hp)) (x1 : Int32) (x2 : Int32) (h : Hp) : Option (Int32 × Hp) := match n with
  | 0 => none
  | n + 1 => if gI_ h 458 ≤ x2 then k68 x1 h else (F_X7_isThere x2 h).bind fun v17 => if v17 = (0 : Int32) then (F_X7_order_62 (F_X7_order_7 n k68)) x1 x2 h else if gI_ h 481 = (12 : Int32) then (F_X7_refuse (-6 : Int32) h).bind fun ((v38, h38) : Int32 × Hp) => some (v38, h38) else wA_ h 64 12 (gI_ h 481) x2 fun h51 => bd_ (sI_ h51 481 ((gI_ h51 481) + (1 : Int32))) fun h59 => (F_X7_order_62 (F_X7_order_7 n k68)) x1 x2 h59
theorem A_X7_order_7 {X : CX} {h' : Hp} {r : Int32} (hn : (xc_ X).maxLocals = 3) (hX : Ok_ X RX7 cX7_order 46) (hR : Rt_ X (some .int) (some (.int r)) h') (k68 : Int32 → Hp → Option (Int32 × Hp)) (hk68 : ∀ (x1 : Int32) (h : Hp), k68 x1 h = some (r, h') → At_ X 68 [(0, .ref 7), (1, .int x1)] [] h) : ∀ (n : Nat) (x1 : Int32) (x2 : Int32) (h : Hp), F_X7_order_7 n k68 x1 x2 h = some (r, h') → At_ X 7 [(0, .ref 7), (1, .int x1), (2, .int x2)] [] h := by
  intro n
  induction n with
  | zero => intro x1 x2 h e; cases e
  | succ n ih =>
    intro x1 x2 h e
    rw [F_X7_order_7] at e
    refine at_iload_n hX rfl rfl dX7_order_7 ?_
    refine at_aload_n hX rfl rfl dX7_order_8 ?_
    refine gf_X7_133 hX dX7_order_9 ?_
    refine at_icmp_ge hX (tgt := 68) (by decide) dX7_order_12 (fun c12 => ?_) (fun c12 => ?_)
    · replace e := ip_ c12 e
      exact at_sub [0, 1] rfl (hk68 _ _ e)
    · replace e := in_ c12 e
      refine at_aload_n hX rfl rfl dX7_order_15 ?_
      refine at_iload_n hX rfl rfl dX7_order_16 ?_
      obtain ⟨v17, e1, e⟩ := ob_some e
      refine at_callV1 hX cv_X7_152 (by decide) (c_X7_isThere _ _ _ _ e1) (Nat.le_of_ble_eq_true rfl) dX7_order_17 ?_
      refine at_if_ne hX (tgt := 26) (by decide) dX7_order_20 (fun c20 => ?_) (fun c20 => ?_)
      · replace e := in_ c20 e
        refine at_aload_n hX rfl rfl dX7_order_26 ?_
        refine gf_X7_277 hX dX7_order_27 ?_
        refine at_bipush hX (v := 12) (by decide) dX7_order_30 ?_
        refine at_icmp_ne hX (tgt := 42) (by decide) dX7_order_32 (fun c32 => ?_) (fun c32 => ?_)
        · replace e := in_ c32 e
          refine at_aload_n hX rfl rfl dX7_order_42 ?_
          refine gf_X7_95 hX dX7_order_43 ?_
          refine at_aload_n hX rfl rfl dX7_order_46 ?_
          refine gf_X7_277 hX dX7_order_47 ?_
          refine at_iload_n hX rfl rfl dX7_order_50 ?_
          obtain ⟨hi, h51, eh51, e⟩ := wA_some e
          refine at_iast hX (o := 64) (by decide) rfl hi dX7_order_51 ?_
          refine at_th eh51 ?_
          refine at_aload_n hX rfl rfl dX7_order_52 ?_
          refine at_dup hX rfl dX7_order_53 ?_
          refine gf_X7_277 hX dX7_order_54 ?_
          refine at_iconst hX (v := 1) (by decide) dX7_order_57 ?_
          refine at_iadd hX dX7_order_58 ?_
          obtain ⟨h59, eh59, e⟩ := bd_some e
          refine pf_X7_277 hX dX7_order_59 ?_
          refine at_th eh59 ?_
          exact at_sub [0, 1, 2] rfl ((A_X7_order_62 hn hX hR (F_X7_order_7 n k68) ih) _ _ _ e)
        · replace e := ip_ c32 e
          refine at_aload_n hX rfl rfl dX7_order_35 ?_
          refine at_bipush hX (v := -6) (by decide) dX7_order_36 ?_
          obtain ⟨⟨v38, h38⟩, e1, e⟩ := ob_some e
          refine at_callV1 hX cv_X7_106 (by decide) (c_X7_refuse _ _ _ _ e1) (Nat.le_of_ble_eq_true rfl) dX7_order_38 ?_
          exact at_ireturn hX hR rfl (by cases e; rfl) (by cases e; rfl) dX7_order_41
      · replace e := ip_ c20 e
        refine at_goto hX (tgt := 62) (by decide) dX7_order_23 ?_
        exact at_sub [0, 1, 2] rfl ((A_X7_order_62 hn hX hR (F_X7_order_7 n k68) ih) _ _ _ e)
def F_X7_order (x1 : Int32) (h : Hp) : Option (Int32 × Hp) := bd_ (sI_ h 481 (0 : Int32)) fun h2 => (F_X7_order_7 FU_ F_X7_order_68) x1 (0 : Int32) h2
theorem c_X7_order (l : Launch) (G : Gl) (x1 : Int32) (h : Hp) {r : Int32} {h' : Hp} (e : F_X7_order x1 h = some (r, h')) : Does l G 46 M_X7_order [.ref 7, .int x1] h (some (.int r)) h' := by
  refine Does.of (by decide) rfl (Nat.le_of_ble_eq_true rfl) (fun X hl hG hn hX hR => ?_)
  unfold F_X7_order at e
  subst hl; subst hG
  show At_ X 0 [(0, .ref 7), (1, .int x1)] [] h
  refine at_aload_n hX rfl rfl dX7_order_0 ?_
  refine at_iconst hX (v := 0) (by decide) dX7_order_1 ?_
  obtain ⟨h2, eh2, e⟩ := bd_some e
  refine pf_X7_277 hX dX7_order_2 ?_
  refine at_th eh2 ?_
  refine at_iconst hX (v := 0) (by decide) dX7_order_5 ?_
  refine at_istore_n hX rfl hn (by decide) dX7_order_6 ?_
  exact at_sub [0, 1, 2] rfl ((A_X7_order_7 hn hX hR F_X7_order_68 (A_X7_order_68 hn hX hR) FU_) _ _ _ e)

def F_X7_seen_139 (k51 : Int32 → Int32 → Int32 → Int32 → Hp → Option (Int32 × Hp)) (x1 : Int32) (x2 : Int32) (x3 : Int32) (x4 : Int32) (s0 : Int32) (h : Hp) : Option (Int32 × Hp) := rA_ h 40 180 s0 fun v147 => if v147 < (0 : Int32) then k51 x1 x2 x3 (x4 + (1 : Int32)) h else rA_ h 40 180 s0 fun v161 => rA_ h 47 40 v161 fun v162 => some (v162, h)
theorem A_X7_seen_139 {X : CX} {h' : Hp} {r : Int32} (hn : (xc_ X).maxLocals = 6) (hX : Ok_ X RX7 cX7_seen 2) (hR : Rt_ X (some .int) (some (.int r)) h') (k51 : Int32 → Int32 → Int32 → Int32 → Hp → Option (Int32 × Hp)) (hk51 : ∀ (x1 : Int32) (x2 : Int32) (x3 : Int32) (x4 : Int32) (h : Hp), k51 x1 x2 x3 x4 h = some (r, h') → At_ X 51 [(0, .ref 7), (1, .int x1), (2, .int x2), (3, .int x3), (4, .int x4)] [] h) (x1 : Int32) (x2 : Int32) (x3 : Int32) (x4 : Int32) (s0 : Int32) (h : Hp) (e : F_X7_seen_139 k51 x1 x2 x3 x4 s0 h = some (r, h')) : At_ X 139 [(0, .ref 7), (1, .int x1), (2, .int x2), (3, .int x3), (4, .int x4)] [.int s0] h := by
  unfold F_X7_seen_139 at e
  refine at_istore hX hn (by decide) dX7_seen_139 ?_
  refine at_aload_n hX rfl rfl dX7_seen_141 ?_
  refine gf_X7_16 hX dX7_seen_142 ?_
  refine at_iload hX rfl dX7_seen_145 ?_
  obtain ⟨hi, v147, ev147, e⟩ := rA_some e
  refine at_iald hX (o := 40) (by decide) rfl hi dX7_seen_147 ?_
  refine at_ti ev147 ?_
  refine at_if_lt hX (tgt := 164) (by decide) dX7_seen_148 (fun c148 => ?_) (fun c148 => ?_)
  · replace e := ip_ c148 e
    refine at_iinc hX hn (by decide) rfl (v := 1) (by decide) dX7_seen_164 ?_
    refine at_goto hX (tgt := 51) (by decide) dX7_seen_167 ?_
    exact at_sub [0, 1, 2, 3, 4] rfl (hk51 _ _ _ _ _ e)
  · replace e := in_ c148 e
    refine at_aload_n hX rfl rfl dX7_seen_151 ?_
    refine gf_X7_37 hX dX7_seen_152 ?_
    refine at_aload_n hX rfl rfl dX7_seen_155 ?_
    refine gf_X7_16 hX dX7_seen_156 ?_
    refine at_iload hX rfl dX7_seen_159 ?_
    obtain ⟨hi, v161, ev161, e⟩ := rA_some e
    refine at_iald hX (o := 40) (by decide) rfl hi dX7_seen_161 ?_
    refine at_ti ev161 ?_
    obtain ⟨hi, v162, ev162, e⟩ := rA_some e
    refine at_iald hX (o := 47) (by decide) rfl hi dX7_seen_162 ?_
    refine at_ti ev162 ?_
    exact at_ireturn hX hR rfl (by cases e; rfl) (by cases e; rfl) dX7_seen_163
def F_X7_seen_64 (k51 : Int32 → Int32 → Int32 → Int32 → Hp → Option (Int32 × Hp)) (x1 : Int32) (x2 : Int32) (x3 : Int32) (x4 : Int32) (s0 : Int32) (s1 : Int32) (h : Hp) : Option (Int32 × Hp) := if s1 ≤ s0 then some ((0 : Int32), h) else if x1 = (0 : Int32) then (F_X7_cellAt x2 x4 x3).bind fun v75 => (F_X7_seen_139 k51) x1 x2 x3 x4 v75 h else if x1 = (1 : Int32) then (F_X7_cellAt ((5 : Int32) - x4) x2 x3).bind fun v92 => (F_X7_seen_139 k51) x1 x2 x3 x4 v92 h else if x1 = (2 : Int32) then (F_X7_cellAt x2 ((5 : Int32) - x4) x3).bind fun v109 => (F_X7_seen_139 k51) x1 x2 x3 x4 v109 h else if x1 = (3 : Int32) then (F_X7_cellAt x4 x2 x3).bind fun v124 => (F_X7_seen_139 k51) x1 x2 x3 x4 v124 h else (F_X7_cellAt x2 x3 ((4 : Int32) - x4)).bind fun v136 => (F_X7_seen_139 k51) x1 x2 x3 x4 v136 h
theorem A_X7_seen_64 {X : CX} {h' : Hp} {r : Int32} (hn : (xc_ X).maxLocals = 6) (hX : Ok_ X RX7 cX7_seen 2) (hR : Rt_ X (some .int) (some (.int r)) h') (k51 : Int32 → Int32 → Int32 → Int32 → Hp → Option (Int32 × Hp)) (hk51 : ∀ (x1 : Int32) (x2 : Int32) (x3 : Int32) (x4 : Int32) (h : Hp), k51 x1 x2 x3 x4 h = some (r, h') → At_ X 51 [(0, .ref 7), (1, .int x1), (2, .int x2), (3, .int x3), (4, .int x4)] [] h) (x1 : Int32) (x2 : Int32) (x3 : Int32) (x4 : Int32) (s0 : Int32) (s1 : Int32) (h : Hp) (e : F_X7_seen_64 k51 x1 x2 x3 x4 s0 s1 h = some (r, h')) : At_ X 64 [(0, .ref 7), (1, .int x1), (2, .int x2), (3, .int x3), (4, .int x4)] [.int s1, .int s0] h := by
  unfold F_X7_seen_64 at e
  refine at_icmp_ge hX (tgt := 170) (by decide) dX7_seen_64 (fun c64 => ?_) (fun c64 => ?_)
  · replace e := ip_ c64 e
    refine at_iconst hX (v := 0) (by decide) dX7_seen_170 ?_
    exact at_ireturn hX hR rfl (by cases e; rfl) (by cases e; rfl) dX7_seen_171
  · replace e := in_ c64 e
    refine at_iload_n hX rfl rfl dX7_seen_67 ?_
    refine at_if_ne hX (tgt := 81) (by decide) dX7_seen_68 (fun c68 => ?_) (fun c68 => ?_)
    · replace e := in_ c68 e
      refine at_iload_n hX rfl rfl dX7_seen_81 ?_
      refine at_iconst hX (v := 1) (by decide) dX7_seen_82 ?_
      refine at_icmp_ne hX (tgt := 98) (by decide) dX7_seen_83 (fun c83 => ?_) (fun c83 => ?_)
      · replace e := in_ c83 e
        refine at_iload_n hX rfl rfl dX7_seen_98 ?_
        refine at_iconst hX (v := 2) (by decide) dX7_seen_99 ?_
        refine at_icmp_ne hX (tgt := 115) (by decide) dX7_seen_100 (fun c100 => ?_) (fun c100 => ?_)
        · replace e := in_ c100 e
          refine at_iload_n hX rfl rfl dX7_seen_115 ?_
          refine at_iconst hX (v := 3) (by decide) dX7_seen_116 ?_
          refine at_icmp_ne hX (tgt := 130) (by decide) dX7_seen_117 (fun c117 => ?_) (fun c117 => ?_)
          · replace e := in_ c117 e
            refine at_iload_n hX rfl rfl dX7_seen_130 ?_
            refine at_iload_n hX rfl rfl dX7_seen_131 ?_
            refine at_iconst hX (v := 4) (by decide) dX7_seen_132 ?_
            refine at_iload hX rfl dX7_seen_133 ?_
            refine at_isub hX dX7_seen_135 ?_
            obtain ⟨v136, e1, e⟩ := ob_some e
            refine at_callS3 hX cv_X7_110 (by decide) (c_X7_cellAt _ _ _ _ _ _ e1) (Nat.le_of_ble_eq_true rfl) dX7_seen_136 ?_
            exact at_sub [0, 1, 2, 3, 4] rfl ((A_X7_seen_139 hn hX hR k51 hk51) _ _ _ _ _ _ e)
          · replace e := ip_ c117 e
            refine at_iload hX rfl dX7_seen_120 ?_
            refine at_iload_n hX rfl rfl dX7_seen_122 ?_
            refine at_iload_n hX rfl rfl dX7_seen_123 ?_
            obtain ⟨v124, e1, e⟩ := ob_some e
            refine at_callS3 hX cv_X7_110 (by decide) (c_X7_cellAt _ _ _ _ _ _ e1) (Nat.le_of_ble_eq_true rfl) dX7_seen_124 ?_
            refine at_goto hX (tgt := 139) (by decide) dX7_seen_127 ?_
            exact at_sub [0, 1, 2, 3, 4] rfl ((A_X7_seen_139 hn hX hR k51 hk51) _ _ _ _ _ _ e)
        · replace e := ip_ c100 e
          refine at_iload_n hX rfl rfl dX7_seen_103 ?_
          refine at_iconst hX (v := 5) (by decide) dX7_seen_104 ?_
          refine at_iload hX rfl dX7_seen_105 ?_
          refine at_isub hX dX7_seen_107 ?_
          refine at_iload_n hX rfl rfl dX7_seen_108 ?_
          obtain ⟨v109, e1, e⟩ := ob_some e
          refine at_callS3 hX cv_X7_110 (by decide) (c_X7_cellAt _ _ _ _ _ _ e1) (Nat.le_of_ble_eq_true rfl) dX7_seen_109 ?_
          refine at_goto hX (tgt := 139) (by decide) dX7_seen_112 ?_
          exact at_sub [0, 1, 2, 3, 4] rfl ((A_X7_seen_139 hn hX hR k51 hk51) _ _ _ _ _ _ e)
      · replace e := ip_ c83 e
        refine at_iconst hX (v := 5) (by decide) dX7_seen_86 ?_
        refine at_iload hX rfl dX7_seen_87 ?_
        refine at_isub hX dX7_seen_89 ?_
        refine at_iload_n hX rfl rfl dX7_seen_90 ?_
        refine at_iload_n hX rfl rfl dX7_seen_91 ?_
        obtain ⟨v92, e1, e⟩ := ob_some e
        refine at_callS3 hX cv_X7_110 (by decide) (c_X7_cellAt _ _ _ _ _ _ e1) (Nat.le_of_ble_eq_true rfl) dX7_seen_92 ?_
        refine at_goto hX (tgt := 139) (by decide) dX7_seen_95 ?_
        exact at_sub [0, 1, 2, 3, 4] rfl ((A_X7_seen_139 hn hX hR k51 hk51) _ _ _ _ _ _ e)
    · replace e := ip_ c68 e
      refine at_iload_n hX rfl rfl dX7_seen_71 ?_
      refine at_iload hX rfl dX7_seen_72 ?_
      refine at_iload_n hX rfl rfl dX7_seen_74 ?_
      obtain ⟨v75, e1, e⟩ := ob_some e
      refine at_callS3 hX cv_X7_110 (by decide) (c_X7_cellAt _ _ _ _ _ _ e1) (Nat.le_of_ble_eq_true rfl) dX7_seen_75 ?_
      refine at_goto hX (tgt := 139) (by decide) dX7_seen_78 ?_
      exact at_sub [0, 1, 2, 3, 4] rfl ((A_X7_seen_139 hn hX hR k51 hk51) _ _ _ _ _ _ e)
def F_X7_seen_51 (n : Nat) (x1 : Int32) (x2 : Int32) (x3 : Int32) (x4 : Int32) (h : Hp) : Option (Int32 × Hp) := match n with
  | 0 => none
  | n + 1 => if x1 = (4 : Int32) then (F_X7_seen_64 (F_X7_seen_51 n)) x1 x2 x3 x4 x4 (5 : Int32) h else (F_X7_seen_64 (F_X7_seen_51 n)) x1 x2 x3 x4 x4 (6 : Int32) h
theorem A_X7_seen_51 {X : CX} {h' : Hp} {r : Int32} (hn : (xc_ X).maxLocals = 6) (hX : Ok_ X RX7 cX7_seen 2) (hR : Rt_ X (some .int) (some (.int r)) h') : ∀ (n : Nat) (x1 : Int32) (x2 : Int32) (x3 : Int32) (x4 : Int32) (h : Hp), F_X7_seen_51 n x1 x2 x3 x4 h = some (r, h') → At_ X 51 [(0, .ref 7), (1, .int x1), (2, .int x2), (3, .int x3), (4, .int x4)] [] h := by
  intro n
  induction n with
  | zero => intro x1 x2 x3 x4 h e; cases e
  | succ n ih =>
    intro x1 x2 x3 x4 h e
    rw [F_X7_seen_51] at e
    refine at_iload hX rfl dX7_seen_51 ?_
    refine at_iload_n hX rfl rfl dX7_seen_53 ?_
    refine at_iconst hX (v := 4) (by decide) dX7_seen_54 ?_
    refine at_icmp_ne hX (tgt := 62) (by decide) dX7_seen_55 (fun c55 => ?_) (fun c55 => ?_)
    · replace e := in_ c55 e
      refine at_bipush hX (v := 6) (by decide) dX7_seen_62 ?_
      exact at_sub [0, 1, 2, 3, 4] rfl ((A_X7_seen_64 hn hX hR (F_X7_seen_51 n) ih) _ _ _ _ _ _ _ e)
    · replace e := ip_ c55 e
      refine at_iconst hX (v := 5) (by decide) dX7_seen_58 ?_
      refine at_goto hX (tgt := 64) (by decide) dX7_seen_59 ?_
      exact at_sub [0, 1, 2, 3, 4] rfl ((A_X7_seen_64 hn hX hR (F_X7_seen_51 n) ih) _ _ _ _ _ _ _ e)
def F_X7_seen_36 (x1 : Int32) (x2 : Int32) (x3 : Int32) (s0 : Int32) (s1 : Int32) (h : Hp) : Option (Int32 × Hp) := (F_X7_isIn s0 s1).bind fun v36 => if v36 = (0 : Int32) then (F_X7_refuse (-1 : Int32) h).bind fun ((v44, h44) : Int32 × Hp) => some (v44, h44) else (F_X7_seen_51 FU_) x1 x2 x3 (0 : Int32) h
theorem A_X7_seen_36 {X : CX} {h' : Hp} {r : Int32} (hn : (xc_ X).maxLocals = 6) (hX : Ok_ X RX7 cX7_seen 2) (hR : Rt_ X (some .int) (some (.int r)) h') (x1 : Int32) (x2 : Int32) (x3 : Int32) (s0 : Int32) (s1 : Int32) (h : Hp) (e : F_X7_seen_36 x1 x2 x3 s0 s1 h = some (r, h')) : At_ X 36 [(0, .ref 7), (1, .int x1), (2, .int x2), (3, .int x3)] [.int s1, .int s0] h := by
  unfold F_X7_seen_36 at e
  obtain ⟨v36, e1, e⟩ := ob_some e
  refine at_callS2 hX cv_X7_98 (by decide) (c_X7_isIn _ _ _ _ _ e1) (Nat.le_of_ble_eq_true rfl) dX7_seen_36 ?_
  refine at_if_ne hX (tgt := 48) (by decide) dX7_seen_39 (fun c39 => ?_) (fun c39 => ?_)
  · replace e := in_ c39 e
    refine at_iconst hX (v := 0) (by decide) dX7_seen_48 ?_
    refine at_istore hX hn (by decide) dX7_seen_49 ?_
    exact at_sub [0, 1, 2, 3, 4] rfl ((A_X7_seen_51 hn hX hR FU_) _ _ _ _ _ e)
  · replace e := ip_ c39 e
    refine at_aload_n hX rfl rfl dX7_seen_42 ?_
    refine at_iconst hX (v := -1) (by decide) dX7_seen_43 ?_
    obtain ⟨⟨v44, h44⟩, e1, e⟩ := ob_some e
    refine at_callV1 hX cv_X7_106 (by decide) (c_X7_refuse _ _ _ _ e1) (Nat.le_of_ble_eq_true rfl) dX7_seen_44 ?_
    exact at_ireturn hX hR rfl (by cases e; rfl) (by cases e; rfl) dX7_seen_47
def F_X7_seen (x1 : Int32) (x2 : Int32) (x3 : Int32) (h : Hp) : Option (Int32 × Hp) := (F_X7_isIn x1 (5 : Int32)).bind fun v2 => if v2 = (0 : Int32) then (F_X7_refuse (-2 : Int32) h).bind fun ((v11, h11) : Int32 × Hp) => some (v11, h11) else (F_X7_isIn x2 (6 : Int32)).bind fun v18 => if v18 = (0 : Int32) then (F_X7_refuse (-1 : Int32) h).bind fun ((v44, h44) : Int32 × Hp) => some (v44, h44) else if x1 = (4 : Int32) then F_X7_seen_36 x1 x2 x3 x3 (6 : Int32) h else F_X7_seen_36 x1 x2 x3 x3 (5 : Int32) h
theorem c_X7_seen (l : Launch) (G : Gl) (x1 : Int32) (x2 : Int32) (x3 : Int32) (h : Hp) {r : Int32} {h' : Hp} (e : F_X7_seen x1 x2 x3 h = some (r, h')) : Does l G 2 M_X7_seen [.ref 7, .int x1, .int x2, .int x3] h (some (.int r)) h' := by
  refine Does.of (by decide) rfl (Nat.le_of_ble_eq_true rfl) (fun X hl hG hn hX hR => ?_)
  unfold F_X7_seen at e
  subst hl; subst hG
  show At_ X 0 [(0, .ref 7), (1, .int x1), (2, .int x2), (3, .int x3)] [] h
  refine at_iload_n hX rfl rfl dX7_seen_0 ?_
  refine at_iconst hX (v := 5) (by decide) dX7_seen_1 ?_
  obtain ⟨v2, e1, e⟩ := ob_some e
  refine at_callS2 hX cv_X7_98 (by decide) (c_X7_isIn _ _ _ _ _ e1) (Nat.le_of_ble_eq_true rfl) dX7_seen_2 ?_
  refine at_if_ne hX (tgt := 15) (by decide) dX7_seen_5 (fun c5 => ?_) (fun c5 => ?_)
  · replace e := in_ c5 e
    refine at_iload_n hX rfl rfl dX7_seen_15 ?_
    refine at_bipush hX (v := 6) (by decide) dX7_seen_16 ?_
    obtain ⟨v18, e1, e⟩ := ob_some e
    refine at_callS2 hX cv_X7_98 (by decide) (c_X7_isIn _ _ _ _ _ e1) (Nat.le_of_ble_eq_true rfl) dX7_seen_18 ?_
    refine at_if_eq hX (tgt := 42) (by decide) dX7_seen_21 (fun c21 => ?_) (fun c21 => ?_)
    · replace e := ip_ c21 e
      refine at_aload_n hX rfl rfl dX7_seen_42 ?_
      refine at_iconst hX (v := -1) (by decide) dX7_seen_43 ?_
      obtain ⟨⟨v44, h44⟩, e1, e⟩ := ob_some e
      refine at_callV1 hX cv_X7_106 (by decide) (c_X7_refuse _ _ _ _ e1) (Nat.le_of_ble_eq_true rfl) dX7_seen_44 ?_
      exact at_ireturn hX hR rfl (by cases e; rfl) (by cases e; rfl) dX7_seen_47
    · replace e := in_ c21 e
      refine at_iload_n hX rfl rfl dX7_seen_24 ?_
      refine at_iload_n hX rfl rfl dX7_seen_25 ?_
      refine at_iconst hX (v := 4) (by decide) dX7_seen_26 ?_
      refine at_icmp_ne hX (tgt := 35) (by decide) dX7_seen_27 (fun c27 => ?_) (fun c27 => ?_)
      · replace e := in_ c27 e
        refine at_iconst hX (v := 5) (by decide) dX7_seen_35 ?_
        exact at_sub [0, 1, 2, 3] rfl ((A_X7_seen_36 hn hX hR) _ _ _ _ _ _ e)
      · replace e := ip_ c27 e
        refine at_bipush hX (v := 6) (by decide) dX7_seen_30 ?_
        refine at_goto hX (tgt := 36) (by decide) dX7_seen_32 ?_
        exact at_sub [0, 1, 2, 3] rfl ((A_X7_seen_36 hn hX hR) _ _ _ _ _ _ e)
  · replace e := ip_ c5 e
    refine at_aload_n hX rfl rfl dX7_seen_8 ?_
    refine at_bipush hX (v := -2) (by decide) dX7_seen_9 ?_
    obtain ⟨⟨v11, h11⟩, e1, e⟩ := ob_some e
    refine at_callV1 hX cv_X7_106 (by decide) (c_X7_refuse _ _ _ _ e1) (Nat.le_of_ble_eq_true rfl) dX7_seen_11 ?_
    exact at_ireturn hX hR rfl (by cases e; rfl) (by cases e; rfl) dX7_seen_14

def F_X7_brickOf (x1 : Int32) (x2 : Int32) (h : Hp) : Option (Int32 × Hp) := (F_X7_isBrick x1 h).bind fun v2 => if v2 = (0 : Int32) then (F_X7_refuse (-1 : Int32) h).bind fun ((v10, h10) : Int32 × Hp) => some (v10, h10) else if x2 = nI 0 then rA_ h 42 40 x1 fun v61 => some (v61, h) else if x2 = nI 1 then rA_ h 43 40 x1 fun v68 => some (v68, h) else if x2 = nI 2 then rA_ h 44 40 x1 fun v75 => some (v75, h) else if x2 = nI 3 then rA_ h 45 40 x1 fun v82 => some (v82, h) else if x2 = nI 4 then rA_ h 46 40 x1 fun v89 => some (v89, h) else if x2 = nI 5 then rA_ h 47 40 x1 fun v96 => some (v96, h) else if x2 = nI 6 then (F_X7_isThere x1 h).bind fun v100 => if v100 = (0 : Int32) then some ((1 : Int32), h) else some ((0 : Int32), h) else (F_X7_refuse (-2 : Int32) h).bind fun ((v115, h115) : Int32 × Hp) => some (v115, h115)
theorem c_X7_brickOf (l : Launch) (G : Gl) (x1 : Int32) (x2 : Int32) (h : Hp) {r : Int32} {h' : Hp} (e : F_X7_brickOf x1 x2 h = some (r, h')) : Does l G 3 M_X7_brickOf [.ref 7, .int x1, .int x2] h (some (.int r)) h' := by
  refine Does.of (by decide) rfl (Nat.le_of_ble_eq_true rfl) (fun X hl hG hn hX hR => ?_)
  unfold F_X7_brickOf at e
  subst hl; subst hG
  show At_ X 0 [(0, .ref 7), (1, .int x1), (2, .int x2)] [] h
  refine at_aload_n hX rfl rfl dX7_brickOf_0 ?_
  refine at_iload_n hX rfl rfl dX7_brickOf_1 ?_
  obtain ⟨v2, e1, e⟩ := ob_some e
  refine at_callV1 hX cv_X7_148 (by decide) (c_X7_isBrick _ _ _ _ e1) (Nat.le_of_ble_eq_true rfl) dX7_brickOf_2 ?_
  refine at_if_ne hX (tgt := 14) (by decide) dX7_brickOf_5 (fun c5 => ?_) (fun c5 => ?_)
  · replace e := in_ c5 e
    refine at_iload_n hX rfl rfl dX7_brickOf_14 ?_
    by_cases w0 : x2 = nI 0
    · replace e := ip_ w0 e
      refine at_tabIn hX (tgt := 56) 0 41 w0 (by decide) (by decide) rfl (by decide) dX7_brickOf_15 ?_
      refine at_aload_n hX rfl rfl dX7_brickOf_56 ?_
      refine gf_X7_22 hX dX7_brickOf_57 ?_
      refine at_iload_n hX rfl rfl dX7_brickOf_60 ?_
      obtain ⟨hi, v61, ev61, e⟩ := rA_some e
      refine at_iald hX (o := 42) (by decide) rfl hi dX7_brickOf_61 ?_
      refine at_ti ev61 ?_
      exact at_ireturn hX hR rfl (by cases e; rfl) (by cases e; rfl) dX7_brickOf_62
    · replace e := in_ w0 e
      by_cases w1 : x2 = nI 1
      · replace e := ip_ w1 e
        refine at_tabIn hX (tgt := 63) 1 48 w1 (by decide) (by decide) rfl (by decide) dX7_brickOf_15 ?_
        refine at_aload_n hX rfl rfl dX7_brickOf_63 ?_
        refine gf_X7_25 hX dX7_brickOf_64 ?_
        refine at_iload_n hX rfl rfl dX7_brickOf_67 ?_
        obtain ⟨hi, v68, ev68, e⟩ := rA_some e
        refine at_iald hX (o := 43) (by decide) rfl hi dX7_brickOf_68 ?_
        refine at_ti ev68 ?_
        exact at_ireturn hX hR rfl (by cases e; rfl) (by cases e; rfl) dX7_brickOf_69
      · replace e := in_ w1 e
        by_cases w2 : x2 = nI 2
        · replace e := ip_ w2 e
          refine at_tabIn hX (tgt := 70) 2 55 w2 (by decide) (by decide) rfl (by decide) dX7_brickOf_15 ?_
          refine at_aload_n hX rfl rfl dX7_brickOf_70 ?_
          refine gf_X7_28 hX dX7_brickOf_71 ?_
          refine at_iload_n hX rfl rfl dX7_brickOf_74 ?_
          obtain ⟨hi, v75, ev75, e⟩ := rA_some e
          refine at_iald hX (o := 44) (by decide) rfl hi dX7_brickOf_75 ?_
          refine at_ti ev75 ?_
          exact at_ireturn hX hR rfl (by cases e; rfl) (by cases e; rfl) dX7_brickOf_76
        · replace e := in_ w2 e
          by_cases w3 : x2 = nI 3
          · replace e := ip_ w3 e
            refine at_tabIn hX (tgt := 77) 3 62 w3 (by decide) (by decide) rfl (by decide) dX7_brickOf_15 ?_
            refine at_aload_n hX rfl rfl dX7_brickOf_77 ?_
            refine gf_X7_31 hX dX7_brickOf_78 ?_
            refine at_iload_n hX rfl rfl dX7_brickOf_81 ?_
            obtain ⟨hi, v82, ev82, e⟩ := rA_some e
            refine at_iald hX (o := 45) (by decide) rfl hi dX7_brickOf_82 ?_
            refine at_ti ev82 ?_
            exact at_ireturn hX hR rfl (by cases e; rfl) (by cases e; rfl) dX7_brickOf_83
          · replace e := in_ w3 e
            by_cases w4 : x2 = nI 4
            · replace e := ip_ w4 e
              refine at_tabIn hX (tgt := 84) 4 69 w4 (by decide) (by decide) rfl (by decide) dX7_brickOf_15 ?_
              refine at_aload_n hX rfl rfl dX7_brickOf_84 ?_
              refine gf_X7_34 hX dX7_brickOf_85 ?_
              refine at_iload_n hX rfl rfl dX7_brickOf_88 ?_
              obtain ⟨hi, v89, ev89, e⟩ := rA_some e
              refine at_iald hX (o := 46) (by decide) rfl hi dX7_brickOf_89 ?_
              refine at_ti ev89 ?_
              exact at_ireturn hX hR rfl (by cases e; rfl) (by cases e; rfl) dX7_brickOf_90
            · replace e := in_ w4 e
              by_cases w5 : x2 = nI 5
              · replace e := ip_ w5 e
                refine at_tabIn hX (tgt := 91) 5 76 w5 (by decide) (by decide) rfl (by decide) dX7_brickOf_15 ?_
                refine at_aload_n hX rfl rfl dX7_brickOf_91 ?_
                refine gf_X7_37 hX dX7_brickOf_92 ?_
                refine at_iload_n hX rfl rfl dX7_brickOf_95 ?_
                obtain ⟨hi, v96, ev96, e⟩ := rA_some e
                refine at_iald hX (o := 47) (by decide) rfl hi dX7_brickOf_96 ?_
                refine at_ti ev96 ?_
                exact at_ireturn hX hR rfl (by cases e; rfl) (by cases e; rfl) dX7_brickOf_97
              · replace e := in_ w5 e
                by_cases w6 : x2 = nI 6
                · replace e := ip_ w6 e
                  refine at_tabIn hX (tgt := 98) 6 83 w6 (by decide) (by decide) rfl (by decide) dX7_brickOf_15 ?_
                  refine at_aload_n hX rfl rfl dX7_brickOf_98 ?_
                  refine at_iload_n hX rfl rfl dX7_brickOf_99 ?_
                  obtain ⟨v100, e1, e⟩ := ob_some e
                  refine at_callV1 hX cv_X7_152 (by decide) (c_X7_isThere _ _ _ _ e1) (Nat.le_of_ble_eq_true rfl) dX7_brickOf_100 ?_
                  refine at_if_eq hX (tgt := 110) (by decide) dX7_brickOf_103 (fun c103 => ?_) (fun c103 => ?_)
                  · replace e := ip_ c103 e
                    refine at_iconst hX (v := 1) (by decide) dX7_brickOf_110 ?_
                    exact at_ireturn hX hR rfl (by cases e; rfl) (by cases e; rfl) dX7_brickOf_111
                  · replace e := in_ c103 e
                    refine at_iconst hX (v := 0) (by decide) dX7_brickOf_106 ?_
                    refine at_goto hX (tgt := 111) (by decide) dX7_brickOf_107 ?_
                    exact at_ireturn hX hR rfl (by cases e; rfl) (by cases e; rfl) dX7_brickOf_111
                · replace e := in_ w6 e
                  refine at_tabOut hX (tgt := 112) (tab_out (hi := 6) (by decide) (fun j hj => by rcases (show j = 0 ∨ j = 1 ∨ j = 2 ∨ j = 3 ∨ j = 4 ∨ j = 5 ∨ j = 6 by omega) with rfl | rfl | rfl | rfl | rfl | rfl | rfl <;> assumption)) (by decide) dX7_brickOf_15 ?_
                  refine at_aload_n hX rfl rfl dX7_brickOf_112 ?_
                  refine at_bipush hX (v := -2) (by decide) dX7_brickOf_113 ?_
                  obtain ⟨⟨v115, h115⟩, e1, e⟩ := ob_some e
                  refine at_callV1 hX cv_X7_106 (by decide) (c_X7_refuse _ _ _ _ e1) (Nat.le_of_ble_eq_true rfl) dX7_brickOf_115 ?_
                  exact at_ireturn hX hR rfl (by cases e; rfl) (by cases e; rfl) dX7_brickOf_118
  · replace e := ip_ c5 e
    refine at_aload_n hX rfl rfl dX7_brickOf_8 ?_
    refine at_iconst hX (v := -1) (by decide) dX7_brickOf_9 ?_
    obtain ⟨⟨v10, h10⟩, e1, e⟩ := ob_some e
    refine at_callV1 hX cv_X7_106 (by decide) (c_X7_refuse _ _ _ _ e1) (Nat.le_of_ble_eq_true rfl) dX7_brickOf_10 ?_
    exact at_ireturn hX hR rfl (by cases e; rfl) (by cases e; rfl) dX7_brickOf_13

def F_X7_count_219 (k192 : Int32 → Int32 → Hp → Option (Int32 × Hp)) (x3 : Int32) (s0 : Int32) (s1 : Int32) (h : Hp) : Option (Int32 × Hp) := k192 (s0 + s1) (x3 + (1 : Int32)) h
theorem A_X7_count_219 {X : CX} {h' : Hp} {r : Int32} (hn : (xc_ X).maxLocals = 6) (hX : Ok_ X RX7 cX7_count 5) (hR : Rt_ X (some .int) (some (.int r)) h') (k192 : Int32 → Int32 → Hp → Option (Int32 × Hp)) (hk192 : ∀ (x2 : Int32) (x3 : Int32) (h : Hp), k192 x2 x3 h = some (r, h') → At_ X 192 [(0, .ref 7), (2, .int x2), (3, .int x3)] [] h) (x3 : Int32) (s0 : Int32) (s1 : Int32) (h : Hp) (e : F_X7_count_219 k192 x3 s0 s1 h = some (r, h')) : At_ X 219 [(0, .ref 7), (3, .int x3)] [.int s1, .int s0] h := by
  unfold F_X7_count_219 at e
  refine at_iadd hX dX7_count_219 ?_
  refine at_istore_n hX rfl hn (by decide) dX7_count_220 ?_
  refine at_iinc hX hn (by decide) rfl (v := 1) (by decide) dX7_count_221 ?_
  refine at_goto hX (tgt := 192) (by decide) dX7_count_224 ?_
  exact at_sub [0, 2, 3] rfl (hk192 _ _ _ e)
def F_X7_count_192 (n : Nat) (x2 : Int32) (x3 : Int32) (h : Hp) : Option (Int32 × Hp) := match n with
  | 0 => none
  | n + 1 => if gI_ h 467 ≤ x3 then some (x2, h) else rL_ h 53 40 x3 fun v207 => (F_X7_floats v207 h).bind fun v208 => if v208 = (0 : Int32) then (F_X7_count_219 (F_X7_count_192 n)) x3 x2 (0 : Int32) h else (F_X7_count_219 (F_X7_count_192 n)) x3 x2 (1 : Int32) h
theorem A_X7_count_192 {X : CX} {h' : Hp} {r : Int32} (hn : (xc_ X).maxLocals = 6) (hX : Ok_ X RX7 cX7_count 5) (hR : Rt_ X (some .int) (some (.int r)) h') : ∀ (n : Nat) (x2 : Int32) (x3 : Int32) (h : Hp), F_X7_count_192 n x2 x3 h = some (r, h') → At_ X 192 [(0, .ref 7), (2, .int x2), (3, .int x3)] [] h := by
  intro n
  induction n with
  | zero => intro x2 x3 h e; cases e
  | succ n ih =>
    intro x2 x3 h e
    rw [F_X7_count_192] at e
    refine at_iload_n hX rfl rfl dX7_count_192 ?_
    refine at_aload_n hX rfl rfl dX7_count_193 ?_
    refine gf_X7_204 hX dX7_count_194 ?_
    refine at_icmp_ge hX (tgt := 227) (by decide) dX7_count_197 (fun c197 => ?_) (fun c197 => ?_)
    · replace e := ip_ c197 e
      refine at_iload_n hX rfl rfl dX7_count_227 ?_
      exact at_ireturn hX hR rfl (by cases e; rfl) (by cases e; rfl) dX7_count_228
    · replace e := in_ c197 e
      refine at_iload_n hX rfl rfl dX7_count_200 ?_
      refine at_aload_n hX rfl rfl dX7_count_201 ?_
      refine at_aload_n hX rfl rfl dX7_count_202 ?_
      refine gf_X7_60 hX dX7_count_203 ?_
      refine at_iload_n hX rfl rfl dX7_count_206 ?_
      obtain ⟨hi, v207, ev207, e⟩ := rL_some e
      refine at_lald hX (o := 53) (by decide) rfl hi dX7_count_207 ?_
      refine at_tl ev207 ?_
      obtain ⟨v208, e1, e⟩ := ob_some e
      refine at_callV1 hX cv_X7_190 (by decide) (c_X7_floats _ _ _ _ e1) (Nat.le_of_ble_eq_true rfl) dX7_count_208 ?_
      refine at_if_eq hX (tgt := 218) (by decide) dX7_count_211 (fun c211 => ?_) (fun c211 => ?_)
      · replace e := ip_ c211 e
        refine at_iconst hX (v := 0) (by decide) dX7_count_218 ?_
        exact at_sub [0, 3] rfl ((A_X7_count_219 hn hX hR (F_X7_count_192 n) ih) _ _ _ _ e)
      · replace e := in_ c211 e
        refine at_iconst hX (v := 1) (by decide) dX7_count_214 ?_
        refine at_goto hX (tgt := 219) (by decide) dX7_count_215 ?_
        exact at_sub [0, 3] rfl ((A_X7_count_219 hn hX hR (F_X7_count_192 n) ih) _ _ _ _ e)
def F_X7_count_178 (k117 : Int32 → Int32 → Hp → Option (Int32 × Hp)) (x2 : Int32) (x3 : Int32) (h : Hp) : Option (Int32 × Hp) := k117 x2 (x3 + (1 : Int32)) h
theorem A_X7_count_178 {X : CX} {h' : Hp} {r : Int32} (hn : (xc_ X).maxLocals = 6) (hX : Ok_ X RX7 cX7_count 5) (hR : Rt_ X (some .int) (some (.int r)) h') (k117 : Int32 → Int32 → Hp → Option (Int32 × Hp)) (hk117 : ∀ (x2 : Int32) (x3 : Int32) (h : Hp), k117 x2 x3 h = some (r, h') → At_ X 117 [(0, .ref 7), (2, .int x2), (3, .int x3)] [] h) (x2 : Int32) (x3 : Int32) (h : Hp) (e : F_X7_count_178 k117 x2 x3 h = some (r, h')) : At_ X 178 [(0, .ref 7), (2, .int x2), (3, .int x3)] [] h := by
  unfold F_X7_count_178 at e
  refine at_iinc hX hn (by decide) rfl (v := 1) (by decide) dX7_count_178 ?_
  refine at_goto hX (tgt := 117) (by decide) dX7_count_181 ?_
  exact at_sub [0, 2, 3] rfl (hk117 _ _ _ e)
def F_X7_count_164 (k133 : Int32 → Int32 → Int64 → Hp → Option (Int32 × Hp)) (x3 : Int32) (x4 : Int64) (s0 : Int32) (s1 : Int32) (h : Hp) : Option (Int32 × Hp) := bd_ (x4 &&& (x4 - (1 : Int64))) fun y173 => k133 (s0 + s1) x3 y173 h
theorem A_X7_count_164 {X : CX} {h' : Hp} {r : Int32} (hn : (xc_ X).maxLocals = 6) (hX : Ok_ X RX7 cX7_count 5) (hR : Rt_ X (some .int) (some (.int r)) h') (k133 : Int32 → Int32 → Int64 → Hp → Option (Int32 × Hp)) (hk133 : ∀ (x2 : Int32) (x3 : Int32) (x4 : Int64) (h : Hp), k133 x2 x3 x4 h = some (r, h') → At_ X 133 [(0, .ref 7), (2, .int x2), (3, .int x3), (4, .long x4)] [] h) (x3 : Int32) (x4 : Int64) (s0 : Int32) (s1 : Int32) (h : Hp) (e : F_X7_count_164 k133 x3 x4 s0 s1 h = some (r, h')) : At_ X 164 [(0, .ref 7), (3, .int x3), (4, .long x4)] [.int s1, .int s0] h := by
  unfold F_X7_count_164 at e
  refine at_iadd hX dX7_count_164 ?_
  refine at_istore_n hX rfl hn (by decide) dX7_count_165 ?_
  refine at_lload hX rfl dX7_count_166 ?_
  refine at_lload hX rfl dX7_count_168 ?_
  refine at_lconst hX (v := 1) (by decide) dX7_count_170 ?_
  refine at_lsub hX dX7_count_171 ?_
  refine at_land hX dX7_count_172 ?_
  obtain ⟨y173, ey173, e⟩ := bd_some e
  refine at_tl ey173 ?_
  refine at_lstore hX hn (by decide) dX7_count_173 ?_
  refine at_goto hX (tgt := 133) (by decide) dX7_count_175 ?_
  exact at_sub [0, 2, 3, 4] rfl (hk133 _ _ _ _ e)
def F_X7_count_133 (n : Nat) (k178 : Int32 → Int32 → Hp → Option (Int32 × Hp)) (x2 : Int32) (x3 : Int32) (x4 : Int64) (h : Hp) : Option (Int32 × Hp) := match n with
  | 0 => none
  | n + 1 => if x4 = (0 : Int64) then k178 x2 x3 h else rL_ h 53 40 x3 fun v147 => (F_X7_first x4).bind fun v150 => (F_X7_weakAt v147 v150 h).bind fun v153 => if v153 < (0 : Int32) then (F_X7_count_164 (F_X7_count_133 n k178)) x3 x4 x2 (0 : Int32) h else (F_X7_count_164 (F_X7_count_133 n k178)) x3 x4 x2 (1 : Int32) h
theorem A_X7_count_133 {X : CX} {h' : Hp} {r : Int32} (hn : (xc_ X).maxLocals = 6) (hX : Ok_ X RX7 cX7_count 5) (hR : Rt_ X (some .int) (some (.int r)) h') (k178 : Int32 → Int32 → Hp → Option (Int32 × Hp)) (hk178 : ∀ (x2 : Int32) (x3 : Int32) (h : Hp), k178 x2 x3 h = some (r, h') → At_ X 178 [(0, .ref 7), (2, .int x2), (3, .int x3)] [] h) : ∀ (n : Nat) (x2 : Int32) (x3 : Int32) (x4 : Int64) (h : Hp), F_X7_count_133 n k178 x2 x3 x4 h = some (r, h') → At_ X 133 [(0, .ref 7), (2, .int x2), (3, .int x3), (4, .long x4)] [] h := by
  intro n
  induction n with
  | zero => intro x2 x3 x4 h e; cases e
  | succ n ih =>
    intro x2 x3 x4 h e
    rw [F_X7_count_133] at e
    refine at_lload hX rfl dX7_count_133 ?_
    refine at_lconst hX (v := 0) (by decide) dX7_count_135 ?_
    refine at_lcmp_eq hX (tgt := 178) (by decide) dX7_count_136 dX7_count_137 (fun c136 => ?_) (fun c136 => ?_)
    · replace e := ip_ c136 e
      exact at_sub [0, 2, 3] rfl (hk178 _ _ _ e)
    · replace e := in_ c136 e
      refine at_iload_n hX rfl rfl dX7_count_140 ?_
      refine at_aload_n hX rfl rfl dX7_count_141 ?_
      refine at_aload_n hX rfl rfl dX7_count_142 ?_
      refine gf_X7_60 hX dX7_count_143 ?_
      refine at_iload_n hX rfl rfl dX7_count_146 ?_
      obtain ⟨hi, v147, ev147, e⟩ := rL_some e
      refine at_lald hX (o := 53) (by decide) rfl hi dX7_count_147 ?_
      refine at_tl ev147 ?_
      refine at_lload hX rfl dX7_count_148 ?_
      obtain ⟨v150, e1, e⟩ := ob_some e
      refine at_callS1 hX cv_X7_171 (by decide) (c_X7_first _ _ _ _ e1) (Nat.le_of_ble_eq_true rfl) dX7_count_150 ?_
      obtain ⟨v153, e1, e⟩ := ob_some e
      refine at_callV2 hX cv_X7_197 (by decide) (c_X7_weakAt _ _ _ _ _ e1) (Nat.le_of_ble_eq_true rfl) dX7_count_153 ?_
      refine at_if_lt hX (tgt := 163) (by decide) dX7_count_156 (fun c156 => ?_) (fun c156 => ?_)
      · replace e := ip_ c156 e
        refine at_iconst hX (v := 0) (by decide) dX7_count_163 ?_
        exact at_sub [0, 3, 4] rfl ((A_X7_count_164 hn hX hR (F_X7_count_133 n k178) ih) _ _ _ _ _ e)
      · replace e := in_ c156 e
        refine at_iconst hX (v := 1) (by decide) dX7_count_159 ?_
        refine at_goto hX (tgt := 164) (by decide) dX7_count_160 ?_
        exact at_sub [0, 3, 4] rfl ((A_X7_count_164 hn hX hR (F_X7_count_133 n k178) ih) _ _ _ _ _ e)
def F_X7_count_117 (n : Nat) (x2 : Int32) (x3 : Int32) (h : Hp) : Option (Int32 × Hp) := match n with
  | 0 => none
  | n + 1 => if gI_ h 467 ≤ x3 then some (x2, h) else rL_ h 53 40 x3 fun v130 => (F_X7_count_133 FU_ (F_X7_count_178 (F_X7_count_117 n))) x2 x3 v130 h
theorem A_X7_count_117 {X : CX} {h' : Hp} {r : Int32} (hn : (xc_ X).maxLocals = 6) (hX : Ok_ X RX7 cX7_count 5) (hR : Rt_ X (some .int) (some (.int r)) h') : ∀ (n : Nat) (x2 : Int32) (x3 : Int32) (h : Hp), F_X7_count_117 n x2 x3 h = some (r, h') → At_ X 117 [(0, .ref 7), (2, .int x2), (3, .int x3)] [] h := by
  intro n
  induction n with
  | zero => intro x2 x3 h e; cases e
  | succ n ih =>
    intro x2 x3 h e
    rw [F_X7_count_117] at e
    refine at_iload_n hX rfl rfl dX7_count_117 ?_
    refine at_aload_n hX rfl rfl dX7_count_118 ?_
    refine gf_X7_204 hX dX7_count_119 ?_
    refine at_icmp_ge hX (tgt := 184) (by decide) dX7_count_122 (fun c122 => ?_) (fun c122 => ?_)
    · replace e := ip_ c122 e
      refine at_iload_n hX rfl rfl dX7_count_184 ?_
      exact at_ireturn hX hR rfl (by cases e; rfl) (by cases e; rfl) dX7_count_185
    · replace e := in_ c122 e
      refine at_aload_n hX rfl rfl dX7_count_125 ?_
      refine gf_X7_60 hX dX7_count_126 ?_
      refine at_iload_n hX rfl rfl dX7_count_129 ?_
      obtain ⟨hi, v130, ev130, e⟩ := rL_some e
      refine at_lald hX (o := 53) (by decide) rfl hi dX7_count_130 ?_
      refine at_tl ev130 ?_
      refine at_lstore hX hn (by decide) dX7_count_131 ?_
      exact at_sub [0, 2, 3, 4] rfl ((A_X7_count_133 hn hX hR (F_X7_count_178 (F_X7_count_117 n)) (A_X7_count_178 hn hX hR (F_X7_count_117 n) ih) FU_) _ _ _ _ e)
def F_X7_count_88 (k66 : Int32 → Int32 → Hp → Option (Int32 × Hp)) (x3 : Int32) (s0 : Int32) (s1 : Int32) (h : Hp) : Option (Int32 × Hp) := k66 (s0 + s1) (x3 + (1 : Int32)) h
theorem A_X7_count_88 {X : CX} {h' : Hp} {r : Int32} (hn : (xc_ X).maxLocals = 6) (hX : Ok_ X RX7 cX7_count 5) (hR : Rt_ X (some .int) (some (.int r)) h') (k66 : Int32 → Int32 → Hp → Option (Int32 × Hp)) (hk66 : ∀ (x2 : Int32) (x3 : Int32) (h : Hp), k66 x2 x3 h = some (r, h') → At_ X 66 [(0, .ref 7), (2, .int x2), (3, .int x3)] [] h) (x3 : Int32) (s0 : Int32) (s1 : Int32) (h : Hp) (e : F_X7_count_88 k66 x3 s0 s1 h = some (r, h')) : At_ X 88 [(0, .ref 7), (3, .int x3)] [.int s1, .int s0] h := by
  unfold F_X7_count_88 at e
  refine at_iadd hX dX7_count_88 ?_
  refine at_istore_n hX rfl hn (by decide) dX7_count_89 ?_
  refine at_iinc hX hn (by decide) rfl (v := 1) (by decide) dX7_count_90 ?_
  refine at_goto hX (tgt := 66) (by decide) dX7_count_93 ?_
  exact at_sub [0, 2, 3] rfl (hk66 _ _ _ e)
def F_X7_count_66 (n : Nat) (x2 : Int32) (x3 : Int32) (h : Hp) : Option (Int32 × Hp) := match n with
  | 0 => none
  | n + 1 => if (180 : Int32) ≤ x3 then some (x2, h) else rA_ h 39 180 x3 fun v79 => if v79 ≤ (0 : Int32) then (F_X7_count_88 (F_X7_count_66 n)) x3 x2 (0 : Int32) h else (F_X7_count_88 (F_X7_count_66 n)) x3 x2 (1 : Int32) h
theorem A_X7_count_66 {X : CX} {h' : Hp} {r : Int32} (hn : (xc_ X).maxLocals = 6) (hX : Ok_ X RX7 cX7_count 5) (hR : Rt_ X (some .int) (some (.int r)) h') : ∀ (n : Nat) (x2 : Int32) (x3 : Int32) (h : Hp), F_X7_count_66 n x2 x3 h = some (r, h') → At_ X 66 [(0, .ref 7), (2, .int x2), (3, .int x3)] [] h := by
  intro n
  induction n with
  | zero => intro x2 x3 h e; cases e
  | succ n ih =>
    intro x2 x3 h e
    rw [F_X7_count_66] at e
    refine at_iload_n hX rfl rfl dX7_count_66 ?_
    refine at_sipush hX (v := 180) (by decide) dX7_count_67 ?_
    refine at_icmp_ge hX (tgt := 96) (by decide) dX7_count_70 (fun c70 => ?_) (fun c70 => ?_)
    · replace e := ip_ c70 e
      refine at_iload_n hX rfl rfl dX7_count_96 ?_
      exact at_ireturn hX hR rfl (by cases e; rfl) (by cases e; rfl) dX7_count_97
    · replace e := in_ c70 e
      refine at_iload_n hX rfl rfl dX7_count_73 ?_
      refine at_aload_n hX rfl rfl dX7_count_74 ?_
      refine gf_X7_13 hX dX7_count_75 ?_
      refine at_iload_n hX rfl rfl dX7_count_78 ?_
      obtain ⟨hi, v79, ev79, e⟩ := rA_some e
      refine at_iald hX (o := 39) (by decide) rfl hi dX7_count_79 ?_
      refine at_ti ev79 ?_
      refine at_if_le hX (tgt := 87) (by decide) dX7_count_80 (fun c80 => ?_) (fun c80 => ?_)
      · replace e := ip_ c80 e
        refine at_iconst hX (v := 0) (by decide) dX7_count_87 ?_
        exact at_sub [0, 3] rfl ((A_X7_count_88 hn hX hR (F_X7_count_66 n) ih) _ _ _ _ e)
      · replace e := in_ c80 e
        refine at_iconst hX (v := 1) (by decide) dX7_count_83 ?_
        refine at_goto hX (tgt := 88) (by decide) dX7_count_84 ?_
        exact at_sub [0, 3] rfl ((A_X7_count_88 hn hX hR (F_X7_count_66 n) ih) _ _ _ _ e)
def F_X7_count_22 (x1 : Int32) (h : Hp) : Option (Int32 × Hp) := if x1 = nI 0 then (F_X7_count_66 FU_) (0 : Int32) (0 : Int32) h else if x1 = nI 1 then (F_X7_bits (gJ_ h 460)).bind fun v102 => some (v102, h) else if x1 = nI 2 then some (gI_ h 458, h) else if x1 = nI 3 then (F_X7_findPieces  h).bind fun h112 => (F_X7_count_117 FU_) (0 : Int32) (0 : Int32) h112 else if x1 = nI 4 then (F_X7_findPieces  h).bind fun h187 => (F_X7_count_192 FU_) (0 : Int32) (0 : Int32) h187 else if x1 = nI 5 then some (gI_ h 459, h) else some ((-9 : Int32), h)
theorem A_X7_count_22 {X : CX} {h' : Hp} {r : Int32} (hn : (xc_ X).maxLocals = 6) (hX : Ok_ X RX7 cX7_count 5) (hR : Rt_ X (some .int) (some (.int r)) h') (x1 : Int32) (h : Hp) (e : F_X7_count_22 x1 h = some (r, h')) : At_ X 22 [(0, .ref 7), (1, .int x1)] [] h := by
  unfold F_X7_count_22 at e
  refine at_iconst hX (v := 0) (by decide) dX7_count_22 ?_
  refine at_istore_n hX rfl hn (by decide) dX7_count_23 ?_
  refine at_iload_n hX rfl rfl dX7_count_24 ?_
  by_cases w0 : x1 = nI 0
  · replace e := ip_ w0 e
    refine at_tabIn hX (tgt := 64) 0 39 w0 (by decide) (by decide) rfl (by decide) dX7_count_25 ?_
    refine at_iconst hX (v := 0) (by decide) dX7_count_64 ?_
    refine at_istore_n hX rfl hn (by decide) dX7_count_65 ?_
    exact at_sub [0, 2, 3] rfl ((A_X7_count_66 hn hX hR FU_) _ _ _ e)
  · replace e := in_ w0 e
    by_cases w1 : x1 = nI 1
    · replace e := ip_ w1 e
      refine at_tabIn hX (tgt := 98) 1 73 w1 (by decide) (by decide) rfl (by decide) dX7_count_25 ?_
      refine at_aload_n hX rfl rfl dX7_count_98 ?_
      refine gf_X7_140 hX dX7_count_99 ?_
      obtain ⟨v102, e1, e⟩ := ob_some e
      refine at_callS1 hX cv_X7_213 (by decide) (c_X7_bits _ _ _ _ e1) (Nat.le_of_ble_eq_true rfl) dX7_count_102 ?_
      exact at_ireturn hX hR rfl (by cases e; rfl) (by cases e; rfl) dX7_count_105
    · replace e := in_ w1 e
      by_cases w2 : x1 = nI 2
      · replace e := ip_ w2 e
        refine at_tabIn hX (tgt := 106) 2 81 w2 (by decide) (by decide) rfl (by decide) dX7_count_25 ?_
        refine at_aload_n hX rfl rfl dX7_count_106 ?_
        refine gf_X7_133 hX dX7_count_107 ?_
        exact at_ireturn hX hR rfl (by cases e; rfl) (by cases e; rfl) dX7_count_110
      · replace e := in_ w2 e
        by_cases w3 : x1 = nI 3
        · replace e := ip_ w3 e
          refine at_tabIn hX (tgt := 111) 3 86 w3 (by decide) (by decide) rfl (by decide) dX7_count_25 ?_
          refine at_aload_n hX rfl rfl dX7_count_111 ?_
          obtain ⟨h112, e1, e⟩ := ob_some e
          refine at_callV0 hX cv_X7_207 (by decide) (c_X7_findPieces _ _  _ e1) (Nat.le_of_ble_eq_true rfl) dX7_count_112 ?_
          refine at_iconst hX (v := 0) (by decide) dX7_count_115 ?_
          refine at_istore_n hX rfl hn (by decide) dX7_count_116 ?_
          exact at_sub [0, 2, 3] rfl ((A_X7_count_117 hn hX hR FU_) _ _ _ e)
        · replace e := in_ w3 e
          by_cases w4 : x1 = nI 4
          · replace e := ip_ w4 e
            refine at_tabIn hX (tgt := 186) 4 161 w4 (by decide) (by decide) rfl (by decide) dX7_count_25 ?_
            refine at_aload_n hX rfl rfl dX7_count_186 ?_
            obtain ⟨h187, e1, e⟩ := ob_some e
            refine at_callV0 hX cv_X7_207 (by decide) (c_X7_findPieces _ _  _ e1) (Nat.le_of_ble_eq_true rfl) dX7_count_187 ?_
            refine at_iconst hX (v := 0) (by decide) dX7_count_190 ?_
            refine at_istore_n hX rfl hn (by decide) dX7_count_191 ?_
            exact at_sub [0, 2, 3] rfl ((A_X7_count_192 hn hX hR FU_) _ _ _ e)
          · replace e := in_ w4 e
            by_cases w5 : x1 = nI 5
            · replace e := ip_ w5 e
              refine at_tabIn hX (tgt := 229) 5 204 w5 (by decide) (by decide) rfl (by decide) dX7_count_25 ?_
              refine at_aload_n hX rfl rfl dX7_count_229 ?_
              refine gf_X7_40 hX dX7_count_230 ?_
              exact at_ireturn hX hR rfl (by cases e; rfl) (by cases e; rfl) dX7_count_233
            · replace e := in_ w5 e
              refine at_tabOut hX (tgt := 234) (tab_out (hi := 5) (by decide) (fun j hj => by rcases (show j = 0 ∨ j = 1 ∨ j = 2 ∨ j = 3 ∨ j = 4 ∨ j = 5 by omega) with rfl | rfl | rfl | rfl | rfl | rfl <;> assumption)) (by decide) dX7_count_25 ?_
              refine at_bipush hX (v := -9) (by decide) dX7_count_234 ?_
              exact at_ireturn hX hR rfl (by cases e; rfl) (by cases e; rfl) dX7_count_236
def F_X7_count (x1 : Int32) (h : Hp) : Option (Int32 × Hp) := if x1 ≤ (10 : Int32) then F_X7_count_22 x1 h else if (17 : Int32) ≤ x1 then F_X7_count_22 x1 h else rA_ h 38 7 (x1 - (10 : Int32)) fun v20 => some (v20, h)
theorem c_X7_count (l : Launch) (G : Gl) (x1 : Int32) (h : Hp) {r : Int32} {h' : Hp} (e : F_X7_count x1 h = some (r, h')) : Does l G 5 M_X7_count [.ref 7, .int x1] h (some (.int r)) h' := by
  refine Does.of (by decide) rfl (Nat.le_of_ble_eq_true rfl) (fun X hl hG hn hX hR => ?_)
  unfold F_X7_count at e
  subst hl; subst hG
  show At_ X 0 [(0, .ref 7), (1, .int x1)] [] h
  refine at_iload_n hX rfl rfl dX7_count_0 ?_
  refine at_bipush hX (v := 10) (by decide) dX7_count_1 ?_
  refine at_icmp_le hX (tgt := 22) (by decide) dX7_count_3 (fun c3 => ?_) (fun c3 => ?_)
  · replace e := ip_ c3 e
    exact at_sub [0, 1] rfl ((A_X7_count_22 hn hX hR) _ _ e)
  · replace e := in_ c3 e
    refine at_iload_n hX rfl rfl dX7_count_6 ?_
    refine at_bipush hX (v := 17) (by decide) dX7_count_7 ?_
    refine at_icmp_ge hX (tgt := 22) (by decide) dX7_count_9 (fun c9 => ?_) (fun c9 => ?_)
    · replace e := ip_ c9 e
      exact at_sub [0, 1] rfl ((A_X7_count_22 hn hX hR) _ _ e)
    · replace e := in_ c9 e
      refine at_aload_n hX rfl rfl dX7_count_12 ?_
      refine gf_X7_7 hX dX7_count_13 ?_
      refine at_iload_n hX rfl rfl dX7_count_16 ?_
      refine at_bipush hX (v := 10) (by decide) dX7_count_17 ?_
      refine at_isub hX dX7_count_19 ?_
      obtain ⟨hi, v20, ev20, e⟩ := rA_some e
      refine at_iald hX (o := 38) (by decide) rfl hi dX7_count_20 ?_
      refine at_ti ev20 ?_
      exact at_ireturn hX hR rfl (by cases e; rfl) (by cases e; rfl) dX7_count_21
