/-! ===== take ===== -/
def inBr (σ : Sg) (b i : Nat) : Bool := inC6 (sX σ b) (sLx σ b) (sY σ b) (sLy σ b) (sZ σ b) i
def takeS (σ : Sg) (b : Nat) : Sg := (sBo σ, sN σ, sK σ, sT σ, sX σ, sY σ, sZ σ, sC σ, fun j => sTh σ j && !decide (j = b), fun i => if inBr σ b i = true then none else sGr σ i, sG σ, sBx σ)
theorem Wf_take {σ : Sg} (hw : Wf σ) (b : Nat) : Wf (takeS σ b) := by
  refine ⟨hw.1, hw.2.1, hw.2.2.1, fun j hj => ?_, fun i c hi => ?_, hw.2.2.2.2.2.1, hw.2.2.2.2.2.2⟩
  · have hj : (sTh σ j && !decide (j = b)) = true := hj
    rw [Bool.and_eq_true] at hj
    exact hw.2.2.2.1 j hj.1
  · have hi : (if inBr σ b i = true then none else sGr σ i) = some c := hi
    by_cases q : inBr σ b i = true
    · rw [if_pos q] at hi; cases hi
    · rw [if_neg q] at hi; exact hw.2.2.2.2.1 i c hi
theorem vL_us (f : Nat → Int64) (i : Nat) (v : Int64) : vp_updL f i v i = v := by unfold vp_updL; rw [if_pos rfl]
theorem vL_un {f : Nat → Int64} {i j : Nat} {v : Int64} (h : j ≠ i) : vp_updL f i v j = f j := by unfold vp_updL; rw [if_neg h]
theorem tb_clr {x : Int64} {b : Nat} (hb : b < 64) (j : Nat) : tb (x &&& (ls_ 1 (nI b) ^^^ (-1))) j = (tb x j && !decide (j = b)) := by
  rcases Nat.lt_or_ge j 64 with h | h
  · rw [tb_and, tb_not _ h, tb_bit hb h]
  · rw [tb_big h, tb_big h]; rfl
theorem tb_set {x : Int64} {b : Nat} (hb : b < 64) (j : Nat) : tb (x ||| ls_ 1 (nI b)) j = (tb x j || decide (j = b)) := by
  rcases Nat.lt_or_ge j 64 with h | h
  · rw [tb_or, tb_bit hb h]
  · rw [tb_big h, tb_big h, Bool.false_or, decide_eq_false (by omega)]
theorem tb_min {x y : Int64} (j : Nat) : tb (x &&& (y ^^^ (-1))) j = (tb x j && !tb y j) := by
  rcases Nat.lt_or_ge j 64 with h | h
  · rw [tb_and, tb_not _ h]
  · rw [tb_big h, tb_big h]; rfl
theorem inC6_at {x lx y ly z z' s : Nat} (hs : s < 36) : inC6 x lx y ly z (36 * z' + s) = (decide (z' = z) && inR x lx y ly s) := by
  unfold inC6
  rw [show (36 * z' + s) / 36 = z' by omega, show (36 * z' + s) % 36 = s by omega]
def s_take (σ : Sg) (x : Int32) : Int32 × Nat × Sg := if inN x (nI (sN σ)) = true then if sTh σ x.toNatClampNeg = true then (1, 0, takeS σ x.toNatClampNeg) else (-3, 3, σ) else (-1, 1, σ)
theorem s_take_wf {σ : Sg} (hw : Wf σ) (x : Int32) : Wf (s_take σ x).2.2 := by
  unfold s_take
  split
  · split
    · exact Wf_take hw _
    · exact hw
  · exact hw
theorem M_take {σ : Sg} {h : Hp} (hw : Wf σ) (hm : RepM σ h) (x : Int32) : MS σ h (s_take σ x) (F_X7_take x h) := by
  have h40 := hw.1
  unfold F_X7_take s_take
  rw [f_isBrick hm, ob_s, m_r1, m_r3]
  cases hp : inN x (nI (sN σ)) with
  | false => rw [if_pos b0_]; exact MS.no 1 (by decide) rfl
  | true =>
    rw [if_neg b1_, if_pos rfl]
    obtain ⟨b, hb, rfl⟩ := inN_n (by omega) hp
    rw [f_isThereM hw hm hb, ob_s, nI_clamp (by omega)]
    cases hq : sTh σ b with
    | false => rw [if_pos b0_]; exact MS.no 3 (by decide) rfl
    | true =>
      obtain ⟨a1, a2, a3, a4, a5, a6⟩ := hw.2.2.1 b hb
      obtain ⟨p1, p2, p3, p4, p5, p6⟩ := hm.2.2.2.1 b hb
      rw [if_neg b1_, if_pos rfl, f_fills (by omega) a1 a2 a3 a4 a5 p1 p2 p3 p4 p5, ob_s, bd_e, recW_J]
      refine MS.yes rfl ?_ ?_
      · refine ⟨fun i hi => ?_, fun i hi => ?_, ?_, fun c hc => ?_, fun c => ?_, ?_, fun k hk => ?_⟩
        · rw [gA_sJ, recW_o (by decide)]; exact hm.1 i hi
        · rw [gA_sJ, recW_a a3 a5 hi _ _ a4, hm.2.1 i hi]
          show _ = gvM (if inBr σ b i = true then none else sGr σ i)
          by_cases q : inBr σ b i = true
          · rw [if_pos q, if_pos (show inC6 _ _ _ _ _ i = true from q)]; rfl
          · rw [if_neg q, if_neg (show ¬ inC6 _ _ _ _ _ i = true from q)]
        · rw [gI_sJ, recW_I]; exact hm.2.2.1
        · rw [gA_sJ, gA_sJ, gA_sJ, gA_sJ, gA_sJ, gA_sJ, recW_o (by decide), recW_o (by decide), recW_o (by decide), recW_o (by decide), recW_o (by decide), recW_o (by decide)]; exact hm.2.2.2.1 c hc
        · rw [gJ_sJ, if_pos rfl, tb_clr (by omega), hm.2.2.2.2.1 c]; rfl
        · rw [gI_sJ, recW_I]; exact hm.2.2.2.2.2.1
        · rw [gA_sJ, recW_o (by decide)]; exact hm.2.2.2.2.2.2 k hk
      · rw [gA_sJ, recW_o (by decide)]
theorem C_take {σ : Sg} {h : Hp} (hw : Wf σ) (hc : RepC σ h) (x : Int32) : CS true σ h (s_take σ x) (F_X6_take x h) := by
  have h40 := hw.1
  unfold F_X6_take s_take F_X6_refusalOf
  rw [f_exists hc, ob_s]
  cases hp : inN x (nI (sN σ)) with
  | false => rw [if_pos b0_, ob_s, if_neg (by decide), c_r1]; exact CS.no 1 (by decide) rfl
  | true =>
    rw [if_neg b1_, if_pos rfl]
    obtain ⟨b, hb, rfl⟩ := inN_n (by omega) hp
    rw [f_isThereC hw hc hb, ob_s, nI_clamp (by omega)]
    cases hq : sTh σ b with
    | false => rw [if_pos b0_, ob_s, if_neg (by decide), c_r3]; exact CS.no 3 (by decide) rfl
    | true =>
      obtain ⟨a1, a2, a3, a4, a5, a6⟩ := hw.2.2.1 b hb
      obtain ⟨p1, p2, p3, p4, p5, p6⟩ := hc.2.2.2.1 b hb
      rw [if_neg b1_, if_pos (show true = true from rfl), ob_s, if_pos rfl, f_forget, ob_s]
      have hc' : RepC σ (sI_ (sI_ h 206 0) 328 0) := ⟨hc.1, hc.2.1, hc.2.2.1, hc.2.2.2.1, hc.2.2.2.2.1, hc.2.2.2.2.2.1, hc.2.2.2.2.2.2.1, hc.2.2.2.2.2.2.2⟩
      unfold F_X2_remove
      rw [f_isThereC hw hc' hb, hq, ob_s, if_neg b1_, bd_e, bd_e, rA_n _ 16 40 _ (by omega) (by decide)]
      rw [show gA_ (sJ_ (sJ_ (sI_ (sI_ h 206 0) 328 0) 139 (gJ_ (sI_ (sI_ h 206 0) 328 0) 139 &&& (ls_ 1 (nI b) ^^^ -1))) 140 (gJ_ (sJ_ (sI_ (sI_ h 206 0) 328 0) 139 (gJ_ (sI_ (sI_ h 206 0) 328 0) 139 &&& (ls_ 1 (nI b) ^^^ -1))) 140 &&& gJ_ (sJ_ (sI_ (sI_ h 206 0) 328 0) 139 (gJ_ (sI_ (sI_ h 206 0) 328 0) 139 &&& (ls_ 1 (nI b) ^^^ -1))) 139)) 16 b = nI (sZ σ b) from p5]
      rw [rL_n _ 20 5 _ a5 (by decide), rL_n _ 18 40 _ (by omega) (by decide), wL_n _ 20 5 _ _ a5 (by decide)]
      rw [f_writeN (k := sK σ b) (t := sT σ b) (x := sX σ b) (y := sY σ b) (z := sZ σ b) (by omega) a1 a2 a3 a4 a5 (by exact p1) (by exact p2) (by exact p3) (by exact p4) (by exact p5), ob_s, ob_s]
      refine CS.yes rfl ?_ ?_ (fun _ => ⟨?_, ?_⟩)
      · refine ⟨fun i hi => ?_, fun i hi => ?_, ?_, fun c hcc => ?_, fun c => ?_, ?_, fun k hk => ?_, fun c => ?_, fun c hcc s => ?_, fun a ha c => ?_, fun z hz s => ?_⟩
        · rw [recW_o (by decide)]; exact hc.1 i hi
        · rw [recW_a a3 a5 hi _ _ a4]
          show (if _ then (0 : Int32) else gA_ h 21 i) = gvC (if inBr σ b i = true then none else sGr σ i)
          rw [hc.2.1 i hi]
          by_cases q : inBr σ b i = true
          · rw [if_pos q, if_pos (show inC6 _ _ _ _ _ i = true from q)]; rfl
          · rw [if_neg q, if_neg (show ¬ inC6 _ _ _ _ _ i = true from q)]
        · rw [recW_I]; exact hc.2.2.1
        · rw [recW_o (by decide), recW_o (by decide), recW_o (by decide), recW_o (by decide), recW_o (by decide), recW_o (by decide)]; exact hc.2.2.2.1 c hcc
        · rw [recW_J]
          show tb (gJ_ h 139 &&& _) c = (sTh σ c && !decide (c = b))
          rw [tb_clr (by omega), hc.2.2.2.2.1 c]
        · rw [recW_I]; exact hc.2.2.2.2.2.1
        · rw [recW_o (by decide)]; exact hc.2.2.2.2.2.2.1 k hk
        · rw [recW_J]
          show tb (gJ_ h 140 &&& (gJ_ h 139 &&& _)) c = ((sTh σ c && !decide (c = b)) && decide (sZ σ c = 0))
          rw [tb_and, tb_clr (by omega), hc.2.2.2.2.1 c, hc.2.2.2.2.2.2.2.1 c]
          cases sTh σ c <;> cases decide (sZ σ c = 0) <;> cases decide (c = b) <;> rfl
        · rw [recW_L]; exact hc.2.2.2.2.2.2.2.2.1 c hcc s
        · rw [recW_L]; exact hc.2.2.2.2.2.2.2.2.2.1 a ha c
        · rw [recW_L, gL_sL, if_pos rfl]
          show tb (vp_updL (gL_ h 20) (sZ σ b) (gL_ h 20 (sZ σ b) &&& (gL_ h 18 b ^^^ -1)) z) s = (decide (s < 36) && (if inBr σ b (36 * z + s) = true then none else sGr σ (36 * z + s)).isSome)
          rcases Nat.lt_or_ge s 36 with h36 | h36
          · unfold inBr
            rw [inC6_at h36]
            by_cases hzz : z = sZ σ b
            · subst hzz
              rw [vL_us, tb_min, hc.2.2.2.2.2.2.2.2.2.2 _ a5, hc.2.2.2.2.2.2.2.2.1 b hb]
              rw [decide_eq_true h36, decide_eq_true rfl]
              cases inR (sX σ b) (sLx σ b) (sY σ b) (sLy σ b) s <;> cases sGr σ (36 * sZ σ b + s) <;> rfl
            · rw [vL_un hzz, hc.2.2.2.2.2.2.2.2.2.2 _ hz, decide_eq_false hzz]; rfl
          · rw [decide_eq_false (by omega : ¬ s < 36), Bool.false_and]
            by_cases hzz : z = sZ σ b
            · subst hzz
              rw [vL_us, tb_min, hc.2.2.2.2.2.2.2.2.2.2 _ a5, decide_eq_false (by omega : ¬ s < 36)]; rfl
            · rw [vL_un hzz, hc.2.2.2.2.2.2.2.2.2.2 _ hz, decide_eq_false (by omega : ¬ s < 36)]; rfl
      · rw [recW_o (by decide)]; rfl
      · rw [recW_I]; rfl
      · rw [recW_I]; rfl
