/-! ===== piece, key, weak as calls ===== -/
/-- a call of the model that changes only what findPieces and the like may change -/
def MQr (h : Hp) (a : Int32 × Nat) (o : Option (Int32 × Hp)) : Prop := ∃ h1, o = some (a.1, h1) ∧ gA_ h1 38 = gA_ (rM h a.2) 38
theorem MQr.mk {h h1 : Hp} {o : Option (Int32 × Hp)} {v : Int32} {j : Nat} (e : o = some (v, h1)) (r : gA_ h1 38 = gA_ (rM h j) 38) : MQr h (v, j) o := ⟨h1, e, r⟩
def s_at1 (σ : Sg) (x : Int32) (f : Nat → Int32) : Int32 × Nat := if inN x (nI (sN σ)) = true then if sTh σ x.toNatClampNeg = true then (f x.toNatClampNeg, 0) else (-3, 3) else (-1, 1)
/-- the number of the piece -/
def pix (σ : Sg) (b : Nat) : Nat → Nat → Nat
  | 0, i => i
  | p + 1, i => if tb (pcN σ i) b = true then i else pix σ b p (i + 1)
theorem pix_r {σ : Sg} {b i : Nat} (h1 : tb (pcN σ i) b = true) (h2 : ∀ j, j < i → tb (pcN σ j) b = false) : ∀ p j, j ≤ i → i - j ≤ p → pix σ b p j = i
  | 0, j, hj, hp => by rw [pix]; omega
  | p + 1, j, hj, hp => by
    rw [pix]
    by_cases q : j = i
    · rw [q, if_pos h1]
    · rw [if_neg (fun r => by rw [h2 j (by omega)] at r; cases r)]
      exact pix_r h1 h2 p (j + 1) (by omega) (by omega)
def pixN (σ : Sg) (b : Nat) : Nat := pix σ b 40 0
theorem pixN_r {σ : Sg} (hw : Wf σ) {b : Nat} (hb : sTh σ b = true) : pixN σ b < mP σ ∧ tb (pcN σ (pixN σ b)) b = true ∧ ∀ j, j < pixN σ b → tb (pcN σ j) b = false := by
  obtain ⟨i, h1, h2, h3⟩ := pc_ix hw hb
  have := (mP_r hw).1
  have e : pixN σ b = i := pix_r h2 h3 40 0 (by omega) (by omega)
  rw [e]; exact ⟨h1, h2, h3⟩
theorem f_refusalOf {σ : Sg} {h : Hp} (hw : Wf σ) (hc : RepC σ h) (x : Int32) (β : Type) (F : Int32 → Option β) : (F_X6_refusalOf x h).bind F = if inN x (nI (sN σ)) = true then if sTh σ x.toNatClampNeg = true then F 0 else F (-3) else F (-1) := by
  have h40 := hw.1
  unfold F_X6_refusalOf
  rw [f_exists hc, ob_s]
  cases hp : inN x (nI (sN σ)) with
  | false => rfl
  | true =>
    obtain ⟨b, hb, rfl⟩ := inN_n (by omega) hp
    rw [if_neg b1_, if_pos rfl, f_isThereC hw hc hb, ob_s, nI_clamp (by omega)]
    cases hq : sTh σ b <;> rfl
theorem C_at1 {σ : Sg} {h : Hp} (hw : Wf σ) (hc : RepC σ h) (x : Int32) (f : Nat → Int32) (G : Option (Int32 × Hp)) (hG : ∀ b, b < sN σ → x = nI b → sTh σ b = true → G = some (f b, h)) : ((F_X6_refusalOf x h).bind fun v2 => if v2 = 0 then G else (F_X6_refuse v2 h).bind fun ((v12, h12) : Int32 × Hp) => some (v12, h12)) = some ((s_at1 σ x f).1, rC h (s_at1 σ x f).2) := by
  have h40 := hw.1
  rw [f_refusalOf hw hc]
  unfold s_at1
  cases hp : inN x (nI (sN σ)) with
  | false => rw [if_neg (by decide), if_neg (by decide), if_neg (by decide), c_r1]; rfl
  | true =>
    obtain ⟨b, hb, rfl⟩ := inN_n (by omega) hp
    rw [if_pos (show true = true from rfl), nI_clamp (by omega)]
    cases hq : sTh σ b with
    | false =>
      rw [if_neg (show ¬ false = true by decide), if_neg (show ¬ (-3 : Int32) = 0 by decide), c_r3]; rfl
    | true =>
      rw [if_pos (show true = true from rfl), if_pos (show (0 : Int32) = 0 from rfl)]; exact hG b hb rfl hq
theorem M_at1 {σ : Sg} {h : Hp} (hw : Wf σ) (hm : RepM σ h) (x : Int32) (f : Nat → Int32) (G : Hp → Option (Int32 × Hp)) (hG : ∀ b h1, b < sN σ → x = nI b → sTh σ b = true → FP σ h1 → RepM σ h1 → G h1 = some (f b, h1)) : MQr h (s_at1 σ x f) ((F_X7_isBrick x h).bind fun v2 => if v2 = 0 then (F_X7_refuse (-1) h).bind fun ((v10, h10) : Int32 × Hp) => some (v10, h10) else (F_X7_isThere x h).bind fun v16 => if v16 = 0 then (F_X7_refuse (-3) h).bind fun ((v25, h25) : Int32 × Hp) => some (v25, h25) else (F_X7_findPieces h).bind G) := by
  have h40 := hw.1
  unfold s_at1
  rw [f_isBrick hm, ob_s, m_r1, m_r3]
  cases hp : inN x (nI (sN σ)) with
  | false => rw [if_pos b0_]; exact MQr.mk rfl rfl
  | true =>
    obtain ⟨b, hb, rfl⟩ := inN_n (by omega) hp
    rw [if_neg b1_, if_pos rfl, nI_clamp (by omega), f_isThereM hw hm hb, ob_s]
    cases hq : sTh σ b with
    | false => rw [if_pos b0_]; exact MQr.mk rfl rfl
    | true =>
      obtain ⟨h1, e, r, m⟩ := f_findPieces hw hm
      rw [if_neg b1_, if_pos rfl, e, ob_s, hG b h1 hb rfl hq r m]
      exact MQr.mk rfl (by rw [(w_X7_findPieces _ _ e).2.2.1 38 (by decide)]; rfl)
theorem C_piece {σ : Sg} {h : Hp} (hw : Wf σ) (hc : RepC σ h) (x : Int32) : F_X6_piece x h = some ((s_at1 σ x (fun b => nI (pixN σ b))).1, rC h (s_at1 σ x (fun b => nI (pixN σ b))).2) := by
  have h40 := hw.1
  refine C_at1 hw hc x _ _ (fun b hb e ht => ?_)
  subst e
  obtain ⟨p1, p2, p3⟩ := pixN_r hw ht
  rw [f_numberOfPiece hw hc (by omega) p1 p2 p3]; rfl
theorem M_piece {σ : Sg} {h : Hp} (hw : Wf σ) (hm : RepM σ h) (x : Int32) : MQr h (s_at1 σ x (fun b => nI (pixN σ b))) (F_X7_piece x h) := by
  have h40 := hw.1
  refine M_at1 hw hm x _ _ (fun b h1 hb e ht hf hm1 => ?_)
  subst e
  obtain ⟨p1, p2, p3⟩ := pixN_r hw ht
  rw [f_pieceOfBrick hw hf (by omega) p1 p2 p3]; rfl
def kyN (σ : Sg) (b : Nat) : Bool := !decide (pc1 σ (outP (pcN σ (pixN σ b)) b) = outP (pcN σ (pixN σ b)) b)
theorem f_isKey {σ : Sg} {h : Hp} (hw : Wf σ) (hc : RepC σ h) (P : Int64) (b : Nat) : F_X4_isKey (nI b) P h = some (bi_ (!decide (pc1 σ (outP P b) = outP P b))) := by
  unfold F_X4_isKey
  rw [bd_e, f_reach hw hc, ob_s]
  show (if pc1 σ (outP P b) = outP P b then _ else _) = _
  by_cases q : pc1 σ (outP P b) = outP P b
  · rw [if_pos q, decide_eq_true q]; rfl
  · rw [if_neg q, decide_eq_false q]; rfl
theorem C_key {σ : Sg} {h : Hp} (hw : Wf σ) (hc : RepC σ h) (x : Int32) : F_X6_key x h = some ((s_at1 σ x (fun b => bi_ (kyN σ b))).1, rC h (s_at1 σ x (fun b => bi_ (kyN σ b))).2) := by
  refine C_at1 hw hc x _ _ (fun b hb e ht => ?_)
  subst e
  obtain ⟨p1, p2, p3⟩ := pixN_r hw ht
  unfold F_X2_there
  rw [ob_s, thC hw hc, f_pieceWith hw hc ht p2, ob_s, f_isKey hw hc, ob_s]
  show _ = some (bi_ (kyN σ b), h)
  unfold kyN
  cases (!decide (pc1 σ (outP (pcN σ (pixN σ b)) b) = outP (pcN σ (pixN σ b)) b)) <;> rfl
theorem wkN_le {σ : Sg} (a : Nat) : ∀ p A, wkc σ a p A ≤ p
  | 0, _ => Nat.le_refl _
  | p + 1, A => by
    rw [wkc]
    split
    · omega
    · have := wkN_le (σ := σ) a p (cutP σ A)
      cases badP σ a (pc1 σ A)
      · show 0 + _ ≤ _; omega
      · show 1 + _ ≤ _; omega
theorem wk_le (σ : Sg) (P : Int64) (a : Nat) : wkN σ P a ≤ 40 := by
  unfold wkN
  split
  · omega
  · exact wkN_le a 40 _
theorem bl_pcN {σ : Sg} (hw : Wf σ) (i : Nat) : bl (pcN σ i) (sN σ) := bl_pc1 hw (bl_rst (bl_th hw) i) hw.1
theorem M_key {σ : Sg} {h : Hp} (hw : Wf σ) (hm : RepM σ h) (x : Int32) : MQr h (s_at1 σ x (fun b => bi_ (kyN σ b))) (F_X7_key x h) := by
  have h40 := hw.1
  have g40 := (mP_r hw).1
  refine M_at1 hw hm x _ _ (fun b h1 hb e ht hf hm1 => ?_)
  subst e
  obtain ⟨p1, p2, p3⟩ := pixN_r hw ht
  rw [f_pieceOfBrick hw hf (by omega) p1 p2 p3, ob_s, rL_n _ 53 40 _ (by omega) (by decide), hf.2.2 _ p1, f_weakAt hw hm1 hf.1 (bl_pcN hw _) hb, ob_s]
  show _ = some (bi_ (kyN σ b), h1)
  unfold kyN
  have hk := wk_le σ (pcN σ (pixN σ b)) b
  by_cases q : pc1 σ (outP (pcN σ (pixN σ b)) b) = outP (pcN σ (pixN σ b)) b
  · rw [if_pos q, if_neg (by decide), decide_eq_true q]; rfl
  · rw [if_neg q, if_pos (nI_pos' (by omega)), decide_eq_false q]; rfl
def wyN (σ : Sg) (b : Nat) : Nat := if pc1 σ (outP (pcN σ (pixN σ b)) b) = outP (pcN σ (pixN σ b)) b then 0 else wkN σ (pcN σ (pixN σ b)) b
theorem C_weak {σ : Sg} {h : Hp} (hw : Wf σ) (hc : RepC σ h) (x : Int32) : F_X6_weak x h = some ((s_at1 σ x (fun b => nI (wyN σ b))).1, rC h (s_at1 σ x (fun b => nI (wyN σ b))).2) := by
  refine C_at1 hw hc x _ _ (fun b hb e ht => ?_)
  subst e
  obtain ⟨p1, p2, p3⟩ := pixN_r hw ht
  unfold F_X2_there
  rw [ob_s, thC hw hc, f_pieceWith hw hc ht p2, ob_s, f_countWeak hw hc (pcN_th hw _) (pcN_con hw _) hb]; rfl
theorem M_weak {σ : Sg} {h : Hp} (hw : Wf σ) (hm : RepM σ h) (x : Int32) : MQr h (s_at1 σ x (fun b => nI (wyN σ b))) (F_X7_weak x h) := by
  have h40 := hw.1
  have g40 := (mP_r hw).1
  refine M_at1 hw hm x _ _ (fun b h1 hb e ht hf hm1 => ?_)
  subst e
  obtain ⟨p1, p2, p3⟩ := pixN_r hw ht
  rw [f_pieceOfBrick hw hf (by omega) p1 p2 p3, ob_s, rL_n _ 53 40 _ (by omega) (by decide), hf.2.2 _ p1, f_weakAt hw hm1 hf.1 (bl_pcN hw _) hb, ob_s]
  show _ = some (nI (wyN σ b), h1)
  unfold wyN
  have hk := wk_le σ (pcN σ (pixN σ b)) b
  by_cases q : pc1 σ (outP (pcN σ (pixN σ b)) b) = outP (pcN σ (pixN σ b)) b
  · rw [if_pos q, if_pos q]; rfl
  · rw [if_neg q, if_neg q, show (0 : Int32) = nI 0 from rfl, mx_n (by decide) (by omega), Nat.max_eq_right (by omega)]
