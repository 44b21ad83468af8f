/-! ===== the class: the cheapest way, kept in a table ===== -/
abbrev pO (σ : Sg) (col z : Nat) : Nat → Bool := opn σ col z
noncomputable abbrev vW (σ : Sg) (col z : Nat) : Nat → Nat := VW (opn σ col z) (wRt σ z) (wBh σ z)
def CM (σ : Sg) (col z : Nat) (h : Hp) : Prop := ∀ j, j < 2048 → gA_ h 28 j = 0 ∨ ∃ set, set < 2 ^ cvM σ col z ∧ gA_ h 28 j = nI (set + 1) ∧ gA_ h 29 j = nI (vW σ col z set)
def CA (σ : Sg) (col z : Nat) (h : Hp) : Prop := CC σ col z h ∧ CW σ z h ∧ CF σ col z h ∧ CM σ col z h
theorem opn_p {σ : Sg} {col z : Nat} : ∀ k, opn σ col z k = true → k < 36 := fun _ h => opn_lt h
theorem CF.sm {σ : Sg} {col z : Nat} {h h' : Hp} (f : CF σ col z h) (e26 : gA_ h' 26 = gA_ h 26) (e27 : gA_ h' 27 = gA_ h 27) : CF σ col z h' := fun w hw k s hk hs e => by
  rw [e26, e27]; exact f w hw k s hk hs e
theorem CW.sm {σ : Sg} {z : Nat} {h h' : Hp} (f : CW σ z h) (e24 : gA_ h' 24 = gA_ h 24) (e25 : gA_ h' 25 = gA_ h 25) : CW σ z h' := fun k hk => by
  rw [e24, e25]; exact f k hk
theorem C_slot (set : Nat) (h : Hp) : ∃ v, F_X3_slotOf (nI set) h = some v ∧ (v = -1 ∨ ∃ j, j < 2048 ∧ v = nI j ∧ (gA_ h 28 j = 0 ∨ gA_ h 28 j = nI (set + 1))) := by
  have key : ∀ q n i y, q + i = 2048 → q < n → ∃ v, F_X3_slotOf_10 n (nI set) y (nI i) h = some v ∧ (v = -1 ∨ ∃ j, j < 2048 ∧ v = nI j ∧ (gA_ h 28 j = 0 ∨ gA_ h 28 j = nI (set + 1))) := by
    intro q
    induction q with
    | zero =>
      intro n i y hq hn
      obtain ⟨n, rfl⟩ : ∃ j, n = j + 1 := ⟨n - 1, by omega⟩
      have e : i = 2048 := by omega
      subst e
      exact ⟨-1, by rw [F_X3_slotOf_10, if_pos (by decide)], Or.inl rfl⟩
    | succ q ih =>
      intro n i y hq hn
      obtain ⟨n, rfl⟩ : ∃ j, n = j + 1 := ⟨n - 1, by omega⟩
      have em : (y + nI i) &&& 2047 = nI ((y + nI i).toBitVec.toNat % 2 ^ 11) := pk_and (y + nI i) 11 (by decide)
      have hl : (y + nI i).toBitVec.toNat % 2 ^ 11 < 2048 := Nat.mod_lt _ (by decide)
      rw [F_X3_slotOf_10, if_neg (show ¬ (2048 : Int32) ≤ nI i from (nI_ge (by omega) (by decide) : ¬ nI 2048 ≤ nI i)), em, bd_e, rA_n _ 28 2048 _ hl (by decide), rA_n _ 28 2048 _ hl (by decide), show nI set + 1 = nI (set + 1) from nI_add set 1, show nI i + 1 = nI (i + 1) from nI_add i 1]
      by_cases q0 : gA_ h 28 ((y + nI i).toBitVec.toNat % 2 ^ 11) = 0
      · rw [if_pos q0]; exact ⟨_, rfl, Or.inr ⟨_, hl, rfl, Or.inl q0⟩⟩
      · rw [if_neg q0]
        by_cases q1 : gA_ h 28 ((y + nI i).toBitVec.toNat % 2 ^ 11) = nI (set + 1)
        · rw [if_pos q1]; exact ⟨_, rfl, Or.inr ⟨_, hl, rfl, Or.inr q1⟩⟩
        · rw [if_neg q1]; exact ih n (i + 1) y (by omega) (by omega)
  unfold F_X3_slotOf
  rw [bd_e]
  exact key 2048 FU_ 0 _ (by omega) (by unfold FU_; omega)
theorem C_keep {σ : Sg} {h : Hp} {col z set : Nat} (hs : set < 2 ^ cvM σ col z) (hA : CA σ col z h) : ∃ h1, F_X3_keep (nI set) (nI (vW σ col z set)) h = some h1 ∧ CA σ col z h1 := by
  obtain ⟨v, e, hv⟩ := C_slot set h
  unfold F_X3_keep
  rw [e, ob_s]
  rcases hv with rfl | ⟨j, hj, rfl, -⟩
  · rw [if_pos (by decide)]; exact ⟨h, rfl, hA⟩
  · rw [if_neg (i_n0 (by omega)), wA_n _ 28 2048 _ _ hj (by decide), wA_n _ 29 2048 _ _ hj (by decide), show nI set + 1 = nI (set + 1) from nI_add set 1]
    have s1 : Sm [] [] [28, 29] [] h (sA_ (sA_ h 28 j (nI (set + 1))) 29 j (nI (vW σ col z set))) := sm_A (k := 28) (by decide) rfl (sm_A (k := 29) (by decide) rfl sm_rf)
    refine ⟨_, rfl, hA.1.sm s1 (by decide), hA.2.1.sm rfl rfl, hA.2.2.1.sm rfl rfl, fun i hi => ?_⟩
    show upd (gA_ h 28) j (nI (set + 1)) i = 0 ∨ ∃ t, t < 2 ^ cvM σ col z ∧ upd (gA_ h 28) j (nI (set + 1)) i = nI (t + 1) ∧ upd (gA_ h 29) j (nI (vW σ col z set)) i = nI (vW σ col z t)
    by_cases w : i = j
    · subst w; rw [pk_us, pk_us]; exact Or.inr ⟨set, hs, rfl, rfl⟩
    · rw [pk_un w, pk_un w]; exact hA.2.2.2 i hi
theorem C_isFree {σ : Sg} {h : Hp} {col z set : Nat} (hM : cvM σ col z ≤ 16) (hF : CF σ col z h) (hf : ffN set < cvM σ col z) (hs : set < 2 ^ cvM σ col z) {s : Nat} (hs12 : s < 12) : gA_ h 26 (ffN set * 12 + s) = nI (wayM (opn σ col z) set s) ∧ (wayM (opn σ col z) set s ≠ 0 → gA_ h 27 (ffN set * 12 + s) = nI (cvS (opn σ col z) (wRt σ z) (wBh σ z) (wayM (opn σ col z) set s))) ∧ ∀ G : Int32 → Option (Int32 × Hp), (F_X3_isFree (nI (ffN set * 12 + s)) (nI set) h).bind G = if wayM (opn σ col z) set s ≠ 0 ∧ wayM (opn σ col z) set s &&& set = 0 then G 1 else G 0 := by
  obtain ⟨k1, k2, k3⟩ := nmG_e (p := opn σ col z) (i := ffN set) (n := 36) hf
  have hF' := hF (ffN set * 12 + s) (by omega) (nmG (opn σ col z) (ffN set) 36) s k2 hs12 (by rw [k3])
  have hml : wayM (opn σ col z) set s < 2 ^ cvM σ col z := way_lt opn_p set s
  have h16 := p16 hM
  refine ⟨hF'.1, hF'.2, fun G => ?_⟩
  have e26 : gA_ h 26 (ffN set * 12 + s) = nI (wayM (opn σ col z) set s) := hF'.1
  unfold F_X3_isFree
  rw [rA_n _ 26 192 _ (by omega) (by decide), e26, rA_n _ 26 192 _ (by omega) (by decide), e26, nI_and]
  have hal : wayM (opn σ col z) set s &&& set ≤ wayM (opn σ col z) set s := Nat.and_le_left
  by_cases q0 : wayM (opn σ col z) set s = 0
  · rw [if_pos (by rw [q0]; rfl), if_neg (fun w => w.1 q0)]; rfl
  · rw [if_neg (fun w => q0 ((nI_ze (by omega)).mp w))]
    by_cases q1 : wayM (opn σ col z) set s &&& set = 0
    · rw [if_pos (by rw [q1]; rfl), if_pos ⟨q0, q1⟩]; rfl
    · rw [if_neg (fun w => q1 ((nI_ze (by omega)).mp w)), if_neg (fun w => q1 w.2)]; rfl
theorem C_cheap {σ : Sg} {col z : Nat} (hM : cvM σ col z ≤ 16) : ∀ r n set dp h, cvM σ col z - popN (cvM σ col z) set ≤ r → r < n → set < 2 ^ cvM σ col z → dp ≤ popN (cvM σ col z) set → CA σ col z h → ∃ h1, F_X3_cheapest n (nI set) (nI dp) h = some (nI (vW σ col z set), h1) ∧ CA σ col z h1 := by
  have h16 := p16 hM
  have hR := wRt_le σ z
  have hB := wBh_le σ z
  intro r
  induction r with
  | zero =>
    intro n set dp h hr hn hs hd hA
    obtain ⟨n, rfl⟩ : ∃ j, n = j + 1 := ⟨n - 1, by omega⟩
    have hl := popN_le set (cvM σ col z)
    have hf := popN_ff hM hs (by omega)
    have hu : vW σ col z set = 0 := by
      rw [show vW σ col z set = VW (opn σ col z) (wRt σ z) (wBh σ z) set from rfl, VW_u opn_p hM hs, if_neg (by unfold cvM at hf; omega)]
    refine ⟨h, ?_, hA⟩
    rw [F_X3_cheapest, F_X3_cheapest_0, f_firstFree (by omega) (ff_tr (by omega)) (by omega), ob_s, hA.1.2.2.2.1, if_neg (show ¬ nI (ffN set) < nI (cvM σ col z) from nI_nlt (by omega) (by omega)), hu]; rfl
  | succ r ih =>
    intro n set dp h hr hn hs hd hA
    obtain ⟨n, rfl⟩ : ∃ j, n = j + 1 := ⟨n - 1, by omega⟩
    have hl := popN_le set (cvM σ col z)
    have hfl := ff_le hM hs
    rw [F_X3_cheapest, F_X3_cheapest_0, f_firstFree (by omega) (ff_tr (by omega)) (by omega), ob_s, hA.1.2.2.2.1]
    have hu := VW_u (wR := wRt σ z) (wB := wBh σ z) opn_p hM hs
    by_cases hf : ffN set < cvM σ col z
    · rw [if_pos (show ffN set < rkG (opn σ col z) 36 from hf)] at hu
      have hd16 : dp < 16 := by
        rcases Nat.lt_or_ge dp 16 with w | w
        · exact w
        · have := popN_ff hM hs (by omega); omega
      have inner : ∀ q f s h, q + s = 12 → q < f → CA σ col z h → ∃ h1, F_X3_cheapest_68 f (F_X3_cheapest n) (nI set) (nI dp) (nI (ffN set)) (nI (mnO (aS (opn σ col z) (wRt σ z) (wBh σ z) (vW σ col z) set) 1000000 s)) (nI s) h = some (nI (vW σ col z set), h1) ∧ CA σ col z h1 := by
        intro q
        induction q with
        | zero =>
          intro f s h hq hf' hA
          obtain ⟨f, rfl⟩ : ∃ j, f = j + 1 := ⟨f - 1, by omega⟩
          have e : s = 12 := by omega
          subst e
          rw [F_X3_cheapest_68, if_pos (by decide), ← hu]
          obtain ⟨h1, e1, A1⟩ := C_keep hs hA
          rw [e1, ob_s]; exact ⟨h1, rfl, A1⟩
        | succ q ihq =>
          intro f s h hq hf' hA
          obtain ⟨f, rfl⟩ : ∃ j, f = j + 1 := ⟨f - 1, by omega⟩
          have hs12 : s < 12 := by omega
          obtain ⟨e26, e27, eF⟩ := C_isFree hM hA.2.2.1 hf hs hs12
          have ew : nI (ffN set) * 12 + nI s = nI (ffN set * 12 + s) := by rw [i_lit 12, pk_mul, nI_add]
          rw [F_X3_cheapest_68, if_neg (show ¬ (12 : Int32) ≤ nI s from (nI_ge hs12 (by decide) : ¬ nI 12 ≤ nI s)), ew, eF]
          unfold F_X3_cheapest_132
          rw [show nI s + 1 = nI (s + 1) from nI_add s 1]
          by_cases v : wayM (opn σ col z) set s ≠ 0 ∧ wayM (opn σ col z) set s &&& set = 0
          · obtain ⟨p1, p2⟩ := way_pop opn_p v
            have p1' : popN (cvM σ col z) (set ||| wayM (opn σ col z) set s) = popN (cvM σ col z) set + popN (cvM σ col z) (wayM (opn σ col z) set s) := p1
            have p2' : 0 < popN (cvM σ col z) (wayM (opn σ col z) set s) := p2
            have hml : wayM (opn σ col z) set s < 2 ^ cvM σ col z := way_lt opn_p set s
            have hsp := cvS_le (p := opn σ col z) hR hB (wayM (opn σ col z) set s)
            have hpl := popN_le (wayM (opn σ col z) set s) (rkG (opn σ col z) 36)
            have hM' : rkG (opn σ col z) 36 ≤ 16 := hM
            rw [if_pos v, if_neg (by decide), rA_n _ 26 192 _ (by omega) (by decide), e26, nI_or, show nI dp + 1 = nI (dp + 1) from nI_add dp 1]
            obtain ⟨h2, e2, A2⟩ := ih n (set ||| wayM (opn σ col z) set s) (dp + 1) h (by omega) (by omega) (or_lt2 hs hml) (by omega) hA
            obtain ⟨-, e27', -⟩ := C_isFree hM A2.2.2.1 hf hs hs12
            have hV := VW_le (wR := wRt σ z) (wB := wBh σ z) opn_p hM' (or_lt2 hs hml)
            have hmi := mnO_init (aS (opn σ col z) (wRt σ z) (wBh σ z) (vW σ col z) set) 1000000 s
            rw [e2, ob_s]
            dsimp only
            rw [rA_n _ 27 192 _ (by omega) (by decide), e27' v.1, bd_e, show (100 : Int32) = nI 100 from rfl, pk_sub (by omega), nI_add, mn_n (by omega) (by unfold vW; omega)]
            have ea : aS (opn σ col z) (wRt σ z) (wBh σ z) (vW σ col z) set s = some (100 - cvS (opn σ col z) (wRt σ z) (wBh σ z) (wayM (opn σ col z) set s) + vW σ col z (set ||| wayM (opn σ col z) set s)) := by unfold aS; rw [if_pos v]
            rw [← mnO_s ea]
            exact ihq f (s + 1) h2 (by omega) (by omega) A2
          · have ea : aS (opn σ col z) (wRt σ z) (wBh σ z) (vW σ col z) set s = none := by unfold aS; rw [if_neg v]
            rw [if_neg v, if_pos rfl, ← mnO_n ea]
            exact ihq f (s + 1) h (by omega) (by omega) hA
      have go : ∃ h1, F_X3_cheapest_61 (F_X3_cheapest n) (nI set) (nI dp) (nI (ffN set)) h = some (nI (vW σ col z set), h1) ∧ CA σ col z h1 := inner 12 FU_ 0 h (by omega) (by unfold FU_; omega) hA
      rw [if_pos (show nI (ffN set) < nI (cvM σ col z) from nI_lt hf (by omega)), if_neg (show ¬ (16 : Int32) ≤ nI dp from (nI_ge hd16 (by decide) : ¬ nI 16 ≤ nI dp)), if_pos (show nI (ffN set) < (16 : Int32) from (i_lt (b := 16) (by omega) (by decide)).mpr (by omega))]
      obtain ⟨v, ev, hv⟩ := C_slot set h
      rw [ev, ob_s]
      rcases hv with rfl | ⟨j, hj, rfl, hj0⟩
      · rw [if_pos (by decide)]; exact go
      · rw [if_neg (i_n0 (by omega)), rA_n _ 28 2048 _ hj (by decide)]
        by_cases q0 : gA_ h 28 j = 0
        · rw [if_pos q0]; exact go
        · rw [if_neg q0, rA_n _ 29 2048 _ hj (by decide)]
          obtain ⟨t, ht, e1, e2⟩ := (hA.2.2.2 j hj).resolve_left q0
          have e3 := hj0.resolve_left q0
          rw [e1] at e3
          have : t = set := by have := (i_eq (by omega) (by omega)).mp e3; omega
          subst this
          rw [e2]; exact ⟨h, rfl, hA⟩
    · rw [if_neg (show ¬ ffN set < rkG (opn σ col z) 36 from hf)] at hu
      rw [if_neg (show ¬ nI (ffN set) < nI (cvM σ col z) from nI_nlt (by omega) (by omega))]
      exact ⟨h, by rw [show vW σ col z set = 0 from hu]; rfl, hA⟩
/-! the first way with which the best goes on -/
noncomputable def bwF (p : Nat → Bool) (wR wB : Nat → Nat) (set s : Nat) : Option Nat := if aS p wR wB (VW p wR wB) set s = some (VW p wR wB set) then some s else none
noncomputable def bwS (p : Nat → Bool) (wR wB : Nat → Nat) (set : Nat) : Option Nat := fsO (bwF p wR wB set) 12 0
theorem C_bw16 {σ : Sg} {col z : Nat} (hM : cvM σ col z ≤ 16) {set : Nat} (hs : set < 2 ^ cvM σ col z) (hf : ffN set < cvM σ col z) : ∀ q f s h, q + s = 12 → q < f → CA σ col z h → ∃ h1, F_X3_bestWay_16 f (nI set) (nI (ffN set)) (nI (vW σ col z set)) (nI s) h = some ((match fsO (bwF (opn σ col z) (wRt σ z) (wBh σ z) set) q s with
    | some t => nI (ffN set * 12 + t)
    | none => -1), h1) ∧ CA σ col z h1 := by
  have h16 := p16 hM
  have hR := wRt_le σ z
  have hB := wBh_le σ z
  intro q
  induction q with
  | zero =>
    intro f s h hq hf' hA
    obtain ⟨f, rfl⟩ : ∃ j, f = j + 1 := ⟨f - 1, by omega⟩
    have e : s = 12 := by omega
    subst e
    exact ⟨h, by rw [F_X3_bestWay_16, if_pos (by decide)]; rfl, hA⟩
  | succ q ihq =>
    intro f s h hq hf' hA
    obtain ⟨f, rfl⟩ : ∃ j, f = j + 1 := ⟨f - 1, by omega⟩
    have hs12 : s < 12 := by omega
    obtain ⟨e26, e27, eF⟩ := C_isFree hM hA.2.2.1 hf hs hs12
    have ew : nI (ffN set) * 12 + nI s = nI (ffN set * 12 + s) := by rw [i_lit 12, pk_mul, nI_add]
    rw [F_X3_bestWay_16, if_neg (show ¬ (12 : Int32) ≤ nI s from (nI_ge hs12 (by decide) : ¬ nI 12 ≤ nI s)), if_neg (show ¬ (16 : Int32) ≤ nI (ffN set) from (nI_ge (show ffN set < 16 by omega) (by decide) : ¬ nI 16 ≤ nI (ffN set))), ew, eF]
    unfold F_X3_bestWay_80
    rw [show nI s + 1 = nI (s + 1) from nI_add s 1]
    by_cases v : wayM (opn σ col z) set s ≠ 0 ∧ wayM (opn σ col z) set s &&& set = 0
    · obtain ⟨p1, p2⟩ := way_pop opn_p v
      have p1' : popN (cvM σ col z) (set ||| wayM (opn σ col z) set s) = popN (cvM σ col z) set + popN (cvM σ col z) (wayM (opn σ col z) set s) := p1
      have p2' : 0 < popN (cvM σ col z) (wayM (opn σ col z) set s) := p2
      have hml : wayM (opn σ col z) set s < 2 ^ cvM σ col z := way_lt opn_p set s
      have hsp := cvS_le (p := opn σ col z) hR hB (wayM (opn σ col z) set s)
      have hpl := popN_le (wayM (opn σ col z) set s) (rkG (opn σ col z) 36)
      have hM' : rkG (opn σ col z) 36 ≤ 16 := hM
      rw [if_pos v, if_neg (by decide), rA_n _ 27 192 _ (by omega) (by decide), e27 v.1, rA_n _ 26 192 _ (by omega) (by decide), e26, nI_or]
      obtain ⟨h2, e2, A2⟩ := C_cheap hM 16 RF_ (set ||| wayM (opn σ col z) set s) 1 h (by omega) (by unfold RF_; omega) (or_lt2 hs hml) (by omega) hA
      have e2' : F_X3_cheapest RF_ (nI (set ||| wayM (opn σ col z) set s)) 1 h = some (nI (vW σ col z (set ||| wayM (opn σ col z) set s)), h2) := e2
      have hV := VW_le (wR := wRt σ z) (wB := wBh σ z) opn_p hM' (or_lt2 hs hml)
      have hV2 := VW_le (wR := wRt σ z) (wB := wBh σ z) opn_p hM' hs
      rw [e2', ob_s]
      dsimp only
      rw [show (100 : Int32) = nI 100 from rfl, pk_sub (by omega), nI_add]
      have ea : aS (opn σ col z) (wRt σ z) (wBh σ z) (vW σ col z) set s = some (100 - cvS (opn σ col z) (wRt σ z) (wBh σ z) (wayM (opn σ col z) set s) + vW σ col z (set ||| wayM (opn σ col z) set s)) := by unfold aS; rw [if_pos v]
      by_cases w : 100 - cvS (opn σ col z) (wRt σ z) (wBh σ z) (wayM (opn σ col z) set s) + vW σ col z (set ||| wayM (opn σ col z) set s) = vW σ col z set
      · have eb : bwF (opn σ col z) (wRt σ z) (wBh σ z) set s = some s := by unfold bwF; rw [if_pos (by rw [ea, w])]
        rw [if_pos (by rw [w]), fsO_s eb]
        exact ⟨h2, rfl, A2⟩
      · have eb : bwF (opn σ col z) (wRt σ z) (wBh σ z) set s = none := by
          unfold bwF; rw [if_neg (fun u => w (by rw [ea] at u; exact Option.some.inj u))]
        rw [if_neg (fun u => w ((i_eq (by unfold vW; omega) (by unfold vW; omega)).mp u)), fsO_n eb]
        exact ihq f (s + 1) h2 (by omega) (by omega) A2
    · have ea : aS (opn σ col z) (wRt σ z) (wBh σ z) (vW σ col z) set s = none := by unfold aS; rw [if_neg v]
      have eb : bwF (opn σ col z) (wRt σ z) (wBh σ z) set s = none := by
        unfold bwF; rw [if_neg (fun u => by rw [ea] at u; cases u)]
      rw [if_neg v, if_pos rfl, fsO_n eb]
      exact ihq f (s + 1) h (by omega) (by omega) hA
theorem fsO_ex {α : Type} {f : Nat → Option α} {s : Nat} {a : α} (h : f s = some a) : ∀ q j, j ≤ s → s < j + q → ∃ b, fsO f q j = some b
  | 0, j, h1, h2 => by omega
  | q + 1, j, h1, h2 => by
    cases hj : f j with
    | some b => exact ⟨b, fsO_s hj⟩
    | none =>
      rw [fsO_n hj]
      refine fsO_ex h q (j + 1) ?_ (by omega)
      rcases Nat.lt_or_ge j s with w | w
      · exact w
      · have : s = j := by omega
        subst this; rw [h] at hj; cases hj
/-- the best goes on -/
theorem bw_ex {p : Nat → Bool} (hp : ∀ k, p k = true → k < 36) (hM : rkG p 36 ≤ 16) {wR wB : Nat → Nat} (hR : ∀ k, wR k ≤ 2) (hB : ∀ k, wB k ≤ 2) {set : Nat} (hs : set < 2 ^ rkG p 36) (hf : ffN set < rkG p 36) : ∃ s, bwS p wR wB set = some s ∧ s < 12 ∧ (wayM p set s ≠ 0 ∧ wayM p set s &&& set = 0) ∧ 100 - cvS p wR wB (wayM p set s) + VW p wR wB (set ||| wayM p set s) = VW p wR wB set ∧ bN (VW p wR wB set) = bN (VW p wR wB (set ||| wayM p set s)) + 1 ∧ bS (VW p wR wB set) = cvS p wR wB (wayM p set s) + bS (VW p wR wB (set ||| wayM p set s)) := by
  obtain ⟨-, -, h3⟩ := VW_b hp hM hR hB 16 set hs (by omega)
  obtain ⟨t, ht, et⟩ := h3 hf
  have eb : bwF p wR wB set t = some t := by unfold bwF; rw [if_pos et]
  obtain ⟨s, es⟩ := fsO_ex eb 12 0 (Nat.zero_le _) (by omega)
  obtain ⟨i, -, hi, ei⟩ := fsO_of 12 0 es
  have hi2 : i < 12 := by omega
  unfold bwF at ei
  by_cases q : aS p wR wB (VW p wR wB) set i = some (VW p wR wB set)
  · rw [if_pos q] at ei
    have ei := Option.some.inj ei
    subst ei
    have q' := q
    unfold aS at q'
    by_cases v : wayM p set i ≠ 0 ∧ wayM p set i &&& set = 0
    · rw [if_pos v] at q'
      have e := Option.some.inj q'
      obtain ⟨p1, p2⟩ := way_pop hp v
      have hl2 := popN_le (set ||| wayM p set i) (rkG p 36)
      obtain ⟨i1, i2, -⟩ := VW_b hp hM hR hB 16 (set ||| wayM p set i) (or_lt2 hs (way_lt hp set i)) (by omega)
      have hsp := cvS_le (p := p) hR hB (wayM p set i)
      obtain ⟨b1, b2⟩ := b_step (sp := cvS p wR wB (wayM p set i)) (V := VW p wR wB (set ||| wayM p set i)) (by omega)
      rw [e] at b1 b2
      exact ⟨i, es, hi2, v, e, b1, b2⟩
    · rw [if_neg v] at q'; cases q'
  · rw [if_neg q] at ei; cases ei
theorem C_bestWay {σ : Sg} {h : Hp} {col z : Nat} (hM : cvM σ col z ≤ 16) {set s : Nat} (hs : set < 2 ^ cvM σ col z) (hf : ffN set < cvM σ col z) (hb : bwS (opn σ col z) (wRt σ z) (wBh σ z) set = some s) (hA : CA σ col z h) : ∃ h1, F_X3_bestWay (nI set) h = some (nI (ffN set * 12 + s), h1) ∧ CA σ col z h1 := by
  have h16 := p16 hM
  unfold F_X3_bestWay
  rw [f_firstFree (by omega) (ff_tr (by omega)) (by omega), ob_s]
  obtain ⟨h1, e1, A1⟩ := C_cheap hM 16 RF_ set 0 h (by omega) (by unfold RF_; omega) hs (Nat.zero_le _) hA
  have e1' : F_X3_cheapest RF_ (nI set) 0 h = some (nI (vW σ col z set), h1) := e1
  rw [e1', ob_s]
  obtain ⟨h2, e2, A2⟩ := C_bw16 hM hs hf 12 FU_ 0 h1 (by omega) (by unfold FU_; omega) A1
  have hb' : fsO (bwF (opn σ col z) (wRt σ z) (wBh σ z) set) 12 0 = some s := hb
  rw [hb'] at e2
  exact ⟨h2, e2, A2⟩
