/-! ===== the order: the reference ===== -/
theorem M_isAbove {σ : Sg} {h : Hp} (hw : Wf σ) (hm : RepM σ h) {a b : Nat} (ha : a < sN σ) (hb : b < sN σ) : F_X7_isAbove (nI a) (nI b) h = some (bi_ (abv σ a b)) := by
  have h40 := hw.1
  obtain ⟨a1, a2, a3, a4, a5, a6⟩ := hw.2.2.1 a ha
  obtain ⟨b1, b2, b3, b4, b5, b6⟩ := hw.2.2.1 b hb
  obtain ⟨p1, p2, p3, p4, p5, p6⟩ := hm.2.2.2.1 a ha
  obtain ⟨q1, q2, q3, q4, q5, q6⟩ := hm.2.2.2.1 b hb
  unfold F_X7_isAbove abv
  simp only [rA_n h _ 40 _ (show a < 40 by omega) (by decide), rA_n h _ 40 _ (show b < 40 by omega) (by decide), p1, p2, p3, p4, p5, q1, q2, q3, q4, q5, f_lengthX a1 a2, f_lengthX b1 b2, f_lengthY a1 a2, f_lengthY b1 b2, ob_s, bd_e, nI_add]
  rw [show lX (sK σ a) (sT σ a) = sLx σ a from rfl, show lX (sK σ b) (sT σ b) = sLx σ b from rfl, show lY (sK σ a) (sT σ a) = sLy σ a from rfl, show lY (sK σ b) (sT σ b) = sLy σ b from rfl]
  rw [mn_n (by omega) (by omega), mx_n (by omega) (by omega), mn_n (by omega) (by omega), mx_n (by omega) (by omega)]
  unfold ovl
  by_cases hz : sZ σ a ≤ sZ σ b
  · rw [if_pos ((i_le (by omega) (by omega)).mpr hz), decide_eq_false (by omega)]; rfl
  · rw [if_neg (fun q => hz ((i_le (by omega) (by omega)).mp q))]
    by_cases hx : min (sX σ a + sLx σ a) (sX σ b + sLx σ b) ≤ max (sX σ a) (sX σ b)
    · rw [if_pos ((df_le0 (by omega) (by omega)).mpr hx), decide_eq_false (fun w => by have := w.2.1; omega)]; rfl
    · rw [if_neg (fun q => hx ((df_le0 (by omega) (by omega)).mp q))]
      by_cases hy : min (sY σ a + sLy σ a) (sY σ b + sLy σ b) ≤ max (sY σ a) (sY σ b)
      · rw [if_pos ((df_le0 (by omega) (by omega)).mpr hy), decide_eq_false (fun w => by have := w.2.2; omega)]; rfl
      · rw [if_neg (fun q => hy ((df_le0 (by omega) (by omega)).mp q)), decide_eq_true ⟨by omega, by omega, by omega⟩]; rfl
theorem M_covered {σ : Sg} {h : Hp} (hw : Wf σ) (hm : RepM σ h) {c : Nat} (hcN : c < sN σ) {A : Int64} (hA : ∀ b, tb A b = true → sTh σ b = true) : F_X7_covered (nI c) A h = some (bi_ (!decide (abI σ c &&& A = 0))) := by
  have key : ∀ m n X t, pcL X = m → m < n → (∀ b, tb X b = true → sTh σ b = true) → ∃ t', F_X7_covered_6 n (nI c) (bi_ t) X h = some (bi_ t') ∧ (t' = true ↔ (t = true ∨ ∃ b, tb X b = true ∧ abv σ b c = true)) := by
    intro m
    induction m with
    | zero =>
      intro n X t hp hn hX
      obtain ⟨n, rfl⟩ : ∃ j, n = j + 1 := ⟨n - 1, by omega⟩
      have e := pcL_z hp
      subst e
      refine ⟨t, ?_, ⟨fun w => Or.inl w, fun w => w.elim (fun u => u) (fun ⟨b, hb, _⟩ => by rw [tb_0] at hb; cases hb)⟩⟩
      rw [F_X7_covered_6, if_pos rfl, bz_bi]
    | succ m ih =>
      intro n X t hp hn hX
      obtain ⟨n, rfl⟩ : ∃ j, n = j + 1 := ⟨n - 1, by omega⟩
      have hnz : ¬ X = 0 := fun q => by rw [q, pcL_0] at hp; omega
      obtain ⟨b, hb⟩ := lw_ex hnz
      have hbN := hw.2.2.2.1 b (hX b hb.2.1)
      have hpop := pcL_pop hb
      have hsub : ∀ d, tb (X &&& (X - 1)) d = true → tb X d = true := fun d q => by rw [tb_and, Bool.and_eq_true] at q; exact q.1
      rw [F_X7_covered_6, if_neg hnz]
      unfold F_X7_covered_31 F_X7_covered_36
      rw [f_first hb, ob_s, M_isAbove hw hm hbN hcN, ob_s, bd_e]
      obtain ⟨u1, e1, w1⟩ := ih n (X &&& (X - 1)) true (by omega) (by omega) (fun d q => hX d (hsub d q))
      obtain ⟨u0, e0, w0⟩ := ih n (X &&& (X - 1)) false (by omega) (by omega) (fun d q => hX d (hsub d q))
      cases t with
      | true =>
        refine ⟨u1, ?_, ⟨fun _ => Or.inl rfl, fun _ => w1.mpr (Or.inl rfl)⟩⟩
        rw [if_neg b1_]; exact e1
      | false =>
        rw [if_pos b0_]
        cases ha : abv σ b c with
        | true =>
          refine ⟨u1, ?_, ⟨fun _ => Or.inr ⟨b, hb.2.1, ha⟩, fun _ => w1.mpr (Or.inl rfl)⟩⟩
          rw [if_neg b1_]; exact e1
        | false =>
          refine ⟨u0, ?_, w0.trans ⟨fun q => q.imp id (fun ⟨d, d1, d2⟩ => ⟨d, hsub d d1, d2⟩), fun q => q.imp id (fun ⟨d, d1, d2⟩ => ⟨d, ?_, d2⟩)⟩⟩
          · rw [if_pos b0_]; exact e0
          · rw [tb_pop' hb, d1]
            have : d ≠ b := fun e => by rw [e, ha] at d2; cases d2
            simp [this]
  have h64 : pcL A ≤ 64 := pcL_le (Nat.le_refl _) (fun i hi => tb_big hi)
  obtain ⟨t, e, w⟩ := key (pcL A) FU_ A false rfl (by unfold FU_; omega) hA
  have e' : F_X7_covered (nI c) A h = some (bi_ t) := e
  rw [e']
  have : t = !decide (abI σ c &&& A = 0) := bool_of (w.trans (by
    rw [Bool.not_eq_true', decide_eq_false_iff_not]
    constructor
    · rintro (u | ⟨b, b1, b2⟩)
      · cases u
      · intro q
        have : tb (abI σ c &&& A) b = true := by rw [tb_and, tb_abI hw, hA b b1, b2, b1]; rfl
        rw [q, tb_0] at this; cases this
    · intro q
      obtain ⟨i, -, hi⟩ := tb_nz q
      rw [tb_and, tb_abI hw, Bool.and_eq_true, Bool.and_eq_true] at hi
      exact Or.inr ⟨i, hi.2, hi.1.2⟩))
  rw [this]
def MO (σ : Sg) (h : Hp) : Prop := RepM σ h ∧ Lk σ h ∧ gI_ h 481 = nI (nB σ) ∧ ∀ c, sTh σ c = true → gA_ h 64 (rk σ c) = nI c
theorem MO.sm {σ : Sg} {h h' : Hp} (c : MO σ h) (s : Sm [] [] [49, 50, 51, 52, 62, 63] [] h h') : MO σ h' :=
  ⟨c.1.sm s (by decide), fun a ha => by rw [s.2.2.2 48 (by decide)]; exact c.2.1 a ha, by rw [s.1 481 (by decide)]; exact c.2.2.1, fun b hb => by rw [s.2.2.1 64 (by decide)]; exact c.2.2.2 b hb⟩
def DM (σ : Sg) (h : Hp) : Prop := ∀ m, m < 2 ^ nB σ → ¬ gA_ h 63 m = 0 → ∀ k, popN (nB σ) m + k = nB σ → rowM σ (nB σ) k m = none
theorem DM.sm {σ : Sg} {h h' : Hp} (d : DM σ h) (e : gA_ h' 63 = gA_ h 63) : DM σ h' := fun m hm q => by rw [e] at q; exact d m hm q
theorem DM.put {σ : Sg} {h : Hp} (d : DM σ h) {x : Nat} (hx : ∀ k, popN (nB σ) x + k = nB σ → rowM σ (nB σ) k x = none) : DM σ (sA_ h 63 x 1) := fun m hm q => by
  by_cases e : m = x
  · subst e; exact hx
  · refine d m hm ?_
    rw [show gA_ (sA_ h 63 x 1) 63 = upd (gA_ h 63) x 1 from rfl, pk_un e] at q
    exact q
theorem M_goes {σ : Sg} (hw : Wf σ) (hN : nB σ ≤ 12) : ∀ k n m s h, k < n → s + k = nB σ → popN (nB σ) m + k = nB σ → m < 2 ^ nB σ → MO σ h → DM σ h → ∃ h1, F_X7_goes n (nI s) (nI m) (putM σ m) h = some (bi_ (rowM σ (nB σ) k m).isSome, h1) ∧ MO σ h1 ∧ DM σ h1 ∧ (∀ j, j < s → gA_ h1 62 j = gA_ h 62 j) ∧ ∀ l, rowM σ (nB σ) k m = some l → RowIn (gA_ h1 62) s l := by
  have h12 := two_le12 hN
  have h40 := hw.1
  intro k
  induction k with
  | zero =>
    intro n m s h hn hs hp hm hC hD
    obtain ⟨n, rfl⟩ : ∃ j, n = j + 1 := ⟨n - 1, by omega⟩
    have e : s = nB σ := by omega
    refine ⟨h, ?_, hC, hD, fun _ _ => rfl, fun l hl => ?_⟩
    · rw [F_X7_goes, F_X7_goes_0, hC.2.2.1, if_pos (by rw [e])]; rfl
    · rw [rowM] at hl; cases hl
      intro j hj
      exact absurd hj (by simp)
  | succ k ih =>
    intro n m s h hn hs hp hm hC hD
    obtain ⟨n, rfl⟩ : ∃ j, n = j + 1 := ⟨n - 1, by omega⟩
    have inner : ∀ q f i h, q + i = nB σ → q < f → MO σ h → DM σ h → fsO (rowF σ (nB σ) k m) (nB σ) 0 = fsO (rowF σ (nB σ) k m) q i → ∃ h1, F_X7_goes_24 f (F_X7_goes n) (nI s) (nI m) (putM σ m) (nI i) h = some (bi_ (fsO (rowF σ (nB σ) k m) q i).isSome, h1) ∧ MO σ h1 ∧ DM σ h1 ∧ (∀ j, j < s → gA_ h1 62 j = gA_ h 62 j) ∧ ∀ l, fsO (rowF σ (nB σ) k m) q i = some l → RowIn (gA_ h1 62) s l := by
      intro q
      induction q with
      | zero =>
        intro f i h hq hf hC hD hpre
        obtain ⟨f, rfl⟩ : ∃ j, f = j + 1 := ⟨f - 1, by omega⟩
        rw [F_X7_goes_24, hC.2.2.1, if_pos ((i_le (by omega) (by omega)).mpr (by omega)), wA_n _ 63 4096 _ _ (by omega) (by decide)]
        refine ⟨sA_ h 63 m 1, rfl, hC.sm (sm_A (k := 63) (by decide) rfl sm_rf), hD.put (fun k' hk' => ?_), fun _ _ => rfl, fun l hl => by rw [fsO] at hl; cases hl⟩
        have : k' = k + 1 := by omega
        subst this
        rw [rowM_s, hpre]; rfl
      | succ q ihq =>
        intro f i h hq hf hC hD hpre
        obtain ⟨f, rfl⟩ : ∃ j, f = j + 1 := ⟨f - 1, by omega⟩
        have hi : i < nB σ := by omega
        obtain ⟨c, hcN, hct, hci⟩ := rk_ex (sN σ) hi
        have hnm : nmI σ i = c := by rw [← hci]; exact nmI_r hw hct
        have skip : ∀ h2, MO σ h2 → DM σ h2 → (∀ j, j < s → gA_ h2 62 j = gA_ h 62 j) → rowF σ (nB σ) k m i = none → ∃ h1, F_X7_goes_121 (F_X7_goes n) (F_X7_goes_24 f (F_X7_goes n)) (nI s) (nI m) (putM σ m) (nI i) h2 = some (bi_ (fsO (rowF σ (nB σ) k m) (q + 1) i).isSome, h1) ∧ MO σ h1 ∧ DM σ h1 ∧ (∀ j, j < s → gA_ h1 62 j = gA_ h 62 j) ∧ ∀ l, fsO (rowF σ (nB σ) k m) (q + 1) i = some l → RowIn (gA_ h1 62) s l := fun h2 C2 D2 u2 hr => by
          obtain ⟨h1, e, C1, D1, u1, r1⟩ := ihq f (i + 1) h2 (by omega) (by omega) C2 D2 (by rw [hpre, fsO_n hr])
          refine ⟨h1, ?_, C1, D1, fun j hj => (u1 j hj).trans (u2 j hj), fun l hl => r1 l (by rw [fsO_n hr] at hl; exact hl)⟩
          rw [F_X7_goes_121, show nI i + 1 = nI (i + 1) from nI_add i 1, fsO_n hr]; exact e
        have hmi := or_lt hm hi
        rw [F_X7_goes_24, hC.2.2.1, if_neg (show ¬ nI (nB σ) ≤ nI i from nI_ge hi (by omega))]
        by_cases t : m.testBit i = true
        · rw [if_pos ((ia_bit (by omega) (by omega)).mpr t)]
          refine skip h hC hD (fun _ _ => rfl) ?_
          unfold rowF okM
          rw [t, if_neg (by simp)]
        · rw [if_neg (fun w => t ((ia_bit (by omega) (by omega)).mp w))]
          have t : m.testBit i = false := by cases w : m.testBit i with
            | false => rfl
            | true => exact absurd w t
          have hpop : popN (nB σ) (m ||| 2 ^ i) + k = nB σ := by
            have := popN_in t (nB σ)
            rw [if_pos hi] at this; omega
          have hrk : rowF σ (nB σ) k m i = if (decide (abI σ c &&& putM σ m = 0) && sdA σ 40 (putM σ (m ||| 2 ^ i))) = true then (rowM σ (nB σ) k (m ||| 2 ^ i)).map (c :: ·) else none := by
            unfold rowF okM
            rw [t, hnm]; rfl
          have e64 : gA_ h 64 i = nI c := by rw [← hci]; exact hC.2.2.2 c hct
          rw [rA_n _ 64 12 _ (by omega) (by decide), e64, M_covered hw hC.1 hcN (fun b w => putM_th hw w), ob_s]
          by_cases a : abI σ c &&& putM σ m = 0
          · have pe : putM σ m ||| ls_ 1 (nI c) = putM σ (m ||| 2 ^ i) := by rw [putM_or hw m hct, hci]
            rw [decide_eq_true a, if_pos (show bi_ (!true) = 0 from rfl), rA_n _ 64 12 _ (by omega) (by decide), e64, pe]
            obtain ⟨h2, e2, s2⟩ := M_isSound hw hC.1 hC.2.1 (bl_putM hw (m ||| 2 ^ i))
            rw [e2, ob_s]
            dsimp only
            have s2' : Sm [] [] [49, 50, 51, 52, 62, 63] [] h h2 := sm_C s2 (by decide) sm_rf
            have C2 := hC.sm s2'
            have D2 : DM σ h2 := hD.sm (s2.2.2.1 63 (by decide))
            cases hsn : sdA σ 40 (putM σ (m ||| 2 ^ i)) with
            | false =>
              rw [if_pos b0_]
              refine skip h2 C2 D2 (fun j hj => by rw [s2.2.2.1 62 (by decide)]) ?_
              rw [hrk, hsn, if_neg (by simp)]
            | true =>
              have e64' : gA_ h2 64 i = nI c := by rw [s2.2.2.1 64 (by decide)]; exact e64
              rw [if_neg b1_, rA_n _ 64 12 _ (by omega) (by decide), e64', wA_n _ 62 12 _ _ (by omega) (by decide), rA_n _ 64 12 _ (by omega) (by decide), show gA_ (sA_ h2 62 s (nI c)) 64 i = nI c from e64', pe, sh1 i (by omega), nI_or, show nI s + 1 = nI (s + 1) from nI_add s 1]
              have s3 : Sm [] [] [49, 50, 51, 52, 62, 63] [] h2 (sA_ h2 62 s (nI c)) := sm_A (k := 62) (by decide) rfl sm_rf
              have u2 : ∀ j, gA_ (sA_ h2 62 s (nI c)) 62 j = if j = s then nI c else gA_ h 62 j := fun j => by
                rw [show gA_ (sA_ h2 62 s (nI c)) 62 = upd (gA_ h2 62) s (nI c) from rfl, s2.2.2.1 62 (by decide)]
                by_cases w : j = s
                · subst w; rw [pk_us, if_pos rfl]
                · rw [pk_un w, if_neg w]
              obtain ⟨h3, e3, C3, D3, u3, r3⟩ := ih n (m ||| 2 ^ i) (s + 1) (sA_ h2 62 s (nI c)) (by omega) (by omega) hpop hmi (C2.sm s3) (D2.sm rfl)
              rw [e3, ob_s]
              dsimp only
              have u3' : ∀ j, j < s → gA_ h3 62 j = gA_ h 62 j := fun j hj => by rw [u3 j (by omega), u2 j, if_neg (by omega)]
              cases hr : rowM σ (nB σ) k (m ||| 2 ^ i) with
              | none =>
                rw [show bi_ (none : Option (List Nat)).isSome = 0 from rfl, if_pos rfl]
                refine skip h3 C3 D3 u3' ?_
                rw [hrk, hr]; split <;> rfl
              | some l =>
                have hf : rowF σ (nB σ) k m i = some (c :: l) := by
                  rw [hrk, hsn, decide_eq_true a, hr, if_pos (show (true && true) = true from rfl)]; rfl
                rw [show bi_ (some l).isSome = 1 from rfl, if_neg (by decide), fsO_s hf]
                refine ⟨h3, rfl, C3, D3, u3', fun l' hl' => ?_⟩
                cases hl'
                exact RowIn.cons (by rw [u3 s (by omega), u2 s, if_pos rfl]) (r3 l hr)
          · rw [decide_eq_false a, if_neg (show ¬ bi_ (!false) = 0 by decide)]
            refine skip h hC hD (fun _ _ => rfl) ?_
            rw [hrk, decide_eq_false a, if_neg (by simp)]
    rw [F_X7_goes, F_X7_goes_0, hC.2.2.1, if_neg (fun w => by have := (i_eq (by omega) (by omega)).mp w; omega), rA_n _ 63 4096 _ (by omega) (by decide)]
    by_cases d : gA_ h 63 m = 0
    · rw [if_pos d]
      obtain ⟨h1, e, C1, D1, u1, r1⟩ := inner (nB σ) FU_ 0 h (by omega) (by unfold FU_; omega) hC hD rfl
      exact ⟨h1, e, C1, D1, u1, fun l hl => r1 l hl⟩
    · rw [if_neg d]
      have hr := hD m hm d (k + 1) hp
      exact ⟨h, by rw [hr]; rfl, hC, hD, fun _ _ => rfl, fun l hl => by rw [hr] at hl; cases hl⟩
theorem M_coll {σ : Sg} (hw : Wf σ) (k : Int32 → Hp → Option (Int32 × Hp)) (x : Int32) : ∀ q n i h, q + i = sN σ → q < n → RepM σ h → gI_ h 481 = nI (rk σ i) → rk σ i ≤ 12 → (∀ c, c < i → sTh σ c = true → gA_ h 64 (rk σ c) = nI c) → (nB σ ≤ 12 → ∃ h1, F_X7_order_7 n k x (nI i) h = k x h1 ∧ RepM σ h1 ∧ gI_ h1 481 = nI (nB σ) ∧ (∀ c, sTh σ c = true → gA_ h1 64 (rk σ c) = nI c) ∧ gA_ h1 38 = gA_ h 38) ∧ (12 < nB σ → ∃ h1, F_X7_order_7 n k x (nI i) h = some (-6, rM h1 6) ∧ gA_ h1 38 = gA_ h 38) := by
  have h40 := hw.1
  intro q
  induction q with
  | zero =>
    intro n i h hq hn hc e1 e3 e2
    obtain ⟨n, rfl⟩ : ∃ j, n = j + 1 := ⟨n - 1, by omega⟩
    have e : i = sN σ := by omega
    subst e
    refine ⟨fun _ => ⟨h, ?_, hc, e1, fun c hct => e2 c (hw.2.2.2.1 c hct) hct, rfl⟩, fun w => by unfold nB at w; omega⟩
    rw [F_X7_order_7, hc.2.2.1, if_pos ((i_le (by omega) (by omega)).mpr (Nat.le_refl _))]
  | succ q ih =>
    intro n i h hq hn hc e1 e3 e2
    obtain ⟨n, rfl⟩ : ∃ j, n = j + 1 := ⟨n - 1, by omega⟩
    have hi : i < sN σ := by omega
    have gen : ∀ G, F_X7_order_7 n k = G → F_X7_order_7 (n + 1) k x (nI i) h = if sTh σ i = true then if rk σ i = 12 then some (-6, rM h 6) else G x (nI (i + 1)) (sI_ (sA_ h 64 (rk σ i) (nI i)) 481 (nI (rk σ i) + 1)) else G x (nI (i + 1)) h := fun G hG => by
      rw [F_X7_order_7, hG, hc.2.2.1, if_neg (show ¬ nI (sN σ) ≤ nI i from nI_ge hi (by omega)), f_isThereM hw hc hi, ob_s]
      unfold F_X7_order_62
      rw [show nI i + 1 = nI (i + 1) from nI_add i 1, e1, m_r6, ob_s]
      cases ht : sTh σ i with
      | false => rw [if_pos b0_, if_neg (by decide)]
      | true =>
        rw [if_neg b1_, if_pos rfl]
        by_cases w : rk σ i = 12
        · rw [if_pos w, if_pos (by rw [w]; rfl)]
        · rw [if_neg w, if_neg (show ¬ nI (rk σ i) = (12 : Int32) from fun u => w ((i_eq (b := 12) (by omega) (by decide)).mp u)), wA_n _ 64 12 _ _ (by omega) (by decide), bd_e, show gI_ (sA_ h 64 (rk σ i) (nI i)) 481 = nI (rk σ i) from e1]
    rw [gen _ rfl]
    cases ht : sTh σ i with
    | false =>
      rw [if_neg (by decide)]
      exact ih n (i + 1) h (by omega) (by omega) hc (by rw [e1, rk_s, ht]; rfl) (by rw [rk_s, ht]; exact e3) (fun c hci hct => e2 c (by
        rcases Nat.lt_or_ge c i with w | w
        · exact w
        · have : c = i := by omega
          subst this; rw [ht] at hct; cases hct) hct)
    | true =>
      rw [if_pos rfl]
      by_cases w : rk σ i = 12
      · have := rk_nB hw ht
        rw [if_pos w]
        exact ⟨fun u => by omega, fun _ => ⟨h, rfl, rfl⟩⟩
      · rw [if_neg w]
        have s1 : Sm [481] [] [64] [] h (sI_ (sA_ h 64 (rk σ i) (nI i)) 481 (nI (rk σ i) + 1)) := sm_A (k := 64) (by decide) rfl (sm_I (k := 481) (by decide) rfl sm_rf)
        have r1 : rk σ (i + 1) = rk σ i + 1 := by rw [rk_s, ht]; rfl
        have e38 : gA_ (sI_ (sA_ h 64 (rk σ i) (nI i)) 481 (nI (rk σ i) + 1)) 38 = gA_ h 38 := s1.2.2.1 38 (by decide)
        have := ih n (i + 1) (sI_ (sA_ h 64 (rk σ i) (nI i)) 481 (nI (rk σ i) + 1)) (by omega) (by omega) (hc.sm s1 (by decide)) (by rw [gI_sI, if_pos rfl, r1]; exact nI_add _ 1) (by omega) (fun c hci hct => by
          show upd (gA_ h 64) (rk σ i) (nI i) (rk σ c) = nI c
          by_cases u : c = i
          · subst u; rw [pk_us]
          · rw [pk_un (fun v => u (rk_inj hct ht v))]
            exact e2 c (by omega) hct)
        rw [e38] at this
        exact this
theorem M_clear {σ : Sg} (hN : nB σ ≤ 12) (k : Int32 → Hp → Option (Int32 × Hp)) (y : Int32) : ∀ q n x h, q + x = 2 ^ nB σ → q < n → MO σ h → (∀ m, m < x → gA_ h 63 m = 0) → ∃ h1, F_X7_order_74 n k y (nI x) h = k y h1 ∧ MO σ h1 ∧ (∀ m, m < 2 ^ nB σ → gA_ h1 63 m = 0) ∧ Sm [] [] [63] [] h h1 := by
  have h12 := two_le12 hN
  intro q
  induction q with
  | zero =>
    intro n x h hq hn hC h0
    obtain ⟨n, rfl⟩ : ∃ j, n = j + 1 := ⟨n - 1, by omega⟩
    refine ⟨h, ?_, hC, fun m hm => h0 m (by omega), sm_rf⟩
    rw [F_X7_order_74, hC.2.2.1, sh1 _ (by omega), if_pos (show nI (2 ^ nB σ) ≤ nI x from (i_le (by omega) (by omega)).mpr (by omega))]
  | succ q ih =>
    intro n x h hq hn hC h0
    obtain ⟨n, rfl⟩ : ∃ j, n = j + 1 := ⟨n - 1, by omega⟩
    rw [F_X7_order_74, hC.2.2.1, sh1 _ (by omega), if_neg (show ¬ nI (2 ^ nB σ) ≤ nI x from nI_ge (by omega) (by omega)), wA_n _ 63 4096 _ _ (by omega) (by decide), show nI x + 1 = nI (x + 1) from nI_add x 1]
    have s1 : Sm [] [] [63] [] h (sA_ h 63 x 0) := sm_A (k := 63) (by decide) rfl sm_rf
    obtain ⟨h1, e, C1, z1, s2⟩ := ih n (x + 1) (sA_ h 63 x 0) (by omega) (by omega) (hC.sm (sm_C s1 (by decide) sm_rf)) (fun m hm => by
      show upd (gA_ h 63) x 0 m = 0
      by_cases w : m = x
      · subst w; rw [pk_us]
      · rw [pk_un w]; exact h0 m (by omega))
    exact ⟨h1, e, C1, z1, sm_C s1 (by decide) s2⟩
theorem M_order {σ : Sg} {h : Hp} (hw : Wf σ) (hm : RepM σ h) (x : Int32) : MQr h (s_order σ x) (F_X7_order x h) := by
  have h40 := hw.1
  unfold F_X7_order s_order
  rw [bd_e]
  have s0 : Sm [481] [] [] [] h (sI_ h 481 0) := sm_I (k := 481) (by decide) rfl sm_rf
  obtain ⟨y1, y2⟩ := M_coll hw F_X7_order_68 x (sN σ) FU_ 0 (sI_ h 481 0) (by omega) (by unfold FU_; omega) (hm.sm s0 (by decide)) (by rw [gI_sI, if_pos rfl]; rfl) (Nat.zero_le _) (fun c hc0 => by omega)
  by_cases hN : nB σ ≤ 12
  · have h12 := two_le12 hN
    rw [if_pos hN]
    obtain ⟨h1, e1, hm1, e481, e64, e38⟩ := y1 hN
    have e1' : F_X7_order_7 FU_ F_X7_order_68 x 0 (sI_ h 481 0) = F_X7_order_68 x h1 := e1
    rw [e1', F_X7_order_68, f_links hw hm1, ob_s]
    have s1 := lk1_sm σ (sN σ) h1
    have O1 : MO σ (lk1 σ (sN σ) h1) := ⟨hm1.sm s1 (by decide), links_Lk hw h1, by rw [s1.1 481 (by decide)]; exact e481, fun c hc => by rw [s1.2.2.1 64 (by decide)]; exact e64 c hc⟩
    obtain ⟨h2, e2, O2, z2, s2⟩ := M_clear hN F_X7_order_97 x (2 ^ nB σ) FU_ 0 (lk1 σ (sN σ) h1) (by omega) (by unfold FU_; omega) O1 (fun m hm => by omega)
    have e2' : F_X7_order_74 FU_ F_X7_order_97 x 0 (lk1 σ (sN σ) h1) = F_X7_order_97 x h2 := e2
    rw [e2', F_X7_order_97, O2.2.2.1, f_isIn, ob_s]
    have f38 : gA_ h2 38 = gA_ h 38 := by rw [s2.2.2.1 38 (by decide), s1.2.2.1 38 (by decide), e38]; rfl
    cases hp : inN x (nI (nB σ)) with
    | false =>
      rw [if_pos b0_]
      refine MQr.mk ?_ f38
      cases theRow σ <;> rfl
    | true =>
      obtain ⟨i, hi, rfl⟩ := inN_n (by omega) hp
      rw [if_neg b1_]
      obtain ⟨h3, e3, O3, D3, u3, r3⟩ := M_goes hw hN (nB σ) RF_ 0 0 h2 (by unfold RF_; omega) (by omega) (by rw [popN_0]; omega) (Nat.pow_pos (by decide)) O2 (fun m hm w => absurd (z2 m hm) w)
      rw [putM_0 hw] at e3
      have e3' : F_X7_goes RF_ 0 0 0 h2 = some (bi_ (theRow σ).isSome, h3) := e3
      have s3 := w_X7_goes _ _ _ _ _ _ _ e3
      rw [e3', ob_s]
      dsimp only
      have g38 : gA_ h3 38 = gA_ h 38 := by rw [s3.2.2.1 38 (by decide), f38]
      cases ht : theRow σ with
      | none =>
        rw [show bi_ (none : Option (List Nat)).isSome = 0 from rfl, if_pos rfl]
        exact MQr.mk rfl g38
      | some l =>
        have hl := rowM_len _ _ _ ht
        have := r3 l ht i (by omega)
        rw [Nat.zero_add] at this
        rw [show bi_ (some l).isSome = 1 from rfl, if_neg (by decide), rA_n _ 62 12 _ (by omega) (by decide), this]
        dsimp only
        rw [if_pos rfl, nI_clamp (by omega)]
        exact MQr.mk rfl g38
  · rw [if_neg hN]
    obtain ⟨h1, e1, e38⟩ := y2 (by omega)
    have e1' : F_X7_order_7 FU_ F_X7_order_68 x 0 (sI_ h 481 0) = some (-6, rM h1 6) := e1
    rw [e1']
    refine MQr.mk rfl ?_
    show upd (gA_ h1 38) 6 (gA_ h1 38 6 + 1) = upd (gA_ h 38) 6 (gA_ h 38 6 + 1)
    rw [e38]; rfl
