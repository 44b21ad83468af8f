/-! ===== the order: the class ===== -/
def CO (σ : Sg) (h : Hp) : Prop := RepC σ h ∧ gI_ h 326 = nI (nB σ) ∧ ∀ c, sTh σ c = true → gA_ h 33 (rk σ c) = nI c ∧ gL_ h 34 (rk σ c) = abI σ c
theorem CO.sm {σ : Sg} {h h' : Hp} (c : CO σ h) (s : Sm [] [] [31, 32, 35, 36] [] h h') : CO σ h' :=
  ⟨c.1.sm s (by decide), by rw [s.1 326 (by decide)]; exact c.2.1, fun b hb => by rw [s.2.2.1 33 (by decide), s.2.2.2 34 (by decide)]; exact c.2.2 b hb⟩
def DC (σ : Sg) (h : Hp) : Prop := ∀ m, m < 2 ^ nB σ → ¬ gA_ h 36 m = 0 → ∀ k, popN (nB σ) m + k = nB σ → (sdA σ 40 (putM σ m) = false ∨ rowM σ (nB σ) k m = none)
theorem DC.sm {σ : Sg} {h h' : Hp} (d : DC σ h) (e : gA_ h' 36 = gA_ h 36) : DC σ h' := fun m hm q => by rw [e] at q; exact d m hm q
theorem DC.put {σ : Sg} {h : Hp} (d : DC σ h) {x : Nat} (hx : ∀ k, popN (nB σ) x + k = nB σ → (sdA σ 40 (putM σ x) = false ∨ rowM σ (nB σ) k x = none)) : DC σ (sA_ h 36 x 1) := fun m hm q => by
  by_cases e : m = x
  · subst e; exact hx
  · refine d m hm ?_
    rw [show gA_ (sA_ h 36 x 1) 36 = upd (gA_ h 36) x 1 from rfl, pk_un e] at q
    exact q
theorem lt12 {s : Nat} (h : s < 12) : nI s < (12 : Int32) := (i_lt (b := 12) (by omega) (by decide)).mpr h
theorem C_goes {σ : Sg} (hw : Wf σ) (hN : nB σ ≤ 12) : ∀ k n m s h, k < n → s + k = nB σ → popN (nB σ) m + k = nB σ → m < 2 ^ nB σ → sdA σ 40 (putM σ m) = true → CO σ h → DC σ h → ∃ h1, F_X5_goesOn n (nI m) (putM σ m) (nI s) h = some (bi_ (rowM σ (nB σ) k m).isSome, h1) ∧ CO σ h1 ∧ DC σ h1 ∧ (∀ j, j < s → gA_ h1 35 j = gA_ h 35 j) ∧ ∀ l, rowM σ (nB σ) k m = some l → RowIn (gA_ h1 35) s l := by
  have h12 := two_le12 hN
  have h40 := hw.1
  intro k
  induction k with
  | zero =>
    intro n m s h hn hs hp hm hsd hC hD
    obtain ⟨n, rfl⟩ : ∃ j, n = j + 1 := ⟨n - 1, by omega⟩
    refine ⟨h, ?_, hC, hD, fun _ _ => rfl, fun l hl => ?_⟩
    · rw [F_X5_goesOn, F_X5_goesOn_0, hC.2.1, if_pos ((i_le (by omega) (by omega)).mpr (by omega))]; rfl
    · rw [rowM] at hl; cases hl
      intro j hj
      exact absurd hj (by simp)
  | succ k ih =>
    intro n m s h hn hs hp hm hsd hC hD
    obtain ⟨n, rfl⟩ : ∃ j, n = j + 1 := ⟨n - 1, by omega⟩
    have inner : ∀ q f i h, q + i = nB σ → q < f → CO σ h → DC σ h → ∃ h1, F_X5_goesOn_21 f (F_X5_goesOn n) (nI m) (putM σ m) (nI s) (nI i) h = some (bi_ (fsO (rowF σ (nB σ) k m) q i).isSome, h1) ∧ CO σ h1 ∧ DC σ h1 ∧ (∀ j, j < s → gA_ h1 35 j = gA_ h 35 j) ∧ ∀ l, fsO (rowF σ (nB σ) k m) q i = some l → RowIn (gA_ h1 35) s l := by
      intro q
      induction q with
      | zero =>
        intro f i h hq hf hC hD
        obtain ⟨f, rfl⟩ : ∃ j, f = j + 1 := ⟨f - 1, by omega⟩
        refine ⟨h, ?_, hC, hD, fun _ _ => rfl, fun l hl => by rw [fsO] at hl; cases hl⟩
        rw [F_X5_goesOn_21, hC.2.1, if_pos ((i_le (by omega) (by omega)).mpr (by omega))]; rfl
      | succ q ihq =>
        intro f i h hq hf hC hD
        obtain ⟨f, rfl⟩ : ∃ j, f = j + 1 := ⟨f - 1, by omega⟩
        have hi : i < nB σ := by omega
        obtain ⟨c, hcN, hct, hci⟩ := rk_ex (sN σ) hi
        have hnm : nmI σ i = c := by rw [← hci]; exact nmI_r hw hct
        have skip : ∀ h2, CO σ h2 → DC σ h2 → (∀ j, j < s → gA_ h2 35 j = gA_ h 35 j) → rowF σ (nB σ) k m i = none → ∃ h1, F_X5_goesOn_157 (F_X5_goesOn n) (F_X5_goesOn_21 f (F_X5_goesOn n)) (nI m) (putM σ m) (nI s) (nI i) h2 = some (bi_ (fsO (rowF σ (nB σ) k m) (q + 1) i).isSome, h1) ∧ CO σ h1 ∧ DC σ h1 ∧ (∀ j, j < s → gA_ h1 35 j = gA_ h 35 j) ∧ ∀ l, fsO (rowF σ (nB σ) k m) (q + 1) i = some l → RowIn (gA_ h1 35) s l := fun h2 C2 D2 u2 hr => by
          obtain ⟨h1, e, C1, D1, u1, r1⟩ := ihq f (i + 1) h2 (by omega) (by omega) C2 D2
          refine ⟨h1, ?_, C1, D1, fun j hj => (u1 j hj).trans (u2 j hj), fun l hl => r1 l (by rw [fsO_n hr] at hl; exact hl)⟩
          rw [F_X5_goesOn_157, show nI i + 1 = nI (i + 1) from nI_add i 1, fsO_n hr]; exact e
        have hmi := or_lt hm hi
        rw [F_X5_goesOn_21, hC.2.1, if_neg (show ¬ nI (nB σ) ≤ nI i from nI_ge hi (by omega)), bd_e, sh1 i (by omega), nI_or]
        by_cases t : m.testBit i = true
        · rw [or_self t, if_pos rfl]
          refine skip h hC hD (fun _ _ => rfl) ?_
          unfold rowF okM
          rw [t, if_neg (by simp)]
        · have t : m.testBit i = false := by cases w : m.testBit i with
            | false => rfl
            | true => exact absurd w t
          have hpop : popN (nB σ) (m ||| 2 ^ i) + k = nB σ := by
            have := popN_in t (nB σ)
            rw [if_pos hi] at this; omega
          rw [if_neg (fun w => or_ne t ((i_eq (by omega) (by omega)).mp w)), if_neg (show ¬ (4096 : Int32) ≤ nI (m ||| 2 ^ i) from (nI_ge (by omega) (by decide) : ¬ nI 4096 ≤ nI (m ||| 2 ^ i))), rA_n _ 36 4096 _ (by omega) (by decide)]
          have hrk : rowF σ (nB σ) k m i = if (decide (abI σ c &&& putM σ m = 0) && sdA σ 40 (putM σ (m ||| 2 ^ i))) = true then (rowM σ (nB σ) k (m ||| 2 ^ i)).map (c :: ·) else none := by
            unfold rowF okM
            rw [t, hnm]; rfl
          by_cases d : gA_ h 36 (m ||| 2 ^ i) = 0
          · rw [if_pos d, rL_n _ 34 12 _ (by omega) (by decide), ← hci, (hC.2.2 c hct).2, hci]
            by_cases a : abI σ c &&& putM σ m = 0
            · rw [if_pos a, rA_n _ 33 12 _ (by omega) (by decide), ← hci, (hC.2.2 c hct).1, bd_e, putM_or hw m hct, rA_n _ 33 12 _ (by omega) (by decide), (hC.2.2 c hct).1, wA_n _ 35 12 _ _ (by omega) (by decide), rA_n _ 33 12 _ (by omega) (by decide), show gA_ (sA_ h 35 s (nI c)) 33 (rk σ c) = nI c from (by rw [gA_sA, if_neg (by decide)]; exact (hC.2.2 c hct).1)]
              have s5 : Sm [] [] [31, 32, 35, 36] [] h (sA_ h 35 s (nI c)) := sm_A (k := 35) (by decide) rfl sm_rf
              have C5 := hC.sm s5
              have hB40 : bl (putM σ (m ||| 2 ^ rk σ c)) 40 := bl_mono (bl_putM hw _) h40
              have hcin : tb (putM σ (m ||| 2 ^ rk σ c)) c = true := putM_at hw hct
              unfold F_X4_pieceWith
              rw [f_reach hw C5.1, ob_s, ob_s]
              obtain ⟨h2, e2, s2⟩ := C_isSoundPiece hw C5.1 (P := cmp σ (putM σ (m ||| 2 ^ rk σ c)) c) (fun b w => putM_th hw (cmp_sub hw hB40 hcin w)) (cmp_con hw hB40 hcin)
              have e2' : F_X4_isSoundPiece (rch σ (putM σ (m ||| 2 ^ rk σ c)) (ls_ 1 (nI c) &&& putM σ (m ||| 2 ^ rk σ c))) (sA_ h 35 s (nI c)) = some (bi_ (spB σ (cmp σ (putM σ (m ||| 2 ^ rk σ c)) c)), h2) := e2
              rw [e2', ob_s]
              dsimp only
              have hst := sd_step hw hB40 hcin (putM_out hw hct (by rw [hci]; exact t)) hsd
              rw [← hst, hci]
              rw [hci] at hst
              have C2 : CO σ h2 := C5.sm (sm_C s2 (by decide) sm_rf)
              have u2 : ∀ j, gA_ h2 35 j = if j = s then nI c else gA_ h 35 j := fun j => by
                rw [s2.2.2.1 35 (by decide), show gA_ (sA_ h 35 s (nI c)) 35 = upd (gA_ h 35) s (nI c) from rfl]
                by_cases w : j = s
                · subst w; rw [pk_us, if_pos rfl]
                · rw [pk_un w, if_neg w]
              have D2 : DC σ h2 := hD.sm (by rw [s2.2.2.1 36 (by decide)]; rfl)
              have dead : ∀ h3, CO σ h3 → DC σ h3 → (∀ j, j < s → gA_ h3 35 j = gA_ h 35 j) → (sdA σ 40 (putM σ (m ||| 2 ^ i)) = false ∨ rowM σ (nB σ) k (m ||| 2 ^ i) = none) → ∃ h1, F_X5_goesOn_149 (F_X5_goesOn n) (F_X5_goesOn_21 f (F_X5_goesOn n)) (nI m) (putM σ m) (nI s) (nI i) (nI (m ||| 2 ^ i)) h3 = some (bi_ (fsO (rowF σ (nB σ) k m) (q + 1) i).isSome, h1) ∧ CO σ h1 ∧ DC σ h1 ∧ (∀ j, j < s → gA_ h1 35 j = gA_ h 35 j) ∧ ∀ l, fsO (rowF σ (nB σ) k m) (q + 1) i = some l → RowIn (gA_ h1 35) s l := fun h3 C3 D3 u3 why => by
                rw [F_X5_goesOn_149, wA_n _ 36 4096 _ _ (by omega) (by decide)]
                refine skip (sA_ h3 36 (m ||| 2 ^ i) 1) (C3.sm (sm_A (k := 36) (by decide) rfl sm_rf)) (D3.put (fun k' hk' => ?_)) u3 ?_
                · have : k' = k := by omega
                  subst this; exact why
                · rw [hrk]
                  rcases why with w | w
                  · rw [w, if_neg (by simp)]
                  · rw [w]; split <;> rfl
              cases hsn : sdA σ 40 (putM σ (m ||| 2 ^ i)) with
              | false =>
                rw [if_pos b0_]
                exact dead h2 C2 D2 (fun j hj => by rw [u2 j, if_neg (by omega)]) (Or.inl hsn)
              | true =>
                rw [if_neg b1_, show nI s + 1 = nI (s + 1) from nI_add s 1]
                obtain ⟨h3, e3, C3, D3, u3, r3⟩ := ih n (m ||| 2 ^ i) (s + 1) h2 (by omega) (by omega) hpop hmi hsn C2 D2
                rw [e3, ob_s]
                dsimp only
                have u3' : ∀ j, j < s → gA_ h3 35 j = gA_ h 35 j := fun j hj => by rw [u3 j (by omega), u2 j, if_neg (by omega)]
                cases hr : rowM σ (nB σ) k (m ||| 2 ^ i) with
                | none =>
                  rw [show bi_ (none : Option (List Nat)).isSome = 0 from rfl, if_pos rfl]
                  exact dead h3 C3 D3 u3' (Or.inr hr)
                | some l =>
                  have hf : rowF σ (nB σ) k m i = some (c :: l) := by
                    rw [hrk, hsn, decide_eq_true a, hr, if_pos (show (true && true) = true from rfl)]; rfl
                  rw [show bi_ (some l).isSome = 1 from rfl, if_neg (by decide), fsO_s hf]
                  refine ⟨h3, rfl, C3, D3, u3', fun l' hl' => ?_⟩
                  cases hl'
                  exact RowIn.cons (by rw [u3 s (by omega), u2 s, if_pos rfl]) (r3 l hr)
            · rw [if_neg a]
              refine skip h hC hD (fun _ _ => rfl) ?_
              rw [hrk, decide_eq_false a, if_neg (by simp)]
          · rw [if_neg d]
            refine skip h hC hD (fun _ _ => rfl) ?_
            rw [hrk]
            rcases hD _ hmi d k hpop with w | w
            · rw [w, if_neg (by simp)]
            · rw [w]; split <;> rfl
    obtain ⟨h1, e, C1, D1, u1, r1⟩ := inner (nB σ) FU_ 0 h (by omega) (by unfold FU_; omega) hC hD
    refine ⟨h1, ?_, C1, D1, u1, fun l hl => r1 l hl⟩
    rw [F_X5_goesOn, F_X5_goesOn_0, hC.2.1, if_neg (show ¬ nI (nB σ) ≤ nI s from nI_ge (by omega) (by omega)), if_pos (lt12 (by omega))]
    exact e
