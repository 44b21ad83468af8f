/-! ===== the reference: all rests, from the fullest down ===== -/
theorem MF.sm {σ : Sg} {col z : Nat} {h h' : Hp} (f : MF σ col z h) (e58 : gA_ h' 58 = gA_ h 58) (e59 : gA_ h' 59 = gA_ h 59) : MF σ col z h' := fun w hw k kd t hk hkd ht e => by
  rw [e58, e59]; exact f w hw k kd t hk hkd ht e
theorem mnO_m {f : Nat → Option Nat} {init s : Nat} : mnO f init (s + 1) = match f s with
    | some a => min (mnO f init s) a
    | none => mnO f init s := by
  cases h : f s with
  | none => rw [mnO_n h]
  | some a => rw [mnO_s h]
def PS (σ : Sg) (col z set : Nat) (h0 : Hp) (j : Nat) (h : Hp) : Prop := Sm [] [] [55, 56] [] h0 h ∧ (∀ u, u ≠ set → gA_ h 55 u = gA_ h0 55 u ∧ gA_ h 56 u = gA_ h0 56 u) ∧ gA_ h 55 set = nI (bN (mnO (aR σ col z set) 1700 j)) ∧ gA_ h 56 set = ngI (bS (mnO (aR σ col z set) 1700 j))
theorem M_dp1 {σ : Sg} {h0 h : Hp} {col z : Nat} (hM : cvM σ col z ≤ 16) (hF : MF σ col z h0) {set : Nat} (hs : set < 2 ^ cvM σ col z) (hf : ffN set < cvM σ col z) (hD : ∀ t, set < t → t < 2 ^ cvM σ col z → MDt σ col z h0 t) {kd t : Nat} (hkd : kd < 7) (ht : t < 2) (hP : PS σ col z set h0 (kd * 2 + t) h) : ∃ h1, F_X7_tries (nI set) (nI (ffN set)) (nI kd) (nI t) h = some h1 ∧ PS σ col z set h0 (kd * 2 + t + 1) h1 := by
  obtain ⟨s, u, a, b⟩ := hP
  obtain ⟨h1, e, s1, u1, a1, b1⟩ := M_tries hM (hF.sm (s.2.2.1 58 (by decide)) (s.2.2.1 59 (by decide))) hs hf (fun t h1 h2 => by
    obtain ⟨x, y⟩ := hD t h1 h2
    obtain ⟨p, q⟩ := u t (by omega)
    exact ⟨by rw [p]; exact x, by rw [q]; exact y⟩) hkd ht (mnO_init (aR σ col z set) 1700 (kd * 2 + t)) a b
  refine ⟨h1, e, sm_C s (by decide) s1, fun v hv => ?_, ?_, ?_⟩
  · obtain ⟨p, q⟩ := u v hv
    obtain ⟨p1, q1⟩ := u1 v hv
    exact ⟨p1.trans p, q1.trans q⟩
  · rw [a1]
    cases haj : aR σ col z set (kd * 2 + t) with
    | none => rw [mnO_n haj]
    | some a => rw [mnO_s haj]
  · rw [b1]
    cases haj : aR σ col z set (kd * 2 + t) with
    | none => rw [mnO_n haj]
    | some a => rw [mnO_s haj]
theorem M_dp157 {σ : Sg} {h0 : Hp} {col z : Nat} (hM : cvM σ col z ≤ 16) (hF : MF σ col z h0) {set : Nat} (hs : set < 2 ^ cvM σ col z) (hf : ffN set < cvM σ col z) (hD : ∀ t, set < t → t < 2 ^ cvM σ col z → MDt σ col z h0 t) (K : Int32 → Int32 → Hp → Option Hp) (x : Int32) : ∀ q n kd h, q + kd = 7 → q < n → PS σ col z set h0 (kd * 2) h → ∃ h1, F_X7_covers_157 n K x (nI set) (nI (ffN set)) (nI kd) h = K x (nI set) h1 ∧ PS σ col z set h0 14 h1 := by
  intro q
  induction q with
  | zero =>
    intro n kd h hq hn hP
    obtain ⟨n, rfl⟩ : ∃ j, n = j + 1 := ⟨n - 1, by omega⟩
    have e : kd = 7 := by omega
    subst e
    exact ⟨h, by rw [F_X7_covers_157, if_pos (by decide)], hP⟩
  | succ q ih =>
    intro n kd h hq hn hP
    obtain ⟨n, rfl⟩ : ∃ j, n = j + 1 := ⟨n - 1, by omega⟩
    have hkd : kd < 7 := by omega
    obtain ⟨h1, e1, P1⟩ := M_dp1 hM hF hs hf hD hkd (show 0 < 2 by decide) hP
    obtain ⟨h2, e2, P2⟩ := M_dp1 hM hF hs hf hD hkd (show 1 < 2 by decide) P1
    obtain ⟨h3, e3, P3⟩ := ih n (kd + 1) h2 (by omega) (by omega) (by rw [show (kd + 1) * 2 = kd * 2 + 1 + 1 by omega]; exact P2)
    refine ⟨h3, ?_, P3⟩
    have f1 : F_X7_tries (nI set) (nI (ffN set)) (nI kd) 0 h = some h1 := e1
    have f2 : F_X7_tries (nI set) (nI (ffN set)) (nI kd) 1 h1 = some h2 := e2
    rw [F_X7_covers_157, if_neg (show ¬ (7 : Int32) ≤ nI kd from (nI_ge hkd (by decide) : ¬ nI 7 ≤ nI kd))]
    have g : ∀ G, F_X7_covers_157 n K = G → F_X7_covers_167 FU_ (F_X7_covers_189 G) x (nI set) (nI (ffN set)) (nI kd) 0 h = G x (nI set) (nI (ffN set)) (nI (kd + 1)) h2 := fun G _ => by
      have k3 : ∀ n, F_X7_covers_167 (n + 1) (F_X7_covers_189 G) x (nI set) (nI (ffN set)) (nI kd) 2 h2 = G x (nI set) (nI (ffN set)) (nI (kd + 1)) h2 := fun n => by
        rw [F_X7_covers_167, if_pos (by decide), F_X7_covers_189, show nI kd + 1 = nI (kd + 1) from nI_add kd 1]
      have k2 : ∀ n, F_X7_covers_167 (n + 2) (F_X7_covers_189 G) x (nI set) (nI (ffN set)) (nI kd) 1 h1 = G x (nI set) (nI (ffN set)) (nI (kd + 1)) h2 := fun n => by
        rw [F_X7_covers_167, if_neg (by decide), f2, ob_s]; exact k3 n
      have k1 : ∀ n, F_X7_covers_167 (n + 3) (F_X7_covers_189 G) x (nI set) (nI (ffN set)) (nI kd) 0 h = G x (nI set) (nI (ffN set)) (nI (kd + 1)) h2 := fun n => by
        rw [F_X7_covers_167, if_neg (by decide), f1, ob_s]; exact k2 n
      exact k1 99997
    rw [g _ rfl, e3]
theorem nI_dec (c : Nat) : nI c + (-1) = nI c - 1 := by
  rw [zI_n, show (-1 : Int32) = zI (-1) by decide, show (1 : Int32) = zI 1 by decide, zI_add, zI_sub]; rfl
theorem M_dp115 {σ : Sg} {col z : Nat} (hM : cvM σ col z ≤ 16) (K : Hp → Option Hp) : ∀ c n h, c ≤ 2 ^ cvM σ col z → c < n → MC σ col z h → MF σ col z h → (∀ t, c ≤ t → t < 2 ^ cvM σ col z → MDt σ col z h t) → ∃ h1, F_X7_covers_115 n K (nI (2 ^ cvM σ col z - 1)) (nI c - 1) h = K h1 ∧ MC σ col z h1 ∧ MF σ col z h1 ∧ ∀ t, t < 2 ^ cvM σ col z → MDt σ col z h1 t := by
  have h16 := p16 hM
  have hM' : rkG (opn σ col z) 36 ≤ 16 := hM
  intro c
  induction c with
  | zero =>
    intro n h hc hn hC hF hD
    obtain ⟨n, rfl⟩ : ∃ j, n = j + 1 := ⟨n - 1, by omega⟩
    exact ⟨h, by rw [F_X7_covers_115, if_pos (by decide)], hC, hF, fun t ht => hD t (Nat.zero_le _) ht⟩
  | succ c ih =>
    intro n h hc hn hC hF hD
    obtain ⟨n, rfl⟩ : ∃ j, n = j + 1 := ⟨n - 1, by omega⟩
    have hs : c < 2 ^ cvM σ col z := by omega
    have hs' : c < 2 ^ rkG (opn σ col z) 36 := hs
    have e0 : nI (c + 1) - 1 = nI c := nI_m1 (show 1 ≤ c + 1 by omega)
    rw [F_X7_covers_115, e0, if_neg (i_n0 (by omega)), wA_n _ 55 65536 _ _ (by omega) (by decide), wA_n _ 56 65536 _ _ (by omega) (by decide)]
    have s1 : Sm [] [] [55, 56] [] h (sA_ (sA_ h 55 c 0) 56 c 0) := sm_A (k := 55) (by decide) rfl (sm_A (k := 56) (by decide) rfl sm_rf)
    by_cases q : c = 2 ^ cvM σ col z - 1
    · have hfl := (ff_full hM hs).mpr q
      have hV : vW σ col z c = 0 := by
        rw [show vW σ col z c = VW (opn σ col z) (wRt σ z) (wBh σ z) c from rfl, VW_u opn_p hM' hs', if_neg (by unfold cvM at hfl; omega)]
      rw [if_pos (show nI c = nI (2 ^ cvM σ col z - 1) from congrArg nI q), F_X7_covers_195, nI_dec]
      refine ih n _ (by omega) (by omega) (hC.sm s1 (by decide)) (hF.sm rfl rfl) (fun t h1 h2 => ?_)
      have : t = c := by omega
      subst this
      unfold MDt
      rw [hV]
      exact ⟨(pk_us : upd (gA_ h 55) t 0 t = 0), (pk_us : upd (gA_ h 56) t 0 t = 0).trans ngI_0.symm⟩
    · have hfl := ff_le hM hs
      have hf : ffN c < cvM σ col z := by
        rcases Nat.lt_or_ge (ffN c) (cvM σ col z) with w | w
        · exact w
        · exact absurd ((ff_full hM hs).mp (by omega)) q
      rw [if_neg (fun u => q ((i_eq (by omega) (by omega)).mp u)), wA_n _ 55 65536 _ _ (by omega) (by decide), f_firstOpen (by omega) (ff_tr (by omega)) (by omega), ob_s]
      have s2 : Sm [] [] [55, 56] [] h (sA_ (sA_ (sA_ h 55 c 0) 56 c 0) 55 c 17) := sm_A (k := 55) (by decide) rfl (sm_A (k := 56) (by decide) rfl (sm_A (k := 55) (by decide) rfl sm_rf))
      have D2 : ∀ t, c < t → t < 2 ^ cvM σ col z → MDt σ col z (sA_ (sA_ (sA_ h 55 c 0) 56 c 0) 55 c 17) t := fun t h1 h2 => by
        obtain ⟨x, y⟩ := hD t (by omega) h2
        have hne : t ≠ c := by omega
        refine ⟨?_, ?_⟩
        · show upd (upd (gA_ h 55) c 0) c 17 t = _
          rw [pk_un hne, pk_un hne]; exact x
        · show upd (gA_ h 56) c 0 t = _
          rw [pk_un hne]; exact y
      have P0 : PS σ col z c (sA_ (sA_ (sA_ h 55 c 0) 56 c 0) 55 c 17) (0 * 2) (sA_ (sA_ (sA_ h 55 c 0) 56 c 0) 55 c 17) := ⟨sm_rf, fun _ _ => ⟨rfl, rfl⟩, (pk_us : upd (upd (gA_ h 55) c 0) c 17 c = 17).trans (show (17 : Int32) = nI (bN 1700) by decide), (pk_us : upd (gA_ h 56) c 0 c = 0).trans (show (0 : Int32) = ngI (bS 1700) by decide)⟩
      obtain ⟨h3, e3, s3, u3, a3, b3⟩ := M_dp157 hM (hF.sm rfl rfl : MF σ col z (sA_ (sA_ (sA_ h 55 c 0) 56 c 0) 55 c 17)) hs hf D2 (F_X7_covers_195 (F_X7_covers_115 n K)) (nI (2 ^ cvM σ col z - 1)) 7 FU_ 0 _ (by omega) (by unfold FU_; omega) P0
      have e3' : F_X7_covers_157 FU_ (F_X7_covers_195 (F_X7_covers_115 n K)) (nI (2 ^ cvM σ col z - 1)) (nI c) (nI (ffN c)) 0 (sA_ (sA_ (sA_ h 55 c 0) 56 c 0) 55 c 17) = F_X7_covers_195 (F_X7_covers_115 n K) (nI (2 ^ cvM σ col z - 1)) (nI c) h3 := e3
      rw [e3', F_X7_covers_195, nI_dec]
      refine ih n h3 (by omega) (by omega) ((hC.sm s2 (by decide)).sm s3 (by decide)) (hF.sm (s3.2.2.1 58 (by decide)) (s3.2.2.1 59 (by decide))) (fun t h1 h2 => ?_)
      by_cases w : t = c
      · subst w
        rw [aR_min hM hs hf] at a3 b3
        exact ⟨a3, b3⟩
      · obtain ⟨p, r⟩ := u3 t w
        obtain ⟨x, y⟩ := D2 t (by omega) h2
        exact ⟨p.trans x, r.trans y⟩
/-! seams of singles -/
theorem bk_m {σ : Sg} {h : Hp} (hw : Wf σ) (hm : RepM σ h) {z k : Nat} (hz : z < 5) (hk : k < 36) : gA_ h 40 (36 * z + k) = gvM (sGr σ (36 * z + k)) ∧ (gvM (sGr σ (36 * z + k)) < 0 ↔ bkK σ z k = false) := by
  refine ⟨hm.2.1 _ (by omega), ?_⟩
  rw [gvM_neg hw]
  unfold bkK
  rw [decide_eq_true hk, Bool.true_and]
  cases sGr σ (36 * z + k) with
  | none => exact ⟨fun _ => rfl, fun _ => rfl⟩
  | some b => exact ⟨fun w => (by cases w), fun w => (by cases w)⟩
theorem M_parted {σ : Sg} {h : Hp} (hw : Wf σ) {col z : Nat} (hz : z < 5) (hC : MC σ col z h) {k j w : Nat} (hk : k < 36) (hj : j < 36) (hc : F_X7_cost (nI (36 * z + k)) (nI (36 * z + j)) h = some (nI w)) : F_X7_parted (nI (36 * z + k)) (nI (36 * z + j)) h = some (nI (if (bkK σ z j || opn σ col z j) = true then w else 0)) := by
  obtain ⟨b1, b2⟩ := bk_m hw hC.1 hz hj
  have neg : ∀ a : Int32, a < 0 ↔ ¬ 0 ≤ a := fun a => by rw [i_ltT, i_leT]; omega
  have hrl := rkG_le (opn σ col z) j
  unfold F_X7_parted
  rw [rA_n _ 40 180 _ (by omega) (by decide), b1, hc, ob_s, (c36 hz hj).1, rA_n _ 57 36 _ hj (by decide), hC.2.2.1 j hj]
  cases hb : bkK σ z j with
  | true =>
    rw [if_pos (show 0 ≤ gvM (sGr σ (36 * z + j)) from Classical.byContradiction (fun u => by have := b2.mp ((neg _).mpr u); rw [hb] at this; cases this)), Bool.true_or, if_pos rfl]
  | false =>
    rw [if_neg ((neg _).mp (b2.mpr hb)), Bool.false_or]
    cases hp : opn σ col z j with
    | true => rw [if_neg (fun u => ((neg _).mp u) ((numM_pos (by omega)).mpr hp)), if_pos rfl]
    | false => rw [if_pos ((neg _).mpr (fun u => by have := (numM_pos (by omega)).mp u; rw [hp] at this; cases this)), if_neg (by decide)]; rfl
def sdT (σ : Sg) (col z k : Nat) : Nat := (if (decide (k % 6 < 5) && (bkK σ z (k + 1) || opn σ col z (k + 1))) = true then wRt σ z k else 0) + (if (decide (k / 6 < 5) && (bkK σ z (k + 6) || opn σ col z (k + 6))) = true then wBh σ z k else 0) + (if (decide (0 < k % 6) && bkK σ z (k - 1)) = true then wRt σ z (k - 1) else 0) + (if (decide (0 < k / 6) && bkK σ z (k - 6)) = true then wBh σ z (k - 6) else 0)
theorem MC.a473 {σ : Sg} {col z : Nat} {h : Hp} (hC : MC σ col z h) (v : Int32) : MC σ col z (sI_ h 473 v) := by
  have s1 : Sm [473] [] [] [] h (sI_ h 473 v) := sm_I (k := 473) (by decide) rfl sm_rf
  exact hC.sm s1 (by decide)
theorem lf473 {h : Hp} {v : Int32} {A B C : Hp → Prop} (x : ∃ h1, A h1 ∧ B h1 ∧ C h1 ∧ Sm [473] [] [] [] (sI_ h 473 v) h1) : ∃ h1, A h1 ∧ B h1 ∧ C h1 ∧ Sm [473] [] [] [] h h1 := by
  obtain ⟨h1, a, b, c, s⟩ := x
  exact ⟨h1, a, b, c, sm_I (k := 473) (by decide) rfl s⟩
theorem M_208s {σ : Sg} {h : Hp} (hw : Wf σ) {col z : Nat} (hz : z < 5) (hM : cvM σ col z ≤ 16) (hC : MC σ col z h) {i a : Nat} (hi : i < cvM σ col z) (ea : gI_ h 473 = nI a) (n : Nat) : ∃ h1, F_X7_covers_208 (n + 1) (nI i) h = F_X7_covers_208 n (nI (i + 1)) h1 ∧ MC σ col z h1 ∧ gI_ h1 473 = nI (a + sdT σ col z (nmG (opn σ col z) i 36)) ∧ Sm [473] [] [] [] h h1 := by
  obtain ⟨k1, k2, k3⟩ := nmG_e (p := opn σ col z) (i := i) (n := 36) hi
  generalize nmG (opn σ col z) i 36 = k at k1 k2 k3 ⊢
  have e54 : ∀ h, MC σ col z h → gA_ h 54 i = nI (36 * z + k) := fun h hC => by
    have := hC.2.2.2 k k2
    rw [k3] at this; exact this
  obtain ⟨q1, q2, q3⟩ := c36 hz k1
  have n1 : nI i + 1 = nI (i + 1) := nI_add i 1
  have gen : ∀ G, F_X7_covers_208 n = G → ∃ h1, F_X7_covers_208 (n + 1) (nI i) h = G (nI (i + 1)) h1 ∧ MC σ col z h1 ∧ gI_ h1 473 = nI (a + sdT σ col z k) ∧ Sm [473] [] [] [] h h1 := fun G hG => by
    have p312 : ∀ h a, MC σ col z h → gI_ h 473 = nI a → ∃ h1, F_X7_covers_312 G (nI i) (nI (36 * z + k)) h = G (nI (i + 1)) h1 ∧ MC σ col z h1 ∧ gI_ h1 473 = nI (a + if (decide (0 < k / 6) && bkK σ z (k - 6)) = true then wBh σ z (k - 6) else 0) ∧ Sm [473] [] [] [] h h1 := fun h a hC ea => by
      unfold F_X7_covers_312 F_X7_covers_352
      rw [q3, n1]
      by_cases w : 0 < k / 6
      · obtain ⟨b1, b2⟩ := bk_m hw hC.1 hz (show k - 6 < 36 by omega)
        have hc := M_costB hw hC.1 hz (show k - 6 < 36 by omega) (show (k - 6) / 6 < 5 by omega)
        rw [show k - 6 + 6 = k by omega] at hc
        rw [if_neg (fun u => by have := (nI_le0 (by omega)).mp u; omega), show nI (36 * z + k) - 6 = nI (36 * z + (k - 6)) from (by rw [i_lit 6, pk_sub (by omega)]; congr 1; omega), rA_n _ 40 180 _ (by omega) (by decide), b1, hc, ob_s, bd_e, decide_eq_true w, Bool.true_and]
        cases hb : bkK σ z (k - 6) with
        | false => rw [if_pos (b2.mpr hb), if_neg (by decide)]; exact ⟨h, rfl, hC, by rw [ea, Nat.add_zero], sm_rf⟩
        | true =>
          rw [if_neg (fun u => by have := b2.mp u; rw [hb] at this; cases this), if_pos rfl]
          exact ⟨_, rfl, hC.a473 _, by rw [gI_sI, if_pos rfl, ea, nI_add], sm_I (k := 473) (by decide) rfl sm_rf⟩
      · rw [if_pos ((nI_le0 (by omega)).mpr (by omega)), decide_eq_false w, Bool.false_and, if_neg (by decide)]
        exact ⟨h, rfl, hC, by rw [ea, Nat.add_zero], sm_rf⟩
    have p277 : ∀ h a, MC σ col z h → gI_ h 473 = nI a → ∃ h1, F_X7_covers_277 G (nI i) (nI (36 * z + k)) h = G (nI (i + 1)) h1 ∧ MC σ col z h1 ∧ gI_ h1 473 = nI (a + (if (decide (0 < k % 6) && bkK σ z (k - 1)) = true then wRt σ z (k - 1) else 0) + if (decide (0 < k / 6) && bkK σ z (k - 6)) = true then wBh σ z (k - 6) else 0) ∧ Sm [473] [] [] [] h h1 := fun h a hC ea => by
      unfold F_X7_covers_277
      rw [q2]
      by_cases w : 0 < k % 6
      · obtain ⟨b1, b2⟩ := bk_m hw hC.1 hz (show k - 1 < 36 by omega)
        have hc := M_costR hw hC.1 hz (show k - 1 < 36 by omega) (show (k - 1) % 6 < 5 by omega)
        rw [show k - 1 + 1 = k by omega] at hc
        rw [if_neg (fun u => by have := (nI_le0 (by omega)).mp u; omega), show nI (36 * z + k) - 1 = nI (36 * z + (k - 1)) from (by rw [show (1 : Int32) = nI 1 from rfl, pk_sub (by omega)]; congr 1; omega), rA_n _ 40 180 _ (by omega) (by decide), b1, hc, ob_s, bd_e, decide_eq_true w, Bool.true_and]
        cases hb : bkK σ z (k - 1) with
        | false => rw [if_pos (b2.mpr hb), if_neg (show ¬ false = true by decide)]; exact p312 h (a + 0) hC ea
        | true =>
          rw [if_neg (fun u => by have := b2.mp u; rw [hb] at this; cases this), if_pos rfl]
          exact lf473 (p312 _ _ (hC.a473 _) (by rw [gI_sI, if_pos rfl, ea, nI_add]))
      · rw [if_pos ((nI_le0 (by omega)).mpr (by omega)), decide_eq_false w, Bool.false_and, if_neg (show ¬ false = true by decide)]
        exact p312 h (a + 0) hC ea
    have p248 : ∀ h a, MC σ col z h → gI_ h 473 = nI a → ∃ h1, F_X7_covers_248 G (nI i) (nI (36 * z + k)) h = G (nI (i + 1)) h1 ∧ MC σ col z h1 ∧ gI_ h1 473 = nI (a + (if (decide (k / 6 < 5) && (bkK σ z (k + 6) || opn σ col z (k + 6))) = true then wBh σ z k else 0) + (if (decide (0 < k % 6) && bkK σ z (k - 1)) = true then wRt σ z (k - 1) else 0) + if (decide (0 < k / 6) && bkK σ z (k - 6)) = true then wBh σ z (k - 6) else 0) ∧ Sm [473] [] [] [] h h1 := fun h a hC ea => by
      unfold F_X7_covers_248
      rw [q3]
      by_cases w : k / 6 < 5
      · rw [if_neg (show ¬ (5 : Int32) ≤ nI (k / 6) from (nI_ge w (by decide) : ¬ nI 5 ≤ nI (k / 6))), show nI (36 * z + k) + 6 = nI (36 * z + (k + 6)) from nI_add _ 6, M_parted hw hz hC k1 (by omega) (M_costB hw hC.1 hz k1 w), ob_s, bd_e, decide_eq_true w, Bool.true_and]
        exact lf473 (p277 _ _ (hC.a473 _) (by rw [gI_sI, if_pos rfl, ea, nI_add]))
      · rw [if_pos (show (5 : Int32) ≤ nI (k / 6) from (nI_le (by omega) (by omega) : nI 5 ≤ nI (k / 6))), decide_eq_false w, Bool.false_and, if_neg (show ¬ false = true by decide)]
        exact p277 h (a + 0) hC ea
    have fin : ∀ x, a + x + (if (decide (k / 6 < 5) && (bkK σ z (k + 6) || opn σ col z (k + 6))) = true then wBh σ z k else 0) + (if (decide (0 < k % 6) && bkK σ z (k - 1)) = true then wRt σ z (k - 1) else 0) + (if (decide (0 < k / 6) && bkK σ z (k - 6)) = true then wBh σ z (k - 6) else 0) = a + (x + (if (decide (k / 6 < 5) && (bkK σ z (k + 6) || opn σ col z (k + 6))) = true then wBh σ z k else 0) + (if (decide (0 < k % 6) && bkK σ z (k - 1)) = true then wRt σ z (k - 1) else 0) + (if (decide (0 < k / 6) && bkK σ z (k - 6)) = true then wBh σ z (k - 6) else 0)) := fun x => by
      rw [Nat.add_assoc a, Nat.add_assoc a, Nat.add_assoc a]
    rw [F_X7_covers_208, hG, hC.2.1, if_neg (show ¬ nI (cvM σ col z) ≤ nI i from nI_ge hi (by omega)), rA_n _ 54 36 _ (by omega) (by decide), e54 h hC, q2]
    unfold sdT
    by_cases w : k % 6 < 5
    · rw [if_neg (show ¬ (5 : Int32) ≤ nI (k % 6) from (nI_ge w (by decide) : ¬ nI 5 ≤ nI (k % 6))), show nI (36 * z + k) + 1 = nI (36 * z + (k + 1)) from nI_add _ 1, M_parted hw hz hC k1 (by omega) (M_costR hw hC.1 hz k1 w), ob_s, bd_e, decide_eq_true w, Bool.true_and, ← fin]
      exact lf473 (p248 _ _ (hC.a473 _) (by rw [gI_sI, if_pos rfl, ea, nI_add]))
    · rw [if_pos (show (5 : Int32) ≤ nI (k % 6) from (nI_le (by omega) (by omega) : nI 5 ≤ nI (k % 6))), decide_eq_false w, Bool.false_and, if_neg (show ¬ false = true by decide), ← fin]
      exact p248 h (a + 0) hC ea
  exact gen _ rfl
/-! the two sums of seams are one -/
theorem excl {σ : Sg} {col z k : Nat} (h : opn σ col z k = true) : bkK σ z k = false := by
  unfold opn at h
  rw [Bool.and_eq_true, Bool.and_eq_true] at h
  unfold bkK
  have := h.2.2
  cases q : sGr σ (36 * z + k) with
  | none => simp
  | some b => rw [q] at this; cases this
theorem sh_sum {f g : Nat → Nat} (e : Nat) (he : e ≤ 36) (h0 : ∀ k, k < e → f k = 0) (h1 : ∀ k, 36 - e ≤ k → k < 36 → g k = 0) (h2 : ∀ k, k < 36 - e → f (e + k) = g k) : sumN f 36 = sumN g 36 := by
  have a : sumN f 36 = sumN (fun i => f (e + i)) (36 - e) := by
    rw [show (36 : Nat) = e + (36 - e) by omega, sumN_add, sumN_0 h0, Nat.zero_add, show e + (36 - e) - e = 36 - e by omega]
  have b : sumN g 36 = sumN g (36 - e) := by
    have : sumN g ((36 - e) + e) = sumN g (36 - e) + sumN (fun i => g (36 - e + i)) e := sumN_add g (36 - e) e
    rw [show 36 - e + e = 36 by omega] at this
    rw [this, sumN_0 (n := e) (fun i hi => h1 (36 - e + i) (by omega) (by omega)), Nat.add_zero]
  rw [a, b]
  exact sumN_c (fun i hi => h2 i hi)
theorem pair_t (a c : Bool) (b d v : Bool) (w : Nat) (hex : a = true → c = false) : (if npA a (v && b) c (v && d) = true then w else 0) = (if a = true then (if (v && (d || b)) = true then w else 0) else 0) + (if (v && (b && c)) = true then w else 0) := by
  unfold npA
  cases a with
  | true =>
    rw [hex rfl]
    cases v <;> cases b <;> cases d <;> simp
  | false => cases c <;> cases v <;> cases b <;> cases d <;> simp
theorem seams_eq (σ : Sg) (col z : Nat) : sumN (fun k => if opn σ col z k = true then sdT σ col z k else 0) 36 = sgS σ col z := by
  have R2 : sumN (fun k => if opn σ col z k = true then (if (decide (0 < k % 6) && bkK σ z (k - 1)) = true then wRt σ z (k - 1) else 0) else 0) 36 = sumN (fun k => if (decide (k % 6 < 5) && (opn σ col z (k + 1) && bkK σ z k)) = true then wRt σ z k else 0) 36 := by
    refine sh_sum 1 (by decide) (fun k hk => ?_) (fun k h1 h2 => ?_) (fun k hk => ?_)
    · have : k = 0 := by omega
      subst this
      split <;> rfl
    · have : k = 35 := by omega
      subst this; rfl
    · rw [show 1 + k = k + 1 by omega, show k + 1 - 1 = k by omega]
      have e : decide (0 < (k + 1) % 6) = decide (k % 6 < 5) := by rw [decide_eq_decide]; omega
      rw [e]
      cases opn σ col z (k + 1) <;> cases decide (k % 6 < 5) <;> cases bkK σ z k <;> rfl
  have B2 : sumN (fun k => if opn σ col z k = true then (if (decide (0 < k / 6) && bkK σ z (k - 6)) = true then wBh σ z (k - 6) else 0) else 0) 36 = sumN (fun k => if (decide (k / 6 < 5) && (opn σ col z (k + 6) && bkK σ z k)) = true then wBh σ z k else 0) 36 := by
    refine sh_sum 6 (by decide) (fun k hk => ?_) (fun k h1 h2 => ?_) (fun k hk => ?_)
    · rw [decide_eq_false (show ¬ 0 < k / 6 by omega), Bool.false_and, if_neg (show ¬ false = true by decide)]
      split <;> rfl
    · rw [decide_eq_false (show ¬ k / 6 < 5 by omega), Bool.false_and, if_neg (show ¬ false = true by decide)]
    · rw [show 6 + k = k + 6 by omega, show k + 6 - 6 = k by omega]
      have e : decide (0 < (k + 6) / 6) = true := decide_eq_true (by omega)
      have e2 : decide (k / 6 < 5) = true := decide_eq_true (by omega)
      rw [e, e2]
      cases opn σ col z (k + 6) <;> cases bkK σ z k <;> rfl
  have e1 : sumN (fun k => if opn σ col z k = true then sdT σ col z k else 0) 36 = sumN (fun k => if opn σ col z k = true then (if (decide (k % 6 < 5) && (bkK σ z (k + 1) || opn σ col z (k + 1))) = true then wRt σ z k else 0) else 0) 36 + sumN (fun k => if opn σ col z k = true then (if (decide (k / 6 < 5) && (bkK σ z (k + 6) || opn σ col z (k + 6))) = true then wBh σ z k else 0) else 0) 36 + sumN (fun k => if opn σ col z k = true then (if (decide (0 < k % 6) && bkK σ z (k - 1)) = true then wRt σ z (k - 1) else 0) else 0) 36 + sumN (fun k => if opn σ col z k = true then (if (decide (0 < k / 6) && bkK σ z (k - 6)) = true then wBh σ z (k - 6) else 0) else 0) 36 := by
    rw [← sumN_g, ← sumN_g, ← sumN_g]
    refine sumN_c (fun k _ => ?_)
    cases opn σ col z k with
    | false => rfl
    | true => rfl
  have e2 : sgS σ col z = sumN (fun k => if opn σ col z k = true then (if (decide (k % 6 < 5) && (bkK σ z (k + 1) || opn σ col z (k + 1))) = true then wRt σ z k else 0) else 0) 36 + sumN (fun k => if (decide (k % 6 < 5) && (opn σ col z (k + 1) && bkK σ z k)) = true then wRt σ z k else 0) 36 + (sumN (fun k => if opn σ col z k = true then (if (decide (k / 6 < 5) && (bkK σ z (k + 6) || opn σ col z (k + 6))) = true then wBh σ z k else 0) else 0) 36 + sumN (fun k => if (decide (k / 6 < 5) && (opn σ col z (k + 6) && bkK σ z k)) = true then wBh σ z k else 0) 36) := by
    unfold sgS
    rw [← sumN_g, ← sumN_g, ← sumN_g]
    refine sumN_c (fun k _ => ?_)
    unfold sgT
    rw [pair_t _ _ _ _ _ _ excl, pair_t _ _ _ _ _ _ excl]
  rw [e1, e2, R2, B2]
  omega
/-- all that covers leaves -/
def MA (σ : Sg) (col z : Nat) (h : Hp) : Prop := MC σ col z h ∧ MF σ col z h ∧ (∀ t, t < 2 ^ cvM σ col z → MDt σ col z h t) ∧ gI_ h 473 = nI (sgS σ col z)
theorem M_covers {σ : Sg} {h : Hp} (hw : Wf σ) {col z : Nat} (hz : z < 5) (hM : cvM σ col z ≤ 16) (hC : MC σ col z h) : ∃ h1, F_X7_covers h = some h1 ∧ MA σ col z h1 ∧ gA_ h1 38 = gA_ h 38 := by
  have h16 := p16 hM
  have hpos : 0 < 2 ^ cvM σ col z := Nat.pow_pos (by decide)
  have key : ∃ h1, F_X7_covers h = some h1 ∧ MA σ col z h1 := by
    unfold F_X7_covers
    obtain ⟨h1, e1, C1, F1⟩ := M_cov2 hw hz hM F_X7_covers_104 (cvM σ col z) FU_ 0 h (by omega) (by unfold FU_; omega) hC (fun w hw => by omega)
    have e1' : F_X7_covers_2 FU_ F_X7_covers_104 0 h = F_X7_covers_104 h1 := e1
    rw [e1', F_X7_covers_104, C1.2.1, sh1 _ (by omega), bd_e]
    obtain ⟨h2, e2, C2, F2, D2⟩ := M_dp115 hM F_X7_covers_201 (2 ^ cvM σ col z) FU_ h1 (Nat.le_refl _) (by unfold FU_; omega) C1 F1 (fun t h1 h2 => by omega)
    have em : nI (2 ^ cvM σ col z) - 1 = nI (2 ^ cvM σ col z - 1) := nI_m1 hpos
    rw [em] at e2 ⊢
    rw [e2, F_X7_covers_201, bd_e]
    have loop : ∀ q n i h, q + i = cvM σ col z → q < n → MC σ col z h → gI_ h 473 = nI (sumN (fun i => sdT σ col z (nmG (opn σ col z) i 36)) i) → ∃ h1, F_X7_covers_208 n (nI i) h = some h1 ∧ gI_ h1 473 = nI (sgS σ col z) ∧ Sm [473] [] [] [] h h1 := by
      intro q
      induction q with
      | zero =>
        intro n i h hq hn hC ea
        obtain ⟨n, rfl⟩ : ∃ j, n = j + 1 := ⟨n - 1, by omega⟩
        have e : i = cvM σ col z := by omega
        subst e
        refine ⟨h, by rw [F_X7_covers_208, hC.2.1, if_pos ((i_le (by omega) (by omega)).mpr (Nat.le_refl _))], ?_, sm_rf⟩
        rw [ea, ← seams_eq, ← sum_rk (p := opn σ col z) 36 (sdT σ col z) 36 (Nat.le_refl _)]; rfl
      | succ q ih =>
        intro n i h hq hn hC ea
        obtain ⟨n, rfl⟩ : ∃ j, n = j + 1 := ⟨n - 1, by omega⟩
        obtain ⟨h1, e, C1, a1, s1⟩ := M_208s hw hz hM hC (show i < cvM σ col z by omega) ea n
        rw [e]
        obtain ⟨h2, e2, r2, s2⟩ := ih n (i + 1) h1 (by omega) (by omega) C1 a1
        exact ⟨h2, e2, r2, sm_C s1 (by decide) s2⟩
    obtain ⟨h3, e3, a3, s3⟩ := loop (cvM σ col z) FU_ 0 (sI_ h2 473 0) (by omega) (by unfold FU_; omega) (C2.a473 _) (by rw [gI_sI, if_pos rfl]; rfl)
    refine ⟨h3, e3, (C2.a473 _).sm s3 (by decide), F2.sm (s3.2.2.1 58 (by decide)) (s3.2.2.1 59 (by decide)), fun t ht => ?_, a3⟩
    unfold MDt
    rw [s3.2.2.1 55 (by decide), s3.2.2.1 56 (by decide)]
    exact D2 t ht
  obtain ⟨h1, e, r⟩ := key
  exact ⟨h1, e, r, (w_X7_covers _ _ e).2.2.1 38 (by decide)⟩
