/-! ===== the reference: corners and borders ===== -/
def CrI (el er : Nat → Int) (r m : Nat) (h : Hp) : Prop := m ≤ 2 * r ∧ (∀ i, i < m → ∃ s, s < r ∧ 0 ≤ er s ∧ gA_ h 52 i = nI s ∧ (gA_ h 51 i = zI (el s) ∨ gA_ h 51 i = zI (er s))) ∧ (∀ s, s < r → 0 ≤ er s → (∃ i, i < m ∧ gA_ h 52 i = nI s ∧ gA_ h 51 i = zI (el s)) ∧ ∃ i, i < m ∧ gA_ h 52 i = nI s ∧ gA_ h 51 i = zI (er s))
def cw (h : Hp) (m r : Nat) (u v : Int32) : Hp := sA_ (sA_ (sA_ (sA_ h 51 m u) 52 m (nI r)) 51 (m + 1) v) 52 (m + 1) (nI r)
theorem cw_51 (h : Hp) (m r : Nat) (u v : Int32) (i : Nat) : gA_ (cw h m r u v) 51 i = if i = m + 1 then v else if i = m then u else gA_ h 51 i := by
  unfold cw
  rw [gA_sA, if_neg (by decide), gA_sA, if_pos rfl]
  by_cases q : i = m + 1
  · subst q; rw [pk_us, if_pos rfl]
  · rw [pk_un q, if_neg q, gA_sA, if_neg (by decide), gA_sA, if_pos rfl]
    by_cases w : i = m
    · subst w; rw [pk_us, if_pos rfl]
    · rw [pk_un w, if_neg w]
theorem cw_52 (h : Hp) (m r : Nat) (u v : Int32) (i : Nat) : gA_ (cw h m r u v) 52 i = if i = m + 1 then nI r else if i = m then nI r else gA_ h 52 i := by
  unfold cw
  rw [gA_sA, if_pos rfl]
  by_cases q : i = m + 1
  · subst q; rw [pk_us, if_pos rfl]
  · rw [pk_un q, if_neg q, gA_sA, if_neg (by decide), gA_sA, if_pos rfl]
    by_cases w : i = m
    · subst w; rw [pk_us, if_pos rfl]
    · rw [pk_un w, if_neg w, gA_sA, if_neg (by decide)]
theorem cw_sm (h : Hp) (m r : Nat) (u v : Int32) : Sm [] [] [51, 52] [] h (cw h m r u v) := sm_A (k := 51) (by decide) rfl (sm_A (k := 52) (by decide) rfl (sm_A (k := 51) (by decide) rfl (sm_A (k := 52) (by decide) rfl sm_rf)))
theorem M_st251 {el er : Nat → Int} (br7 : ∀ r, r < 7 → (er r).natAbs ≤ 7) (k : Int64 → Int64 → Int64 → Int32 → Hp → Option (Int32 × Hp)) (x1 x3 x5 : Int64) : ∀ q n r m h, q + r = 7 → q < n → (∀ r, r < 7 → gA_ h 49 r = zI (el r)) → (∀ r, r < 7 → gA_ h 50 r = zI (er r)) → CrI el er r m h → ∃ m' h1, F_X7_stands_251 n k x1 x3 x5 (nI m) (nI r) h = k x1 x3 x5 (nI m') h1 ∧ Sm [] [] [51, 52] [] h h1 ∧ CrI el er 7 m' h1 := by
  intro q
  induction q with
  | zero =>
    intro n r m h hq hn e49 e50 hI
    obtain ⟨n, rfl⟩ : ∃ k, n = k + 1 := ⟨n - 1, by omega⟩
    have e : r = 7 := by omega
    subst e
    rw [F_X7_stands_251, if_pos (by decide)]
    exact ⟨m, h, rfl, sm_rf, hI⟩
  | succ q ih =>
    intro n r m h hq hn e49 e50 hI
    obtain ⟨n, rfl⟩ : ∃ k, n = k + 1 := ⟨n - 1, by omega⟩
    obtain ⟨i1, i2, i3⟩ := hI
    have hr : r < 7 := by omega
    rw [F_X7_stands_251, if_neg (show ¬ (6 : Int32) < nI r from (nI_nlt (by omega) (by decide) : ¬ nI 6 < nI r)), rA_n _ 50 7 _ hr (by decide), e50 r hr, ic_ (show (0 ≤ zI (er r)) ↔ (0 ≤ er r) from by rw [zI_pos (ab_le (br7 r hr) (by decide))])]
    by_cases c : 0 ≤ er r
    · rw [if_pos c, rA_n _ 49 7 _ hr (by decide), e49 r hr, wA_n _ 51 14 _ _ (show m < 14 by omega) (by decide), wA_n _ 52 14 _ _ (show m < 14 by omega) (by decide), show nI m + 1 = nI (m + 1) from nI_add m 1, rA_n _ 50 7 _ hr (by decide), show gA_ (sA_ (sA_ h 51 m (zI (el r))) 52 m (nI r)) 50 r = zI (er r) from by rw [gA_sA, if_neg (by decide), gA_sA, if_neg (by decide), e50 r hr], wA_n _ 51 14 _ _ (show m + 1 < 14 by omega) (by decide), wA_n _ 52 14 _ _ (show m + 1 < 14 by omega) (by decide), F_X7_stands_324, show nI m + 2 = nI (m + 2) from nI_add m 2, show nI r + 1 = nI (r + 1) from nI_add r 1]
      have s0 := cw_sm h m r (zI (el r)) (zI (er r))
      obtain ⟨m', h1, e, s, J⟩ := ih n (r + 1) (m + 2) (cw h m r (zI (el r)) (zI (er r))) (by omega) (by omega) (fun j hj => by rw [s0.2.2.1 49 (by decide)]; exact e49 j hj) (fun j hj => by rw [s0.2.2.1 50 (by decide)]; exact e50 j hj) ⟨by omega, fun i hi => by
        rw [cw_51, cw_52]
        by_cases q1 : i = m + 1
        · rw [if_pos q1, if_pos q1]; exact ⟨r, by omega, c, rfl, Or.inr rfl⟩
        · rw [if_neg q1, if_neg q1]
          by_cases q2 : i = m
          · rw [if_pos q2, if_pos q2]; exact ⟨r, by omega, c, rfl, Or.inl rfl⟩
          · rw [if_neg q2, if_neg q2]
            obtain ⟨s, s1, s2⟩ := i2 i (by omega)
            exact ⟨s, by omega, s2⟩, fun s hs hc => by
        by_cases q1 : s = r
        · subst q1
          exact ⟨⟨m, by omega, by rw [cw_52, if_neg (by omega), if_pos rfl], by rw [cw_51, if_neg (by omega), if_pos rfl]⟩, ⟨m + 1, by omega, by rw [cw_52, if_pos rfl], by rw [cw_51, if_pos rfl]⟩⟩
        · obtain ⟨⟨i, a1, a2, a3⟩, ⟨j, b1, b2, b3⟩⟩ := i3 s (by omega) hc
          exact ⟨⟨i, by omega, by rw [cw_52, if_neg (by omega), if_neg (by omega)]; exact a2, by rw [cw_51, if_neg (by omega), if_neg (by omega)]; exact a3⟩, ⟨j, by omega, by rw [cw_52, if_neg (by omega), if_neg (by omega)]; exact b2, by rw [cw_51, if_neg (by omega), if_neg (by omega)]; exact b3⟩⟩⟩
      exact ⟨m', h1, e, sm_C s0 (by decide) s, J⟩
    · rw [if_neg c, F_X7_stands_324, show nI r + 1 = nI (r + 1) from nI_add r 1]
      obtain ⟨m', h1, e, s, J⟩ := ih n (r + 1) m h (by omega) (by omega) e49 e50 ⟨by omega, fun i hi => by
        obtain ⟨s, s1, s2⟩ := i2 i hi
        exact ⟨s, by omega, s2⟩, fun s hs hc => i3 s (by
          rcases Nat.lt_or_ge s r with w | w
          · exact w
          · have : s = r := by omega
            subst this; exact absurd hc c) hc⟩
      exact ⟨m', h1, e, s, J⟩
def crX (cx cy : Nat → Int) (a b c : Nat) : Int := (cx b - cx a) * (cy c - cy a) - (cy b - cy a) * (cx c - cx a)
theorem M_bor15 {h : Hp} {cx cy : Nat → Int} {m : Nat} (hm : m ≤ 14) (e51 : ∀ i, i < m → gA_ h 51 i = zI (cx i)) (e52 : ∀ i, i < m → gA_ h 52 i = zI (cy i)) (bx : ∀ i, i < m → (cx i).natAbs ≤ 7) (by7 : ∀ i, i < m → (cy i).natAbs ≤ 7) {a b : Nat} (ha : a < m) (hb : b < m) : ∀ q n c t, q + c = m → q < n → ∃ t', F_X7_isBorder_15 n (nI a) (nI b) (nI m) (bi_ t) (nI c) h = some (bi_ t') ∧ (t' = true ↔ (t = true ∧ ∀ j, c ≤ j → j < m → 0 ≤ crX cx cy a b j)) := by
  intro q
  induction q with
  | zero =>
    intro n c t hq hn
    obtain ⟨n, rfl⟩ : ∃ k, n = k + 1 := ⟨n - 1, by omega⟩
    refine ⟨t, ?_, ⟨fun u => ⟨u, fun j j1 j2 => by omega⟩, fun u => u.1⟩⟩
    rw [F_X7_isBorder_15, if_pos ((i_le (by omega) (by omega)).mpr (by omega)), bz_bi]
  | succ q ih =>
    intro n c t hq hn
    obtain ⟨n, rfl⟩ : ∃ k, n = k + 1 := ⟨n - 1, by omega⟩
    rw [F_X7_isBorder_15, if_neg (show ¬ nI m ≤ nI c from nI_ge (by omega) (by omega))]
    cases t with
    | false => exact ⟨false, by rw [if_pos b0_, bz_bi], ⟨fun u => (by cases u), fun u => u.1⟩⟩
    | true =>
      have hc : c < m := by omega
      rw [if_neg b1_, rA_n _ 51 14 _ (show b < 14 by omega) (by decide), rA_n _ 51 14 _ (show a < 14 by omega) (by decide), rA_n _ 52 14 _ (show c < 14 by omega) (by decide), rA_n _ 52 14 _ (show a < 14 by omega) (by decide), rA_n _ 52 14 _ (show b < 14 by omega) (by decide), rA_n _ 52 14 _ (show a < 14 by omega) (by decide), rA_n _ 51 14 _ (show c < 14 by omega) (by decide), rA_n _ 51 14 _ (show a < 14 by omega) (by decide), e51 a ha, e51 b hb, e51 c hc, e52 a ha, e52 b hb, e52 c hc, zI_sub, zI_sub, zI_mul, zI_sub, zI_sub, zI_mul, zI_sub]
      have hbd : (crX cx cy a b c).natAbs ≤ 1000000000 := ab_le (ab_sub (ab_mul (ab_sub (bx b hb) (bx a ha)) (ab_sub (by7 c hc) (by7 a ha))) (ab_mul (ab_sub (by7 b hb) (by7 a ha)) (ab_sub (bx c hc) (bx a ha)))) (by decide)
      rw [ic_ (show (zI ((cx b - cx a) * (cy c - cy a) - (cy b - cy a) * (cx c - cx a)) < 0) ↔ (crX cx cy a b c < 0) from zI_neg hbd), F_X7_isBorder_91, F_X7_isBorder_91, show nI c + 1 = nI (c + 1) from nI_add c 1]
      by_cases w : crX cx cy a b c < 0
      · obtain ⟨t', e, v⟩ := ih n (c + 1) false (by omega) (by omega)
        rw [if_pos w]
        refine ⟨t', e, v.trans ⟨fun u => (by cases u.1), fun u => ?_⟩⟩
        have := u.2 c (Nat.le_refl _) hc
        omega
      · obtain ⟨t', e, v⟩ := ih n (c + 1) true (by omega) (by omega)
        rw [if_neg w]
        refine ⟨t', e, v.trans ⟨fun u => ⟨rfl, fun j j1 j2 => ?_⟩, fun u => ⟨rfl, fun j j1 j2 => u.2 j (by omega) j2⟩⟩⟩
        by_cases q1 : j = c
        · subst q1; omega
        · exact u.2 j (by omega) j2
def Bor (cx cy : Nat → Int) (m a b : Nat) : Prop := a ≠ b ∧ ∀ j, j < m → 0 ≤ crX cx cy a b j
theorem M_isBorder {h : Hp} {cx cy : Nat → Int} {m : Nat} (hm : m ≤ 14) (e51 : ∀ i, i < m → gA_ h 51 i = zI (cx i)) (e52 : ∀ i, i < m → gA_ h 52 i = zI (cy i)) (bx : ∀ i, i < m → (cx i).natAbs ≤ 7) (by7 : ∀ i, i < m → (cy i).natAbs ≤ 7) {a b : Nat} (ha : a < m) (hb : b < m) : ∃ t, F_X7_isBorder (nI a) (nI b) (nI m) h = some (bi_ t) ∧ (t = true ↔ Bor cx cy m a b) := by
  unfold F_X7_isBorder F_X7_isBorder_10
  by_cases q : a = b
  · subst q
    obtain ⟨t, e, v⟩ := M_bor15 hm e51 e52 bx by7 ha hb m FU_ 0 false (by omega) (by unfold FU_; omega)
    exact ⟨t, by rw [if_pos rfl]; exact e, v.trans ⟨fun u => (by cases u.1), fun u => absurd rfl u.1⟩⟩
  · obtain ⟨t, e, v⟩ := M_bor15 hm e51 e52 bx by7 ha hb m FU_ 0 true (by omega) (by unfold FU_; omega)
    refine ⟨t, by rw [if_neg (fun u => q ((i_eq (by omega) (by omega)).mp u))]; exact e, v.trans ⟨fun u => ⟨q, fun j hj => u.2 j (Nat.zero_le _) hj⟩, fun u => ⟨rfl, fun j _ hj => u.2 j hj⟩⟩⟩
def gX (cx cy : Nat → Int) (X Y p : Int) (a b : Nat) : Int := (cx b - cx a) * (Y - p * cy a) - (cy b - cy a) * (X - p * cx a)
def badB (cx cy : Nat → Int) (X Y p : Int) (m a b : Nat) : Prop := Bor cx cy m a b ∧ gX cx cy X Y p a b < 0
theorem M_st1b {h : Hp} {cx cy : Nat → Int} {m : Nat} (hm : m ≤ 14) (e51 : ∀ i, i < m → gA_ h 51 i = zI (cx i)) (e52 : ∀ i, i < m → gA_ h 52 i = zI (cy i)) (bx : ∀ i, i < m → (cx i).natAbs ≤ 7) (by7 : ∀ i, i < m → (cy i).natAbs ≤ 7) {a b : Nat} (ha : a < m) (hb : b < m) {X Y p : Nat} (hX : X ≤ 10000) (hY : Y ≤ 10000) (hp : p ≤ 3000) (k : Int64 → Int64 → Int32 → Int64 → Int32 → Hp → Option (Int32 × Hp)) (n : Nat) : (¬ badB cx cy X Y p m a b → F_X7_stands_355 (n + 1) k (lI X) (lI Y) (nI m) (lI p) (nI a) (nI b) h = F_X7_stands_355 n k (lI X) (lI Y) (nI m) (lI p) (nI a) (nI (b + 1)) h) ∧ (badB cx cy X Y p m a b → F_X7_stands_355 (n + 1) k (lI X) (lI Y) (nI m) (lI p) (nI a) (nI b) h = some (0, h)) := by
  obtain ⟨t, et, vt⟩ := M_isBorder hm e51 e52 bx by7 ha hb
  have n1 : nI b + 1 = nI (b + 1) := nI_add b 1
  have hbd : (gX cx cy X Y p a b).natAbs ≤ 1000000000 := ab_le (ab_sub (ab_mul (ab_sub (bx b hb) (bx a ha)) (ab_sub (ab_n hY) (ab_mul (ab_n hp) (by7 a ha)))) (ab_mul (ab_sub (by7 b hb) (by7 a ha)) (ab_sub (ab_n hX) (ab_mul (ab_n hp) (bx a ha))))) (by decide)
  have s7 : ∀ z : Int, z.natAbs ≤ 14 → z.natAbs ≤ 1000000000 := fun z hz => by omega
  have key : ∀ G, F_X7_stands_355 n k = G → F_X7_stands_355 (n + 1) k (lI X) (lI Y) (nI m) (lI p) (nI a) (nI b) h = if bi_ t = 0 then G (lI X) (lI Y) (nI m) (lI p) (nI a) (nI (b + 1)) h else if 0 ≤ gX cx cy X Y p a b then G (lI X) (lI Y) (nI m) (lI p) (nI a) (nI (b + 1)) h else some (0, h) := fun G hG => by
    rw [F_X7_stands_355, hG, if_neg (show ¬ nI m ≤ nI b from nI_ge (by omega) (by omega)), et, ob_s, F_X7_stands_444, n1]
    rw [rA_n _ 51 14 _ (show b < 14 by omega) (by decide), rA_n _ 51 14 _ (show a < 14 by omega) (by decide), rA_n _ 52 14 _ (show a < 14 by omega) (by decide), rA_n _ 52 14 _ (show b < 14 by omega) (by decide), rA_n _ 52 14 _ (show a < 14 by omega) (by decide), rA_n _ 51 14 _ (show a < 14 by omega) (by decide), e51 a ha, e51 b hb, e52 a ha, e52 b hb, zI_sub, zI_sub, zI_L (s7 _ (ab_sub (bx b hb) (bx a ha))), zI_L (s7 _ (ab_sub (by7 b hb) (by7 a ha))), zI_L (s7 _ (ab_le (by7 a ha) (by decide))), zI_L (s7 _ (ab_le (bx a ha) (by decide))), zL_n X, zL_n Y, zL_n p, zL_mul, zL_mul, zL_sub, zL_sub, zL_mul, zL_mul, zL_sub]
    rw [ic_ (show (0 ≤ zL ((cx b - cx a) * (↑Y - ↑p * cy a) - (cy b - cy a) * (↑X - ↑p * cx a))) ↔ (0 ≤ gX cx cy X Y p a b) from zL_pos hbd)]
  constructor
  · intro hn
    rw [key _ rfl]
    cases t with
    | false => rw [if_pos b0_]
    | true =>
      rw [if_neg b1_, if_pos (show 0 ≤ gX cx cy X Y p a b from by
        rcases Int.lt_or_le (gX cx cy X Y p a b) 0 with w | w
        · exact absurd ⟨vt.mp rfl, w⟩ hn
        · exact w)]
  · intro hb'
    rw [key _ rfl, vt.mpr hb'.1, if_neg b1_, if_neg (by have := hb'.2; omega)]
/-- the walk over all pairs -/
theorem M_st345 {h : Hp} {cx cy : Nat → Int} {m : Nat} (hm : m ≤ 14) (e51 : ∀ i, i < m → gA_ h 51 i = zI (cx i)) (e52 : ∀ i, i < m → gA_ h 52 i = zI (cy i)) (bx : ∀ i, i < m → (cx i).natAbs ≤ 7) (by7 : ∀ i, i < m → (cy i).natAbs ≤ 7) {X Y p : Nat} (hX : X ≤ 10000) (hY : Y ≤ 10000) (hp : p ≤ 3000) : ∃ v : Bool, F_X7_stands_345 FU_ F_X7_stands_456 (lI X) (lI Y) (nI m) (lI p) 0 h = some (bi_ v, h) ∧ (v = true ↔ (0 < m ∧ ∀ a, a < m → ∀ b, b < m → ¬ badB cx cy X Y p m a b)) := by
  have inner : ∀ (k : Int64 → Int64 → Int32 → Int64 → Int32 → Hp → Option (Int32 × Hp)) a, a < m → ((∀ b, b < m → ¬ badB cx cy X Y p m a b) → F_X7_stands_355 FU_ k (lI X) (lI Y) (nI m) (lI p) (nI a) 0 h = k (lI X) (lI Y) (nI m) (lI p) (nI a) h) ∧ ((∃ b, b < m ∧ badB cx cy X Y p m a b) → F_X7_stands_355 FU_ k (lI X) (lI Y) (nI m) (lI p) (nI a) 0 h = some (0, h)) := fun k a ha => by
    constructor
    · intro hn
      refine lp_FU (fun n i => F_X7_stands_355 n k (lI X) (lI Y) (nI m) (lI p) (nI a) (nI i) h) _ m (by omega) (fun n i hi => ?_) (fun n => ?_)
      · exact (M_st1b hm e51 e52 bx by7 ha hi hX hY hp k n).1 (hn i hi)
      · show F_X7_stands_355 (n + 1) _ _ _ _ _ _ _ _ = _
        rw [F_X7_stands_355, if_pos ((i_le (by omega) (by omega)).mpr (Nat.le_refl _))]
    · rintro ⟨b, hb, hbad⟩
      exact lp_bad (fun n i => F_X7_stands_355 n k (lI X) (lI Y) (nI m) (lI p) (nI a) (nI i) h) (some (0, h)) m (fun b => badB cx cy X Y p m a b) (fun n i hi q => (M_st1b hm e51 e52 bx by7 ha hi hX hY hp k n).1 q) (fun n i hi q => (M_st1b hm e51 e52 bx by7 ha hi hX hY hp k n).2 q) FU_ 0 b (Nat.zero_le _) hb hbad (by unfold FU_; omega)
  have stp : ∀ n i, i < m → ¬ (∃ b, b < m ∧ badB cx cy X Y p m i b) → F_X7_stands_345 (n + 1) F_X7_stands_456 (lI X) (lI Y) (nI m) (lI p) (nI i) h = F_X7_stands_345 n F_X7_stands_456 (lI X) (lI Y) (nI m) (lI p) (nI (i + 1)) h := fun n i hi q => by
    have e : F_X7_stands_345 (n + 1) F_X7_stands_456 (lI X) (lI Y) (nI m) (lI p) (nI i) h = F_X7_stands_355 FU_ (F_X7_stands_450 (F_X7_stands_345 n F_X7_stands_456)) (lI X) (lI Y) (nI m) (lI p) (nI i) 0 h := by
      rw [F_X7_stands_345, if_neg (show ¬ nI m ≤ nI i from nI_ge hi (by omega))]
    rw [e, (inner _ i hi).1 (fun b hb w => q ⟨b, hb, w⟩), F_X7_stands_450, show nI i + 1 = nI (i + 1) from nI_add i 1]
  rcases Classical.em (∃ a, a < m ∧ ∃ b, b < m ∧ badB cx cy X Y p m a b) with q | q
  · obtain ⟨a, ha, hab⟩ := q
    refine ⟨false, ?_, ⟨fun u => (by cases u), fun u => ?_⟩⟩
    · exact lp_bad (fun n i => F_X7_stands_345 n F_X7_stands_456 (lI X) (lI Y) (nI m) (lI p) (nI i) h) (some (0, h)) m (fun a => ∃ b, b < m ∧ badB cx cy X Y p m a b) (fun n i hi q => stp n i hi q) (fun n i hi q => by
        show F_X7_stands_345 (n + 1) _ _ _ _ _ _ _ = _
        rw [F_X7_stands_345, if_neg (show ¬ nI m ≤ nI i from nI_ge hi (by omega)), (inner _ i hi).2 q]) FU_ 0 a (Nat.zero_le _) ha hab (by unfold FU_; omega)
    · obtain ⟨b, hb, hbad⟩ := hab
      exact absurd hbad (u.2 a ha b hb)
  · refine ⟨decide (0 < m), ?_, ?_⟩
    · refine lp_FU (fun n i => F_X7_stands_345 n F_X7_stands_456 (lI X) (lI Y) (nI m) (lI p) (nI i) h) _ m (by omega) (fun n i hi => ?_) (fun n => ?_)
      · exact stp n i hi (fun w => q ⟨i, hi, w⟩)
      · show F_X7_stands_345 (n + 1) _ _ _ _ _ _ _ = _
        rw [F_X7_stands_345, if_pos ((i_le (by omega) (by omega)).mpr (Nat.le_refl _)), F_X7_stands_456]
        by_cases w : 0 < m
        · rw [if_neg (fun u => by have := (nI_le0 (by omega)).mp u; omega), decide_eq_true w]; rfl
        · rw [if_pos ((nI_le0 (by omega)).mpr (by omega)), decide_eq_false w]; rfl
    · rw [decide_eq_true_iff]
      exact ⟨fun u => ⟨u, fun a ha b hb w => q ⟨a, ha, b, hb, w⟩⟩, fun u => u.1⟩
