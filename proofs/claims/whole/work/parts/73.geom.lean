/-! ===== hulls: pure numbers ===== -/
theorem sl_tr {a b c d e f : Int} (hd : 0 < d) (hb : 0 ≤ b) (hf : 0 ≤ f) (h1 : c * b ≤ a * d) (h2 : e * d ≤ c * f) : e * b ≤ a * f := by
  have g1 : c * b * f ≤ a * d * f := Int.mul_le_mul_of_nonneg_right h1 hf
  have g2 : e * d * b ≤ c * f * b := Int.mul_le_mul_of_nonneg_right h2 hb
  have g3 : d * (e * b) ≤ d * (a * f) := by grind
  exact Int.le_of_mul_le_mul_left g3 hd
/-- r lies right of the line from c to s -/
def slp (L : Nat → Int) (c s r : Nat) : Prop := (L s - L c) * ((r : Int) - c) ≤ (L r - L c) * ((s : Int) - c)
theorem slp_tr {L : Nat → Int} {c s t r : Nat} (ht : c < t) (hs : c < s) (hr : c < r) (h1 : slp L c s t) (h2 : slp L c t r) : slp L c s r :=
  sl_tr (d := (t : Int) - c) (by omega) (by omega) (by omega) h2 h1
theorem slp_min (L : Nat → Int) (on : Nat → Prop) (c : Nat) : ∀ N, (∃ r, c < r ∧ r < N ∧ on r) → ∃ s, c < s ∧ s < N ∧ on s ∧ ∀ r, c < r → r < N → on r → slp L c s r
  | 0, ⟨r, _, h, _⟩ => absurd h (by omega)
  | N + 1, h => by
    rcases Classical.em (∃ r, c < r ∧ r < N ∧ on r) with q | q
    · obtain ⟨s, s1, s2, s3, s4⟩ := slp_min L on c N q
      rcases Classical.em (c < N ∧ on N) with w | w
      · rcases (Int.le_total _ _ : slp L c s N ∨ slp L c N s) with t | t
        · exact ⟨s, s1, by omega, s3, fun r r1 r2 r3 => by
            rcases Nat.lt_or_ge r N with u | u
            · exact s4 r r1 u r3
            · have : r = N := by omega
              subst this; exact t⟩
        · exact ⟨N, w.1, by omega, w.2, fun r r1 r2 r3 => by
            rcases Nat.lt_or_ge r N with u | u
            · exact slp_tr s1 w.1 r1 t (s4 r r1 u r3)
            · have : r = N := by omega
              subst this; exact Int.le_refl _⟩
      · exact ⟨s, s1, by omega, s3, fun r r1 r2 r3 => by
          rcases Nat.lt_or_ge r N with u | u
          · exact s4 r r1 u r3
          · have : r = N := by omega
            subst this; exact absurd ⟨r1, r3⟩ w⟩
    · obtain ⟨r, h1, h2, h3⟩ := h
      have hr : r = N := by
        rcases Nat.lt_or_ge r N with u | u
        · exact absurd ⟨r, h1, u, h3⟩ q
        · omega
      subst hr
      exact ⟨r, h1, by omega, h3, fun s s1 s2 s3 => by
        rcases Nat.lt_or_ge s r with u | u
        · exact absurd ⟨s, s1, u, s3⟩ q
        · have : s = r := by omega
          subst this; exact Int.le_refl _⟩
theorem slp_core {D u v a b m : Int} (hm : 0 < m) (ha : 0 ≤ a) (hb : 0 ≤ b) (A : -(D * a) ≤ u * m) (B : D * b ≤ v * m) : -(v * a) ≤ u * b := by
  have g1 := Int.mul_le_mul_of_nonneg_right A hb
  have g2 := Int.mul_le_mul_of_nonneg_right B ha
  have g3 : m * (-(v * a)) ≤ m * (u * b) := by grind
  exact Int.le_of_mul_le_mul_left g3 hm
theorem slp_step {L : Nat → Int} {c n r s : Nat} (h1 : c < n) (h2 : r < n) (h3 : n < s) (A : slp L c n r) (B : slp L c n s) : slp L n s r := by
  unfold slp at *
  have q := slp_core (D := L n - L c) (u := L r - L n) (v := L s - L n) (a := (n : Int) - r) (b := (s : Int) - n) (m := (n : Int) - c) (by omega) (by omega) (by omega) (by grind) (by grind)
  grind
theorem slp_chain {L : Nat → Int} {on : Nat → Prop} {p Y : Int} {hi : Nat} (hhi : on hi) (hY : Y ≤ (hi : Int) * p) (htop : ∀ r, on r → r ≤ hi) : ∀ k c, hi - c ≤ k → on c → c < hi → (∀ r s, on r → on s → r < c → c < s → slp L c s r) → (c : Int) * p ≤ Y → ∃ lo n, lo < n ∧ on lo ∧ on n ∧ (lo : Int) * p ≤ Y ∧ Y ≤ (n : Int) * p ∧ ∀ r, on r → slp L lo n r := by
  intro k
  induction k with
  | zero => intro c h1 h2 h3; omega
  | succ k ih =>
    intro c h1 h2 h3 hI hc
    obtain ⟨n, n1, n2, n3, n4⟩ := slp_min L on c (hi + 1) ⟨hi, h3, by omega, hhi⟩
    have hall : ∀ r, on r → slp L c n r := fun r hr => by
      rcases Nat.lt_trichotomy r c with q | q | q
      · exact hI r n hr n3 q n1
      · subst q; unfold slp; rw [Int.sub_self, Int.sub_self, Int.mul_zero, Int.zero_mul]; exact Int.le_refl _
      · exact n4 r q (by have := htop r hr; omega) hr
    rcases Int.lt_or_le ((n : Int) * p) Y with q | q
    · have hn : n < hi := by
        rcases Nat.lt_or_ge n hi with w | w
        · exact w
        · have : n = hi := by omega
          subst this; omega
      exact ih n (by omega) n3 hn (fun r s hr hs r1 s1 => slp_step n1 r1 s1 (hall r hr) (hall s hs)) (by omega)
    · exact ⟨c, n, n1, h2, n3, hc, q, hall⟩
theorem on_max (on : Nat → Prop) : ∀ N, (∃ r, r < N ∧ on r) → ∃ m, m < N ∧ on m ∧ ∀ r, r < N → on r → r ≤ m
  | 0, ⟨r, h, _⟩ => absurd h (by omega)
  | N + 1, h => by
    rcases Classical.em (on N) with q | q
    · exact ⟨N, by omega, q, fun r hr _ => by omega⟩
    · obtain ⟨r, h1, h2⟩ := h
      have hr : r < N := by
        rcases Nat.lt_or_ge r N with u | u
        · exact u
        · have : r = N := by omega
          subst this; exact absurd h2 q
      obtain ⟨m, m1, m2, m3⟩ := on_max on N ⟨r, hr, h2⟩
      exact ⟨m, by omega, m2, fun s s1 s2 => by
        rcases Nat.lt_or_ge s N with u | u
        · exact m3 s u s2
        · have : s = N := by omega
          subst this; exact absurd s2 q⟩
def Cor (L R : Nat → Int) (on : Nat → Prop) (x : Int) (y : Nat) : Prop := on y ∧ (x = L y ∨ x = R y)
def Ref (L R : Nat → Int) (on : Nat → Prop) (X Y p : Int) : Prop := ∀ (ax : Int) (ay : Nat) (bx : Int) (cy : Nat), Cor L R on ax ay → Cor L R on bx cy → (∀ (x : Int) (y : Nat), Cor L R on x y → 0 ≤ (bx - ax) * ((y : Int) - ay) - ((cy : Int) - ay) * (x - ax)) → 0 ≤ (bx - ax) * (Y - p * ay) - ((cy : Int) - ay) * (X - p * ax)
def rse (lo hi : Nat) : Int := max 1 ((hi : Int) - lo)
def lnA (L : Nat → Int) (Y p : Int) (lo hi : Nat) : Int := L lo * (rse lo hi * p) + (L hi - L lo) * (Y - lo * p)
def Spn (on : Nat → Prop) (Y p : Int) (lo hi : Nat) : Prop := lo ≤ hi ∧ hi < 7 ∧ on lo ∧ on hi ∧ (lo : Int) * p ≤ Y ∧ Y ≤ (hi : Int) * p
def ClsL (L : Nat → Int) (on : Nat → Prop) (X Y p : Int) : Prop := ∃ lo hi, Spn on Y p lo hi ∧ lnA L Y p lo hi ≤ X * rse lo hi
def ClsR (R : Nat → Int) (on : Nat → Prop) (X Y p : Int) : Prop := ∃ lo hi, Spn on Y p lo hi ∧ X * rse lo hi ≤ lnA R Y p lo hi
theorem rse_lt {lo hi : Nat} (h : lo < hi) : rse lo hi = (hi : Int) - lo := by unfold rse; omega
theorem rse_eq (lo : Nat) : rse lo lo = 1 := by unfold rse; omega
/-- class to reference: one side -/
theorem cl_re {L : Nat → Int} {on : Nat → Prop} {X Y p dx dy ax ay : Int} (hp : 0 < p) (hdy : dy ≤ 0) (hB : ∀ y : Nat, on y → 0 ≤ dx * ((y : Int) - ay) - dy * (L y - ax)) (h : ClsL L on X Y p) : 0 ≤ dx * (Y - p * ay) - dy * (X - p * ax) := by
  obtain ⟨lo, hi, ⟨s1, s2, s3, s4, s5, s6⟩, q⟩ := h
  have b1 := hB lo s3
  have b2 := hB hi s4
  unfold lnA at q
  rcases Nat.lt_or_ge lo hi with w | w
  · rw [rse_lt w] at q
    have hr : 0 < (hi : Int) - lo := by omega
    have t1 : 0 ≤ (hi : Int) * p - Y := by omega
    have t2 : 0 ≤ Y - (lo : Int) * p := by omega
    have m1 := Int.mul_nonneg t1 b1
    have m2 := Int.mul_nonneg t2 b2
    have m3 := Int.mul_nonneg (show 0 ≤ -dy by omega) (show 0 ≤ X * ((hi : Int) - lo) - (L lo * (((hi : Int) - lo) * p) + (L hi - L lo) * (Y - lo * p)) by omega)
    have g : ((hi : Int) - lo) * 0 ≤ ((hi : Int) - lo) * (dx * (Y - p * ay) - dy * (X - p * ax)) := by grind
    exact Int.le_of_mul_le_mul_left g hr
  · have e : hi = lo := by omega
    subst e
    rw [rse_eq] at q
    have e : Y = (hi : Int) * p := by omega
    have m1 := Int.mul_nonneg (Int.le_of_lt hp) b1
    have m3 := Int.mul_nonneg (show 0 ≤ -dy by omega) (show 0 ≤ X * 1 - (L hi * (1 * p) + (L hi - L hi) * (Y - hi * p)) by omega)
    subst e
    grind
theorem lnA_neg (R : Nat → Int) (Y p : Int) (lo hi : Nat) : lnA (fun r => -R r) Y p lo hi = -lnA R Y p lo hi := by
  unfold lnA; grind
theorem ClsR_neg {R : Nat → Int} {on : Nat → Prop} {X Y p : Int} (h : ClsR R on X Y p) : ClsL (fun r => -R r) on (-X) Y p := by
  obtain ⟨lo, hi, s, q⟩ := h
  exact ⟨lo, hi, s, by rw [lnA_neg, Int.neg_mul]; exact Int.neg_le_neg q⟩
theorem pos_of {a b : Int} (ha : 0 < a) (h : 0 ≤ a * b) : 0 ≤ b := Int.le_of_mul_le_mul_left (show a * 0 ≤ a * b by rw [Int.mul_zero]; exact h) ha
theorem geo {L R : Nat → Int} {on : Nat → Prop} {X Y p : Int} (hp : 0 < p) (h7 : ∀ r, on r → r < 7) (hLR : ∀ r, on r → L r < R r) (two : ∃ r s, on r ∧ on s ∧ r < s) : Ref L R on X Y p ↔ (ClsL L on X Y p ∧ ClsR R on X Y p) := by
  constructor
  · intro h
    obtain ⟨r, s, hr, hs, hrs⟩ := two
    obtain ⟨lo, l1, l2⟩ := pk_least on ⟨r, hr⟩
    obtain ⟨hi, h1, h2, h3⟩ := on_max on 7 ⟨r, h7 r hr, hr⟩
    have hlo : ∀ y, on y → lo ≤ y := fun y hy => by
      rcases Nat.lt_or_ge y lo with w | w
      · exact absurd hy (l2 y w)
      · exact w
    have hhi : ∀ y, on y → y ≤ hi := fun y hy => h3 y (h7 y hy) hy
    have hlh : lo < hi := by have := hlo r hr; have := hhi s hs; omega
    have b0 : (lo : Int) * p ≤ Y := by
      have q := h (L lo) lo (R lo) lo ⟨l1, Or.inl rfl⟩ ⟨l1, Or.inr rfl⟩ (fun x y hc => by
        have m := Int.mul_nonneg (show 0 ≤ R lo - L lo by have := hLR lo l1; omega) (show 0 ≤ (y : Int) - lo by have := hlo y hc.1; omega)
        rw [Int.sub_self, Int.zero_mul]; omega)
      rw [Int.sub_self, Int.zero_mul, Int.sub_zero] at q
      have w := pos_of (by have := hLR lo l1; omega) q
      rw [Int.mul_comm]; omega
    have b1 : Y ≤ (hi : Int) * p := by
      have q := h (R hi) hi (L hi) hi ⟨h2, Or.inr rfl⟩ ⟨h2, Or.inl rfl⟩ (fun x y hc => by
        have m := Int.mul_nonneg (show 0 ≤ R hi - L hi by have := hLR hi h2; omega) (show 0 ≤ (hi : Int) - y by have := hhi y hc.1; omega)
        rw [Int.sub_self, Int.zero_mul]; grind)
      rw [Int.sub_self, Int.zero_mul, Int.sub_zero] at q
      have w := pos_of (a := R hi - L hi) (b := p * hi - Y) (by have := hLR hi h2; omega) (by grind)
      rw [Int.mul_comm]; omega
    refine ⟨?_, ?_⟩
    · obtain ⟨a, n, n1, n2, n3, n4, n5, n6⟩ := slp_chain (L := L) h2 b1 hhi (hi - lo) lo (Nat.le_refl _) l1 hlh (fun r s hr _ hl _ => by have := hlo r hr; omega) b0
      refine ⟨a, n, ⟨by omega, h7 n n3, n2, n3, n4, n5⟩, ?_⟩
      have q := h (L n) n (L a) a ⟨n3, Or.inl rfl⟩ ⟨n2, Or.inl rfl⟩ (fun x y hc => by
        have w := n6 y hc.1
        unfold slp at w
        have hx : L y ≤ x := by
          rcases hc.2 with e | e
          · omega
          · have := hLR y hc.1; omega
        have m := Int.mul_nonneg (show 0 ≤ (n : Int) - a by omega) (show 0 ≤ x - L y by omega)
        grind)
      unfold lnA
      rw [rse_lt n1]
      grind
    · obtain ⟨a, n, n1, n2, n3, n4, n5, n6⟩ := slp_chain (L := fun r => -R r) h2 b1 hhi (hi - lo) lo (Nat.le_refl _) l1 hlh (fun r s hr _ hl _ => by have := hlo r hr; omega) b0
      refine ⟨a, n, ⟨by omega, h7 n n3, n2, n3, n4, n5⟩, ?_⟩
      have q := h (R a) a (R n) n ⟨n2, Or.inr rfl⟩ ⟨n3, Or.inr rfl⟩ (fun x y hc => by
        have w := n6 y hc.1
        unfold slp at w
        have hx : x ≤ R y := by
          rcases hc.2 with e | e
          · have := hLR y hc.1; omega
          · omega
        have m := Int.mul_nonneg (show 0 ≤ (n : Int) - a by omega) (show 0 ≤ R y - x by omega)
        grind)
      unfold lnA
      rw [rse_lt n1]
      grind
  · intro ⟨hL, hR⟩ ax ay bx cy ha hb hB
    rcases Int.le_total ((cy : Int) - ay) 0 with w | w
    · exact cl_re hp w (fun y hy => hB (L y) y ⟨hy, Or.inl rfl⟩) hL
    · have q := cl_re (L := fun r => -R r) (X := -X) (dx := bx - ax) (dy := -((cy : Int) - ay)) (ax := -ax) (ay := ay) hp (by omega) (fun y hy => by
        have := hB (R y) y ⟨hy, Or.inr rfl⟩
        grind) (ClsR_neg hR)
      grind
