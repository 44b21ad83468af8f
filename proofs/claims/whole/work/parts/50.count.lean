/-! ===== Long.bitCount ===== -/
theorem and_spl {a b c d : Nat} (ha : a < 256) (hc : c < 256) : (256 * b + a) &&& (256 * d + c) = 256 * (b &&& d) + (a &&& c) := by
  have hac : a &&& c < 256 := Nat.lt_of_le_of_lt Nat.and_le_left ha
  refine Nat.eq_of_testBit_eq (fun i => ?_)
  rw [Nat.testBit_and, show 256 = 2 ^ 8 from rfl, Nat.testBit_two_pow_mul_add _ (by simpa using ha), Nat.testBit_two_pow_mul_add _ (by simpa using hc), Nat.testBit_two_pow_mul_add _ (by simpa using hac)]
  split <;> rw [Nat.testBit_and]
def mk8 (c : Nat) : Nat → Nat
  | 0 => 0
  | k + 1 => 256 * mk8 c k + c
def stA (m x : Nat) : Nat := x - (x / 2 &&& m)
def stB (m x : Nat) : Nat := (x &&& m) + (x / 4 &&& m)
def stC (m x : Nat) : Nat := (x + x / 16) &&& m
theorem a8 : ∀ lo, lo < 256 → ∀ q, q < 2 → (128 * q + lo / 2) &&& 85 = lo / 2 &&& 85 := by decide +kernel
theorem b8 : ∀ lo, lo < 256 → ∀ q, q < 4 → (64 * q + lo / 4) &&& 51 = lo / 4 &&& 51 := by decide +kernel
theorem ab8 : ∀ lo, lo < 256 → (lo / 2 &&& 85) ≤ lo ∧ stB 51 (stA 85 lo) < 256 ∧ stB 51 (stA 85 lo) % 16 ≤ 4 ∧ stB 51 (stA 85 lo) / 16 ≤ 4 ∧ stA 85 lo < 256 := by decide +kernel
theorem stA_s {lo hi m : Nat} (h : lo < 256) : stA (256 * m + 85) (256 * hi + lo) = 256 * stA m hi + stA 85 lo := by
  unfold stA
  have e : (256 * hi + lo) / 2 = 256 * (hi / 2) + (128 * (hi % 2) + lo / 2) := by omega
  rw [e, and_spl (by omega) (by decide), a8 lo h (hi % 2) (by omega)]
  have h1 := (ab8 lo h).1
  have h2 : (hi / 2 &&& m) ≤ hi := Nat.le_trans Nat.and_le_left (by omega)
  omega
theorem stB_s {lo hi m : Nat} (h : lo < 256) : stB (256 * m + 51) (256 * hi + lo) = 256 * stB m hi + stB 51 lo := by
  unfold stB
  have e : (256 * hi + lo) / 4 = 256 * (hi / 4) + (64 * (hi % 4) + lo / 4) := by omega
  rw [e, and_spl h (by decide), and_spl (by omega) (by decide), b8 lo h (hi % 4) (by omega)]
  omega
theorem c8 : ∀ a, a ≤ 4 → ∀ b, b ≤ 4 → ∀ d, d ≤ 4 → (a + 16 * b + b + 16 * d) &&& 15 = a + b := by decide +kernel
theorem stC_s {lo hi m : Nat} (h1 : lo % 16 ≤ 4) (h2 : lo / 16 ≤ 4) (h3 : hi % 16 ≤ 4) : stC (256 * m + 15) (256 * hi + lo) = 256 * stC m hi + (lo % 16 + lo / 16) := by
  unfold stC
  have e : 256 * hi + lo + (256 * hi + lo) / 16 = 256 * (hi + hi / 16) + (lo % 16 + 16 * (lo / 16) + lo / 16 + 16 * (hi % 16)) := by omega
  rw [e, and_spl (by omega) (by decide), c8 _ h1 _ h2 _ h3]
def p8 (x : Nat) : Nat := sumN (fun i => b1n (x.testBit i)) 8
theorem pc8 : ∀ lo, lo < 256 → stB 51 (stA 85 lo) % 16 + stB 51 (stA 85 lo) / 16 = p8 lo ∧ p8 lo ≤ 8 := by decide +kernel
def ev8 : Nat → Nat → Nat
  | 0, _ => 0
  | k + 1, x => 256 * ev8 k (x / 256) + p8 (x % 256)
theorem st_all : ∀ (k x : Nat), x < 256 ^ k → stC (mk8 15 k) (stB (mk8 51 k) (stA (mk8 85 k) x)) = ev8 k x ∧ stB (mk8 51 k) (stA (mk8 85 k) x) % 16 ≤ 4 ∧ stB (mk8 51 k) (stA (mk8 85 k) x) < 256 ^ k ∧ stA (mk8 85 k) x < 256 ^ k
  | 0, x, h => by
    have : x = 0 := by simpa using h
    subst this
    exact ⟨rfl, by decide, by decide, by decide⟩
  | k + 1, x, h => by
    obtain ⟨i1, i2, i3, i4⟩ := st_all k (x / 256) (by rw [Nat.pow_succ] at h; exact Nat.div_lt_of_lt_mul (by omega))
    have hlo : x % 256 < 256 := Nat.mod_lt _ (by decide)
    have ex : x = 256 * (x / 256) + x % 256 := by omega
    obtain ⟨g1, g2, g3, g4, g5⟩ := ab8 (x % 256) hlo
    obtain ⟨q1, q2⟩ := pc8 (x % 256) hlo
    have eA : stA (mk8 85 (k + 1)) x = 256 * stA (mk8 85 k) (x / 256) + stA 85 (x % 256) := by
      rw [show stA (mk8 85 (k + 1)) x = stA (256 * mk8 85 k + 85) (256 * (x / 256) + x % 256) by rw [← ex]; rfl]
      exact stA_s hlo
    have eB : stB (mk8 51 (k + 1)) (stA (mk8 85 (k + 1)) x) = 256 * stB (mk8 51 k) (stA (mk8 85 k) (x / 256)) + stB 51 (stA 85 (x % 256)) := by
      rw [eA]; exact stB_s g5
    have eC : stC (mk8 15 (k + 1)) (stB (mk8 51 (k + 1)) (stA (mk8 85 (k + 1)) x)) = ev8 (k + 1) x := by
      rw [eB]
      show stC (256 * mk8 15 k + 15) _ = 256 * ev8 k (x / 256) + p8 (x % 256)
      rw [stC_s g3 g4 i2, i1, q1]
    refine ⟨eC, by rw [eB]; omega, ?_, ?_⟩
    · rw [eB, Nat.pow_succ]; omega
    · rw [eA, Nat.pow_succ]; omega
def uL (x : Int64) : Nat := x.toBitVec.toNat
theorem uL_lt (x : Int64) : uL x < 2 ^ 64 := x.toBitVec.isLt
theorem uL_and (x y : Int64) : uL (x &&& y) = uL x &&& uL y := by unfold uL; rw [Int64.toBitVec_and, BitVec.toNat_and]
theorem uL_add {x y : Int64} (h : uL x + uL y < 2 ^ 64) : uL (x + y) = uL x + uL y := by
  unfold uL at *; rw [Int64.toBitVec_add, BitVec.toNat_add, Nat.mod_eq_of_lt h]
theorem uL_sub {x y : Int64} (h : uL y ≤ uL x) : uL (x - y) = uL x - uL y := by
  unfold uL at *
  rw [Int64.toBitVec_sub, BitVec.toNat_sub]
  have := x.toBitVec.isLt
  have := y.toBitVec.isLt
  omega
theorem uL_lu (x : Int64) {k : Nat} (hk : k < 64) : uL (lu_ x (nI k)) = uL x / 2 ^ k := by
  refine Nat.eq_of_testBit_eq (fun i => ?_)
  have h := tb_lu x hk i
  unfold tb at h
  unfold uL
  rw [Nat.testBit_div_two_pow, ← BitVec.testBit_toNat, ← BitVec.testBit_toNat] at *
  rw [h, Nat.add_comm]
theorem s8_dv {a b c : Nat} (e : a = 256 * b + c) (h : c < 256) : a / 256 = b := by omega
theorem s8_ad {a a' c b b' d : Nat} (e1 : a = 256 * a' + c) (e2 : b = 256 * b' + d) : a + b = 256 * (a' + b') + (c + d) := by omega
theorem s8_bz {a b c M : Nat} (e : a = 256 * b + c) (hb : b ≤ M) (hc : c ≤ 8) : a ≤ 256 * M + 8 := by omega
theorem s8_l2 {a b : Nat} (ha : a ≤ 8) (hb : b ≤ 8) : a + b < 256 := by omega
theorem s8_l4 {a b c d : Nat} (ha : a ≤ 8) (hb : b ≤ 8) (hc : c ≤ 8) (hd : d ≤ 8) : a + b + (c + d) < 256 := by omega
theorem s8_l8 {a b c d a' b' c' d' : Nat} (ha : a ≤ 8) (hb : b ≤ 8) (hc : c ≤ 8) (hd : d ≤ 8) (ha' : a' ≤ 8) (hb' : b' ≤ 8) (hc' : c' ≤ 8) (hd' : d' ≤ 8) : (a + b + (c + d)) + (a' + b' + (c' + d')) ≤ 64 := by omega
theorem s8_mo {a b c : Nat} (e : a = 256 * b + c) : b ≤ a := by omega
theorem s8_fi {z0 z1 z2 z3 z4 z5 z6 z7 : Nat} (b : z0 ≤ 578721382704613384) (m1 : z1 ≤ z0) (m2 : z2 ≤ z1) (m3 : z3 ≤ z2) (m4 : z4 ≤ z3) (m5 : z5 ≤ z4) (m6 : z6 ≤ z5) (m7 : z7 ≤ z6) : ((z0 + z1) + (z2 + z3)) + ((z4 + z5) + (z6 + z7)) < 2 ^ 64 ∧ z0 + z1 < 2 ^ 62 ∧ (z0 + z1) + (z2 + z3) < 2 ^ 63 := by omega
theorem s8_md {g a c : Nat} (e : g = 256 * a + c) (h : c ≤ 64) : g % 128 = c := by omega
theorem sum8 {c0 c1 c2 c3 c4 c5 c6 c7 : Nat} (h0 : c0 ≤ 8) (h1 : c1 ≤ 8) (h2 : c2 ≤ 8) (h3 : c3 ≤ 8) (h4 : c4 ≤ 8) (h5 : c5 ≤ 8) (h6 : c6 ≤ 8) (h7 : c7 ≤ 8) {z0 z1 z2 z3 z4 z5 z6 z7 d e g : Nat}
    (q0 : z0 = 256 * z1 + c0) (q1 : z1 = 256 * z2 + c1) (q2 : z2 = 256 * z3 + c2) (q3 : z3 = 256 * z4 + c3) (q4 : z4 = 256 * z5 + c4) (q5 : z5 = 256 * z6 + c5) (q6 : z6 = 256 * z7 + c6) (q7 : z7 = 256 * 0 + c7) (hd : d = z0 + z0 / 256) (he : e = d + d / 65536) (hg : g = e + e / 4294967296) : g % 128 = (c0 + c1 + (c2 + c3)) + (c4 + c5 + (c6 + c7)) ∧ g < 2 ^ 64 ∧ d < 2 ^ 62 ∧ e < 2 ^ 63 := by
  have D0 := s8_ad q0 q1
  have D1 := s8_ad q1 q2
  have D2 := s8_ad q2 q3
  have D3 := s8_ad q3 q4
  have D4 := s8_ad q4 q5
  have D5 := s8_ad q5 q6
  have D6 := s8_ad q6 q7
  have E0 := s8_ad D0 D2
  have E1 := s8_ad D1 D3
  have E2 := s8_ad D2 D4
  have E3 := s8_ad D3 D5
  have E4 := s8_ad D4 D6
  have G0 := s8_ad E0 E4
  have b7 : z7 ≤ 8 := by rw [q7]; omega
  have b0 := s8_bz q0 (s8_bz q1 (s8_bz q2 (s8_bz q3 (s8_bz q4 (s8_bz q5 (s8_bz q6 b7 h6) h5) h4) h3) h2) h1) h0
  have ed : d = z0 + z1 := by rw [hd, s8_dv q0 (by omega)]
  have ee : e = (z0 + z1) + (z2 + z3) := by
    rw [he, show d / 65536 = d / 256 / 256 by rw [Nat.div_div_eq_div_mul], ed, s8_dv D0 (s8_l2 h0 h1), s8_dv D1 (s8_l2 h1 h2)]
  have eg : g = ((z0 + z1) + (z2 + z3)) + ((z4 + z5) + (z6 + z7)) := by
    rw [hg, show e / 4294967296 = e / 256 / 256 / 256 / 256 by rw [Nat.div_div_eq_div_mul, Nat.div_div_eq_div_mul, Nat.div_div_eq_div_mul], ee, s8_dv E0 (s8_l4 h0 h1 h2 h3), s8_dv E1 (s8_l4 h1 h2 h3 h4), s8_dv E2 (s8_l4 h2 h3 h4 h5), s8_dv E3 (s8_l4 h3 h4 h5 h6)]
  have m1 : z1 ≤ z0 := s8_mo q0
  have m2 : z2 ≤ z1 := s8_mo q1
  have m3 : z3 ≤ z2 := s8_mo q2
  have m4 : z4 ≤ z3 := s8_mo q3
  have m5 : z5 ≤ z4 := s8_mo q4
  have m6 : z6 ≤ z5 := s8_mo q5
  have m7 : z7 ≤ z6 := s8_mo q6
  have b00 : z0 ≤ 578721382704613384 := b0
  refine ⟨by rw [eg]; exact s8_md G0 (s8_l8 h0 h1 h2 h3 h4 h5 h6 h7), ?_, ?_, ?_⟩
  · rw [eg]; exact (s8_fi b00 m1 m2 m3 m4 m5 m6 m7).1
  · rw [ed]; exact (s8_fi b00 m1 m2 m3 m4 m5 m6 m7).2.1
  · rw [ee]; exact (s8_fi b00 m1 m2 m3 m4 m5 m6 m7).2.2
def pcL (x : Int64) : Nat := sumN (fun i => b1n (tb x i)) 64
theorem p8_at (x j : Nat) : p8 (x / 256 ^ j % 256) = sumN (fun i => b1n (x.testBit (j * 8 + i))) 8 := by
  unfold p8
  refine sumN_c (fun i hi => ?_)
  rw [show 256 = 2 ^ 8 from rfl, Nat.testBit_mod_two_pow, ← Nat.pow_mul, Nat.testBit_div_two_pow]
  have : decide (i < 8) = true := by simp [hi]
  rw [this, Bool.true_and, Nat.mul_comm 8 j, Nat.add_comm]
theorem i32_and127 (y : Int64) : y.toInt32 &&& 127 = nI (uL y % 128) := by
  rw [← Int32.toBitVec_inj]
  apply BitVec.eq_of_toNat_eq
  rw [Int32.toBitVec_and, BitVec.toNat_and]
  have e1 : (127 : Int32).toBitVec.toNat = 2 ^ 7 - 1 := by decide
  have e2 : (nI (uL y % 128)).toBitVec.toNat = uL y % 128 := pk_tn (by omega)
  rw [e1, e2, Nat.and_two_pow_sub_one_eq_mod]
  have e3 : y.toInt32.toBitVec.toNat = uL y % 2 ^ 32 := by
    unfold uL
    rw [Int64.toBitVec_toInt32, BitVec.signExtend_eq_setWidth_of_le _ (by decide), BitVec.toNat_setWidth]
  rw [e3]
  omega
theorem f_bitCount (x : Int64) : F_J13_bitCount_95d88 x = some (nI (pcL x)) := by
  unfold F_J13_bitCount_95d88
  simp only [bd_e]
  have c1 : uL 6148914691236517205 = mk8 85 8 := by decide +kernel
  have c2 : uL 3689348814741910323 = mk8 51 8 := by decide +kernel
  have c3 : uL 1085102592571150095 = mk8 15 8 := by decide +kernel
  obtain ⟨s1, s2, s3, s4⟩ := st_all 8 (uL x) (by have := uL_lt x; simpa using this)
  generalize hy1 : x - (lu_ x 1 &&& 6148914691236517205) = y1
  have e1 : uL y1 = stA (mk8 85 8) (uL x) := by
    have l1 : uL (lu_ x 1 &&& 6148914691236517205) = uL x / 2 &&& mk8 85 8 := by
      rw [uL_and, c1, show uL (lu_ x 1) = uL x / 2 from uL_lu x (k := 1) (by decide)]
    rw [← hy1, uL_sub (by rw [l1]; exact Nat.le_trans Nat.and_le_left (by omega)), l1]; rfl
  generalize hy2 : (y1 &&& 3689348814741910323) + (lu_ y1 2 &&& 3689348814741910323) = y2
  have e2 : uL y2 = stB (mk8 51 8) (uL y1) := by
    have l1 : uL (lu_ y1 2 &&& 3689348814741910323) = uL y1 / 4 &&& mk8 51 8 := by
      rw [uL_and, c2, show uL (lu_ y1 2) = uL y1 / 4 from uL_lu y1 (k := 2) (by decide)]
    have l2 : uL (y1 &&& 3689348814741910323) = uL y1 &&& mk8 51 8 := by rw [uL_and, c2]
    rw [← hy2, uL_add (by
      rw [l1, l2]
      have b1 : (uL y1 &&& mk8 51 8) ≤ mk8 51 8 := Nat.and_le_right
      have b2 : (uL y1 / 4 &&& mk8 51 8) ≤ mk8 51 8 := Nat.and_le_right
      have b3 : mk8 51 8 + mk8 51 8 < 2 ^ 64 := by decide +kernel
      omega), l1, l2]; rfl
  generalize hy3 : (y2 + lu_ y2 4) &&& 1085102592571150095 = y3
  have e3 : uL y3 = ev8 8 (uL x) := by
    rw [← s1, ← e1, ← e2]
    have hb : uL y2 < 2 ^ 63 := by
      rw [e2]
      unfold stB
      have b1 : (uL y1 &&& mk8 51 8) ≤ mk8 51 8 := Nat.and_le_right
      have b2 : (uL y1 / 4 &&& mk8 51 8) ≤ mk8 51 8 := Nat.and_le_right
      have b3 : mk8 51 8 + mk8 51 8 < 2 ^ 63 := by decide +kernel
      omega
    have l1 : uL (lu_ y2 4) = uL y2 / 16 := uL_lu y2 (k := 4) (by decide)
    rw [← hy3, uL_and, c3, uL_add (by rw [l1]; omega), l1]; rfl
  have p0 := (pc8 (uL x / 256 ^ 0 % 256) (Nat.mod_lt _ (by decide))).2
  have p1 := (pc8 (uL x / 256 ^ 1 % 256) (Nat.mod_lt _ (by decide))).2
  have p2 := (pc8 (uL x / 256 ^ 2 % 256) (Nat.mod_lt _ (by decide))).2
  have p3 := (pc8 (uL x / 256 ^ 3 % 256) (Nat.mod_lt _ (by decide))).2
  have p4 := (pc8 (uL x / 256 ^ 4 % 256) (Nat.mod_lt _ (by decide))).2
  have p5 := (pc8 (uL x / 256 ^ 5 % 256) (Nat.mod_lt _ (by decide))).2
  have p6 := (pc8 (uL x / 256 ^ 6 % 256) (Nat.mod_lt _ (by decide))).2
  have p7 := (pc8 (uL x / 256 ^ 7 % 256) (Nat.mod_lt _ (by decide))).2
  generalize hd : uL y3 + uL y3 / 256 = dd
  generalize he : dd + dd / 65536 = ee
  generalize hg : ee + ee / 4294967296 = gg
  have ev : ∀ k x, ev8 (k + 1) x = 256 * ev8 k (x / 256) + p8 (x % 256) := fun _ _ => rfl
  obtain ⟨r1, r2, r3, r4⟩ := sum8 (z0 := uL y3) (z1 := ev8 7 (uL x / 256 ^ 1)) (z2 := ev8 6 (uL x / 256 ^ 2)) (z3 := ev8 5 (uL x / 256 ^ 3)) (z4 := ev8 4 (uL x / 256 ^ 4)) (z5 := ev8 3 (uL x / 256 ^ 5)) (z6 := ev8 2 (uL x / 256 ^ 6)) (z7 := ev8 1 (uL x / 256 ^ 7)) p0 p1 p2 p3 p4 p5 p6 p7
    (by rw [e3, ev, Nat.pow_zero, Nat.div_one, Nat.pow_one]) (by rw [ev, Nat.div_div_eq_div_mul]) (by rw [ev, Nat.div_div_eq_div_mul]) (by rw [ev, Nat.div_div_eq_div_mul]) (by rw [ev, Nat.div_div_eq_div_mul]) (by rw [ev, Nat.div_div_eq_div_mul]) (by rw [ev, Nat.div_div_eq_div_mul]) (by rw [ev]; rfl) hd.symm he.symm hg.symm
  have f1 : uL (y3 + lu_ y3 8) = dd := by
    have l1 : uL (lu_ y3 8) = uL y3 / 256 := uL_lu y3 (k := 8) (by decide)
    rw [uL_add (by rw [l1]; omega), l1]; exact hd
  have f2 : uL (y3 + lu_ y3 8 + lu_ (y3 + lu_ y3 8) 16) = ee := by
    have l1 : uL (lu_ (y3 + lu_ y3 8) 16) = dd / 65536 := by rw [← f1]; exact uL_lu _ (k := 16) (by decide)
    rw [uL_add (by rw [l1, f1]; omega), l1, f1]; exact he
  have f3 : uL (y3 + lu_ y3 8 + lu_ (y3 + lu_ y3 8) 16 + lu_ (y3 + lu_ y3 8 + lu_ (y3 + lu_ y3 8) 16) 32) = gg := by
    have l1 : uL (lu_ (y3 + lu_ y3 8 + lu_ (y3 + lu_ y3 8) 16) 32) = ee / 4294967296 := by rw [← f2]; exact uL_lu _ (k := 32) (by decide)
    rw [uL_add (by rw [l1, f2]; omega), l1, f2]; exact hg
  rw [i32_and127, f3, r1]
  congr 2
  unfold pcL
  have tbn : ∀ i, tb x i = (uL x).testBit i := fun i => by unfold tb uL; rw [BitVec.testBit_toNat]
  rw [show 64 = 8 * 8 from rfl, sumN_mul]
  simp only [tbn]
  simp only [p8_at]
  have key : ∀ F : Nat → Nat, sumN F 8 = (F 0 + F 1 + (F 2 + F 3)) + (F 4 + F 5 + (F 6 + F 7)) := by
    intro F
    simp only [sumN]
    omega
  exact (key (fun i => sumN (fun j => b1n ((uL x).testBit (i * 8 + j))) 8)).symm
