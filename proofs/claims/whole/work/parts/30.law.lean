/-! ===== the law's own rows ===== -/
def Scr_ (X : CX) (L : Nat) (xs : Nat → Int32) : Prop := va_X ((xG_ X).1 75) L xs (xs_ X) (xs_ X).heap ∧ (xG_ X).1 75 < (xs_ X).heap.size ∧ ¬ af_ (xG_ X) ((xG_ X).1 75)
def Rl_ (X : CX) : Prop := (xM_ X).sig.returnType = ret ∧ (xM_ X).locks = false ∧ (∃ b, xa_ X = #[Value.ref b]) ∧ xQ_ X = lw_Z (xb_ X) (xa_ X) (xs_ X) ∧ xR_ X = room_1 ∧ (xG_ X).2.2.2.2.2 = (xs_ X).heap.size ∧ xk_ X ≤ 600000 ∧ xn_ X ≤ 7302250
def sl_ {β : Type} (xs : Nat → Int32) (L : Nat) (i : Int32) (f : Int32 → Option β) : Option β := if ib_ i L = true then f (xs i.toNatClampNeg) else none
theorem sl_some {β : Type} {xs : Nat → Int32} {L : Nat} {i : Int32} {f : Int32 → Option β} {r : β} (e : sl_ xs L i f = some r) : vp_in i L ∧ ∃ v, v = xs i.toNatClampNeg ∧ f v = some r := by
  unfold sl_ at e
  by_cases hc : ib_ i L = true
  · exact ⟨ib_in hc, _, rfl, ip_ hc e⟩
  · have := in_ hc e; cases this
section LawRows
variable {X : CX} {own : String} {cc : ByteArray} {d pc L : Nat} {lv : List (Nat × Value)} {st : List Value} {h : Hp} {xs : Nat → Int32}
theorem at_sld (hX : Ok_ X own cc d) (hSc : Scr_ X L xs) {i : Int32} (hi : vp_in i L) (hdg : decode cc pc = .ok (.iaload, 1)) (k : At_ X (pc + 1) lv (.int (xs i.toNatClampNeg) :: st) h) : At_ X pc lv (.int i :: .ref 75 :: st) h := by
  intro H locs ls hP hD hS hl
  exact va_sld hX.1 hX.2.1 hSc.1 hSc.2.1 hSc.2.2 hS hi hdg (k H locs ls hP hD hS hl)
theorem at_slen (hX : Ok_ X own cc d) (hSc : Scr_ X L xs) (hdg : decode cc pc = .ok (.arraylength, 1)) (k : At_ X (pc + 1) lv (.int (nI L) :: st) h) : At_ X pc lv (.ref 75 :: st) h := by
  intro H locs ls hP hD hS hl
  exact va_slen hX.1 hX.2.1 hSc.1 hSc.2.1 hSc.2.2 hS hdg (k H locs ls hP hD hS hl)
theorem at_lret {d pc : Nat} {lv : List (Nat × Value)} {h : Hp} (hX : Ok_ X own code d) (hR : Rl_ X) (hdg : decode code pc = .ok (.ireturn, 1)) : At_ X pc lv [.int 1] h := by
  intro H locs ls hP hD hS hl
  obtain ⟨h1, h2, ⟨b, h3⟩, h4, h5, h6, h7, h8⟩ := hR
  rw [h4, h5, h3]
  refine va_forget (fun q hq => ?_) ?_
  · have := hS.2.2 q hq
    show (xs_ X).heap.size ≤ q.base
    rw [← h6]; exact this
  refine W.widen (k := 600000) (n := 7302250) h7 h8 ?_
  exact lw_ret hX.1 hX.2.1 h1 h2 hdg
end LawRows
def F_law_985 (xs : Nat → Int32) (L : Nat) (k18 : Int32 → Hp → Option (Int32 × Hp)) (x3 : Int32) (h : Hp) : Option (Int32 × Hp) := k18 (x3 + (7 : Int32)) h
theorem A_law_985 {X : CX} {h' : Hp} {xs : Nat → Int32} {L : Nat} (hn : (xc_ X).maxLocals = 4) (hX : Ok_ X RL code 60) (hR : Rl_ X) (hSc : Scr_ X L xs) (k18 : Int32 → Hp → Option (Int32 × Hp)) (hk18 : ∀ (x3 : Int32) (h : Hp), k18 x3 h = some (1, h') → At_ X 18 [(0, .ref 75), (1, .ref 6), (2, .ref 7), (3, .int x3)] [] h) (x3 : Int32) (h : Hp) (e : F_law_985 xs L k18 x3 h = some (1, h')) : At_ X 985 [(0, .ref 75), (1, .ref 6), (2, .ref 7), (3, .int x3)] [] h := by
  unfold F_law_985 at e
  refine at_iinc hX hn (by decide) rfl (v := 7) (by decide) dL_law_985 ?_
  refine at_goto hX (tgt := 18) (by decide) dL_law_988 ?_
  exact at_sub [0, 1, 2, 3] rfl (hk18 _ _ e)
def F_law_644 (xs : Nat → Int32) (L : Nat) (k18 : Int32 → Hp → Option (Int32 × Hp)) (x3 : Int32) (s0 : Int32) (s2 : Int32) (h : Hp) : Option (Int32 × Hp) := (F_X7_seams s2 h).bind fun v644 => if s0 = v644 then (F_law_985 xs L k18) x3 h else some ((0 : Int32), h)
theorem A_law_644 {X : CX} {h' : Hp} {xs : Nat → Int32} {L : Nat} (hn : (xc_ X).maxLocals = 4) (hX : Ok_ X RL code 60) (hR : Rl_ X) (hSc : Scr_ X L xs) (k18 : Int32 → Hp → Option (Int32 × Hp)) (hk18 : ∀ (x3 : Int32) (h : Hp), k18 x3 h = some (1, h') → At_ X 18 [(0, .ref 75), (1, .ref 6), (2, .ref 7), (3, .int x3)] [] h) (x3 : Int32) (s0 : Int32) (s2 : Int32) (h : Hp) (e : F_law_644 xs L k18 x3 s0 s2 h = some (1, h')) : At_ X 644 [(0, .ref 75), (1, .ref 6), (2, .ref 7), (3, .int x3)] [.int s2, .ref 7, .int s0] h := by
  unfold F_law_644 at e
  obtain ⟨v644, e1, e⟩ := ob_some e
  refine at_callV1 hX cv_L_83 (by decide) (c_X7_seams _ _ _ _ e1) (Nat.le_of_ble_eq_true rfl) dL_law_644 ?_
  refine at_icmp_eq hX (tgt := 985) (by decide) dL_law_647 (fun c647 => ?_) (fun c647 => ?_)
  · replace e := ip_ c647 e
    exact at_sub [0, 1, 2, 3] rfl ((A_law_985 hn hX hR hSc k18 hk18) _ _ e)
  · replace e := in_ c647 e
    refine at_iconst hX (v := 0) (by decide) dL_law_650 ?_
    exact absurd (congrArg Prod.fst (Option.some.inj e)) (show ¬ (0 : Int32) = 1 by decide)
def F_law_627 (xs : Nat → Int32) (L : Nat) (k18 : Int32 → Hp → Option (Int32 × Hp)) (x3 : Int32) (s1 : Int32) (h : Hp) : Option (Int32 × Hp) := (F_X6_seams s1 h).bind fun v627 => sl_ xs L (x3 + (1 : Int32)) fun v635 => if v635 = (0 : Int32) then (F_law_644 xs L k18) x3 v627 (0 : Int32) h else (F_law_644 xs L k18) x3 v627 (1 : Int32) h
theorem A_law_627 {X : CX} {h' : Hp} {xs : Nat → Int32} {L : Nat} (hn : (xc_ X).maxLocals = 4) (hX : Ok_ X RL code 60) (hR : Rl_ X) (hSc : Scr_ X L xs) (k18 : Int32 → Hp → Option (Int32 × Hp)) (hk18 : ∀ (x3 : Int32) (h : Hp), k18 x3 h = some (1, h') → At_ X 18 [(0, .ref 75), (1, .ref 6), (2, .ref 7), (3, .int x3)] [] h) (x3 : Int32) (s1 : Int32) (h : Hp) (e : F_law_627 xs L k18 x3 s1 h = some (1, h')) : At_ X 627 [(0, .ref 75), (1, .ref 6), (2, .ref 7), (3, .int x3)] [.int s1, .ref 6] h := by
  unfold F_law_627 at e
  obtain ⟨v627, e1, e⟩ := ob_some e
  refine at_callV1 hX cv_L_79 (by decide) (c_X6_seams _ _ _ _ e1) (Nat.le_of_ble_eq_true rfl) dL_law_627 ?_
  refine at_aload_n hX rfl rfl dL_law_630 ?_
  refine at_aload_n hX rfl rfl dL_law_631 ?_
  refine at_iload_n hX rfl rfl dL_law_632 ?_
  refine at_iconst hX (v := 1) (by decide) dL_law_633 ?_
  refine at_iadd hX dL_law_634 ?_
  obtain ⟨hi, v635, ev635, e⟩ := sl_some e
  refine at_sld hX hSc hi dL_law_635 ?_
  refine at_ti ev635 ?_
  refine at_if_eq hX (tgt := 643) (by decide) dL_law_636 (fun c636 => ?_) (fun c636 => ?_)
  · replace e := ip_ c636 e
    refine at_iconst hX (v := 0) (by decide) dL_law_643 ?_
    exact at_sub [0, 1, 2, 3] rfl ((A_law_644 hn hX hR hSc k18 hk18) _ _ _ _ e)
  · replace e := in_ c636 e
    refine at_iconst hX (v := 1) (by decide) dL_law_639 ?_
    refine at_goto hX (tgt := 644) (by decide) dL_law_640 ?_
    exact at_sub [0, 1, 2, 3] rfl ((A_law_644 hn hX hR hSc k18 hk18) _ _ _ _ e)
def F_law_18 (n : Nat) (xs : Nat → Int32) (L : Nat) (x3 : Int32) (h : Hp) : Option (Int32 × Hp) := match n with
  | 0 => none
  | n + 1 => if (nI L) - (7 : Int32) < x3 then some ((1 : Int32), h) else sl_ xs L x3 fun v29 => if v29 &&& (31 : Int32) = nI 0 then sl_ xs L (x3 + (1 : Int32)) fun v161 => sl_ xs L (x3 + (2 : Int32)) fun v166 => sl_ xs L (x3 + (3 : Int32)) fun v171 => sl_ xs L (x3 + (4 : Int32)) fun v176 => (F_X6_cell v161 v166 v171 v176 h).bind fun ((v177, h177) : Int32 × Hp) => sl_ xs L (x3 + (1 : Int32)) fun v185 => sl_ xs L (x3 + (2 : Int32)) fun v190 => sl_ xs L (x3 + (3 : Int32)) fun v195 => sl_ xs L (x3 + (4 : Int32)) fun v200 => (F_X7_cell v185 v190 v195 v200 h177).bind fun ((v201, h201) : Int32 × Hp) => if v177 = v201 then (F_law_985 xs L (F_law_18 n xs L)) x3 h201 else some ((0 : Int32), h201) else if v29 &&& (31 : Int32) = nI 1 then sl_ xs L (x3 + (1 : Int32)) fun v214 => sl_ xs L (x3 + (2 : Int32)) fun v219 => sl_ xs L (x3 + (3 : Int32)) fun v224 => (F_X6_cellOf v214 v219 v224 h).bind fun ((v225, h225) : Int32 × Hp) => sl_ xs L (x3 + (1 : Int32)) fun v233 => sl_ xs L (x3 + (2 : Int32)) fun v238 => sl_ xs L (x3 + (3 : Int32)) fun v243 => (F_X7_cellOf v233 v238 v243 h225).bind fun ((v244, h244) : Int32 × Hp) => if v225 = v244 then (F_law_985 xs L (F_law_18 n xs L)) x3 h244 else some ((0 : Int32), h244) else if v29 &&& (31 : Int32) = nI 2 then (F_X6_inner  h).bind fun v253 => (F_X7_inner  h).bind fun v257 => if v253 = v257 then (F_law_985 xs L (F_law_18 n xs L)) x3 h else some ((0 : Int32), h) else if v29 &&& (31 : Int32) = nI 3 then sl_ xs L (x3 + (1 : Int32)) fun v270 => sl_ xs L (x3 + (2 : Int32)) fun v275 => sl_ xs L (x3 + (3 : Int32)) fun v280 => sl_ xs L (x3 + (4 : Int32)) fun v285 => sl_ xs L (x3 + (5 : Int32)) fun v290 => sl_ xs L (x3 + (6 : Int32)) fun v296 => (F_X6_place v270 v275 v280 v285 v290 v296 h).bind fun ((v297, h297) : Int32 × Hp) => sl_ xs L (x3 + (1 : Int32)) fun v305 => sl_ xs L (x3 + (2 : Int32)) fun v310 => sl_ xs L (x3 + (3 : Int32)) fun v315 => sl_ xs L (x3 + (4 : Int32)) fun v320 => sl_ xs L (x3 + (5 : Int32)) fun v325 => sl_ xs L (x3 + (6 : Int32)) fun v331 => (F_X7_place v305 v310 v315 v320 v325 v331 h297).bind fun ((v332, h332) : Int32 × Hp) => if v297 = v332 then (F_law_985 xs L (F_law_18 n xs L)) x3 h332 else some ((0 : Int32), h332) else if v29 &&& (31 : Int32) = nI 4 then sl_ xs L (x3 + (1 : Int32)) fun v345 => (F_X6_take v345 h).bind fun ((v346, h346) : Int32 × Hp) => sl_ xs L (x3 + (1 : Int32)) fun v354 => (F_X7_take v354 h346).bind fun ((v355, h355) : Int32 × Hp) => if v346 = v355 then (F_law_985 xs L (F_law_18 n xs L)) x3 h355 else some ((0 : Int32), h355) else if v29 &&& (31 : Int32) = nI 5 then sl_ xs L (x3 + (1 : Int32)) fun v368 => sl_ xs L (x3 + (2 : Int32)) fun v373 => sl_ xs L (x3 + (3 : Int32)) fun v378 => (F_X6_at v368 v373 v378 h).bind fun ((v379, h379) : Int32 × Hp) => sl_ xs L (x3 + (1 : Int32)) fun v387 => sl_ xs L (x3 + (2 : Int32)) fun v392 => sl_ xs L (x3 + (3 : Int32)) fun v397 => (F_X7_at v387 v392 v397 h379).bind fun ((v398, h398) : Int32 × Hp) => if v379 = v398 then (F_law_985 xs L (F_law_18 n xs L)) x3 h398 else some ((0 : Int32), h398) else if v29 &&& (31 : Int32) = nI 6 then sl_ xs L (x3 + (1 : Int32)) fun v411 => sl_ xs L (x3 + (2 : Int32)) fun v416 => (F_X6_studs v411 v416 h).bind fun ((v417, h417) : Int32 × Hp) => sl_ xs L (x3 + (1 : Int32)) fun v425 => sl_ xs L (x3 + (2 : Int32)) fun v430 => (F_X7_studs v425 v430 h417).bind fun ((v431, h431) : Int32 × Hp) => if v417 = v431 then (F_law_985 xs L (F_law_18 n xs L)) x3 h431 else some ((0 : Int32), h431) else if v29 &&& (31 : Int32) = nI 7 then (F_X6_pieces  h).bind fun v440 => (F_X7_pieces  h).bind fun ((v444, h444) : Int32 × Hp) => if v440 = v444 then (F_law_985 xs L (F_law_18 n xs L)) x3 h444 else some ((0 : Int32), h444) else if v29 &&& (31 : Int32) = nI 8 then sl_ xs L (x3 + (1 : Int32)) fun v457 => (F_X6_piece v457 h).bind fun ((v458, h458) : Int32 × Hp) => sl_ xs L (x3 + (1 : Int32)) fun v466 => (F_X7_piece v466 h458).bind fun ((v467, h467) : Int32 × Hp) => if v458 = v467 then (F_law_985 xs L (F_law_18 n xs L)) x3 h467 else some ((0 : Int32), h467) else if v29 &&& (31 : Int32) = nI 9 then sl_ xs L (x3 + (1 : Int32)) fun v480 => sl_ xs L (x3 + (2 : Int32)) fun v485 => (F_X6_pieceOf v480 v485 h).bind fun ((v486, h486) : Int32 × Hp) => sl_ xs L (x3 + (1 : Int32)) fun v494 => sl_ xs L (x3 + (2 : Int32)) fun v499 => (F_X7_pieceOf v494 v499 h486).bind fun ((v500, h500) : Int32 × Hp) => if v486 = v500 then (F_law_985 xs L (F_law_18 n xs L)) x3 h500 else some ((0 : Int32), h500) else if v29 &&& (31 : Int32) = nI 10 then sl_ xs L (x3 + (1 : Int32)) fun v513 => (F_X6_key v513 h).bind fun ((v514, h514) : Int32 × Hp) => sl_ xs L (x3 + (1 : Int32)) fun v522 => (F_X7_key v522 h514).bind fun ((v523, h523) : Int32 × Hp) => if v514 = v523 then (F_law_985 xs L (F_law_18 n xs L)) x3 h523 else some ((0 : Int32), h523) else if v29 &&& (31 : Int32) = nI 11 then sl_ xs L (x3 + (1 : Int32)) fun v536 => (F_X6_weak v536 h).bind fun ((v537, h537) : Int32 × Hp) => sl_ xs L (x3 + (1 : Int32)) fun v545 => (F_X7_weak v545 h537).bind fun ((v546, h546) : Int32 × Hp) => if v537 = v546 then (F_law_985 xs L (F_law_18 n xs L)) x3 h546 else some ((0 : Int32), h546) else if v29 &&& (31 : Int32) = nI 12 then (F_X6_sound  h).bind fun ((v555, h555) : Int32 × Hp) => (F_X7_sound  h555).bind fun ((v559, h559) : Int32 × Hp) => if v555 = v559 then (F_law_985 xs L (F_law_18 n xs L)) x3 h559 else some ((0 : Int32), h559) else if v29 &&& (31 : Int32) = nI 13 then sl_ xs L (x3 + (1 : Int32)) fun v572 => (F_X6_grip v572 h).bind fun ((v573, h573) : Int32 × Hp) => sl_ xs L (x3 + (1 : Int32)) fun v581 => (F_X7_grip v581 h573).bind fun ((v582, h582) : Int32 × Hp) => if v573 = v582 then (F_law_985 xs L (F_law_18 n xs L)) x3 h582 else some ((0 : Int32), h582) else if v29 &&& (31 : Int32) = nI 14 then sl_ xs L (x3 + (1 : Int32)) fun v595 => (F_X6_fit v595 h).bind fun ((v596, h596) : Int32 × Hp) => sl_ xs L (x3 + (1 : Int32)) fun v604 => (F_X7_fit v604 h596).bind fun ((v605, h605) : Int32 × Hp) => if v596 = v605 then (F_law_985 xs L (F_law_18 n xs L)) x3 h605 else some ((0 : Int32), h605) else if v29 &&& (31 : Int32) = nI 15 then sl_ xs L (x3 + (1 : Int32)) fun v618 => if v618 = (0 : Int32) then (F_law_627 xs L (F_law_18 n xs L)) x3 (0 : Int32) h else (F_law_627 xs L (F_law_18 n xs L)) x3 (1 : Int32) h else if v29 &&& (31 : Int32) = nI 16 then sl_ xs L (x3 + (1 : Int32)) fun v657 => sl_ xs L (x3 + (2 : Int32)) fun v662 => (F_X6_cover v657 v662 h).bind fun ((v663, h663) : Int32 × Hp) => sl_ xs L (x3 + (1 : Int32)) fun v671 => sl_ xs L (x3 + (2 : Int32)) fun v676 => (F_X7_cover v671 v676 h663).bind fun ((v677, h677) : Int32 × Hp) => if v663 = v677 then (F_law_985 xs L (F_law_18 n xs L)) x3 h677 else some ((0 : Int32), h677) else if v29 &&& (31 : Int32) = nI 17 then sl_ xs L (x3 + (1 : Int32)) fun v690 => sl_ xs L (x3 + (2 : Int32)) fun v695 => (F_X6_coverSeams v690 v695 h).bind fun ((v696, h696) : Int32 × Hp) => sl_ xs L (x3 + (1 : Int32)) fun v704 => sl_ xs L (x3 + (2 : Int32)) fun v709 => (F_X7_coverSeams v704 v709 h696).bind fun ((v710, h710) : Int32 × Hp) => if v696 = v710 then (F_law_985 xs L (F_law_18 n xs L)) x3 h710 else some ((0 : Int32), h710) else if v29 &&& (31 : Int32) = nI 18 then sl_ xs L (x3 + (1 : Int32)) fun v723 => sl_ xs L (x3 + (2 : Int32)) fun v728 => sl_ xs L (x3 + (3 : Int32)) fun v733 => (F_X6_coverAt v723 v728 v733 h).bind fun ((v734, h734) : Int32 × Hp) => sl_ xs L (x3 + (1 : Int32)) fun v742 => sl_ xs L (x3 + (2 : Int32)) fun v747 => sl_ xs L (x3 + (3 : Int32)) fun v752 => (F_X7_coverAt v742 v747 v752 h734).bind fun ((v753, h753) : Int32 × Hp) => if v734 = v753 then (F_law_985 xs L (F_law_18 n xs L)) x3 h753 else some ((0 : Int32), h753) else if v29 &&& (31 : Int32) = nI 19 then sl_ xs L (x3 + (1 : Int32)) fun v766 => sl_ xs L (x3 + (2 : Int32)) fun v771 => (F_X6_lay v766 v771 h).bind fun ((v772, h772) : Int32 × Hp) => sl_ xs L (x3 + (1 : Int32)) fun v780 => sl_ xs L (x3 + (2 : Int32)) fun v785 => (F_X7_lay v780 v785 h772).bind fun ((v786, h786) : Int32 × Hp) => if v772 = v786 then (F_law_985 xs L (F_law_18 n xs L)) x3 h786 else some ((0 : Int32), h786) else if v29 &&& (31 : Int32) = nI 20 then sl_ xs L (x3 + (1 : Int32)) fun v799 => sl_ xs L (x3 + (2 : Int32)) fun v804 => (F_X6_box v799 v804 h).bind fun ((v805, h805) : Int32 × Hp) => sl_ xs L (x3 + (1 : Int32)) fun v813 => sl_ xs L (x3 + (2 : Int32)) fun v818 => (F_X7_box v813 v818 h805).bind fun ((v819, h819) : Int32 × Hp) => if v805 = v819 then (F_law_985 xs L (F_law_18 n xs L)) x3 h819 else some ((0 : Int32), h819) else if v29 &&& (31 : Int32) = nI 21 then (F_X6_lacking  h).bind fun ((v828, h828) : Int32 × Hp) => (F_X7_lacking  h828).bind fun ((v832, h832) : Int32 × Hp) => if v828 = v832 then (F_law_985 xs L (F_law_18 n xs L)) x3 h832 else some ((0 : Int32), h832) else if v29 &&& (31 : Int32) = nI 22 then sl_ xs L (x3 + (1 : Int32)) fun v845 => (F_X6_lacks v845 h).bind fun ((v846, h846) : Int32 × Hp) => sl_ xs L (x3 + (1 : Int32)) fun v854 => (F_X7_lacks v854 h846).bind fun ((v855, h855) : Int32 × Hp) => if v846 = v855 then (F_law_985 xs L (F_law_18 n xs L)) x3 h855 else some ((0 : Int32), h855) else if v29 &&& (31 : Int32) = nI 23 then sl_ xs L (x3 + (1 : Int32)) fun v868 => (F_X6_order v868 h).bind fun ((v869, h869) : Int32 × Hp) => sl_ xs L (x3 + (1 : Int32)) fun v877 => (F_X7_order v877 h869).bind fun ((v878, h878) : Int32 × Hp) => if v869 = v878 then (F_law_985 xs L (F_law_18 n xs L)) x3 h878 else some ((0 : Int32), h878) else if v29 &&& (31 : Int32) = nI 24 then sl_ xs L (x3 + (1 : Int32)) fun v891 => sl_ xs L (x3 + (2 : Int32)) fun v896 => sl_ xs L (x3 + (3 : Int32)) fun v901 => (F_X6_seen v891 v896 v901 h).bind fun ((v902, h902) : Int32 × Hp) => sl_ xs L (x3 + (1 : Int32)) fun v910 => sl_ xs L (x3 + (2 : Int32)) fun v915 => sl_ xs L (x3 + (3 : Int32)) fun v920 => (F_X7_seen v910 v915 v920 h902).bind fun ((v921, h921) : Int32 × Hp) => if v902 = v921 then (F_law_985 xs L (F_law_18 n xs L)) x3 h921 else some ((0 : Int32), h921) else if v29 &&& (31 : Int32) = nI 25 then sl_ xs L (x3 + (1 : Int32)) fun v934 => sl_ xs L (x3 + (2 : Int32)) fun v939 => (F_X6_brickOf v934 v939 h).bind fun ((v940, h940) : Int32 × Hp) => sl_ xs L (x3 + (1 : Int32)) fun v948 => sl_ xs L (x3 + (2 : Int32)) fun v953 => (F_X7_brickOf v948 v953 h940).bind fun ((v954, h954) : Int32 × Hp) => if v940 = v954 then (F_law_985 xs L (F_law_18 n xs L)) x3 h954 else some ((0 : Int32), h954) else if v29 &&& (31 : Int32) = nI 26 then sl_ xs L (x3 + (1 : Int32)) fun v967 => (F_X6_count v967 h).bind fun v968 => sl_ xs L (x3 + (1 : Int32)) fun v976 => (F_X7_count v976 h).bind fun ((v977, h977) : Int32 × Hp) => if v968 = v977 then (F_law_985 xs L (F_law_18 n xs L)) x3 h977 else some ((0 : Int32), h977) else (F_law_985 xs L (F_law_18 n xs L)) x3 h
theorem A_law_18 {X : CX} {h' : Hp} {xs : Nat → Int32} {L : Nat} (hn : (xc_ X).maxLocals = 4) (hX : Ok_ X RL code 60) (hR : Rl_ X) (hSc : Scr_ X L xs) : ∀ (n : Nat) (x3 : Int32) (h : Hp), F_law_18 n xs L x3 h = some (1, h') → At_ X 18 [(0, .ref 75), (1, .ref 6), (2, .ref 7), (3, .int x3)] [] h := by
  intro n
  induction n with
  | zero => intro x3 h e; cases e
  | succ n ih =>
    intro x3 h e
    rw [F_law_18] at e
    refine at_iload_n hX rfl rfl dL_law_18 ?_
    refine at_aload_n hX rfl rfl dL_law_19 ?_
    refine at_slen hX hSc dL_law_20 ?_
    refine at_bipush hX (v := 7) (by decide) dL_law_21 ?_
    refine at_isub hX dL_law_23 ?_
    refine at_icmp_gt hX (tgt := 991) (by decide) dL_law_24 (fun c24 => ?_) (fun c24 => ?_)
    · replace e := ip_ c24 e
      refine at_iconst hX (v := 1) (by decide) dL_law_991 ?_
      exact at_lret hX hR dL_law_992
    · replace e := in_ c24 e
      refine at_aload_n hX rfl rfl dL_law_27 ?_
      refine at_iload_n hX rfl rfl dL_law_28 ?_
      obtain ⟨hi, v29, ev29, e⟩ := sl_some e
      refine at_sld hX hSc hi dL_law_29 ?_
      refine at_ti ev29 ?_
      refine at_bipush hX (v := 31) (by decide) dL_law_30 ?_
      refine at_iand hX dL_law_32 ?_
      by_cases w0 : v29 &&& (31 : Int32) = nI 0
      · replace e := ip_ w0 e
        refine at_tabIn hX (tgt := 156) 0 123 w0 (by decide) (by decide) rfl (by decide) dL_law_33 ?_
        refine at_aload_n hX rfl rfl dL_law_156 ?_
        refine at_aload_n hX rfl rfl dL_law_157 ?_
        refine at_iload_n hX rfl rfl dL_law_158 ?_
        refine at_iconst hX (v := 1) (by decide) dL_law_159 ?_
        refine at_iadd hX dL_law_160 ?_
        obtain ⟨hi, v161, ev161, e⟩ := sl_some e
        refine at_sld hX hSc hi dL_law_161 ?_
        refine at_ti ev161 ?_
        refine at_aload_n hX rfl rfl dL_law_162 ?_
        refine at_iload_n hX rfl rfl dL_law_163 ?_
        refine at_iconst hX (v := 2) (by decide) dL_law_164 ?_
        refine at_iadd hX dL_law_165 ?_
        obtain ⟨hi, v166, ev166, e⟩ := sl_some e
        refine at_sld hX hSc hi dL_law_166 ?_
        refine at_ti ev166 ?_
        refine at_aload_n hX rfl rfl dL_law_167 ?_
        refine at_iload_n hX rfl rfl dL_law_168 ?_
        refine at_iconst hX (v := 3) (by decide) dL_law_169 ?_
        refine at_iadd hX dL_law_170 ?_
        obtain ⟨hi, v171, ev171, e⟩ := sl_some e
        refine at_sld hX hSc hi dL_law_171 ?_
        refine at_ti ev171 ?_
        refine at_aload_n hX rfl rfl dL_law_172 ?_
        refine at_iload_n hX rfl rfl dL_law_173 ?_
        refine at_iconst hX (v := 4) (by decide) dL_law_174 ?_
        refine at_iadd hX dL_law_175 ?_
        obtain ⟨hi, v176, ev176, e⟩ := sl_some e
        refine at_sld hX hSc hi dL_law_176 ?_
        refine at_ti ev176 ?_
        obtain ⟨⟨v177, h177⟩, e1, e⟩ := ob_some e
        refine at_callV4 hX cv_L_13 (by decide) (c_X6_cell _ _ _ _ _ _ _ e1) (Nat.le_of_ble_eq_true rfl) dL_law_177 ?_
        refine at_aload_n hX rfl rfl dL_law_180 ?_
        refine at_aload_n hX rfl rfl dL_law_181 ?_
        refine at_iload_n hX rfl rfl dL_law_182 ?_
        refine at_iconst hX (v := 1) (by decide) dL_law_183 ?_
        refine at_iadd hX dL_law_184 ?_
        obtain ⟨hi, v185, ev185, e⟩ := sl_some e
        refine at_sld hX hSc hi dL_law_185 ?_
        refine at_ti ev185 ?_
        refine at_aload_n hX rfl rfl dL_law_186 ?_
        refine at_iload_n hX rfl rfl dL_law_187 ?_
        refine at_iconst hX (v := 2) (by decide) dL_law_188 ?_
        refine at_iadd hX dL_law_189 ?_
        obtain ⟨hi, v190, ev190, e⟩ := sl_some e
        refine at_sld hX hSc hi dL_law_190 ?_
        refine at_ti ev190 ?_
        refine at_aload_n hX rfl rfl dL_law_191 ?_
        refine at_iload_n hX rfl rfl dL_law_192 ?_
        refine at_iconst hX (v := 3) (by decide) dL_law_193 ?_
        refine at_iadd hX dL_law_194 ?_
        obtain ⟨hi, v195, ev195, e⟩ := sl_some e
        refine at_sld hX hSc hi dL_law_195 ?_
        refine at_ti ev195 ?_
        refine at_aload_n hX rfl rfl dL_law_196 ?_
        refine at_iload_n hX rfl rfl dL_law_197 ?_
        refine at_iconst hX (v := 4) (by decide) dL_law_198 ?_
        refine at_iadd hX dL_law_199 ?_
        obtain ⟨hi, v200, ev200, e⟩ := sl_some e
        refine at_sld hX hSc hi dL_law_200 ?_
        refine at_ti ev200 ?_
        obtain ⟨⟨v201, h201⟩, e1, e⟩ := ob_some e
        refine at_callV4 hX cv_L_17 (by decide) (c_X7_cell _ _ _ _ _ _ _ e1) (Nat.le_of_ble_eq_true rfl) dL_law_201 ?_
        refine at_icmp_eq hX (tgt := 985) (by decide) dL_law_204 (fun c204 => ?_) (fun c204 => ?_)
        · replace e := ip_ c204 e
          exact at_sub [0, 1, 2, 3] rfl ((A_law_985 hn hX hR hSc (F_law_18 n xs L) ih) _ _ e)
        · replace e := in_ c204 e
          refine at_iconst hX (v := 0) (by decide) dL_law_207 ?_
          exact absurd (congrArg Prod.fst (Option.some.inj e)) (show ¬ (0 : Int32) = 1 by decide)
      · replace e := in_ w0 e
        by_cases w1 : v29 &&& (31 : Int32) = nI 1
        · replace e := ip_ w1 e
          refine at_tabIn hX (tgt := 209) 1 176 w1 (by decide) (by decide) rfl (by decide) dL_law_33 ?_
          refine at_aload_n hX rfl rfl dL_law_209 ?_
          refine at_aload_n hX rfl rfl dL_law_210 ?_
          refine at_iload_n hX rfl rfl dL_law_211 ?_
          refine at_iconst hX (v := 1) (by decide) dL_law_212 ?_
          refine at_iadd hX dL_law_213 ?_
          obtain ⟨hi, v214, ev214, e⟩ := sl_some e
          refine at_sld hX hSc hi dL_law_214 ?_
          refine at_ti ev214 ?_
          refine at_aload_n hX rfl rfl dL_law_215 ?_
          refine at_iload_n hX rfl rfl dL_law_216 ?_
          refine at_iconst hX (v := 2) (by decide) dL_law_217 ?_
          refine at_iadd hX dL_law_218 ?_
          obtain ⟨hi, v219, ev219, e⟩ := sl_some e
          refine at_sld hX hSc hi dL_law_219 ?_
          refine at_ti ev219 ?_
          refine at_aload_n hX rfl rfl dL_law_220 ?_
          refine at_iload_n hX rfl rfl dL_law_221 ?_
          refine at_iconst hX (v := 3) (by decide) dL_law_222 ?_
          refine at_iadd hX dL_law_223 ?_
          obtain ⟨hi, v224, ev224, e⟩ := sl_some e
          refine at_sld hX hSc hi dL_law_224 ?_
          refine at_ti ev224 ?_
          obtain ⟨⟨v225, h225⟩, e1, e⟩ := ob_some e
          refine at_callV3 hX cv_L_18 (by decide) (c_X6_cellOf _ _ _ _ _ _ e1) (Nat.le_of_ble_eq_true rfl) dL_law_225 ?_
          refine at_aload_n hX rfl rfl dL_law_228 ?_
          refine at_aload_n hX rfl rfl dL_law_229 ?_
          refine at_iload_n hX rfl rfl dL_law_230 ?_
          refine at_iconst hX (v := 1) (by decide) dL_law_231 ?_
          refine at_iadd hX dL_law_232 ?_
          obtain ⟨hi, v233, ev233, e⟩ := sl_some e
          refine at_sld hX hSc hi dL_law_233 ?_
          refine at_ti ev233 ?_
          refine at_aload_n hX rfl rfl dL_law_234 ?_
          refine at_iload_n hX rfl rfl dL_law_235 ?_
          refine at_iconst hX (v := 2) (by decide) dL_law_236 ?_
          refine at_iadd hX dL_law_237 ?_
          obtain ⟨hi, v238, ev238, e⟩ := sl_some e
          refine at_sld hX hSc hi dL_law_238 ?_
          refine at_ti ev238 ?_
          refine at_aload_n hX rfl rfl dL_law_239 ?_
          refine at_iload_n hX rfl rfl dL_law_240 ?_
          refine at_iconst hX (v := 3) (by decide) dL_law_241 ?_
          refine at_iadd hX dL_law_242 ?_
          obtain ⟨hi, v243, ev243, e⟩ := sl_some e
          refine at_sld hX hSc hi dL_law_243 ?_
          refine at_ti ev243 ?_
          obtain ⟨⟨v244, h244⟩, e1, e⟩ := ob_some e
          refine at_callV3 hX cv_L_22 (by decide) (c_X7_cellOf _ _ _ _ _ _ e1) (Nat.le_of_ble_eq_true rfl) dL_law_244 ?_
          refine at_icmp_eq hX (tgt := 985) (by decide) dL_law_247 (fun c247 => ?_) (fun c247 => ?_)
          · replace e := ip_ c247 e
            exact at_sub [0, 1, 2, 3] rfl ((A_law_985 hn hX hR hSc (F_law_18 n xs L) ih) _ _ e)
          · replace e := in_ c247 e
            refine at_iconst hX (v := 0) (by decide) dL_law_250 ?_
            exact absurd (congrArg Prod.fst (Option.some.inj e)) (show ¬ (0 : Int32) = 1 by decide)
        · replace e := in_ w1 e
          by_cases w2 : v29 &&& (31 : Int32) = nI 2
          · replace e := ip_ w2 e
            refine at_tabIn hX (tgt := 252) 2 219 w2 (by decide) (by decide) rfl (by decide) dL_law_33 ?_
            refine at_aload_n hX rfl rfl dL_law_252 ?_
            obtain ⟨v253, e1, e⟩ := ob_some e
            refine at_callV0 hX cv_L_23 (by decide) (c_X6_inner _ _  _ e1) (Nat.le_of_ble_eq_true rfl) dL_law_253 ?_
            refine at_aload_n hX rfl rfl dL_law_256 ?_
            obtain ⟨v257, e1, e⟩ := ob_some e
            refine at_callV0 hX cv_L_27 (by decide) (c_X7_inner _ _  _ e1) (Nat.le_of_ble_eq_true rfl) dL_law_257 ?_
            refine at_icmp_eq hX (tgt := 985) (by decide) dL_law_260 (fun c260 => ?_) (fun c260 => ?_)
            · replace e := ip_ c260 e
              exact at_sub [0, 1, 2, 3] rfl ((A_law_985 hn hX hR hSc (F_law_18 n xs L) ih) _ _ e)
            · replace e := in_ c260 e
              refine at_iconst hX (v := 0) (by decide) dL_law_263 ?_
              exact absurd (congrArg Prod.fst (Option.some.inj e)) (show ¬ (0 : Int32) = 1 by decide)
          · replace e := in_ w2 e
            by_cases w3 : v29 &&& (31 : Int32) = nI 3
            · replace e := ip_ w3 e
              refine at_tabIn hX (tgt := 265) 3 232 w3 (by decide) (by decide) rfl (by decide) dL_law_33 ?_
              refine at_aload_n hX rfl rfl dL_law_265 ?_
              refine at_aload_n hX rfl rfl dL_law_266 ?_
              refine at_iload_n hX rfl rfl dL_law_267 ?_
              refine at_iconst hX (v := 1) (by decide) dL_law_268 ?_
              refine at_iadd hX dL_law_269 ?_
              obtain ⟨hi, v270, ev270, e⟩ := sl_some e
              refine at_sld hX hSc hi dL_law_270 ?_
              refine at_ti ev270 ?_
              refine at_aload_n hX rfl rfl dL_law_271 ?_
              refine at_iload_n hX rfl rfl dL_law_272 ?_
              refine at_iconst hX (v := 2) (by decide) dL_law_273 ?_
              refine at_iadd hX dL_law_274 ?_
              obtain ⟨hi, v275, ev275, e⟩ := sl_some e
              refine at_sld hX hSc hi dL_law_275 ?_
              refine at_ti ev275 ?_
              refine at_aload_n hX rfl rfl dL_law_276 ?_
              refine at_iload_n hX rfl rfl dL_law_277 ?_
              refine at_iconst hX (v := 3) (by decide) dL_law_278 ?_
              refine at_iadd hX dL_law_279 ?_
              obtain ⟨hi, v280, ev280, e⟩ := sl_some e
              refine at_sld hX hSc hi dL_law_280 ?_
              refine at_ti ev280 ?_
              refine at_aload_n hX rfl rfl dL_law_281 ?_
              refine at_iload_n hX rfl rfl dL_law_282 ?_
              refine at_iconst hX (v := 4) (by decide) dL_law_283 ?_
              refine at_iadd hX dL_law_284 ?_
              obtain ⟨hi, v285, ev285, e⟩ := sl_some e
              refine at_sld hX hSc hi dL_law_285 ?_
              refine at_ti ev285 ?_
              refine at_aload_n hX rfl rfl dL_law_286 ?_
              refine at_iload_n hX rfl rfl dL_law_287 ?_
              refine at_iconst hX (v := 5) (by decide) dL_law_288 ?_
              refine at_iadd hX dL_law_289 ?_
              obtain ⟨hi, v290, ev290, e⟩ := sl_some e
              refine at_sld hX hSc hi dL_law_290 ?_
              refine at_ti ev290 ?_
              refine at_aload_n hX rfl rfl dL_law_291 ?_
              refine at_iload_n hX rfl rfl dL_law_292 ?_
              refine at_bipush hX (v := 6) (by decide) dL_law_293 ?_
              refine at_iadd hX dL_law_295 ?_
              obtain ⟨hi, v296, ev296, e⟩ := sl_some e
              refine at_sld hX hSc hi dL_law_296 ?_
              refine at_ti ev296 ?_
              obtain ⟨⟨v297, h297⟩, e1, e⟩ := ob_some e
              refine at_callV6 hX cv_L_28 (by decide) (c_X6_place _ _ _ _ _ _ _ _ _ e1) (Nat.le_of_ble_eq_true rfl) dL_law_297 ?_
              refine at_aload_n hX rfl rfl dL_law_300 ?_
              refine at_aload_n hX rfl rfl dL_law_301 ?_
              refine at_iload_n hX rfl rfl dL_law_302 ?_
              refine at_iconst hX (v := 1) (by decide) dL_law_303 ?_
              refine at_iadd hX dL_law_304 ?_
              obtain ⟨hi, v305, ev305, e⟩ := sl_some e
              refine at_sld hX hSc hi dL_law_305 ?_
              refine at_ti ev305 ?_
              refine at_aload_n hX rfl rfl dL_law_306 ?_
              refine at_iload_n hX rfl rfl dL_law_307 ?_
              refine at_iconst hX (v := 2) (by decide) dL_law_308 ?_
              refine at_iadd hX dL_law_309 ?_
              obtain ⟨hi, v310, ev310, e⟩ := sl_some e
              refine at_sld hX hSc hi dL_law_310 ?_
              refine at_ti ev310 ?_
              refine at_aload_n hX rfl rfl dL_law_311 ?_
              refine at_iload_n hX rfl rfl dL_law_312 ?_
              refine at_iconst hX (v := 3) (by decide) dL_law_313 ?_
              refine at_iadd hX dL_law_314 ?_
              obtain ⟨hi, v315, ev315, e⟩ := sl_some e
              refine at_sld hX hSc hi dL_law_315 ?_
              refine at_ti ev315 ?_
              refine at_aload_n hX rfl rfl dL_law_316 ?_
              refine at_iload_n hX rfl rfl dL_law_317 ?_
              refine at_iconst hX (v := 4) (by decide) dL_law_318 ?_
              refine at_iadd hX dL_law_319 ?_
              obtain ⟨hi, v320, ev320, e⟩ := sl_some e
              refine at_sld hX hSc hi dL_law_320 ?_
              refine at_ti ev320 ?_
              refine at_aload_n hX rfl rfl dL_law_321 ?_
              refine at_iload_n hX rfl rfl dL_law_322 ?_
              refine at_iconst hX (v := 5) (by decide) dL_law_323 ?_
              refine at_iadd hX dL_law_324 ?_
              obtain ⟨hi, v325, ev325, e⟩ := sl_some e
              refine at_sld hX hSc hi dL_law_325 ?_
              refine at_ti ev325 ?_
              refine at_aload_n hX rfl rfl dL_law_326 ?_
              refine at_iload_n hX rfl rfl dL_law_327 ?_
              refine at_bipush hX (v := 6) (by decide) dL_law_328 ?_
              refine at_iadd hX dL_law_330 ?_
              obtain ⟨hi, v331, ev331, e⟩ := sl_some e
              refine at_sld hX hSc hi dL_law_331 ?_
              refine at_ti ev331 ?_
              obtain ⟨⟨v332, h332⟩, e1, e⟩ := ob_some e
              refine at_callV6 hX cv_L_32 (by decide) (c_X7_place _ _ _ _ _ _ _ _ _ e1) (Nat.le_of_ble_eq_true rfl) dL_law_332 ?_
              refine at_icmp_eq hX (tgt := 985) (by decide) dL_law_335 (fun c335 => ?_) (fun c335 => ?_)
              · replace e := ip_ c335 e
                exact at_sub [0, 1, 2, 3] rfl ((A_law_985 hn hX hR hSc (F_law_18 n xs L) ih) _ _ e)
              · replace e := in_ c335 e
                refine at_iconst hX (v := 0) (by decide) dL_law_338 ?_
                exact absurd (congrArg Prod.fst (Option.some.inj e)) (show ¬ (0 : Int32) = 1 by decide)
            · replace e := in_ w3 e
              by_cases w4 : v29 &&& (31 : Int32) = nI 4
              · replace e := ip_ w4 e
                refine at_tabIn hX (tgt := 340) 4 307 w4 (by decide) (by decide) rfl (by decide) dL_law_33 ?_
                refine at_aload_n hX rfl rfl dL_law_340 ?_
                refine at_aload_n hX rfl rfl dL_law_341 ?_
                refine at_iload_n hX rfl rfl dL_law_342 ?_
                refine at_iconst hX (v := 1) (by decide) dL_law_343 ?_
                refine at_iadd hX dL_law_344 ?_
                obtain ⟨hi, v345, ev345, e⟩ := sl_some e
                refine at_sld hX hSc hi dL_law_345 ?_
                refine at_ti ev345 ?_
                obtain ⟨⟨v346, h346⟩, e1, e⟩ := ob_some e
                refine at_callV1 hX cv_L_33 (by decide) (c_X6_take _ _ _ _ e1) (Nat.le_of_ble_eq_true rfl) dL_law_346 ?_
                refine at_aload_n hX rfl rfl dL_law_349 ?_
                refine at_aload_n hX rfl rfl dL_law_350 ?_
                refine at_iload_n hX rfl rfl dL_law_351 ?_
                refine at_iconst hX (v := 1) (by decide) dL_law_352 ?_
                refine at_iadd hX dL_law_353 ?_
                obtain ⟨hi, v354, ev354, e⟩ := sl_some e
                refine at_sld hX hSc hi dL_law_354 ?_
                refine at_ti ev354 ?_
                obtain ⟨⟨v355, h355⟩, e1, e⟩ := ob_some e
                refine at_callV1 hX cv_L_37 (by decide) (c_X7_take _ _ _ _ e1) (Nat.le_of_ble_eq_true rfl) dL_law_355 ?_
                refine at_icmp_eq hX (tgt := 985) (by decide) dL_law_358 (fun c358 => ?_) (fun c358 => ?_)
                · replace e := ip_ c358 e
                  exact at_sub [0, 1, 2, 3] rfl ((A_law_985 hn hX hR hSc (F_law_18 n xs L) ih) _ _ e)
                · replace e := in_ c358 e
                  refine at_iconst hX (v := 0) (by decide) dL_law_361 ?_
                  exact absurd (congrArg Prod.fst (Option.some.inj e)) (show ¬ (0 : Int32) = 1 by decide)
              · replace e := in_ w4 e
                by_cases w5 : v29 &&& (31 : Int32) = nI 5
                · replace e := ip_ w5 e
                  refine at_tabIn hX (tgt := 363) 5 330 w5 (by decide) (by decide) rfl (by decide) dL_law_33 ?_
                  refine at_aload_n hX rfl rfl dL_law_363 ?_
                  refine at_aload_n hX rfl rfl dL_law_364 ?_
                  refine at_iload_n hX rfl rfl dL_law_365 ?_
                  refine at_iconst hX (v := 1) (by decide) dL_law_366 ?_
                  refine at_iadd hX dL_law_367 ?_
                  obtain ⟨hi, v368, ev368, e⟩ := sl_some e
                  refine at_sld hX hSc hi dL_law_368 ?_
                  refine at_ti ev368 ?_
                  refine at_aload_n hX rfl rfl dL_law_369 ?_
                  refine at_iload_n hX rfl rfl dL_law_370 ?_
                  refine at_iconst hX (v := 2) (by decide) dL_law_371 ?_
                  refine at_iadd hX dL_law_372 ?_
                  obtain ⟨hi, v373, ev373, e⟩ := sl_some e
                  refine at_sld hX hSc hi dL_law_373 ?_
                  refine at_ti ev373 ?_
                  refine at_aload_n hX rfl rfl dL_law_374 ?_
                  refine at_iload_n hX rfl rfl dL_law_375 ?_
                  refine at_iconst hX (v := 3) (by decide) dL_law_376 ?_
                  refine at_iadd hX dL_law_377 ?_
                  obtain ⟨hi, v378, ev378, e⟩ := sl_some e
                  refine at_sld hX hSc hi dL_law_378 ?_
                  refine at_ti ev378 ?_
                  obtain ⟨⟨v379, h379⟩, e1, e⟩ := ob_some e
                  refine at_callV3 hX cv_L_38 (by decide) (c_X6_at _ _ _ _ _ _ e1) (Nat.le_of_ble_eq_true rfl) dL_law_379 ?_
                  refine at_aload_n hX rfl rfl dL_law_382 ?_
                  refine at_aload_n hX rfl rfl dL_law_383 ?_
                  refine at_iload_n hX rfl rfl dL_law_384 ?_
                  refine at_iconst hX (v := 1) (by decide) dL_law_385 ?_
                  refine at_iadd hX dL_law_386 ?_
                  obtain ⟨hi, v387, ev387, e⟩ := sl_some e
                  refine at_sld hX hSc hi dL_law_387 ?_
                  refine at_ti ev387 ?_
                  refine at_aload_n hX rfl rfl dL_law_388 ?_
                  refine at_iload_n hX rfl rfl dL_law_389 ?_
                  refine at_iconst hX (v := 2) (by decide) dL_law_390 ?_
                  refine at_iadd hX dL_law_391 ?_
                  obtain ⟨hi, v392, ev392, e⟩ := sl_some e
                  refine at_sld hX hSc hi dL_law_392 ?_
                  refine at_ti ev392 ?_
                  refine at_aload_n hX rfl rfl dL_law_393 ?_
                  refine at_iload_n hX rfl rfl dL_law_394 ?_
                  refine at_iconst hX (v := 3) (by decide) dL_law_395 ?_
                  refine at_iadd hX dL_law_396 ?_
                  obtain ⟨hi, v397, ev397, e⟩ := sl_some e
                  refine at_sld hX hSc hi dL_law_397 ?_
                  refine at_ti ev397 ?_
                  obtain ⟨⟨v398, h398⟩, e1, e⟩ := ob_some e
                  refine at_callV3 hX cv_L_41 (by decide) (c_X7_at _ _ _ _ _ _ e1) (Nat.le_of_ble_eq_true rfl) dL_law_398 ?_
                  refine at_icmp_eq hX (tgt := 985) (by decide) dL_law_401 (fun c401 => ?_) (fun c401 => ?_)
                  · replace e := ip_ c401 e
                    exact at_sub [0, 1, 2, 3] rfl ((A_law_985 hn hX hR hSc (F_law_18 n xs L) ih) _ _ e)
                  · replace e := in_ c401 e
                    refine at_iconst hX (v := 0) (by decide) dL_law_404 ?_
                    exact absurd (congrArg Prod.fst (Option.some.inj e)) (show ¬ (0 : Int32) = 1 by decide)
                · replace e := in_ w5 e
                  by_cases w6 : v29 &&& (31 : Int32) = nI 6
                  · replace e := ip_ w6 e
                    refine at_tabIn hX (tgt := 406) 6 373 w6 (by decide) (by decide) rfl (by decide) dL_law_33 ?_
                    refine at_aload_n hX rfl rfl dL_law_406 ?_
                    refine at_aload_n hX rfl rfl dL_law_407 ?_
                    refine at_iload_n hX rfl rfl dL_law_408 ?_
                    refine at_iconst hX (v := 1) (by decide) dL_law_409 ?_
                    refine at_iadd hX dL_law_410 ?_
                    obtain ⟨hi, v411, ev411, e⟩ := sl_some e
                    refine at_sld hX hSc hi dL_law_411 ?_
                    refine at_ti ev411 ?_
                    refine at_aload_n hX rfl rfl dL_law_412 ?_
                    refine at_iload_n hX rfl rfl dL_law_413 ?_
                    refine at_iconst hX (v := 2) (by decide) dL_law_414 ?_
                    refine at_iadd hX dL_law_415 ?_
                    obtain ⟨hi, v416, ev416, e⟩ := sl_some e
                    refine at_sld hX hSc hi dL_law_416 ?_
                    refine at_ti ev416 ?_
                    obtain ⟨⟨v417, h417⟩, e1, e⟩ := ob_some e
                    refine at_callV2 hX cv_L_42 (by decide) (c_X6_studs _ _ _ _ _ e1) (Nat.le_of_ble_eq_true rfl) dL_law_417 ?_
                    refine at_aload_n hX rfl rfl dL_law_420 ?_
                    refine at_aload_n hX rfl rfl dL_law_421 ?_
                    refine at_iload_n hX rfl rfl dL_law_422 ?_
                    refine at_iconst hX (v := 1) (by decide) dL_law_423 ?_
                    refine at_iadd hX dL_law_424 ?_
                    obtain ⟨hi, v425, ev425, e⟩ := sl_some e
                    refine at_sld hX hSc hi dL_law_425 ?_
                    refine at_ti ev425 ?_
                    refine at_aload_n hX rfl rfl dL_law_426 ?_
                    refine at_iload_n hX rfl rfl dL_law_427 ?_
                    refine at_iconst hX (v := 2) (by decide) dL_law_428 ?_
                    refine at_iadd hX dL_law_429 ?_
                    obtain ⟨hi, v430, ev430, e⟩ := sl_some e
                    refine at_sld hX hSc hi dL_law_430 ?_
                    refine at_ti ev430 ?_
                    obtain ⟨⟨v431, h431⟩, e1, e⟩ := ob_some e
                    refine at_callV2 hX cv_L_46 (by decide) (c_X7_studs _ _ _ _ _ e1) (Nat.le_of_ble_eq_true rfl) dL_law_431 ?_
                    refine at_icmp_eq hX (tgt := 985) (by decide) dL_law_434 (fun c434 => ?_) (fun c434 => ?_)
                    · replace e := ip_ c434 e
                      exact at_sub [0, 1, 2, 3] rfl ((A_law_985 hn hX hR hSc (F_law_18 n xs L) ih) _ _ e)
                    · replace e := in_ c434 e
                      refine at_iconst hX (v := 0) (by decide) dL_law_437 ?_
                      exact absurd (congrArg Prod.fst (Option.some.inj e)) (show ¬ (0 : Int32) = 1 by decide)
                  · replace e := in_ w6 e
                    by_cases w7 : v29 &&& (31 : Int32) = nI 7
                    · replace e := ip_ w7 e
                      refine at_tabIn hX (tgt := 439) 7 406 w7 (by decide) (by decide) rfl (by decide) dL_law_33 ?_
                      refine at_aload_n hX rfl rfl dL_law_439 ?_
                      obtain ⟨v440, e1, e⟩ := ob_some e
                      refine at_callV0 hX cv_L_47 (by decide) (c_X6_pieces _ _  _ e1) (Nat.le_of_ble_eq_true rfl) dL_law_440 ?_
                      refine at_aload_n hX rfl rfl dL_law_443 ?_
                      obtain ⟨⟨v444, h444⟩, e1, e⟩ := ob_some e
                      refine at_callV0 hX cv_L_50 (by decide) (c_X7_pieces _ _  _ e1) (Nat.le_of_ble_eq_true rfl) dL_law_444 ?_
                      refine at_icmp_eq hX (tgt := 985) (by decide) dL_law_447 (fun c447 => ?_) (fun c447 => ?_)
                      · replace e := ip_ c447 e
                        exact at_sub [0, 1, 2, 3] rfl ((A_law_985 hn hX hR hSc (F_law_18 n xs L) ih) _ _ e)
                      · replace e := in_ c447 e
                        refine at_iconst hX (v := 0) (by decide) dL_law_450 ?_
                        exact absurd (congrArg Prod.fst (Option.some.inj e)) (show ¬ (0 : Int32) = 1 by decide)
                    · replace e := in_ w7 e
                      by_cases w8 : v29 &&& (31 : Int32) = nI 8
                      · replace e := ip_ w8 e
                        refine at_tabIn hX (tgt := 452) 8 419 w8 (by decide) (by decide) rfl (by decide) dL_law_33 ?_
                        refine at_aload_n hX rfl rfl dL_law_452 ?_
                        refine at_aload_n hX rfl rfl dL_law_453 ?_
                        refine at_iload_n hX rfl rfl dL_law_454 ?_
                        refine at_iconst hX (v := 1) (by decide) dL_law_455 ?_
                        refine at_iadd hX dL_law_456 ?_
                        obtain ⟨hi, v457, ev457, e⟩ := sl_some e
                        refine at_sld hX hSc hi dL_law_457 ?_
                        refine at_ti ev457 ?_
                        obtain ⟨⟨v458, h458⟩, e1, e⟩ := ob_some e
                        refine at_callV1 hX cv_L_51 (by decide) (c_X6_piece _ _ _ _ e1) (Nat.le_of_ble_eq_true rfl) dL_law_458 ?_
                        refine at_aload_n hX rfl rfl dL_law_461 ?_
                        refine at_aload_n hX rfl rfl dL_law_462 ?_
                        refine at_iload_n hX rfl rfl dL_law_463 ?_
                        refine at_iconst hX (v := 1) (by decide) dL_law_464 ?_
                        refine at_iadd hX dL_law_465 ?_
                        obtain ⟨hi, v466, ev466, e⟩ := sl_some e
                        refine at_sld hX hSc hi dL_law_466 ?_
                        refine at_ti ev466 ?_
                        obtain ⟨⟨v467, h467⟩, e1, e⟩ := ob_some e
                        refine at_callV1 hX cv_L_54 (by decide) (c_X7_piece _ _ _ _ e1) (Nat.le_of_ble_eq_true rfl) dL_law_467 ?_
                        refine at_icmp_eq hX (tgt := 985) (by decide) dL_law_470 (fun c470 => ?_) (fun c470 => ?_)
                        · replace e := ip_ c470 e
                          exact at_sub [0, 1, 2, 3] rfl ((A_law_985 hn hX hR hSc (F_law_18 n xs L) ih) _ _ e)
                        · replace e := in_ c470 e
                          refine at_iconst hX (v := 0) (by decide) dL_law_473 ?_
                          exact absurd (congrArg Prod.fst (Option.some.inj e)) (show ¬ (0 : Int32) = 1 by decide)
                      · replace e := in_ w8 e
                        by_cases w9 : v29 &&& (31 : Int32) = nI 9
                        · replace e := ip_ w9 e
                          refine at_tabIn hX (tgt := 475) 9 442 w9 (by decide) (by decide) rfl (by decide) dL_law_33 ?_
                          refine at_aload_n hX rfl rfl dL_law_475 ?_
                          refine at_aload_n hX rfl rfl dL_law_476 ?_
                          refine at_iload_n hX rfl rfl dL_law_477 ?_
                          refine at_iconst hX (v := 1) (by decide) dL_law_478 ?_
                          refine at_iadd hX dL_law_479 ?_
                          obtain ⟨hi, v480, ev480, e⟩ := sl_some e
                          refine at_sld hX hSc hi dL_law_480 ?_
                          refine at_ti ev480 ?_
                          refine at_aload_n hX rfl rfl dL_law_481 ?_
                          refine at_iload_n hX rfl rfl dL_law_482 ?_
                          refine at_iconst hX (v := 2) (by decide) dL_law_483 ?_
                          refine at_iadd hX dL_law_484 ?_
                          obtain ⟨hi, v485, ev485, e⟩ := sl_some e
                          refine at_sld hX hSc hi dL_law_485 ?_
                          refine at_ti ev485 ?_
                          obtain ⟨⟨v486, h486⟩, e1, e⟩ := ob_some e
                          refine at_callV2 hX cv_L_55 (by decide) (c_X6_pieceOf _ _ _ _ _ e1) (Nat.le_of_ble_eq_true rfl) dL_law_486 ?_
                          refine at_aload_n hX rfl rfl dL_law_489 ?_
                          refine at_aload_n hX rfl rfl dL_law_490 ?_
                          refine at_iload_n hX rfl rfl dL_law_491 ?_
                          refine at_iconst hX (v := 1) (by decide) dL_law_492 ?_
                          refine at_iadd hX dL_law_493 ?_
                          obtain ⟨hi, v494, ev494, e⟩ := sl_some e
                          refine at_sld hX hSc hi dL_law_494 ?_
                          refine at_ti ev494 ?_
                          refine at_aload_n hX rfl rfl dL_law_495 ?_
                          refine at_iload_n hX rfl rfl dL_law_496 ?_
                          refine at_iconst hX (v := 2) (by decide) dL_law_497 ?_
                          refine at_iadd hX dL_law_498 ?_
                          obtain ⟨hi, v499, ev499, e⟩ := sl_some e
                          refine at_sld hX hSc hi dL_law_499 ?_
                          refine at_ti ev499 ?_
                          obtain ⟨⟨v500, h500⟩, e1, e⟩ := ob_some e
                          refine at_callV2 hX cv_L_58 (by decide) (c_X7_pieceOf _ _ _ _ _ e1) (Nat.le_of_ble_eq_true rfl) dL_law_500 ?_
                          refine at_icmp_eq hX (tgt := 985) (by decide) dL_law_503 (fun c503 => ?_) (fun c503 => ?_)
                          · replace e := ip_ c503 e
                            exact at_sub [0, 1, 2, 3] rfl ((A_law_985 hn hX hR hSc (F_law_18 n xs L) ih) _ _ e)
                          · replace e := in_ c503 e
                            refine at_iconst hX (v := 0) (by decide) dL_law_506 ?_
                            exact absurd (congrArg Prod.fst (Option.some.inj e)) (show ¬ (0 : Int32) = 1 by decide)
                        · replace e := in_ w9 e
                          by_cases w10 : v29 &&& (31 : Int32) = nI 10
                          · replace e := ip_ w10 e
                            refine at_tabIn hX (tgt := 508) 10 475 w10 (by decide) (by decide) rfl (by decide) dL_law_33 ?_
                            refine at_aload_n hX rfl rfl dL_law_508 ?_
                            refine at_aload_n hX rfl rfl dL_law_509 ?_
                            refine at_iload_n hX rfl rfl dL_law_510 ?_
                            refine at_iconst hX (v := 1) (by decide) dL_law_511 ?_
                            refine at_iadd hX dL_law_512 ?_
                            obtain ⟨hi, v513, ev513, e⟩ := sl_some e
                            refine at_sld hX hSc hi dL_law_513 ?_
                            refine at_ti ev513 ?_
                            obtain ⟨⟨v514, h514⟩, e1, e⟩ := ob_some e
                            refine at_callV1 hX cv_L_59 (by decide) (c_X6_key _ _ _ _ e1) (Nat.le_of_ble_eq_true rfl) dL_law_514 ?_
                            refine at_aload_n hX rfl rfl dL_law_517 ?_
                            refine at_aload_n hX rfl rfl dL_law_518 ?_
                            refine at_iload_n hX rfl rfl dL_law_519 ?_
                            refine at_iconst hX (v := 1) (by decide) dL_law_520 ?_
                            refine at_iadd hX dL_law_521 ?_
                            obtain ⟨hi, v522, ev522, e⟩ := sl_some e
                            refine at_sld hX hSc hi dL_law_522 ?_
                            refine at_ti ev522 ?_
                            obtain ⟨⟨v523, h523⟩, e1, e⟩ := ob_some e
                            refine at_callV1 hX cv_L_62 (by decide) (c_X7_key _ _ _ _ e1) (Nat.le_of_ble_eq_true rfl) dL_law_523 ?_
                            refine at_icmp_eq hX (tgt := 985) (by decide) dL_law_526 (fun c526 => ?_) (fun c526 => ?_)
                            · replace e := ip_ c526 e
                              exact at_sub [0, 1, 2, 3] rfl ((A_law_985 hn hX hR hSc (F_law_18 n xs L) ih) _ _ e)
                            · replace e := in_ c526 e
                              refine at_iconst hX (v := 0) (by decide) dL_law_529 ?_
                              exact absurd (congrArg Prod.fst (Option.some.inj e)) (show ¬ (0 : Int32) = 1 by decide)
                          · replace e := in_ w10 e
                            by_cases w11 : v29 &&& (31 : Int32) = nI 11
                            · replace e := ip_ w11 e
                              refine at_tabIn hX (tgt := 531) 11 498 w11 (by decide) (by decide) rfl (by decide) dL_law_33 ?_
                              refine at_aload_n hX rfl rfl dL_law_531 ?_
                              refine at_aload_n hX rfl rfl dL_law_532 ?_
                              refine at_iload_n hX rfl rfl dL_law_533 ?_
                              refine at_iconst hX (v := 1) (by decide) dL_law_534 ?_
                              refine at_iadd hX dL_law_535 ?_
                              obtain ⟨hi, v536, ev536, e⟩ := sl_some e
                              refine at_sld hX hSc hi dL_law_536 ?_
                              refine at_ti ev536 ?_
                              obtain ⟨⟨v537, h537⟩, e1, e⟩ := ob_some e
                              refine at_callV1 hX cv_L_63 (by decide) (c_X6_weak _ _ _ _ e1) (Nat.le_of_ble_eq_true rfl) dL_law_537 ?_
                              refine at_aload_n hX rfl rfl dL_law_540 ?_
                              refine at_aload_n hX rfl rfl dL_law_541 ?_
                              refine at_iload_n hX rfl rfl dL_law_542 ?_
                              refine at_iconst hX (v := 1) (by decide) dL_law_543 ?_
                              refine at_iadd hX dL_law_544 ?_
                              obtain ⟨hi, v545, ev545, e⟩ := sl_some e
                              refine at_sld hX hSc hi dL_law_545 ?_
                              refine at_ti ev545 ?_
                              obtain ⟨⟨v546, h546⟩, e1, e⟩ := ob_some e
                              refine at_callV1 hX cv_L_66 (by decide) (c_X7_weak _ _ _ _ e1) (Nat.le_of_ble_eq_true rfl) dL_law_546 ?_
                              refine at_icmp_eq hX (tgt := 985) (by decide) dL_law_549 (fun c549 => ?_) (fun c549 => ?_)
                              · replace e := ip_ c549 e
                                exact at_sub [0, 1, 2, 3] rfl ((A_law_985 hn hX hR hSc (F_law_18 n xs L) ih) _ _ e)
                              · replace e := in_ c549 e
                                refine at_iconst hX (v := 0) (by decide) dL_law_552 ?_
                                exact absurd (congrArg Prod.fst (Option.some.inj e)) (show ¬ (0 : Int32) = 1 by decide)
                            · replace e := in_ w11 e
                              by_cases w12 : v29 &&& (31 : Int32) = nI 12
                              · replace e := ip_ w12 e
                                refine at_tabIn hX (tgt := 554) 12 521 w12 (by decide) (by decide) rfl (by decide) dL_law_33 ?_
                                refine at_aload_n hX rfl rfl dL_law_554 ?_
                                obtain ⟨⟨v555, h555⟩, e1, e⟩ := ob_some e
                                refine at_callV0 hX cv_L_67 (by decide) (c_X6_sound _ _  _ e1) (Nat.le_of_ble_eq_true rfl) dL_law_555 ?_
                                refine at_aload_n hX rfl rfl dL_law_558 ?_
                                obtain ⟨⟨v559, h559⟩, e1, e⟩ := ob_some e
                                refine at_callV0 hX cv_L_70 (by decide) (c_X7_sound _ _  _ e1) (Nat.le_of_ble_eq_true rfl) dL_law_559 ?_
                                refine at_icmp_eq hX (tgt := 985) (by decide) dL_law_562 (fun c562 => ?_) (fun c562 => ?_)
                                · replace e := ip_ c562 e
                                  exact at_sub [0, 1, 2, 3] rfl ((A_law_985 hn hX hR hSc (F_law_18 n xs L) ih) _ _ e)
                                · replace e := in_ c562 e
                                  refine at_iconst hX (v := 0) (by decide) dL_law_565 ?_
                                  exact absurd (congrArg Prod.fst (Option.some.inj e)) (show ¬ (0 : Int32) = 1 by decide)
                              · replace e := in_ w12 e
                                by_cases w13 : v29 &&& (31 : Int32) = nI 13
                                · replace e := ip_ w13 e
                                  refine at_tabIn hX (tgt := 567) 13 534 w13 (by decide) (by decide) rfl (by decide) dL_law_33 ?_
                                  refine at_aload_n hX rfl rfl dL_law_567 ?_
                                  refine at_aload_n hX rfl rfl dL_law_568 ?_
                                  refine at_iload_n hX rfl rfl dL_law_569 ?_
                                  refine at_iconst hX (v := 1) (by decide) dL_law_570 ?_
                                  refine at_iadd hX dL_law_571 ?_
                                  obtain ⟨hi, v572, ev572, e⟩ := sl_some e
                                  refine at_sld hX hSc hi dL_law_572 ?_
                                  refine at_ti ev572 ?_
                                  obtain ⟨⟨v573, h573⟩, e1, e⟩ := ob_some e
                                  refine at_callV1 hX cv_L_71 (by decide) (c_X6_grip _ _ _ _ e1) (Nat.le_of_ble_eq_true rfl) dL_law_573 ?_
                                  refine at_aload_n hX rfl rfl dL_law_576 ?_
                                  refine at_aload_n hX rfl rfl dL_law_577 ?_
                                  refine at_iload_n hX rfl rfl dL_law_578 ?_
                                  refine at_iconst hX (v := 1) (by decide) dL_law_579 ?_
                                  refine at_iadd hX dL_law_580 ?_
                                  obtain ⟨hi, v581, ev581, e⟩ := sl_some e
                                  refine at_sld hX hSc hi dL_law_581 ?_
                                  refine at_ti ev581 ?_
                                  obtain ⟨⟨v582, h582⟩, e1, e⟩ := ob_some e
                                  refine at_callV1 hX cv_L_74 (by decide) (c_X7_grip _ _ _ _ e1) (Nat.le_of_ble_eq_true rfl) dL_law_582 ?_
                                  refine at_icmp_eq hX (tgt := 985) (by decide) dL_law_585 (fun c585 => ?_) (fun c585 => ?_)
                                  · replace e := ip_ c585 e
                                    exact at_sub [0, 1, 2, 3] rfl ((A_law_985 hn hX hR hSc (F_law_18 n xs L) ih) _ _ e)
                                  · replace e := in_ c585 e
                                    refine at_iconst hX (v := 0) (by decide) dL_law_588 ?_
                                    exact absurd (congrArg Prod.fst (Option.some.inj e)) (show ¬ (0 : Int32) = 1 by decide)
                                · replace e := in_ w13 e
                                  by_cases w14 : v29 &&& (31 : Int32) = nI 14
                                  · replace e := ip_ w14 e
                                    refine at_tabIn hX (tgt := 590) 14 557 w14 (by decide) (by decide) rfl (by decide) dL_law_33 ?_
                                    refine at_aload_n hX rfl rfl dL_law_590 ?_
                                    refine at_aload_n hX rfl rfl dL_law_591 ?_
                                    refine at_iload_n hX rfl rfl dL_law_592 ?_
                                    refine at_iconst hX (v := 1) (by decide) dL_law_593 ?_
                                    refine at_iadd hX dL_law_594 ?_
                                    obtain ⟨hi, v595, ev595, e⟩ := sl_some e
                                    refine at_sld hX hSc hi dL_law_595 ?_
                                    refine at_ti ev595 ?_
                                    obtain ⟨⟨v596, h596⟩, e1, e⟩ := ob_some e
                                    refine at_callV1 hX cv_L_75 (by decide) (c_X6_fit _ _ _ _ e1) (Nat.le_of_ble_eq_true rfl) dL_law_596 ?_
                                    refine at_aload_n hX rfl rfl dL_law_599 ?_
                                    refine at_aload_n hX rfl rfl dL_law_600 ?_
                                    refine at_iload_n hX rfl rfl dL_law_601 ?_
                                    refine at_iconst hX (v := 1) (by decide) dL_law_602 ?_
                                    refine at_iadd hX dL_law_603 ?_
                                    obtain ⟨hi, v604, ev604, e⟩ := sl_some e
                                    refine at_sld hX hSc hi dL_law_604 ?_
                                    refine at_ti ev604 ?_
                                    obtain ⟨⟨v605, h605⟩, e1, e⟩ := ob_some e
                                    refine at_callV1 hX cv_L_78 (by decide) (c_X7_fit _ _ _ _ e1) (Nat.le_of_ble_eq_true rfl) dL_law_605 ?_
                                    refine at_icmp_eq hX (tgt := 985) (by decide) dL_law_608 (fun c608 => ?_) (fun c608 => ?_)
                                    · replace e := ip_ c608 e
                                      exact at_sub [0, 1, 2, 3] rfl ((A_law_985 hn hX hR hSc (F_law_18 n xs L) ih) _ _ e)
                                    · replace e := in_ c608 e
                                      refine at_iconst hX (v := 0) (by decide) dL_law_611 ?_
                                      exact absurd (congrArg Prod.fst (Option.some.inj e)) (show ¬ (0 : Int32) = 1 by decide)
                                  · replace e := in_ w14 e
                                    by_cases w15 : v29 &&& (31 : Int32) = nI 15
                                    · replace e := ip_ w15 e
                                      refine at_tabIn hX (tgt := 613) 15 580 w15 (by decide) (by decide) rfl (by decide) dL_law_33 ?_
                                      refine at_aload_n hX rfl rfl dL_law_613 ?_
                                      refine at_aload_n hX rfl rfl dL_law_614 ?_
                                      refine at_iload_n hX rfl rfl dL_law_615 ?_
                                      refine at_iconst hX (v := 1) (by decide) dL_law_616 ?_
                                      refine at_iadd hX dL_law_617 ?_
                                      obtain ⟨hi, v618, ev618, e⟩ := sl_some e
                                      refine at_sld hX hSc hi dL_law_618 ?_
                                      refine at_ti ev618 ?_
                                      refine at_if_eq hX (tgt := 626) (by decide) dL_law_619 (fun c619 => ?_) (fun c619 => ?_)
                                      · replace e := ip_ c619 e
                                        refine at_iconst hX (v := 0) (by decide) dL_law_626 ?_
                                        exact at_sub [0, 1, 2, 3] rfl ((A_law_627 hn hX hR hSc (F_law_18 n xs L) ih) _ _ _ e)
                                      · replace e := in_ c619 e
                                        refine at_iconst hX (v := 1) (by decide) dL_law_622 ?_
                                        refine at_goto hX (tgt := 627) (by decide) dL_law_623 ?_
                                        exact at_sub [0, 1, 2, 3] rfl ((A_law_627 hn hX hR hSc (F_law_18 n xs L) ih) _ _ _ e)
                                    · replace e := in_ w15 e
                                      by_cases w16 : v29 &&& (31 : Int32) = nI 16
                                      · replace e := ip_ w16 e
                                        refine at_tabIn hX (tgt := 652) 16 619 w16 (by decide) (by decide) rfl (by decide) dL_law_33 ?_
                                        refine at_aload_n hX rfl rfl dL_law_652 ?_
                                        refine at_aload_n hX rfl rfl dL_law_653 ?_
                                        refine at_iload_n hX rfl rfl dL_law_654 ?_
                                        refine at_iconst hX (v := 1) (by decide) dL_law_655 ?_
                                        refine at_iadd hX dL_law_656 ?_
                                        obtain ⟨hi, v657, ev657, e⟩ := sl_some e
                                        refine at_sld hX hSc hi dL_law_657 ?_
                                        refine at_ti ev657 ?_
                                        refine at_aload_n hX rfl rfl dL_law_658 ?_
                                        refine at_iload_n hX rfl rfl dL_law_659 ?_
                                        refine at_iconst hX (v := 2) (by decide) dL_law_660 ?_
                                        refine at_iadd hX dL_law_661 ?_
                                        obtain ⟨hi, v662, ev662, e⟩ := sl_some e
                                        refine at_sld hX hSc hi dL_law_662 ?_
                                        refine at_ti ev662 ?_
                                        obtain ⟨⟨v663, h663⟩, e1, e⟩ := ob_some e
                                        refine at_callV2 hX cv_L_84 (by decide) (c_X6_cover _ _ _ _ _ e1) (Nat.le_of_ble_eq_true rfl) dL_law_663 ?_
                                        refine at_aload_n hX rfl rfl dL_law_666 ?_
                                        refine at_aload_n hX rfl rfl dL_law_667 ?_
                                        refine at_iload_n hX rfl rfl dL_law_668 ?_
                                        refine at_iconst hX (v := 1) (by decide) dL_law_669 ?_
                                        refine at_iadd hX dL_law_670 ?_
                                        obtain ⟨hi, v671, ev671, e⟩ := sl_some e
                                        refine at_sld hX hSc hi dL_law_671 ?_
                                        refine at_ti ev671 ?_
                                        refine at_aload_n hX rfl rfl dL_law_672 ?_
                                        refine at_iload_n hX rfl rfl dL_law_673 ?_
                                        refine at_iconst hX (v := 2) (by decide) dL_law_674 ?_
                                        refine at_iadd hX dL_law_675 ?_
                                        obtain ⟨hi, v676, ev676, e⟩ := sl_some e
                                        refine at_sld hX hSc hi dL_law_676 ?_
                                        refine at_ti ev676 ?_
                                        obtain ⟨⟨v677, h677⟩, e1, e⟩ := ob_some e
                                        refine at_callV2 hX cv_L_87 (by decide) (c_X7_cover _ _ _ _ _ e1) (Nat.le_of_ble_eq_true rfl) dL_law_677 ?_
                                        refine at_icmp_eq hX (tgt := 985) (by decide) dL_law_680 (fun c680 => ?_) (fun c680 => ?_)
                                        · replace e := ip_ c680 e
                                          exact at_sub [0, 1, 2, 3] rfl ((A_law_985 hn hX hR hSc (F_law_18 n xs L) ih) _ _ e)
                                        · replace e := in_ c680 e
                                          refine at_iconst hX (v := 0) (by decide) dL_law_683 ?_
                                          exact absurd (congrArg Prod.fst (Option.some.inj e)) (show ¬ (0 : Int32) = 1 by decide)
                                      · replace e := in_ w16 e
                                        by_cases w17 : v29 &&& (31 : Int32) = nI 17
                                        · replace e := ip_ w17 e
                                          refine at_tabIn hX (tgt := 685) 17 652 w17 (by decide) (by decide) rfl (by decide) dL_law_33 ?_
                                          refine at_aload_n hX rfl rfl dL_law_685 ?_
                                          refine at_aload_n hX rfl rfl dL_law_686 ?_
                                          refine at_iload_n hX rfl rfl dL_law_687 ?_
                                          refine at_iconst hX (v := 1) (by decide) dL_law_688 ?_
                                          refine at_iadd hX dL_law_689 ?_
                                          obtain ⟨hi, v690, ev690, e⟩ := sl_some e
                                          refine at_sld hX hSc hi dL_law_690 ?_
                                          refine at_ti ev690 ?_
                                          refine at_aload_n hX rfl rfl dL_law_691 ?_
                                          refine at_iload_n hX rfl rfl dL_law_692 ?_
                                          refine at_iconst hX (v := 2) (by decide) dL_law_693 ?_
                                          refine at_iadd hX dL_law_694 ?_
                                          obtain ⟨hi, v695, ev695, e⟩ := sl_some e
                                          refine at_sld hX hSc hi dL_law_695 ?_
                                          refine at_ti ev695 ?_
                                          obtain ⟨⟨v696, h696⟩, e1, e⟩ := ob_some e
                                          refine at_callV2 hX cv_L_88 (by decide) (c_X6_coverSeams _ _ _ _ _ e1) (Nat.le_of_ble_eq_true rfl) dL_law_696 ?_
                                          refine at_aload_n hX rfl rfl dL_law_699 ?_
                                          refine at_aload_n hX rfl rfl dL_law_700 ?_
                                          refine at_iload_n hX rfl rfl dL_law_701 ?_
                                          refine at_iconst hX (v := 1) (by decide) dL_law_702 ?_
                                          refine at_iadd hX dL_law_703 ?_
                                          obtain ⟨hi, v704, ev704, e⟩ := sl_some e
                                          refine at_sld hX hSc hi dL_law_704 ?_
                                          refine at_ti ev704 ?_
                                          refine at_aload_n hX rfl rfl dL_law_705 ?_
                                          refine at_iload_n hX rfl rfl dL_law_706 ?_
                                          refine at_iconst hX (v := 2) (by decide) dL_law_707 ?_
                                          refine at_iadd hX dL_law_708 ?_
                                          obtain ⟨hi, v709, ev709, e⟩ := sl_some e
                                          refine at_sld hX hSc hi dL_law_709 ?_
                                          refine at_ti ev709 ?_
                                          obtain ⟨⟨v710, h710⟩, e1, e⟩ := ob_some e
                                          refine at_callV2 hX cv_L_91 (by decide) (c_X7_coverSeams _ _ _ _ _ e1) (Nat.le_of_ble_eq_true rfl) dL_law_710 ?_
                                          refine at_icmp_eq hX (tgt := 985) (by decide) dL_law_713 (fun c713 => ?_) (fun c713 => ?_)
                                          · replace e := ip_ c713 e
                                            exact at_sub [0, 1, 2, 3] rfl ((A_law_985 hn hX hR hSc (F_law_18 n xs L) ih) _ _ e)
                                          · replace e := in_ c713 e
                                            refine at_iconst hX (v := 0) (by decide) dL_law_716 ?_
                                            exact absurd (congrArg Prod.fst (Option.some.inj e)) (show ¬ (0 : Int32) = 1 by decide)
                                        · replace e := in_ w17 e
                                          by_cases w18 : v29 &&& (31 : Int32) = nI 18
                                          · replace e := ip_ w18 e
                                            refine at_tabIn hX (tgt := 718) 18 685 w18 (by decide) (by decide) rfl (by decide) dL_law_33 ?_
                                            refine at_aload_n hX rfl rfl dL_law_718 ?_
                                            refine at_aload_n hX rfl rfl dL_law_719 ?_
                                            refine at_iload_n hX rfl rfl dL_law_720 ?_
                                            refine at_iconst hX (v := 1) (by decide) dL_law_721 ?_
                                            refine at_iadd hX dL_law_722 ?_
                                            obtain ⟨hi, v723, ev723, e⟩ := sl_some e
                                            refine at_sld hX hSc hi dL_law_723 ?_
                                            refine at_ti ev723 ?_
                                            refine at_aload_n hX rfl rfl dL_law_724 ?_
                                            refine at_iload_n hX rfl rfl dL_law_725 ?_
                                            refine at_iconst hX (v := 2) (by decide) dL_law_726 ?_
                                            refine at_iadd hX dL_law_727 ?_
                                            obtain ⟨hi, v728, ev728, e⟩ := sl_some e
                                            refine at_sld hX hSc hi dL_law_728 ?_
                                            refine at_ti ev728 ?_
                                            refine at_aload_n hX rfl rfl dL_law_729 ?_
                                            refine at_iload_n hX rfl rfl dL_law_730 ?_
                                            refine at_iconst hX (v := 3) (by decide) dL_law_731 ?_
                                            refine at_iadd hX dL_law_732 ?_
                                            obtain ⟨hi, v733, ev733, e⟩ := sl_some e
                                            refine at_sld hX hSc hi dL_law_733 ?_
                                            refine at_ti ev733 ?_
                                            obtain ⟨⟨v734, h734⟩, e1, e⟩ := ob_some e
                                            refine at_callV3 hX cv_L_92 (by decide) (c_X6_coverAt _ _ _ _ _ _ e1) (Nat.le_of_ble_eq_true rfl) dL_law_734 ?_
                                            refine at_aload_n hX rfl rfl dL_law_737 ?_
                                            refine at_aload_n hX rfl rfl dL_law_738 ?_
                                            refine at_iload_n hX rfl rfl dL_law_739 ?_
                                            refine at_iconst hX (v := 1) (by decide) dL_law_740 ?_
                                            refine at_iadd hX dL_law_741 ?_
                                            obtain ⟨hi, v742, ev742, e⟩ := sl_some e
                                            refine at_sld hX hSc hi dL_law_742 ?_
                                            refine at_ti ev742 ?_
                                            refine at_aload_n hX rfl rfl dL_law_743 ?_
                                            refine at_iload_n hX rfl rfl dL_law_744 ?_
                                            refine at_iconst hX (v := 2) (by decide) dL_law_745 ?_
                                            refine at_iadd hX dL_law_746 ?_
                                            obtain ⟨hi, v747, ev747, e⟩ := sl_some e
                                            refine at_sld hX hSc hi dL_law_747 ?_
                                            refine at_ti ev747 ?_
                                            refine at_aload_n hX rfl rfl dL_law_748 ?_
                                            refine at_iload_n hX rfl rfl dL_law_749 ?_
                                            refine at_iconst hX (v := 3) (by decide) dL_law_750 ?_
                                            refine at_iadd hX dL_law_751 ?_
                                            obtain ⟨hi, v752, ev752, e⟩ := sl_some e
                                            refine at_sld hX hSc hi dL_law_752 ?_
                                            refine at_ti ev752 ?_
                                            obtain ⟨⟨v753, h753⟩, e1, e⟩ := ob_some e
                                            refine at_callV3 hX cv_L_95 (by decide) (c_X7_coverAt _ _ _ _ _ _ e1) (Nat.le_of_ble_eq_true rfl) dL_law_753 ?_
                                            refine at_icmp_eq hX (tgt := 985) (by decide) dL_law_756 (fun c756 => ?_) (fun c756 => ?_)
                                            · replace e := ip_ c756 e
                                              exact at_sub [0, 1, 2, 3] rfl ((A_law_985 hn hX hR hSc (F_law_18 n xs L) ih) _ _ e)
                                            · replace e := in_ c756 e
                                              refine at_iconst hX (v := 0) (by decide) dL_law_759 ?_
                                              exact absurd (congrArg Prod.fst (Option.some.inj e)) (show ¬ (0 : Int32) = 1 by decide)
                                          · replace e := in_ w18 e
                                            by_cases w19 : v29 &&& (31 : Int32) = nI 19
                                            · replace e := ip_ w19 e
                                              refine at_tabIn hX (tgt := 761) 19 728 w19 (by decide) (by decide) rfl (by decide) dL_law_33 ?_
                                              refine at_aload_n hX rfl rfl dL_law_761 ?_
                                              refine at_aload_n hX rfl rfl dL_law_762 ?_
                                              refine at_iload_n hX rfl rfl dL_law_763 ?_
                                              refine at_iconst hX (v := 1) (by decide) dL_law_764 ?_
                                              refine at_iadd hX dL_law_765 ?_
                                              obtain ⟨hi, v766, ev766, e⟩ := sl_some e
                                              refine at_sld hX hSc hi dL_law_766 ?_
                                              refine at_ti ev766 ?_
                                              refine at_aload_n hX rfl rfl dL_law_767 ?_
                                              refine at_iload_n hX rfl rfl dL_law_768 ?_
                                              refine at_iconst hX (v := 2) (by decide) dL_law_769 ?_
                                              refine at_iadd hX dL_law_770 ?_
                                              obtain ⟨hi, v771, ev771, e⟩ := sl_some e
                                              refine at_sld hX hSc hi dL_law_771 ?_
                                              refine at_ti ev771 ?_
                                              obtain ⟨⟨v772, h772⟩, e1, e⟩ := ob_some e
                                              refine at_callV2 hX cv_L_96 (by decide) (c_X6_lay _ _ _ _ _ e1) (Nat.le_of_ble_eq_true rfl) dL_law_772 ?_
                                              refine at_aload_n hX rfl rfl dL_law_775 ?_
                                              refine at_aload_n hX rfl rfl dL_law_776 ?_
                                              refine at_iload_n hX rfl rfl dL_law_777 ?_
                                              refine at_iconst hX (v := 1) (by decide) dL_law_778 ?_
                                              refine at_iadd hX dL_law_779 ?_
                                              obtain ⟨hi, v780, ev780, e⟩ := sl_some e
                                              refine at_sld hX hSc hi dL_law_780 ?_
                                              refine at_ti ev780 ?_
                                              refine at_aload_n hX rfl rfl dL_law_781 ?_
                                              refine at_iload_n hX rfl rfl dL_law_782 ?_
                                              refine at_iconst hX (v := 2) (by decide) dL_law_783 ?_
                                              refine at_iadd hX dL_law_784 ?_
                                              obtain ⟨hi, v785, ev785, e⟩ := sl_some e
                                              refine at_sld hX hSc hi dL_law_785 ?_
                                              refine at_ti ev785 ?_
                                              obtain ⟨⟨v786, h786⟩, e1, e⟩ := ob_some e
                                              refine at_callV2 hX cv_L_99 (by decide) (c_X7_lay _ _ _ _ _ e1) (Nat.le_of_ble_eq_true rfl) dL_law_786 ?_
                                              refine at_icmp_eq hX (tgt := 985) (by decide) dL_law_789 (fun c789 => ?_) (fun c789 => ?_)
                                              · replace e := ip_ c789 e
                                                exact at_sub [0, 1, 2, 3] rfl ((A_law_985 hn hX hR hSc (F_law_18 n xs L) ih) _ _ e)
                                              · replace e := in_ c789 e
                                                refine at_iconst hX (v := 0) (by decide) dL_law_792 ?_
                                                exact absurd (congrArg Prod.fst (Option.some.inj e)) (show ¬ (0 : Int32) = 1 by decide)
                                            · replace e := in_ w19 e
                                              by_cases w20 : v29 &&& (31 : Int32) = nI 20
                                              · replace e := ip_ w20 e
                                                refine at_tabIn hX (tgt := 794) 20 761 w20 (by decide) (by decide) rfl (by decide) dL_law_33 ?_
                                                refine at_aload_n hX rfl rfl dL_law_794 ?_
                                                refine at_aload_n hX rfl rfl dL_law_795 ?_
                                                refine at_iload_n hX rfl rfl dL_law_796 ?_
                                                refine at_iconst hX (v := 1) (by decide) dL_law_797 ?_
                                                refine at_iadd hX dL_law_798 ?_
                                                obtain ⟨hi, v799, ev799, e⟩ := sl_some e
                                                refine at_sld hX hSc hi dL_law_799 ?_
                                                refine at_ti ev799 ?_
                                                refine at_aload_n hX rfl rfl dL_law_800 ?_
                                                refine at_iload_n hX rfl rfl dL_law_801 ?_
                                                refine at_iconst hX (v := 2) (by decide) dL_law_802 ?_
                                                refine at_iadd hX dL_law_803 ?_
                                                obtain ⟨hi, v804, ev804, e⟩ := sl_some e
                                                refine at_sld hX hSc hi dL_law_804 ?_
                                                refine at_ti ev804 ?_
                                                obtain ⟨⟨v805, h805⟩, e1, e⟩ := ob_some e
                                                refine at_callV2 hX cv_L_100 (by decide) (c_X6_box _ _ _ _ _ e1) (Nat.le_of_ble_eq_true rfl) dL_law_805 ?_
                                                refine at_aload_n hX rfl rfl dL_law_808 ?_
                                                refine at_aload_n hX rfl rfl dL_law_809 ?_
                                                refine at_iload_n hX rfl rfl dL_law_810 ?_
                                                refine at_iconst hX (v := 1) (by decide) dL_law_811 ?_
                                                refine at_iadd hX dL_law_812 ?_
                                                obtain ⟨hi, v813, ev813, e⟩ := sl_some e
                                                refine at_sld hX hSc hi dL_law_813 ?_
                                                refine at_ti ev813 ?_
                                                refine at_aload_n hX rfl rfl dL_law_814 ?_
                                                refine at_iload_n hX rfl rfl dL_law_815 ?_
                                                refine at_iconst hX (v := 2) (by decide) dL_law_816 ?_
                                                refine at_iadd hX dL_law_817 ?_
                                                obtain ⟨hi, v818, ev818, e⟩ := sl_some e
                                                refine at_sld hX hSc hi dL_law_818 ?_
                                                refine at_ti ev818 ?_
                                                obtain ⟨⟨v819, h819⟩, e1, e⟩ := ob_some e
                                                refine at_callV2 hX cv_L_103 (by decide) (c_X7_box _ _ _ _ _ e1) (Nat.le_of_ble_eq_true rfl) dL_law_819 ?_
                                                refine at_icmp_eq hX (tgt := 985) (by decide) dL_law_822 (fun c822 => ?_) (fun c822 => ?_)
                                                · replace e := ip_ c822 e
                                                  exact at_sub [0, 1, 2, 3] rfl ((A_law_985 hn hX hR hSc (F_law_18 n xs L) ih) _ _ e)
                                                · replace e := in_ c822 e
                                                  refine at_iconst hX (v := 0) (by decide) dL_law_825 ?_
                                                  exact absurd (congrArg Prod.fst (Option.some.inj e)) (show ¬ (0 : Int32) = 1 by decide)
                                              · replace e := in_ w20 e
                                                by_cases w21 : v29 &&& (31 : Int32) = nI 21
                                                · replace e := ip_ w21 e
                                                  refine at_tabIn hX (tgt := 827) 21 794 w21 (by decide) (by decide) rfl (by decide) dL_law_33 ?_
                                                  refine at_aload_n hX rfl rfl dL_law_827 ?_
                                                  obtain ⟨⟨v828, h828⟩, e1, e⟩ := ob_some e
                                                  refine at_callV0 hX cv_L_104 (by decide) (c_X6_lacking _ _  _ e1) (Nat.le_of_ble_eq_true rfl) dL_law_828 ?_
                                                  refine at_aload_n hX rfl rfl dL_law_831 ?_
                                                  obtain ⟨⟨v832, h832⟩, e1, e⟩ := ob_some e
                                                  refine at_callV0 hX cv_L_107 (by decide) (c_X7_lacking _ _  _ e1) (Nat.le_of_ble_eq_true rfl) dL_law_832 ?_
                                                  refine at_icmp_eq hX (tgt := 985) (by decide) dL_law_835 (fun c835 => ?_) (fun c835 => ?_)
                                                  · replace e := ip_ c835 e
                                                    exact at_sub [0, 1, 2, 3] rfl ((A_law_985 hn hX hR hSc (F_law_18 n xs L) ih) _ _ e)
                                                  · replace e := in_ c835 e
                                                    refine at_iconst hX (v := 0) (by decide) dL_law_838 ?_
                                                    exact absurd (congrArg Prod.fst (Option.some.inj e)) (show ¬ (0 : Int32) = 1 by decide)
                                                · replace e := in_ w21 e
                                                  by_cases w22 : v29 &&& (31 : Int32) = nI 22
                                                  · replace e := ip_ w22 e
                                                    refine at_tabIn hX (tgt := 840) 22 807 w22 (by decide) (by decide) rfl (by decide) dL_law_33 ?_
                                                    refine at_aload_n hX rfl rfl dL_law_840 ?_
                                                    refine at_aload_n hX rfl rfl dL_law_841 ?_
                                                    refine at_iload_n hX rfl rfl dL_law_842 ?_
                                                    refine at_iconst hX (v := 1) (by decide) dL_law_843 ?_
                                                    refine at_iadd hX dL_law_844 ?_
                                                    obtain ⟨hi, v845, ev845, e⟩ := sl_some e
                                                    refine at_sld hX hSc hi dL_law_845 ?_
                                                    refine at_ti ev845 ?_
                                                    obtain ⟨⟨v846, h846⟩, e1, e⟩ := ob_some e
                                                    refine at_callV1 hX cv_L_108 (by decide) (c_X6_lacks _ _ _ _ e1) (Nat.le_of_ble_eq_true rfl) dL_law_846 ?_
                                                    refine at_aload_n hX rfl rfl dL_law_849 ?_
                                                    refine at_aload_n hX rfl rfl dL_law_850 ?_
                                                    refine at_iload_n hX rfl rfl dL_law_851 ?_
                                                    refine at_iconst hX (v := 1) (by decide) dL_law_852 ?_
                                                    refine at_iadd hX dL_law_853 ?_
                                                    obtain ⟨hi, v854, ev854, e⟩ := sl_some e
                                                    refine at_sld hX hSc hi dL_law_854 ?_
                                                    refine at_ti ev854 ?_
                                                    obtain ⟨⟨v855, h855⟩, e1, e⟩ := ob_some e
                                                    refine at_callV1 hX cv_L_111 (by decide) (c_X7_lacks _ _ _ _ e1) (Nat.le_of_ble_eq_true rfl) dL_law_855 ?_
                                                    refine at_icmp_eq hX (tgt := 985) (by decide) dL_law_858 (fun c858 => ?_) (fun c858 => ?_)
                                                    · replace e := ip_ c858 e
                                                      exact at_sub [0, 1, 2, 3] rfl ((A_law_985 hn hX hR hSc (F_law_18 n xs L) ih) _ _ e)
                                                    · replace e := in_ c858 e
                                                      refine at_iconst hX (v := 0) (by decide) dL_law_861 ?_
                                                      exact absurd (congrArg Prod.fst (Option.some.inj e)) (show ¬ (0 : Int32) = 1 by decide)
                                                  · replace e := in_ w22 e
                                                    by_cases w23 : v29 &&& (31 : Int32) = nI 23
                                                    · replace e := ip_ w23 e
                                                      refine at_tabIn hX (tgt := 863) 23 830 w23 (by decide) (by decide) rfl (by decide) dL_law_33 ?_
                                                      refine at_aload_n hX rfl rfl dL_law_863 ?_
                                                      refine at_aload_n hX rfl rfl dL_law_864 ?_
                                                      refine at_iload_n hX rfl rfl dL_law_865 ?_
                                                      refine at_iconst hX (v := 1) (by decide) dL_law_866 ?_
                                                      refine at_iadd hX dL_law_867 ?_
                                                      obtain ⟨hi, v868, ev868, e⟩ := sl_some e
                                                      refine at_sld hX hSc hi dL_law_868 ?_
                                                      refine at_ti ev868 ?_
                                                      obtain ⟨⟨v869, h869⟩, e1, e⟩ := ob_some e
                                                      refine at_callV1 hX cv_L_112 (by decide) (c_X6_order _ _ _ _ e1) (Nat.le_of_ble_eq_true rfl) dL_law_869 ?_
                                                      refine at_aload_n hX rfl rfl dL_law_872 ?_
                                                      refine at_aload_n hX rfl rfl dL_law_873 ?_
                                                      refine at_iload_n hX rfl rfl dL_law_874 ?_
                                                      refine at_iconst hX (v := 1) (by decide) dL_law_875 ?_
                                                      refine at_iadd hX dL_law_876 ?_
                                                      obtain ⟨hi, v877, ev877, e⟩ := sl_some e
                                                      refine at_sld hX hSc hi dL_law_877 ?_
                                                      refine at_ti ev877 ?_
                                                      obtain ⟨⟨v878, h878⟩, e1, e⟩ := ob_some e
                                                      refine at_callV1 hX cv_L_115 (by decide) (c_X7_order _ _ _ _ e1) (Nat.le_of_ble_eq_true rfl) dL_law_878 ?_
                                                      refine at_icmp_eq hX (tgt := 985) (by decide) dL_law_881 (fun c881 => ?_) (fun c881 => ?_)
                                                      · replace e := ip_ c881 e
                                                        exact at_sub [0, 1, 2, 3] rfl ((A_law_985 hn hX hR hSc (F_law_18 n xs L) ih) _ _ e)
                                                      · replace e := in_ c881 e
                                                        refine at_iconst hX (v := 0) (by decide) dL_law_884 ?_
                                                        exact absurd (congrArg Prod.fst (Option.some.inj e)) (show ¬ (0 : Int32) = 1 by decide)
                                                    · replace e := in_ w23 e
                                                      by_cases w24 : v29 &&& (31 : Int32) = nI 24
                                                      · replace e := ip_ w24 e
                                                        refine at_tabIn hX (tgt := 886) 24 853 w24 (by decide) (by decide) rfl (by decide) dL_law_33 ?_
                                                        refine at_aload_n hX rfl rfl dL_law_886 ?_
                                                        refine at_aload_n hX rfl rfl dL_law_887 ?_
                                                        refine at_iload_n hX rfl rfl dL_law_888 ?_
                                                        refine at_iconst hX (v := 1) (by decide) dL_law_889 ?_
                                                        refine at_iadd hX dL_law_890 ?_
                                                        obtain ⟨hi, v891, ev891, e⟩ := sl_some e
                                                        refine at_sld hX hSc hi dL_law_891 ?_
                                                        refine at_ti ev891 ?_
                                                        refine at_aload_n hX rfl rfl dL_law_892 ?_
                                                        refine at_iload_n hX rfl rfl dL_law_893 ?_
                                                        refine at_iconst hX (v := 2) (by decide) dL_law_894 ?_
                                                        refine at_iadd hX dL_law_895 ?_
                                                        obtain ⟨hi, v896, ev896, e⟩ := sl_some e
                                                        refine at_sld hX hSc hi dL_law_896 ?_
                                                        refine at_ti ev896 ?_
                                                        refine at_aload_n hX rfl rfl dL_law_897 ?_
                                                        refine at_iload_n hX rfl rfl dL_law_898 ?_
                                                        refine at_iconst hX (v := 3) (by decide) dL_law_899 ?_
                                                        refine at_iadd hX dL_law_900 ?_
                                                        obtain ⟨hi, v901, ev901, e⟩ := sl_some e
                                                        refine at_sld hX hSc hi dL_law_901 ?_
                                                        refine at_ti ev901 ?_
                                                        obtain ⟨⟨v902, h902⟩, e1, e⟩ := ob_some e
                                                        refine at_callV3 hX cv_L_116 (by decide) (c_X6_seen _ _ _ _ _ _ e1) (Nat.le_of_ble_eq_true rfl) dL_law_902 ?_
                                                        refine at_aload_n hX rfl rfl dL_law_905 ?_
                                                        refine at_aload_n hX rfl rfl dL_law_906 ?_
                                                        refine at_iload_n hX rfl rfl dL_law_907 ?_
                                                        refine at_iconst hX (v := 1) (by decide) dL_law_908 ?_
                                                        refine at_iadd hX dL_law_909 ?_
                                                        obtain ⟨hi, v910, ev910, e⟩ := sl_some e
                                                        refine at_sld hX hSc hi dL_law_910 ?_
                                                        refine at_ti ev910 ?_
                                                        refine at_aload_n hX rfl rfl dL_law_911 ?_
                                                        refine at_iload_n hX rfl rfl dL_law_912 ?_
                                                        refine at_iconst hX (v := 2) (by decide) dL_law_913 ?_
                                                        refine at_iadd hX dL_law_914 ?_
                                                        obtain ⟨hi, v915, ev915, e⟩ := sl_some e
                                                        refine at_sld hX hSc hi dL_law_915 ?_
                                                        refine at_ti ev915 ?_
                                                        refine at_aload_n hX rfl rfl dL_law_916 ?_
                                                        refine at_iload_n hX rfl rfl dL_law_917 ?_
                                                        refine at_iconst hX (v := 3) (by decide) dL_law_918 ?_
                                                        refine at_iadd hX dL_law_919 ?_
                                                        obtain ⟨hi, v920, ev920, e⟩ := sl_some e
                                                        refine at_sld hX hSc hi dL_law_920 ?_
                                                        refine at_ti ev920 ?_
                                                        obtain ⟨⟨v921, h921⟩, e1, e⟩ := ob_some e
                                                        refine at_callV3 hX cv_L_119 (by decide) (c_X7_seen _ _ _ _ _ _ e1) (Nat.le_of_ble_eq_true rfl) dL_law_921 ?_
                                                        refine at_icmp_eq hX (tgt := 985) (by decide) dL_law_924 (fun c924 => ?_) (fun c924 => ?_)
                                                        · replace e := ip_ c924 e
                                                          exact at_sub [0, 1, 2, 3] rfl ((A_law_985 hn hX hR hSc (F_law_18 n xs L) ih) _ _ e)
                                                        · replace e := in_ c924 e
                                                          refine at_iconst hX (v := 0) (by decide) dL_law_927 ?_
                                                          exact absurd (congrArg Prod.fst (Option.some.inj e)) (show ¬ (0 : Int32) = 1 by decide)
                                                      · replace e := in_ w24 e
                                                        by_cases w25 : v29 &&& (31 : Int32) = nI 25
                                                        · replace e := ip_ w25 e
                                                          refine at_tabIn hX (tgt := 929) 25 896 w25 (by decide) (by decide) rfl (by decide) dL_law_33 ?_
                                                          refine at_aload_n hX rfl rfl dL_law_929 ?_
                                                          refine at_aload_n hX rfl rfl dL_law_930 ?_
                                                          refine at_iload_n hX rfl rfl dL_law_931 ?_
                                                          refine at_iconst hX (v := 1) (by decide) dL_law_932 ?_
                                                          refine at_iadd hX dL_law_933 ?_
                                                          obtain ⟨hi, v934, ev934, e⟩ := sl_some e
                                                          refine at_sld hX hSc hi dL_law_934 ?_
                                                          refine at_ti ev934 ?_
                                                          refine at_aload_n hX rfl rfl dL_law_935 ?_
                                                          refine at_iload_n hX rfl rfl dL_law_936 ?_
                                                          refine at_iconst hX (v := 2) (by decide) dL_law_937 ?_
                                                          refine at_iadd hX dL_law_938 ?_
                                                          obtain ⟨hi, v939, ev939, e⟩ := sl_some e
                                                          refine at_sld hX hSc hi dL_law_939 ?_
                                                          refine at_ti ev939 ?_
                                                          obtain ⟨⟨v940, h940⟩, e1, e⟩ := ob_some e
                                                          refine at_callV2 hX cv_L_120 (by decide) (c_X6_brickOf _ _ _ _ _ e1) (Nat.le_of_ble_eq_true rfl) dL_law_940 ?_
                                                          refine at_aload_n hX rfl rfl dL_law_943 ?_
                                                          refine at_aload_n hX rfl rfl dL_law_944 ?_
                                                          refine at_iload_n hX rfl rfl dL_law_945 ?_
                                                          refine at_iconst hX (v := 1) (by decide) dL_law_946 ?_
                                                          refine at_iadd hX dL_law_947 ?_
                                                          obtain ⟨hi, v948, ev948, e⟩ := sl_some e
                                                          refine at_sld hX hSc hi dL_law_948 ?_
                                                          refine at_ti ev948 ?_
                                                          refine at_aload_n hX rfl rfl dL_law_949 ?_
                                                          refine at_iload_n hX rfl rfl dL_law_950 ?_
                                                          refine at_iconst hX (v := 2) (by decide) dL_law_951 ?_
                                                          refine at_iadd hX dL_law_952 ?_
                                                          obtain ⟨hi, v953, ev953, e⟩ := sl_some e
                                                          refine at_sld hX hSc hi dL_law_953 ?_
                                                          refine at_ti ev953 ?_
                                                          obtain ⟨⟨v954, h954⟩, e1, e⟩ := ob_some e
                                                          refine at_callV2 hX cv_L_123 (by decide) (c_X7_brickOf _ _ _ _ _ e1) (Nat.le_of_ble_eq_true rfl) dL_law_954 ?_
                                                          refine at_icmp_eq hX (tgt := 985) (by decide) dL_law_957 (fun c957 => ?_) (fun c957 => ?_)
                                                          · replace e := ip_ c957 e
                                                            exact at_sub [0, 1, 2, 3] rfl ((A_law_985 hn hX hR hSc (F_law_18 n xs L) ih) _ _ e)
                                                          · replace e := in_ c957 e
                                                            refine at_iconst hX (v := 0) (by decide) dL_law_960 ?_
                                                            exact absurd (congrArg Prod.fst (Option.some.inj e)) (show ¬ (0 : Int32) = 1 by decide)
                                                        · replace e := in_ w25 e
                                                          by_cases w26 : v29 &&& (31 : Int32) = nI 26
                                                          · replace e := ip_ w26 e
                                                            refine at_tabIn hX (tgt := 962) 26 929 w26 (by decide) (by decide) rfl (by decide) dL_law_33 ?_
                                                            refine at_aload_n hX rfl rfl dL_law_962 ?_
                                                            refine at_aload_n hX rfl rfl dL_law_963 ?_
                                                            refine at_iload_n hX rfl rfl dL_law_964 ?_
                                                            refine at_iconst hX (v := 1) (by decide) dL_law_965 ?_
                                                            refine at_iadd hX dL_law_966 ?_
                                                            obtain ⟨hi, v967, ev967, e⟩ := sl_some e
                                                            refine at_sld hX hSc hi dL_law_967 ?_
                                                            refine at_ti ev967 ?_
                                                            obtain ⟨v968, e1, e⟩ := ob_some e
                                                            refine at_callV1 hX cv_L_124 (by decide) (c_X6_count _ _ _ _ e1) (Nat.le_of_ble_eq_true rfl) dL_law_968 ?_
                                                            refine at_aload_n hX rfl rfl dL_law_971 ?_
                                                            refine at_aload_n hX rfl rfl dL_law_972 ?_
                                                            refine at_iload_n hX rfl rfl dL_law_973 ?_
                                                            refine at_iconst hX (v := 1) (by decide) dL_law_974 ?_
                                                            refine at_iadd hX dL_law_975 ?_
                                                            obtain ⟨hi, v976, ev976, e⟩ := sl_some e
                                                            refine at_sld hX hSc hi dL_law_976 ?_
                                                            refine at_ti ev976 ?_
                                                            obtain ⟨⟨v977, h977⟩, e1, e⟩ := ob_some e
                                                            refine at_callV1 hX cv_L_127 (by decide) (c_X7_count _ _ _ _ e1) (Nat.le_of_ble_eq_true rfl) dL_law_977 ?_
                                                            refine at_icmp_eq hX (tgt := 985) (by decide) dL_law_980 (fun c980 => ?_) (fun c980 => ?_)
                                                            · replace e := ip_ c980 e
                                                              exact at_sub [0, 1, 2, 3] rfl ((A_law_985 hn hX hR hSc (F_law_18 n xs L) ih) _ _ e)
                                                            · replace e := in_ c980 e
                                                              refine at_iconst hX (v := 0) (by decide) dL_law_983 ?_
                                                              exact absurd (congrArg Prod.fst (Option.some.inj e)) (show ¬ (0 : Int32) = 1 by decide)
                                                          · replace e := in_ w26 e
                                                            refine at_tabOut hX (tgt := 985) (tab_out (hi := 26) (by decide) (fun j hj => by rcases (show j = 0 ∨ j = 1 ∨ j = 2 ∨ j = 3 ∨ j = 4 ∨ j = 5 ∨ j = 6 ∨ j = 7 ∨ j = 8 ∨ j = 9 ∨ j = 10 ∨ j = 11 ∨ j = 12 ∨ j = 13 ∨ j = 14 ∨ j = 15 ∨ j = 16 ∨ j = 17 ∨ j = 18 ∨ j = 19 ∨ j = 20 ∨ j = 21 ∨ j = 22 ∨ j = 23 ∨ j = 24 ∨ j = 25 ∨ j = 26 by omega) with rfl | rfl | rfl | rfl | rfl | rfl | rfl | rfl | rfl | rfl | rfl | rfl | rfl | rfl | rfl | rfl | rfl | rfl | rfl | rfl | rfl | rfl | rfl | rfl | rfl | rfl | rfl <;> assumption)) (by decide) dL_law_33 ?_
                                                            exact at_sub [0, 1, 2, 3] rfl ((A_law_985 hn hX hR hSc (F_law_18 n xs L) ih) _ _ e)
