/-! ===== the abstract heap: int fields, long fields, int (and boolean) arrays, long arrays, each by its number ===== -/
abbrev Hp : Type := (Nat → Int32) × (Nat → Int64) × (Nat → Nat → Int32) × (Nat → Nat → Int64)
def gI_ (h : Hp) (k : Nat) : Int32 := h.1 k
def gJ_ (h : Hp) (k : Nat) : Int64 := h.2.1 k
def gA_ (h : Hp) (k : Nat) : Nat → Int32 := h.2.2.1 k
def gL_ (h : Hp) (k : Nat) : Nat → Int64 := h.2.2.2 k
def sI_ (h : Hp) (k : Nat) (v : Int32) : Hp := (fun j => if j = k then v else h.1 j, h.2.1, h.2.2.1, h.2.2.2)
def sJ_ (h : Hp) (k : Nat) (v : Int64) : Hp := (h.1, fun j => if j = k then v else h.2.1 j, h.2.2.1, h.2.2.2)
def sA_ (h : Hp) (k i : Nat) (v : Int32) : Hp := (h.1, h.2.1, fun j => if j = k then upd (h.2.2.1 k) i v else h.2.2.1 j, h.2.2.2)
def sL_ (h : Hp) (k i : Nat) (v : Int64) : Hp := (h.1, h.2.1, h.2.2.1, fun j => if j = k then vp_updL (h.2.2.2 k) i v else h.2.2.2 j)
theorem gI_sI (h : Hp) (k j : Nat) (v : Int32) : gI_ (sI_ h k v) j = if j = k then v else gI_ h j := rfl
theorem gI_sJ (h : Hp) (k j : Nat) (v : Int64) : gI_ (sJ_ h k v) j = gI_ h j := rfl
theorem gI_sA (h : Hp) (k i j : Nat) (v : Int32) : gI_ (sA_ h k i v) j = gI_ h j := rfl
theorem gI_sL (h : Hp) (k i j : Nat) (v : Int64) : gI_ (sL_ h k i v) j = gI_ h j := rfl
theorem gJ_sI (h : Hp) (k j : Nat) (v : Int32) : gJ_ (sI_ h k v) j = gJ_ h j := rfl
theorem gJ_sJ (h : Hp) (k j : Nat) (v : Int64) : gJ_ (sJ_ h k v) j = if j = k then v else gJ_ h j := rfl
theorem gJ_sA (h : Hp) (k i j : Nat) (v : Int32) : gJ_ (sA_ h k i v) j = gJ_ h j := rfl
theorem gJ_sL (h : Hp) (k i j : Nat) (v : Int64) : gJ_ (sL_ h k i v) j = gJ_ h j := rfl
theorem gA_sI (h : Hp) (k j : Nat) (v : Int32) : gA_ (sI_ h k v) j = gA_ h j := rfl
theorem gA_sJ (h : Hp) (k j : Nat) (v : Int64) : gA_ (sJ_ h k v) j = gA_ h j := rfl
theorem gA_sA (h : Hp) (k i j : Nat) (v : Int32) : gA_ (sA_ h k i v) j = if j = k then upd (gA_ h k) i v else gA_ h j := rfl
theorem gA_sL (h : Hp) (k i j : Nat) (v : Int64) : gA_ (sL_ h k i v) j = gA_ h j := rfl
theorem gL_sI (h : Hp) (k j : Nat) (v : Int32) : gL_ (sI_ h k v) j = gL_ h j := rfl
theorem gL_sJ (h : Hp) (k j : Nat) (v : Int64) : gL_ (sJ_ h k v) j = gL_ h j := rfl
theorem gL_sA (h : Hp) (k i j : Nat) (v : Int32) : gL_ (sA_ h k i v) j = gL_ h j := rfl
theorem gL_sL (h : Hp) (k i j : Nat) (v : Int64) : gL_ (sL_ h k i v) j = if j = k then vp_updL (gL_ h k) i v else gL_ h j := rfl
/-! ===== the layout ===== -/
def layT : List (Nat × Nat) := [(0, 0), (0, 0), (0, 0), (0, 0), (0, 0), (0, 0), (0, 0), (0, 0), (1, 180), (1, 7), (1, 7), (1, 7), (1, 40), (1, 40), (1, 40), (1, 40), (1, 40), (1, 40), (2, 40), (2, 40), (2, 5), (1, 180), (1, 16), (1, 36), (1, 36), (1, 36), (1, 192), (1, 192), (1, 2048), (1, 2048), (1, 16), (1, 7), (1, 7), (1, 12), (2, 12), (1, 12), (3, 4096), (1, 7), (1, 7), (1, 180), (1, 180), (1, 7), (1, 40), (1, 40), (1, 40), (1, 40), (1, 40), (1, 40), (2, 40), (1, 7), (1, 7), (1, 14), (1, 14), (2, 40), (1, 36), (1, 65536), (1, 65536), (1, 36), (1, 224), (1, 224), (1, 7), (1, 7), (1, 12), (3, 4096), (1, 12)]
def kd_ (k : Nat) : Nat := (layT.getD k (9, 0)).1
def ln_ (k : Nat) : Nat := (layT.getD k (9, 0)).2
def ftT : List (List (Nat × Nat)) := [[(2, 8)],
  [(2, 2), (2, 9), (2, 10), (2, 11)],
  [(2, 12), (2, 13), (2, 14), (2, 15), (2, 16), (2, 17), (2, 18), (2, 19), (2, 20), (2, 21), (0, 138), (1, 139), (1, 140)],
  [(2, 0), (2, 2), (2, 22), (2, 23), (2, 24), (2, 25), (2, 26), (2, 27), (2, 28), (2, 29), (2, 30), (0, 203), (0, 204), (0, 205), (0, 206), (0, 207)],
  [(2, 2), (2, 31), (2, 32), (0, 259)],
  [(2, 2), (2, 4), (2, 33), (2, 34), (2, 35), (2, 36), (0, 326), (0, 327), (0, 328)],
  [(2, 0), (2, 2), (2, 4), (2, 3), (2, 5), (2, 1), (2, 37)],
  [(2, 38), (2, 39), (2, 40), (2, 41), (2, 42), (2, 43), (2, 44), (2, 45), (2, 46), (2, 47), (0, 458), (0, 459), (1, 460), (2, 48), (2, 49), (2, 50), (2, 51), (2, 52), (2, 53), (0, 467), (2, 54), (2, 55), (2, 56), (2, 57), (0, 472), (0, 473), (2, 58), (2, 59), (2, 60), (2, 61), (2, 62), (2, 63), (2, 64), (0, 481)]]
def ft_ (k : Nat) : List (Nat × Nat) := ftT.getD k []
def clsT : List vw_C := [(RX0, TX0, 1), (RX1, TX1, 4), (RX2, TX2, 13), (RX3, TX3, 16), (RX4, TX4, 4), (RX5, TX5, 9), (RX6, TX6, 7), (RX7, TX7, 34)]
def stT : List (String × String × List Int32) := [("BrickModels$Bricks", "LENGTHS", [1, 2, 3, 4, 2, 3, 4]), ("BrickModels$Bricks", "WIDTHS", [1, 1, 1, 1, 2, 2, 2]), ("BrickModels$Covers", "SHAPE_KINDS", [6, 6, 5, 5, 4, 3, 3, 2, 2, 1, 1, 0]), ("BrickModels$Covers", "SHAPE_TURNS", [0, 1, 0, 1, 0, 0, 1, 0, 1, 0, 1, 0]), ("BrickModels$Box", "FIRST_PARTS", [0, 0, 0, 1, 1, 2, 4]), ("BrickModels$Box", "SECOND_PARTS", [0, 0, 1, 1, 1, 2, 4]), ("BrickModelsModel", "LONG", [1, 2, 3, 4, 2, 3, 4]), ("BrickModelsModel", "WIDE", [1, 1, 1, 1, 2, 2, 2]), ("BrickModelsModel", "FROM", [0, 0, 0, 1, 1, 2, 4]), ("BrickModelsModel", "AND", [0, 0, 1, 1, 1, 2, 4])]
def nestT : List (String × Nat × MethodName × String) := [(RX0, 15, yX6_isPlace, "BrickModels"), (RX0, 19, yX6_indexOf, "BrickModels"), (RX2, 43, yX6_isKind, "BrickModels"), (RX2, 80, yX6_isPlace, "BrickModels"), (RX2, 101, yX6_indexOf, "BrickModels"), (RX4, 26, yX6_least, "BrickModels"), (RX1, 25, yX6_isKind, "BrickModels"), (RX6, 9, yX0_init, "BrickModels"), (RX6, 12, yX2_init, "BrickModels")]
def NC_ : Nat := 65
abbrev Gl : Type := (Nat → Nat) × va_G × ClassId × ClassId × ClassId × Nat
def rv_ (G : Gl) : Value → Value
  | .ref a => .ref (G.1 a)
  | .int x => .int x
  | .long x => .long x
  | .float x => .float x
  | .double x => .double x
  | .null => .null
  | .retAddr x => .retAddr x
def rp_ (G : Gl) (q : Nat × Value) : Nat × Value := (q.1, rv_ G q.2)
def fa_ (h : Hp) (f : Nat × Nat) : Value := match f.1 with
  | 0 => .int (gI_ h f.2)
  | 1 => .long (gJ_ h f.2)
  | _ => .ref f.2
def ce_ (G : Gl) (h : Hp) (k : Nat) : va_E := match kd_ k with
  | 0 => .inr (k, (ft_ k).map (fun f => rv_ G (fa_ h f)))
  | 1 => .inl (G.2.2.1, ln_ k, .inl (gA_ h k))
  | 2 => .inl (G.2.2.2.1, ln_ k, .inr (.inl (gL_ h k)))
  | _ => .inl (G.2.2.2.2.1, ln_ k, .inl (gA_ h k))
def wl_ (G : Gl) (h : Hp) : va_W := (List.range NC_).map (fun k => (G.1 k, ce_ G h k))
abbrev af_ (G : Gl) : Nat → Prop := fun q => G.2.2.2.2.2 ≤ q
abbrev tysT (G : Gl) : List (ClassId × FieldType) := [(G.2.2.1, .int), (G.2.2.2.1, .long), (G.2.2.2.2.1, .boolean)]
theorem wl_get (G : Gl) (h : Hp) {k : Nat} (hk : k < NC_) : (wl_ G h)[k]? = some (G.1 k, ce_ G h k) := by
  simp [wl_, hk]
theorem wl_set {G : Gl} {h h' : Hp} {k : Nat} {e : va_E} (hk : k < NC_) (he : ce_ G h' k = e) (ho : ∀ j, j < NC_ → j ≠ k → ce_ G h' j = ce_ G h j) : (wl_ G h).set k (G.1 k, e) = wl_ G h' := by
  apply List.ext_getElem?
  intro j
  rw [List.getElem?_set]
  by_cases hj : j < NC_
  · rw [wl_get G h' hj]
    by_cases hjk : k = j
    · subst hjk
      simp [wl_, hj, he]
    · rw [if_neg hjk, wl_get G h hj, ho j hj (fun q => hjk q.symm)]
  · have e1 : (wl_ G h)[j]? = none := by simp [wl_]; omega
    have e2 : (wl_ G h')[j]? = none := by simp [wl_]; omega
    rw [e1, e2, if_neg (by omega)]
theorem ce_sA {G : Gl} {h : Hp} {k i : Nat} {v : Int32} {j : Nat} (hj : j ≠ k) : ce_ G (sA_ h k i v) j = ce_ G h j := by
  have e : gA_ (sA_ h k i v) j = gA_ h j := by rw [gA_sA, if_neg hj]
  unfold ce_
  rw [e]
  rfl
theorem ce_sL {G : Gl} {h : Hp} {k i : Nat} {v : Int64} {j : Nat} (hj : j ≠ k) : ce_ G (sL_ h k i v) j = ce_ G h j := by
  have e : gL_ (sL_ h k i v) j = gL_ h j := by rw [gL_sL, if_neg hj]
  unfold ce_
  rw [e]
  rfl
theorem ce_arr1 {G : Gl} {h : Hp} {k : Nat} (hk : kd_ k = 1) : ce_ G h k = .inl (G.2.2.1, ln_ k, .inl (gA_ h k)) := by
  unfold ce_
  rw [hk]
  rfl
theorem ce_arr2 {G : Gl} {h : Hp} {k : Nat} (hk : kd_ k = 2) : ce_ G h k = .inl (G.2.2.2.1, ln_ k, .inr (.inl (gL_ h k))) := by
  unfold ce_
  rw [hk]
  rfl
theorem ce_arr3 {G : Gl} {h : Hp} {k : Nat} (hk : kd_ k = 3) : ce_ G h k = .inl (G.2.2.2.2.1, ln_ k, .inl (gA_ h k)) := by
  unfold ce_
  rw [hk]
  rfl
theorem ce_obj {G : Gl} {h : Hp} {k : Nat} (hk : kd_ k = 0) : ce_ G h k = .inr (k, (ft_ k).map (fun f => rv_ G (fa_ h f))) := by
  unfold ce_
  rw [hk]
  rfl
theorem wl_sA {G : Gl} {h : Hp} {k i : Nat} {v : Int32} (hk : k < NC_) (h1 : kd_ k = 1) : (wl_ G h).set k (G.1 k, .inl (G.2.2.1, ln_ k, .inl (upd (gA_ h k) i v))) = wl_ G (sA_ h k i v) :=
  wl_set hk (by rw [ce_arr1 h1, gA_sA, if_pos rfl]) (fun _ _ hj => ce_sA hj)
theorem wl_sZ {G : Gl} {h : Hp} {k i : Nat} {v : Int32} (hk : k < NC_) (h1 : kd_ k = 3) : (wl_ G h).set k (G.1 k, .inl (G.2.2.2.2.1, ln_ k, .inl (upd (gA_ h k) i v))) = wl_ G (sA_ h k i v) :=
  wl_set hk (by rw [ce_arr3 h1, gA_sA, if_pos rfl]) (fun _ _ hj => ce_sA hj)
theorem wl_sL {G : Gl} {h : Hp} {k i : Nat} {v : Int64} (hk : k < NC_) (h1 : kd_ k = 2) : (wl_ G h).set k (G.1 k, .inl (G.2.2.2.1, ln_ k, .inr (.inl (vp_updL (gL_ h k) i v)))) = wl_ G (sL_ h k i v) :=
  wl_set hk (by rw [ce_arr2 h1, gL_sL, if_pos rfl]) (fun _ _ hj => ce_sL hj)
/-- int and long fields have the numbers 64 * object + slot -/
theorem ft_num : ∀ j, j < 8 → ∀ t, t < (ft_ j).length → ((ft_ j).getD t (0, 0)).1 = 2 ∨ ((ft_ j).getD t (0, 0)).2 = 64 * j + t ∧ t < 64 := by decide +kernel
theorem kd_obj : ∀ j, j < NC_ → kd_ j = 0 → j < 8 := by decide +kernel
theorem fa_sI {h : Hp} {k : Nat} {v : Int32} {f : Nat × Nat} (hf : f.1 = 2 ∨ f.2 ≠ k) : fa_ (sI_ h k v) f = fa_ h f := by
  obtain ⟨a, b⟩ := f
  match a with
  | 0 => simp only [fa_, gI_sI]; rw [if_neg (hf.resolve_left (fun q => by cases q))]
  | 1 => rfl
  | a + 2 => rfl
theorem fa_sJ {h : Hp} {k : Nat} {v : Int64} {f : Nat × Nat} (hf : f.1 = 2 ∨ f.2 ≠ k) : fa_ (sJ_ h k v) f = fa_ h f := by
  obtain ⟨a, b⟩ := f
  match a with
  | 0 => rfl
  | 1 => simp only [fa_, gJ_sJ]; rw [if_neg (hf.resolve_left (fun q => by cases q))]
  | a + 2 => rfl
theorem ft_other {j o s : Nat} {t : Nat} (hj : j < 8) (ho : s < 64) (ht : t < (ft_ j).length) (hne : j ≠ o ∨ t ≠ s) : ((ft_ j).getD t (0, 0)).1 = 2 ∨ ((ft_ j).getD t (0, 0)).2 ≠ 64 * o + s := by
  rcases ft_num j hj t ht with h | ⟨h, h2⟩
  · exact Or.inl h
  · refine Or.inr (fun q => ?_)
    rw [h] at q
    omega
theorem ce_fld {G : Gl} {h h' : Hp} {o s : Nat} {w : Value} (ho : o < 8) (hk : kd_ o = 0) (hs : s < (ft_ o).length) (hs6 : s < 64) (hw : fa_ h' ((ft_ o).getD s (0, 0)) = w) (he : ∀ f : Nat × Nat, (f.1 = 2 ∨ f.2 ≠ 64 * o + s) → fa_ h' f = fa_ h f) : ce_ G h' o = .inr (o, ((ft_ o).map (fun f => rv_ G (fa_ h f))).set s (rv_ G w)) := by
  rw [ce_obj hk]
  refine congrArg (fun l => Sum.inr (o, l)) ?_
  apply List.ext_getElem?
  intro t
  rw [List.getElem?_set]
  by_cases ht : t < (ft_ o).length
  · have e0 : (ft_ o)[t]? = some ((ft_ o).getD t (0, 0)) := by rw [List.getD_eq_getElem?_getD, List.getElem?_eq_getElem ht]; rfl
    by_cases hst : s = t
    · subst hst
      rw [if_pos rfl, if_pos (by simpa using ht), List.getElem?_map, e0]
      show some (rv_ G (fa_ h' _)) = _
      rw [hw]
    · rw [if_neg hst, List.getElem?_map, List.getElem?_map, e0]
      show some (rv_ G (fa_ h' _)) = some (rv_ G (fa_ h _))
      rw [he _ (ft_other ho hs6 ht (Or.inr (fun q => hst q.symm)))]
  · have e1 : ((ft_ o).map (fun f => rv_ G (fa_ h' f)))[t]? = none := by simp; omega
    have e2 : ((ft_ o).map (fun f => rv_ G (fa_ h f)))[t]? = none := by simp; omega
    rw [e1, e2, if_neg (by omega)]
theorem ce_fldo {G : Gl} {h h' : Hp} {o s j : Nat} (hs6 : s < 64) (hj : j < NC_) (hjo : j ≠ o) (he : ∀ f : Nat × Nat, (f.1 = 2 ∨ f.2 ≠ 64 * o + s) → fa_ h' f = fa_ h f) (hA : gA_ h' = gA_ h) (hL : gL_ h' = gL_ h) : ce_ G h' j = ce_ G h j := by
  by_cases hk : kd_ j = 0
  · have hj8 := kd_obj j hj hk
    rw [ce_obj hk, ce_obj hk]
    refine congrArg (fun l => Sum.inr (j, l)) ?_
    apply List.ext_getElem?
    intro t
    rw [List.getElem?_map, List.getElem?_map]
    by_cases ht : t < (ft_ j).length
    · have e0 : (ft_ j)[t]? = some ((ft_ j).getD t (0, 0)) := by rw [List.getD_eq_getElem?_getD, List.getElem?_eq_getElem ht]; rfl
      rw [e0]
      show some (rv_ G (fa_ h' _)) = some (rv_ G (fa_ h _))
      rw [he _ (ft_other hj8 hs6 ht (Or.inl hjo))]
    · have e0 : (ft_ j)[t]? = none := by simp; omega
      rw [e0]; rfl
  · unfold ce_
    rw [hA, hL]
    match hq : kd_ j with
    | 0 => exact absurd hq hk
    | 1 => rfl
    | 2 => rfl
    | n + 3 => rfl
theorem wl_sI {G : Gl} {h : Hp} {o s : Nat} {v : Int32} (ho : o < 8) (hoN : o < NC_) (hk : kd_ o = 0) (hs : s < (ft_ o).length) (hs6 : s < 64) (hf : (ft_ o).getD s (0, 0) = (0, 64 * o + s)) : (wl_ G h).set o (G.1 o, .inr (o, ((ft_ o).map (fun f => rv_ G (fa_ h f))).set s (rv_ G (.int v)))) = wl_ G (sI_ h (64 * o + s) v) :=
  wl_set hoN (ce_fld (w := .int v) ho hk hs hs6 (by rw [hf]; simp [fa_, gI_sI]) (fun f hf => fa_sI hf)) (fun j hj hjo => ce_fldo hs6 hj hjo (fun f hf => fa_sI hf) rfl rfl)
theorem wl_sJ {G : Gl} {h : Hp} {o s : Nat} {v : Int64} (ho : o < 8) (hoN : o < NC_) (hk : kd_ o = 0) (hs : s < (ft_ o).length) (hs6 : s < 64) (hf : (ft_ o).getD s (0, 0) = (1, 64 * o + s)) : (wl_ G h).set o (G.1 o, .inr (o, ((ft_ o).map (fun f => rv_ G (fa_ h f))).set s (rv_ G (.long v)))) = wl_ G (sJ_ h (64 * o + s) v) :=
  wl_set hoN (ce_fld (w := .long v) ho hk hs hs6 (by rw [hf]; simp [fa_, gJ_sJ]) (fun f hf => fa_sJ hf)) (fun j hj hjo => ce_fldo hs6 hj hjo (fun f hf => fa_sJ hf) rfl rfl)

