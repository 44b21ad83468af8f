/-! ===== constructors: the world grows; L: what the constructor's object and its rows are, ws: all else ===== -/
def Ac_ (X : CX) (pc : Nat) (lv : List (Nat × Value)) (st : List Value) (k n : Nat) (ws L : va_W) : Prop :=
  ∀ (H : Heap) (locs : List Loc) (ls : Array Slot), va_P (xG_ X).2.1 clsT (ws ++ L) H → va_D (af_ (xG_ X)) (ws ++ L) → va_S (af_ (xG_ X)) (xs_ X).heap H locs → lv_has ls (xc_ X).maxLocals lv →
    W (xp_ X) (xl_ X) (xe_ X) (xR_ X) (xs_ X) (xm_ X) (xa_ X) (xb_ X) (xM_ X) (xc_ X) H locs k n (xQ_ X) (F0 (xm_ X) pc ls st)
def Wk_ (G : Gl) (w : va_W) (U : State) : Prop := va_P G.2.1 clsT w U.heap ∧ va_K G.2.1 clsT (tysT G) U ∧ va_D (af_ G) w ∧ Sts G U ∧ G.2.2.2.2.2 ≤ U.heap.size
def Qk_ (G : Gl) (ws : va_W) (Fin : va_W → Prop) : Array Value → State → Outcome → State → Prop := fun _ st oc t => (oc = .returned none ∧ ∃ L1, Fin L1 ∧ va_P G.2.1 clsT (ws ++ L1) t.heap ∧ va_D (af_ G) (ws ++ L1)) ∧ va_F (af_ G) st t
def rk_ (d mc ms : Nat) : Room := { frames := d, cells := mc, slots := ms, locals := 40 * d }
/-- the constructor, at a new object (q, fs) behind all else ws -/
def Cn_ (l : Launch) (G : Gl) (d : Nat) (μ : Mi_) (as : List Value) (mc ms ci : Nat) (fs : List Value) (q : Nat) (Fin : va_W → Prop) : Prop :=
  ∀ ws : va_W, Met l μ.2.1 (.code μ.2.1 μ.2.2.1 μ.2.2.2.1 none :: Tb) (rk_ d mc ms) (va_Pc (.ref q :: as) (Wk_ G (ws ++ [(q, .inr (ci, fs))]))) (Qk_ G ws Fin) mc ms (af_ G)
def Rk_ (X : CX) (mc ms : Nat) (ws : va_W) (Fin : va_W → Prop) : Prop := (xM_ X).sig.returnType = none ∧ (xM_ X).locks = false ∧ xQ_ X = MQ (xb_ X) (Qk_ (xG_ X) ws Fin) (xa_ X) (xs_ X) mc ms (af_ (xG_ X)) ∧ (mc ≤ (xR_ X).cells ∧ ms ≤ (xR_ X).slots) ∧ (xM_ X).name = "<init>" ∧ (xG_ X).2.2.2.2.2 ≤ (xs_ X).heap.size
theorem Cn_.of {l : Launch} {G : Gl} {d : Nat} {μ : Mi_} {as : List Value} {mc ms ci : Nat} {fs : List Value} {q : Nat} {Fin : va_W → Prop} (hy : plainName μ.2.1.cls = true) (ho : μ.2.1.cls = μ.1) (hi : μ.2.1.name = "<init>") (hn : (lg_sl (.ref q :: as)).length ≤ μ.2.2.2.1)
    (k : ∀ (X : CX) (ws : va_W), xl_ X = l → xG_ X = G → (xc_ X).maxLocals = μ.2.2.2.1 → Ok_ X μ.1 μ.2.2.1 d → Rk_ X mc ms ws Fin → Ac_ X 0 (lv_args 0 (.ref q :: as)) [] 0 0 ws [(q, .inr (ci, fs))]) : Cn_ l G d μ as mc ms ci fs q Fin := by
  intro ws
  refine Met.ofW (cc := μ.2.2.1) (maxL := μ.2.2.2.1) (ret := none) hy rfl ?_
  intro p e s m args below meth c s₁ B hml hv
  obtain ⟨rfl, hP, hK, hD, hSt, hz⟩ := hv
  have hts := atoms_spec (ws := .code μ.2.1 μ.2.2.1 μ.2.2.2.1 none :: Tb) B.pre
  have hown : s.vm.findClass μ.2.1.cls = some m.cls := findClass_of_methodNamed B.named
  have hin : meth.name = "<init>" := by rw [(name_of_methodNamed B.named B.method).1]; exact hi
  have key := k (p, l, e, rk_ d mc ms, s, m, (Value.ref q :: as).toArray, below, meth, c, 0, 0, MQ below (Qk_ G ws Fin) (Value.ref q :: as).toArray s mc ms (af_ G), G) ws rfl rfl hml
    ⟨B.exec, B.bytes, by rw [← ho]; exact hown, fun x hx => hts x (List.mem_cons_of_mem _ hx), hK, hSt, Nat.le_refl _, Nat.le_refl _, Nat.zero_le _, Nat.zero_le _⟩ ⟨B.returns, B.notSynchronized, rfl, ⟨Nat.le_refl _, Nat.le_refl _⟩, hin, hz⟩
  have hl := lv_entry (.ref q :: as) (n := μ.2.2.2.1) hn
  rw [lg_entry_eq]
  exact key s.heap [] _ hP hD va_S.rf (by show lv_has _ c.maxLocals _; rw [hml]; exact hl)
section AcRows
variable {X : CX} {own : String} {cc : ByteArray} {d pc k n : Nat} {lv : List (Nat × Value)} {st : List Value} {ws L : va_W}
theorem lg_has {ls : Array Slot} {n : Nat} {lv : List (Nat × Value)} {i : Nat} {v : Value} (hl : lv_has ls n lv) (h : lg_ lv i = some v) : ls[i]? = some (.val v) := hl.2.2 (i, v) (lg_mem h)
theorem ac_aload_n (hX : Ok_ X own cc d) {k4 : Fin 4} {i x : Nat} (hi : (k4 : Nat) = i) (hg : lg_ lv i = some (.ref x)) (hdg : decode cc pc = .ok (.aload_n k4, 1)) (kk : Ac_ X (pc + 1) lv (.ref x :: st) k n ws L) : Ac_ X pc lv st k n ws L := by
  intro H locs ls hP hD hS hl
  exact lv_aload_n hX.1 hX.2.1 hdg hi (lg_has hl hg) (kk H locs ls hP hD hS hl)
theorem ac_bipush (hX : Ok_ X own cc d) {z : Int} {v : Int32} (hv : (Int8.ofInt z).toInt32 = v) (hdg : decode cc pc = .ok (.bipush z, 2)) (kk : Ac_ X (pc + 2) lv (.int v :: st) k n ws L) : Ac_ X pc lv st k n ws L := by
  intro H locs ls hP hD hS hl
  exact lv_bipush hX.1 hX.2.1 hdg hv (kk H locs ls hP hD hS hl)
theorem ac_iconst (hX : Ok_ X own cc d) {z : Int} {v : Int32} (hv : Int32.ofInt z = v) (hdg : decode cc pc = .ok (.iconst z, 1)) (kk : Ac_ X (pc + 1) lv (.int v :: st) k n ws L) : Ac_ X pc lv st k n ws L := by
  intro H locs ls hP hD hS hl
  exact lv_iconst hX.1 hX.2.1 hdg hv (kk H locs ls hP hD hS hl)
theorem ac_sipush (hX : Ok_ X own cc d) {z : Int} {v : Int32} (hv : (Int16.ofInt z).toInt32 = v) (hdg : decode cc pc = .ok (.sipush z, 3)) (kk : Ac_ X (pc + 3) lv (.int v :: st) k n ws L) : Ac_ X pc lv st k n ws L := by
  intro H locs ls hP hD hS hl
  exact lv_sipush hX.1 hX.2.1 hdg hv (kk H locs ls hP hD hS hl)
theorem ac_ldc (hX : Ok_ X own cc d) {i : Nat} {v : Int32} (hw : Cond.constant own i v ∈ Tb) (hdg : decode cc pc = .ok (.ldc i, 2)) (kk : Ac_ X (pc + 2) lv (.int v :: st) k n ws L) : Ac_ X pc lv st k n ws L := by
  intro H locs ls hP hD hS hl
  exact lv_ldc hX.1 hX.2.1 hX.2.2.1 (hX.2.2.2.1 _ hw) hdg (kk H locs ls hP hD hS hl)
theorem ac_dup (hX : Ok_ X own cc d) {v : Value} (hc : v.category = 1) (hdg : decode cc pc = .ok (.dup, 1)) (kk : Ac_ X (pc + 1) lv (v :: v :: st) k n ws L) : Ac_ X pc lv (v :: st) k n ws L := by
  intro H locs ls hP hD hS hl
  exact lv_dup hX.1 hX.2.1 hdg hc (kk H locs ls hP hD hS hl)
theorem ac_astore_n (hX : Ok_ X own cc d) {k4 : Fin 4} {i x nL : Nat} {lv' : List (Nat × Value)} (hi : (k4 : Nat) = i) (hn : (xc_ X).maxLocals = nL) (hb : i < nL) (hl' : (i, Value.ref x) :: lv.filter (fun q => !(q.1 == i) && !(q.1 + 1 == i && q.2.category == 2)) = lv') (hdg : decode cc pc = .ok (.astore_n k4, 1)) (kk : Ac_ X (pc + 1) lv' st k n ws L) : Ac_ X pc lv (.ref x :: st) k n ws L := by
  intro H locs ls hP hD hS hl
  exact lv_astore_n hX.1 hX.2.1 hdg hi hl (by rw [hn]; exact hb) hl' (fun ls hl => kk H locs ls hP hD hS hl)
theorem ac_objInit (hX : Ok_ X own cc d) {idx a : Nat} (h1 : Cond.methodLink own idx objectInit ∈ Tb) (h2 : Cond.instanceMethod objectInit ∈ Tb) (h3 : Cond.code objectInit ⟨#[0xb1]⟩ 1 none ∈ Tb) (hd : 1 ≤ d) (hc : (st.map fun v => v.category).sum ≤ 8) (hdg : decode cc pc = .ok (.invokespecial idx, 3)) (kk : Ac_ X (pc + 3) lv st k n ws L) : Ac_ X pc lv (.ref a :: st) k n ws L := by
  intro H locs ls hP hD hS hl
  have hr := room_m (n := 12) hX hd hc (by decide)
  exact W.objInit hX.1 hX.2.1 hX.2.2.1 (hX.2.2.2.1 _ h1) (hX.2.2.2.1 _ h2) (hX.2.2.2.1 _ h3) rfl hl.1 rfl hdg hr.1 (by show 2 * 0 + _ + 12 ≤ _; omega) (kk H locs ls hP hD hS hl)
theorem ac_newa (hX : Ok_ X own cc d) (hz : (xG_ X).2.2.2.2.2 ≤ (xs_ X).heap.size) {atype : ArrayType} {ty : FieldType} (hw : Cond.arrayClass (newarray.typeOf atype) ∈ Tb) (hty : newarray.typeOf atype = ty) {v : Int32} {N : Nat} {cA : ClassId} (t0 : Nat) (ht : (tysT (xG_ X))[t0]? = some (cA, ty)) (hra : ∀ cB, va_RA (xs_ X) cB ty → va_RA (xs_ X) cA ty → cB = cA) (a0 : vp_A) (ha : ∀ cA : ClassId, vp_cell cA a0 = arrV cA N (fun _ => defaultValue ty)) (hv : ¬ v < 0) (hN : v.toNatClampNeg = N) (hb : N * componentBytes ty ≤ 536870912) (hk : k + 1 ≤ (xR_ X).cells) (hn : n + N ≤ (xR_ X).slots) (hdg : decode cc pc = .ok (.newarray atype, 2))
    (kk : ∀ q : Nat, Ac_ X (pc + 2) lv (.ref q :: st) (k + 1) (n + N) ws (L ++ [(q, .inl (cA, a0))])) : Ac_ X pc lv (.int v :: st) k n ws L := by
  intro H locs ls hP hD hS hl
  refine va_newa hX.1 hX.2.1 (hX.2.2.2.1 _ hw) hty hX.2.2.2.2.1 hP hD hS (fun q hq => Nat.le_trans hz hq) ha hv hN hb hk hn hdg (fun q cB H1 hK1 hP hD hS => ?_)
  have e1 := (hX.2.2.2.2.1.2 t0 _ ht).2
  have e2 := (hK1.2 3 (cB, ty) rfl).2
  have e3 := hra cB e2 e1
  subst e3
  rw [List.append_assoc] at hP hD
  exact kk q H1 locs ls hP hD hS hl
theorem ac_new (hX : Ok_ X own cc d) (hz : (xG_ X).2.2.2.2.2 ≤ (xs_ X).heap.size) {C : String} {T : u_T} {N ci idx : Nat} (hin : ∀ w ∈ u_ws C T N, w ∈ Tb) (ty : Nat → FieldType) (hty : ∀ k, k < N → parseFieldDescriptor (T k).2.2.1 = some (ty k)) (h1 : Cond.classLink own idx C ∈ Tb) (h2 : Cond.instantiable C N ∈ Tb) (h3 : Cond.initialized C ∈ Tb) (hc : clsT[ci]? = some (C, T, N)) (fs : List Value) (hfs : ∀ j, j < N → defaultValue (ty j) = vp_V fs j) (hk : k + 1 ≤ (xR_ X).cells) (hn : n + N ≤ (xR_ X).slots) (hdg : decode cc pc = .ok (.new idx, 3))
    (kk : ∀ q : Nat, Ac_ X (pc + 3) lv (.ref q :: st) (k + 1) (n + N) ws (L ++ [(q, .inr (ci, fs))])) : Ac_ X pc lv st k n ws L := by
  intro H locs ls hP hD hS hl
  refine va_new hX.1 hX.2.1 hX.2.2.2.1 hin ty hty hX.2.2.1 (hX.2.2.2.1 _ h1) (hX.2.2.2.1 _ h2) (hX.2.2.2.1 _ h3) hX.2.2.2.2.1 hP hD hS (fun q hq => Nat.le_trans hz hq) hc hfs hk hn hdg (fun q H1 hP hD hS => ?_)
  rw [List.append_assoc] at hP hD
  exact kk q H1 locs ls hP hD hS hl
theorem app_at {ws L : va_W} {j : Nat} {q : Nat × va_E} (h : L[j]? = some q) : (ws ++ L)[ws.length + j]? = some q := by
  rw [List.getElem?_append_right (by omega), Nat.add_sub_cancel_left]; exact h
theorem app_set {ws L : va_W} {j : Nat} {q : Nat × va_E} : (ws ++ L).set (ws.length + j) q = ws ++ L.set j q := by
  rw [List.set_append_right _ _ (by omega), Nat.add_sub_cancel_left]
theorem ac_putF (hX : Ok_ X own cc d) (hi : (xM_ X).name = "<init>") {C : String} {T : u_T} {N ci idx a : Nat} (hin : ∀ w ∈ u_ws C T N, w ∈ Tb) (ty0 : Nat → FieldType) (hty : ∀ k, k < N → parseFieldDescriptor (T k).2.2.1 = some (ty0 k)) (hnm : ∀ a, a < N → ∀ b, b < N → a ≠ b → (T a).2.1 ≠ (T b).2.1) (j : Nat) {fs : List Value} (he : L[j]? = some (a, .inr (ci, fs))) (hc : clsT[ci]? = some (C, T, N)) (i : Nat) (hiN : i < N) (hw : Cond.fieldLink own idx (T i).1 (T i).2.1 (T i).2.2.1 ∈ Tb) (hfin : (T i).2.2.2 = true) (hdecl : (T i).1 = own) {ty : FieldType} {v : Value} (hd : parseFieldDescriptor (T i).2.2.1 = some ty) (hna : narrow ty v = v) (hfi : fits ty v = true) (hlen : i < fs.length) {L' : va_W} (hL : L.set j (a, .inr (ci, fs.set i v)) = L') (hdg : decode cc pc = .ok (.putfield idx, 3)) (kk : Ac_ X (pc + 3) lv st k n ws L') : Ac_ X pc lv (v :: .ref a :: st) k n ws L := by
  intro H locs ls hP hD hS hl
  refine va_putF hX.1 hX.2.1 hX.2.2.2.1 hin ty0 hty hnm hX.2.2.1 hX.2.2.2.2.1 hP hD hS (ws.length + j) (app_at he) hc i hiN (hX.2.2.2.1 _ hw) (fun _ q => q) hfin hi hdecl hd hna hfi hlen hdg (fun H1 locs1 hP hD hS => ?_)
  rw [app_set, hL] at hP hD
  exact kk H1 locs1 ls hP hD hS hl
theorem ac_put (hX : Ok_ X own cc d) {C : String} {T : u_T} {N ci idx a : Nat} (hin : ∀ w ∈ u_ws C T N, w ∈ Tb) (ty0 : Nat → FieldType) (hty : ∀ k, k < N → parseFieldDescriptor (T k).2.2.1 = some (ty0 k)) (hnm : ∀ a, a < N → ∀ b, b < N → a ≠ b → (T a).2.1 ≠ (T b).2.1) (j : Nat) {fs : List Value} (he : L[j]? = some (a, .inr (ci, fs))) (hc : clsT[ci]? = some (C, T, N)) (i : Nat) (hiN : i < N) (hw : Cond.fieldLink own idx (T i).1 (T i).2.1 (T i).2.2.1 ∈ Tb) (hfin : (T i).2.2.2 = false) {ty : FieldType} {v : Value} (hd : parseFieldDescriptor (T i).2.2.1 = some ty) (hna : narrow ty v = v) (hfi : fits ty v = true) (hlen : i < fs.length) {L' : va_W} (hL : L.set j (a, .inr (ci, fs.set i v)) = L') (hdg : decode cc pc = .ok (.putfield idx, 3)) (kk : Ac_ X (pc + 3) lv st k n ws L') : Ac_ X pc lv (v :: .ref a :: st) k n ws L := by
  intro H locs ls hP hD hS hl
  refine va_put hX.1 hX.2.1 hX.2.2.2.1 hin ty0 hty hnm hX.2.2.1 hX.2.2.2.2.1 hP hD hS (ws.length + j) (app_at he) hc i hiN (hX.2.2.2.1 _ hw) (fun _ q => q) hfin hd hna hfi hlen hdg (fun H1 locs1 hP hD hS => ?_)
  rw [app_set, hL] at hP hD
  exact kk H1 locs1 ls hP hD hS hl
theorem ac_return (hX : Ok_ X own cc d) {mc ms : Nat} {Fin : va_W → Prop} (hR : Rk_ X mc ms ws Fin) (hk : k = mc) (hn : n = ms) (hf : Fin L) (hdg : decode cc pc = .ok (.return_, 1)) : Ac_ X pc lv [] k n ws L := by
  subst hk; subst hn
  intro H locs ls hP hD hS hl
  rw [hR.2.2.1]
  exact W.vret hX.1 hX.2.1 hR.1 (fun t ht hW => ⟨⟨rfl, L, hf, by rw [ht]; exact hP, hD⟩, hS.F ht⟩) hS.2.2 hdg hR.2.1
theorem wk_blind {G : Gl} {w : va_W} {as : List Value} : FrameBlind (va_Pc as (Wk_ G w)) := by
  intro a U g mk q
  obtain ⟨q0, qP, qK, qD, qS, qz⟩ := q
  exact ⟨q0, qP, va_K.moved (u := U) (U := U.calling g mk a) (Vm.Alike.refl U.vm) qK, qD, qS.call, qz⟩
theorem ac_run (hX : Ok_ X own cc d) {rest : List Value} {a : Array Value} {mc ms : Nat} {w0 : va_W} {Fin : va_W → Prop}
    (hr : ∀ (H : Heap) (locs : List Loc) (ls : Array Slot), va_P (xG_ X).2.1 clsT (ws ++ L) H → va_D (af_ (xG_ X)) (ws ++ L) → va_S (af_ (xG_ X)) (xs_ X).heap H locs → ls.size = (xc_ X).maxLocals → va_Run (xp_ X) (xl_ X) (xe_ X) (xR_ X) (xs_ X) (xm_ X) (xa_ X) (xb_ X) (xM_ X) (xc_ X) H locs k n mc ms (F0 (xm_ X) pc ls st) rest (Qk_ (xG_ X) (ws ++ w0) Fin a) (af_ (xG_ X)))
    (kk : ∀ L1, Fin L1 → Ac_ X (pc + 3) lv rest (k + mc) (n + ms) ws (w0 ++ L1)) : Ac_ X pc lv st k n ws L := by
  intro H locs ls hP hD hS hl
  intro T hT XX
  obtain ⟨v, st₀, t, T', L2, h0, X', hL, e1, e2, ⟨⟨hv, L1, hF, hP1, hD1⟩, hz, hk⟩, stp⟩ := hr H locs ls hP hD hS hl.1 T hT XX
  rw [h0] at hz hk
  have hv' : v = none := by cases hv; rfl
  subst hv'
  have hS1 : va_S (af_ (xG_ X)) (xs_ X).heap T'.heap (locs ++ L2) := by
    refine ⟨Nat.le_trans hS.1 (by rw [e1]; exact hz), fun q h1 h2 => by rw [e1, hk q (Nat.lt_of_lt_of_le h1 hS.1) h2]; exact hS.2.1 q h1 h2, fun q hq => ?_⟩
    rcases List.mem_append.mp hq with h | h
    · exact hS.2.2 q h
    · exact hL q h
  rw [List.append_assoc] at hP1 hD1
  obtain ⟨t2, a1, b1⟩ := kk L1 hF T'.heap (locs ++ L2) ls (by rw [e1]; exact hP1) hD1 hS1 hl T' rfl X'
  exact ⟨t2, stp t2 a1, b1⟩
theorem wk_at (hX : Ok_ X own cc d) (hz : (xG_ X).2.2.2.2.2 ≤ (xs_ X).heap.size) {w : va_W} {H : Heap} {locs : List Loc} (hP : va_P (xG_ X).2.1 clsT w H) (hD : va_D (af_ (xG_ X)) w) (hS : va_S (af_ (xG_ X)) (xs_ X).heap H locs) {U : State} (hU : U.heap = H) (hW : (xs_ X).WarmedH U.vm) : Wk_ (xG_ X) w U :=
  ⟨by rw [hU]; exact hP, va_K.moved hW.alike hX.2.2.2.2.1, hD, hX.2.2.2.2.2.1.move hS hU hW, by rw [hU]; exact Nat.le_trans hz hS.1⟩
theorem room_k (hX : Ok_ X own cc d) {dy nL mc ms : Nat} (hd : dy + 1 ≤ d) (hL : nL ≤ 21) : (rk_ dy mc ms).frames + 1 ≤ (xR_ X).frames ∧ 8 + (nL + 11) + (rk_ dy mc ms).locals ≤ (xR_ X).locals := by
  obtain ⟨h1, h2, -⟩ := hX.2.2.2.2.2.2
  refine ⟨?_, ?_⟩
  · show dy + 1 ≤ _
    omega
  · show 8 + (nL + 11) + 40 * dy ≤ _
    omega
/-- words of a constructor's call -/
def CI_ (own : String) (idx : Nat) (μ : Mi_) (np : Nat) : Prop := (Cond.methodLink own idx μ.2.1 ∈ Tb ∧ Cond.instanceMethod μ.2.1 ∈ Tb ∧ Cond.initialized μ.2.1.cls ∈ Tb ∧ Cond.code μ.2.1 μ.2.2.1 μ.2.2.2.1 none ∈ Tb) ∧ (μ.2.1.cls ≠ "java/lang/invoke/MethodHandle" ∧ μ.2.1.cls ≠ "java/lang/invoke/VarHandle" ∧ (parseMethodDescriptor μ.2.1.desc).map (fun d => d.parameters.length) = some np) ∧ μ.2.2.2.1 ≤ 21 ∧ μ.2.1.name = "<init>"
theorem ac_callI (hX : Ok_ X own cc d) (hz : (xG_ X).2.2.2.2.2 ≤ (xs_ X).heap.size) {idx np dy mc ms ci q : Nat} {μ : Mi_} {fs as rest : List Value} {Fin : va_W → Prop} (cv : CI_ own idx μ np) (hd : dy + 1 ≤ d) (hM : Cn_ (xl_ X) (xG_ X) dy μ as mc ms ci fs q Fin) (hn : as.length = np) (hst : st = as.reverse ++ .ref q :: rest) (hc : (rest.map fun v => v.category).sum ≤ 8) (hk : k + mc ≤ (xR_ X).cells) (hs : n + ms ≤ (xR_ X).slots) (hdg : decode cc pc = .ok (.invokespecial idx, 3)) (kk : ∀ L1, Fin L1 → Ac_ X (pc + 3) lv rest (k + mc) (n + ms) ws (L ++ L1)) : Ac_ X pc lv st k n ws (L ++ [(q, .inr (ci, fs))]) := by
  obtain ⟨⟨w1, w2, w3, w4⟩, hy, hL, hnm⟩ := cv
  refine ac_run hX (rest := rest) (a := (Value.ref q :: as).toArray) (fun H locs ls hP hD hS hls => ?_) kk
  rw [← List.append_assoc] at hP hD
  exact va_runI (As := as) (n := np) (bytes := μ.2.2.1) (maxL := μ.2.2.2.1) (nL := (xc_ X).maxLocals) (Ts := Tb) (own := own) (cc := cc) (index := idx) (y := μ.2.1) (b := q)
    ⟨hX.1, hX.2.1, rfl, hX.2.2.1, hX.2.2.2.1⟩ (hM (ws ++ L)) (cwI np hX.2.2.2.1 (tb_goodIn (fun _ h => h) (tb_cons w4)) rfl rfl rfl (hX.2.2.2.1 _ w3) (hX.2.2.2.1 _ w1) (hX.2.2.2.1 _ w2) hnm hy (room_k hX hd hL)) ⟨wk_blind, fun U hU hW => ⟨rfl, wk_at hX hz hP hD hS hU hW⟩⟩ rfl hn hls hst (lv_room hc) hdg ⟨hk, hs⟩
/-- of a nest mate's private constructor -/
def CJ_ (own : String) (idx : Nat) (μ : Mi_) (np : Nat) : Prop := ((own, idx, μ.2.1, "BrickModels") ∈ nestT ∧ Cond.instanceMethod μ.2.1 ∈ Tb ∧ Cond.initialized μ.2.1.cls ∈ Tb ∧ Cond.code μ.2.1 μ.2.2.1 μ.2.2.2.1 none ∈ Tb) ∧ (μ.2.1.cls ≠ "java/lang/invoke/MethodHandle" ∧ μ.2.1.cls ≠ "java/lang/invoke/VarHandle" ∧ (parseMethodDescriptor μ.2.1.desc).map (fun d => d.parameters.length) = some np) ∧ μ.2.2.2.1 ≤ 21 ∧ μ.2.1.name = "<init>"
theorem ac_callJ (hX : Ok_ X own cc d) (hz : (xG_ X).2.2.2.2.2 ≤ (xs_ X).heap.size) {idx np dy mc ms ci q : Nat} {μ : Mi_} {fs as rest : List Value} {Fin : va_W → Prop} (cv : CJ_ own idx μ np) (hd : dy + 1 ≤ d) (hM : Cn_ (xl_ X) (xG_ X) dy μ as mc ms ci fs q Fin) (hn : as.length = np) (hst : st = as.reverse ++ .ref q :: rest) (hc : (rest.map fun v => v.category).sum ≤ 8) (hk : k + mc ≤ (xR_ X).cells) (hs : n + ms ≤ (xR_ X).slots) (hdg : decode cc pc = .ok (.invokespecial idx, 3)) (kk : ∀ L1, Fin L1 → Ac_ X (pc + 3) lv rest (k + mc) (n + ms) ws (L ++ L1)) : Ac_ X pc lv st k n ws (L ++ [(q, .inr (ci, fs))]) := by
  obtain ⟨⟨w1, w2, w3, w4⟩, hy, hL, hnm⟩ := cv
  refine ac_run hX (rest := rest) (a := (Value.ref q :: as).toArray) (fun H locs ls hP hD hS hls => ?_) kk
  rw [← List.append_assoc] at hP hD
  exact va_runIN (As := as) (n := np) (bytes := μ.2.2.1) (maxL := μ.2.2.2.1) (nL := (xc_ X).maxLocals) (Ts := Tb) (own := own) (cc := cc) (index := idx) (y := μ.2.1) (b := q) (host := "BrickModels")
    ⟨hX.1, hX.2.1, rfl, hX.2.2.1, hX.2.2.2.1⟩ (hM (ws ++ L)) ⟨va_cnB np hX.2.2.2.1 (tb_goodIn (fun _ h => h) (tb_cons w4)) rfl rfl rfl (hX.2.2.2.2.2.1.2 _ w1) (hX.2.2.2.1 _ w3) hy (room_k hX hd hL), hnm, hX.2.2.2.1 _ w2⟩ ⟨wk_blind, fun U hU hW => ⟨rfl, wk_at hX hz hP hD hS hU hW⟩⟩ rfl hn hls hst (lv_room hc) hdg ⟨hk, hs⟩
end AcRows
theorem ra_int {s : State} {a b : ClassId} (h1 : va_RA s a .int) (h2 : va_RA s b .int) : a = b := Option.some.inj (h1.symm.trans h2)
theorem ra_long {s : State} {a b : ClassId} (h1 : va_RA s a .long) (h2 : va_RA s b .long) : a = b := Option.some.inj (h1.symm.trans h2)
theorem ra_bool {s : State} {a b : ClassId} (h1 : va_RA s a .boolean) (h2 : va_RA s b .boolean) : a = b := Option.some.inj (h1.symm.trans h2)
theorem arr0_int (n : Nat) (cA : ClassId) : vp_cell cA (n, .inl (fun _ => 0)) = arrV cA n (fun _ => defaultValue .int) := rfl
theorem arr0_bool (n : Nat) (cA : ClassId) : vp_cell cA (n, .inl (fun _ => 0)) = arrV cA n (fun _ => defaultValue .boolean) := rfl
theorem arr0_long (n : Nat) (cA : ClassId) : vp_cell cA (n, .inr (.inl (fun _ => 0))) = arrV cA n (fun _ => defaultValue .long) := rfl
