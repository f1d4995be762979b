/-! ===== the worlds: ids (family, instance, member), values, states ===== -/
abbrev hb_Id : Type := Nat × Nat × Nat
abbrev hb_V : Type := Int32 ⊕ (Int64 ⊕ Option hb_Id)
abbrev hb_i (x : Int32) : hb_V := .inl x
abbrev hb_l (x : Int64) : hb_V := .inr (.inl x)
abbrev hb_r (t g j : Nat) : hb_V := .inr (.inr (some (t, g, j)))
abbrev hb_n : hb_V := .inr (.inr none)
abbrev hb_F (α : Type) : Type := Nat → Nat → Nat → α
abbrev hb_W : Type := hb_F Int32 × hb_F Int64 × hb_F Nat × hb_F (Nat → Int32) × hb_F (Nat → Int64)
abbrev hb_fI (w : hb_W) (t k g : Nat) : Int32 := w.1 t k g
abbrev hb_fL (w : hb_W) (t k g : Nat) : Int64 := w.2.1 t k g
abbrev hb_fR (w : hb_W) (t k g : Nat) : Nat := w.2.2.1 t k g
abbrev hb_aI (w : hb_W) (t j g : Nat) : Nat → Int32 := w.2.2.2.1 t j g
abbrev hb_aL (w : hb_W) (t j g : Nat) : Nat → Int64 := w.2.2.2.2 t j g
def hb_u3 {α : Type} (f : hb_F α) (t k g : Nat) (v : α) : hb_F α := fun t' k' g' => if t' = t then (if k' = k then (if g' = g then v else f t' k' g') else f t' k' g') else f t' k' g'
def hb_pI (w : hb_W) (t k g : Nat) (v : Int32) : hb_W := (hb_u3 w.1 t k g v, w.2.1, w.2.2.1, w.2.2.2.1, w.2.2.2.2)
def hb_pL (w : hb_W) (t k g : Nat) (v : Int64) : hb_W := (w.1, hb_u3 w.2.1 t k g v, w.2.2.1, w.2.2.2.1, w.2.2.2.2)
def hb_pR (w : hb_W) (t k g : Nat) (v : Nat) : hb_W := (w.1, w.2.1, hb_u3 w.2.2.1 t k g v, w.2.2.2.1, w.2.2.2.2)
def hb_sI (w : hb_W) (t j g : Nat) (f : Nat → Int32) : hb_W := (w.1, w.2.1, w.2.2.1, hb_u3 w.2.2.2.1 t j g f, w.2.2.2.2)
def hb_sL (w : hb_W) (t j g : Nat) (f : Nat → Int64) : hb_W := (w.1, w.2.1, w.2.2.1, w.2.2.2.1, hb_u3 w.2.2.2.2 t j g f)
theorem hb_u3_s {α : Type} (f : hb_F α) (t k g : Nat) (v : α) : hb_u3 f t k g v t k g = v := by simp [hb_u3]
theorem hb_u3_n {α : Type} (f : hb_F α) (t k g : Nat) (v : α) {t' k' g' : Nat} (h : ¬ (t' = t ∧ k' = k ∧ g' = g)) : hb_u3 f t k g v t' k' g' = f t' k' g' := by
  unfold hb_u3
  by_cases h1 : t' = t
  · by_cases h2 : k' = k
    · by_cases h3 : g' = g
      · exact absurd ⟨h1, h2, h3⟩ h
      · simp [h3]
    · simp [h2]
  · simp [h1]
/-- what a class's objects and arrays are, by family and member -/

def hb_shT : List (List (Nat ⊕ (Nat × Nat))) := [[.inl 11, .inr (0, 6)], [.inl 10, .inr (1, 1600)], [.inl 1, .inr (0, 1600)], [.inl 7], [.inl 2], [.inl 5, .inr (0, 576)], [.inl 9, .inr (0, 64)], [.inl 8, .inr (0, 400), .inr (0, 400), .inr (0, 400), .inr (0, 9), .inr (0, 20), .inr (0, 20), .inr (0, 180)], [.inl 4], [.inl 0, .inr (0, 64), .inr (0, 64), .inr (0, 100), .inr (0, 9), .inr (0, 9), .inr (0, 9), .inr (0, 27), .inr (0, 72), .inr (0, 9), .inr (0, 9)], [.inl 3, .inr (0, 1213)], [.inl 6, .inr (0, 20), .inr (0, 20), .inr (0, 20), .inr (0, 20), .inr (0, 20), .inr (0, 20)], [.inl 12, .inr (0, 1600), .inr (0, 6), .inr (2, 4), .inr (2, 5), .inr (2, 4), .inr (2, 5), .inr (2, 4), .inr (2, 4), .inr (2, 5), .inr (2, 4), .inr (2, 3), .inr (2, 4), .inr (0, 6), .inr (0, 160), .inr (0, 42), .inr (0, 42), .inr (0, 3200), .inr (0, 11), .inr (0, 1203), .inr (0, 576), .inr (0, 64), .inr (0, 64), .inr (0, 10), .inr (0, 9), .inr (0, 9), .inr (0, 27), .inr (3, 72), .inr (0, 9), .inr (0, 9), .inr (0, 100), .inr (0, 9), .inr (0, 220), .inr (2, 5), .inr (2, 4), .inr (2, 5), .inr (2, 5), .inr (2, 4), .inr (2, 5), .inr (2, 3), .inr (2, 3), .inr (2, 2), .inr (2, 3), .inr (2, 3), .inr (2, 3), .inr (2, 4), .inr (2, 4), .inr (2, 4), .inr (2, 4), .inr (2, 5), .inr (2, 4), .inr (2, 5), .inr (2, 4), .inr (2, 2), .inr (0, 1700), .inr (0, 1700), .inr (4, 1700), .inr (0, 1213)]]
def hb_cnT : List Nat := [1, 1, 3, 1, 1, 2, 1, 1, 1, 4, 1, 2, 1]
def hb_lkT : List (List (Option (Nat × Nat × Nat))) := [[some (1, 0, 0), some (4, 0, 0), some (2, 0, 0), some (6, 0, 0), some (7, 0, 0), some (8, 0, 0), some (10, 0, 0), some (0, 1, 1), some (11, 0, 3), some (11, 0, 3), none, none, none],
  [some (1, 1, 1), none],
  [some (2, 1, 1), none],
  [some (1, 0, 0), none, none, none, none, none, none, none],
  [some (3, 0, 0), some (2, 0, 3), none],
  [some (5, 1, 1)],
  [none, none, none, none, none, none, none, none, none, some (5, 0, 0), some (6, 1, 1)],
  [some (7, 1, 1), some (7, 2, 1), some (7, 3, 1), none, none, some (7, 4, 1), none, none, none, some (7, 5, 1), some (7, 6, 1), some (7, 7, 1)],
  [some (9, 0, 0), some (9, 0, 5), some (9, 0, 6), some (5, 0, 0), none, none, some (9, 0, 7), some (5, 0, 5), some (6, 0, 0), none, none],
  [none, none, some (5, 0, 3), none, none, some (9, 1, 1), some (9, 2, 1), some (9, 3, 1), none, some (9, 4, 1), none, some (9, 5, 1), some (9, 6, 1), some (9, 7, 1), some (9, 8, 1), some (9, 9, 1), some (9, 10, 1)],
  [some (10, 1, 1), none],
  [none, none, none, none, none, some (11, 1, 1), some (11, 2, 1), some (11, 3, 1), some (11, 4, 1), some (11, 5, 1), some (11, 6, 1), some (2, 0, 2), none, none, none],
  [some (12, 1, 1), none, none, none, none, none, none, none, none, some (12, 2, 1), none, some (12, 3, 1), some (12, 4, 1), some (12, 5, 1), some (12, 6, 1), some (12, 7, 1), some (12, 8, 1), some (12, 9, 1), some (12, 10, 1), some (12, 11, 1), some (12, 12, 1), some (12, 13, 1), none, none, some (12, 14, 1), some (12, 15, 1), some (12, 16, 1), some (12, 17, 1), none, none, none, none, some (12, 18, 1), some (12, 19, 1), none, none, none, none, some (12, 20, 1), none, none, some (12, 21, 1), some (12, 22, 1), some (12, 23, 1), none, none, some (12, 24, 1), some (12, 25, 1), some (12, 26, 1), some (12, 27, 1), some (12, 28, 1), some (12, 29, 1), some (12, 30, 1), some (12, 31, 1), some (12, 32, 1), none, none, some (0, 0, 4), some (12, 33, 1), some (12, 34, 1), some (12, 35, 1), some (12, 36, 1), some (12, 37, 1), some (12, 38, 1), some (12, 39, 1), some (12, 40, 1), some (12, 41, 1), some (12, 42, 1), some (12, 43, 1), some (12, 44, 1), some (12, 45, 1), some (12, 46, 1), some (12, 47, 1), some (12, 48, 1), some (12, 49, 1), some (12, 50, 1), some (12, 51, 1), some (12, 52, 1), some (12, 53, 1), some (12, 54, 1), none, some (12, 55, 1), none, none, none, some (12, 56, 1), none, some (0, 0, 4), none, some (12, 57, 1), none]]
def hb_sh (t j : Nat) : Option (Nat ⊕ (Nat × Nat)) := (hb_shT.getD t [])[j]?
def hb_ct (t : Nat) : Nat := hb_cnT.getD t 0
def hb_lk (t k : Nat) : Option (Nat × Nat × Nat) := (hb_lkT.getD t []).getD k none
def hb_nf (ci : Nat) : Nat := (vwCl.map fun q => q.2.2).getD ci 0
def hb_tg (md g r : Nat) : Nat := match md with
  | 0 => 0
  | 1 => g
  | 2 => g + 1
  | 3 => r
  | 5 => 1
  | 6 => 2
  | _ => 3
def hb_fd (w : hb_W) (t k g : Nat) : hb_V := match hb_lk t k with
  | none => hb_i (hb_fI w t k g)
  | some (t', j', md) => if md = 4 then hb_l (hb_fL w t k g) else hb_r t' (hb_tg md g (hb_fR w t k g)) j'
def hb_cv (ad : hb_Id → Nat) : hb_V → Value
  | .inl x => .int x
  | .inr (.inl x) => .long x
  | .inr (.inr (some q)) => .ref (ad q)
  | .inr (.inr none) => .null
def hb_ids : List hb_Id := (List.range 13).flatMap fun t => (List.range (hb_ct t)).flatMap fun g => (List.range (hb_shT.getD t []).length).map fun j => (t, g, j)
def hb_e (cA : Nat → ClassId) (ad : hb_Id → Nat) (w : hb_W) (q : hb_Id) : va_E := match hb_sh q.1 q.2.2 with
  | some (.inl ci) => .inr (ci, (List.range (hb_nf ci)).map fun k => hb_cv ad (hb_fd w q.1 k q.2.1))
  | some (.inr (ty, n)) => .inl (cA ty, n, if ty = 4 then .inr (.inl (hb_aL w q.1 q.2.2 q.2.1)) else .inl (hb_aI w q.1 q.2.2 q.2.1))
  | none => .inr (0, [])
def hb_ws (cA : Nat → ClassId) (ad : hb_Id → Nat) (w : hb_W) : va_W := hb_ids.map fun q => (ad q, hb_e cA ad w q)
theorem hb_ids_nd : hb_ids.Nodup := by decide +kernel
theorem hb_mem {t g j : Nat} {x : Nat ⊕ (Nat × Nat)} (hs : hb_sh t j = some x) (hg : g < hb_ct t) : (t, g, j) ∈ hb_ids := by
  have ht : t < 13 := by
    rcases Nat.lt_or_ge t 13 with h | h
    · exact h
    · exfalso
      have : hb_ct t = 0 := by
        unfold hb_ct
        rw [List.getD_eq_getElem?_getD, List.getElem?_eq_none (by exact h)]
        rfl
      omega
  refine List.mem_flatMap.mpr ⟨t, List.mem_range.mpr ht, List.mem_flatMap.mpr ⟨g, List.mem_range.mpr hg, List.mem_map.mpr ⟨j, List.mem_range.mpr ?_, rfl⟩⟩⟩
  exact (List.getElem?_eq_some_iff.mp hs).1
theorem hb_place {t g j : Nat} {x : Nat ⊕ (Nat × Nat)} (hs : hb_sh t j = some x) (hg : g < hb_ct t) : ∃ p : Nat, hb_ids[p]? = some (t, g, j) := List.getElem?_of_mem (hb_mem hs hg)
theorem hb_ws_at (cA : Nat → ClassId) (ad : hb_Id → Nat) (w : hb_W) {p : Nat} {q : hb_Id} (h : hb_ids[p]? = some q) : (hb_ws cA ad w)[p]? = some (ad q, hb_e cA ad w q) := by
  unfold hb_ws
  rw [List.getElem?_map, h]
  rfl
theorem hb_ws_set (cA : Nat → ClassId) (ad : hb_Id → Nat) (w w' : hb_W) {p : Nat} {q : hb_Id} (h : hb_ids[p]? = some q) (hn : ∀ q' : hb_Id, q' ≠ q → hb_e cA ad w' q' = hb_e cA ad w q') : (hb_ws cA ad w).set p (ad q, hb_e cA ad w' q) = hb_ws cA ad w' := by
  refine List.ext_getElem? fun i => ?_
  by_cases hi : i = p
  · subst hi
    have hl : i < (hb_ws cA ad w).length := (List.getElem?_eq_some_iff.mp (hb_ws_at cA ad w h)).1
    rw [List.getElem?_set_self hl, hb_ws_at cA ad w' h]
  · rw [List.getElem?_set_ne (Ne.symm hi)]
    cases hq : hb_ids[i]? with
    | none =>
      unfold hb_ws
      rw [List.getElem?_map, List.getElem?_map, hq]
      rfl
    | some q' =>
      rw [hb_ws_at cA ad w hq, hb_ws_at cA ad w' hq, hn q' ?_]
      intro e
      subst e
      exact hi ((List.getElem?_inj (List.getElem?_eq_some_iff.mp hq).1 hb_ids_nd).mp (hq.trans h.symm))
/-- the states: what the tables say, the machine, the room -/
def hb_tys (cA : Nat → ClassId) : List (ClassId × FieldType) := [(cA 0, .int), (cA 1, .byte), (cA 2, .char), (cA 3, .boolean), (cA 4, .long)]
abbrev hb_nest : Cond := .methodLinkNest "HoodBook$Marks" 24 yX11_isLine "HoodBook"
abbrev hb_nest2 : Cond := .methodLinkNest "HoodBook$Book" 89 yX11_isHood "HoodBook"
def hb_tb : List Cond := lw_tbl.filter goodWord
def hb_C (y : MethodName) (cc : ByteArray) (nL : Nat) (ret : Option FieldType) (d : Nat) (p : Program) (R : Room) (s : State) (m : MethodId) (args : Array Value) (meth : Method) (c : Code) (cells slots : Nat) (D : va_G) (cA : Nat → ClassId) (ad : hb_Id → Nat) (Hb : Heap) : Prop :=
  p.tables.exec = Jvm.exec ∧ c.code = cc ∧ c.maxLocals = nL ∧ s.vm.findClass y.cls = some m.cls ∧ (∀ w ∈ hb_tb, w.before args s = true) ∧ va_K D vwCl (hb_tys cA) s ∧ (∀ w : hb_W, va_D (fun q => Hb.size ≤ q) (hb_ws cA ad w)) ∧ (d ≤ R.frames ∧ 64 * d ≤ R.locals ∧ cells ≤ R.cells ∧ slots ≤ R.slots) ∧ meth.sig.returnType = ret ∧ meth.locks = false ∧ va_Nw hb_nest s ∧ va_Nw hb_nest2 s
def hb_H (D : va_G) (cA : Nat → ClassId) (ad : hb_Id → Nat) (Hb : Heap) (w : hb_W) (H : Heap) (locs : List Loc) : Prop := va_P D vwCl (hb_ws cA ad w) H ∧ va_S (fun q => Hb.size ≤ q) Hb H locs
def hb_L (ad : hb_Id → Nat) (nL : Nat) (ls : List (Option hb_V)) (lsm : Array Slot) : Prop := lsm.size = nL ∧ lv_wf lsm ∧ ∀ (i : Nat) (v : hb_V), ls[i]? = some (some v) → lsm[i]? = some (.val (hb_cv ad v))
/-- the end of a method: its return, with what it answers -/
def hb_E (ad : hb_Id → Nat) (cc : ByteArray) (ret : Option FieldType) (pc : Nat) (rv : Option hb_V) (stm : List Value) : Prop := match rv with
  | none => decode cc pc = .ok (.return_, 1) ∧ stm = [] ∧ ret = none
  | some (.inl v) => decode cc pc = .ok (.ireturn, 1) ∧ stm = [.int v] ∧ (ret = some .int ∨ (ret = some .boolean ∧ (v = 0 ∨ v = 1)))
  | some (.inr (.inl v)) => decode cc pc = .ok (.lreturn, 1) ∧ stm = [.long v] ∧ ret = some .long
  | some (.inr (.inr q)) => decode cc pc = .ok (.areturn, 1) ∧ stm = [hb_cv ad (.inr (.inr q))] ∧ ∃ n, ret = some (.object n)
/-- from here the method comes to its return with an answer and a world of which Q holds -/
def hb_R (y : MethodName) (cc : ByteArray) (nL : Nat) (ret : Option FieldType) (d : Nat) (pc : Nat) (ls : List (Option hb_V)) (st : List hb_V) (w : hb_W) (Q : Option hb_V → hb_W → Prop) : Prop :=
  ∀ (p : Program) (l : Launch) (e : Env) (R : Room) (s : State) (m : MethodId) (args : Array Value) (below : List Frame) (meth : Method) (c : Code) (cells slots : Nat) (D : va_G) (cA : Nat → ClassId) (ad : hb_Id → Nat) (Hb : Heap) (Z : State → Prop),
    hb_C y cc nL ret d p R s m args meth c cells slots D cA ad Hb →
    (∀ (rv : Option hb_V) (w' : hb_W) (H' : Heap) (locs' : List Loc) (pc' : Nat) (lsm' : Array Slot) (stm : List Value), Q rv w' → hb_H D cA ad Hb w' H' locs' → hb_E ad cc ret pc' rv stm → W p l e R s m args below meth c H' locs' cells slots Z (F0 m pc' lsm' stm)) →
    ∀ (H : Heap) (locs : List Loc) (lsm : Array Slot), hb_H D cA ad Hb w H locs → hb_L ad nL ls lsm → W p l e R s m args below meth c H locs cells slots Z (F0 m pc lsm (st.map (hb_cv ad)))
/-- a method's contract: called with these values in this world it answers as Q says -/
def hb_fl : List hb_V → List (Option hb_V)
  | [] => []
  | .inr (.inl x) :: l => some (.inr (.inl x)) :: none :: hb_fl l
  | .inl x :: l => some (.inl x) :: hb_fl l
  | .inr (.inr q) :: l => some (.inr (.inr q)) :: hb_fl l
def hb_en (nL : Nat) (As : List hb_V) : List (Option hb_V) := hb_fl As ++ List.replicate (nL - (hb_fl As).length) none
def hb_O (y : MethodName) (cc : ByteArray) (nL : Nat) (ret : Option FieldType) (d : Nat) (As : List hb_V) (w : hb_W) (Q : Option hb_V → hb_W → Prop) : Prop := hb_R y cc nL ret d 0 (hb_en nL As) [] w Q
/-- storing into the locals -/
def hb_cl (ls : List (Option hb_V)) (i : Nat) : List (Option hb_V) := match i with
  | 0 => ls
  | k + 1 => match ls[k]? with
    | some (some (.inr (.inl _))) => ls.set k none
    | _ => ls
def hb_s1 (ls : List (Option hb_V)) (i : Nat) (v : hb_V) : List (Option hb_V) := (hb_cl ls i).set i (some v)
def hb_s2 (ls : List (Option hb_V)) (i : Nat) (v : hb_V) : List (Option hb_V) := ((hb_cl ls i).set i (some v)).set (i + 1) none
theorem hb_cv_cat (ad : hb_Id → Nat) (v : hb_V) (h : (hb_cv ad v).category = 2) : ∃ x, v = .inr (.inl x) := by
  rcases v with x | x | (_ | q)
  · simp [hb_cv, Value.category] at h
  · exact ⟨x, rfl⟩
  · simp [hb_cv, Value.category] at h
  · simp [hb_cv, Value.category] at h
theorem hb_cl_at {ls : List (Option hb_V)} {i j : Nat} {v : hb_V} (h : (hb_cl ls i)[j]? = some (some v)) : ls[j]? = some (some v) ∧ ¬ (j + 1 = i ∧ ∃ x, v = .inr (.inl x)) := by
  unfold hb_cl at h
  cases i with
  | zero => exact ⟨h, fun q => by omega⟩
  | succ k =>
    dsimp only at h
    split at h
    · rename_i x hx
      by_cases e : j = k
      · subst e
        have hl : j < ls.length := (List.getElem?_eq_some_iff.mp hx).1
        rw [List.getElem?_set_self hl] at h
        simp at h
      · rw [List.getElem?_set_ne (Ne.symm e)] at h
        exact ⟨h, fun q => e (by omega)⟩
    · rename_i hx
      refine ⟨h, fun q => ?_⟩
      obtain ⟨q1, x, q2⟩ := q
      have e : j = k := by omega
      subst e
      subst q2
      exact hx x h
theorem hb_L.s1 {ad : hb_Id → Nat} {nL : Nat} {ls : List (Option hb_V)} {lsm : Array Slot} {i : Nat} {v : hb_V} (h : hb_L ad nL ls lsm) (hi : i < nL) (hc : (hb_cv ad v).category = 1) : ∃ lsm', storeLocals lsm i (hb_cv ad v) = some lsm' ∧ hb_L ad nL (hb_s1 ls i v) lsm' := by
  obtain ⟨h1, h2, h3⟩ := h
  obtain ⟨l0, e0, g1, g2, g3⟩ := lv_store1 (l := []) (v := hb_cv ad v) ⟨h1, h2, fun q hq => by cases hq⟩ hi hc
  refine ⟨l0, e0, g1, g2, fun j u hj => ?_⟩
  unfold hb_s1 at hj
  by_cases e : j = i
  · subst e
    have hl : j < ((hb_cl ls j).set j (some v)).length := (List.getElem?_eq_some_iff.mp hj).1
    rw [List.length_set] at hl
    rw [List.getElem?_set_self hl] at hj
    cases hj
    exact g3 (j, hb_cv ad v) List.mem_cons_self
  · rw [List.getElem?_set_ne (Ne.symm e)] at hj
    obtain ⟨k1, k2⟩ := hb_cl_at hj
    obtain ⟨l1, e1, p1, p2, p3⟩ := lv_store1 (l := [(j, hb_cv ad u)]) (v := hb_cv ad v) ⟨h1, h2, fun q hq => by rw [List.mem_singleton.mp hq]; exact h3 j u k1⟩ hi hc
    have e2 : l0 = l1 := Option.some.inj (e0.symm.trans e1)
    subst e2
    refine p3 (j, hb_cv ad u) (List.mem_cons_of_mem _ (List.mem_filter.mpr ⟨List.mem_singleton.mpr rfl, ?_⟩))
    simp only [Bool.and_eq_true, Bool.not_eq_true', beq_eq_false_iff_ne, Bool.and_eq_false_iff]
    refine ⟨e, ?_⟩
    by_cases q : j + 1 = i
    · right
      intro q2
      exact k2 ⟨q, hb_cv_cat ad u q2⟩
    · exact Or.inl q
theorem hb_L.s2 {ad : hb_Id → Nat} {nL : Nat} {ls : List (Option hb_V)} {lsm : Array Slot} {i : Nat} {v : hb_V} (h : hb_L ad nL ls lsm) (hi : i + 1 < nL) (hc : (hb_cv ad v).category = 2) : ∃ lsm', storeLocals lsm i (hb_cv ad v) = some lsm' ∧ hb_L ad nL (hb_s2 ls i v) lsm' := by
  obtain ⟨h1, h2, h3⟩ := h
  obtain ⟨l0, e0, g1, g2, g3⟩ := lv_store2 (l := []) (v := hb_cv ad v) ⟨h1, h2, fun q hq => by cases hq⟩ hi hc
  refine ⟨l0, e0, g1, g2, fun j u hj => ?_⟩
  unfold hb_s2 at hj
  by_cases e0' : j = i + 1
  · subst e0'
    exfalso
    have hl : i + 1 < (((hb_cl ls i).set i (some v)).set (i + 1) none).length := (List.getElem?_eq_some_iff.mp hj).1
    rw [List.length_set] at hl
    rw [List.getElem?_set_self hl] at hj
    simp at hj
  rw [List.getElem?_set_ne (Ne.symm e0')] at hj
  by_cases e : j = i
  · subst e
    have hl : j < ((hb_cl ls j).set j (some v)).length := (List.getElem?_eq_some_iff.mp hj).1
    rw [List.length_set] at hl
    rw [List.getElem?_set_self hl] at hj
    cases hj
    exact g3 (j, hb_cv ad v) List.mem_cons_self
  · rw [List.getElem?_set_ne (Ne.symm e)] at hj
    obtain ⟨k1, k2⟩ := hb_cl_at hj
    obtain ⟨l1, e1, p1, p2, p3⟩ := lv_store2 (l := [(j, hb_cv ad u)]) (v := hb_cv ad v) ⟨h1, h2, fun q hq => by rw [List.mem_singleton.mp hq]; exact h3 j u k1⟩ hi hc
    have e2 : l0 = l1 := Option.some.inj (e0.symm.trans e1)
    subst e2
    refine p3 (j, hb_cv ad u) (List.mem_cons_of_mem _ (List.mem_filter.mpr ⟨List.mem_singleton.mpr rfl, ?_⟩))
    simp only [Bool.and_eq_true, Bool.not_eq_true', beq_eq_false_iff_ne, Bool.and_eq_false_iff]
    refine ⟨e, e0', ?_⟩
    by_cases q : j + 1 = i
    · right
      intro q2
      exact k2 ⟨q, hb_cv_cat ad u q2⟩
    · exact Or.inl q

