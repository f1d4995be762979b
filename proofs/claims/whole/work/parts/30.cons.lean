/-! ===== construction: cells in the order in which they are made ===== -/
abbrev hc_A : Type := (Nat × Nat × List (Nat × Int32)) ⊕ (Nat × List hb_V)
def hc_fn (us : List (Nat × Int32)) : Nat → Int32 := us.foldl (fun f q => upd f q.1 q.2) (fun _ => 0)
theorem hc_fn_app (us : List (Nat × Int32)) (i : Nat) (x : Int32) : hc_fn (us ++ [(i, x)]) = upd (hc_fn us) i x := by
  unfold hc_fn
  rw [List.foldl_append]
  rfl
def hc_va (ty n : Nat) (us : List (Nat × Int32)) : vp_A := if ty = 4 then (n, .inr (.inl (fun _ => 0))) else (n, .inl (hc_fn us))
def hc_ad (base : Nat) (q : hb_Id) : Nat := base + q.1
def hc_e (cA : Nat → ClassId) (base : Nat) : hc_A → va_E
  | .inl (ty, n, us) => .inl (cA ty, hc_va ty n us)
  | .inr (ci, fs) => .inr (ci, fs.map (hb_cv (hc_ad base)))
def hc_ws (cA : Nat → ClassId) (base : Nat) (L : List hc_A) : va_W := L.zipIdx.map fun q => (base + q.2, hc_e cA base q.1)
theorem hc_ws_get (cA : Nat → ClassId) (base : Nat) (L : List hc_A) (i : Nat) : (hc_ws cA base L)[i]? = (L[i]?).map fun c => (base + i, hc_e cA base c) := by
  unfold hc_ws
  rw [List.getElem?_map, List.getElem?_zipIdx]
  cases L[i]? <;> simp
theorem hc_ws_at (cA : Nat → ClassId) (base : Nat) {L : List hc_A} {i : Nat} {c : hc_A} (h : L[i]? = some c) : (hc_ws cA base L)[i]? = some (base + i, hc_e cA base c) := by
  rw [hc_ws_get, h]
  rfl
theorem hc_ws_set (cA : Nat → ClassId) (base : Nat) (L : List hc_A) (i : Nat) (c : hc_A) : (hc_ws cA base L).set i (base + i, hc_e cA base c) = hc_ws cA base (L.set i c) := by
  refine List.ext_getElem? fun j => ?_
  rw [hc_ws_get, List.getElem?_set, List.getElem?_set, hc_ws_get]
  have hl : (hc_ws cA base L).length = L.length := by
    unfold hc_ws
    simp
  rw [hl]
  by_cases h : i = j
  · subst h
    by_cases h2 : i < L.length
    · simp [h2]
    · simp [h2]
  · simp [h]
theorem hc_ws_app (cA : Nat → ClassId) (base : Nat) (L : List hc_A) (c : hc_A) : hc_ws cA base (L ++ [c]) = hc_ws cA base L ++ [(base + L.length, hc_e cA base c)] := by
  unfold hc_ws
  rw [List.zipIdx_append, List.map_append]
  simp
theorem hc_ws_D (cA : Nat → ClassId) (base : Nat) (L : List hc_A) : va_D (fun q => base ≤ q) (hc_ws cA base L) := by
  refine ⟨fun i j p q hi hj e => ?_, fun k q hk => ?_⟩
  · rw [hc_ws_get] at hi hj
    obtain ⟨c1, -, e1⟩ := Option.map_eq_some_iff.mp hi
    obtain ⟨c2, -, e2⟩ := Option.map_eq_some_iff.mp hj
    rw [← e1, ← e2] at e
    simp at e
    exact e
  · rw [hc_ws_get] at hk
    obtain ⟨c1, -, e1⟩ := Option.map_eq_some_iff.mp hk
    rw [← e1]
    simp
def hc_H (D : va_G) (cA : Nat → ClassId) (Hb : Heap) (L : List hc_A) (H : Heap) (locs : List Loc) : Prop := H.size = Hb.size + L.length ∧ va_P D vwCl (hc_ws cA Hb.size L) H ∧ va_S (fun q => Hb.size ≤ q) Hb H locs
def hc_C (own nm : String) (cc : ByteArray) (nL d : Nat) (p : Program) (R : Room) (s : State) (m : MethodId) (args : Array Value) (meth : Method) (c : Code) (D : va_G) (cA : Nat → ClassId) : Prop :=
  p.tables.exec = Jvm.exec ∧ c.code = cc ∧ c.maxLocals = nL ∧ s.vm.findClass own = some m.cls ∧ (∀ w ∈ hb_tb, w.before args s = true) ∧ va_K D vwCl (hb_tys cA) s ∧ (d ≤ R.frames ∧ 64 * d ≤ R.locals) ∧ meth.name = nm ∧ va_Nw hb_nest s ∧ va_Nw hb_nest2 s
theorem hc_df_0 (ad : hb_Id → Nat) : ∀ j, j < 17 → defaultValue (tyX0 j) = vp_V (([hb_i 0, hb_i 0, hb_n, hb_i 0, hb_i 0, hb_n, hb_n, hb_n, hb_i 0, hb_n, hb_i 0, hb_n, hb_n, hb_n, hb_n, hb_n, hb_n] : List hb_V).map (hb_cv ad)) j := (lt_s (lt_s (lt_s (lt_s (lt_s (lt_s (lt_s (lt_s (lt_s (lt_s (lt_s (lt_s (lt_s (lt_s (lt_s (lt_s (lt_s lt_0 rfl) rfl) rfl) rfl) rfl) rfl) rfl) rfl) rfl) rfl) rfl) rfl) rfl) rfl) rfl) rfl) rfl)
theorem hc_df_1 (ad : hb_Id → Nat) : ∀ j, j < 2 → defaultValue (tyX1 j) = vp_V (([hb_n, hb_i 0] : List hb_V).map (hb_cv ad)) j := (lt_s (lt_s lt_0 rfl) rfl)
theorem hc_df_2 (ad : hb_Id → Nat) : ∀ j, j < 3 → defaultValue (tyX2 j) = vp_V (([hb_n, hb_n, hb_i 0] : List hb_V).map (hb_cv ad)) j := (lt_s (lt_s (lt_s lt_0 rfl) rfl) rfl)
theorem hc_df_3 (ad : hb_Id → Nat) : ∀ j, j < 2 → defaultValue (tyX3 j) = vp_V (([hb_n, hb_i 0] : List hb_V).map (hb_cv ad)) j := (lt_s (lt_s lt_0 rfl) rfl)
theorem hc_df_4 (ad : hb_Id → Nat) : ∀ j, j < 11 → defaultValue (tyX4 j) = vp_V (([hb_n, hb_n, hb_n, hb_n, hb_i 0, hb_i 0, hb_n, hb_n, hb_n, hb_i 0, hb_i 0] : List hb_V).map (hb_cv ad)) j := (lt_s (lt_s (lt_s (lt_s (lt_s (lt_s (lt_s (lt_s (lt_s (lt_s (lt_s lt_0 rfl) rfl) rfl) rfl) rfl) rfl) rfl) rfl) rfl) rfl) rfl)
theorem hc_df_5 (ad : hb_Id → Nat) : ∀ j, j < 1 → defaultValue (tyX5 j) = vp_V (([hb_n] : List hb_V).map (hb_cv ad)) j := (lt_s lt_0 rfl)
theorem hc_df_6 (ad : hb_Id → Nat) : ∀ j, j < 15 → defaultValue (tyX6 j) = vp_V (([hb_i 0, hb_i 0, hb_i 0, hb_i 0, hb_i 0, hb_n, hb_n, hb_n, hb_n, hb_n, hb_n, hb_n, hb_i 0, hb_i 0, hb_i 0] : List hb_V).map (hb_cv ad)) j := (lt_s (lt_s (lt_s (lt_s (lt_s (lt_s (lt_s (lt_s (lt_s (lt_s (lt_s (lt_s (lt_s (lt_s (lt_s lt_0 rfl) rfl) rfl) rfl) rfl) rfl) rfl) rfl) rfl) rfl) rfl) rfl) rfl) rfl) rfl)
theorem hc_df_7 (ad : hb_Id → Nat) : ∀ j, j < 8 → defaultValue (tyX7 j) = vp_V (([hb_n, hb_i 0, hb_i 0, hb_i 0, hb_i 0, hb_i 0, hb_i 0, hb_i 0] : List hb_V).map (hb_cv ad)) j := (lt_s (lt_s (lt_s (lt_s (lt_s (lt_s (lt_s (lt_s lt_0 rfl) rfl) rfl) rfl) rfl) rfl) rfl) rfl)
theorem hc_df_8 (ad : hb_Id → Nat) : ∀ j, j < 12 → defaultValue (tyX8 j) = vp_V (([hb_n, hb_n, hb_n, hb_i 0, hb_i 0, hb_n, hb_i 0, hb_i 0, hb_i 0, hb_n, hb_n, hb_n] : List hb_V).map (hb_cv ad)) j := (lt_s (lt_s (lt_s (lt_s (lt_s (lt_s (lt_s (lt_s (lt_s (lt_s (lt_s (lt_s lt_0 rfl) rfl) rfl) rfl) rfl) rfl) rfl) rfl) rfl) rfl) rfl) rfl)
theorem hc_df_9 (ad : hb_Id → Nat) : ∀ j, j < 11 → defaultValue (tyX9 j) = vp_V (([hb_i 0, hb_i 0, hb_i 0, hb_i 0, hb_i 0, hb_i 0, hb_i 0, hb_i 0, hb_i 0, hb_n, hb_n] : List hb_V).map (hb_cv ad)) j := (lt_s (lt_s (lt_s (lt_s (lt_s (lt_s (lt_s (lt_s (lt_s (lt_s (lt_s lt_0 rfl) rfl) rfl) rfl) rfl) rfl) rfl) rfl) rfl) rfl) rfl)
theorem hc_df_10 (ad : hb_Id → Nat) : ∀ j, j < 2 → defaultValue (tyX10 j) = vp_V (([hb_n, hb_i 0] : List hb_V).map (hb_cv ad)) j := (lt_s (lt_s lt_0 rfl) rfl)
theorem hc_df_11 (ad : hb_Id → Nat) : ∀ j, j < 13 → defaultValue (tyX11 j) = vp_V (([hb_n, hb_n, hb_n, hb_n, hb_n, hb_n, hb_n, hb_n, hb_n, hb_n, hb_i 0, hb_i 0, hb_i 0] : List hb_V).map (hb_cv ad)) j := (lt_s (lt_s (lt_s (lt_s (lt_s (lt_s (lt_s (lt_s (lt_s (lt_s (lt_s (lt_s (lt_s lt_0 rfl) rfl) rfl) rfl) rfl) rfl) rfl) rfl) rfl) rfl) rfl) rfl) rfl)
theorem hc_df_12 (ad : hb_Id → Nat) : ∀ j, j < 91 → defaultValue (tyX12 j) = vp_V (([hb_n, hb_i 0, hb_i 0, hb_i 0, hb_i 0, hb_i 0, hb_i 0, hb_i 0, hb_i 0, hb_n, hb_i 0, hb_n, hb_n, hb_n, hb_n, hb_n, hb_n, hb_n, hb_n, hb_n, hb_n, hb_n, hb_i 0, hb_i 0, hb_n, hb_n, hb_n, hb_n, hb_i 0, hb_i 0, hb_i 0, hb_i 0, hb_n, hb_n, hb_i 0, hb_i 0, hb_i 0, hb_i 0, hb_n, hb_i 0, hb_i 0, hb_n, hb_n, hb_n, hb_i 0, hb_i 0, hb_n, hb_n, hb_n, hb_n, hb_n, hb_n, hb_n, hb_n, hb_n, hb_i 0, hb_i 0, hb_l 0, hb_n, hb_n, hb_n, hb_n, hb_n, hb_n, hb_n, hb_n, hb_n, hb_n, hb_n, hb_n, hb_n, hb_n, hb_n, hb_n, hb_n, hb_n, hb_n, hb_n, hb_n, hb_n, hb_i 0, hb_n, hb_i 0, hb_i 0, hb_i 0, hb_n, hb_i 0, hb_l 0, hb_i 0, hb_n, hb_i 0] : List hb_V).map (hb_cv ad)) j := (lt_s (lt_s (lt_s (lt_s (lt_s (lt_s (lt_s (lt_s (lt_s (lt_s (lt_s (lt_s (lt_s (lt_s (lt_s (lt_s (lt_s (lt_s (lt_s (lt_s (lt_s (lt_s (lt_s (lt_s (lt_s (lt_s (lt_s (lt_s (lt_s (lt_s (lt_s (lt_s (lt_s (lt_s (lt_s (lt_s (lt_s (lt_s (lt_s (lt_s (lt_s (lt_s (lt_s (lt_s (lt_s (lt_s (lt_s (lt_s (lt_s (lt_s (lt_s (lt_s (lt_s (lt_s (lt_s (lt_s (lt_s (lt_s (lt_s (lt_s (lt_s (lt_s (lt_s (lt_s (lt_s (lt_s (lt_s (lt_s (lt_s (lt_s (lt_s (lt_s (lt_s (lt_s (lt_s (lt_s (lt_s (lt_s (lt_s (lt_s (lt_s (lt_s (lt_s (lt_s (lt_s (lt_s (lt_s (lt_s (lt_s (lt_s (lt_s lt_0 rfl) rfl) rfl) rfl) rfl) rfl) rfl) rfl) rfl) rfl) rfl) rfl) rfl) rfl) rfl) rfl) rfl) rfl) rfl) rfl) rfl) rfl) rfl) rfl) rfl) rfl) rfl) rfl) rfl) rfl) rfl) rfl) rfl) rfl) rfl) rfl) rfl) rfl) rfl) rfl) rfl) rfl) rfl) rfl) rfl) rfl) rfl) rfl) rfl) rfl) rfl) rfl) rfl) rfl) rfl) rfl) rfl) rfl) rfl) rfl) rfl) rfl) rfl) rfl) rfl) rfl) rfl) rfl) rfl) rfl) rfl) rfl) rfl) rfl) rfl) rfl) rfl) rfl) rfl) rfl) rfl) rfl) rfl) rfl) rfl) rfl) rfl) rfl) rfl) rfl) rfl)
def hc_dfT : List (List hb_V) := [[hb_i 0, hb_i 0, hb_n, hb_i 0, hb_i 0, hb_n, hb_n, hb_n, hb_i 0, hb_n, hb_i 0, hb_n, hb_n, hb_n, hb_n, hb_n, hb_n],
  [hb_n, hb_i 0],
  [hb_n, hb_n, hb_i 0],
  [hb_n, hb_i 0],
  [hb_n, hb_n, hb_n, hb_n, hb_i 0, hb_i 0, hb_n, hb_n, hb_n, hb_i 0, hb_i 0],
  [hb_n],
  [hb_i 0, hb_i 0, hb_i 0, hb_i 0, hb_i 0, hb_n, hb_n, hb_n, hb_n, hb_n, hb_n, hb_n, hb_i 0, hb_i 0, hb_i 0],
  [hb_n, hb_i 0, hb_i 0, hb_i 0, hb_i 0, hb_i 0, hb_i 0, hb_i 0],
  [hb_n, hb_n, hb_n, hb_i 0, hb_i 0, hb_n, hb_i 0, hb_i 0, hb_i 0, hb_n, hb_n, hb_n],
  [hb_i 0, hb_i 0, hb_i 0, hb_i 0, hb_i 0, hb_i 0, hb_i 0, hb_i 0, hb_i 0, hb_n, hb_n],
  [hb_n, hb_i 0],
  [hb_n, hb_n, hb_n, hb_n, hb_n, hb_n, hb_n, hb_n, hb_n, hb_n, hb_i 0, hb_i 0, hb_i 0],
  [hb_n, hb_i 0, hb_i 0, hb_i 0, hb_i 0, hb_i 0, hb_i 0, hb_i 0, hb_i 0, hb_n, hb_i 0, hb_n, hb_n, hb_n, hb_n, hb_n, hb_n, hb_n, hb_n, hb_n, hb_n, hb_n, hb_i 0, hb_i 0, hb_n, hb_n, hb_n, hb_n, hb_i 0, hb_i 0, hb_i 0, hb_i 0, hb_n, hb_n, hb_i 0, hb_i 0, hb_i 0, hb_i 0, hb_n, hb_i 0, hb_i 0, hb_n, hb_n, hb_n, hb_i 0, hb_i 0, hb_n, hb_n, hb_n, hb_n, hb_n, hb_n, hb_n, hb_n, hb_n, hb_i 0, hb_i 0, hb_l 0, hb_n, hb_n, hb_n, hb_n, hb_n, hb_n, hb_n, hb_n, hb_n, hb_n, hb_n, hb_n, hb_n, hb_n, hb_n, hb_n, hb_n, hb_n, hb_n, hb_n, hb_n, hb_n, hb_i 0, hb_n, hb_i 0, hb_i 0, hb_i 0, hb_n, hb_i 0, hb_l 0, hb_i 0, hb_n, hb_i 0]]
/-- a class as a maker knows it: its words, its types, what its fields are at first -/
def hc_NW (own : String) (index ci : Nat) (fs : List hb_V) : Prop := ∃ (C : String) (T : u_T) (N : Nat) (ty : Nat → FieldType), vwCl[ci]? = some (C, T, N) ∧ fs.length = N ∧ (∀ k, k < N → parseFieldDescriptor (T k).2.2.1 = some (ty k)) ∧ (∀ (ad : hb_Id → Nat) j, j < N → defaultValue (ty j) = vp_V (fs.map (hb_cv ad)) j) ∧ (∀ w ∈ u_ws C T N, w ∈ hb_tb) ∧ Cond.classLink own index C ∈ hb_tb ∧ Cond.instantiable C N ∈ hb_tb ∧ Cond.initialized C ∈ hb_tb
theorem hc_w_oinst : Cond.instanceMethod Lib.objectInit ∈ hb_tb := hb_t1 23 rfl rfl
theorem hc_w_ocode : Cond.code Lib.objectInit ⟨#[0xb1]⟩ 1 none ∈ hb_tb := hb_t1 24 rfl rfl
/-- array types by their numbers -/
def hc_ty : Nat → FieldType
  | 0 => .int
  | 1 => .byte
  | 2 => .char
  | 3 => .boolean
  | _ => .long
section HCW
variable {p : Program} {l : Launch} {e : Env} {R : Room} {s : State} {m : MethodId} {args : Array Value} {below : List Frame} {meth : Method} {c : Code} {cells slots : Nat} {D : va_G} {cA : Nat → ClassId} {Hb : Heap} {Z : State → Prop} {H : Heap} {locs : List Loc} {lsm : Array Slot} {own nm : String} {cc : ByteArray} {nL d pc : Nat} {L : List hc_A} {rest : List Value}
theorem hc_new {index ci : Nat} {fs : List hb_V} (C : hc_C own nm cc nL d p R s m args meth c D cA) (hd : decode cc pc = .ok (.new index, 3)) (hw : hc_NW own index ci fs) (hH : hc_H D cA Hb L H locs) (h1 : cells + 1 ≤ R.cells) (h2 : slots + fs.length ≤ R.slots)
    (kk : ∀ H1, hc_H D cA Hb (L ++ [.inr (ci, fs)]) H1 locs → W p l e R s m args below meth c H1 locs (cells + 1) (slots + fs.length) Z (F0 m (pc + 3) lsm (.ref (Hb.size + L.length) :: rest))) : W p l e R s m args below meth c H locs cells slots Z (F0 m pc lsm rest) := by
  obtain ⟨c1, c2, c3, c4, c5, c6, c7, c8, c9, c10⟩ := C
  obtain ⟨C0, T0, N0, ty, w1, w2, w3, w4, w5, w6, w7, w8⟩ := hw
  subst w2
  have hKn := c6.1 ci _ w1
  refine W.newcK c1 c2 c4 (c5 _ w6) (c5 _ w7) (c5 _ w8) rfl hd h1 h2 hKn.2.1 (h := Hb.size + L.length) hH.1 fun H1 kC hkC e1 z1 o1 => ?_
  have hlt : ∀ (k : Nat) (x : Nat × va_E), (hc_ws cA Hb.size L)[k]? = some x → H1[x.1]? = H[x.1]? := fun k x hx => o1 x.1 (by rw [← hH.1]; exact (hH.2.1 k x hx).lt)
  refine kk H1 ⟨by rw [z1, List.length_append, List.length_singleton]; omega, ?_, ?_⟩
  · rw [hc_ws_app]
    refine (hH.2.1.kept hlt).app (fun k x hx => ?_)
    have hz : k < 1 := (List.getElem?_eq_some_iff.mp hx).1
    rw [show k = 0 by omega] at hx
    cases hx
    exact ⟨_, w1, (u_born ty c5 w5 hKn hkC e1 w3).to (w4 (hc_ad Hb.size))⟩
  · have hS := hH.2.2
    have hz := hH.1
    exact ⟨by rw [z1]; omega, fun x q1 q2 => (o1 x (by omega)).trans (hS.2.1 x q1 q2), hS.2.2⟩
theorem hc_newa {ty N : Nat} {n : Int32} {atype : ArrayType} (C : hc_C own nm cc nL d p R s m args meth c D cA) (hd : decode cc pc = .ok (.newarray atype, 2)) (hty : ty < 5) (hat : newarray.typeOf atype = hc_ty ty) (hw : Cond.arrayClass (hc_ty ty) ∈ hb_tb) (hn : ¬ n < 0) (hN : n.toNatClampNeg = N) (hb : N * componentBytes (hc_ty ty) ≤ 536870912) (hH : hc_H D cA Hb L H locs) (h1 : cells + 1 ≤ R.cells) (h2 : slots + N ≤ R.slots)
    (kk : ∀ H1, hc_H D cA Hb (L ++ [.inl (ty, N, [])]) H1 locs → W p l e R s m args below meth c H1 locs (cells + 1) (slots + N) Z (F0 m (pc + 2) lsm (.ref (Hb.size + L.length) :: rest))) : W p l e R s m args below meth c H locs cells slots Z (F0 m pc lsm (.int n :: rest)) := by
  obtain ⟨c1, c2, c3, c4, c5, c6, c7, c8, c9, c10⟩ := C
  refine va_newaK c1 c2 (atype := atype) (by rw [hat]; exact c5 _ hw) rfl hd rfl hn hN (by rw [hat]; exact hb) h1 h2 (h := Hb.size + L.length) hH.1 fun H1 cA1 e1 z1 o1 hAr hNm => ?_
  rw [hat] at e1 hAr hNm
  have hcA : cA1 = cA ty := by
    have hk := c6.2 ty (cA ty, hc_ty ty) (by rcases (show ty = 0 ∨ ty = 1 ∨ ty = 2 ∨ ty = 3 ∨ ty = 4 by omega) with rfl | rfl | rfl | rfl | rfl <;> rfl)
    have hf : s.vm.findClass ("[" ++ (hc_ty ty).toString) = some (cA ty) := by
      have := hk.2
      rcases (show ty = 0 ∨ ty = 1 ∨ ty = 2 ∨ ty = 3 ∨ ty = 4 by omega) with rfl | rfl | rfl | rfl | rfl <;> exact this
    exact Option.some.inj (hNm.symm.trans hf)
  subst hcA
  have hlt : ∀ (k : Nat) (x : Nat × va_E), (hc_ws cA Hb.size L)[k]? = some x → H1[x.1]? = H[x.1]? := fun k x hx => o1 x.1 (by rw [← hH.1]; exact (hH.2.1 k x hx).lt)
  refine kk H1 ⟨by rw [z1, List.length_append, List.length_singleton]; omega, ?_, ?_⟩
  · rw [hc_ws_app]
    refine (hH.2.1.kept hlt).app (fun k x hx => ?_)
    have hz : k < 1 := (List.getElem?_eq_some_iff.mp hx).1
    rw [show k = 0 by omega] at hx
    cases hx
    show H1[Hb.size + L.length]? = some (vp_cell (cA ty) (hc_va ty N []))
    rw [e1]
    rcases (show ty = 0 ∨ ty = 1 ∨ ty = 2 ∨ ty = 3 ∨ ty = 4 by omega) with rfl | rfl | rfl | rfl | rfl <;> rfl
  · have hS := hH.2.2
    have hz := hH.1
    exact ⟨by rw [z1]; omega, fun x q1 q2 => (o1 x (by omega)).trans (hS.2.1 x q1 q2), hS.2.2⟩
theorem hc_get {index ci k q : Nat} {fs : List hb_V} {v : hb_V} (C : hc_C own nm cc nL d p R s m args meth c D cA) (hd : decode cc pc = .ok (.getfield index, 3)) (hf : hb_FW own index ci k) (hc : hb_CW ci) (hq : L[q]? = some (.inr (ci, fs))) (hv : fs[k]? = some v) (hH : hc_H D cA Hb L H locs)
    (kk : W p l e R s m args below meth c H locs cells slots Z (F0 m (pc + 3) lsm (hb_cv (hc_ad Hb.size) v :: rest))) : W p l e R s m args below meth c H locs cells slots Z (F0 m pc lsm (.ref (Hb.size + q) :: rest)) := by
  obtain ⟨c1, c2, c3, c4, c5, c6, c7, c8, c9, c10⟩ := C
  obtain ⟨C0, T0, N0, h0, hk, h1, h2⟩ := hf
  exact va_get c1 c2 c5 (hc C0 T0 N0 h0).1 c4 c6 hH.2.1 q (hc_ws_at cA Hb.size hq) h0 k hk (c5 _ h2) (fun x hx => by rw [h1] at hx; exact hx) (by rw [List.getElem?_map, hv]; rfl) hd kk
theorem hc_put {index ci k q : Nat} {fs : List hb_V} {v : hb_V} {ty : FieldType} (C : hc_C own nm cc nL d p R s m args meth c D cA) (hd : decode cc pc = .ok (.putfield index, 3)) (hf : hb_FW own index ci k) (hc : hb_CW ci) (hq : L[q]? = some (.inr (ci, fs))) (hl : k < fs.length)
    (ht : ∀ (C0 : String) (T0 : u_T) (N0 : Nat), vwCl[ci]? = some (C0, T0, N0) → parseFieldDescriptor (T0 k).2.2.1 = some ty ∧ C0 = own) (hn : ∀ ad, narrow ty (hb_cv ad v) = hb_cv ad v) (hfit : ∀ ad, fits ty (hb_cv ad v) = true) (hnm : nm = "<init>") (hH : hc_H D cA Hb L H locs)
    (kk : ∀ H1 locs1, hc_H D cA Hb (L.set q (.inr (ci, fs.set k v))) H1 locs1 → W p l e R s m args below meth c H1 locs1 cells slots Z (F0 m (pc + 3) lsm rest)) : W p l e R s m args below meth c H locs cells slots Z (F0 m pc lsm (hb_cv (hc_ad Hb.size) v :: .ref (Hb.size + q) :: rest)) := by
  obtain ⟨c1, c2, c3, c4, c5, c6, c7, c8, c9, c10⟩ := C
  obtain ⟨C0, T0, N0, h0, hk, h1, h2⟩ := hf
  obtain ⟨hT, ⟨ty0, hty0⟩, hnm2⟩ := hc C0 T0 N0 h0
  obtain ⟨hpar, hown⟩ := ht C0 T0 N0 h0
  have fin : ∀ H1 locs1, va_P D vwCl ((hc_ws cA Hb.size L).set q (Hb.size + q, .inr (ci, (fs.map (hb_cv (hc_ad Hb.size))).set k (hb_cv (hc_ad Hb.size) v)))) H1 → H1.size = H.size → va_S (fun q => Hb.size ≤ q) Hb H1 locs1 → W p l e R s m args below meth c H1 locs1 cells slots Z (F0 m (pc + 3) lsm rest) := by
    intro H1 locs1 hP1 hz hS1
    refine kk H1 locs1 ⟨by rw [hz, hH.1, List.length_set], ?_, hS1⟩
    rw [← hc_ws_set]
    show va_P D vwCl ((hc_ws cA Hb.size L).set q (Hb.size + q, .inr (ci, (fs.set k v).map (hb_cv (hc_ad Hb.size))))) H1
    rw [List.map_set]
    exact hP1
  have hap := va_apart (own := own) c5 hT ty0 hty0 hnm2 c6 h0
  have he := hc_ws_at cA Hb.size hq
  have hP := hH.2.1
  have hD := hc_ws_D cA Hb.size L
  obtain ⟨r, g1, cell, q1, q2, q3, q4⟩ := hP q _ he
  have hr : r = (C0, T0, N0) := Option.some.inj (g1.symm.trans h0)
  subst hr
  obtain ⟨hS, hfc, kC, hkC, hkind⟩ := c6.1 ci _ h0
  obtain ⟨cf, kf, fi, f, hi, hsl⟩ := hS k hk
  have hst := (u_facts hfc hkC (u_lays c5 hT hk) hi).1
  have hsame : s.fieldFound? C0 (T0 k).2.1 (T0 k).2.2.1 = some (cf, kf, fi, f) := by rw [← h1]; exact hi
  cases hfin : (T0 k).2.2.2 with
  | false =>
    have hlay := c5 _ (hT _ (u_in_lay hk))
    unfold u_lay at hlay
    rw [if_neg (by rw [hfin]; decide)] at hlay
    have h6 := u_store hfc hkC hkind hlay hi hpar (hn (hc_ad Hb.size)) (hfit (hc_ad Hb.size))
    refine W.putK c1 c2 (f := f) ⟨c4, c5 _ h2, ⟨_, _, _, hsame⟩, hst⟩ (by rw [q2]; exact h6) q1 q3 (by rw [hsl]; exact k2_hasslot (q4 k hk)) rfl rfl hd fun H' e1 e2 e3 => ?_
    rw [hsl] at e1 ⊢
    exact fin H' _ (hP.set hD he ⟨_, h0, t_OB.to (V := updV (vp_V (fs.map (hb_cv (hc_ad Hb.size)))) k (hb_cv (hc_ad Hb.size) v)) ⟨_, e1, q2, q3, t_set q4 hap hk _⟩ (fun j _ => vp_updV_set (by rw [List.length_map]; exact hl) _ j)⟩ e3) e2 (hH.2.2.put e2 e3 (by show Hb.size ≤ Hb.size + q; omega))
  | true =>
    have hlay := c5 _ (hT _ (u_in_lay hk))
    unfold u_lay at hlay
    rw [if_pos hfin] at hlay
    have hcf : m.cls = cf := by
      obtain ⟨_, _, c', _, _, _, -, -, hf', -, -, -, hown2, -⟩ := Cond.laysFinal_spec hlay
      have e1 : c' = cf := by have := hi.symm.trans hf'; simp at this; exact this.1.symm
      rw [h1, hown] at hown2
      rw [← e1]; exact Option.some.inj (c4.symm.trans hown2)
    have h6 := u_fits hfc hkC hkind (Or.inr hlay) hi hpar (hn (hc_ad Hb.size)) (hfit (hc_ad Hb.size))
    refine W.putFinK c1 c2 c4 (c5 _ h2) hsame hst hcf (c8.trans hnm) (by rw [q2]; exact h6) q1 q3 (by rw [hsl]; exact k2_hasslot (q4 k hk)) rfl rfl hd fun H' e1 e2 e3 => ?_
    rw [hsl] at e1 ⊢
    exact fin H' _ (hP.set hD he ⟨_, h0, t_OB.to (V := updV (vp_V (fs.map (hb_cv (hc_ad Hb.size)))) k (hb_cv (hc_ad Hb.size) v)) ⟨_, e1, q2, q3, t_set q4 hap hk _⟩ (fun j _ => vp_updV_set (by rw [List.length_map]; exact hl) _ j)⟩ e3) e2 (hH.2.2.put e2 e3 (by show Hb.size ≤ Hb.size + q; omega))
theorem hc_iast {q n : Nat} {us : List (Nat × Int32)} {i x : Int32} (C : hc_C own nm cc nL d p R s m args meth c D cA) (hd : decode cc pc = .ok (.iastore, 1)) (hq : L[q]? = some (.inl (0, n, us))) (hin : vp_in i n) (hH : hc_H D cA Hb L H locs)
    (kk : ∀ H1 locs1, hc_H D cA Hb (L.set q (.inl (0, n, us ++ [(i.toNatClampNeg, x)]))) H1 locs1 → W p l e R s m args below meth c H1 locs1 cells slots Z (F0 m (pc + 1) lsm rest)) : W p l e R s m args below meth c H locs cells slots Z (F0 m pc lsm (.int x :: .int i :: .ref (Hb.size + q) :: rest)) := by
  obtain ⟨c1, c2, c3, c4, c5, c6, c7, c8, c9, c10⟩ := C
  have he := hc_ws_at cA Hb.size hq
  have hP := hH.2.1
  have hD := hc_ws_D cA Hb.size L
  refine W.iast c1 c2 (hP q _ he) ((c6.2 0 _ rfl).1 n (fun j => .int (hc_fn us j))) (fun q => by cases q) (by show ¬ (i < 0 ∨ (arrV _ _ _).slots.size ≤ _); rw [arrV_size]; exact hin) rfl rfl hd fun H1 e1 z oq => ?_
  refine kk H1 _ ⟨by rw [z, hH.1, List.length_set], ?_, hH.2.2.put z oq (by show Hb.size ≤ Hb.size + q; omega)⟩
  rw [← hc_ws_set]
  refine hP.set hD he ?_ oq
  show H1[Hb.size + q]? = some (vp_cell _ _)
  rw [e1]
  dsimp only [hc_va, if_neg]
  rw [if_neg (by decide), if_neg (by decide), hc_fn_app, vp_cell_i, vp_cell_i, arrV_store]
  congr 2
  funext z1
  by_cases hq1 : z1 = i.toNatClampNeg
  · subst hq1
    simp [updV, upd]
  · simp [updV, upd, hq1]
theorem hc_cast {q n : Nat} {us : List (Nat × Int32)} {i x : Int32} (C : hc_C own nm cc nL d p R s m args meth c D cA) (hd : decode cc pc = .ok (.castore, 1)) (hq : L[q]? = some (.inl (2, n, us))) (hin : vp_in i n) (hH : hc_H D cA Hb L H locs)
    (kk : ∀ H1 locs1, hc_H D cA Hb (L.set q (.inl (2, n, us ++ [(i.toNatClampNeg, (vp_nar .char x))]))) H1 locs1 → W p l e R s m args below meth c H1 locs1 cells slots Z (F0 m (pc + 1) lsm rest)) : W p l e R s m args below meth c H locs cells slots Z (F0 m pc lsm (.int x :: .int i :: .ref (Hb.size + q) :: rest)) := by
  obtain ⟨c1, c2, c3, c4, c5, c6, c7, c8, c9, c10⟩ := C
  have he := hc_ws_at cA Hb.size hq
  have hP := hH.2.1
  have hD := hc_ws_D cA Hb.size L
  refine W.cast c1 c2 (hP q _ he) ((c6.2 2 _ rfl).1 n (fun j => .int (hc_fn us j))) (fun q => by cases q) (by show ¬ (i < 0 ∨ (arrV _ _ _).slots.size ≤ _); rw [arrV_size]; exact hin) rfl rfl hd fun H1 e1 z oq => ?_
  refine kk H1 _ ⟨by rw [z, hH.1, List.length_set], ?_, hH.2.2.put z oq (by show Hb.size ≤ Hb.size + q; omega)⟩
  rw [← hc_ws_set]
  refine hP.set hD he ?_ oq
  show H1[Hb.size + q]? = some (vp_cell _ _)
  rw [e1]
  dsimp only [hc_va, if_neg]
  rw [if_neg (by decide), if_neg (by decide), hc_fn_app, vp_cell_i, vp_cell_i, arrV_store]
  congr 2
  funext z1
  by_cases hq1 : z1 = i.toNatClampNeg
  · subst hq1
    simp [updV, upd, vp_nar]
    try rfl
  · simp [updV, upd, hq1]
theorem hc_alen {q n : Nat} {us : List (Nat × Int32)} (C : hc_C own nm cc nL d p R s m args meth c D cA) (hd : decode cc pc = .ok (.arraylength, 1)) (hq : L[q]? = some (.inl (0, n, us))) (hH : hc_H D cA Hb L H locs)
    (kk : W p l e R s m args below meth c H locs cells slots Z (F0 m (pc + 1) lsm (.int (Int32.ofNat n) :: rest))) : W p l e R s m args below meth c H locs cells slots Z (F0 m pc lsm (.ref (Hb.size + q) :: rest)) := by
  obtain ⟨c1, c2, c3, c4, c5, c6, c7, c8, c9, c10⟩ := C
  exact va_alen c1 c2 c6 hH.2.1 q 0 (hc_ws_at cA Hb.size hq) rfl rfl hd kk
theorem hc_obj {index : Nat} {a : Addr} (C : hc_C own nm cc nL (d + 1) p R s m args meth c D cA) (hd : decode cc pc = .ok (.invokespecial index, 3)) (hw : Cond.methodLink own index Lib.objectInit ∈ hb_tb) (hs : lsm.size = nL) (hr : (rest.map fun v => v.category).sum ≤ 8)
    (kk : W p l e R s m args below meth c H locs cells slots Z (F0 m (pc + 3) lsm rest)) : W p l e R s m args below meth c H locs cells slots Z (F0 m pc lsm (.ref a :: rest)) := by
  obtain ⟨c1, c2, c3, c4, c5, c6, ⟨c7, c7'⟩, c8, c9, c10⟩ := C
  exact W.objInit c1 c2 c4 (c5 _ hw) (c5 _ hc_w_oinst) (c5 _ hc_w_ocode) rfl (by show lsm.size = _; rw [hs, c3]) rfl hd (by omega) (by show 2 * 0 + _ + 12 ≤ _; omega) kk
end HCW
def hc_fl : List (String × Nat × Nat × Nat) := [("HoodBook$Book", 9, 0, 0), ("HoodBook$Book", 15, 0, 1), ("HoodBook$Book", 18, 0, 2), ("HoodBook$Book", 22, 0, 5), ("HoodBook$Book", 26, 0, 6), ("HoodBook$Book", 29, 0, 7), ("HoodBook$Book", 32, 0, 9), ("HoodBook$Book", 35, 0, 11), ("HoodBook$Book", 38, 0, 12), ("HoodBook$Book", 41, 0, 13), ("HoodBook$Book", 44, 0, 14), ("HoodBook$Book", 47, 0, 15), ("HoodBook$Book", 50, 0, 16), ("HoodBook$Book", 53, 0, 10), ("HoodBook$Code", 9, 1, 0), ("HoodBook$Code", 15, 1, 1), ("HoodBook$Grammar", 9, 2, 0), ("HoodBook$Grammar", 15, 2, 1), ("HoodBook$Grammar", 19, 2, 2), ("HoodBook$Image", 11, 3, 0), ("HoodBook$Image", 15, 3, 1), ("HoodBook$Ledger", 9, 4, 8), ("HoodBook$Ledger", 15, 4, 3), ("HoodBook$Ledger", 22, 4, 7), ("HoodBook$Ledger", 30, 4, 0), ("HoodBook$Ledger", 34, 4, 1), ("HoodBook$Ledger", 37, 4, 2), ("HoodBook$Ledger", 40, 4, 6), ("HoodBook$Ledger", 43, 4, 9), ("HoodBook$Ledger", 47, 4, 10), ("HoodBook$Marks", 9, 5, 0), ("HoodBook$Night", 9, 6, 5), ("HoodBook$Night", 15, 6, 6), ("HoodBook$Night", 18, 6, 7), ("HoodBook$Night", 21, 6, 8), ("HoodBook$Night", 24, 6, 9), ("HoodBook$Night", 27, 6, 10), ("HoodBook$Night", 33, 6, 11), ("HoodBook$Reader", 9, 7, 0), ("HoodBook$Reader", 15, 7, 7), ("HoodBook$Roll", 9, 8, 0), ("HoodBook$Roll", 15, 8, 1), ("HoodBook$Roll", 18, 8, 2), ("HoodBook$Roll", 21, 8, 5), ("HoodBook$Roll", 30, 8, 6), ("HoodBook$Roll", 34, 8, 9), ("HoodBook$Roll", 37, 8, 10), ("HoodBook$Roll", 40, 8, 11), ("HoodBook$Scene", 9, 9, 9), ("HoodBook$Scene", 15, 9, 10), ("HoodBook$Tape", 9, 10, 0), ("HoodBook$Tape", 15, 10, 1), ("HoodBook", 10, 11, 0), ("HoodBook", 19, 11, 2), ("HoodBook", 33, 11, 1), ("HoodBook", 45, 11, 3), ("HoodBook", 52, 11, 4), ("HoodBook", 61, 11, 5), ("HoodBook", 68, 11, 6), ("HoodBook", 72, 11, 7), ("HoodBook", 79, 11, 8), ("HoodBook", 83, 11, 9), ("HoodBook", 86, 11, 10), ("HoodBook", 90, 11, 11), ("HoodBook", 94, 11, 12), ("HoodBookModel", 7, 12, 0), ("HoodBookModel", 13, 12, 8), ("HoodBookModel", 17, 12, 9), ("HoodBookModel", 20, 12, 11), ("HoodBookModel", 24, 12, 12), ("HoodBookModel", 27, 12, 13), ("HoodBookModel", 30, 12, 14), ("HoodBookModel", 33, 12, 15), ("HoodBookModel", 36, 12, 16), ("HoodBookModel", 39, 12, 17), ("HoodBookModel", 42, 12, 18), ("HoodBookModel", 45, 12, 19), ("HoodBookModel", 48, 12, 20), ("HoodBookModel", 51, 12, 21), ("HoodBookModel", 54, 12, 24), ("HoodBookModel", 57, 12, 25), ("HoodBookModel", 60, 12, 26), ("HoodBookModel", 63, 12, 27), ("HoodBookModel", 66, 12, 32), ("HoodBookModel", 69, 12, 33), ("HoodBookModel", 72, 12, 38), ("HoodBookModel", 75, 12, 41), ("HoodBookModel", 78, 12, 42), ("HoodBookModel", 81, 12, 43), ("HoodBookModel", 84, 12, 46), ("HoodBookModel", 87, 12, 47), ("HoodBookModel", 90, 12, 48), ("HoodBookModel", 93, 12, 49), ("HoodBookModel", 97, 12, 50), ("HoodBookModel", 100, 12, 51), ("HoodBookModel", 103, 12, 52), ("HoodBookModel", 106, 12, 53), ("HoodBookModel", 109, 12, 54), ("HoodBookModel", 112, 12, 57), ("HoodBookModel", 116, 12, 58), ("HoodBookModel", 119, 12, 59), ("HoodBookModel", 122, 12, 60), ("HoodBookModel", 125, 12, 61), ("HoodBookModel", 128, 12, 62), ("HoodBookModel", 131, 12, 63), ("HoodBookModel", 134, 12, 64), ("HoodBookModel", 137, 12, 65), ("HoodBookModel", 140, 12, 66), ("HoodBookModel", 143, 12, 67), ("HoodBookModel", 146, 12, 68), ("HoodBookModel", 149, 12, 69), ("HoodBookModel", 152, 12, 70), ("HoodBookModel", 155, 12, 71), ("HoodBookModel", 158, 12, 72), ("HoodBookModel", 161, 12, 73), ("HoodBookModel", 164, 12, 74), ("HoodBookModel", 167, 12, 75), ("HoodBookModel", 170, 12, 76), ("HoodBookModel", 173, 12, 77), ("HoodBookModel", 176, 12, 78), ("HoodBookModel", 179, 12, 79), ("HoodBookModel", 182, 12, 81), ("HoodBookModel", 185, 12, 85), ("HoodBookModel", 189, 12, 89)]
def hc_tyT : List (Nat → FieldType) := [tyX0, tyX1, tyX2, tyX3, tyX4, tyX5, tyX6, tyX7, tyX8, tyX9, tyX10, tyX11, tyX12]
def hc_tyOf (ci k : Nat) : FieldType := (hc_tyT.getD ci tyX0) k
def hc_flP (x : String × Nat × Nat × Nat) : Prop := hb_FW x.1 x.2.1 x.2.2.1 x.2.2.2 ∧ ∀ (C0 : String) (T0 : u_T) (N0 : Nat), vwCl[x.2.2.1]? = some (C0, T0, N0) → parseFieldDescriptor (T0 x.2.2.2).2.2.1 = some (hc_tyOf x.2.2.1 x.2.2.2) ∧ C0 = x.1
theorem hc_fl_0 : hc_flP ("HoodBook$Book", 9, 0, 0) := ⟨fw_X0_9, fun C T N h => by cases h; exact ⟨tyX0_ok 0 (by decide), rfl⟩⟩
theorem hc_fl_1 : hc_flP ("HoodBook$Book", 15, 0, 1) := ⟨fw_X0_15, fun C T N h => by cases h; exact ⟨tyX0_ok 1 (by decide), rfl⟩⟩
theorem hc_fl_2 : hc_flP ("HoodBook$Book", 18, 0, 2) := ⟨fw_X0_18, fun C T N h => by cases h; exact ⟨tyX0_ok 2 (by decide), rfl⟩⟩
theorem hc_fl_3 : hc_flP ("HoodBook$Book", 22, 0, 5) := ⟨fw_X0_22, fun C T N h => by cases h; exact ⟨tyX0_ok 5 (by decide), rfl⟩⟩
theorem hc_fl_4 : hc_flP ("HoodBook$Book", 26, 0, 6) := ⟨fw_X0_26, fun C T N h => by cases h; exact ⟨tyX0_ok 6 (by decide), rfl⟩⟩
theorem hc_fl_5 : hc_flP ("HoodBook$Book", 29, 0, 7) := ⟨fw_X0_29, fun C T N h => by cases h; exact ⟨tyX0_ok 7 (by decide), rfl⟩⟩
theorem hc_fl_6 : hc_flP ("HoodBook$Book", 32, 0, 9) := ⟨fw_X0_32, fun C T N h => by cases h; exact ⟨tyX0_ok 9 (by decide), rfl⟩⟩
theorem hc_fl_7 : hc_flP ("HoodBook$Book", 35, 0, 11) := ⟨fw_X0_35, fun C T N h => by cases h; exact ⟨tyX0_ok 11 (by decide), rfl⟩⟩
theorem hc_fl_8 : hc_flP ("HoodBook$Book", 38, 0, 12) := ⟨fw_X0_38, fun C T N h => by cases h; exact ⟨tyX0_ok 12 (by decide), rfl⟩⟩
theorem hc_fl_9 : hc_flP ("HoodBook$Book", 41, 0, 13) := ⟨fw_X0_41, fun C T N h => by cases h; exact ⟨tyX0_ok 13 (by decide), rfl⟩⟩
theorem hc_fl_10 : hc_flP ("HoodBook$Book", 44, 0, 14) := ⟨fw_X0_44, fun C T N h => by cases h; exact ⟨tyX0_ok 14 (by decide), rfl⟩⟩
theorem hc_fl_11 : hc_flP ("HoodBook$Book", 47, 0, 15) := ⟨fw_X0_47, fun C T N h => by cases h; exact ⟨tyX0_ok 15 (by decide), rfl⟩⟩
theorem hc_fl_12 : hc_flP ("HoodBook$Book", 50, 0, 16) := ⟨fw_X0_50, fun C T N h => by cases h; exact ⟨tyX0_ok 16 (by decide), rfl⟩⟩
theorem hc_fl_13 : hc_flP ("HoodBook$Book", 53, 0, 10) := ⟨fw_X0_53, fun C T N h => by cases h; exact ⟨tyX0_ok 10 (by decide), rfl⟩⟩
theorem hc_fl_14 : hc_flP ("HoodBook$Code", 9, 1, 0) := ⟨fw_X1_9, fun C T N h => by cases h; exact ⟨tyX1_ok 0 (by decide), rfl⟩⟩
theorem hc_fl_15 : hc_flP ("HoodBook$Code", 15, 1, 1) := ⟨fw_X1_15, fun C T N h => by cases h; exact ⟨tyX1_ok 1 (by decide), rfl⟩⟩
theorem hc_fl_16 : hc_flP ("HoodBook$Grammar", 9, 2, 0) := ⟨fw_X2_9, fun C T N h => by cases h; exact ⟨tyX2_ok 0 (by decide), rfl⟩⟩
theorem hc_fl_17 : hc_flP ("HoodBook$Grammar", 15, 2, 1) := ⟨fw_X2_15, fun C T N h => by cases h; exact ⟨tyX2_ok 1 (by decide), rfl⟩⟩
theorem hc_fl_18 : hc_flP ("HoodBook$Grammar", 19, 2, 2) := ⟨fw_X2_19, fun C T N h => by cases h; exact ⟨tyX2_ok 2 (by decide), rfl⟩⟩
theorem hc_fl_19 : hc_flP ("HoodBook$Image", 11, 3, 0) := ⟨fw_X3_11, fun C T N h => by cases h; exact ⟨tyX3_ok 0 (by decide), rfl⟩⟩
theorem hc_fl_20 : hc_flP ("HoodBook$Image", 15, 3, 1) := ⟨fw_X3_15, fun C T N h => by cases h; exact ⟨tyX3_ok 1 (by decide), rfl⟩⟩
theorem hc_fl_21 : hc_flP ("HoodBook$Ledger", 9, 4, 8) := ⟨fw_X4_9, fun C T N h => by cases h; exact ⟨tyX4_ok 8 (by decide), rfl⟩⟩
theorem hc_fl_22 : hc_flP ("HoodBook$Ledger", 15, 4, 3) := ⟨fw_X4_15, fun C T N h => by cases h; exact ⟨tyX4_ok 3 (by decide), rfl⟩⟩
theorem hc_fl_23 : hc_flP ("HoodBook$Ledger", 22, 4, 7) := ⟨fw_X4_22, fun C T N h => by cases h; exact ⟨tyX4_ok 7 (by decide), rfl⟩⟩
theorem hc_fl_24 : hc_flP ("HoodBook$Ledger", 30, 4, 0) := ⟨fw_X4_30, fun C T N h => by cases h; exact ⟨tyX4_ok 0 (by decide), rfl⟩⟩
theorem hc_fl_25 : hc_flP ("HoodBook$Ledger", 34, 4, 1) := ⟨fw_X4_34, fun C T N h => by cases h; exact ⟨tyX4_ok 1 (by decide), rfl⟩⟩
theorem hc_fl_26 : hc_flP ("HoodBook$Ledger", 37, 4, 2) := ⟨fw_X4_37, fun C T N h => by cases h; exact ⟨tyX4_ok 2 (by decide), rfl⟩⟩
theorem hc_fl_27 : hc_flP ("HoodBook$Ledger", 40, 4, 6) := ⟨fw_X4_40, fun C T N h => by cases h; exact ⟨tyX4_ok 6 (by decide), rfl⟩⟩
theorem hc_fl_28 : hc_flP ("HoodBook$Ledger", 43, 4, 9) := ⟨fw_X4_43, fun C T N h => by cases h; exact ⟨tyX4_ok 9 (by decide), rfl⟩⟩
theorem hc_fl_29 : hc_flP ("HoodBook$Ledger", 47, 4, 10) := ⟨fw_X4_47, fun C T N h => by cases h; exact ⟨tyX4_ok 10 (by decide), rfl⟩⟩
theorem hc_fl_30 : hc_flP ("HoodBook$Marks", 9, 5, 0) := ⟨fw_X5_9, fun C T N h => by cases h; exact ⟨tyX5_ok 0 (by decide), rfl⟩⟩
theorem hc_fl_31 : hc_flP ("HoodBook$Night", 9, 6, 5) := ⟨fw_X6_9, fun C T N h => by cases h; exact ⟨tyX6_ok 5 (by decide), rfl⟩⟩
theorem hc_fl_32 : hc_flP ("HoodBook$Night", 15, 6, 6) := ⟨fw_X6_15, fun C T N h => by cases h; exact ⟨tyX6_ok 6 (by decide), rfl⟩⟩
theorem hc_fl_33 : hc_flP ("HoodBook$Night", 18, 6, 7) := ⟨fw_X6_18, fun C T N h => by cases h; exact ⟨tyX6_ok 7 (by decide), rfl⟩⟩
theorem hc_fl_34 : hc_flP ("HoodBook$Night", 21, 6, 8) := ⟨fw_X6_21, fun C T N h => by cases h; exact ⟨tyX6_ok 8 (by decide), rfl⟩⟩
theorem hc_fl_35 : hc_flP ("HoodBook$Night", 24, 6, 9) := ⟨fw_X6_24, fun C T N h => by cases h; exact ⟨tyX6_ok 9 (by decide), rfl⟩⟩
theorem hc_fl_36 : hc_flP ("HoodBook$Night", 27, 6, 10) := ⟨fw_X6_27, fun C T N h => by cases h; exact ⟨tyX6_ok 10 (by decide), rfl⟩⟩
theorem hc_fl_37 : hc_flP ("HoodBook$Night", 33, 6, 11) := ⟨fw_X6_33, fun C T N h => by cases h; exact ⟨tyX6_ok 11 (by decide), rfl⟩⟩
theorem hc_fl_38 : hc_flP ("HoodBook$Reader", 9, 7, 0) := ⟨fw_X7_9, fun C T N h => by cases h; exact ⟨tyX7_ok 0 (by decide), rfl⟩⟩
theorem hc_fl_39 : hc_flP ("HoodBook$Reader", 15, 7, 7) := ⟨fw_X7_15, fun C T N h => by cases h; exact ⟨tyX7_ok 7 (by decide), rfl⟩⟩
theorem hc_fl_40 : hc_flP ("HoodBook$Roll", 9, 8, 0) := ⟨fw_X8_9, fun C T N h => by cases h; exact ⟨tyX8_ok 0 (by decide), rfl⟩⟩
theorem hc_fl_41 : hc_flP ("HoodBook$Roll", 15, 8, 1) := ⟨fw_X8_15, fun C T N h => by cases h; exact ⟨tyX8_ok 1 (by decide), rfl⟩⟩
theorem hc_fl_42 : hc_flP ("HoodBook$Roll", 18, 8, 2) := ⟨fw_X8_18, fun C T N h => by cases h; exact ⟨tyX8_ok 2 (by decide), rfl⟩⟩
theorem hc_fl_43 : hc_flP ("HoodBook$Roll", 21, 8, 5) := ⟨fw_X8_21, fun C T N h => by cases h; exact ⟨tyX8_ok 5 (by decide), rfl⟩⟩
theorem hc_fl_44 : hc_flP ("HoodBook$Roll", 30, 8, 6) := ⟨fw_X8_30, fun C T N h => by cases h; exact ⟨tyX8_ok 6 (by decide), rfl⟩⟩
theorem hc_fl_45 : hc_flP ("HoodBook$Roll", 34, 8, 9) := ⟨fw_X8_34, fun C T N h => by cases h; exact ⟨tyX8_ok 9 (by decide), rfl⟩⟩
theorem hc_fl_46 : hc_flP ("HoodBook$Roll", 37, 8, 10) := ⟨fw_X8_37, fun C T N h => by cases h; exact ⟨tyX8_ok 10 (by decide), rfl⟩⟩
theorem hc_fl_47 : hc_flP ("HoodBook$Roll", 40, 8, 11) := ⟨fw_X8_40, fun C T N h => by cases h; exact ⟨tyX8_ok 11 (by decide), rfl⟩⟩
theorem hc_fl_48 : hc_flP ("HoodBook$Scene", 9, 9, 9) := ⟨fw_X9_9, fun C T N h => by cases h; exact ⟨tyX9_ok 9 (by decide), rfl⟩⟩
theorem hc_fl_49 : hc_flP ("HoodBook$Scene", 15, 9, 10) := ⟨fw_X9_15, fun C T N h => by cases h; exact ⟨tyX9_ok 10 (by decide), rfl⟩⟩
theorem hc_fl_50 : hc_flP ("HoodBook$Tape", 9, 10, 0) := ⟨fw_X10_9, fun C T N h => by cases h; exact ⟨tyX10_ok 0 (by decide), rfl⟩⟩
theorem hc_fl_51 : hc_flP ("HoodBook$Tape", 15, 10, 1) := ⟨fw_X10_15, fun C T N h => by cases h; exact ⟨tyX10_ok 1 (by decide), rfl⟩⟩
theorem hc_fl_52 : hc_flP ("HoodBook", 10, 11, 0) := ⟨fw_X11_10, fun C T N h => by cases h; exact ⟨tyX11_ok 0 (by decide), rfl⟩⟩
theorem hc_fl_53 : hc_flP ("HoodBook", 19, 11, 2) := ⟨fw_X11_19, fun C T N h => by cases h; exact ⟨tyX11_ok 2 (by decide), rfl⟩⟩
theorem hc_fl_54 : hc_flP ("HoodBook", 33, 11, 1) := ⟨fw_X11_33, fun C T N h => by cases h; exact ⟨tyX11_ok 1 (by decide), rfl⟩⟩
theorem hc_fl_55 : hc_flP ("HoodBook", 45, 11, 3) := ⟨fw_X11_45, fun C T N h => by cases h; exact ⟨tyX11_ok 3 (by decide), rfl⟩⟩
theorem hc_fl_56 : hc_flP ("HoodBook", 52, 11, 4) := ⟨fw_X11_52, fun C T N h => by cases h; exact ⟨tyX11_ok 4 (by decide), rfl⟩⟩
theorem hc_fl_57 : hc_flP ("HoodBook", 61, 11, 5) := ⟨fw_X11_61, fun C T N h => by cases h; exact ⟨tyX11_ok 5 (by decide), rfl⟩⟩
theorem hc_fl_58 : hc_flP ("HoodBook", 68, 11, 6) := ⟨fw_X11_68, fun C T N h => by cases h; exact ⟨tyX11_ok 6 (by decide), rfl⟩⟩
theorem hc_fl_59 : hc_flP ("HoodBook", 72, 11, 7) := ⟨fw_X11_72, fun C T N h => by cases h; exact ⟨tyX11_ok 7 (by decide), rfl⟩⟩
theorem hc_fl_60 : hc_flP ("HoodBook", 79, 11, 8) := ⟨fw_X11_79, fun C T N h => by cases h; exact ⟨tyX11_ok 8 (by decide), rfl⟩⟩
theorem hc_fl_61 : hc_flP ("HoodBook", 83, 11, 9) := ⟨fw_X11_83, fun C T N h => by cases h; exact ⟨tyX11_ok 9 (by decide), rfl⟩⟩
theorem hc_fl_62 : hc_flP ("HoodBook", 86, 11, 10) := ⟨fw_X11_86, fun C T N h => by cases h; exact ⟨tyX11_ok 10 (by decide), rfl⟩⟩
theorem hc_fl_63 : hc_flP ("HoodBook", 90, 11, 11) := ⟨fw_X11_90, fun C T N h => by cases h; exact ⟨tyX11_ok 11 (by decide), rfl⟩⟩
theorem hc_fl_64 : hc_flP ("HoodBook", 94, 11, 12) := ⟨fw_X11_94, fun C T N h => by cases h; exact ⟨tyX11_ok 12 (by decide), rfl⟩⟩
theorem hc_fl_65 : hc_flP ("HoodBookModel", 7, 12, 0) := ⟨fw_X12_7, fun C T N h => by cases h; exact ⟨tyX12_ok 0 (by decide), rfl⟩⟩
theorem hc_fl_66 : hc_flP ("HoodBookModel", 13, 12, 8) := ⟨fw_X12_13, fun C T N h => by cases h; exact ⟨tyX12_ok 8 (by decide), rfl⟩⟩
theorem hc_fl_67 : hc_flP ("HoodBookModel", 17, 12, 9) := ⟨fw_X12_17, fun C T N h => by cases h; exact ⟨tyX12_ok 9 (by decide), rfl⟩⟩
theorem hc_fl_68 : hc_flP ("HoodBookModel", 20, 12, 11) := ⟨fw_X12_20, fun C T N h => by cases h; exact ⟨tyX12_ok 11 (by decide), rfl⟩⟩
theorem hc_fl_69 : hc_flP ("HoodBookModel", 24, 12, 12) := ⟨fw_X12_24, fun C T N h => by cases h; exact ⟨tyX12_ok 12 (by decide), rfl⟩⟩
theorem hc_fl_70 : hc_flP ("HoodBookModel", 27, 12, 13) := ⟨fw_X12_27, fun C T N h => by cases h; exact ⟨tyX12_ok 13 (by decide), rfl⟩⟩
theorem hc_fl_71 : hc_flP ("HoodBookModel", 30, 12, 14) := ⟨fw_X12_30, fun C T N h => by cases h; exact ⟨tyX12_ok 14 (by decide), rfl⟩⟩
theorem hc_fl_72 : hc_flP ("HoodBookModel", 33, 12, 15) := ⟨fw_X12_33, fun C T N h => by cases h; exact ⟨tyX12_ok 15 (by decide), rfl⟩⟩
theorem hc_fl_73 : hc_flP ("HoodBookModel", 36, 12, 16) := ⟨fw_X12_36, fun C T N h => by cases h; exact ⟨tyX12_ok 16 (by decide), rfl⟩⟩
theorem hc_fl_74 : hc_flP ("HoodBookModel", 39, 12, 17) := ⟨fw_X12_39, fun C T N h => by cases h; exact ⟨tyX12_ok 17 (by decide), rfl⟩⟩
theorem hc_fl_75 : hc_flP ("HoodBookModel", 42, 12, 18) := ⟨fw_X12_42, fun C T N h => by cases h; exact ⟨tyX12_ok 18 (by decide), rfl⟩⟩
theorem hc_fl_76 : hc_flP ("HoodBookModel", 45, 12, 19) := ⟨fw_X12_45, fun C T N h => by cases h; exact ⟨tyX12_ok 19 (by decide), rfl⟩⟩
theorem hc_fl_77 : hc_flP ("HoodBookModel", 48, 12, 20) := ⟨fw_X12_48, fun C T N h => by cases h; exact ⟨tyX12_ok 20 (by decide), rfl⟩⟩
theorem hc_fl_78 : hc_flP ("HoodBookModel", 51, 12, 21) := ⟨fw_X12_51, fun C T N h => by cases h; exact ⟨tyX12_ok 21 (by decide), rfl⟩⟩
theorem hc_fl_79 : hc_flP ("HoodBookModel", 54, 12, 24) := ⟨fw_X12_54, fun C T N h => by cases h; exact ⟨tyX12_ok 24 (by decide), rfl⟩⟩
theorem hc_fl_80 : hc_flP ("HoodBookModel", 57, 12, 25) := ⟨fw_X12_57, fun C T N h => by cases h; exact ⟨tyX12_ok 25 (by decide), rfl⟩⟩
theorem hc_fl_81 : hc_flP ("HoodBookModel", 60, 12, 26) := ⟨fw_X12_60, fun C T N h => by cases h; exact ⟨tyX12_ok 26 (by decide), rfl⟩⟩
theorem hc_fl_82 : hc_flP ("HoodBookModel", 63, 12, 27) := ⟨fw_X12_63, fun C T N h => by cases h; exact ⟨tyX12_ok 27 (by decide), rfl⟩⟩
theorem hc_fl_83 : hc_flP ("HoodBookModel", 66, 12, 32) := ⟨fw_X12_66, fun C T N h => by cases h; exact ⟨tyX12_ok 32 (by decide), rfl⟩⟩
theorem hc_fl_84 : hc_flP ("HoodBookModel", 69, 12, 33) := ⟨fw_X12_69, fun C T N h => by cases h; exact ⟨tyX12_ok 33 (by decide), rfl⟩⟩
theorem hc_fl_85 : hc_flP ("HoodBookModel", 72, 12, 38) := ⟨fw_X12_72, fun C T N h => by cases h; exact ⟨tyX12_ok 38 (by decide), rfl⟩⟩
theorem hc_fl_86 : hc_flP ("HoodBookModel", 75, 12, 41) := ⟨fw_X12_75, fun C T N h => by cases h; exact ⟨tyX12_ok 41 (by decide), rfl⟩⟩
theorem hc_fl_87 : hc_flP ("HoodBookModel", 78, 12, 42) := ⟨fw_X12_78, fun C T N h => by cases h; exact ⟨tyX12_ok 42 (by decide), rfl⟩⟩
theorem hc_fl_88 : hc_flP ("HoodBookModel", 81, 12, 43) := ⟨fw_X12_81, fun C T N h => by cases h; exact ⟨tyX12_ok 43 (by decide), rfl⟩⟩
theorem hc_fl_89 : hc_flP ("HoodBookModel", 84, 12, 46) := ⟨fw_X12_84, fun C T N h => by cases h; exact ⟨tyX12_ok 46 (by decide), rfl⟩⟩
theorem hc_fl_90 : hc_flP ("HoodBookModel", 87, 12, 47) := ⟨fw_X12_87, fun C T N h => by cases h; exact ⟨tyX12_ok 47 (by decide), rfl⟩⟩
theorem hc_fl_91 : hc_flP ("HoodBookModel", 90, 12, 48) := ⟨fw_X12_90, fun C T N h => by cases h; exact ⟨tyX12_ok 48 (by decide), rfl⟩⟩
theorem hc_fl_92 : hc_flP ("HoodBookModel", 93, 12, 49) := ⟨fw_X12_93, fun C T N h => by cases h; exact ⟨tyX12_ok 49 (by decide), rfl⟩⟩
theorem hc_fl_93 : hc_flP ("HoodBookModel", 97, 12, 50) := ⟨fw_X12_97, fun C T N h => by cases h; exact ⟨tyX12_ok 50 (by decide), rfl⟩⟩
theorem hc_fl_94 : hc_flP ("HoodBookModel", 100, 12, 51) := ⟨fw_X12_100, fun C T N h => by cases h; exact ⟨tyX12_ok 51 (by decide), rfl⟩⟩
theorem hc_fl_95 : hc_flP ("HoodBookModel", 103, 12, 52) := ⟨fw_X12_103, fun C T N h => by cases h; exact ⟨tyX12_ok 52 (by decide), rfl⟩⟩
theorem hc_fl_96 : hc_flP ("HoodBookModel", 106, 12, 53) := ⟨fw_X12_106, fun C T N h => by cases h; exact ⟨tyX12_ok 53 (by decide), rfl⟩⟩
theorem hc_fl_97 : hc_flP ("HoodBookModel", 109, 12, 54) := ⟨fw_X12_109, fun C T N h => by cases h; exact ⟨tyX12_ok 54 (by decide), rfl⟩⟩
theorem hc_fl_98 : hc_flP ("HoodBookModel", 112, 12, 57) := ⟨fw_X12_112, fun C T N h => by cases h; exact ⟨tyX12_ok 57 (by decide), rfl⟩⟩
theorem hc_fl_99 : hc_flP ("HoodBookModel", 116, 12, 58) := ⟨fw_X12_116, fun C T N h => by cases h; exact ⟨tyX12_ok 58 (by decide), rfl⟩⟩
theorem hc_fl_100 : hc_flP ("HoodBookModel", 119, 12, 59) := ⟨fw_X12_119, fun C T N h => by cases h; exact ⟨tyX12_ok 59 (by decide), rfl⟩⟩
theorem hc_fl_101 : hc_flP ("HoodBookModel", 122, 12, 60) := ⟨fw_X12_122, fun C T N h => by cases h; exact ⟨tyX12_ok 60 (by decide), rfl⟩⟩
theorem hc_fl_102 : hc_flP ("HoodBookModel", 125, 12, 61) := ⟨fw_X12_125, fun C T N h => by cases h; exact ⟨tyX12_ok 61 (by decide), rfl⟩⟩
theorem hc_fl_103 : hc_flP ("HoodBookModel", 128, 12, 62) := ⟨fw_X12_128, fun C T N h => by cases h; exact ⟨tyX12_ok 62 (by decide), rfl⟩⟩
theorem hc_fl_104 : hc_flP ("HoodBookModel", 131, 12, 63) := ⟨fw_X12_131, fun C T N h => by cases h; exact ⟨tyX12_ok 63 (by decide), rfl⟩⟩
theorem hc_fl_105 : hc_flP ("HoodBookModel", 134, 12, 64) := ⟨fw_X12_134, fun C T N h => by cases h; exact ⟨tyX12_ok 64 (by decide), rfl⟩⟩
theorem hc_fl_106 : hc_flP ("HoodBookModel", 137, 12, 65) := ⟨fw_X12_137, fun C T N h => by cases h; exact ⟨tyX12_ok 65 (by decide), rfl⟩⟩
theorem hc_fl_107 : hc_flP ("HoodBookModel", 140, 12, 66) := ⟨fw_X12_140, fun C T N h => by cases h; exact ⟨tyX12_ok 66 (by decide), rfl⟩⟩
theorem hc_fl_108 : hc_flP ("HoodBookModel", 143, 12, 67) := ⟨fw_X12_143, fun C T N h => by cases h; exact ⟨tyX12_ok 67 (by decide), rfl⟩⟩
theorem hc_fl_109 : hc_flP ("HoodBookModel", 146, 12, 68) := ⟨fw_X12_146, fun C T N h => by cases h; exact ⟨tyX12_ok 68 (by decide), rfl⟩⟩
theorem hc_fl_110 : hc_flP ("HoodBookModel", 149, 12, 69) := ⟨fw_X12_149, fun C T N h => by cases h; exact ⟨tyX12_ok 69 (by decide), rfl⟩⟩
theorem hc_fl_111 : hc_flP ("HoodBookModel", 152, 12, 70) := ⟨fw_X12_152, fun C T N h => by cases h; exact ⟨tyX12_ok 70 (by decide), rfl⟩⟩
theorem hc_fl_112 : hc_flP ("HoodBookModel", 155, 12, 71) := ⟨fw_X12_155, fun C T N h => by cases h; exact ⟨tyX12_ok 71 (by decide), rfl⟩⟩
theorem hc_fl_113 : hc_flP ("HoodBookModel", 158, 12, 72) := ⟨fw_X12_158, fun C T N h => by cases h; exact ⟨tyX12_ok 72 (by decide), rfl⟩⟩
theorem hc_fl_114 : hc_flP ("HoodBookModel", 161, 12, 73) := ⟨fw_X12_161, fun C T N h => by cases h; exact ⟨tyX12_ok 73 (by decide), rfl⟩⟩
theorem hc_fl_115 : hc_flP ("HoodBookModel", 164, 12, 74) := ⟨fw_X12_164, fun C T N h => by cases h; exact ⟨tyX12_ok 74 (by decide), rfl⟩⟩
theorem hc_fl_116 : hc_flP ("HoodBookModel", 167, 12, 75) := ⟨fw_X12_167, fun C T N h => by cases h; exact ⟨tyX12_ok 75 (by decide), rfl⟩⟩
theorem hc_fl_117 : hc_flP ("HoodBookModel", 170, 12, 76) := ⟨fw_X12_170, fun C T N h => by cases h; exact ⟨tyX12_ok 76 (by decide), rfl⟩⟩
theorem hc_fl_118 : hc_flP ("HoodBookModel", 173, 12, 77) := ⟨fw_X12_173, fun C T N h => by cases h; exact ⟨tyX12_ok 77 (by decide), rfl⟩⟩
theorem hc_fl_119 : hc_flP ("HoodBookModel", 176, 12, 78) := ⟨fw_X12_176, fun C T N h => by cases h; exact ⟨tyX12_ok 78 (by decide), rfl⟩⟩
theorem hc_fl_120 : hc_flP ("HoodBookModel", 179, 12, 79) := ⟨fw_X12_179, fun C T N h => by cases h; exact ⟨tyX12_ok 79 (by decide), rfl⟩⟩
theorem hc_fl_121 : hc_flP ("HoodBookModel", 182, 12, 81) := ⟨fw_X12_182, fun C T N h => by cases h; exact ⟨tyX12_ok 81 (by decide), rfl⟩⟩
theorem hc_fl_122 : hc_flP ("HoodBookModel", 185, 12, 85) := ⟨fw_X12_185, fun C T N h => by cases h; exact ⟨tyX12_ok 85 (by decide), rfl⟩⟩
theorem hc_fl_123 : hc_flP ("HoodBookModel", 189, 12, 89) := ⟨fw_X12_189, fun C T N h => by cases h; exact ⟨tyX12_ok 89 (by decide), rfl⟩⟩
set_option maxRecDepth 20000 in
theorem hc_fl_ok : ∀ x ∈ hc_fl, hc_flP x := List.forall_mem_cons.mpr ⟨hc_fl_0, List.forall_mem_cons.mpr ⟨hc_fl_1, List.forall_mem_cons.mpr ⟨hc_fl_2, List.forall_mem_cons.mpr ⟨hc_fl_3, List.forall_mem_cons.mpr ⟨hc_fl_4, List.forall_mem_cons.mpr ⟨hc_fl_5, List.forall_mem_cons.mpr ⟨hc_fl_6, List.forall_mem_cons.mpr ⟨hc_fl_7, List.forall_mem_cons.mpr ⟨hc_fl_8, List.forall_mem_cons.mpr ⟨hc_fl_9, List.forall_mem_cons.mpr ⟨hc_fl_10, List.forall_mem_cons.mpr ⟨hc_fl_11, List.forall_mem_cons.mpr ⟨hc_fl_12, List.forall_mem_cons.mpr ⟨hc_fl_13, List.forall_mem_cons.mpr ⟨hc_fl_14, List.forall_mem_cons.mpr ⟨hc_fl_15, List.forall_mem_cons.mpr ⟨hc_fl_16, List.forall_mem_cons.mpr ⟨hc_fl_17, List.forall_mem_cons.mpr ⟨hc_fl_18, List.forall_mem_cons.mpr ⟨hc_fl_19, List.forall_mem_cons.mpr ⟨hc_fl_20, List.forall_mem_cons.mpr ⟨hc_fl_21, List.forall_mem_cons.mpr ⟨hc_fl_22, List.forall_mem_cons.mpr ⟨hc_fl_23, List.forall_mem_cons.mpr ⟨hc_fl_24, List.forall_mem_cons.mpr ⟨hc_fl_25, List.forall_mem_cons.mpr ⟨hc_fl_26, List.forall_mem_cons.mpr ⟨hc_fl_27, List.forall_mem_cons.mpr ⟨hc_fl_28, List.forall_mem_cons.mpr ⟨hc_fl_29, List.forall_mem_cons.mpr ⟨hc_fl_30, List.forall_mem_cons.mpr ⟨hc_fl_31, List.forall_mem_cons.mpr ⟨hc_fl_32, List.forall_mem_cons.mpr ⟨hc_fl_33, List.forall_mem_cons.mpr ⟨hc_fl_34, List.forall_mem_cons.mpr ⟨hc_fl_35, List.forall_mem_cons.mpr ⟨hc_fl_36, List.forall_mem_cons.mpr ⟨hc_fl_37, List.forall_mem_cons.mpr ⟨hc_fl_38, List.forall_mem_cons.mpr ⟨hc_fl_39, List.forall_mem_cons.mpr ⟨hc_fl_40, List.forall_mem_cons.mpr ⟨hc_fl_41, List.forall_mem_cons.mpr ⟨hc_fl_42, List.forall_mem_cons.mpr ⟨hc_fl_43, List.forall_mem_cons.mpr ⟨hc_fl_44, List.forall_mem_cons.mpr ⟨hc_fl_45, List.forall_mem_cons.mpr ⟨hc_fl_46, List.forall_mem_cons.mpr ⟨hc_fl_47, List.forall_mem_cons.mpr ⟨hc_fl_48, List.forall_mem_cons.mpr ⟨hc_fl_49, List.forall_mem_cons.mpr ⟨hc_fl_50, List.forall_mem_cons.mpr ⟨hc_fl_51, List.forall_mem_cons.mpr ⟨hc_fl_52, List.forall_mem_cons.mpr ⟨hc_fl_53, List.forall_mem_cons.mpr ⟨hc_fl_54, List.forall_mem_cons.mpr ⟨hc_fl_55, List.forall_mem_cons.mpr ⟨hc_fl_56, List.forall_mem_cons.mpr ⟨hc_fl_57, List.forall_mem_cons.mpr ⟨hc_fl_58, List.forall_mem_cons.mpr ⟨hc_fl_59, List.forall_mem_cons.mpr ⟨hc_fl_60, List.forall_mem_cons.mpr ⟨hc_fl_61, List.forall_mem_cons.mpr ⟨hc_fl_62, List.forall_mem_cons.mpr ⟨hc_fl_63, List.forall_mem_cons.mpr ⟨hc_fl_64, List.forall_mem_cons.mpr ⟨hc_fl_65, List.forall_mem_cons.mpr ⟨hc_fl_66, List.forall_mem_cons.mpr ⟨hc_fl_67, List.forall_mem_cons.mpr ⟨hc_fl_68, List.forall_mem_cons.mpr ⟨hc_fl_69, List.forall_mem_cons.mpr ⟨hc_fl_70, List.forall_mem_cons.mpr ⟨hc_fl_71, List.forall_mem_cons.mpr ⟨hc_fl_72, List.forall_mem_cons.mpr ⟨hc_fl_73, List.forall_mem_cons.mpr ⟨hc_fl_74, List.forall_mem_cons.mpr ⟨hc_fl_75, List.forall_mem_cons.mpr ⟨hc_fl_76, List.forall_mem_cons.mpr ⟨hc_fl_77, List.forall_mem_cons.mpr ⟨hc_fl_78, List.forall_mem_cons.mpr ⟨hc_fl_79, List.forall_mem_cons.mpr ⟨hc_fl_80, List.forall_mem_cons.mpr ⟨hc_fl_81, List.forall_mem_cons.mpr ⟨hc_fl_82, List.forall_mem_cons.mpr ⟨hc_fl_83, List.forall_mem_cons.mpr ⟨hc_fl_84, List.forall_mem_cons.mpr ⟨hc_fl_85, List.forall_mem_cons.mpr ⟨hc_fl_86, List.forall_mem_cons.mpr ⟨hc_fl_87, List.forall_mem_cons.mpr ⟨hc_fl_88, List.forall_mem_cons.mpr ⟨hc_fl_89, List.forall_mem_cons.mpr ⟨hc_fl_90, List.forall_mem_cons.mpr ⟨hc_fl_91, List.forall_mem_cons.mpr ⟨hc_fl_92, List.forall_mem_cons.mpr ⟨hc_fl_93, List.forall_mem_cons.mpr ⟨hc_fl_94, List.forall_mem_cons.mpr ⟨hc_fl_95, List.forall_mem_cons.mpr ⟨hc_fl_96, List.forall_mem_cons.mpr ⟨hc_fl_97, List.forall_mem_cons.mpr ⟨hc_fl_98, List.forall_mem_cons.mpr ⟨hc_fl_99, List.forall_mem_cons.mpr ⟨hc_fl_100, List.forall_mem_cons.mpr ⟨hc_fl_101, List.forall_mem_cons.mpr ⟨hc_fl_102, List.forall_mem_cons.mpr ⟨hc_fl_103, List.forall_mem_cons.mpr ⟨hc_fl_104, List.forall_mem_cons.mpr ⟨hc_fl_105, List.forall_mem_cons.mpr ⟨hc_fl_106, List.forall_mem_cons.mpr ⟨hc_fl_107, List.forall_mem_cons.mpr ⟨hc_fl_108, List.forall_mem_cons.mpr ⟨hc_fl_109, List.forall_mem_cons.mpr ⟨hc_fl_110, List.forall_mem_cons.mpr ⟨hc_fl_111, List.forall_mem_cons.mpr ⟨hc_fl_112, List.forall_mem_cons.mpr ⟨hc_fl_113, List.forall_mem_cons.mpr ⟨hc_fl_114, List.forall_mem_cons.mpr ⟨hc_fl_115, List.forall_mem_cons.mpr ⟨hc_fl_116, List.forall_mem_cons.mpr ⟨hc_fl_117, List.forall_mem_cons.mpr ⟨hc_fl_118, List.forall_mem_cons.mpr ⟨hc_fl_119, List.forall_mem_cons.mpr ⟨hc_fl_120, List.forall_mem_cons.mpr ⟨hc_fl_121, List.forall_mem_cons.mpr ⟨hc_fl_122, List.forall_mem_cons.mpr ⟨hc_fl_123, fun _ h => absurd h List.not_mem_nil⟩⟩⟩⟩⟩⟩⟩⟩⟩⟩⟩⟩⟩⟩⟩⟩⟩⟩⟩⟩⟩⟩⟩⟩⟩⟩⟩⟩⟩⟩⟩⟩⟩⟩⟩⟩⟩⟩⟩⟩⟩⟩⟩⟩⟩⟩⟩⟩⟩⟩⟩⟩⟩⟩⟩⟩⟩⟩⟩⟩⟩⟩⟩⟩⟩⟩⟩⟩⟩⟩⟩⟩⟩⟩⟩⟩⟩⟩⟩⟩⟩⟩⟩⟩⟩⟩⟩⟩⟩⟩⟩⟩⟩⟩⟩⟩⟩⟩⟩⟩⟩⟩⟩⟩⟩⟩⟩⟩⟩⟩⟩⟩⟩⟩⟩⟩⟩⟩⟩⟩⟩⟩⟩⟩
theorem hc_cw : ∀ ci, ci < 13 → hb_CW ci := (lt_s (lt_s (lt_s (lt_s (lt_s (lt_s (lt_s (lt_s (lt_s (lt_s (lt_s (lt_s (lt_s lt_0 cw_0) cw_1) cw_2) cw_3) cw_4) cw_5) cw_6) cw_7) cw_8) cw_9) cw_10) cw_11) cw_12)
theorem hc_nl_0 : hc_NW "HoodBook$Ledger" 19 5 (hc_dfT.getD 5 []) := ⟨_, _, _, tyX5, rfl, rfl, tyX5_ok, hc_df_5, uw_5, hb_t2 7 rfl rfl, hb_t1 115 rfl rfl, hb_t1 6 rfl rfl⟩
theorem hc_nl_1 : hc_NW "HoodBook$Ledger" 25 0 (hc_dfT.getD 0 []) := ⟨_, _, _, tyX0, rfl, rfl, tyX0_ok, hc_df_0, uw_0, hb_t2 9 rfl rfl, hb_t2 10 rfl rfl, hb_t1 11 rfl rfl⟩
theorem hc_nl_2 : hc_NW "HoodBook$Night" 30 1 (hc_dfT.getD 1 []) := ⟨_, _, _, tyX1, rfl, rfl, tyX1_ok, hc_df_1, uw_1, hb_t2 147 rfl rfl, hb_t1 43 rfl rfl, hb_t1 3 rfl rfl⟩
theorem hc_nl_3 : hc_NW "HoodBook" 7 10 (hc_dfT.getD 10 []) := ⟨_, _, _, tyX10, rfl, rfl, tyX10_ok, hc_df_10, uw_10, hb_t1 25 rfl rfl, hb_t1 26 rfl rfl, hb_t1 2 rfl rfl⟩
theorem hc_nl_4 : hc_NW "HoodBook" 16 1 (hc_dfT.getD 1 []) := ⟨_, _, _, tyX1, rfl, rfl, tyX1_ok, hc_df_1, uw_1, hb_t1 42 rfl rfl, hb_t1 43 rfl rfl, hb_t1 3 rfl rfl⟩
theorem hc_nl_5 : hc_NW "HoodBook" 23 2 (hc_dfT.getD 2 []) := ⟨_, _, _, tyX2, rfl, rfl, tyX2_ok, hc_df_2, uw_2, hb_t1 61 rfl rfl, hb_t1 62 rfl rfl, hb_t1 4 rfl rfl⟩
theorem hc_nl_6 : hc_NW "HoodBook" 25 7 (hc_dfT.getD 7 []) := ⟨_, _, _, tyX7, rfl, rfl, tyX7_ok, hc_df_7, uw_7, hb_t1 63 rfl rfl, hb_t1 64 rfl rfl, hb_t1 5 rfl rfl⟩
theorem hc_nl_7 : hc_NW "HoodBook" 37 5 (hc_dfT.getD 5 []) := ⟨_, _, _, tyX5, rfl, rfl, tyX5_ok, hc_df_5, uw_5, hb_t1 114 rfl rfl, hb_t1 115 rfl rfl, hb_t1 6 rfl rfl⟩
theorem hc_nl_8 : hc_NW "HoodBook" 40 9 (hc_dfT.getD 9 []) := ⟨_, _, _, tyX9, rfl, rfl, tyX9_ok, hc_df_9, uw_9, hb_t1 124 rfl rfl, hb_t1 125 rfl rfl, hb_t1 7 rfl rfl⟩
theorem hc_nl_9 : hc_NW "HoodBook" 49 8 (hc_dfT.getD 8 []) := ⟨_, _, _, tyX8, rfl, rfl, tyX8_ok, hc_df_8, uw_8, hb_t1 176 rfl rfl, hb_t1 177 rfl rfl, hb_t1 8 rfl rfl⟩
theorem hc_nl_10 : hc_NW "HoodBook" 56 4 (hc_dfT.getD 4 []) := ⟨_, _, _, tyX4, rfl, rfl, tyX4_ok, hc_df_4, uw_4, hb_t2 1 rfl rfl, hb_t2 2 rfl rfl, hb_t1 10 rfl rfl⟩
theorem hc_nl_11 : hc_NW "HoodBook" 65 3 (hc_dfT.getD 3 []) := ⟨_, _, _, tyX3, rfl, rfl, tyX3_ok, hc_df_3, uw_3, hb_t2 126 rfl rfl, hb_t2 127 rfl rfl, hb_t1 12 rfl rfl⟩
theorem hc_nl_12 : hc_NW "HoodBook" 76 6 (hc_dfT.getD 6 []) := ⟨_, _, _, tyX6, rfl, rfl, tyX6_ok, hc_df_6, uw_6, hb_t2 141 rfl rfl, hb_t2 142 rfl rfl, hb_t1 13 rfl rfl⟩
theorem hc_nl_13 : hc_NW "HoodBookLaw" 7 11 (hc_dfT.getD 11 []) := ⟨_, _, _, tyX11, rfl, rfl, tyX11_ok, hc_df_11, uw_11, hb_t1 17 rfl rfl, hb_t1 18 rfl rfl, hb_t1 1 rfl rfl⟩
theorem hc_nl_14 : hc_NW "HoodBookLaw" 10 12 (hc_dfT.getD 12 []) := ⟨_, _, _, tyX12, rfl, rfl, tyX12_ok, hc_df_12, uw_12, hb_t5 163 rfl rfl, hb_t5 164 rfl rfl, hb_t1 14 rfl rfl⟩
def hc_nl : List (String × Nat × Nat) := [("HoodBook$Ledger", 19, 5), ("HoodBook$Ledger", 25, 0), ("HoodBook$Night", 30, 1), ("HoodBook", 7, 10), ("HoodBook", 16, 1), ("HoodBook", 23, 2), ("HoodBook", 25, 7), ("HoodBook", 37, 5), ("HoodBook", 40, 9), ("HoodBook", 49, 8), ("HoodBook", 56, 4), ("HoodBook", 65, 3), ("HoodBook", 76, 6), ("HoodBookLaw", 7, 11), ("HoodBookLaw", 10, 12)]
theorem hc_nl_ok : ∀ x ∈ hc_nl, hc_NW x.1 x.2.1 x.2.2 (hc_dfT.getD x.2.2 []) := List.forall_mem_cons.mpr ⟨hc_nl_0, List.forall_mem_cons.mpr ⟨hc_nl_1, List.forall_mem_cons.mpr ⟨hc_nl_2, List.forall_mem_cons.mpr ⟨hc_nl_3, List.forall_mem_cons.mpr ⟨hc_nl_4, List.forall_mem_cons.mpr ⟨hc_nl_5, List.forall_mem_cons.mpr ⟨hc_nl_6, List.forall_mem_cons.mpr ⟨hc_nl_7, List.forall_mem_cons.mpr ⟨hc_nl_8, List.forall_mem_cons.mpr ⟨hc_nl_9, List.forall_mem_cons.mpr ⟨hc_nl_10, List.forall_mem_cons.mpr ⟨hc_nl_11, List.forall_mem_cons.mpr ⟨hc_nl_12, List.forall_mem_cons.mpr ⟨hc_nl_13, List.forall_mem_cons.mpr ⟨hc_nl_14, fun _ h => absurd h List.not_mem_nil⟩⟩⟩⟩⟩⟩⟩⟩⟩⟩⟩⟩⟩⟩⟩
def hc_ol : List (String × Nat) := [("HoodBook$Book", 3), ("HoodBook$Code", 3), ("HoodBook$Grammar", 3), ("HoodBook$Image", 3), ("HoodBook$Ledger", 3), ("HoodBook$Marks", 3), ("HoodBook$Night", 3), ("HoodBook$Reader", 3), ("HoodBook$Roll", 3), ("HoodBook$Scene", 3), ("HoodBook$Tape", 3), ("HoodBook", 1), ("HoodBookModel", 1)]
theorem hc_ol_ok : ∀ x ∈ hc_ol, Cond.methodLink x.1 x.2 Lib.objectInit ∈ hb_tb := List.forall_mem_cons.mpr ⟨hb_t2 14 rfl rfl, List.forall_mem_cons.mpr ⟨hb_t1 47 rfl rfl, List.forall_mem_cons.mpr ⟨hb_t1 102 rfl rfl, List.forall_mem_cons.mpr ⟨hb_t2 131 rfl rfl, List.forall_mem_cons.mpr ⟨hb_t2 6 rfl rfl, List.forall_mem_cons.mpr ⟨hb_t1 119 rfl rfl, List.forall_mem_cons.mpr ⟨hb_t2 146 rfl rfl, List.forall_mem_cons.mpr ⟨hb_t1 68 rfl rfl, List.forall_mem_cons.mpr ⟨hb_t1 181 rfl rfl, List.forall_mem_cons.mpr ⟨hb_t1 129 rfl rfl, List.forall_mem_cons.mpr ⟨hb_t1 30 rfl rfl, List.forall_mem_cons.mpr ⟨hb_t1 22 rfl rfl, List.forall_mem_cons.mpr ⟨hb_t5 168 rfl rfl, fun _ h => absurd h List.not_mem_nil⟩⟩⟩⟩⟩⟩⟩⟩⟩⟩⟩⟩⟩
abbrev hc_K : Type := String × Nat × Bool × MethodName × ByteArray × Nat × Nat
def hc_cl : List hc_K := [("HoodBook$Ledger", 21, true, yX5_init, cX5_init, 1, 0), ("HoodBook$Ledger", 27, true, yX0_init, cX0_init, 2, 1), ("HoodBook$Night", 32, true, yX1_init, cX1_init, 1, 0), ("HoodBook", 9, true, yX10_init, cX10_init, 1, 0), ("HoodBook", 18, true, yX1_init, cX1_init, 1, 0), ("HoodBook", 27, true, yX7_init, cX7_init, 2, 1), ("HoodBook", 30, true, yX2_init, cX2_init, 3, 2), ("HoodBook", 39, true, yX5_init, cX5_init, 1, 0), ("HoodBook", 42, true, yX9_init, cX9_init, 2, 1), ("HoodBook", 51, true, yX8_init, cX8_init, 1, 0), ("HoodBook", 58, true, yX4_init, cX4_init, 3, 2), ("HoodBook", 67, true, yX3_init, cX3_init, 1, 0), ("HoodBook", 78, true, yX6_init, cX6_init, 1, 0), ("HoodBook$Roll", 24, false, yJ7_fill_53178, cJ7_fill_53178, 4, 2), ("HoodBookLaw", 9, true, yX11_init, cX11_init, 2, 0), ("HoodBookLaw", 12, true, yX12_init, cX12_init, 1, 0)]
def hc_clP (x : hc_K) : Prop := Cond.methodLink x.1 x.2.1 x.2.2.2.1 ∈ hb_tb ∧ hb_MF x.2.2.2.1 x.2.2.2.2.1 x.2.2.2.2.2.1 none x.2.2.2.2.2.2 ∧ (x.2.2.1 = true → x.2.2.2.1.name = "<init>" ∧ Cond.instanceMethod x.2.2.2.1 ∈ hb_tb) ∧ (x.2.2.1 = false → Cond.static x.2.2.2.1 ∈ hb_tb)
theorem hc_cl_0 : hc_clP ("HoodBook$Ledger", 21, true, yX5_init, cX5_init, 1, 0) := ⟨hb_t2 8 rfl rfl, mf_X5_init, fun _ => ⟨rfl, hb_t1 117 rfl rfl⟩, fun h => (by cases h)⟩
theorem hc_cl_1 : hc_clP ("HoodBook$Ledger", 27, true, yX0_init, cX0_init, 2, 1) := ⟨hb_t2 11 rfl rfl, mf_X0_init, fun _ => ⟨rfl, hb_t2 12 rfl rfl⟩, fun h => (by cases h)⟩
theorem hc_cl_2 : hc_clP ("HoodBook$Night", 32, true, yX1_init, cX1_init, 1, 0) := ⟨hb_t2 148 rfl rfl, mf_X1_init, fun _ => ⟨rfl, hb_t1 45 rfl rfl⟩, fun h => (by cases h)⟩
theorem hc_cl_3 : hc_clP ("HoodBook", 9, true, yX10_init, cX10_init, 1, 0) := ⟨hb_t1 27 rfl rfl, mf_X10_init, fun _ => ⟨rfl, hb_t1 28 rfl rfl⟩, fun h => (by cases h)⟩
theorem hc_cl_4 : hc_clP ("HoodBook", 18, true, yX1_init, cX1_init, 1, 0) := ⟨hb_t1 44 rfl rfl, mf_X1_init, fun _ => ⟨rfl, hb_t1 45 rfl rfl⟩, fun h => (by cases h)⟩
theorem hc_cl_5 : hc_clP ("HoodBook", 27, true, yX7_init, cX7_init, 2, 1) := ⟨hb_t1 65 rfl rfl, mf_X7_init, fun _ => ⟨rfl, hb_t1 66 rfl rfl⟩, fun h => (by cases h)⟩
theorem hc_cl_6 : hc_clP ("HoodBook", 30, true, yX2_init, cX2_init, 3, 2) := ⟨hb_t1 99 rfl rfl, mf_X2_init, fun _ => ⟨rfl, hb_t1 100 rfl rfl⟩, fun h => (by cases h)⟩
theorem hc_cl_7 : hc_clP ("HoodBook", 39, true, yX5_init, cX5_init, 1, 0) := ⟨hb_t1 116 rfl rfl, mf_X5_init, fun _ => ⟨rfl, hb_t1 117 rfl rfl⟩, fun h => (by cases h)⟩
theorem hc_cl_8 : hc_clP ("HoodBook", 42, true, yX9_init, cX9_init, 2, 1) := ⟨hb_t1 126 rfl rfl, mf_X9_init, fun _ => ⟨rfl, hb_t1 127 rfl rfl⟩, fun h => (by cases h)⟩
theorem hc_cl_9 : hc_clP ("HoodBook", 51, true, yX8_init, cX8_init, 1, 0) := ⟨hb_t1 178 rfl rfl, mf_X8_init, fun _ => ⟨rfl, hb_t1 179 rfl rfl⟩, fun h => (by cases h)⟩
theorem hc_cl_10 : hc_clP ("HoodBook", 58, true, yX4_init, cX4_init, 3, 2) := ⟨hb_t2 3 rfl rfl, mf_X4_init, fun _ => ⟨rfl, hb_t2 4 rfl rfl⟩, fun h => (by cases h)⟩
theorem hc_cl_11 : hc_clP ("HoodBook", 67, true, yX3_init, cX3_init, 1, 0) := ⟨hb_t2 128 rfl rfl, mf_X3_init, fun _ => ⟨rfl, hb_t2 129 rfl rfl⟩, fun h => (by cases h)⟩
theorem hc_cl_12 : hc_clP ("HoodBook", 78, true, yX6_init, cX6_init, 1, 0) := ⟨hb_t2 143 rfl rfl, mf_X6_init, fun _ => ⟨rfl, hb_t2 144 rfl rfl⟩, fun h => (by cases h)⟩
theorem hc_cl_13 : hc_clP ("HoodBook$Roll", 24, false, yJ7_fill_53178, cJ7_fill_53178, 4, 2) := ⟨hb_t1 182 rfl rfl, mf_J7_fill_53178, fun h => (by cases h), fun _ => ms_J7_fill_53178⟩
theorem hc_cl_14 : hc_clP ("HoodBookLaw", 9, true, yX11_init, cX11_init, 2, 0) := ⟨hb_t1 19 rfl rfl, mf_X11_init, fun _ => ⟨rfl, hb_t1 20 rfl rfl⟩, fun h => (by cases h)⟩
theorem hc_cl_15 : hc_clP ("HoodBookLaw", 12, true, yX12_init, cX12_init, 1, 0) := ⟨hb_t5 165 rfl rfl, mf_X12_init, fun _ => ⟨rfl, hb_t5 166 rfl rfl⟩, fun h => (by cases h)⟩
theorem hc_cl_ok : ∀ x ∈ hc_cl, hc_clP x := List.forall_mem_cons.mpr ⟨hc_cl_0, List.forall_mem_cons.mpr ⟨hc_cl_1, List.forall_mem_cons.mpr ⟨hc_cl_2, List.forall_mem_cons.mpr ⟨hc_cl_3, List.forall_mem_cons.mpr ⟨hc_cl_4, List.forall_mem_cons.mpr ⟨hc_cl_5, List.forall_mem_cons.mpr ⟨hc_cl_6, List.forall_mem_cons.mpr ⟨hc_cl_7, List.forall_mem_cons.mpr ⟨hc_cl_8, List.forall_mem_cons.mpr ⟨hc_cl_9, List.forall_mem_cons.mpr ⟨hc_cl_10, List.forall_mem_cons.mpr ⟨hc_cl_11, List.forall_mem_cons.mpr ⟨hc_cl_12, List.forall_mem_cons.mpr ⟨hc_cl_13, List.forall_mem_cons.mpr ⟨hc_cl_14, List.forall_mem_cons.mpr ⟨hc_cl_15, fun _ h => absurd h List.not_mem_nil⟩⟩⟩⟩⟩⟩⟩⟩⟩⟩⟩⟩⟩⟩⟩⟩
theorem hc_ac_0 : Cond.arrayClass (hc_ty 0) ∈ hb_tb := hb_t1 60 rfl rfl
theorem hc_ac_1 : Cond.arrayClass (hc_ty 1) ∈ hb_tb := hb_t1 41 rfl rfl
theorem hc_ac_2 : Cond.arrayClass (hc_ty 2) ∈ hb_tb := hb_t6 203 rfl rfl
theorem hc_ac_3 : Cond.arrayClass (hc_ty 3) ∈ hb_tb := hb_t6 204 rfl rfl
theorem hc_ac_4 : Cond.arrayClass (hc_ty 4) ∈ hb_tb := hb_t6 205 rfl rfl
theorem hc_ac : ∀ ty, ty < 5 → Cond.arrayClass (hc_ty ty) ∈ hb_tb := (lt_s (lt_s (lt_s (lt_s (lt_s lt_0 hc_ac_0) hc_ac_1) hc_ac_2) hc_ac_3) hc_ac_4)
/-! ===== the run of a maker, as a program ===== -/
def hc_okv (ty : FieldType) (v : hb_V) : Bool := match ty, v with
  | .int, .inl _ => true
  | .boolean, .inl x => x == 0 || x == 1
  | .long, .inr (.inl _) => true
  | .object _, .inr (.inr _) => true
  | .array _, .inr (.inr _) => true
  | _, _ => false
theorem hc_okv_ok {ty : FieldType} {v : hb_V} (h : hc_okv ty v = true) (ad : hb_Id → Nat) : narrow ty (hb_cv ad v) = hb_cv ad v ∧ fits ty (hb_cv ad v) = true := by
  unfold hc_okv at h
  split at h
  · exact ⟨rfl, rfl⟩
  · rename_i x
    simp only [Bool.or_eq_true, beq_iff_eq] at h
    exact ⟨hb_nz h, hb_fz h⟩
  · exact ⟨rfl, rfl⟩
  · rename_i q
    cases q <;> exact ⟨rfl, rfl⟩
  · rename_i q
    cases q <;> exact ⟨rfl, rfl⟩
  · cases h
def hc_at : ArrayType → Nat
  | .int => 0
  | .byte => 1
  | .char => 2
  | .boolean => 3
  | .long => 4
  | _ => 9
theorem hc_at_ok {a : ArrayType} (h : hc_at a < 5) : newarray.typeOf a = hc_ty (hc_at a) := by
  cases a <;> first | rfl | (exfalso; revert h; decide)
abbrev hc_S : Type := Nat × List (Option hb_V) × List hb_V × List hc_A × Nat × Nat
def hc_st (own nm : String) (nL : Nat) (i : Instr) (len pc : Nat) (ls : List (Option hb_V)) (st : List hb_V) (L : List hc_A) : Option hc_S := match i with
  | .aload_n k => match ls[k.val]? with
    | some (some (.inr (.inr (some q)))) => if len = 1 then some (pc + 1, ls, .inr (.inr (some q)) :: st, L, 0, 0) else none
    | _ => none
  | .iload_n k => match ls[k.val]? with
    | some (some (.inl x)) => if len = 1 then some (pc + 1, ls, .inl x :: st, L, 0, 0) else none
    | _ => none
  | .istore_n k => match st with
    | .inl x :: rest => if len = 1 ∧ k.val < nL then some (pc + 1, hb_s1 ls k.val (.inl x), rest, L, 0, 0) else none
    | _ => none
  | .astore_n k => match st with
    | .inr (.inr (some q)) :: rest => if len = 1 ∧ k.val < nL then some (pc + 1, hb_s1 ls k.val (.inr (.inr (some q))), rest, L, 0, 0) else none
    | _ => none
  | .iconst v => if len = 1 then some (pc + 1, ls, .inl (Int32.ofInt v) :: st, L, 0, 0) else none
  | .bipush v => if len = 2 then some (pc + 2, ls, .inl (Int8.ofInt v).toInt32 :: st, L, 0, 0) else none
  | .sipush v => if len = 3 then some (pc + 3, ls, .inl (Int16.ofInt v).toInt32 :: st, L, 0, 0) else none
  | .lconst v => if len = 1 then some (pc + 1, ls, .inr (.inl (Int64.ofNat v.val)) :: st, L, 0, 0) else none
  | .dup => match st with
    | .inl x :: rest => if len = 1 then some (pc + 1, ls, .inl x :: .inl x :: rest, L, 0, 0) else none
    | .inr (.inr (some q)) :: rest => if len = 1 then some (pc + 1, ls, .inr (.inr (some q)) :: .inr (.inr (some q)) :: rest, L, 0, 0) else none
    | _ => none
  | .getfield ix => match hc_fl.find? (fun x => x.1 == own && x.2.1 == ix), st with
    | some x, .inr (.inr (some q)) :: rest => match L[q.1]? with
      | some (.inr (ci, fs)) => match fs[x.2.2.2]? with
        | some v => if len = 3 ∧ ci = x.2.2.1 ∧ ci < 13 then some (pc + 3, ls, v :: rest, L, 0, 0) else none
        | none => none
      | _ => none
    | _, _ => none
  | .putfield ix => match hc_fl.find? (fun x => x.1 == own && x.2.1 == ix), st with
    | some x, v :: .inr (.inr (some q)) :: rest => match L[q.1]? with
      | some (.inr (ci, fs)) => if len = 3 ∧ ci = x.2.2.1 ∧ ci < 13 ∧ x.2.2.2 < fs.length ∧ hc_okv (hc_tyOf ci x.2.2.2) v = true ∧ nm = "<init>" then some (pc + 3, ls, rest, L.set q.1 (.inr (ci, fs.set x.2.2.2 v)), 0, 0) else none
      | _ => none
    | _, _ => none
  | .iastore => match st with
    | .inl x :: .inl j :: .inr (.inr (some q)) :: rest => match L[q.1]? with
      | some (.inl (ty, n, us)) => if len = 1 ∧ ty = 0 ∧ 0 ≤ j ∧ j.toNatClampNeg < n then some (pc + 1, ls, rest, L.set q.1 (.inl (0, n, us ++ [(j.toNatClampNeg, x)])), 0, 0) else none
      | _ => none
    | _ => none
  | .castore => match st with
    | .inl x :: .inl j :: .inr (.inr (some q)) :: rest => match L[q.1]? with
      | some (.inl (ty, n, us)) => if len = 1 ∧ ty = 2 ∧ 0 ≤ j ∧ j.toNatClampNeg < n then some (pc + 1, ls, rest, L.set q.1 (.inl (2, n, us ++ [(j.toNatClampNeg, vp_nar .char x)])), 0, 0) else none
      | _ => none
    | _ => none
  | .arraylength => match st with
    | .inr (.inr (some q)) :: rest => match L[q.1]? with
      | some (.inl (ty, n, us)) => if len = 1 ∧ ty = 0 then some (pc + 1, ls, .inl (Int32.ofNat n) :: rest, L, 0, 0) else none
      | _ => none
    | _ => none
  | .newarray a => match st with
    | .inl n :: rest => if len = 2 ∧ hc_at a < 5 ∧ 0 ≤ n ∧ n.toNatClampNeg < 10000 then some (pc + 2, ls, .inr (.inr (some (L.length, 0, 0))) :: rest, L ++ [.inl (hc_at a, n.toNatClampNeg, [])], 1, n.toNatClampNeg) else none
    | _ => none
  | .new ix => match hc_nl.find? (fun x => x.1 == own && x.2.1 == ix) with
    | some x => if len = 3 then some (pc + 3, ls, .inr (.inr (some (L.length, 0, 0))) :: st, L ++ [.inr (x.2.2, hc_dfT.getD x.2.2 [])], 1, (hc_dfT.getD x.2.2 []).length) else none
    | none => none
  | .if_icmp .ge off => match st with
    | .inl b :: .inl x :: rest => if len = 3 ∧ 0 ≤ (pc : Int) + off then (if b ≤ x then some (((pc : Int) + off).toNat, ls, rest, L, 0, 0) else some (pc + 3, ls, rest, L, 0, 0)) else none
    | _ => none
  | .iinc j n => match ls[j]? with
    | some (some (.inl x)) => if len = 3 ∧ j < nL then some (pc + 3, hb_s1 ls j (.inl (x + Int32.ofInt n)), st, L, 0, 0) else none
    | _ => none
  | .goto off => if len = 3 ∧ 0 ≤ (pc : Int) + off then some (((pc : Int) + off).toNat, ls, st, L, 0, 0) else none
  | _ => none
theorem hc_find {α : Type} {l : List (String × Nat × α)} {own : String} {ix : Nat} {x : String × Nat × α} (h : l.find? (fun x => x.1 == own && x.2.1 == ix) = some x) : x ∈ l ∧ x.1 = own ∧ x.2.1 = ix := by
  refine ⟨List.mem_of_find?_eq_some h, ?_⟩
  have := List.find?_some h
  simpa using this
theorem hc_vin {j : Int32} {n : Nat} (h1 : 0 ≤ j) (h2 : j.toNatClampNeg < n) : vp_in j n := by
  intro h
  rcases h with h | h
  · exact absurd h (Int32.not_lt.mpr h1)
  · omega
section HCS
variable {p : Program} {l : Launch} {e : Env} {R : Room} {s : State} {m : MethodId} {args : Array Value} {below : List Frame} {meth : Method} {c : Code} {cells slots : Nat} {D : va_G} {cA : Nat → ClassId} {Hb : Heap} {Z : State → Prop} {H : Heap} {locs : List Loc} {lsm : Array Slot} {own nm : String} {cc : ByteArray} {nL d pc len : Nat} {L L1 : List hc_A} {i : Instr} {ls ls1 : List (Option hb_V)} {st st1 : List hb_V} {pc1 dc ds : Nat}
set_option maxHeartbeats 4000000 in
theorem hc_st_ok (C : hc_C own nm cc nL d p R s m args meth c D cA) (hd : decode cc pc = .ok (i, len)) (hst : hc_st own nm nL i len pc ls st L = some (pc1, ls1, st1, L1, dc, ds)) (hH : hc_H D cA Hb L H locs) (hA : hb_L (hc_ad Hb.size) nL ls lsm) (h1 : cells + dc ≤ R.cells) (h2 : slots + ds ≤ R.slots)
    (kk : ∀ H1 locs1 lsm1, hc_H D cA Hb L1 H1 locs1 → hb_L (hc_ad Hb.size) nL ls1 lsm1 → W p l e R s m args below meth c H1 locs1 (cells + dc) (slots + ds) Z (F0 m pc1 lsm1 (st1.map (hb_cv (hc_ad Hb.size))))) : W p l e R s m args below meth c H locs cells slots Z (F0 m pc lsm (st.map (hb_cv (hc_ad Hb.size)))) := by
  have C1 := id C
  obtain ⟨c1, c2, c3, c4, c5, c6, c7, c8, c9, c10⟩ := C1
  unfold hc_st at hst
  split at hst
  · -- aload_n
    split at hst
    · rename_i k q hq
      split at hst
      · rename_i hl
        subst hl
        cases hst
        exact lv_aload_n c1 c2 hd rfl (hA.2.2 _ _ hq) (kk H locs lsm hH hA)
      · cases hst
    · cases hst
  · -- iload_n
    split at hst
    · rename_i k x hq
      split at hst
      · rename_i hl
        subst hl
        cases hst
        exact lv_iload_n c1 c2 hd rfl (hA.2.2 _ _ hq) (kk H locs lsm hH hA)
      · cases hst
    · cases hst
  · -- istore_n
    split at hst
    · rename_i k x rest
      split at hst
      · rename_i hl
        obtain ⟨hl, hn⟩ := hl
        subst hl
        cases hst
        obtain ⟨lsm', e', h'⟩ := hA.s1 (v := .inl x) hn rfl
        show W p l e R s m args below meth c H locs cells slots Z (F0 m pc lsm (Value.int x :: st1.map (hb_cv (hc_ad Hb.size))))
        intro T hT X
        obtain ⟨t, a, b⟩ := kk H locs lsm' hH h' T hT X
        refine ⟨t, ?_, b⟩
        dsimp only [hb_cv] at e'
        jvm_step X.here [X.here.top, ↓top_set X.here.top, c1, c2, hd, e']
        exact a
      · cases hst
    · cases hst
  · -- astore_n
    split at hst
    · rename_i k q rest
      split at hst
      · rename_i hl
        obtain ⟨hl, hn⟩ := hl
        subst hl
        cases hst
        obtain ⟨lsm', e', h'⟩ := hA.s1 (v := .inr (.inr (some q))) hn rfl
        show W p l e R s m args below meth c H locs cells slots Z (F0 m pc lsm (Value.ref (hc_ad Hb.size q) :: st1.map (hb_cv (hc_ad Hb.size))))
        intro T hT X
        obtain ⟨t, a, b⟩ := kk H locs lsm' hH h' T hT X
        refine ⟨t, ?_, b⟩
        dsimp only [hb_cv] at e'
        jvm_step X.here [X.here.top, ↓top_set X.here.top, c1, c2, hd, e', Value.isRef]
        exact a
      · cases hst
    · cases hst
  · -- iconst
    split at hst
    · rename_i hl
      subst hl
      cases hst
      exact lv_iconst c1 c2 hd rfl (kk H locs lsm hH hA)
    · cases hst
  · split at hst
    · rename_i hl
      subst hl
      cases hst
      exact lv_bipush c1 c2 hd rfl (kk H locs lsm hH hA)
    · cases hst
  · split at hst
    · rename_i hl
      subst hl
      cases hst
      exact lv_sipush c1 c2 hd rfl (kk H locs lsm hH hA)
    · cases hst
  · split at hst
    · rename_i hl
      subst hl
      cases hst
      exact lv_lconst c1 c2 hd rfl (kk H locs lsm hH hA)
    · cases hst
  · -- dup
    split at hst
    · split at hst
      · rename_i hl
        subst hl
        cases hst
        exact lv_dup c1 c2 hd rfl (kk H locs lsm hH hA)
      · cases hst
    · split at hst
      · rename_i hl
        subst hl
        cases hst
        exact lv_dup c1 c2 hd rfl (kk H locs lsm hH hA)
      · cases hst
    · cases hst
  · -- getfield
    split at hst
    · rename_i x q rest hx
      split at hst
      · rename_i ci fs hq
        split at hst
        · rename_i v hv
          split at hst
          · rename_i hl
            obtain ⟨hl, e1, e2⟩ := hl
            subst hl; subst e1
            cases hst
            obtain ⟨g1, g2, g3⟩ := hc_find hx
            have hf := (hc_fl_ok x g1).1
            rw [g2, g3] at hf
            exact hc_get C hd hf (hc_cw _ e2) hq hv hH (kk H locs lsm hH hA)
          · cases hst
        · cases hst
      · cases hst
    · cases hst
  · -- putfield
    split at hst
    · rename_i x v q rest hx
      split at hst
      · rename_i ci fs hq
        split at hst
        · rename_i hl
          obtain ⟨hl, e1, e2, e3, e4, e5⟩ := hl
          subst hl; subst e1
          cases hst
          obtain ⟨g1, g2, g3⟩ := hc_find hx
          obtain ⟨hf, hf2⟩ := hc_fl_ok x g1
          rw [g2, g3] at hf
          rw [g2] at hf2
          exact hc_put C hd hf (hc_cw _ e2) hq e3 hf2 (fun ad => (hc_okv_ok e4 ad).1) (fun ad => (hc_okv_ok e4 ad).2) e5 hH (fun H1 locs1 h => kk H1 locs1 lsm h hA)
        · cases hst
      · cases hst
    · cases hst
  · -- iastore
    split at hst
    · rename_i x j q rest
      split at hst
      · rename_i ty n us hq
        split at hst
        · rename_i hl
          obtain ⟨hl, e1, e2, e3⟩ := hl
          subst hl; subst e1
          cases hst
          exact hc_iast C hd hq (hc_vin e2 e3) hH (fun H1 locs1 h => kk H1 locs1 lsm h hA)
        · cases hst
      · cases hst
    · cases hst
  · -- castore
    split at hst
    · rename_i x j q rest
      split at hst
      · rename_i ty n us hq
        split at hst
        · rename_i hl
          obtain ⟨hl, e1, e2, e3⟩ := hl
          subst hl; subst e1
          cases hst
          exact hc_cast C hd hq (hc_vin e2 e3) hH (fun H1 locs1 h => kk H1 locs1 lsm h hA)
        · cases hst
      · cases hst
    · cases hst
  · -- arraylength
    split at hst
    · rename_i q rest
      split at hst
      · rename_i ty n us hq
        split at hst
        · rename_i hl
          obtain ⟨hl, e1⟩ := hl
          subst hl; subst e1
          cases hst
          exact hc_alen C hd hq hH (kk H locs lsm hH hA)
        · cases hst
      · cases hst
    · cases hst
  · -- newarray
    split at hst
    · rename_i a _ n rest
      split at hst
      · rename_i hl
        obtain ⟨hl, e1, e2, e3⟩ := hl
        subst hl
        cases hst
        refine hc_newa C hd e1 (hc_at_ok e1) (hc_ac _ e1) (Int32.not_lt.mpr e2) rfl ?_ hH h1 h2 (fun H1 h => kk H1 locs lsm h hA)
        have : componentBytes (hc_ty (hc_at a)) ≤ 8 := by
          cases a <;> decide
        calc _ ≤ 10000 * 8 := Nat.mul_le_mul (by omega) this
          _ ≤ _ := by omega
      · cases hst
    · cases hst
  · -- new
    split at hst
    · rename_i ix x hx
      split at hst
      · rename_i hl
        subst hl
        cases hst
        obtain ⟨g1, g2, g3⟩ := hc_find hx
        have hf := hc_nl_ok x g1
        rw [g2, g3] at hf
        exact hc_new C hd hf hH h1 h2 (fun H1 h => kk H1 locs lsm h hA)
      · cases hst
    · cases hst
  · -- if_icmp ge
    split at hst
    · rename_i off _ b x rest
      split at hst
      · rename_i hl
        obtain ⟨hl, e1⟩ := hl
        subst hl
        split at hst
        · rename_i hbx
          cases hst
          exact lv_icmp_ge c1 c2 hd (by omega) (fun _ => kk H locs lsm hH hA) (fun q => absurd hbx q)
        · rename_i hbx
          cases hst
          exact lv_icmp_ge (tgt := ((pc : Int) + off).toNat) c1 c2 hd (by omega) (fun q => absurd q hbx) (fun _ => kk H locs lsm hH hA)
      · cases hst
    · cases hst
  · -- iinc
    split at hst
    · rename_i j n _ x hq
      split at hst
      · rename_i hl
        obtain ⟨hl, hn⟩ := hl
        subst hl
        cases hst
        have hg := hA.2.2 _ _ hq
        dsimp only [hb_cv] at hg
        obtain ⟨lsm', e', h'⟩ := hA.s1 (v := .inl (x + Int32.ofInt n)) hn rfl
        intro T hT X
        obtain ⟨t, a, b⟩ := kk H locs lsm' hH h' T hT X
        refine ⟨t, ?_, b⟩
        dsimp only [hb_cv] at e'
        jvm_step X.here [X.here.top, ↓top_set X.here.top, c1, c2, hd, hg, e']
        exact a
      · cases hst
    · cases hst
  · -- goto
    split at hst
    · rename_i hl
      obtain ⟨hl, e1⟩ := hl
      subst hl
      cases hst
      exact lv_goto c1 c2 hd (by omega) (kk H locs lsm hH hA)
    · cases hst
  · cases hst
end HCS
