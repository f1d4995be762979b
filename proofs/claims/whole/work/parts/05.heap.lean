/-! ===== fields and arrays ===== -/
theorem hb_obj0 {t j ci : Nat} (h : hb_sh t j = some (.inl ci)) : j = 0 := by
  have key : (hb_shT.all fun row => (row.drop 1).all fun x => match x with
    | .inl _ => false
    | .inr _ => true) = true := by decide +kernel
  cases j with
  | zero => rfl
  | succ j =>
    exfalso
    unfold hb_sh at h
    rw [List.getD_eq_getElem?_getD] at h
    cases hr : hb_shT[t]? with
    | none => rw [hr] at h; simp at h
    | some row =>
      rw [hr] at h
      simp only [Option.getD_some] at h
      have k1 := List.all_eq_true.mp key row (List.mem_of_getElem? hr)
      have k2 := List.all_eq_true.mp k1 (.inl ci) (List.mem_of_getElem? (i := j) (by rw [List.getElem?_drop, Nat.add_comm]; exact h))
      simp at k2
theorem hb_e_obj (cA : Nat → ClassId) (ad : hb_Id → Nat) (w : hb_W) {t g ci : Nat} (hs : hb_sh t 0 = some (.inl ci)) : hb_e cA ad w (t, g, 0) = .inr (ci, (List.range (hb_nf ci)).map fun k => hb_cv ad (hb_fd w t k g)) := by
  unfold hb_e
  dsimp only
  rw [hs]
theorem hb_e_arr (cA : Nat → ClassId) (ad : hb_Id → Nat) (w : hb_W) {t g j ty n : Nat} (hs : hb_sh t j = some (.inr (ty, n))) (hty : ¬ ty = 4) : hb_e cA ad w (t, g, j) = .inl (cA ty, n, .inl (hb_aI w t j g)) := by
  unfold hb_e
  dsimp only
  rw [hs]
  simp only [hty, if_false]
theorem hb_e_arL (cA : Nat → ClassId) (ad : hb_Id → Nat) (w : hb_W) {t g j n : Nat} (hs : hb_sh t j = some (.inr (4, n))) : hb_e cA ad w (t, g, j) = .inl (cA 4, n, .inr (.inl (hb_aL w t j g))) := by
  unfold hb_e
  dsimp only
  rw [hs]
  rfl
/-- the field k of a class, as the code of 'own' names it -/
def hb_FW (own : String) (index ci k : Nat) : Prop := ∃ (C : String) (T : u_T) (N : Nat), vwCl[ci]? = some (C, T, N) ∧ k < N ∧ (T k).1 = C ∧ Cond.fieldLink own index C (T k).2.1 (T k).2.2.1 ∈ hb_tb
/-- a class's own words, types and names -/
def hb_CW (ci : Nat) : Prop := ∀ (C : String) (T : u_T) (N : Nat), vwCl[ci]? = some (C, T, N) → (∀ w ∈ u_ws C T N, w ∈ hb_tb) ∧ (∃ ty : Nat → FieldType, ∀ k, k < N → parseFieldDescriptor (T k).2.2.1 = some (ty k)) ∧ (∀ a, a < N → ∀ b, b < N → a ≠ b → (T a).2.1 ≠ (T b).2.1)
/-- a field that may be written, of this type -/
def hb_PW (ci k : Nat) (ty : FieldType) : Prop := ∃ (C : String) (T : u_T) (N : Nat), vwCl[ci]? = some (C, T, N) ∧ (T k).2.2.2 = false ∧ parseFieldDescriptor (T k).2.2.1 = some ty
theorem hb_nf_of {ci N : Nat} {C : String} {T : u_T} (h : vwCl[ci]? = some (C, T, N)) : hb_nf ci = N := by
  unfold hb_nf
  rw [List.getD_eq_getElem?_getD, List.getElem?_map, h]
  rfl
theorem hb_rng_at (ad : hb_Id → Nat) (w : hb_W) {t g n k : Nat} (hk : k < n) : ((List.range n).map fun k => hb_cv ad (hb_fd w t k g))[k]? = some (hb_cv ad (hb_fd w t k g)) := by
  rw [List.getElem?_map, List.getElem?_range hk]
  rfl
theorem hb_rng_set (ad : hb_Id → Nat) (w w' : hb_W) {t g n k : Nat} (hn : ∀ k', k' ≠ k → hb_fd w' t k' g = hb_fd w t k' g) : ((List.range n).map fun k => hb_cv ad (hb_fd w t k g)).set k (hb_cv ad (hb_fd w' t k g)) = (List.range n).map fun k => hb_cv ad (hb_fd w' t k g) := by
  refine List.ext_getElem? fun i => ?_
  by_cases hi : i = k
  · subst hi
    by_cases hl : i < n
    · rw [List.getElem?_set_self (by simpa using hl), hb_rng_at ad w' hl]
    · rw [List.getElem?_eq_none (by simp; omega), List.getElem?_eq_none (by simp; omega)]
  · rw [List.getElem?_set_ne (Ne.symm hi), List.getElem?_map, List.getElem?_map]
    cases hr : (List.range n)[i]? with
    | none => rfl
    | some j =>
      obtain ⟨h1, h2⟩ := List.getElem?_eq_some_iff.mp hr
      simp at h2
      subst h2
      simp only [Option.map_some]
      rw [hn i hi]
/-- writing a field leaves all other cells -/
theorem hb_e_other (cA : Nat → ClassId) (ad : hb_Id → Nat) (w w' : hb_W) {t g : Nat} (hf : ∀ t' k' g', ¬ (t' = t ∧ g' = g) → hb_fd w' t' k' g' = hb_fd w t' k' g') (ha : w'.2.2.2.1 = w.2.2.2.1) (hl : w'.2.2.2.2 = w.2.2.2.2) : ∀ q : hb_Id, q ≠ (t, g, 0) → hb_e cA ad w' q = hb_e cA ad w q := by
  intro q hq
  obtain ⟨t', g', j'⟩ := q
  unfold hb_e
  dsimp only
  split
  · rename_i ci hs
    have hj := hb_obj0 hs
    subst hj
    have hne : ¬ (t' = t ∧ g' = g) := fun z => hq (by rw [z.1, z.2])
    congr 2
    refine List.map_congr_left fun k _ => ?_
    rw [hf t' k g' hne]
  · rw [hb_aL, hb_aI, ha, hl]
  · rfl
/-- writing an array leaves all other cells -/
theorem hb_e_otherA (cA : Nat → ClassId) (ad : hb_Id → Nat) (w w' : hb_W) {t g j : Nat} (h1 : w'.1 = w.1) (h2 : w'.2.1 = w.2.1) (h3 : w'.2.2.1 = w.2.2.1) (ha : ∀ t' j' g', ¬ (t' = t ∧ j' = j ∧ g' = g) → w'.2.2.2.1 t' j' g' = w.2.2.2.1 t' j' g') (hl : ∀ t' j' g', ¬ (t' = t ∧ j' = j ∧ g' = g) → w'.2.2.2.2 t' j' g' = w.2.2.2.2 t' j' g') : ∀ q : hb_Id, q ≠ (t, g, j) → hb_e cA ad w' q = hb_e cA ad w q := by
  intro q hq
  obtain ⟨t', g', j'⟩ := q
  have hne : ¬ (t' = t ∧ j' = j ∧ g' = g) := fun z => hq (by rw [z.1, z.2.1, z.2.2])
  unfold hb_e
  dsimp only
  split
  · congr 2
    refine List.map_congr_left fun k _ => ?_
    unfold hb_fd
    rw [hb_fI, hb_fL, hb_fR, h1, h2, h3]
  · rw [hb_aL, hb_aI, ha t' j' g' hne, hl t' j' g' hne]
  · rfl
theorem hb_fd_i (w : hb_W) {t k g : Nat} (h : hb_lk t k = none) : hb_fd w t k g = hb_i (hb_fI w t k g) := by
  unfold hb_fd
  rw [h]
theorem hb_fd_l (w : hb_W) {t k g a b : Nat} (h : hb_lk t k = some (a, b, 4)) : hb_fd w t k g = hb_l (hb_fL w t k g) := by
  unfold hb_fd
  rw [h]
  rfl
theorem hb_fd_r (w : hb_W) {t k g a b md : Nat} (h : hb_lk t k = some (a, b, md)) (hm : ¬ md = 4) : hb_fd w t k g = hb_r a (hb_tg md g (hb_fR w t k g)) b := by
  unfold hb_fd
  rw [h]
  simp only [hm, if_false]
theorem hb_u3_kg {α : Type} (f : hb_F α) (t k g : Nat) (v : α) {t' k' g' : Nat} (h : ¬ (t' = t ∧ g' = g)) : hb_u3 f t k g v t' k' g' = f t' k' g' := hb_u3_n f t k g v (fun z => h ⟨z.1, z.2.2⟩)
section HBH
variable {y : MethodName} {cc : ByteArray} {nL : Nat} {ret : Option FieldType} {d pc : Nat} {ls ls1 : List (Option hb_V)} {st : List hb_V} {w : hb_W} {Q : Option hb_V → hb_W → Prop} {t g j k ci index : Nat}
theorem hb_get (hd : decode cc pc = .ok (.getfield index, 3)) (hf : hb_FW y.cls index ci k) (hc : hb_CW ci) (hs : hb_sh t 0 = some (.inl ci)) (hg : g < hb_ct t) (h : hb_R y cc nL ret d (pc + 3) ls (hb_fd w t k g :: st) w Q) : hb_R y cc nL ret d (pc) ls (hb_r t g 0 :: st) w Q := by
  intro p l e R s m args below meth c cells slots D cA ad Hb Z C Kz H locs lsm hH hA
  obtain ⟨C0, T0, N0, hq, hk, h1, h2⟩ := hf
  obtain ⟨p0, hp⟩ := hb_place hs hg
  have he := hb_ws_at cA ad w hp
  rw [hb_e_obj cA ad w hs] at he
  have hT := (hc C0 T0 N0 hq).1
  exact va_get C.1 C.2.1 C.2.2.2.2.1 hT C.2.2.2.1 C.2.2.2.2.2.1 hH.1 p0 he hq k hk (C.2.2.2.2.1 _ h2) (fun x hx => by rw [h1] at hx; exact hx) (hb_rng_at ad w (by rw [hb_nf_of hq]; exact hk)) hd (h p l e R s m args below meth c cells slots D cA ad Hb Z C Kz H locs lsm hH hA)
theorem hb_getI (hd : decode cc pc = .ok (.getfield index, 3)) (hf : hb_FW y.cls index ci k) (hc : hb_CW ci) (hs : hb_sh t 0 = some (.inl ci)) (hg : g < hb_ct t) (hl : hb_lk t k = none) (h : hb_R y cc nL ret d (pc + 3) ls (hb_i (hb_fI w t k g) :: st) w Q) : hb_R y cc nL ret d (pc) ls (hb_r t g 0 :: st) w Q := hb_get hd hf hc hs hg (by rw [hb_fd_i w hl]; exact h)
theorem hb_getL {a b : Nat} (hd : decode cc pc = .ok (.getfield index, 3)) (hf : hb_FW y.cls index ci k) (hc : hb_CW ci) (hs : hb_sh t 0 = some (.inl ci)) (hg : g < hb_ct t) (hl : hb_lk t k = some (a, b, 4)) (h : hb_R y cc nL ret d (pc + 3) ls (hb_l (hb_fL w t k g) :: st) w Q) : hb_R y cc nL ret d (pc) ls (hb_r t g 0 :: st) w Q := hb_get hd hf hc hs hg (by rw [hb_fd_l w hl]; exact h)
theorem hb_getR {a b md g1 : Nat} (hd : decode cc pc = .ok (.getfield index, 3)) (hf : hb_FW y.cls index ci k) (hc : hb_CW ci) (hs : hb_sh t 0 = some (.inl ci)) (hg : g < hb_ct t) (hl : hb_lk t k = some (a, b, md)) (hm : ¬ md = 4) (hg1 : hb_tg md g (hb_fR w t k g) = g1) (h : hb_R y cc nL ret d (pc + 3) ls (hb_r a g1 b :: st) w Q) : hb_R y cc nL ret d (pc) ls (hb_r t g 0 :: st) w Q := hb_get hd hf hc hs hg (by rw [hb_fd_r w hl hm, hg1]; exact h)
theorem hb_put {v : hb_V} {w1 : hb_W} {ty : FieldType} (hd : decode cc pc = .ok (.putfield index, 3)) (hf : hb_FW y.cls index ci k) (hc : hb_CW ci) (hpw : hb_PW ci k ty) (hs : hb_sh t 0 = some (.inl ci)) (hg : g < hb_ct t) (hn : ∀ ad, narrow ty (hb_cv ad v) = hb_cv ad v) (hfit : ∀ ad, fits ty (hb_cv ad v) = true) (hv : hb_fd w1 t k g = v) (ho : ∀ k', k' ≠ k → hb_fd w1 t k' g = hb_fd w t k' g) (ho2 : ∀ t' k' g', ¬ (t' = t ∧ g' = g) → hb_fd w1 t' k' g' = hb_fd w t' k' g') (ha : w1.2.2.2.1 = w.2.2.2.1) (hl : w1.2.2.2.2 = w.2.2.2.2) (h : hb_R y cc nL ret d (pc + 3) ls (st) w1 Q) : hb_R y cc nL ret d (pc) ls (v :: hb_r t g 0 :: st) w Q := by
  intro p l e R s m args below meth c cells slots D cA ad Hb Z C Kz H locs lsm hH hA
  obtain ⟨C0, T0, N0, hq, hk, h1, h2⟩ := hf
  obtain ⟨C1, T1, N1, hq1, hfin, hpar⟩ := hpw
  have e0 := Option.some.inj (hq.symm.trans hq1)
  simp only [Prod.mk.injEq] at e0
  obtain ⟨e1, e2, e3⟩ := e0
  subst e1; subst e2; subst e3
  obtain ⟨p0, hp⟩ := hb_place hs hg
  have he := hb_ws_at cA ad w hp
  rw [hb_e_obj cA ad w hs] at he
  obtain ⟨hT, ⟨ty0, hty0⟩, hnm⟩ := hc C0 T0 N0 hq
  refine va_put C.1 C.2.1 C.2.2.2.2.1 hT ty0 hty0 hnm C.2.2.2.1 C.2.2.2.2.2.1 hH.1 (C.2.2.2.2.2.2.1 w) hH.2 p0 he hq k hk (C.2.2.2.2.1 _ h2) (fun x hx => by rw [h1] at hx; exact hx) hfin hpar (hn ad) (hfit ad) (by rw [List.length_map, List.length_range, hb_nf_of hq]; exact hk) hd ?_
  intro H1 locs1 hP1 hD1 hS1
  refine h p l e R s m args below meth c cells slots D cA ad Hb Z C Kz H1 locs1 lsm ⟨?_, hS1⟩ hA
  have e4 : ((List.range (hb_nf ci)).map fun k => hb_cv ad (hb_fd w t k g)).set k (hb_cv ad v) = (List.range (hb_nf ci)).map fun k => hb_cv ad (hb_fd w1 t k g) := by rw [← hv]; exact hb_rng_set ad w w1 ho
  rw [e4, ← hb_e_obj cA ad w1 hs] at hP1
  rw [← hb_ws_set cA ad w w1 hp (hb_e_other cA ad w w1 ho2 ha hl)]
  exact hP1

theorem hb_putI {x : Int32} {ty : FieldType} (hd : decode cc pc = .ok (.putfield index, 3)) (hf : hb_FW y.cls index ci k) (hc : hb_CW ci) (hpw : hb_PW ci k ty) (hs : hb_sh t 0 = some (.inl ci)) (hg : g < hb_ct t) (hl : hb_lk t k = none) (hn : narrow ty (.int x) = .int x) (hfit : fits ty (.int x) = true) (h : hb_R y cc nL ret d (pc + 3) ls (st) (hb_pI w t k g x) Q) : hb_R y cc nL ret d (pc) ls (hb_i x :: hb_r t g 0 :: st) w Q := by
  refine hb_put (w1 := hb_pI w t k g x) hd hf hc hpw hs hg (fun _ => hn) (fun _ => hfit) ?_ ?_ ?_ rfl rfl h
  · rw [hb_fd_i _ hl]
    show hb_i (hb_fI (hb_pI w t k g x) t k g) = _
    congr 1
    exact hb_u3_s _ t k g x
  · intro k1 hk1
    unfold hb_fd
    have e1 : hb_fI (hb_pI w t k g x) t k1 g = hb_fI w t k1 g := hb_u3_n _ t k g x (fun z => hk1 z.2.1)
    have e2 : hb_fL (hb_pI w t k g x) t k1 g = hb_fL w t k1 g := rfl
    rw [e1, e2]
    rfl
  · intro t1 k1 g1 h1
    unfold hb_fd
    have e1 : hb_fI (hb_pI w t k g x) t1 k1 g1 = hb_fI w t1 k1 g1 := hb_u3_kg _ t k g x h1
    have e2 : hb_fL (hb_pI w t k g x) t1 k1 g1 = hb_fL w t1 k1 g1 := rfl
    rw [e1, e2]
    rfl
theorem hb_putL {a b : Nat} {x : Int64} {ty : FieldType} (hd : decode cc pc = .ok (.putfield index, 3)) (hf : hb_FW y.cls index ci k) (hc : hb_CW ci) (hpw : hb_PW ci k ty) (hs : hb_sh t 0 = some (.inl ci)) (hg : g < hb_ct t) (hl : hb_lk t k = some (a, b, 4)) (hn : narrow ty (.long x) = .long x) (hfit : fits ty (.long x) = true) (h : hb_R y cc nL ret d (pc + 3) ls (st) (hb_pL w t k g x) Q) : hb_R y cc nL ret d (pc) ls (hb_l x :: hb_r t g 0 :: st) w Q := by
  refine hb_put (w1 := hb_pL w t k g x) hd hf hc hpw hs hg (fun _ => hn) (fun _ => hfit) ?_ ?_ ?_ rfl rfl h
  · rw [hb_fd_l _ hl]
    show hb_l (hb_fL (hb_pL w t k g x) t k g) = _
    congr 1
    congr 1
    exact hb_u3_s _ t k g x
  · intro k1 hk1
    unfold hb_fd
    have e1 : hb_fI (hb_pL w t k g x) t k1 g = hb_fI w t k1 g := rfl
    have e2 : hb_fL (hb_pL w t k g x) t k1 g = hb_fL w t k1 g := hb_u3_n _ t k g x (fun z => hk1 z.2.1)
    rw [e1, e2]
    rfl
  · intro t1 k1 g1 h1
    unfold hb_fd
    have e1 : hb_fI (hb_pL w t k g x) t1 k1 g1 = hb_fI w t1 k1 g1 := rfl
    have e2 : hb_fL (hb_pL w t k g x) t1 k1 g1 = hb_fL w t1 k1 g1 := hb_u3_kg _ t k g x h1
    rw [e1, e2]
    rfl
theorem hb_putR {a b g1 : Nat} {n : String} (hd : decode cc pc = .ok (.putfield index, 3)) (hf : hb_FW y.cls index ci k) (hc : hb_CW ci) (hpw : hb_PW ci k (.object n)) (hs : hb_sh t 0 = some (.inl ci)) (hg : g < hb_ct t) (hl : hb_lk t k = some (a, b, 3)) (h : hb_R y cc nL ret d (pc + 3) ls (st) (hb_pR w t k g g1) Q) : hb_R y cc nL ret d (pc) ls (hb_r a g1 b :: hb_r t g 0 :: st) w Q := by
  refine hb_put (w1 := hb_pR w t k g g1) hd hf hc hpw hs hg (fun _ => rfl) (fun _ => rfl) ?_ ?_ ?_ rfl rfl h
  · rw [hb_fd_r _ hl (by decide)]
    have e1 : hb_fR (hb_pR w t k g g1) t k g = g1 := hb_u3_s _ t k g g1
    rw [e1]
    rfl
  · intro k1 hk1
    unfold hb_fd
    have e1 : hb_fR (hb_pR w t k g g1) t k1 g = hb_fR w t k1 g := hb_u3_n _ t k g g1 (fun z => hk1 z.2.1)
    rw [e1]
    rfl
  · intro t1 k1 g2 h1
    unfold hb_fd
    have e1 : hb_fR (hb_pR w t k g g1) t1 k1 g2 = hb_fR w t1 k1 g2 := hb_u3_kg _ t k g g1 h1
    rw [e1]
    rfl
theorem hb_iald {n : Nat} {i : Int32} (hd : decode cc pc = .ok (.iaload, 1)) (hs : hb_sh t j = some (.inr (0, n))) (hg : g < hb_ct t) (hin : vp_in i n) (h : hb_R y cc nL ret d (pc + 1) ls (hb_i (hb_aI w t j g i.toNatClampNeg) :: st) w Q) : hb_R y cc nL ret d (pc) ls (hb_i i :: hb_r t g j :: st) w Q := by
  intro p l e R s m args below meth c cells slots D cA ad Hb Z C Kz H locs lsm hH hA
  obtain ⟨p0, hp⟩ := hb_place hs hg
  have he := hb_ws_at cA ad w hp
  rw [hb_e_arr cA ad w hs (by decide)] at he
  exact va_iald C.1 C.2.1 C.2.2.2.2.2.1 hH.1 p0 0 he rfl hin hd (h p l e R s m args below meth c cells slots D cA ad Hb Z C Kz H locs lsm hH hA)
theorem hb_bald {n : Nat} {i : Int32} (hd : decode cc pc = .ok (.baload, 1)) (hs : hb_sh t j = some (.inr (1, n))) (hg : g < hb_ct t) (hin : vp_in i n) (h : hb_R y cc nL ret d (pc + 1) ls (hb_i (hb_aI w t j g i.toNatClampNeg) :: st) w Q) : hb_R y cc nL ret d (pc) ls (hb_i i :: hb_r t g j :: st) w Q := by
  intro p l e R s m args below meth c cells slots D cA ad Hb Z C Kz H locs lsm hH hA
  obtain ⟨p0, hp⟩ := hb_place hs hg
  have he := hb_ws_at cA ad w hp
  rw [hb_e_arr cA ad w hs (by decide)] at he
  exact va_bald C.1 C.2.1 C.2.2.2.2.2.1 hH.1 p0 1 he rfl hin hd (h p l e R s m args below meth c cells slots D cA ad Hb Z C Kz H locs lsm hH hA)
theorem hb_cald {n : Nat} {i : Int32} (hd : decode cc pc = .ok (.caload, 1)) (hs : hb_sh t j = some (.inr (2, n))) (hg : g < hb_ct t) (hin : vp_in i n) (h : hb_R y cc nL ret d (pc + 1) ls (hb_i (hb_aI w t j g i.toNatClampNeg) :: st) w Q) : hb_R y cc nL ret d (pc) ls (hb_i i :: hb_r t g j :: st) w Q := by
  intro p l e R s m args below meth c cells slots D cA ad Hb Z C Kz H locs lsm hH hA
  obtain ⟨p0, hp⟩ := hb_place hs hg
  have he := hb_ws_at cA ad w hp
  rw [hb_e_arr cA ad w hs (by decide)] at he
  exact va_cald C.1 C.2.1 C.2.2.2.2.2.1 hH.1 p0 2 he rfl hin hd (h p l e R s m args below meth c cells slots D cA ad Hb Z C Kz H locs lsm hH hA)
theorem hb_zald {n : Nat} {i : Int32} (hd : decode cc pc = .ok (.baload, 1)) (hs : hb_sh t j = some (.inr (3, n))) (hg : g < hb_ct t) (hin : vp_in i n) (h : hb_R y cc nL ret d (pc + 1) ls (hb_i (hb_aI w t j g i.toNatClampNeg) :: st) w Q) : hb_R y cc nL ret d (pc) ls (hb_i i :: hb_r t g j :: st) w Q := by
  intro p l e R s m args below meth c cells slots D cA ad Hb Z C Kz H locs lsm hH hA
  obtain ⟨p0, hp⟩ := hb_place hs hg
  have he := hb_ws_at cA ad w hp
  rw [hb_e_arr cA ad w hs (by decide)] at he
  exact va_zald C.1 C.2.1 C.2.2.2.2.2.1 hH.1 p0 3 he rfl hin hd (h p l e R s m args below meth c cells slots D cA ad Hb Z C Kz H locs lsm hH hA)
theorem hb_lald {n : Nat} {i : Int32} (hd : decode cc pc = .ok (.laload, 1)) (hs : hb_sh t j = some (.inr (4, n))) (hg : g < hb_ct t) (hin : vp_in i n) (h : hb_R y cc nL ret d (pc + 1) ls (hb_l (hb_aL w t j g i.toNatClampNeg) :: st) w Q) : hb_R y cc nL ret d (pc) ls (hb_i i :: hb_r t g j :: st) w Q := by
  intro p l e R s m args below meth c cells slots D cA ad Hb Z C Kz H locs lsm hH hA
  obtain ⟨p0, hp⟩ := hb_place hs hg
  have he := hb_ws_at cA ad w hp
  rw [hb_e_arL cA ad w hs] at he
  exact va_lald C.1 C.2.1 C.2.2.2.2.2.1 hH.1 p0 4 he rfl hin hd (h p l e R s m args below meth c cells slots D cA ad Hb Z C Kz H locs lsm hH hA)
theorem hb_alen {n ty : Nat} {v : Int32} (hd : decode cc pc = .ok (.arraylength, 1)) (hs : hb_sh t j = some (.inr (ty, n))) (hty : ty < 4) (hg : g < hb_ct t) (hv : Int32.ofNat n = v) (h : hb_R y cc nL ret d (pc + 1) ls (hb_i v :: st) w Q) : hb_R y cc nL ret d (pc) ls (hb_r t g j :: st) w Q := by
  intro p l e R s m args below meth c cells slots D cA ad Hb Z C Kz H locs lsm hH hA
  obtain ⟨p0, hp⟩ := hb_place hs hg
  have he := hb_ws_at cA ad w hp
  rw [hb_e_arr cA ad w hs (by omega)] at he
  rcases (show ty = 0 ∨ ty = 1 ∨ ty = 2 ∨ ty = 3 by omega) with rfl | rfl | rfl | rfl
  · exact va_alen C.1 C.2.1 C.2.2.2.2.2.1 hH.1 p0 0 he rfl hv hd (h p l e R s m args below meth c cells slots D cA ad Hb Z C Kz H locs lsm hH hA)
  · exact va_alen C.1 C.2.1 C.2.2.2.2.2.1 hH.1 p0 1 he rfl hv hd (h p l e R s m args below meth c cells slots D cA ad Hb Z C Kz H locs lsm hH hA)
  · exact va_alen C.1 C.2.1 C.2.2.2.2.2.1 hH.1 p0 2 he rfl hv hd (h p l e R s m args below meth c cells slots D cA ad Hb Z C Kz H locs lsm hH hA)
  · exact va_alen C.1 C.2.1 C.2.2.2.2.2.1 hH.1 p0 3 he rfl hv hd (h p l e R s m args below meth c cells slots D cA ad Hb Z C Kz H locs lsm hH hA)
theorem hb_iast {n : Nat} {i x : Int32} (hd : decode cc pc = .ok (.iastore, 1)) (hs : hb_sh t j = some (.inr (0, n))) (hg : g < hb_ct t) (hin : vp_in i n) (h : hb_R y cc nL ret d (pc + 1) ls (st) (hb_sI w t j g (upd (hb_aI w t j g) i.toNatClampNeg x)) Q) : hb_R y cc nL ret d (pc) ls (hb_i x :: hb_i i :: hb_r t g j :: st) w Q := by
  intro p l e R s m args below meth c cells slots D cA ad Hb Z C Kz H locs lsm hH hA
  obtain ⟨p0, hp⟩ := hb_place hs hg
  have he := hb_ws_at cA ad w hp
  rw [hb_e_arr cA ad w hs (by decide)] at he
  refine va_iast C.1 C.2.1 C.2.2.2.2.2.1 hH.1 (C.2.2.2.2.2.2.1 w) hH.2 p0 0 he rfl hin hd ?_
  intro H1 locs1 hP1 hD1 hS1
  refine h p l e R s m args below meth c cells slots D cA ad Hb Z C Kz H1 locs1 lsm ⟨?_, hS1⟩ hA
  have e1 := hb_e_arr cA ad (hb_sI w t j g (upd (hb_aI w t j g) i.toNatClampNeg x)) (g := g) hs (by decide)
  rw [show hb_aI (hb_sI w t j g (upd (hb_aI w t j g) i.toNatClampNeg x)) t j g = upd (hb_aI w t j g) i.toNatClampNeg x from hb_u3_s _ t j g _] at e1
  rw [← e1] at hP1
  rw [← hb_ws_set cA ad w (hb_sI w t j g (upd (hb_aI w t j g) i.toNatClampNeg x)) hp (hb_e_otherA cA ad w _ rfl rfl rfl (fun a b c z => hb_u3_n _ t j g _ z) (fun a b c _ => rfl))]
  exact hP1
theorem hb_bast {n : Nat} {i x : Int32} (hd : decode cc pc = .ok (.bastore, 1)) (hs : hb_sh t j = some (.inr (1, n))) (hg : g < hb_ct t) (hin : vp_in i n) (h : hb_R y cc nL ret d (pc + 1) ls (st) (hb_sI w t j g (upd (hb_aI w t j g) i.toNatClampNeg (vp_nar .byte x))) Q) : hb_R y cc nL ret d (pc) ls (hb_i x :: hb_i i :: hb_r t g j :: st) w Q := by
  intro p l e R s m args below meth c cells slots D cA ad Hb Z C Kz H locs lsm hH hA
  obtain ⟨p0, hp⟩ := hb_place hs hg
  have he := hb_ws_at cA ad w hp
  rw [hb_e_arr cA ad w hs (by decide)] at he
  refine va_bast C.1 C.2.1 C.2.2.2.2.2.1 hH.1 (C.2.2.2.2.2.2.1 w) hH.2 p0 1 he rfl hin hd ?_
  intro H1 locs1 hP1 hD1 hS1
  refine h p l e R s m args below meth c cells slots D cA ad Hb Z C Kz H1 locs1 lsm ⟨?_, hS1⟩ hA
  have e1 := hb_e_arr cA ad (hb_sI w t j g (upd (hb_aI w t j g) i.toNatClampNeg (vp_nar .byte x))) (g := g) hs (by decide)
  rw [show hb_aI (hb_sI w t j g (upd (hb_aI w t j g) i.toNatClampNeg (vp_nar .byte x))) t j g = upd (hb_aI w t j g) i.toNatClampNeg (vp_nar .byte x) from hb_u3_s _ t j g _] at e1
  rw [← e1] at hP1
  rw [← hb_ws_set cA ad w (hb_sI w t j g (upd (hb_aI w t j g) i.toNatClampNeg (vp_nar .byte x))) hp (hb_e_otherA cA ad w _ rfl rfl rfl (fun a b c z => hb_u3_n _ t j g _ z) (fun a b c _ => rfl))]
  exact hP1
theorem hb_cast {n : Nat} {i x : Int32} (hd : decode cc pc = .ok (.castore, 1)) (hs : hb_sh t j = some (.inr (2, n))) (hg : g < hb_ct t) (hin : vp_in i n) (h : hb_R y cc nL ret d (pc + 1) ls (st) (hb_sI w t j g (upd (hb_aI w t j g) i.toNatClampNeg (vp_nar .char x))) Q) : hb_R y cc nL ret d (pc) ls (hb_i x :: hb_i i :: hb_r t g j :: st) w Q := by
  intro p l e R s m args below meth c cells slots D cA ad Hb Z C Kz H locs lsm hH hA
  obtain ⟨p0, hp⟩ := hb_place hs hg
  have he := hb_ws_at cA ad w hp
  rw [hb_e_arr cA ad w hs (by decide)] at he
  refine va_cast C.1 C.2.1 C.2.2.2.2.2.1 hH.1 (C.2.2.2.2.2.2.1 w) hH.2 p0 2 he rfl hin hd ?_
  intro H1 locs1 hP1 hD1 hS1
  refine h p l e R s m args below meth c cells slots D cA ad Hb Z C Kz H1 locs1 lsm ⟨?_, hS1⟩ hA
  have e1 := hb_e_arr cA ad (hb_sI w t j g (upd (hb_aI w t j g) i.toNatClampNeg (vp_nar .char x))) (g := g) hs (by decide)
  rw [show hb_aI (hb_sI w t j g (upd (hb_aI w t j g) i.toNatClampNeg (vp_nar .char x))) t j g = upd (hb_aI w t j g) i.toNatClampNeg (vp_nar .char x) from hb_u3_s _ t j g _] at e1
  rw [← e1] at hP1
  rw [← hb_ws_set cA ad w (hb_sI w t j g (upd (hb_aI w t j g) i.toNatClampNeg (vp_nar .char x))) hp (hb_e_otherA cA ad w _ rfl rfl rfl (fun a b c z => hb_u3_n _ t j g _ z) (fun a b c _ => rfl))]
  exact hP1
theorem hb_zast {n : Nat} {i x : Int32} (hd : decode cc pc = .ok (.bastore, 1)) (hs : hb_sh t j = some (.inr (3, n))) (hg : g < hb_ct t) (hin : vp_in i n) (h : hb_R y cc nL ret d (pc + 1) ls (st) (hb_sI w t j g (upd (hb_aI w t j g) i.toNatClampNeg (vp_nar .boolean x))) Q) : hb_R y cc nL ret d (pc) ls (hb_i x :: hb_i i :: hb_r t g j :: st) w Q := by
  intro p l e R s m args below meth c cells slots D cA ad Hb Z C Kz H locs lsm hH hA
  obtain ⟨p0, hp⟩ := hb_place hs hg
  have he := hb_ws_at cA ad w hp
  rw [hb_e_arr cA ad w hs (by decide)] at he
  refine va_zast C.1 C.2.1 C.2.2.2.2.2.1 hH.1 (C.2.2.2.2.2.2.1 w) hH.2 p0 3 he rfl hin hd ?_
  intro H1 locs1 hP1 hD1 hS1
  refine h p l e R s m args below meth c cells slots D cA ad Hb Z C Kz H1 locs1 lsm ⟨?_, hS1⟩ hA
  have e1 := hb_e_arr cA ad (hb_sI w t j g (upd (hb_aI w t j g) i.toNatClampNeg (vp_nar .boolean x))) (g := g) hs (by decide)
  rw [show hb_aI (hb_sI w t j g (upd (hb_aI w t j g) i.toNatClampNeg (vp_nar .boolean x))) t j g = upd (hb_aI w t j g) i.toNatClampNeg (vp_nar .boolean x) from hb_u3_s _ t j g _] at e1
  rw [← e1] at hP1
  rw [← hb_ws_set cA ad w (hb_sI w t j g (upd (hb_aI w t j g) i.toNatClampNeg (vp_nar .boolean x))) hp (hb_e_otherA cA ad w _ rfl rfl rfl (fun a b c z => hb_u3_n _ t j g _ z) (fun a b c _ => rfl))]
  exact hP1
theorem hb_last {n : Nat} {i : Int32} {x : Int64} (hd : decode cc pc = .ok (.lastore, 1)) (hs : hb_sh t j = some (.inr (4, n))) (hg : g < hb_ct t) (hin : vp_in i n) (h : hb_R y cc nL ret d (pc + 1) ls (st) (hb_sL w t j g (vp_updL (hb_aL w t j g) i.toNatClampNeg x)) Q) : hb_R y cc nL ret d (pc) ls (hb_l x :: hb_i i :: hb_r t g j :: st) w Q := by
  intro p l e R s m args below meth c cells slots D cA ad Hb Z C Kz H locs lsm hH hA
  obtain ⟨p0, hp⟩ := hb_place hs hg
  have he := hb_ws_at cA ad w hp
  rw [hb_e_arL cA ad w hs] at he
  refine va_last C.1 C.2.1 C.2.2.2.2.2.1 hH.1 (C.2.2.2.2.2.2.1 w) hH.2 p0 4 he rfl hin hd ?_
  intro H1 locs1 hP1 hD1 hS1
  refine h p l e R s m args below meth c cells slots D cA ad Hb Z C Kz H1 locs1 lsm ⟨?_, hS1⟩ hA
  have e1 := hb_e_arL cA ad (hb_sL w t j g (vp_updL (hb_aL w t j g) i.toNatClampNeg x)) (g := g) hs
  rw [show hb_aL (hb_sL w t j g (vp_updL (hb_aL w t j g) i.toNatClampNeg x)) t j g = vp_updL (hb_aL w t j g) i.toNatClampNeg x from hb_u3_s _ t j g _] at e1
  rw [← e1] at hP1
  rw [← hb_ws_set cA ad w (hb_sL w t j g (vp_updL (hb_aL w t j g) i.toNatClampNeg x)) hp (hb_e_otherA cA ad w _ rfl rfl rfl (fun a b c _ => rfl) (fun a b c z => hb_u3_n _ t j g _ z))]
  exact hP1
theorem hb_getIx {x : Int32} (hd : decode cc pc = .ok (.getfield index, 3)) (hf : hb_FW y.cls index ci k) (hc : hb_CW ci) (hs : hb_sh t 0 = some (.inl ci)) (hg : g < hb_ct t) (hl : hb_lk t k = none) (hx : hb_fI w t k g = x) (h : hb_R y cc nL ret d (pc + 3) ls (hb_i x :: st) w Q) : hb_R y cc nL ret d (pc) ls (hb_r t g 0 :: st) w Q := hb_getI hd hf hc hs hg hl (by rw [hx]; exact h)
theorem hb_getLx {a b : Nat} {x : Int64} (hd : decode cc pc = .ok (.getfield index, 3)) (hf : hb_FW y.cls index ci k) (hc : hb_CW ci) (hs : hb_sh t 0 = some (.inl ci)) (hg : g < hb_ct t) (hl : hb_lk t k = some (a, b, 4)) (hx : hb_fL w t k g = x) (h : hb_R y cc nL ret d (pc + 3) ls (hb_l x :: st) w Q) : hb_R y cc nL ret d (pc) ls (hb_r t g 0 :: st) w Q := hb_getL hd hf hc hs hg hl (by rw [hx]; exact h)
theorem hb_ialdx {n : Nat} {i x : Int32} (hd : decode cc pc = .ok (.iaload, 1)) (hs : hb_sh t j = some (.inr (0, n))) (hg : g < hb_ct t) (hin : vp_in i n) (hx : hb_aI w t j g i.toNatClampNeg = x) (h : hb_R y cc nL ret d (pc + 1) ls (hb_i x :: st) w Q) : hb_R y cc nL ret d (pc) ls (hb_i i :: hb_r t g j :: st) w Q := hb_iald hd hs hg hin (by rw [hx]; exact h)
theorem hb_baldx {n : Nat} {i x : Int32} (hd : decode cc pc = .ok (.baload, 1)) (hs : hb_sh t j = some (.inr (1, n))) (hg : g < hb_ct t) (hin : vp_in i n) (hx : hb_aI w t j g i.toNatClampNeg = x) (h : hb_R y cc nL ret d (pc + 1) ls (hb_i x :: st) w Q) : hb_R y cc nL ret d (pc) ls (hb_i i :: hb_r t g j :: st) w Q := hb_bald hd hs hg hin (by rw [hx]; exact h)
theorem hb_caldx {n : Nat} {i x : Int32} (hd : decode cc pc = .ok (.caload, 1)) (hs : hb_sh t j = some (.inr (2, n))) (hg : g < hb_ct t) (hin : vp_in i n) (hx : hb_aI w t j g i.toNatClampNeg = x) (h : hb_R y cc nL ret d (pc + 1) ls (hb_i x :: st) w Q) : hb_R y cc nL ret d (pc) ls (hb_i i :: hb_r t g j :: st) w Q := hb_cald hd hs hg hin (by rw [hx]; exact h)
theorem hb_zaldx {n : Nat} {i x : Int32} (hd : decode cc pc = .ok (.baload, 1)) (hs : hb_sh t j = some (.inr (3, n))) (hg : g < hb_ct t) (hin : vp_in i n) (hx : hb_aI w t j g i.toNatClampNeg = x) (h : hb_R y cc nL ret d (pc + 1) ls (hb_i x :: st) w Q) : hb_R y cc nL ret d (pc) ls (hb_i i :: hb_r t g j :: st) w Q := hb_zald hd hs hg hin (by rw [hx]; exact h)
theorem hb_laldx {n : Nat} {i : Int32} {x : Int64} (hd : decode cc pc = .ok (.laload, 1)) (hs : hb_sh t j = some (.inr (4, n))) (hg : g < hb_ct t) (hin : vp_in i n) (hx : hb_aL w t j g i.toNatClampNeg = x) (h : hb_R y cc nL ret d (pc + 1) ls (hb_l x :: st) w Q) : hb_R y cc nL ret d (pc) ls (hb_i i :: hb_r t g j :: st) w Q := hb_lald hd hs hg hin (by rw [hx]; exact h)
theorem hb_iastx {n : Nat} {i x : Int32} {f : Nat → Int32} (hd : decode cc pc = .ok (.iastore, 1)) (hs : hb_sh t j = some (.inr (0, n))) (hg : g < hb_ct t) (hin : vp_in i n) (hx : upd (hb_aI w t j g) i.toNatClampNeg x = f) (h : hb_R y cc nL ret d (pc + 1) ls (st) (hb_sI w t j g f) Q) : hb_R y cc nL ret d (pc) ls (hb_i x :: hb_i i :: hb_r t g j :: st) w Q := hb_iast hd hs hg hin (by rw [hx]; exact h)
theorem hb_bastx {n : Nat} {i x : Int32} {f : Nat → Int32} (hd : decode cc pc = .ok (.bastore, 1)) (hs : hb_sh t j = some (.inr (1, n))) (hg : g < hb_ct t) (hin : vp_in i n) (hx : upd (hb_aI w t j g) i.toNatClampNeg (vp_nar .byte x) = f) (h : hb_R y cc nL ret d (pc + 1) ls (st) (hb_sI w t j g f) Q) : hb_R y cc nL ret d (pc) ls (hb_i x :: hb_i i :: hb_r t g j :: st) w Q := hb_bast hd hs hg hin (by rw [hx]; exact h)
theorem hb_castx {n : Nat} {i x : Int32} {f : Nat → Int32} (hd : decode cc pc = .ok (.castore, 1)) (hs : hb_sh t j = some (.inr (2, n))) (hg : g < hb_ct t) (hin : vp_in i n) (hx : upd (hb_aI w t j g) i.toNatClampNeg (vp_nar .char x) = f) (h : hb_R y cc nL ret d (pc + 1) ls (st) (hb_sI w t j g f) Q) : hb_R y cc nL ret d (pc) ls (hb_i x :: hb_i i :: hb_r t g j :: st) w Q := hb_cast hd hs hg hin (by rw [hx]; exact h)
theorem hb_zastx {n : Nat} {i x : Int32} {f : Nat → Int32} (hd : decode cc pc = .ok (.bastore, 1)) (hs : hb_sh t j = some (.inr (3, n))) (hg : g < hb_ct t) (hin : vp_in i n) (hx : upd (hb_aI w t j g) i.toNatClampNeg (vp_nar .boolean x) = f) (h : hb_R y cc nL ret d (pc + 1) ls (st) (hb_sI w t j g f) Q) : hb_R y cc nL ret d (pc) ls (hb_i x :: hb_i i :: hb_r t g j :: st) w Q := hb_zast hd hs hg hin (by rw [hx]; exact h)
theorem hb_lastx {n : Nat} {i : Int32} {x : Int64} {f : Nat → Int64} (hd : decode cc pc = .ok (.lastore, 1)) (hs : hb_sh t j = some (.inr (4, n))) (hg : g < hb_ct t) (hin : vp_in i n) (hx : vp_updL (hb_aL w t j g) i.toNatClampNeg x = f) (h : hb_R y cc nL ret d (pc + 1) ls (st) (hb_sL w t j g f) Q) : hb_R y cc nL ret d (pc) ls (hb_l x :: hb_i i :: hb_r t g j :: st) w Q := hb_last hd hs hg hin (by rw [hx]; exact h)
theorem hb_nz {v : Int32} (h : v = 0 ∨ v = 1) : narrow .boolean (.int v) = .int v := by
  rcases h with rfl | rfl <;> rfl
theorem hb_fz {v : Int32} (h : v = 0 ∨ v = 1) : fits .boolean (.int v) = true := by
  rcases h with rfl | rfl <;> rfl
end HBH
