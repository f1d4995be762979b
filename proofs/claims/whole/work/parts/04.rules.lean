section HBR
variable {y : MethodName} {cc : ByteArray} {nL : Nat} {ret : Option FieldType} {d pc : Nat} {ls ls1 : List (Option hb_V)} {st : List hb_V} {w : hb_W} {Q : Option hb_V → hb_W → Prop}
theorem hb_iconst {n : Int} {v : Int32} (hd : decode cc pc = .ok (.iconst n, 1)) (hv : Int32.ofInt n = v) (h : hb_R y cc nL ret d (pc + 1) ls (hb_i v :: st) w Q) : hb_R y cc nL ret d (pc) ls (st) w Q := by
  intro p l e R s m args below meth c cells slots D cA ad Hb Z C Kz H locs lsm hH hA
  exact lv_iconst C.1 C.2.1 hd hv (h p l e R s m args below meth c cells slots D cA ad Hb Z C Kz H locs lsm hH hA)
theorem hb_bipush {n : Int} {v : Int32} (hd : decode cc pc = .ok (.bipush n, 2)) (hv : (Int8.ofInt n).toInt32 = v) (h : hb_R y cc nL ret d (pc + 2) ls (hb_i v :: st) w Q) : hb_R y cc nL ret d (pc) ls (st) w Q := by
  intro p l e R s m args below meth c cells slots D cA ad Hb Z C Kz H locs lsm hH hA
  exact lv_bipush C.1 C.2.1 hd hv (h p l e R s m args below meth c cells slots D cA ad Hb Z C Kz H locs lsm hH hA)
theorem hb_sipush {n : Int} {v : Int32} (hd : decode cc pc = .ok (.sipush n, 3)) (hv : (Int16.ofInt n).toInt32 = v) (h : hb_R y cc nL ret d (pc + 3) ls (hb_i v :: st) w Q) : hb_R y cc nL ret d (pc) ls (st) w Q := by
  intro p l e R s m args below meth c cells slots D cA ad Hb Z C Kz H locs lsm hH hA
  exact lv_sipush C.1 C.2.1 hd hv (h p l e R s m args below meth c cells slots D cA ad Hb Z C Kz H locs lsm hH hA)
theorem hb_lconst {n : Fin 2} {v : Int64} (hd : decode cc pc = .ok (.lconst n, 1)) (hv : Int64.ofNat (n : Nat) = v) (h : hb_R y cc nL ret d (pc + 1) ls (hb_l v :: st) w Q) : hb_R y cc nL ret d (pc) ls (st) w Q := by
  intro p l e R s m args below meth c cells slots D cA ad Hb Z C Kz H locs lsm hH hA
  exact lv_lconst C.1 C.2.1 hd hv (h p l e R s m args below meth c cells slots D cA ad Hb Z C Kz H locs lsm hH hA)
theorem hb_null (hd : decode cc pc = .ok (.aconst_null, 1)) (h : hb_R y cc nL ret d (pc + 1) ls (hb_n :: st) w Q) : hb_R y cc nL ret d (pc) ls (st) w Q := by
  intro p l e R s m args below meth c cells slots D cA ad Hb Z C Kz H locs lsm hH hA
  exact lv_null C.1 C.2.1 hd (h p l e R s m args below meth c cells slots D cA ad Hb Z C Kz H locs lsm hH hA)
theorem hb_ldc {index : Nat} {v : Int32} (hd : decode cc pc = .ok (.ldc index, 2)) (hm : Cond.constant y.cls index v ∈ hb_tb) (h : hb_R y cc nL ret d (pc + 2) ls (hb_i v :: st) w Q) : hb_R y cc nL ret d (pc) ls (st) w Q := by
  intro p l e R s m args below meth c cells slots D cA ad Hb Z C Kz H locs lsm hH hA
  exact lv_ldc C.1 C.2.1 C.2.2.2.1 (C.2.2.2.2.1 _ hm) hd (h p l e R s m args below meth c cells slots D cA ad Hb Z C Kz H locs lsm hH hA)
theorem hb_ldcw {index : Nat} {v : Int32} (hd : decode cc pc = .ok (.ldc_w index, 3)) (hm : Cond.constant y.cls index v ∈ hb_tb) (h : hb_R y cc nL ret d (pc + 3) ls (hb_i v :: st) w Q) : hb_R y cc nL ret d (pc) ls (st) w Q := by
  intro p l e R s m args below meth c cells slots D cA ad Hb Z C Kz H locs lsm hH hA
  exact lv_ldcw C.1 C.2.1 C.2.2.2.1 (C.2.2.2.2.1 _ hm) hd (h p l e R s m args below meth c cells slots D cA ad Hb Z C Kz H locs lsm hH hA)
theorem hb_ldc2 {index : Nat} {v : Int64} (hd : decode cc pc = .ok (.ldc2_w index, 3)) (hm : Cond.constantLong y.cls index v ∈ hb_tb) (h : hb_R y cc nL ret d (pc + 3) ls (hb_l v :: st) w Q) : hb_R y cc nL ret d (pc) ls (st) w Q := by
  intro p l e R s m args below meth c cells slots D cA ad Hb Z C Kz H locs lsm hH hA
  exact lv_ldc2 C.1 C.2.1 C.2.2.2.1 (C.2.2.2.2.1 _ hm) hd (h p l e R s m args below meth c cells slots D cA ad Hb Z C Kz H locs lsm hH hA)
theorem hb_iload_n {k : Fin 4} {i : Nat} {x : Int32} (hd : decode cc pc = .ok (.iload_n k, 1)) (hi : (k : Nat) = i) (hl : ls[i]? = some (some (hb_i x))) (h : hb_R y cc nL ret d (pc + 1) ls (hb_i x :: st) w Q) : hb_R y cc nL ret d (pc) ls (st) w Q := by
  intro p l e R s m args below meth c cells slots D cA ad Hb Z C Kz H locs lsm hH hA
  exact lv_iload_n C.1 C.2.1 hd hi (hA.2.2 i _ hl) (h p l e R s m args below meth c cells slots D cA ad Hb Z C Kz H locs lsm hH hA)
theorem hb_iload {i : Nat} {x : Int32} (hd : decode cc pc = .ok (.iload i, 2)) (hl : ls[i]? = some (some (hb_i x))) (h : hb_R y cc nL ret d (pc + 2) ls (hb_i x :: st) w Q) : hb_R y cc nL ret d (pc) ls (st) w Q := by
  intro p l e R s m args below meth c cells slots D cA ad Hb Z C Kz H locs lsm hH hA
  exact lv_iload C.1 C.2.1 hd (hA.2.2 i _ hl) (h p l e R s m args below meth c cells slots D cA ad Hb Z C Kz H locs lsm hH hA)
theorem hb_lload_n {k : Fin 4} {i : Nat} {x : Int64} (hd : decode cc pc = .ok (.lload_n k, 1)) (hi : (k : Nat) = i) (hl : ls[i]? = some (some (hb_l x))) (h : hb_R y cc nL ret d (pc + 1) ls (hb_l x :: st) w Q) : hb_R y cc nL ret d (pc) ls (st) w Q := by
  intro p l e R s m args below meth c cells slots D cA ad Hb Z C Kz H locs lsm hH hA
  exact lv_lload_n C.1 C.2.1 hd hi (hA.2.2 i _ hl) (h p l e R s m args below meth c cells slots D cA ad Hb Z C Kz H locs lsm hH hA)
theorem hb_lload {i : Nat} {x : Int64} (hd : decode cc pc = .ok (.lload i, 2)) (hl : ls[i]? = some (some (hb_l x))) (h : hb_R y cc nL ret d (pc + 2) ls (hb_l x :: st) w Q) : hb_R y cc nL ret d (pc) ls (st) w Q := by
  intro p l e R s m args below meth c cells slots D cA ad Hb Z C Kz H locs lsm hH hA
  exact lv_lload C.1 C.2.1 hd (hA.2.2 i _ hl) (h p l e R s m args below meth c cells slots D cA ad Hb Z C Kz H locs lsm hH hA)
theorem hb_aload_n {k : Fin 4} {i t g j : Nat} (hd : decode cc pc = .ok (.aload_n k, 1)) (hi : (k : Nat) = i) (hl : ls[i]? = some (some (hb_r t g j))) (h : hb_R y cc nL ret d (pc + 1) ls (hb_r t g j :: st) w Q) : hb_R y cc nL ret d (pc) ls (st) w Q := by
  intro p l e R s m args below meth c cells slots D cA ad Hb Z C Kz H locs lsm hH hA
  exact lv_aload_n C.1 C.2.1 hd hi (hA.2.2 i _ hl) (h p l e R s m args below meth c cells slots D cA ad Hb Z C Kz H locs lsm hH hA)
theorem hb_aload {i t g j : Nat} (hd : decode cc pc = .ok (.aload i, 2)) (hl : ls[i]? = some (some (hb_r t g j))) (h : hb_R y cc nL ret d (pc + 2) ls (hb_r t g j :: st) w Q) : hb_R y cc nL ret d (pc) ls (st) w Q := by
  intro p l e R s m args below meth c cells slots D cA ad Hb Z C Kz H locs lsm hH hA
  exact lv_aload C.1 C.2.1 hd (hA.2.2 i _ hl) (h p l e R s m args below meth c cells slots D cA ad Hb Z C Kz H locs lsm hH hA)
theorem hb_aload_nN {k : Fin 4} {i : Nat} (hd : decode cc pc = .ok (.aload_n k, 1)) (hi : (k : Nat) = i) (hl : ls[i]? = some (some hb_n)) (h : hb_R y cc nL ret d (pc + 1) ls (hb_n :: st) w Q) : hb_R y cc nL ret d (pc) ls (st) w Q := by
  intro p l e R s m args below meth c cells slots D cA ad Hb Z C Kz H locs lsm hH hA
  exact lv_aload_nN C.1 C.2.1 hd hi (hA.2.2 i _ hl) (h p l e R s m args below meth c cells slots D cA ad Hb Z C Kz H locs lsm hH hA)
theorem hb_istore_n {k : Fin 4} {i : Nat} {x : Int32} (hd : decode cc pc = .ok (.istore_n k, 1)) (hi : (k : Nat) = i) (hn : i < nL) (hl : hb_s1 ls i (hb_i x) = ls1) (h : hb_R y cc nL ret d (pc + 1) ls1 (st) w Q) : hb_R y cc nL ret d (pc) ls (hb_i x :: st) w Q := by
  subst hi
  intro p l e R s m args below meth c cells slots D cA ad Hb Z C Kz H locs lsm hH hA
  show W p l e R s m args below meth c H locs cells slots Z (F0 m pc lsm (Value.int x :: st.map (hb_cv ad)))
  obtain ⟨lsm', e', h'⟩ := hA.s1 (v := hb_i x) hn rfl
  intro T hT X
  obtain ⟨t, a, b⟩ := h p l e R s m args below meth c cells slots D cA ad Hb Z C Kz H locs lsm' hH (hl ▸ h') T hT X
  refine ⟨t, ?_, b⟩
  have hx := C.1
  have hb := C.2.1
  dsimp only [hb_cv] at e'
  jvm_step X.here [X.here.top, ↓top_set X.here.top, hx, hb, hd, e']
  exact a
theorem hb_istore {i : Nat} {x : Int32} (hd : decode cc pc = .ok (.istore i, 2)) (hn : i < nL) (hl : hb_s1 ls i (hb_i x) = ls1) (h : hb_R y cc nL ret d (pc + 2) ls1 (st) w Q) : hb_R y cc nL ret d (pc) ls (hb_i x :: st) w Q := by
  intro p l e R s m args below meth c cells slots D cA ad Hb Z C Kz H locs lsm hH hA
  show W p l e R s m args below meth c H locs cells slots Z (F0 m pc lsm (Value.int x :: st.map (hb_cv ad)))
  obtain ⟨lsm', e', h'⟩ := hA.s1 (v := hb_i x) hn rfl
  intro T hT X
  obtain ⟨t, a, b⟩ := h p l e R s m args below meth c cells slots D cA ad Hb Z C Kz H locs lsm' hH (hl ▸ h') T hT X
  refine ⟨t, ?_, b⟩
  have hx := C.1
  have hb := C.2.1
  dsimp only [hb_cv] at e'
  jvm_step X.here [X.here.top, ↓top_set X.here.top, hx, hb, hd, e']
  exact a
theorem hb_lstore_n {k : Fin 4} {i : Nat} {x : Int64} (hd : decode cc pc = .ok (.lstore_n k, 1)) (hi : (k : Nat) = i) (hn : i + 1 < nL) (hl : hb_s2 ls i (hb_l x) = ls1) (h : hb_R y cc nL ret d (pc + 1) ls1 (st) w Q) : hb_R y cc nL ret d (pc) ls (hb_l x :: st) w Q := by
  subst hi
  intro p l e R s m args below meth c cells slots D cA ad Hb Z C Kz H locs lsm hH hA
  show W p l e R s m args below meth c H locs cells slots Z (F0 m pc lsm (Value.long x :: st.map (hb_cv ad)))
  obtain ⟨lsm', e', h'⟩ := hA.s2 (v := hb_l x) hn rfl
  intro T hT X
  obtain ⟨t, a, b⟩ := h p l e R s m args below meth c cells slots D cA ad Hb Z C Kz H locs lsm' hH (hl ▸ h') T hT X
  refine ⟨t, ?_, b⟩
  have hx := C.1
  have hb := C.2.1
  dsimp only [hb_cv] at e'
  jvm_step X.here [X.here.top, ↓top_set X.here.top, hx, hb, hd, e']
  exact a
theorem hb_lstore {i : Nat} {x : Int64} (hd : decode cc pc = .ok (.lstore i, 2)) (hn : i + 1 < nL) (hl : hb_s2 ls i (hb_l x) = ls1) (h : hb_R y cc nL ret d (pc + 2) ls1 (st) w Q) : hb_R y cc nL ret d (pc) ls (hb_l x :: st) w Q := by
  intro p l e R s m args below meth c cells slots D cA ad Hb Z C Kz H locs lsm hH hA
  show W p l e R s m args below meth c H locs cells slots Z (F0 m pc lsm (Value.long x :: st.map (hb_cv ad)))
  obtain ⟨lsm', e', h'⟩ := hA.s2 (v := hb_l x) hn rfl
  intro T hT X
  obtain ⟨t, a, b⟩ := h p l e R s m args below meth c cells slots D cA ad Hb Z C Kz H locs lsm' hH (hl ▸ h') T hT X
  refine ⟨t, ?_, b⟩
  have hx := C.1
  have hb := C.2.1
  dsimp only [hb_cv] at e'
  jvm_step X.here [X.here.top, ↓top_set X.here.top, hx, hb, hd, e']
  exact a
theorem hb_astore_n {k : Fin 4} {i : Nat} {t g j : Nat} (hd : decode cc pc = .ok (.astore_n k, 1)) (hi : (k : Nat) = i) (hn : i < nL) (hl : hb_s1 ls i (hb_r t g j) = ls1) (h : hb_R y cc nL ret d (pc + 1) ls1 (st) w Q) : hb_R y cc nL ret d (pc) ls (hb_r t g j :: st) w Q := by
  subst hi
  intro p l e R s m args below meth c cells slots D cA ad Hb Z C Kz H locs lsm hH hA
  show W p l e R s m args below meth c H locs cells slots Z (F0 m pc lsm (Value.ref (ad (t, g, j)) :: st.map (hb_cv ad)))
  obtain ⟨lsm', e', h'⟩ := hA.s1 (v := hb_r t g j) hn rfl
  intro T hT X
  obtain ⟨t, a, b⟩ := h p l e R s m args below meth c cells slots D cA ad Hb Z C Kz H locs lsm' hH (hl ▸ h') T hT X
  refine ⟨t, ?_, b⟩
  have hx := C.1
  have hb := C.2.1
  dsimp only [hb_cv] at e'
  jvm_step X.here [X.here.top, ↓top_set X.here.top, hx, hb, hd, e', Value.isRef]
  exact a
theorem hb_astore {i : Nat} {t g j : Nat} (hd : decode cc pc = .ok (.astore i, 2)) (hn : i < nL) (hl : hb_s1 ls i (hb_r t g j) = ls1) (h : hb_R y cc nL ret d (pc + 2) ls1 (st) w Q) : hb_R y cc nL ret d (pc) ls (hb_r t g j :: st) w Q := by
  intro p l e R s m args below meth c cells slots D cA ad Hb Z C Kz H locs lsm hH hA
  show W p l e R s m args below meth c H locs cells slots Z (F0 m pc lsm (Value.ref (ad (t, g, j)) :: st.map (hb_cv ad)))
  obtain ⟨lsm', e', h'⟩ := hA.s1 (v := hb_r t g j) hn rfl
  intro T hT X
  obtain ⟨t, a, b⟩ := h p l e R s m args below meth c cells slots D cA ad Hb Z C Kz H locs lsm' hH (hl ▸ h') T hT X
  refine ⟨t, ?_, b⟩
  have hx := C.1
  have hb := C.2.1
  dsimp only [hb_cv] at e'
  jvm_step X.here [X.here.top, ↓top_set X.here.top, hx, hb, hd, e', Value.isRef]
  exact a
theorem hb_astore_nN {k : Fin 4} {i : Nat}  (hd : decode cc pc = .ok (.astore_n k, 1)) (hi : (k : Nat) = i) (hn : i < nL) (hl : hb_s1 ls i (hb_n) = ls1) (h : hb_R y cc nL ret d (pc + 1) ls1 (st) w Q) : hb_R y cc nL ret d (pc) ls (hb_n :: st) w Q := by
  subst hi
  intro p l e R s m args below meth c cells slots D cA ad Hb Z C Kz H locs lsm hH hA
  show W p l e R s m args below meth c H locs cells slots Z (F0 m pc lsm (Value.null :: st.map (hb_cv ad)))
  obtain ⟨lsm', e', h'⟩ := hA.s1 (v := hb_n) hn rfl
  intro T hT X
  obtain ⟨t, a, b⟩ := h p l e R s m args below meth c cells slots D cA ad Hb Z C Kz H locs lsm' hH (hl ▸ h') T hT X
  refine ⟨t, ?_, b⟩
  have hx := C.1
  have hb := C.2.1
  dsimp only [hb_cv] at e'
  jvm_step X.here [X.here.top, ↓top_set X.here.top, hx, hb, hd, e', Value.isRef]
  exact a
theorem hb_astoreN {i : Nat}  (hd : decode cc pc = .ok (.astore i, 2)) (hn : i < nL) (hl : hb_s1 ls i (hb_n) = ls1) (h : hb_R y cc nL ret d (pc + 2) ls1 (st) w Q) : hb_R y cc nL ret d (pc) ls (hb_n :: st) w Q := by
  intro p l e R s m args below meth c cells slots D cA ad Hb Z C Kz H locs lsm hH hA
  show W p l e R s m args below meth c H locs cells slots Z (F0 m pc lsm (Value.null :: st.map (hb_cv ad)))
  obtain ⟨lsm', e', h'⟩ := hA.s1 (v := hb_n) hn rfl
  intro T hT X
  obtain ⟨t, a, b⟩ := h p l e R s m args below meth c cells slots D cA ad Hb Z C Kz H locs lsm' hH (hl ▸ h') T hT X
  refine ⟨t, ?_, b⟩
  have hx := C.1
  have hb := C.2.1
  dsimp only [hb_cv] at e'
  jvm_step X.here [X.here.top, ↓top_set X.here.top, hx, hb, hd, e', Value.isRef]
  exact a
theorem hb_iinc {i : Nat} {n : Int} {x v : Int32} (hd : decode cc pc = .ok (.iinc i n, 3)) (hx0 : ls[i]? = some (some (hb_i x))) (hv : x + Int32.ofInt n = v) (hn : i < nL) (hl : hb_s1 ls i (hb_i v) = ls1) (h : hb_R y cc nL ret d (pc + 3) ls1 (st) w Q) : hb_R y cc nL ret d (pc) ls (st) w Q := by
  subst hv
  intro p l e R s m args below meth c cells slots D cA ad Hb Z C Kz H locs lsm hH hA
  have hg := hA.2.2 i _ hx0
  dsimp only [hb_cv] at hg
  show W p l e R s m args below meth c H locs cells slots Z (F0 m pc lsm ( st.map (hb_cv ad)))
  obtain ⟨lsm', e', h'⟩ := hA.s1 (v := hb_i (x + Int32.ofInt n)) hn rfl
  intro T hT X
  obtain ⟨t, a, b⟩ := h p l e R s m args below meth c cells slots D cA ad Hb Z C Kz H locs lsm' hH (hl ▸ h') T hT X
  refine ⟨t, ?_, b⟩
  have hx := C.1
  have hb := C.2.1
  dsimp only [hb_cv] at e'
  jvm_step X.here [X.here.top, ↓top_set X.here.top, hx, hb, hd, e', hg]
  exact a
theorem hb_iadd {x b : Int32} (hd : decode cc pc = .ok (.iadd, 1)) (h : hb_R y cc nL ret d (pc + 1) ls (hb_i (x + b) :: st) w Q) : hb_R y cc nL ret d (pc) ls (hb_i b :: hb_i x :: st) w Q := by
  intro p l e R s m args below meth c cells slots D cA ad Hb Z C Kz H locs lsm hH hA
  exact lv_iadd C.1 C.2.1 hd (h p l e R s m args below meth c cells slots D cA ad Hb Z C Kz H locs lsm hH hA)
theorem hb_isub {x b : Int32} (hd : decode cc pc = .ok (.isub, 1)) (h : hb_R y cc nL ret d (pc + 1) ls (hb_i (x - b) :: st) w Q) : hb_R y cc nL ret d (pc) ls (hb_i b :: hb_i x :: st) w Q := by
  intro p l e R s m args below meth c cells slots D cA ad Hb Z C Kz H locs lsm hH hA
  exact lv_isub C.1 C.2.1 hd (h p l e R s m args below meth c cells slots D cA ad Hb Z C Kz H locs lsm hH hA)
theorem hb_imul {x b : Int32} (hd : decode cc pc = .ok (.imul, 1)) (h : hb_R y cc nL ret d (pc + 1) ls (hb_i (x * b) :: st) w Q) : hb_R y cc nL ret d (pc) ls (hb_i b :: hb_i x :: st) w Q := by
  intro p l e R s m args below meth c cells slots D cA ad Hb Z C Kz H locs lsm hH hA
  exact lv_imul C.1 C.2.1 hd (h p l e R s m args below meth c cells slots D cA ad Hb Z C Kz H locs lsm hH hA)
theorem hb_iand {x b : Int32} (hd : decode cc pc = .ok (.iand, 1)) (h : hb_R y cc nL ret d (pc + 1) ls (hb_i (x &&& b) :: st) w Q) : hb_R y cc nL ret d (pc) ls (hb_i b :: hb_i x :: st) w Q := by
  intro p l e R s m args below meth c cells slots D cA ad Hb Z C Kz H locs lsm hH hA
  exact lv_iand C.1 C.2.1 hd (h p l e R s m args below meth c cells slots D cA ad Hb Z C Kz H locs lsm hH hA)
theorem hb_ior {x b : Int32} (hd : decode cc pc = .ok (.ior, 1)) (h : hb_R y cc nL ret d (pc + 1) ls (hb_i (x ||| b) :: st) w Q) : hb_R y cc nL ret d (pc) ls (hb_i b :: hb_i x :: st) w Q := by
  intro p l e R s m args below meth c cells slots D cA ad Hb Z C Kz H locs lsm hH hA
  exact lv_ior C.1 C.2.1 hd (h p l e R s m args below meth c cells slots D cA ad Hb Z C Kz H locs lsm hH hA)
theorem hb_ixor {x b : Int32} (hd : decode cc pc = .ok (.ixor, 1)) (h : hb_R y cc nL ret d (pc + 1) ls (hb_i (x ^^^ b) :: st) w Q) : hb_R y cc nL ret d (pc) ls (hb_i b :: hb_i x :: st) w Q := by
  intro p l e R s m args below meth c cells slots D cA ad Hb Z C Kz H locs lsm hH hA
  exact lv_ixor C.1 C.2.1 hd (h p l e R s m args below meth c cells slots D cA ad Hb Z C Kz H locs lsm hH hA)
theorem hb_ishl {x b : Int32} (hd : decode cc pc = .ok (.ishl, 1)) (h : hb_R y cc nL ret d (pc + 1) ls (hb_i (x <<< (b &&& 31)) :: st) w Q) : hb_R y cc nL ret d (pc) ls (hb_i b :: hb_i x :: st) w Q := by
  intro p l e R s m args below meth c cells slots D cA ad Hb Z C Kz H locs lsm hH hA
  exact lv_ishl C.1 C.2.1 hd (h p l e R s m args below meth c cells slots D cA ad Hb Z C Kz H locs lsm hH hA)
theorem hb_ishr {x b : Int32} (hd : decode cc pc = .ok (.ishr, 1)) (h : hb_R y cc nL ret d (pc + 1) ls (hb_i (x >>> (b &&& 31)) :: st) w Q) : hb_R y cc nL ret d (pc) ls (hb_i b :: hb_i x :: st) w Q := by
  intro p l e R s m args below meth c cells slots D cA ad Hb Z C Kz H locs lsm hH hA
  exact lv_ishr C.1 C.2.1 hd (h p l e R s m args below meth c cells slots D cA ad Hb Z C Kz H locs lsm hH hA)
theorem hb_iushr {x b : Int32} (hd : decode cc pc = .ok (.iushr, 1)) (h : hb_R y cc nL ret d (pc + 1) ls (hb_i ((x.toUInt32 >>> (b.toUInt32 &&& Int32.toUInt32 31)).toInt32) :: st) w Q) : hb_R y cc nL ret d (pc) ls (hb_i b :: hb_i x :: st) w Q := by
  intro p l e R s m args below meth c cells slots D cA ad Hb Z C Kz H locs lsm hH hA
  exact lv_iushr C.1 C.2.1 hd rfl (h p l e R s m args below meth c cells slots D cA ad Hb Z C Kz H locs lsm hH hA)
theorem hb_idiv {x b : Int32} (hd : decode cc pc = .ok (.idiv, 1)) (hz : ¬ b = 0) (h : hb_R y cc nL ret d (pc + 1) ls (hb_i (x / b) :: st) w Q) : hb_R y cc nL ret d (pc) ls (hb_i b :: hb_i x :: st) w Q := by
  intro p l e R s m args below meth c cells slots D cA ad Hb Z C Kz H locs lsm hH hA
  exact lv_idiv C.1 C.2.1 hd hz (h p l e R s m args below meth c cells slots D cA ad Hb Z C Kz H locs lsm hH hA)
theorem hb_irem {x b : Int32} (hd : decode cc pc = .ok (.irem, 1)) (hz : ¬ b = 0) (h : hb_R y cc nL ret d (pc + 1) ls (hb_i (x - x / b * b) :: st) w Q) : hb_R y cc nL ret d (pc) ls (hb_i b :: hb_i x :: st) w Q := by
  intro p l e R s m args below meth c cells slots D cA ad Hb Z C Kz H locs lsm hH hA
  exact lv_irem C.1 C.2.1 hd hz (h p l e R s m args below meth c cells slots D cA ad Hb Z C Kz H locs lsm hH hA)
theorem hb_ineg {x : Int32} (hd : decode cc pc = .ok (.ineg, 1)) (h : hb_R y cc nL ret d (pc + 1) ls (hb_i (-x) :: st) w Q) : hb_R y cc nL ret d (pc) ls (hb_i x :: st) w Q := by
  intro p l e R s m args below meth c cells slots D cA ad Hb Z C Kz H locs lsm hH hA
  exact lv_ineg C.1 C.2.1 hd (h p l e R s m args below meth c cells slots D cA ad Hb Z C Kz H locs lsm hH hA)
theorem hb_ladd {x b : Int64} (hd : decode cc pc = .ok (.ladd, 1)) (h : hb_R y cc nL ret d (pc + 1) ls (hb_l (x + b) :: st) w Q) : hb_R y cc nL ret d (pc) ls (hb_l b :: hb_l x :: st) w Q := by
  intro p l e R s m args below meth c cells slots D cA ad Hb Z C Kz H locs lsm hH hA
  exact lv_ladd C.1 C.2.1 hd (h p l e R s m args below meth c cells slots D cA ad Hb Z C Kz H locs lsm hH hA)
theorem hb_lsub {x b : Int64} (hd : decode cc pc = .ok (.lsub, 1)) (h : hb_R y cc nL ret d (pc + 1) ls (hb_l (x - b) :: st) w Q) : hb_R y cc nL ret d (pc) ls (hb_l b :: hb_l x :: st) w Q := by
  intro p l e R s m args below meth c cells slots D cA ad Hb Z C Kz H locs lsm hH hA
  exact lv_lsub C.1 C.2.1 hd (h p l e R s m args below meth c cells slots D cA ad Hb Z C Kz H locs lsm hH hA)
theorem hb_lmul {x b : Int64} (hd : decode cc pc = .ok (.lmul, 1)) (h : hb_R y cc nL ret d (pc + 1) ls (hb_l (x * b) :: st) w Q) : hb_R y cc nL ret d (pc) ls (hb_l b :: hb_l x :: st) w Q := by
  intro p l e R s m args below meth c cells slots D cA ad Hb Z C Kz H locs lsm hH hA
  exact lv_lmul C.1 C.2.1 hd (h p l e R s m args below meth c cells slots D cA ad Hb Z C Kz H locs lsm hH hA)
theorem hb_land {x b : Int64} (hd : decode cc pc = .ok (.land, 1)) (h : hb_R y cc nL ret d (pc + 1) ls (hb_l (x &&& b) :: st) w Q) : hb_R y cc nL ret d (pc) ls (hb_l b :: hb_l x :: st) w Q := by
  intro p l e R s m args below meth c cells slots D cA ad Hb Z C Kz H locs lsm hH hA
  exact lv_land C.1 C.2.1 hd (h p l e R s m args below meth c cells slots D cA ad Hb Z C Kz H locs lsm hH hA)
theorem hb_ldiv {x b : Int64} (hd : decode cc pc = .ok (.ldiv, 1)) (hz : ¬ b = 0) (h : hb_R y cc nL ret d (pc + 1) ls (hb_l (x / b) :: st) w Q) : hb_R y cc nL ret d (pc) ls (hb_l b :: hb_l x :: st) w Q := by
  intro p l e R s m args below meth c cells slots D cA ad Hb Z C Kz H locs lsm hH hA
  exact lv_ldiv C.1 C.2.1 hd hz (h p l e R s m args below meth c cells slots D cA ad Hb Z C Kz H locs lsm hH hA)
theorem hb_lrem {x b : Int64} (hd : decode cc pc = .ok (.lrem, 1)) (hz : ¬ b = 0) (h : hb_R y cc nL ret d (pc + 1) ls (hb_l (x - x / b * b) :: st) w Q) : hb_R y cc nL ret d (pc) ls (hb_l b :: hb_l x :: st) w Q := by
  intro p l e R s m args below meth c cells slots D cA ad Hb Z C Kz H locs lsm hH hA
  exact lv_lrem C.1 C.2.1 hd hz (h p l e R s m args below meth c cells slots D cA ad Hb Z C Kz H locs lsm hH hA)
theorem hb_lcmp {x b : Int64} (hd : decode cc pc = .ok (.lcmp, 1)) (h : hb_R y cc nL ret d (pc + 1) ls (hb_i (lg_cmp x b) :: st) w Q) : hb_R y cc nL ret d (pc) ls (hb_l b :: hb_l x :: st) w Q := by
  intro p l e R s m args below meth c cells slots D cA ad Hb Z C Kz H locs lsm hH hA
  exact W.lcmp C.1 C.2.1 hd (h p l e R s m args below meth c cells slots D cA ad Hb Z C Kz H locs lsm hH hA)
theorem hb_i2l {x : Int32} (hd : decode cc pc = .ok (.i2l, 1)) (h : hb_R y cc nL ret d (pc + 1) ls (hb_l x.toInt64 :: st) w Q) : hb_R y cc nL ret d (pc) ls (hb_i x :: st) w Q := by
  intro p l e R s m args below meth c cells slots D cA ad Hb Z C Kz H locs lsm hH hA
  exact lv_i2l C.1 C.2.1 hd rfl (h p l e R s m args below meth c cells slots D cA ad Hb Z C Kz H locs lsm hH hA)
theorem hb_l2i {x : Int64} (hd : decode cc pc = .ok (.l2i, 1)) (h : hb_R y cc nL ret d (pc + 1) ls (hb_i x.toInt32 :: st) w Q) : hb_R y cc nL ret d (pc) ls (hb_l x :: st) w Q := by
  intro p l e R s m args below meth c cells slots D cA ad Hb Z C Kz H locs lsm hH hA
  exact lv_l2i C.1 C.2.1 hd rfl (h p l e R s m args below meth c cells slots D cA ad Hb Z C Kz H locs lsm hH hA)
theorem hb_i2b {x : Int32} (hd : decode cc pc = .ok (.i2b, 1)) (h : hb_R y cc nL ret d (pc + 1) ls (hb_i x.toInt8.toInt32 :: st) w Q) : hb_R y cc nL ret d (pc) ls (hb_i x :: st) w Q := by
  intro p l e R s m args below meth c cells slots D cA ad Hb Z C Kz H locs lsm hH hA
  exact lv_i2b C.1 C.2.1 hd rfl (h p l e R s m args below meth c cells slots D cA ad Hb Z C Kz H locs lsm hH hA)
theorem hb_dupi {x : Int32} (hd : decode cc pc = .ok (.dup, 1)) (h : hb_R y cc nL ret d (pc + 1) ls (hb_i x :: hb_i x :: st) w Q) : hb_R y cc nL ret d (pc) ls (hb_i x :: st) w Q := by
  intro p l e R s m args below meth c cells slots D cA ad Hb Z C Kz H locs lsm hH hA
  exact lv_dup C.1 C.2.1 hd rfl (h p l e R s m args below meth c cells slots D cA ad Hb Z C Kz H locs lsm hH hA)
theorem hb_dupr {t g j : Nat} (hd : decode cc pc = .ok (.dup, 1)) (h : hb_R y cc nL ret d (pc + 1) ls (hb_r t g j :: hb_r t g j :: st) w Q) : hb_R y cc nL ret d (pc) ls (hb_r t g j :: st) w Q := by
  intro p l e R s m args below meth c cells slots D cA ad Hb Z C Kz H locs lsm hH hA
  exact lv_dup C.1 C.2.1 hd rfl (h p l e R s m args below meth c cells slots D cA ad Hb Z C Kz H locs lsm hH hA)
theorem hb_pop {x : Int32} (hd : decode cc pc = .ok (.pop, 1)) (h : hb_R y cc nL ret d (pc + 1) ls (st) w Q) : hb_R y cc nL ret d (pc) ls (hb_i x :: st) w Q := by
  intro p l e R s m args below meth c cells slots D cA ad Hb Z C Kz H locs lsm hH hA
  exact lv_pop C.1 C.2.1 hd rfl (h p l e R s m args below meth c cells slots D cA ad Hb Z C Kz H locs lsm hH hA)
theorem hb_dup2ir {x : Int32} {t g j : Nat} (hd : decode cc pc = .ok (.dup2, 1)) (h : hb_R y cc nL ret d (pc + 1) ls (hb_i x :: hb_r t g j :: hb_i x :: hb_r t g j :: st) w Q) : hb_R y cc nL ret d (pc) ls (hb_i x :: hb_r t g j :: st) w Q := by
  intro p l e R s m args below meth c cells slots D cA ad Hb Z C Kz H locs lsm hH hA
  exact lv_dup2_11 C.1 C.2.1 hd rfl rfl (h p l e R s m args below meth c cells slots D cA ad Hb Z C Kz H locs lsm hH hA)
theorem hb_dup_x1ii {x b : Int32} (hd : decode cc pc = .ok (.dup_x1, 1)) (h : hb_R y cc nL ret d (pc + 1) ls (hb_i x :: hb_i b :: hb_i x :: st) w Q) : hb_R y cc nL ret d (pc) ls (hb_i x :: hb_i b :: st) w Q := by
  intro p l e R s m args below meth c cells slots D cA ad Hb Z C Kz H locs lsm hH hA
  exact lv_dup_x1 C.1 C.2.1 hd rfl rfl (h p l e R s m args below meth c cells slots D cA ad Hb Z C Kz H locs lsm hH hA)
theorem hb_dup_x1ir {x : Int32} {t g j : Nat} (hd : decode cc pc = .ok (.dup_x1, 1)) (h : hb_R y cc nL ret d (pc + 1) ls (hb_i x :: hb_r t g j :: hb_i x :: st) w Q) : hb_R y cc nL ret d (pc) ls (hb_i x :: hb_r t g j :: st) w Q := by
  intro p l e R s m args below meth c cells slots D cA ad Hb Z C Kz H locs lsm hH hA
  exact lv_dup_x1 C.1 C.2.1 hd rfl rfl (h p l e R s m args below meth c cells slots D cA ad Hb Z C Kz H locs lsm hH hA)
theorem hb_if_eq {x : Int32} {off : Int} {tgt : Nat} (hd : decode cc pc = .ok (.ifCond .eq off, 3)) (ht : (pc : Int) + off = (tgt : Int)) (kt : x = 0 → hb_R y cc nL ret d (tgt) ls (st) w Q) (kf : ¬ x = 0 → hb_R y cc nL ret d (pc + 3) ls (st) w Q) : hb_R y cc nL ret d (pc) ls (hb_i x :: st) w Q := by
  intro p l e R s m args below meth c cells slots D cA ad Hb Z C Kz H locs lsm hH hA
  exact lv_if_eq C.1 C.2.1 hd ht (fun q => kt q p l e R s m args below meth c cells slots D cA ad Hb Z C Kz H locs lsm hH hA) (fun q => kf q p l e R s m args below meth c cells slots D cA ad Hb Z C Kz H locs lsm hH hA)
theorem hb_icmp_eq {x b : Int32} {off : Int} {tgt : Nat} (hd : decode cc pc = .ok (.if_icmp .eq off, 3)) (ht : (pc : Int) + off = (tgt : Int)) (kt : x = b → hb_R y cc nL ret d (tgt) ls (st) w Q) (kf : ¬ x = b → hb_R y cc nL ret d (pc + 3) ls (st) w Q) : hb_R y cc nL ret d (pc) ls (hb_i b :: hb_i x :: st) w Q := by
  intro p l e R s m args below meth c cells slots D cA ad Hb Z C Kz H locs lsm hH hA
  exact lv_icmp_eq C.1 C.2.1 hd ht (fun q => kt q p l e R s m args below meth c cells slots D cA ad Hb Z C Kz H locs lsm hH hA) (fun q => kf q p l e R s m args below meth c cells slots D cA ad Hb Z C Kz H locs lsm hH hA)
theorem hb_if_ne {x : Int32} {off : Int} {tgt : Nat} (hd : decode cc pc = .ok (.ifCond .ne off, 3)) (ht : (pc : Int) + off = (tgt : Int)) (kt : ¬ x = 0 → hb_R y cc nL ret d (tgt) ls (st) w Q) (kf : x = 0 → hb_R y cc nL ret d (pc + 3) ls (st) w Q) : hb_R y cc nL ret d (pc) ls (hb_i x :: st) w Q := by
  intro p l e R s m args below meth c cells slots D cA ad Hb Z C Kz H locs lsm hH hA
  exact lv_if_ne C.1 C.2.1 hd ht (fun q => kt q p l e R s m args below meth c cells slots D cA ad Hb Z C Kz H locs lsm hH hA) (fun q => kf q p l e R s m args below meth c cells slots D cA ad Hb Z C Kz H locs lsm hH hA)
theorem hb_icmp_ne {x b : Int32} {off : Int} {tgt : Nat} (hd : decode cc pc = .ok (.if_icmp .ne off, 3)) (ht : (pc : Int) + off = (tgt : Int)) (kt : ¬ x = b → hb_R y cc nL ret d (tgt) ls (st) w Q) (kf : x = b → hb_R y cc nL ret d (pc + 3) ls (st) w Q) : hb_R y cc nL ret d (pc) ls (hb_i b :: hb_i x :: st) w Q := by
  intro p l e R s m args below meth c cells slots D cA ad Hb Z C Kz H locs lsm hH hA
  exact lv_icmp_ne C.1 C.2.1 hd ht (fun q => kt q p l e R s m args below meth c cells slots D cA ad Hb Z C Kz H locs lsm hH hA) (fun q => kf q p l e R s m args below meth c cells slots D cA ad Hb Z C Kz H locs lsm hH hA)
theorem hb_if_lt {x : Int32} {off : Int} {tgt : Nat} (hd : decode cc pc = .ok (.ifCond .lt off, 3)) (ht : (pc : Int) + off = (tgt : Int)) (kt : x < 0 → hb_R y cc nL ret d (tgt) ls (st) w Q) (kf : ¬ x < 0 → hb_R y cc nL ret d (pc + 3) ls (st) w Q) : hb_R y cc nL ret d (pc) ls (hb_i x :: st) w Q := by
  intro p l e R s m args below meth c cells slots D cA ad Hb Z C Kz H locs lsm hH hA
  exact lv_if_lt C.1 C.2.1 hd ht (fun q => kt q p l e R s m args below meth c cells slots D cA ad Hb Z C Kz H locs lsm hH hA) (fun q => kf q p l e R s m args below meth c cells slots D cA ad Hb Z C Kz H locs lsm hH hA)
theorem hb_icmp_lt {x b : Int32} {off : Int} {tgt : Nat} (hd : decode cc pc = .ok (.if_icmp .lt off, 3)) (ht : (pc : Int) + off = (tgt : Int)) (kt : x < b → hb_R y cc nL ret d (tgt) ls (st) w Q) (kf : ¬ x < b → hb_R y cc nL ret d (pc + 3) ls (st) w Q) : hb_R y cc nL ret d (pc) ls (hb_i b :: hb_i x :: st) w Q := by
  intro p l e R s m args below meth c cells slots D cA ad Hb Z C Kz H locs lsm hH hA
  exact lv_icmp_lt C.1 C.2.1 hd ht (fun q => kt q p l e R s m args below meth c cells slots D cA ad Hb Z C Kz H locs lsm hH hA) (fun q => kf q p l e R s m args below meth c cells slots D cA ad Hb Z C Kz H locs lsm hH hA)
theorem hb_if_ge {x : Int32} {off : Int} {tgt : Nat} (hd : decode cc pc = .ok (.ifCond .ge off, 3)) (ht : (pc : Int) + off = (tgt : Int)) (kt : 0 ≤ x → hb_R y cc nL ret d (tgt) ls (st) w Q) (kf : ¬ 0 ≤ x → hb_R y cc nL ret d (pc + 3) ls (st) w Q) : hb_R y cc nL ret d (pc) ls (hb_i x :: st) w Q := by
  intro p l e R s m args below meth c cells slots D cA ad Hb Z C Kz H locs lsm hH hA
  exact lv_if_ge C.1 C.2.1 hd ht (fun q => kt q p l e R s m args below meth c cells slots D cA ad Hb Z C Kz H locs lsm hH hA) (fun q => kf q p l e R s m args below meth c cells slots D cA ad Hb Z C Kz H locs lsm hH hA)
theorem hb_icmp_ge {x b : Int32} {off : Int} {tgt : Nat} (hd : decode cc pc = .ok (.if_icmp .ge off, 3)) (ht : (pc : Int) + off = (tgt : Int)) (kt : b ≤ x → hb_R y cc nL ret d (tgt) ls (st) w Q) (kf : ¬ b ≤ x → hb_R y cc nL ret d (pc + 3) ls (st) w Q) : hb_R y cc nL ret d (pc) ls (hb_i b :: hb_i x :: st) w Q := by
  intro p l e R s m args below meth c cells slots D cA ad Hb Z C Kz H locs lsm hH hA
  exact lv_icmp_ge C.1 C.2.1 hd ht (fun q => kt q p l e R s m args below meth c cells slots D cA ad Hb Z C Kz H locs lsm hH hA) (fun q => kf q p l e R s m args below meth c cells slots D cA ad Hb Z C Kz H locs lsm hH hA)
theorem hb_if_gt {x : Int32} {off : Int} {tgt : Nat} (hd : decode cc pc = .ok (.ifCond .gt off, 3)) (ht : (pc : Int) + off = (tgt : Int)) (kt : 0 < x → hb_R y cc nL ret d (tgt) ls (st) w Q) (kf : ¬ 0 < x → hb_R y cc nL ret d (pc + 3) ls (st) w Q) : hb_R y cc nL ret d (pc) ls (hb_i x :: st) w Q := by
  intro p l e R s m args below meth c cells slots D cA ad Hb Z C Kz H locs lsm hH hA
  exact lv_if_gt C.1 C.2.1 hd ht (fun q => kt q p l e R s m args below meth c cells slots D cA ad Hb Z C Kz H locs lsm hH hA) (fun q => kf q p l e R s m args below meth c cells slots D cA ad Hb Z C Kz H locs lsm hH hA)
theorem hb_icmp_gt {x b : Int32} {off : Int} {tgt : Nat} (hd : decode cc pc = .ok (.if_icmp .gt off, 3)) (ht : (pc : Int) + off = (tgt : Int)) (kt : b < x → hb_R y cc nL ret d (tgt) ls (st) w Q) (kf : ¬ b < x → hb_R y cc nL ret d (pc + 3) ls (st) w Q) : hb_R y cc nL ret d (pc) ls (hb_i b :: hb_i x :: st) w Q := by
  intro p l e R s m args below meth c cells slots D cA ad Hb Z C Kz H locs lsm hH hA
  exact lv_icmp_gt C.1 C.2.1 hd ht (fun q => kt q p l e R s m args below meth c cells slots D cA ad Hb Z C Kz H locs lsm hH hA) (fun q => kf q p l e R s m args below meth c cells slots D cA ad Hb Z C Kz H locs lsm hH hA)
theorem hb_if_le {x : Int32} {off : Int} {tgt : Nat} (hd : decode cc pc = .ok (.ifCond .le off, 3)) (ht : (pc : Int) + off = (tgt : Int)) (kt : x ≤ 0 → hb_R y cc nL ret d (tgt) ls (st) w Q) (kf : ¬ x ≤ 0 → hb_R y cc nL ret d (pc + 3) ls (st) w Q) : hb_R y cc nL ret d (pc) ls (hb_i x :: st) w Q := by
  intro p l e R s m args below meth c cells slots D cA ad Hb Z C Kz H locs lsm hH hA
  exact lv_if_le C.1 C.2.1 hd ht (fun q => kt q p l e R s m args below meth c cells slots D cA ad Hb Z C Kz H locs lsm hH hA) (fun q => kf q p l e R s m args below meth c cells slots D cA ad Hb Z C Kz H locs lsm hH hA)
theorem hb_icmp_le {x b : Int32} {off : Int} {tgt : Nat} (hd : decode cc pc = .ok (.if_icmp .le off, 3)) (ht : (pc : Int) + off = (tgt : Int)) (kt : x ≤ b → hb_R y cc nL ret d (tgt) ls (st) w Q) (kf : ¬ x ≤ b → hb_R y cc nL ret d (pc + 3) ls (st) w Q) : hb_R y cc nL ret d (pc) ls (hb_i b :: hb_i x :: st) w Q := by
  intro p l e R s m args below meth c cells slots D cA ad Hb Z C Kz H locs lsm hH hA
  exact lv_icmp_le C.1 C.2.1 hd ht (fun q => kt q p l e R s m args below meth c cells slots D cA ad Hb Z C Kz H locs lsm hH hA) (fun q => kf q p l e R s m args below meth c cells slots D cA ad Hb Z C Kz H locs lsm hH hA)
theorem hb_goto {off : Int} {tgt : Nat} (hd : decode cc pc = .ok (.goto off, 3)) (ht : (pc : Int) + off = (tgt : Int)) (h : hb_R y cc nL ret d (tgt) ls (st) w Q) : hb_R y cc nL ret d (pc) ls (st) w Q := by
  intro p l e R s m args below meth c cells slots D cA ad Hb Z C Kz H locs lsm hH hA
  exact lv_goto C.1 C.2.1 hd ht (h p l e R s m args below meth c cells slots D cA ad Hb Z C Kz H locs lsm hH hA)
theorem hb_ifnull {off : Int} {t g j : Nat} (hd : decode cc pc = .ok (.ifnull off, 3)) (h : hb_R y cc nL ret d (pc + 3) ls (st) w Q) : hb_R y cc nL ret d (pc) ls (hb_r t g j :: st) w Q := by
  intro p l e R s m args below meth c cells slots D cA ad Hb Z C Kz H locs lsm hH hA
  exact lv_ifnull C.1 C.2.1 hd (h p l e R s m args below meth c cells slots D cA ad Hb Z C Kz H locs lsm hH hA)
theorem hb_ifnullN {off : Int} {tgt : Nat} (hd : decode cc pc = .ok (.ifnull off, 3)) (ht : (pc : Int) + off = (tgt : Int)) (h : hb_R y cc nL ret d (tgt) ls (st) w Q) : hb_R y cc nL ret d (pc) ls (hb_n :: st) w Q := by
  intro p l e R s m args below meth c cells slots D cA ad Hb Z C Kz H locs lsm hH hA
  exact lv_ifnullN C.1 C.2.1 hd ht (h p l e R s m args below meth c cells slots D cA ad Hb Z C Kz H locs lsm hH hA)
theorem hb_ifnonnull {off : Int} {tgt t g j : Nat} (hd : decode cc pc = .ok (.ifnonnull off, 3)) (ht : (pc : Int) + off = (tgt : Int)) (h : hb_R y cc nL ret d (tgt) ls (st) w Q) : hb_R y cc nL ret d (pc) ls (hb_r t g j :: st) w Q := by
  intro p l e R s m args below meth c cells slots D cA ad Hb Z C Kz H locs lsm hH hA
  exact lv_ifnonnull C.1 C.2.1 hd ht (h p l e R s m args below meth c cells slots D cA ad Hb Z C Kz H locs lsm hH hA)
theorem hb_ifnonnullN {off : Int} (hd : decode cc pc = .ok (.ifnonnull off, 3)) (h : hb_R y cc nL ret d (pc + 3) ls (st) w Q) : hb_R y cc nL ret d (pc) ls (hb_n :: st) w Q := by
  intro p l e R s m args below meth c cells slots D cA ad Hb Z C Kz H locs lsm hH hA
  exact lv_ifnonnullN C.1 C.2.1 hd (h p l e R s m args below meth c cells slots D cA ad Hb Z C Kz H locs lsm hH hA)
theorem hb_tabOut {dflt lo hi : Int} {offs : Array Int} {len tgt : Nat} {x : Int32} (hd : decode cc pc = .ok (.tableswitch dflt lo hi offs, len)) (hx : x.toInt < lo ∨ hi < x.toInt) (ht : (pc : Int) + dflt = (tgt : Int)) (h : hb_R y cc nL ret d (tgt) ls (st) w Q) : hb_R y cc nL ret d (pc) ls (hb_i x :: st) w Q := by
  intro p l e R s m args below meth c cells slots D cA ad Hb Z C Kz H locs lsm hH hA
  exact lv_tableOut C.1 C.2.1 hd hx ht (h p l e R s m args below meth c cells slots D cA ad Hb Z C Kz H locs lsm hH hA)
theorem hb_tabIn {dflt lo hi off : Int} {offs : Array Int} {len tgt : Nat} {x : Int32} (hd : decode cc pc = .ok (.tableswitch dflt lo hi offs, len)) (h1 : ¬ x.toInt < lo) (h2 : ¬ hi < x.toInt) (ho : offs[(x.toInt - lo).toNat]? = some off) (ht : (pc : Int) + off = (tgt : Int)) (h : hb_R y cc nL ret d (tgt) ls (st) w Q) : hb_R y cc nL ret d (pc) ls (hb_i x :: st) w Q := by
  intro p l e R s m args below meth c cells slots D cA ad Hb Z C Kz H locs lsm hH hA
  exact lv_tableIn C.1 C.2.1 hd h1 h2 ho ht (h p l e R s m args below meth c cells slots D cA ad Hb Z C Kz H locs lsm hH hA)
theorem hb_look {dflt off : Int} {ps : Array (Int × Int)} {len tgt : Nat} {x : Int32} (hd : decode cc pc = .ok (.lookupswitch dflt ps, len)) (hp : (ps.toList.zip (ps.toList.drop 1)).all (fun (a, next) => a.1 < next.1) = true) (ho : Op.lookupswitch.offset ps.toList dflt x.toInt = off) (ht : (pc : Int) + off = (tgt : Int)) (h : hb_R y cc nL ret d (tgt) ls (st) w Q) : hb_R y cc nL ret d (pc) ls (hb_i x :: st) w Q := by
  intro p l e R s m args below meth c cells slots D cA ad Hb Z C Kz H locs lsm hH hA
  exact lv_lookup C.1 C.2.1 hd hp ho ht (h p l e R s m args below meth c cells slots D cA ad Hb Z C Kz H locs lsm hH hA)
theorem hb_iret {x : Int32} (hd : decode cc pc = .ok (.ireturn, 1)) (hr : ret = some .int) (h : Q (some (hb_i x)) w) : hb_R y cc nL ret d (pc) ls ([hb_i x]) w Q := by
  intro p l e R s m args below meth c cells slots D cA ad Hb Z C Kz H locs lsm hH hA
  exact Kz (some (hb_i x)) w H locs pc lsm _ h hH ⟨hd, rfl, Or.inl hr⟩
theorem hb_zret {x : Int32} (hd : decode cc pc = .ok (.ireturn, 1)) (hr : ret = some .boolean) (hv : x = 0 ∨ x = 1) (h : Q (some (hb_i x)) w) : hb_R y cc nL ret d (pc) ls ([hb_i x]) w Q := by
  intro p l e R s m args below meth c cells slots D cA ad Hb Z C Kz H locs lsm hH hA
  exact Kz (some (hb_i x)) w H locs pc lsm _ h hH ⟨hd, rfl, Or.inr ⟨hr, hv⟩⟩
theorem hb_lret {x : Int64} (hd : decode cc pc = .ok (.lreturn, 1)) (hr : ret = some .long) (h : Q (some (hb_l x)) w) : hb_R y cc nL ret d (pc) ls ([hb_l x]) w Q := by
  intro p l e R s m args below meth c cells slots D cA ad Hb Z C Kz H locs lsm hH hA
  exact Kz (some (hb_l x)) w H locs pc lsm _ h hH ⟨hd, rfl, hr⟩
theorem hb_aret {t g j : Nat} {n : String} (hd : decode cc pc = .ok (.areturn, 1)) (hr : ret = some (.object n)) (h : Q (some (hb_r t g j)) w) : hb_R y cc nL ret d (pc) ls ([hb_r t g j]) w Q := by
  intro p l e R s m args below meth c cells slots D cA ad Hb Z C Kz H locs lsm hH hA
  exact Kz (some (hb_r t g j)) w H locs pc lsm _ h hH ⟨hd, rfl, n, hr⟩
theorem hb_aretN {n : String} (hd : decode cc pc = .ok (.areturn, 1)) (hr : ret = some (.object n)) (h : Q (some hb_n) w) : hb_R y cc nL ret d (pc) ls ([hb_n]) w Q := by
  intro p l e R s m args below meth c cells slots D cA ad Hb Z C Kz H locs lsm hH hA
  exact Kz (some hb_n) w H locs pc lsm _ h hH ⟨hd, rfl, n, hr⟩
theorem hb_vret (hd : decode cc pc = .ok (.return_, 1)) (hr : ret = none) (h : Q (none) w) : hb_R y cc nL ret d (pc) ls ([]) w Q := by
  intro p l e R s m args below meth c cells slots D cA ad Hb Z C Kz H locs lsm hH hA
  exact Kz (none) w H locs pc lsm _ h hH ⟨hd, rfl, hr⟩
theorem hb_mono {Q1 : Option hb_V → hb_W → Prop} (h : hb_R y cc nL ret d pc ls st w Q1) (hq : ∀ rv w1, Q1 rv w1 → Q rv w1) : hb_R y cc nL ret d pc ls st w Q := by
  intro p l e R s m args below meth c cells slots D cA ad Hb Z C Kz H locs lsm hH hA
  exact h p l e R s m args below meth c cells slots D cA ad Hb Z C (fun rv w1 H1 locs1 pc1 lsm1 stm q => Kz rv w1 H1 locs1 pc1 lsm1 stm (hq rv w1 q)) H locs lsm hH hA
theorem hb_deep {d1 : Nat} (hd : d1 ≤ d) (h : hb_R y cc nL ret d1 pc ls st w Q) : hb_R y cc nL ret d pc ls st w Q := by
  intro p l e R s m args below meth c cells slots D cA ad Hb Z C Kz H locs lsm hH hA
  obtain ⟨a1, a2, a3, a4, a5, a6, a7, a8, a9⟩ := C
  exact h p l e R s m args below meth c cells slots D cA ad Hb Z ⟨a1, a2, a3, a4, a5, a6, a7, ⟨by omega, by omega, a8.2.2⟩, a9⟩ Kz H locs lsm hH hA
theorem hb_less (hl : ∀ (i : Nat) (v : hb_V), ls1[i]? = some (some v) → ls[i]? = some (some v)) (h : hb_R y cc nL ret d pc ls1 st w Q) : hb_R y cc nL ret d pc ls st w Q := by
  intro p l e R s m args below meth c cells slots D cA ad Hb Z C Kz H locs lsm hH hA
  exact h p l e R s m args below meth c cells slots D cA ad Hb Z C Kz H locs lsm hH ⟨hA.1, hA.2.1, fun i v q => hA.2.2 i v (hl i v q)⟩
end HBR
