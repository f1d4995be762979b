theorem hb_in {w : Cond} (i : Nat) (h : lw_tbl[i]? = some w) (hg : goodWord w = true) : w ∈ hb_tb := List.mem_filter.mpr ⟨List.mem_of_getElem? h, hg⟩
theorem hb_w_max_static : Cond.static Lib.Math.max.name ∈ hb_tb := hb_in 807 (by decide +kernel) (by decide +kernel)
theorem hb_w_min_static : Cond.static Lib.Math.min.name ∈ hb_tb := hb_in 804 (by decide +kernel) (by decide +kernel)
theorem hb_w_abs_static : Cond.static Lib.Math.abs.name ∈ hb_tb := hb_in 1007 (by decide +kernel) (by decide +kernel)
theorem hb_w_math_init : Cond.initialized "java/lang/Math" ∈ hb_tb := hb_in 133 (by decide +kernel) (by decide +kernel)
theorem hb_w_max_code : Cond.code Lib.Math.max.name Lib.Math.max.code 2 (some .int) ∈ hb_tb := hb_in 808 (by decide +kernel) (by decide +kernel)
theorem hb_w_min_code : Cond.code Lib.Math.min.name Lib.Math.min.code 2 (some .int) ∈ hb_tb := hb_in 805 (by decide +kernel) (by decide +kernel)
theorem hb_w_abs_code : Cond.code Lib.Math.abs.name Lib.Math.abs.code 1 (some .int) ∈ hb_tb := hb_in 1008 (by decide +kernel) (by decide +kernel)
theorem hb_w_copy_native : Cond.native arraycopyName ∈ hb_tb := hb_in 1053 (by decide +kernel) (by decide +kernel)
theorem hb_w_copy_static : Cond.static arraycopyName ∈ hb_tb := hb_in 1052 (by decide +kernel) (by decide +kernel)
theorem hb_w_sys_init : Cond.initialized "java/lang/System" ∈ hb_tb := hb_in 134 (by decide +kernel) (by decide +kernel)
/-! ===== calls ===== -/
theorem hb_fl_len (ad : hb_Id → Nat) : ∀ As : List hb_V, (lg_sl (As.map (hb_cv ad))).length = (hb_fl As).length
  | [] => rfl
  | .inr (.inl x) :: l => by
    have h := hb_fl_len ad l
    unfold lg_sl at h ⊢
    rw [List.map_cons, List.flatMap_cons, List.length_append, h]
    simp [hb_cv, Value.category, hb_fl]
    omega
  | .inl x :: l => by
    have h := hb_fl_len ad l
    unfold lg_sl at h ⊢
    rw [List.map_cons, List.flatMap_cons, List.length_append, h]
    simp [hb_cv, Value.category, hb_fl]
    omega
  | .inr (.inr q) :: l => by
    have h := hb_fl_len ad l
    unfold lg_sl at h ⊢
    rw [List.map_cons, List.flatMap_cons, List.length_append, h]
    cases q <;> simp [hb_cv, Value.category, hb_fl] <;> omega
theorem hb_fl_at (ad : hb_Id → Nat) : ∀ (As : List hb_V) (i : Nat) (v : hb_V), (hb_fl As)[i]? = some (some v) → (lg_sl (As.map (hb_cv ad)))[i]? = some (.val (hb_cv ad v))
  | [], i, v, h => by simp [hb_fl] at h
  | .inr (.inl x) :: l, i, v, h => by
    have e : lg_sl ((.inr (.inl x) :: l : List hb_V).map (hb_cv ad)) = .val (.long x) :: .second :: lg_sl (l.map (hb_cv ad)) := by
      unfold lg_sl
      rw [List.map_cons, List.flatMap_cons]
      simp [hb_cv, Value.category]
    rw [e]
    match i, h with
    | 0, h => simp [hb_fl] at h; subst h; rfl
    | 1, h => simp [hb_fl] at h
    | i + 2, h => exact hb_fl_at ad l i v (by simpa [hb_fl] using h)
  | .inl x :: l, i, v, h => by
    have e : lg_sl ((.inl x :: l : List hb_V).map (hb_cv ad)) = .val (.int x) :: lg_sl (l.map (hb_cv ad)) := by
      unfold lg_sl
      rw [List.map_cons, List.flatMap_cons]
      simp [hb_cv, Value.category]
    rw [e]
    match i, h with
    | 0, h => simp [hb_fl] at h; subst h; rfl
    | i + 1, h => exact hb_fl_at ad l i v (by simpa [hb_fl] using h)
  | .inr (.inr q) :: l, i, v, h => by
    have e : lg_sl ((.inr (.inr q) :: l : List hb_V).map (hb_cv ad)) = .val (hb_cv ad (.inr (.inr q))) :: lg_sl (l.map (hb_cv ad)) := by
      unfold lg_sl
      rw [List.map_cons, List.flatMap_cons]
      cases q <;> simp [hb_cv, Value.category]
    rw [e]
    match i, h with
    | 0, h => simp [hb_fl] at h; subst h; rfl
    | i + 1, h => exact hb_fl_at ad l i v (by simpa [hb_fl] using h)
theorem hb_en_L (ad : hb_Id → Nat) {nL : Nat} {As : List hb_V} (h : (hb_fl As).length ≤ nL) : hb_L ad nL (hb_en nL As) ((lg_sl (As.map (hb_cv ad)) ++ List.replicate (nL - (lg_sl (As.map (hb_cv ad))).length) Slot.unset).toArray) := by
  have hl := lv_entry (As.map (hb_cv ad)) (n := nL) (by rw [hb_fl_len]; exact h)
  refine ⟨hl.1, hl.2.1, fun i v hv => ?_⟩
  unfold hb_en at hv
  rw [List.getElem?_toArray]
  by_cases hi : i < (hb_fl As).length
  · rw [List.getElem?_append_left hi] at hv
    rw [List.getElem?_append_left (by rw [hb_fl_len]; exact hi)]
    exact hb_fl_at ad As i v hv
  · rw [List.getElem?_append_right (by omega)] at hv
    rw [List.getElem?_replicate] at hv
    split at hv <;> simp at hv
/-- a method's own words -/
def hb_MF (y2 : MethodName) (cc2 : ByteArray) (nL2 : Nat) (ret2 : Option FieldType) (n : Nat) : Prop := Cond.code y2 cc2 nL2 ret2 ∈ hb_tb ∧ Cond.initialized y2.cls ∈ hb_tb ∧ plainFor y2 = true ∧ (y2.cls ≠ "java/lang/invoke/MethodHandle" ∧ y2.cls ≠ "java/lang/invoke/VarHandle" ∧ (parseMethodDescriptor y2.desc).map (fun d => d.parameters.length) = some n) ∧ nL2 ≤ 45
def hb_MI (y2 : MethodName) : Prop := Cond.instanceMethod y2 ∈ hb_tb ∧ Cond.selects y2.cls y2 y2 ∈ hb_tb
def hb_Pc (D : va_G) (cA : Nat → ClassId) (ad : hb_Id → Nat) (Hb : Heap) (w : hb_W) (As : List hb_V) : Array Value → State → Prop := va_Pc (As.map (hb_cv ad)) (fun U => hb_H D cA ad Hb w U.heap [] ∧ va_K D vwCl (hb_tys cA) U ∧ va_Nw hb_nest U ∧ va_Nw hb_nest2 U)
def hb_Qc (D : va_G) (cA : Nat → ClassId) (ad : hb_Id → Nat) (Hb : Heap) (Q : Option hb_V → hb_W → Prop) : Array Value → State → Outcome → State → Prop := fun _ _ o t => ∃ (rv : Option hb_V) (w' : hb_W), o = .returned (rv.map (hb_cv ad)) ∧ Q rv w' ∧ hb_H D cA ad Hb w' t.heap []
abbrev hb_rm (d : Nat) : Room := { frames := d, cells := 0, slots := 0, locals := 64 * d }
theorem hb_H.nil {D : va_G} {cA : Nat → ClassId} {ad : hb_Id → Nat} {Hb : Heap} {w : hb_W} {H : Heap} {locs : List Loc} (h : hb_H D cA ad Hb w H locs) : hb_H D cA ad Hb w H [] := ⟨h.1, h.2.1, h.2.2.1, fun _ q => by cases q⟩
theorem hb_good : ∀ w ∈ hb_tb, (w.onTables && w.keeps) = true ∨ ∃ ty, w = .arrayClass ty := fun w hw => good_of_word (List.mem_filter.mp hw).2
theorem hb_met (l : Launch) (D : va_G) (cA : Nat → ClassId) (ad : hb_Id → Nat) (Hb : Heap) (hD : ∀ w : hb_W, va_D (fun q => Hb.size ≤ q) (hb_ws cA ad w)) {y2 : MethodName} {cc2 : ByteArray} {nL2 : Nat} {ret2 : Option FieldType} {n d : Nat} {As : List hb_V} {w : hb_W} {Q : Option hb_V → hb_W → Prop} (hf : hb_MF y2 cc2 nL2 ret2 n) (hlen : (hb_fl As).length ≤ nL2) (hO : hb_O y2 cc2 nL2 ret2 d As w Q) :
    Met l y2 (Cond.code y2 cc2 nL2 ret2 :: hb_tb) (hb_rm d) (hb_Pc D cA ad Hb w As) (hb_Qc D cA ad Hb Q) 0 0 (fun q => Hb.size ≤ q) := by
  refine va_MetF (cc := cc2) (maxL := nL2) (ret := ret2) hf.2.2.1 rfl ?_
  intro p e s m args below meth c s₁ B hml hv
  obtain ⟨rfl, hH, hK, hN1, hN2⟩ := hv
  have hts := atoms_spec (ws := Cond.code y2 cc2 nL2 ret2 :: hb_tb) B.pre
  rw [lg_entry_eq]
  refine hO p l e _ s m _ below meth c 0 0 D cA ad Hb (MQ below (hb_Qc D cA ad Hb Q) _ s 0 0 (fun q => Hb.size ≤ q)) ⟨B.exec, B.bytes, hml, findClass_of_methodNamed B.named, fun w hw => hts w (List.mem_cons_of_mem _ hw), hK, hD, ⟨Nat.le_refl d, Nat.le_refl _, Nat.zero_le _, Nat.zero_le _⟩, B.returns, B.notSynchronized, hN1, hN2⟩ ?_ s.heap [] _ hH (hb_en_L ad hlen)
  intro rv w' H' locs' pc' lsm' stm hq hH' hE
  have hx := B.exec
  have hb := B.bytes
  have hr := B.returns
  have hlocks := B.notSynchronized
  have fin : ∀ t : State, t.heap = H' → hb_H D cA ad Hb w' t.heap [] := fun t ht => by rw [ht]; exact hH'.nil
  rcases rv with _ | (v | v | q)
  · obtain ⟨hd, rfl, hr2⟩ := hE
    exact W.vret hx hb (hr.trans hr2) (fun t ht _ => ⟨none, w', rfl, hq, fin t ht⟩) (fun x hx => hH'.2.2.2 x hx) hd
  · obtain ⟨hd, rfl, hr2⟩ := hE
    rcases hr2 with hr2 | ⟨hr2, hv⟩
    · exact W.iret hx hb (hr.trans hr2) (fun t ht _ => ⟨some (hb_i v), w', rfl, hq, fin t ht⟩) (fun x hx => hH'.2.2.2 x hx) hd
    · exact W.zret hx hb (hr.trans hr2) (by rcases hv with rfl | rfl <;> rfl) (fun t ht _ => ⟨some (hb_i v), w', rfl, hq, fin t ht⟩) (fun x hx => hH'.2.2.2 x hx) hd
  · obtain ⟨hd, rfl, hr2⟩ := hE
    exact W.lret hx hb (hr.trans hr2) (fun t ht _ => ⟨some (hb_l v), w', rfl, hq, fin t ht⟩) (fun x hx => hH'.2.2.2 x hx) hd
  · obtain ⟨hd, rfl, nm, hr2⟩ := hE
    refine W.aret hx hb (hr.trans hr2) (Or.inl ⟨nm, rfl⟩) ?_ (fun t ht _ => ⟨some (.inr (.inr q)), w', rfl, hq, fin t ht⟩) (fun x hx => hH'.2.2.2 x hx) hd
    cases q with
    | none => exact Or.inl rfl
    | some q => exact Or.inr ⟨_, rfl⟩
def hb_ca : hb_V → Nat
  | .inr (.inl _) => 2
  | _ => 1
theorem hb_ca_sum (ad : hb_Id → Nat) : ∀ st : List hb_V, ((st.map (hb_cv ad)).map fun v => v.category).sum = (st.map hb_ca).sum
  | [] => rfl
  | v :: st => by
    rw [List.map_cons, List.map_cons, List.map_cons, List.sum_cons, List.sum_cons, hb_ca_sum ad st]
    congr 1
    rcases v with x | x | (_ | q) <;> rfl
theorem hb_blind {D : va_G} {cA : Nat → ClassId} {ad : hb_Id → Nat} {Hb : Heap} {w : hb_W} {As : List hb_V} : FrameBlind (hb_Pc D cA ad Hb w As) := fun a U g mk q => by
  obtain ⟨q0, q1, q2, q3, q4⟩ := q
  exact ⟨q0, q1, va_K.moved (u := U) (U := U.calling g mk a) (Vm.Alike.refl U.vm) q2, va_Nw.same rfl rfl q3, va_Nw.same rfl rfl q4⟩
section HBC
variable {y y2 : MethodName} {cc cc2 : ByteArray} {nL nL2 n : Nat} {ret ret2 : Option FieldType} {d pc : Nat} {ls ls1 : List (Option hb_V)} {st st0 As : List hb_V} {w : hb_W} {Q Q1 : Option hb_V → hb_W → Prop} {t g j k ci index : Nat}
theorem hb_after {p : Program} {l : Launch} {e : Env} {R : Room} {s : State} {m : MethodId} {args : Array Value} {below : List Frame} {meth : Method} {c : Code} {cells slots : Nat} {D : va_G} {cA : Nat → ClassId} {ad : hb_Id → Nat} {Hb : Heap} {Z : State → Prop} {H : Heap} {locs : List Loc} {lsm : Array Slot} {stm : List Value} {a : Array Value}
    (hrun : va_Run p l e R s m args below meth c H locs cells slots 0 0 (F0 m pc lsm stm) (st.map (hb_cv ad)) (hb_Qc D cA ad Hb Q1 a) (fun q => Hb.size ≤ q)) (hS : va_S (fun q => Hb.size ≤ q) Hb H locs)
    (h : ∀ (rv : Option hb_V) (w1 : hb_W) (H1 : Heap) (locs1 : List Loc), Q1 rv w1 → hb_H D cA ad Hb w1 H1 locs1 → W p l e R s m args below meth c H1 locs1 cells slots Z (F0 m (pc + 3) lsm ((rv.toList ++ st).map (hb_cv ad)))) : W p l e R s m args below meth c H locs cells slots Z (F0 m pc lsm stm) := by
  intro T hT X
  obtain ⟨v, st₀, t', T', L, h0, X', hL, e1, e2, ⟨rv, w1, hv, hq, hH1⟩, stp⟩ := hrun T hT X
  have hv2 : v = rv.map (hb_cv ad) := Outcome.returned.inj hv
  subst hv2
  have hS1 : va_S (fun q => Hb.size ≤ q) Hb T'.heap (locs ++ L) := by
    rw [e1]
    refine ⟨hH1.2.1, hH1.2.2.1, fun x hx => ?_⟩
    rcases List.mem_append.mp hx with h1 | h1
    · exact hS.2.2 x h1
    · exact hL x h1
  obtain ⟨t2, a1, b1⟩ := h rv w1 T'.heap (locs ++ L) hq ⟨by rw [e1]; exact hH1.1, hS1⟩ T' rfl X'
  refine ⟨t2, stp t2 ?_, b1⟩
  have e3 : (rv.toList ++ st).map (hb_cv ad) = (rv.map (hb_cv ad)).toList ++ st.map (hb_cv ad) := by
    cases rv <;> rfl
  rw [e3] at a1
  exact a1
theorem hb_callV (hd : decode cc pc = .ok (.invokevirtual index, 3)) (hm : Cond.methodLink y.cls index y2 ∈ hb_tb) (hf : hb_MF y2 cc2 nL2 ret2 n) (hi : hb_MI y2) (hs : hb_sh t 0 = some (.inl ci)) (hcn : (vwCl[ci]?).map (fun q => q.1) = some y2.cls) (hg : g < hb_ct t) (hst : st0 = As.reverse ++ hb_r t g 0 :: st) (hn : As.length = n) (hlen : (hb_fl (hb_r t g 0 :: As)).length ≤ nL2) (hroom : (st.map hb_ca).sum ≤ 8)
    (hO : hb_O y2 cc2 nL2 ret2 d (hb_r t g 0 :: As) w Q1) (h : ∀ rv w1, Q1 rv w1 → hb_R y cc nL ret (d + 1) (pc + 3) ls (rv.toList ++ st) w1 Q) : hb_R y cc nL ret (d + 1) pc ls st0 w Q := by
  intro p l e R s m args below meth c cells slots D cA ad Hb Z C Kz H locs lsm hH hA
  have C1 := id C
  obtain ⟨c1, c2, c3, c4, c5, c6, c7, ⟨c8, c9, c10, c11⟩, c12, c13, c14, c15⟩ := C1
  have hM := hb_met l D cA ad Hb c7 hf hlen hO
  obtain ⟨f1, f2, f3, f4, f5⟩ := hf
  have hG : GoodIn hb_tb (Cond.code y2 cc2 nL2 ret2 :: hb_tb) := fun x hx => by
    rcases List.mem_cons.mp hx with h1 | h1
    · rw [h1]; exact ⟨f1, hb_good _ f1⟩
    · exact ⟨h1, hb_good _ h1⟩
  have cw : CallW R s args y.cls y2.cls index y2 cc2 nL2 ret2 (Cond.code y2 cc2 nL2 ret2 :: hb_tb) (hb_rm d) 0 0 n := ⟨callB_of n c5 hG rfl rfl rfl (c5 _ f2) (c5 _ hm) f4 ⟨c8, by show 8 + (nL2 + 11) + 64 * d ≤ R.locals; omega⟩, c5 _ hi.1, c5 _ hi.2⟩
  obtain ⟨p0, hp⟩ := hb_place hs hg
  have he := hb_ws_at cA ad w hp
  rw [hb_e_obj cA ad w hs] at he
  obtain ⟨q0, hq0, hq1⟩ := Option.map_eq_some_iff.mp hcn
  have hrec := va_recv c6 hH.1 hq0 he
  rw [hq1] at hrec
  refine hb_after (pc := pc) (st := st) (va_runV (As := As.map (hb_cv ad)) (rest := st.map (hb_cv ad)) (b := ad (t, g, 0)) ⟨c1, c2, c3, c4, c5⟩ hM cw ⟨hb_blind, hrec, fun U hU hW => ⟨rfl, by rw [hU]; exact hH.nil, va_K.moved hW.alike c6, va_Nw.warmM hW c14, va_Nw.warmM hW c15⟩⟩ rfl (by rw [List.length_map]; exact hn) hA.1 (by rw [hst]; simp [hb_cv]) (by rw [hb_ca_sum]; show 2 * 0 + _ ≤ 8; omega) hd ⟨by omega, by omega⟩) hH.2 ?_
  intro rv w1 H1 locs1 hq hH1
  exact h rv w1 hq p l e R s m args below meth c cells slots D cA ad Hb Z C Kz H1 locs1 lsm hH1 hA
theorem hb_callS (hd : decode cc pc = .ok (.invokestatic index, 3)) (hm : Cond.methodLink y.cls index y2 ∈ hb_tb) (hf : hb_MF y2 cc2 nL2 ret2 n) (hi : Cond.static y2 ∈ hb_tb) (hst : st0 = As.reverse ++ st) (hn : As.length = n) (hlen : (hb_fl As).length ≤ nL2) (hroom : (st.map hb_ca).sum ≤ 8)
    (hO : hb_O y2 cc2 nL2 ret2 d As w Q1) (h : ∀ rv w1, Q1 rv w1 → hb_R y cc nL ret (d + 1) (pc + 3) ls (rv.toList ++ st) w1 Q) : hb_R y cc nL ret (d + 1) pc ls st0 w Q := by
  intro p l e R s m args below meth c cells slots D cA ad Hb Z C Kz H locs lsm hH hA
  have C1 := id C
  obtain ⟨c1, c2, c3, c4, c5, c6, c7, ⟨c8, c9, c10, c11⟩, c12, c13, c14, c15⟩ := C1
  have hM := hb_met l D cA ad Hb c7 hf hlen hO
  obtain ⟨f1, f2, f3, f4, f5⟩ := hf
  have hG : GoodIn hb_tb (Cond.code y2 cc2 nL2 ret2 :: hb_tb) := fun x hx => by
    rcases List.mem_cons.mp hx with h1 | h1
    · rw [h1]; exact ⟨f1, hb_good _ f1⟩
    · exact ⟨h1, hb_good _ h1⟩
  have cw : CallB R s args y.cls index y2 cc2 nL2 ret2 (Cond.code y2 cc2 nL2 ret2 :: hb_tb) (hb_rm d) 0 0 n ∧ (Cond.static y2).before args s = true := ⟨callB_of n c5 hG rfl rfl rfl (c5 _ f2) (c5 _ hm) f4 ⟨c8, by show 8 + (nL2 + 11) + 64 * d ≤ R.locals; omega⟩, c5 _ hi⟩
  refine hb_after (pc := pc) (st := st) (va_runS (As := As.map (hb_cv ad)) (rest := st.map (hb_cv ad)) ⟨c1, c2, c3, c4, c5⟩ hM cw ⟨hb_blind, fun U hU hW => ⟨rfl, by rw [hU]; exact hH.nil, va_K.moved hW.alike c6, va_Nw.warmM hW c14, va_Nw.warmM hW c15⟩⟩ rfl (by rw [List.length_map]; exact hn) hA.1 (by rw [hst]; simp) (by rw [hb_ca_sum]; show 2 * 0 + _ ≤ 8; omega) hd ⟨by omega, by omega⟩) hH.2 ?_
  intro rv w1 H1 locs1 hq hH1
  exact h rv w1 hq p l e R s m args below meth c cells slots D cA ad Hb Z C Kz H1 locs1 lsm hH1 hA
theorem hb_callSN (hd : decode cc pc = .ok (.invokestatic index, 3)) (hm : (Cond.methodLinkNest y.cls index y2 "HoodBook" = hb_nest) ∨ (Cond.methodLinkNest y.cls index y2 "HoodBook" = hb_nest2)) (hf : hb_MF y2 cc2 nL2 ret2 n) (hi : Cond.static y2 ∈ hb_tb) (hst : st0 = As.reverse ++ st) (hn : As.length = n) (hlen : (hb_fl As).length ≤ nL2) (hroom : (st.map hb_ca).sum ≤ 8)
    (hO : hb_O y2 cc2 nL2 ret2 d As w Q1) (h : ∀ rv w1, Q1 rv w1 → hb_R y cc nL ret (d + 1) (pc + 3) ls (rv.toList ++ st) w1 Q) : hb_R y cc nL ret (d + 1) pc ls st0 w Q := by
  intro p l e R s m args below meth c cells slots D cA ad Hb Z C Kz H locs lsm hH hA
  have C1 := id C
  obtain ⟨c1, c2, c3, c4, c5, c6, c7, ⟨c8, c9, c10, c11⟩, c12, c13, c14, c15⟩ := C1
  have hM := hb_met l D cA ad Hb c7 hf hlen hO
  obtain ⟨f1, f2, f3, f4, f5⟩ := hf
  have hG : GoodIn hb_tb (Cond.code y2 cc2 nL2 ret2 :: hb_tb) := fun x hx => by
    rcases List.mem_cons.mp hx with h1 | h1
    · rw [h1]; exact ⟨f1, hb_good _ f1⟩
    · exact ⟨h1, hb_good _ h1⟩
  have hlk : va_Nw (.methodLinkNest y.cls index y2 "HoodBook") s := by
    rcases hm with hm | hm
    · rw [hm]; exact c14
    · rw [hm]; exact c15
  have cw := va_cnB (R := R) (args := args) (bytes := cc2) (maxL := nL2) (ret := ret2) (rm := hb_rm d) (mc := 0) (ms := 0) n c5 hG rfl rfl rfl hlk (c5 _ f2) f4 ⟨c8, by show 8 + (nL2 + 11) + 64 * d ≤ R.locals; omega⟩
  refine hb_after (pc := pc) (st := st) (va_runSN (As := As.map (hb_cv ad)) (rest := st.map (hb_cv ad)) ⟨c1, c2, c3, c4, c5⟩ hM ⟨cw, c5 _ hi, trivial⟩ ⟨hb_blind, fun U hU hW => ⟨rfl, by rw [hU]; exact hH.nil, va_K.moved hW.alike c6, va_Nw.warmM hW c14, va_Nw.warmM hW c15⟩⟩ rfl (by rw [List.length_map]; exact hn) hA.1 (by rw [hst]; simp) (by rw [hb_ca_sum]; show 2 * 0 + _ ≤ 8; omega) hd ⟨by omega, by omega⟩) hH.2 ?_
  intro rv w1 H1 locs1 hq hH1
  exact h rv w1 hq p l e R s m args below meth c cells slots D cA ad Hb Z C Kz H1 locs1 lsm hH1 hA

theorem hb_mmax {x b : Int32} (hd : decode cc pc = .ok (.invokestatic index, 3)) (hm : Cond.methodLink y.cls index Lib.Math.max.name ∈ hb_tb) (hroom : (st.map hb_ca).sum ≤ 8) (h : hb_R y cc nL ret (d + 1) (pc + 3) ls (hb_i (if x < b then b else x) :: st) w Q) : hb_R y cc nL ret (d + 1) pc ls (hb_i b :: hb_i x :: st) w Q := by
  intro p l e R s m args below meth c cells slots D cA ad Hb Z C Kz H locs lsm hH hA
  have C1 := id C
  obtain ⟨c1, c2, c3, c4, c5, c6, c7, ⟨c8, c9, c10, c11⟩, c12, c13, c14, c15⟩ := C1
  exact va_mmax c1 c2 (c3.trans hA.1.symm) c4 (c5 _ hm) (c5 _ hb_w_max_static) (c5 _ hb_w_math_init) (c5 _ hb_w_max_code) (by omega) (by rw [hb_ca_sum]; omega) c10 c11 hd (h p l e R s m args below meth c cells slots D cA ad Hb Z C Kz H locs lsm hH hA)
theorem hb_mmin {x b : Int32} (hd : decode cc pc = .ok (.invokestatic index, 3)) (hm : Cond.methodLink y.cls index Lib.Math.min.name ∈ hb_tb) (hroom : (st.map hb_ca).sum ≤ 8) (h : hb_R y cc nL ret (d + 1) (pc + 3) ls (hb_i (if b < x then b else x) :: st) w Q) : hb_R y cc nL ret (d + 1) pc ls (hb_i b :: hb_i x :: st) w Q := by
  intro p l e R s m args below meth c cells slots D cA ad Hb Z C Kz H locs lsm hH hA
  have C1 := id C
  obtain ⟨c1, c2, c3, c4, c5, c6, c7, ⟨c8, c9, c10, c11⟩, c12, c13, c14, c15⟩ := C1
  exact va_mmin c1 c2 (c3.trans hA.1.symm) c4 (c5 _ hm) (c5 _ hb_w_min_static) (c5 _ hb_w_math_init) (c5 _ hb_w_min_code) (by omega) (by rw [hb_ca_sum]; omega) c10 c11 hd (h p l e R s m args below meth c cells slots D cA ad Hb Z C Kz H locs lsm hH hA)
theorem hb_mabs {x b : Int32} (hd : decode cc pc = .ok (.invokestatic index, 3)) (hm : Cond.methodLink y.cls index Lib.Math.abs.name ∈ hb_tb) (hroom : (st.map hb_ca).sum ≤ 8) (h : hb_R y cc nL ret (d + 1) (pc + 3) ls (hb_i (if 0 ≤ x then x else 0 - x) :: st) w Q) : hb_R y cc nL ret (d + 1) pc ls (hb_i x :: st) w Q := by
  intro p l e R s m args below meth c cells slots D cA ad Hb Z C Kz H locs lsm hH hA
  have C1 := id C
  obtain ⟨c1, c2, c3, c4, c5, c6, c7, ⟨c8, c9, c10, c11⟩, c12, c13, c14, c15⟩ := C1
  exact va_mabs c1 c2 (c3.trans hA.1.symm) c4 (c5 _ hm) (c5 _ hb_w_abs_static) (c5 _ hb_w_math_init) (c5 _ hb_w_abs_code) (by omega) (by rw [hb_ca_sum]; omega) c10 c11 hd (h p l e R s m args below meth c cells slots D cA ad Hb Z C Kz H locs lsm hH hA)
theorem hb_copy {t2 g2 j2 n1 n2 : Nat} {sp dp m1 : Int32} (hd : decode cc pc = .ok (.invokestatic index, 3)) (hm : Cond.methodLink y.cls index arraycopyName ∈ hb_tb) (hroom : (st.map hb_ca).sum ≤ 8) (hs : hb_sh t j = some (.inr (0, n1))) (hg : g < hb_ct t) (hs2 : hb_sh t2 j2 = some (.inr (0, n2))) (hg2 : g2 < hb_ct t2) (h1 : ¬ sp < 0) (h2 : ¬ dp < 0) (h3 : ¬ m1 < 0) (h4 : sp.toNatClampNeg + m1.toNatClampNeg ≤ n1) (h5 : dp.toNatClampNeg + m1.toNatClampNeg ≤ n2)
    (h : hb_R y cc nL ret (d + 1) (pc + 3) ls st (hb_sI w t2 j2 g2 (va_cpy (hb_aI w t j g) (hb_aI w t2 j2 g2) sp.toNatClampNeg dp.toNatClampNeg m1.toNatClampNeg)) Q) : hb_R y cc nL ret (d + 1) pc ls (hb_i m1 :: hb_i dp :: hb_r t2 g2 j2 :: hb_i sp :: hb_r t g j :: st) w Q := by
  intro p l e R s m args below meth c cells slots D cA ad Hb Z C Kz H locs lsm hH hA
  have C1 := id C
  obtain ⟨c1, c2, c3, c4, c5, c6, c7, ⟨c8, c9, c10, c11⟩, c12, c13, c14, c15⟩ := C1
  obtain ⟨p0, hp⟩ := hb_place hs hg
  have he := hb_ws_at cA ad w hp
  rw [hb_e_arr cA ad w hs (by decide)] at he
  obtain ⟨p2, hp2⟩ := hb_place hs2 hg2
  have he2 := hb_ws_at cA ad w hp2
  rw [hb_e_arr cA ad w hs2 (by decide)] at he2
  have hloc : ((st.map (hb_cv ad)).map fun v => v.category).sum + (nativeFrameWords "java/lang/System" "arraycopy" 5 + 11) ≤ R.locals := by
    rw [hb_ca_sum, show nativeFrameWords "java/lang/System" "arraycopy" 5 = 7 by decide]
    omega
  refine va_copyi c1 c2 (c3.trans hA.1.symm) c4 (c5 _ hm) (c5 _ hb_w_copy_native) (c5 _ hb_w_copy_static) (c5 _ hb_w_sys_init) c6 hH.1 (c7 w) hH.2 p0 p2 0 0 (ty := .int) he he2 rfl rfl rfl h1 h2 h3 h4 h5 (fun i hi => rfl) (by omega) hloc hd ?_
  intro H1 locs1 hP1 hD1 hS1
  refine h p l e R s m args below meth c cells slots D cA ad Hb Z C Kz H1 locs1 lsm ⟨?_, hS1⟩ hA
  have e1 := hb_e_arr cA ad (hb_sI w t2 j2 g2 (va_cpy (hb_aI w t j g) (hb_aI w t2 j2 g2) sp.toNatClampNeg dp.toNatClampNeg m1.toNatClampNeg)) (g := g2) hs2 (by decide)
  rw [show hb_aI (hb_sI w t2 j2 g2 (va_cpy (hb_aI w t j g) (hb_aI w t2 j2 g2) sp.toNatClampNeg dp.toNatClampNeg m1.toNatClampNeg)) t2 j2 g2 = va_cpy (hb_aI w t j g) (hb_aI w t2 j2 g2) sp.toNatClampNeg dp.toNatClampNeg m1.toNatClampNeg from hb_u3_s _ t2 j2 g2 _] at e1
  rw [← e1] at hP1
  rw [← hb_ws_set cA ad w (hb_sI w t2 j2 g2 (va_cpy (hb_aI w t j g) (hb_aI w t2 j2 g2) sp.toNatClampNeg dp.toNatClampNeg m1.toNatClampNeg)) hp2 (hb_e_otherA cA ad w _ rfl rfl rfl (fun a b c z => hb_u3_n _ t2 j2 g2 _ z) (fun a b c _ => rfl))]
  exact hP1
theorem hb_copyx {t2 g2 j2 n1 n2 : Nat} {sp dp m1 : Int32} {f : Nat → Int32} (hd : decode cc pc = .ok (.invokestatic index, 3)) (hm : Cond.methodLink y.cls index arraycopyName ∈ hb_tb) (hroom : (st.map hb_ca).sum ≤ 8) (hs : hb_sh t j = some (.inr (0, n1))) (hg : g < hb_ct t) (hs2 : hb_sh t2 j2 = some (.inr (0, n2))) (hg2 : g2 < hb_ct t2) (h1 : ¬ sp < 0) (h2 : ¬ dp < 0) (h3 : ¬ m1 < 0) (h4 : sp.toNatClampNeg + m1.toNatClampNeg ≤ n1) (h5 : dp.toNatClampNeg + m1.toNatClampNeg ≤ n2) (hx : va_cpy (hb_aI w t j g) (hb_aI w t2 j2 g2) sp.toNatClampNeg dp.toNatClampNeg m1.toNatClampNeg = f)
    (h : hb_R y cc nL ret (d + 1) (pc + 3) ls st (hb_sI w t2 j2 g2 f) Q) : hb_R y cc nL ret (d + 1) pc ls (hb_i m1 :: hb_i dp :: hb_r t2 g2 j2 :: hb_i sp :: hb_r t g j :: st) w Q := hb_copy hd hm hroom hs hg hs2 hg2 h1 h2 h3 h4 h5 (by rw [hx]; exact h)
end HBC
