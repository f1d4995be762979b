/-! ===== the run of a maker with its calls ===== -/
def hc_hd : List hb_V → Bool
  | .inr (.inr (some _)) :: _ => true
  | _ => false
theorem hc_hd_ok {l : List hb_V} (h : hc_hd l = true) : ∃ (q : hb_Id) (As : List hb_V), l = .inr (.inr (some q)) :: As := by
  unfold hc_hd at h
  split at h
  · exact ⟨_, _, rfl⟩
  · cases h
def hc_run : Nat → Nat → String → String → ByteArray → Nat → Nat → List (Option hb_V) → List hb_V → List hc_A → Option (List hc_A × Nat × Nat)
  | 0, _, _, _, _, _, _, _, _, _ => none
  | n + 1, d, own, nm, cc, nL, pc, ls, st, L => match decode cc pc with
    | .error _ => none
    | .ok (i, len) => match i with
      | .return_ => if len = 1 ∧ st.length = 0 then some (L, 0, 0) else none
      | .invokespecial ix => match d with
        | 0 => none
        | d2 + 1 => if hc_ol.contains (own, ix) = true then (match st with
            | .inr (.inr (some _)) :: rest => if len = 3 ∧ (rest.map hb_ca).sum ≤ 8 then hc_run n (d2 + 1) own nm cc nL (pc + 3) ls rest L else none
            | _ => none)
          else match hc_cl.find? (fun x => x.1 == own && x.2.1 == ix) with
            | none => none
            | some x => if len = 3 ∧ x.2.2.1 = true ∧ ((st.drop (x.2.2.2.2.2.2 + 1)).map hb_ca).sum ≤ 8 ∧ (st.take (x.2.2.2.2.2.2 + 1)).length = x.2.2.2.2.2.2 + 1 ∧ (hb_fl (st.take (x.2.2.2.2.2.2 + 1)).reverse).length ≤ x.2.2.2.2.2.1 ∧ hc_hd (st.take (x.2.2.2.2.2.2 + 1)).reverse = true then (match hc_run n d2 x.2.2.2.1.cls x.2.2.2.1.name x.2.2.2.2.1 x.2.2.2.2.2.1 0 (hb_en x.2.2.2.2.2.1 (st.take (x.2.2.2.2.2.2 + 1)).reverse) [] L with
              | none => none
              | some (L1, k1, s1) => match hc_run n (d2 + 1) own nm cc nL (pc + 3) ls (st.drop (x.2.2.2.2.2.2 + 1)) L1 with
                | none => none
                | some (L2, k2, s2) => some (L2, k1 + k2, s1 + s2)) else none
      | .invokestatic ix => match d with
        | 0 => none
        | d2 + 1 => match hc_cl.find? (fun x => x.1 == own && x.2.1 == ix) with
            | none => none
            | some x => if len = 3 ∧ x.2.2.1 = false ∧ ((st.drop x.2.2.2.2.2.2).map hb_ca).sum ≤ 8 ∧ (st.take x.2.2.2.2.2.2).length = x.2.2.2.2.2.2 ∧ (hb_fl (st.take x.2.2.2.2.2.2).reverse).length ≤ x.2.2.2.2.2.1 then (match hc_run n d2 x.2.2.2.1.cls x.2.2.2.1.name x.2.2.2.2.1 x.2.2.2.2.2.1 0 (hb_en x.2.2.2.2.2.1 (st.take x.2.2.2.2.2.2).reverse) [] L with
              | none => none
              | some (L1, k1, s1) => match hc_run n (d2 + 1) own nm cc nL (pc + 3) ls (st.drop x.2.2.2.2.2.2) L1 with
                | none => none
                | some (L2, k2, s2) => some (L2, k1 + k2, s1 + s2)) else none
      | i => match hc_st own nm nL i len pc ls st L with
        | none => none
        | some (pc1, ls1, st1, L1, dc, ds) => match hc_run n d own nm cc nL pc1 ls1 st1 L1 with
          | none => none
          | some (L2, k2, s2) => some (L2, dc + k2, ds + s2)
/-- from here the maker comes to its return, with these cells, so many more -/
def hc_G (own nm : String) (cc : ByteArray) (nL d pc : Nat) (ls : List (Option hb_V)) (st : List hb_V) (L Le : List hc_A) (kc ks : Nat) : Prop :=
  ∀ (p : Program) (l : Launch) (e : Env) (R : Room) (s : State) (m : MethodId) (args : Array Value) (below : List Frame) (meth : Method) (c : Code) (cells slots : Nat) (D : va_G) (cA : Nat → ClassId) (Hb : Heap) (Z : State → Prop),
    hc_C own nm cc nL d p R s m args meth c D cA → cells + kc ≤ R.cells → slots + ks ≤ R.slots →
    (∀ (H1 : Heap) (locs1 : List Loc) (pc1 : Nat) (lsm1 : Array Slot), hc_H D cA Hb Le H1 locs1 → decode cc pc1 = .ok (.return_, 1) → W p l e R s m args below meth c H1 locs1 (cells + kc) (slots + ks) Z (F0 m pc1 lsm1 [])) →
    ∀ (H : Heap) (locs : List Loc) (lsm : Array Slot), hc_H D cA Hb L H locs → hb_L (hc_ad Hb.size) nL ls lsm → W p l e R s m args below meth c H locs cells slots Z (F0 m pc lsm (st.map (hb_cv (hc_ad Hb.size))))
def hc_Pc (D : va_G) (cA : Nat → ClassId) (Hb : Heap) (L : List hc_A) (As : List hb_V) : Array Value → State → Prop := va_Pc (As.map (hb_cv (hc_ad Hb.size))) (fun U => hc_H D cA Hb L U.heap [] ∧ va_K D vwCl (hb_tys cA) U ∧ va_Nw hb_nest U ∧ va_Nw hb_nest2 U)
def hc_Qc (D : va_G) (cA : Nat → ClassId) (Hb : Heap) (Le : List hc_A) : Array Value → State → Outcome → State → Prop := fun _ _ o t => o = .returned none ∧ hc_H D cA Hb Le t.heap []
abbrev hc_rm (d kc ks : Nat) : Room := { frames := d, cells := kc, slots := ks, locals := 64 * d }
theorem hc_H.nil {D : va_G} {cA : Nat → ClassId} {Hb : Heap} {L : List hc_A} {H : Heap} {locs : List Loc} (h : hc_H D cA Hb L H locs) : hc_H D cA Hb L H [] := ⟨h.1, h.2.1, h.2.2.1, h.2.2.2.1, fun _ q => by cases q⟩
theorem hc_blind {D : va_G} {cA : Nat → ClassId} {Hb : Heap} {L : List hc_A} {As : List hb_V} : FrameBlind (hc_Pc D cA Hb L As) := fun a U g mk q => by
  obtain ⟨q0, q1, q2, q3, q4⟩ := q
  exact ⟨q0, q1, va_K.moved (u := U) (U := U.calling g mk a) (Vm.Alike.refl U.vm) q2, va_Nw.same rfl rfl q3, va_Nw.same rfl rfl q4⟩
theorem hc_met (l : Launch) (D : va_G) (cA : Nat → ClassId) (Hb : Heap) {y2 : MethodName} {cc2 : ByteArray} {nL2 n d kc ks : Nat} {As : List hb_V} {L Le : List hc_A} (hf : hb_MF y2 cc2 nL2 none n) (hlen : (hb_fl As).length ≤ nL2) (hG : hc_G y2.cls y2.name cc2 nL2 d 0 (hb_en nL2 As) [] L Le kc ks) :
    Met l y2 (Cond.code y2 cc2 nL2 none :: hb_tb) (hc_rm d kc ks) (hc_Pc D cA Hb L As) (hc_Qc D cA Hb Le) kc ks (fun q => Hb.size ≤ q) := by
  refine va_MetF (cc := cc2) (maxL := nL2) (ret := none) hf.2.2.1 rfl ?_
  intro p e s m args below meth c s₁ B hml hv
  obtain ⟨rfl, hH, hK, hN1, hN2⟩ := hv
  have hts := atoms_spec (ws := Cond.code y2 cc2 nL2 none :: hb_tb) B.pre
  rw [lg_entry_eq]
  have hx := B.exec
  have hb := B.bytes
  have hr := B.returns
  have hlocks := B.notSynchronized
  refine hG p l e _ s m _ below meth c 0 0 D cA Hb (MQ below (hc_Qc D cA Hb Le) _ s kc ks (fun q => Hb.size ≤ q)) ⟨B.exec, B.bytes, hml, findClass_of_methodNamed B.named, fun w hw => hts w (List.mem_cons_of_mem _ hw), hK, ⟨Nat.le_refl d, Nat.le_refl _⟩, (name_of_methodNamed B.named B.method).1, hN1, hN2⟩ (by show 0 + kc ≤ kc; omega) (by show 0 + ks ≤ ks; omega) ?_ s.heap [] _ hH (hb_en_L (hc_ad Hb.size) hlen)
  intro H1 locs1 pc1 lsm1 hH1 hd
  rw [Nat.zero_add, Nat.zero_add]
  exact W.vret hx hb hr (fun t ht _ => ⟨rfl, by rw [ht]; exact hH1.nil⟩) (fun x hx => hH1.2.2.2.2 x hx) hd
theorem hc_after {p : Program} {l : Launch} {e : Env} {R : Room} {s : State} {m : MethodId} {args : Array Value} {below : List Frame} {meth : Method} {c : Code} {cells slots k1 s1 pc : Nat} {D : va_G} {cA : Nat → ClassId} {Hb : Heap} {Z : State → Prop} {H : Heap} {locs : List Loc} {lsm : Array Slot} {stm rest : List Value} {a : Array Value} {L1 : List hc_A}
    (hrun : va_Run p l e R s m args below meth c H locs cells slots k1 s1 (F0 m pc lsm stm) rest (hc_Qc D cA Hb L1 a) (fun q => Hb.size ≤ q)) (hS : va_S (fun q => Hb.size ≤ q) Hb H locs)
    (h : ∀ (H1 : Heap) (locs1 : List Loc), hc_H D cA Hb L1 H1 locs1 → W p l e R s m args below meth c H1 locs1 (cells + k1) (slots + s1) Z (F0 m (pc + 3) lsm rest)) : W p l e R s m args below meth c H locs cells slots Z (F0 m pc lsm stm) := by
  intro T hT X
  obtain ⟨v, st₀, t', T', L, h0, X', hL, e1, e2, ⟨hv, hH1⟩, stp⟩ := hrun T hT X
  have hv2 : v = none := Outcome.returned.inj hv
  subst hv2
  have hS1 : va_S (fun q => Hb.size ≤ q) Hb T'.heap (locs ++ L) := by
    rw [e1]
    refine ⟨hH1.2.2.1, hH1.2.2.2.1, fun x hx => ?_⟩
    rcases List.mem_append.mp hx with q1 | q1
    · exact hS.2.2 x q1
    · exact hL x q1
  obtain ⟨t2, a1, b1⟩ := h T'.heap (locs ++ L) ⟨by rw [e1]; exact hH1.1, by rw [e1]; exact hH1.2.1, hS1⟩ T' rfl X'
  exact ⟨t2, stp t2 a1, b1⟩
section HCK
variable {p : Program} {l : Launch} {e : Env} {R : Room} {s : State} {m : MethodId} {args : Array Value} {below : List Frame} {meth : Method} {c : Code} {cells slots : Nat} {D : va_G} {cA : Nat → ClassId} {Hb : Heap} {Z : State → Prop} {H : Heap} {locs : List Loc} {lsm : Array Slot} {own nm : String} {cc cc2 : ByteArray} {nL nL2 n d pc index k1 s1 : Nat} {L L1 : List hc_A} {As rest : List hb_V} {y2 : MethodName} {q : hb_Id}
theorem hc_callI (C : hc_C own nm cc nL (d + 1) p R s m args meth c D cA) (hd : decode cc pc = .ok (.invokespecial index, 3)) (hm : Cond.methodLink own index y2 ∈ hb_tb) (hf : hb_MF y2 cc2 nL2 none n) (hy : y2.name = "<init>") (hi : Cond.instanceMethod y2 ∈ hb_tb) (hn : As.length = n) (hlen : (hb_fl (.inr (.inr (some q)) :: As)).length ≤ nL2) (hroom : (rest.map hb_ca).sum ≤ 8)
    (hG : hc_G y2.cls y2.name cc2 nL2 d 0 (hb_en nL2 (.inr (.inr (some q)) :: As)) [] L L1 k1 s1) (hH : hc_H D cA Hb L H locs) (hsz : lsm.size = nL) (h1 : cells + k1 ≤ R.cells) (h2 : slots + s1 ≤ R.slots)
    (h : ∀ (H1 : Heap) (locs1 : List Loc), hc_H D cA Hb L1 H1 locs1 → W p l e R s m args below meth c H1 locs1 (cells + k1) (slots + s1) Z (F0 m (pc + 3) lsm (rest.map (hb_cv (hc_ad Hb.size))))) : W p l e R s m args below meth c H locs cells slots Z (F0 m pc lsm ((As.reverse ++ .inr (.inr (some q)) :: rest).map (hb_cv (hc_ad Hb.size)))) := by
  obtain ⟨c1, c2, c3, c4, c5, c6, ⟨c7, c8⟩, c9, c10, c11⟩ := C
  have hM := hc_met l D cA Hb hf hlen hG
  obtain ⟨f1, f2, f3, f4, f5⟩ := hf
  have hGd : GoodIn hb_tb (Cond.code y2 cc2 nL2 none :: hb_tb) := fun x hx => by
    rcases List.mem_cons.mp hx with q1 | q1
    · rw [q1]; exact ⟨f1, hb_good _ f1⟩
    · exact ⟨q1, hb_good _ q1⟩
  have cw : CallB R s args own index y2 cc2 nL2 none (Cond.code y2 cc2 nL2 none :: hb_tb) (hc_rm d k1 s1) k1 s1 n ∧ y2.name = "<init>" ∧ (Cond.instanceMethod y2).before args s = true := ⟨callB_of n c5 hGd rfl rfl rfl (c5 _ f2) (c5 _ hm) f4 ⟨c7, by show 8 + (nL2 + 11) + 64 * d ≤ R.locals; omega⟩, hy, c5 _ hi⟩
  exact hc_after (rest := rest.map (hb_cv (hc_ad Hb.size))) (va_runI (As := As.map (hb_cv (hc_ad Hb.size))) (rest := rest.map (hb_cv (hc_ad Hb.size))) (b := hc_ad Hb.size q) ⟨c1, c2, c3, c4, c5⟩ hM cw ⟨hc_blind, fun U hU hW => ⟨rfl, by rw [hU]; exact hH.nil, va_K.moved hW.alike c6, va_Nw.warmM hW c10, va_Nw.warmM hW c11⟩⟩ rfl (by rw [List.length_map]; exact hn) hsz (by simp [hb_cv]) (by rw [hb_ca_sum]; show 2 * 0 + _ ≤ 8; omega) hd ⟨h1, h2⟩) hH.2.2 h
theorem hc_callS (C : hc_C own nm cc nL (d + 1) p R s m args meth c D cA) (hd : decode cc pc = .ok (.invokestatic index, 3)) (hm : Cond.methodLink own index y2 ∈ hb_tb) (hf : hb_MF y2 cc2 nL2 none n) (hi : Cond.static y2 ∈ hb_tb) (hn : As.length = n) (hlen : (hb_fl As).length ≤ nL2) (hroom : (rest.map hb_ca).sum ≤ 8)
    (hG : hc_G y2.cls y2.name cc2 nL2 d 0 (hb_en nL2 As) [] L L1 k1 s1) (hH : hc_H D cA Hb L H locs) (hsz : lsm.size = nL) (h1 : cells + k1 ≤ R.cells) (h2 : slots + s1 ≤ R.slots)
    (h : ∀ (H1 : Heap) (locs1 : List Loc), hc_H D cA Hb L1 H1 locs1 → W p l e R s m args below meth c H1 locs1 (cells + k1) (slots + s1) Z (F0 m (pc + 3) lsm (rest.map (hb_cv (hc_ad Hb.size))))) : W p l e R s m args below meth c H locs cells slots Z (F0 m pc lsm ((As.reverse ++ rest).map (hb_cv (hc_ad Hb.size)))) := by
  obtain ⟨c1, c2, c3, c4, c5, c6, ⟨c7, c8⟩, c9, c10, c11⟩ := C
  have hM := hc_met l D cA Hb hf hlen hG
  obtain ⟨f1, f2, f3, f4, f5⟩ := hf
  have hGd : GoodIn hb_tb (Cond.code y2 cc2 nL2 none :: hb_tb) := fun x hx => by
    rcases List.mem_cons.mp hx with q1 | q1
    · rw [q1]; exact ⟨f1, hb_good _ f1⟩
    · exact ⟨q1, hb_good _ q1⟩
  have cw : CallB R s args own index y2 cc2 nL2 none (Cond.code y2 cc2 nL2 none :: hb_tb) (hc_rm d k1 s1) k1 s1 n ∧ (Cond.static y2).before args s = true := ⟨callB_of n c5 hGd rfl rfl rfl (c5 _ f2) (c5 _ hm) f4 ⟨c7, by show 8 + (nL2 + 11) + 64 * d ≤ R.locals; omega⟩, c5 _ hi⟩
  exact hc_after (rest := rest.map (hb_cv (hc_ad Hb.size))) (va_runS (As := As.map (hb_cv (hc_ad Hb.size))) (rest := rest.map (hb_cv (hc_ad Hb.size))) ⟨c1, c2, c3, c4, c5⟩ hM cw ⟨hc_blind, fun U hU hW => ⟨rfl, by rw [hU]; exact hH.nil, va_K.moved hW.alike c6, va_Nw.warmM hW c10, va_Nw.warmM hW c11⟩⟩ rfl (by rw [List.length_map]; exact hn) hsz (by simp [hb_cv]) (by rw [hb_ca_sum]; show 2 * 0 + _ ≤ 8; omega) hd ⟨h1, h2⟩) hH.2.2 h
end HCK
set_option maxHeartbeats 4000000 in
theorem hc_sound : ∀ (n d : Nat) (own nm : String) (cc : ByteArray) (nL pc : Nat) (ls : List (Option hb_V)) (st : List hb_V) (L Le : List hc_A) (kc ks : Nat), hc_run n d own nm cc nL pc ls st L = some (Le, kc, ks) → hc_G own nm cc nL d pc ls st L Le kc ks
  | 0, _, _, _, _, _, _, _, _, _, _, _, _, h => by cases h
  | n + 1, d, own, nm, cc, nL, pc, ls, st, L, Le, kc, ks, h => by
    intro p l e R s m args below meth c cells slots D cA Hb Z C hkc hks Kz H locs lsm hH hA
    unfold hc_run at h
    split at h
    · cases h
    · rename_i i len hd
      split at h
      · -- return
        split at h
        · rename_i hl
          obtain ⟨hl, hz⟩ := hl
          subst hl
          have hst := List.length_eq_zero_iff.mp hz
          subst hst
          cases h
          exact Kz H locs pc lsm hH hd
        · cases h
      · -- invokespecial
        rename_i ix
        split at h
        · cases h
        · rename_i d2
          split at h
          · rename_i hol
            have hm := hc_ol_ok _ (List.contains_iff_mem.mp hol)
            split at h
            · rename_i q rest
              split at h
              · rename_i hl
                obtain ⟨hl, hr⟩ := hl
                subst hl
                have ih := hc_sound n (d2 + 1) own nm cc nL (pc + 3) ls rest L Le kc ks h
                exact hc_obj C hd hm hA.1 (by rw [hb_ca_sum]; exact hr) (ih p l e R s m args below meth c cells slots D cA Hb Z C hkc hks Kz H locs lsm hH hA)
              · cases h
            · cases h
          · split at h
            · cases h
            · rename_i x hx
              split at h
              · rename_i hl
                obtain ⟨hl, hb1, hroom, hlen, hfl, hhd⟩ := hl
                subst hl
                split at h
                · cases h
                · rename_i L1 k1 s1 hr1
                  split at h
                  · cases h
                  · rename_i L2 k2 s2 hr2
                    cases h
                    obtain ⟨g1, g2, g3⟩ := hc_find hx
                    obtain ⟨m1, m2, m3, m4⟩ := hc_cl_ok x g1
                    rw [g2, g3] at m1
                    obtain ⟨m5, m6⟩ := m3 hb1
                    have ih1 := hc_sound n d2 _ _ _ _ _ _ _ _ _ _ _ hr1
                    have ih2 := hc_sound n (d2 + 1) _ _ _ _ _ _ _ _ _ _ _ hr2
                    have hsplit : st = st.take (x.2.2.2.2.2.2 + 1) ++ st.drop (x.2.2.2.2.2.2 + 1) := (List.take_append_drop _ _).symm
                    generalize st.drop (x.2.2.2.2.2.2 + 1) = rest at hsplit hroom hr2 ih2
                    generalize htk : st.take (x.2.2.2.2.2.2 + 1) = tk at hsplit hlen hfl hhd hr1 ih1
                    subst hsplit
                    have hrev : tk = tk.reverse.reverse := (List.reverse_reverse tk).symm
                    have hlr : tk.reverse.length = x.2.2.2.2.2.2 + 1 := by rw [List.length_reverse]; exact hlen
                    generalize tk.reverse = tr at hrev hlr hfl hhd hr1 ih1
                    subst hrev
                    obtain ⟨q, As, etr⟩ := hc_hd_ok hhd
                    subst etr
                    have hAs : As.length = x.2.2.2.2.2.2 := by simpa using hlr
                    have hk := hc_callI (rest := rest) (Z := Z) (Hb := Hb) (H := H) (locs := locs) (lsm := lsm) (l := l) (e := e) (below := below) (cells := cells) (slots := slots) (As := As) (q := q) C hd m1 m2 m5 m6 hAs hfl hroom ih1 hH hA.1 (by omega) (by omega) (fun H1 locs1 hH1 => by
                      refine ih2 p l e R s m args below meth c (cells + k1) (slots + s1) D cA Hb Z C (by omega) (by omega) ?_ H1 locs1 lsm hH1 hA
                      intro H3 locs3 pc3 lsm3 hH3 hd3
                      have := Kz H3 locs3 pc3 lsm3 hH3 hd3
                      rw [Nat.add_assoc, Nat.add_assoc]
                      exact this)
                    have e0 : (Sum.inr (Sum.inr (some q)) :: As).reverse ++ rest = As.reverse ++ Sum.inr (Sum.inr (some q)) :: rest := by simp
                    rw [e0]
                    exact hk
              · cases h
      · -- invokestatic
        rename_i ix
        split at h
        · cases h
        · rename_i d2
          split at h
          · cases h
          · rename_i x hx
            split at h
            · rename_i hl
              obtain ⟨hl, hb1, hroom, hlen, hfl⟩ := hl
              subst hl
              split at h
              · cases h
              · rename_i L1 k1 s1 hr1
                split at h
                · cases h
                · rename_i L2 k2 s2 hr2
                  cases h
                  obtain ⟨g1, g2, g3⟩ := hc_find hx
                  obtain ⟨m1, m2, m3, m4⟩ := hc_cl_ok x g1
                  rw [g2, g3] at m1
                  have m5 := m4 hb1
                  have ih1 := hc_sound n d2 _ _ _ _ _ _ _ _ _ _ _ hr1
                  have ih2 := hc_sound n (d2 + 1) _ _ _ _ _ _ _ _ _ _ _ hr2
                  have hsplit : st = st.take x.2.2.2.2.2.2 ++ st.drop x.2.2.2.2.2.2 := (List.take_append_drop _ _).symm
                  generalize st.drop x.2.2.2.2.2.2 = rest at hsplit hroom hr2 ih2
                  generalize htk : st.take x.2.2.2.2.2.2 = tk at hsplit hlen hfl hr1 ih1
                  subst hsplit
                  have hrev : tk = tk.reverse.reverse := (List.reverse_reverse tk).symm
                  have hlr : tk.reverse.length = x.2.2.2.2.2.2 := by rw [List.length_reverse]; exact hlen
                  generalize tk.reverse = tr at hrev hlr hfl hr1 ih1
                  subst hrev
                  exact hc_callS (rest := rest) (Z := Z) (Hb := Hb) (H := H) (locs := locs) (lsm := lsm) (l := l) (e := e) (below := below) (cells := cells) (slots := slots) (As := tr) C hd m1 m2 m5 hlr hfl hroom ih1 hH hA.1 (by omega) (by omega) (fun H1 locs1 hH1 => by
                    refine ih2 p l e R s m args below meth c (cells + k1) (slots + s1) D cA Hb Z C (by omega) (by omega) ?_ H1 locs1 lsm hH1 hA
                    intro H3 locs3 pc3 lsm3 hH3 hd3
                    have := Kz H3 locs3 pc3 lsm3 hH3 hd3
                    rw [Nat.add_assoc, Nat.add_assoc]
                    exact this)
            · cases h
      · split at h
        · cases h
        · rename_i pc1 ls1 st1 L1 dc ds hs
          split at h
          · cases h
          · rename_i L2 k2 s2 hr
            cases h
            have ih := hc_sound n d _ _ _ _ _ _ _ _ _ _ _ hr
            refine hc_st_ok C hd hs hH hA (by omega) (by omega) ?_
            intro H1 locs1 lsm1 hH1 hA1
            refine ih p l e R s m args below meth c (cells + dc) (slots + ds) D cA Hb Z C (by omega) (by omega) ?_ H1 locs1 lsm1 hH1 hA1
            intro H3 locs3 pc3 lsm3 hH3 hd3
            have := Kz H3 locs3 pc3 lsm3 hH3 hd3
            rw [Nat.add_assoc, Nat.add_assoc]
            exact this
