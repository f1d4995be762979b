/-! ===== the model: codes told, marks, books laid ===== -/
/-- slot k of the model's told codes holds C -/
def mC (w : hb_W) (k : Nat) (C : List Nat) : Prop := ∃ a, hb_aI w 12 15 0 (21 + k) = nI a ∧ hb_aI w 12 16 0 (21 + k) = nI (a + C.length) ∧ a + C.length ≤ 1600 ∧ ∀ i c, C[i]? = some c → hb_aI w 12 17 0 (1600 + (a + i)) = nI c
theorem tyR_C {m : Nat} : ∀ {C : List Nat} {t t' : List Bool}, tyR m C t = some t' → ∀ c ∈ C, c < 11000
  | [], _, _, _ => fun c hc => by cases hc
  | x :: C, t, t', h => by
    obtain ⟨t1, h1, h2⟩ := Option.bind_eq_some_iff.mp h
    intro c hc
    rcases List.mem_cons.mp hc with e | e
    · rw [e]
      rcases ty1_cases h1 with ⟨_, z, _⟩ | ⟨z, _⟩ | ⟨_, z, _⟩ | ⟨z, _⟩ | ⟨z, _⟩ | ⟨_, z, _⟩ <;> omega
    · exact tyR_C h2 c e
section HMF
variable {d : Nat} {w : hb_W} {Q : Option hb_V → hb_W → Prop}
theorem om_qPartOf0 {k : Nat} {x2 : Int32} {v : Int} (hk : k < 4) (ht : ¬ hb_fI w 12 31 0 = 2) (hv : hb_fI w 12 (34 + k) 0 = jI v) (hB : jB v) (q : Q (some (hb_l (jL v))) w) : hb_O yX12_qPartOf cX12_qPartOf 3 (some .long) (d + 1) [hb_r 12 0 0, hb_i (nI k), hb_i x2] w Q := by
  have h1 := hB.1; have h2 := hB.2
  have e : (hb_fI w 12 (34 + k) 0).toInt64 = jL v := by rw [hv, jI_L (by omega)]
  have hk4 : k = 0 ∨ k = 1 ∨ k = 2 ∨ k = 3 := by omega
  rw [← e] at q
  rcases hk4 with rfl | rfl | rfl | rfl
  · exact bk_X12_qPartOf_0 ⟨fun _ => ⟨fun _ => q, fun z => absurd z ht⟩, fun z => absurd z (by decide), fun z => absurd z (by decide), fun z => absurd z (by decide), fun z => absurd z (by decide), fun z => absurd z (by decide), fun z => absurd (by decide) z⟩
  · exact bk_X12_qPartOf_0 ⟨fun z => absurd z (by decide), fun _ => q, fun z => absurd z (by decide), fun z => absurd z (by decide), fun z => absurd z (by decide), fun z => absurd z (by decide), fun _ z => absurd (by decide) z⟩
  · exact bk_X12_qPartOf_0 ⟨fun z => absurd z (by decide), fun z => absurd z (by decide), fun _ => q, fun z => absurd z (by decide), fun z => absurd z (by decide), fun z => absurd z (by decide), fun _ _ z => absurd (by decide) z⟩
  · exact bk_X12_qPartOf_0 ⟨fun z => absurd z (by decide), fun z => absurd z (by decide), fun z => absurd z (by decide), fun _ => ⟨fun _ => q, fun z => absurd z ht⟩, fun z => absurd z (by decide), fun z => absurd z (by decide), fun _ _ _ z => absurd (by decide) z⟩
set_option maxHeartbeats 1000000 in
theorem om_codesTell {k : Nat} {C : List Nat} {P : Nat → Prop} {pt : Nat → Int} (hk : k < 21) (hC : mC w k C) (hok : sp_okC P C) (hp : ∀ j, j < 7 → P j → j < 4 ∧ hb_fI w 12 (34 + j) 0 = jI (pt j) ∧ jB (pt j))
    (q : ∀ w2, jB (sp_ev C pt sp_fo0) → hm_ag [31, 86] [56] w w2 → Q (some (hb_l (jL (sp_ev C pt sp_fo0)))) w2) : hb_O yX12_codesTell cX12_codesTell 4 (some .long) (d + 3) [hb_r 12 0 0, hb_i (nI k)] w Q := by
  obtain ⟨a, ha, hb, hsz, hcs⟩ := hC
  have e21 : (21 : Int32) + nI k = nI (21 + k) := nI_add 21 k
  have v21 : vp_in ((21 : Int32) + nI k) 42 := by rw [e21]; exact vp_in_nI (by omega) (by decide)
  have key : ∀ (E D : List Nat), C = D ++ E → ∀ (s : List Int) (t : List Bool) (w' : hb_W), evR pt sp_fo0 D [] = s → tyR 64 E t = some [false] → tyS s t → t.length ≤ 64 → stkL (hb_aL w' 12 56 0) s → hb_fI w' 12 86 0 = nI s.length → ¬ hb_fI w' 12 31 0 = 2 → hm_ag [31, 86] [56] w w' → hb_R yX12_codesTell cX12_codesTell 4 (some .long) (d + 2 + 1) 30 [some (hb_r 12 0 0), some (hb_i (nI k)), some (hb_i (nI (a + D.length))), none] [] w' Q := by
    intro E
    induction E with
    | nil =>
      intro D hD s t w' hs ht hts h64 hst h86 h31 hag
      rw [List.append_nil] at hD
      subst hD
      have e : t = [false] := (Option.some.inj ht)
      subst e
      cases s with
      | nil => exact False.elim hts
      | cons v s =>
        cases s with
        | cons _ _ => exact False.elim hts.2.2
        | nil =>
          refine bk_X12_codesTell_30 ⟨v21, fun _ => ?_, fun c => absurd ?_ c⟩
          · have e2 : hb_aL w' 12 56 0 (0 : Int32).toNatClampNeg = jL v := hst.1
            have e3 : sp_ev C pt sp_fo0 = v := by unfold sp_ev; rw [hs]; rfl
            have := q w'
            rw [e3] at this
            rw [e2]
            exact this hts.1 hag
          · rw [e21, nI_clamp (by omega), hag.A 16, hb]
            exact nI_le (Nat.le_refl _) (by omega)
    | cons c E ih =>
      intro D hD s t w' hs ht hts h64 hst h86 h31 hag
      have hcm : c ∈ C := by rw [hD]; exact List.mem_append_right _ List.mem_cons_self
      have hcl : D.length < C.length := by rw [hD, List.length_append, List.length_cons]; omega
      have hcell : hb_aI w' 12 17 0 (1600 + (a + D.length)) = nI c := by
        rw [hag.A 17]
        exact hcs D.length c (by rw [hD, List.getElem?_append_right (Nat.le_refl _), Nat.sub_self]; rfl)
      have hclt : c < 11000 := tyR_C hok.1 c hcm
      obtain ⟨t', ht1, ht2⟩ := Option.bind_eq_some_iff.mp ht
      have hlen := tyS_len hts
      have hcP : ∀ j, c = 40 + j → j < 7 → P j := fun j z z1 => by
        rcases hok.2 _ hcm with y | y | ⟨i, i1, i2, i3⟩
        · omega
        · omega
        · have : i = j := by omega
          exact this ▸ i2
      have hpB : ∀ j, c = 40 + j → j < 7 → jB (pt j) := fun j z z1 => (hp j z1 (hcP j z z1)).2.2
      have hfB : ∀ j v, c = 60 + j → j < 2 → jB (sp_fo0 j v) := fun j v z z1 => by
        exfalso
        rcases hok.2 _ hcm with y | y | ⟨i, i1, i2, i3⟩ <;> omega
      have h64' : t'.length ≤ 64 := by
        rcases ty1_cases ht1 with ⟨_, _, c3, e⟩ | ⟨_, e, _⟩ | ⟨_, _, c3, e⟩ | ⟨_, c3, e⟩ | ⟨_, e, _⟩ | ⟨_, _, t0, e2, e⟩
        · rw [e, List.length_cons]; omega
        · rw [e]; exact h64
        · rw [e, List.length_cons]; omega
        · rw [e, List.length_cons]; omega
        · rw [e]; exact h64
        · rw [e2, List.length_cons, List.length_cons] at h64
          rw [e, List.length_cons]; omega
      have hts' := ty_step ht1 hts hpB hfB
      have next : ∀ w2 : hb_W, stkL (hb_aL w2 12 56 0) (ev1 pt sp_fo0 s c) → hb_fI w2 12 86 0 = nI (ev1 pt sp_fo0 s c).length → hm_ag [86] [56] w' w2 → ∀ x3 : Int32, hb_R yX12_codesTell cX12_codesTell 4 (some .long) (d + 2 + 1) 101 [some (hb_r 12 0 0), some (hb_i (nI k)), some (hb_i (nI (a + D.length))), some (hb_i x3)] [] w2 Q := by
        intro w2 g1 g2 g3 x3
        refine bk_X12_codesTell_101 ?_
        rw [nI_1]
        refine hx_last (l := [_, _, _]) ?_
        have := ih (D ++ [c]) (by rw [hD]; simp) _ t' w2 (by rw [evR_app, hs]) ht2 hts' h64' g1 g2 (by rw [g3.I 31]; exact h31) (hag.tr (g3.wk (by decide) (fun x hx => hx)))
        rw [List.length_append, List.length_singleton, ← Nat.add_assoc] at this
        exact this
      have e16 : (1600 : Int32) + nI (a + D.length) = nI (1600 + (a + D.length)) := nI_add 1600 (a + D.length)
      refine bk_X12_codesTell_30 ⟨v21, fun z => absurd z ?_, fun _ => ?_⟩
      · rw [e21, nI_clamp (by omega), hag.A 16, hb]
        exact nI_ge (by omega) (by omega)
      rw [e16, nI_clamp (by omega), hcell]
      have e1000 : (1000 : Int32) = nI 1000 := rfl
      have e40 : (40 : Int32) = nI 40 := rfl
      rw [e1000, e40, nI_ltI (by omega) (by omega), nI_ltI (by omega) (by omega)]
      refine ⟨vp_in_nI (by omega) (by decide), fun z1 => ⟨fun z2 => ?_, fun z2 => ?_⟩, fun z1 => ?_⟩
      · rcases ty1_cases ht1 with ⟨c1, c2, c3, e⟩ | ⟨c1, e, t0, e2⟩ | ⟨c1, c2, c3, e⟩ | ⟨c1, c3, e⟩ | ⟨c1, e, t0, e2⟩ | ⟨c1, c2, t0, e2, e⟩
        · omega
        · omega
        · omega
        · exfalso
          rcases hok.2 _ hcm with y | y | ⟨i, i1, i2, i3⟩ <;> omega
        · exfalso
          rcases hok.2 _ hcm with y | y | ⟨i, i1, i2, i3⟩ <;> omega
        · subst e2
          cases s with
          | nil => exact False.elim hts
          | cons u s =>
            cases s with
            | nil => exact False.elim hts.2.2
            | cons u2 s =>
              simp only [List.length_cons] at hlen h64
              have ev : ev1 pt sp_fo0 (u :: u2 :: s) c = ev_op c u2 u :: s := by
                unfold ev1
                rw [if_neg (by omega), if_neg (by omega), if_neg (by omega), if_neg (by omega), if_neg (by omega)]
              refine om_qJoins c1 c2 hts.2.2.1 hts.1 (fun z10 => ?_) h86 (by omega) hst (fun w2 g1 g2 g3 => ?_)
              · exact ⟨hts.2.2.2.1 (by simp; exact z10), hts.2.1 (by simp; exact z10)⟩
              · refine next w2 ?_ ?_ g1 _
                · rw [ev]; exact g2
                · rw [ev]; exact g3
      · rcases hok.2 _ hcm with y | y | ⟨j, j1, j2, j3⟩
        · omega
        · omega
        · obtain ⟨p1, p2, p3⟩ := hp j j1 j2
          have ec : nI c - nI 40 = nI j := by rw [pk_sub (by omega), j3]; congr 1; omega
          have ev : ev1 pt sp_fo0 s c = pt j :: s := by
            unfold ev1
            rw [if_neg (by omega), if_neg (by omega), if_pos (by omega), show c - 40 = j by omega]
          rw [ec]
          refine om_qPartOf0 p1 h31 (by rw [hag.I (34 + j) (by simp; omega)]; exact p2) p3 ?_
          refine bk_X12_codesTell_90 ?_
          refine om_qPuts h86 (by omega) hst (fun w2 g1 g2 g3 => ?_)
          refine bk_X12_codesTell_93 (next w2 ?_ ?_ g1 _)
          · rw [ev]; exact g2
          · rw [ev]; exact g3
      · have ev : ev1 pt sp_fo0 s c = ((c - 1000 : Nat) : Int) :: s := by
          unfold ev1
          rw [if_pos (by omega)]
        have ec : (nI c - nI 1000).toInt64 = jL ((c - 1000 : Nat) : Int) := by rw [pk_sub (by omega), nI_l (by omega), jL_n (by omega)]
        rw [ec]
        refine om_qPuts h86 (by omega) hst (fun w2 g1 g2 g3 => ?_)
        refine bk_X12_codesTell_71 (next w2 ?_ ?_ g1 _)
        · rw [ev]; exact g2
        · rw [ev]; exact g3
  have ea : hb_aI w 12 15 0 ((21 : Int32) + nI k).toNatClampNeg = nI a := by rw [e21, nI_clamp (by omega)]; exact ha
  refine bk_X12_codesTell_0 ⟨fun _ => ⟨v21, ?_⟩, fun _ => ⟨v21, ?_⟩⟩
  · rw [ea]
    exact key C [] rfl [] [] _ rfl hok.1 trivial (by decide) trivial rfl (by show ¬ hb_u3 (hb_u3 w.1 12 31 0 0) 12 86 0 0 12 31 0 = 2; rw [hb_u3_tk _ _ _ _ _ (by decide), hb_u3_s]; decide) ((hm_ag.rf.pI (by decide)).pI (by decide))
  · rw [ea]
    exact key C [] rfl [] [] _ rfl hok.1 trivial (by decide) trivial rfl (by show ¬ hb_u3 (hb_u3 w.1 12 31 0 1) 12 86 0 0 12 31 0 = 2; rw [hb_u3_tk _ _ _ _ _ (by decide), hb_u3_s]; decide) ((hm_ag.rf.pI (by decide)).pI (by decide))
/-- the model's mix -/
def mMx (w : hb_W) (mix : Option (List Nat)) : Prop := match mix with
  | none => hb_aI w 12 15 0 41 = -1
  | some C => mC w 20 C ∧ sp_okMix C
theorem mMx.ag {K J : List Nat} {w w2 : hb_W} {mix : Option (List Nat)} (h : mMx w mix) (ha : hm_ag K J w w2) (h15 : ¬ 15 ∈ J) (h16 : ¬ 16 ∈ J) (h17 : ¬ 17 ∈ J) : mMx w2 mix := by
  cases mix with
  | none =>
    show hb_aI w2 12 15 0 41 = -1
    rw [ha.A 15 h15]; exact h
  | some C =>
    obtain ⟨⟨a, h1, h2, h3, h4⟩, h5⟩ := h
    exact ⟨⟨a, by rw [ha.A 15 h15]; exact h1, by rw [ha.A 16 h16]; exact h2, h3, fun i c hi => by rw [ha.A 17 h17]; exact h4 i c hi⟩, h5⟩
theorem sp_plain_ev {h l c : Nat} (hh : h < 64) (hl : l < 9) (hc : c < 100) : sp_ev sp_plain (sp_pt h 0 l c) sp_fo0 = (h : Int) * 619 + (l : Int) * 211 + (c : Int) * 97 := by
  have e : sp_ev sp_plain (sp_pt h 0 l c) sp_fo0 = ev_cl (ev_cl (ev_cl ((h : Int) * 619) + ev_cl ((l : Int) * 211)) + ev_cl ((c : Int) * 97)) := rfl
  rw [e, ev_cl_s (v := (h : Int) * 619) (by unfold jB; omega), ev_cl_s (v := (l : Int) * 211) (by unfold jB; omega), ev_cl_s (v := (c : Int) * 97) (by unfold jB; omega), ev_cl_s (v := (h : Int) * 619 + (l : Int) * 211) (by unfold jB; omega), ev_cl_s (by unfold jB; omega)]
theorem om_markOf55 {v : Int} {x1 x2 x3 : Int32} (hv : jB v) (q : Q (some (hb_i (nI (sp_md v)))) w) : hb_R yX12_markOf cX12_markOf 8 (some .int) (d + 1) 55 [some (hb_r 12 0 0), some (hb_i x1), some (hb_i x2), some (hb_i x3), none, none, none, none] [hb_l (jL v)] w Q := by
  have hb : jB 1000 := by unfold jB; omega
  have em : v - v.tdiv 1000 * 1000 = v.tmod 1000 := by have := Int.tmod_add_tdiv_mul v 1000; omega
  have hn : (v.tmod 1000).natAbs = v.natAbs % 1000 := by rw [Int.natAbs_tmod]; rfl
  have hlt := Nat.mod_lt v.natAbs (show 0 < 1000 by decide)
  have hB : jB (v.tmod 1000) := by unfold jB; omega
  have hmd := sp_md_lt v
  have es : sp_md v = (if v.tmod 1000 < 0 then v.tmod 1000 + 1000 else v.tmod 1000).toNat := rfl
  refine bk_X12_markOf_55 ?_
  rw [show (1000 : Int64) = jL 1000 by decide, jL_rem hv hb, em, lg_cmp_ge, show (0 : Int64) = jL 0 by decide, jL_le (by omega) (by omega), jL_add hB hb, jL_I (by omega), jL_I (by omega)]
  refine ⟨fun c => ?_, fun c => ?_⟩
  · rw [if_neg (by omega)] at es
    have e3 : nI (sp_md v) = jI (v.tmod 1000) := by rw [← jI_n (by omega), es, Int.toNat_of_nonneg c]
    rw [e3] at q
    exact q
  · rw [if_pos (by omega)] at es
    have e3 : nI (sp_md v) = jI (v.tmod 1000 + 1000) := by rw [← jI_n (by omega), es, Int.toNat_of_nonneg (by omega)]
    rw [e3] at q
    exact q
theorem om_markOf {h l c : Nat} {mix : Option (List Nat)} (hh : h < 64) (hl : l < 9) (hc : c < 100) (hM : mMx w mix) (q : ∀ w2, hm_ag [31, 34, 36, 37, 86] [56] w w2 → Q (some (hb_i (nI (sp_mark (sp_mxC mix) c h l)))) w2) : hb_O yX12_markOf cX12_markOf 8 (some .int) (d + 4) [hb_r 12 0 0, hb_i (nI h), hb_i (nI l), hb_i (nI c)] w Q := by
  have ag3 : hm_ag [31, 34, 36, 37, 86] [56] w (hb_pI (hb_pI (hb_pI w 12 34 0 (nI h)) 12 36 0 (nI l)) 12 37 0 (nI c)) := ((hm_ag.rf.pI (by decide)).pI (by decide)).pI (by decide)
  cases mix with
  | none =>
    have hM' : hb_aI w 12 15 0 41 = -1 := hM
    refine bk_X12_markOf_0 ⟨fun z => absurd hM' z, fun _ => ?_⟩
    have ev : (((nI h).toInt64 * (619 : Int64)) + ((nI l).toInt64 * (211 : Int64))) + ((nI c).toInt64 * (97 : Int64)) = jL ((h : Int) * 619 + (l : Int) * 211 + (c : Int) * 97) := by
      rw [nI_l (by omega), nI_l (by omega), nI_l (by omega), show (619 : Int64) = lN 619 from rfl, show (211 : Int64) = lN 211 from rfl, show (97 : Int64) = lN 97 from rfl, lN_mul, lN_mul, lN_mul, lN_add, lN_add, ← jL_n (by omega)]
      congr 1
    rw [ev, ← sp_plain_ev hh hl hc]
    refine om_markOf55 (v := sp_ev sp_plain (sp_pt h 0 l c) sp_fo0) (by rw [sp_plain_ev hh hl hc]; unfold jB; omega) (q _ ag3)
  | some C =>
    obtain ⟨hC, hok⟩ := hM
    refine bk_X12_markOf_0 ⟨fun _ => ?_, fun z => ?_⟩
    · refine om_codesTell (k := 20) (P := fun k => k = 0 ∨ k = 2 ∨ k = 3) (pt := sp_pt h 0 l c) (by decide) hC hok (fun j hj hP => ?_) (fun w2 hv hag => ?_)
      · rcases hP with z | z | z
        · subst z
          exact ⟨by decide, (jI_n (n := h) (by omega)).symm, by show jB (h : Int); unfold jB; omega⟩
        · subst z
          exact ⟨by decide, (jI_n (n := l) (by omega)).symm, by show jB (l : Int); unfold jB; omega⟩
        · subst z
          exact ⟨by decide, (jI_n (n := c) (by omega)).symm, by show jB (c : Int); unfold jB; omega⟩
      · exact om_markOf55 hv (q w2 (ag3.tr (hag.wk (by decide) (fun x hx => hx))))
    · exfalso
      obtain ⟨a, h1, h2, h3, h4⟩ := hC
      have z' : hb_aI w 12 15 0 (21 + 20) = -1 := z
      rw [h1] at z'
      exact hx_ne (by omega) z'
theorem om_laysMarks {c : Nat} {mix : Option (List Nat)} (hc : c < 100) (hM : mMx w mix) (q : ∀ w2, hm_mk w2 (sp_mark (sp_mxC mix) c) → hm_ag [31, 34, 36, 37, 86] [20, 56] w w2 → Q none w2) : hb_O yX12_laysMarks cX12_laysMarks 4 none (d + 5) [hb_r 12 0 0, hb_i (nI c)] w Q := by
  have inner : ∀ (h : Nat), h < 64 → (∀ w', (∀ h' l', l' < 9 → h' < h + 1 → hb_aI w' 12 20 0 (9 * h' + l') = nI (sp_mark (sp_mxC mix) c h' l')) → hm_ag [31, 34, 36, 37, 86] [20, 56] w w' → hb_R yX12_laysMarks cX12_laysMarks 4 none (d + 4 + 1) 2 [some (hb_r 12 0 0), some (hb_i (nI c)), some (hb_i (nI (h + 1))), none] [] w' Q) → ∀ (n l : Nat), l + n = 9 → ∀ w', (∀ h' l', l' < 9 → (h' < h ∨ (h' = h ∧ l' < l)) → hb_aI w' 12 20 0 (9 * h' + l') = nI (sp_mark (sp_mxC mix) c h' l')) → hm_ag [31, 34, 36, 37, 86] [20, 56] w w' → hb_R yX12_laysMarks cX12_laysMarks 4 none (d + 4 + 1) 10 [some (hb_r 12 0 0), some (hb_i (nI c)), some (hb_i (nI h)), some (hb_i (nI l))] [] w' Q := by
    intro h hh go n
    induction n with
    | zero =>
      intro l hl w' hm hag
      rw [Nat.add_zero] at hl
      subst hl
      refine bk_X12_laysMarks_10 ⟨fun _ => ?_, fun z => absurd (nI_le (Nat.le_refl 9) (by decide)) z⟩
      rw [nI_1]
      refine hx_last (l := [_, _, _]) (go w' (fun h' l' h1 h2 => hm h' l' h1 ?_) hag)
      rcases Nat.lt_or_ge h' h with z | z
      · exact Or.inl z
      · exact Or.inr ⟨by omega, h1⟩
    | succ n ih =>
      intro l hl w' hm hag
      refine bk_X12_laysMarks_10 ⟨fun z => absurd z (nI_ge (b := 9) (by omega) (by decide)), fun _ => ?_⟩
      refine om_markOf hh (by omega) hc (hM.ag hag (by decide) (by decide) (by decide)) (fun w2 g1 => ?_)
      have e1 : (9 : Int32) * nI h + nI l = nI (9 * h + l) := by rw [show (9 : Int32) = nI 9 from rfl, pk_mul, nI_add]
      rw [e1]
      refine bk_X12_laysMarks_33 ⟨vp_in_nI (by omega) (by decide), ?_⟩
      rw [nI_clamp (by omega), nI_1]
      refine ih (l + 1) (by omega) _ (fun h' l' h1 h2 => ?_) ((hag.tr (g1.wk (fun x hx => hx) (by decide))).sI (by decide))
      rw [hw_aIs]
      unfold upd
      by_cases e : 9 * h' + l' = 9 * h + l
      · have a1 : h' = h := by omega
        have a2 : l' = l := by omega
        rw [if_pos e, a1, a2]
      · rw [if_neg e, g1.A 20]
        refine hm h' l' h1 ?_
        rcases h2 with z | z
        · exact Or.inl z
        · refine Or.inr ⟨z.1, ?_⟩
          have : l' ≠ l := fun y => e (by rw [z.1, y])
          omega
  have outer : ∀ (n h : Nat), h + n = 64 → ∀ w', (∀ h' l', l' < 9 → h' < h → hb_aI w' 12 20 0 (9 * h' + l') = nI (sp_mark (sp_mxC mix) c h' l')) → hm_ag [31, 34, 36, 37, 86] [20, 56] w w' → hb_R yX12_laysMarks cX12_laysMarks 4 none (d + 4 + 1) 2 [some (hb_r 12 0 0), some (hb_i (nI c)), some (hb_i (nI h)), none] [] w' Q := by
    intro n
    induction n with
    | zero =>
      intro h hh w' hm hag
      rw [Nat.add_zero] at hh
      subst hh
      exact bk_X12_laysMarks_2 ⟨fun _ => q w' (fun h' l' h1 h2 => ⟨hm h' l' h2 h1, sp_md_lt _⟩) hag, fun z => absurd (nI_le (Nat.le_refl 64) (by decide)) z⟩
    | succ n ih =>
      intro h hh w' hm hag
      refine bk_X12_laysMarks_2 ⟨fun z => absurd z (nI_ge (b := 64) (by omega) (by decide)), fun _ => ?_⟩
      refine inner h (by omega) (fun w2 g1 g2 => ih (h + 1) (by omega) w2 g1 g2) 9 0 (by decide) w' (fun h' l' h1 h2 => ?_) hag
      rcases h2 with z | z
      · exact hm h' l' h1 z
      · omega
  exact bk_X12_laysMarks_0 (outer 64 0 (by decide) w (fun h' l' _ z => absurd z (Nat.not_lt_zero _)) hm_ag.rf)
theorem om_lays {b c L R : Nat} {mix : Option (List Nat)} {P : List (Nat × Nat × Nat)} (hb : b < 3) (hc : c < 100) (hM : mMx w mix) (hL0 : 1 ≤ L) (hL : L ≤ 9) (hR0 : 1 ≤ R) (hR : R ≤ 3) (h2 : hb_aI w 12 13 0 2 = nI L) (hr : hb_aI w 12 13 0 3 = nI R) (hcn : hb_aI w 12 18 0 0 = nI c) (hn : hb_aI w 12 18 0 1 = nI P.length) (hlen : P.length ≤ 401) (ho : sp_okP P) (hP : mP w P)
    (qq : ∀ w2, mB w2 L R (sp_mark (sp_mxC mix) c) (sp_bk b P) → hm_mk w2 (sp_mark (sp_mxC mix) c) → hm_ag [31, 34, 36, 37, 39, 40, 44, 45, 86] [20, 21, 23, 24, 25, 26, 27, 28, 29, 30, 56] w w2 → Q none w2) : hb_O yX12_lays cX12_lays 2 none (d + 6) [hb_r 12 0 0, hb_i (nI b)] w Q := by
  refine bk_X12_lays_0 ?_
  rw [show (0 : Int32).toNatClampNeg = 0 from rfl, hcn]
  refine om_laysMarks hc hM (fun w2 g1 g2 => ?_)
  refine bk_X12_lays_10 ?_
  have e2 : hb_aI w2 12 13 0 (2 : Int32).toNatClampNeg = nI L := by
    show hb_aI w2 12 13 0 2 = nI L
    rw [g2.A 13]; exact h2
  rw [e2]
  refine om_laysBook hb hL0 hL hR0 hR (by rw [g2.A 13]; exact hr) g1 (by rw [g2.A 18]; exact hn) hlen ho (fun k p hk => by rw [g2.A 19]; exact hP k p hk) (fun w3 g3 g4 => ?_)
  exact bk_X12_lays_21 (qq w3 g3 (fun h l h1 h2 => by rw [g4.A 20]; exact g1 h l h1 h2) ((g2.wk (by decide) (by decide)).tr (g4.wk (by decide) (by decide))))
end HMF
