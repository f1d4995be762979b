/-! ===== the class's Ledger: bringUp and what it says ===== -/
theorem hx_at {y : MethodName} {cc : ByteArray} {nL : Nat} {ret : Option FieldType} {d pc : Nat} {st : List hb_V} {w : hb_W} {Q : Option hb_V → hb_W → Prop} {l : List (Option hb_V)} (i : Nat) (h : hb_R y cc nL ret d pc (l.set i none) st w Q) : hb_R y cc nL ret d pc l st w Q := by
  refine hb_less (fun j v hv => ?_) h
  by_cases e : j = i
  · subst e
    rw [List.getElem?_set] at hv
    simp only [if_true] at hv
    split at hv <;> simp at hv
  · rw [List.getElem?_set_ne (Ne.symm e)] at hv
    exact hv
theorem cB.ag {Pp : Nat → Nat → Prop} {w w2 : hb_W} {g L R : Nat} {mk : Nat → Nat → Nat} {ps : List (Nat × Nat)} (h : cB w g L R mk ps) (ha : hw_ag Pp w w2) (hn : ¬ Pp 9 g) : cB w2 g L R mk ps := by
  have eI : ∀ k, hb_fI w2 9 k g = hb_fI w 9 k g := fun k => ha.1 9 k g hn
  have eA : ∀ k, hb_aI w2 9 k g = hb_aI w 9 k g := fun k => ha.2.2.2.1 9 k g hn
  unfold cB cT cM0 cM1 cM2 cM3 cM4 at h ⊢
  simp only [eI, eA]
  exact h
theorem cH.ag {Pp : Nat → Nat → Prop} {w w2 : hb_W} {g L R : Nat} {ps : List (Nat × Nat)} (h : cH w g L R ps) (ha : hw_ag Pp w w2) (hn : ¬ Pp 9 g) : cH w2 g L R ps := by
  have eI : ∀ k, hb_fI w2 9 k g = hb_fI w 9 k g := fun k => ha.1 9 k g hn
  have eA : ∀ k, hb_aI w2 9 k g = hb_aI w 9 k g := fun k => ha.2.2.2.1 9 k g hn
  unfold cH cT at h ⊢
  simp only [eI, eA]
  exact h
theorem hw_mk.ag {Pp : Nat → Nat → Prop} {w w2 : hb_W} {i : Nat} {mk : Nat → Nat → Nat} (h : hw_mk w i mk) (ha : hw_ag Pp w w2) (hn : ¬ Pp 5 i) : hw_mk w2 i mk := fun a b h1 h2 => by
  rw [ha.2.2.2.1 5 1 i hn]; exact h a b h1 h2
/-- the class's roll holds the passes P -/
def cP (w : hb_W) (P : List (Nat × Nat × Nat)) : Prop := ∀ k p, P[k]? = some p → hb_aI w 7 1 0 k = nI p.1 ∧ hb_aI w 7 2 0 k = nI p.2.1 ∧ hb_aI w 7 3 0 k = nI p.2.2
theorem cP.ag {Pp : Nat → Nat → Prop} {w w2 : hb_W} {P : List (Nat × Nat × Nat)} (h : cP w P) (ha : hw_ag Pp w w2) (hn : ¬ Pp 7 0) : cP w2 P := fun k p hk => by
  rw [ha.2.2.2.1 7 1 0 hn, ha.2.2.2.1 7 2 0 hn, ha.2.2.2.1 7 3 0 hn]; exact h k p hk
/-- night g1 of the class has the mix C -/
def cMx (w : hb_W) (g1 : Nat) (C : List Nat) : Prop := sp_okMix C ∧ ∃ a, cC w (g1 + 1) a C ∧ hb_fI w 11 13 g1 = nI a ∧ hb_fI w 11 14 g1 = nI (a + C.length)
theorem cC.ag {Pp : Nat → Nat → Prop} {w w2 : hb_W} {g a : Nat} {C : List Nat} (h : cC w g a C) (ha : hw_ag Pp w w2) (hn : ¬ Pp 2 g) : cC w2 g a C := by
  obtain ⟨h1, n, h2, h3, h4⟩ := h
  exact ⟨fun k c hk => by rw [ha.2.2.2.1 2 1 g hn]; exact h1 k c hk, n, h2, by rw [ha.1 2 1 g hn]; exact h3, h4⟩
theorem cMx.ag {Pp : Nat → Nat → Prop} {w w2 : hb_W} {g1 : Nat} {C : List Nat} (h : cMx w g1 C) (ha : hw_ag Pp w w2) (hn : ¬ Pp 2 (g1 + 1)) (hn2 : ¬ Pp 11 g1) : cMx w2 g1 C := by
  obtain ⟨h0, a, h1, h2, h3⟩ := h
  exact ⟨h0, a, h1.ag ha hn, by rw [ha.1 11 13 g1 hn2]; exact h2, by rw [ha.1 11 14 g1 hn2]; exact h3⟩
def cRf (w : hb_W) : Prop := hb_fR w 9 2 0 = 0 ∧ hb_fR w 9 2 1 = 0 ∧ hb_fR w 9 2 2 = 0 ∧ hb_fR w 9 2 3 < 2
/-- what the ledger holds between calls -/
def cLd (w : hb_W) (L R : Nat) (C : List Nat) (P : List (Nat × Nat × Nat)) : Prop := cRf w ∧ (hb_fI w 8 9 0 = -1 ∨ ∃ m, m < 100 ∧ hb_fI w 8 9 0 = nI m ∧ hw_mk w 0 (sp_mark C m)) ∧ (hb_fI w 8 10 0 = -1 ∨ ∃ m k, m < 100 ∧ hb_fI w 8 9 0 = nI m ∧ k ≤ P.length ∧ hb_fI w 8 10 0 = nI k ∧ ∀ b, b < 3 → cB w b L R (sp_mark C m) (sp_bk b (P.take k)))
/-- what it holds when it is brought up -/
def cUp (w : hb_W) (L R : Nat) (C : List Nat) (c : Nat) (P : List (Nat × Nat × Nat)) : Prop := cRf w ∧ hb_fI w 8 9 0 = nI c ∧ hb_fI w 8 10 0 = nI P.length ∧ hw_mk w 0 (sp_mark C c) ∧ ∀ b, b < 3 → cB w b L R (sp_mark C c) (sp_bk b P)
theorem cUp.Ld {w : hb_W} {L R c : Nat} {C : List Nat} {P : List (Nat × Nat × Nat)} (h : cUp w L R C c P) (hc : c < 100) : cLd w L R C P := by
  obtain ⟨h1, h2, h3, h4, h5⟩ := h
  exact ⟨h1, Or.inr ⟨c, hc, h2, h4⟩, Or.inr ⟨c, P.length, hc, h2, Nat.le_refl _, h3, fun b hb => by rw [List.take_length]; exact h5 b hb⟩⟩
theorem cUp.mk0 {w : hb_W} {L R c : Nat} {C : List Nat} {P : List (Nat × Nat × Nat)} (h : cUp w L R C c P) {b : Nat} (hb : b < 3) : hb_fR w 9 2 b < 2 ∧ hw_mk w (hb_fR w 9 2 b) (sp_mark C c) := by
  obtain ⟨⟨a0, a1, a2, a3⟩, h2, h3, h4, h5⟩ := h
  have : hb_fR w 9 2 b = 0 := by
    have : b = 0 ∨ b = 1 ∨ b = 2 := by omega
    rcases this with rfl | rfl | rfl
    · exact a0
    · exact a1
    · exact a2
  rw [this]
  exact ⟨by decide, h4⟩
def aUp (t g : Nat) : Prop := t = 6 ∨ t = 8 ∨ (t = 5 ∧ g = 0) ∨ (t = 9 ∧ g < 3)
theorem cRf.of {w w2 : hb_W} (h : cRf w) (e : w2.2.2.1 = w.2.2.1) : cRf w2 := by
  unfold cRf hb_fR at *
  rw [e]
  exact h
section HLA
variable {d : Nat} {w : hb_W} {Q : Option hb_V → hb_W → Prop}
set_option maxHeartbeats 1000000 in
theorem ok_bringUp {g1 c L R : Nat} {C : List Nat} {P : List (Nat × Nat × Nat)} (hg1 : g1 < 2) (hc : c < 100) (hlen : P.length ≤ 400) (ho : sp_okP P) (hL0 : 1 ≤ L) (hL : L ≤ 9) (hR0 : 1 ≤ R) (hR : R ≤ 3) (hX : cMx w g1 C) (hl : hb_fI w 11 1 g1 = nI L) (hr : hb_fI w 11 2 g1 = nI R) (hP : cP w P) (hn : hb_fI w 7 3 0 = nI P.length) (hcn : hb_fI w 7 4 0 = nI c) (hLd : cLd w L R C P)
    (q : ∀ w2, cUp w2 L R C c P → hw_ag aUp w w2 → w2.2.2.1 = w.2.2.1 → Q none w2) : hb_O yX4_bringUp cX4_bringUp 5 none (d + 5) [hb_r 8 0 0, hb_r 11 g1 0, hb_r 7 0 0] w Q := by
  obtain ⟨hRf, hM, hE⟩ := hLd
  have n7 : ¬ aUp 7 0 := by unfold aUp; omega
  have n11 : ¬ aUp 11 g1 := by unfold aUp; omega
  have n2 : ¬ aUp 2 (g1 + 1) := by unfold aUp; omega
  have a8 : ∀ g, aUp 8 g := fun g => Or.inr (Or.inl rfl)
  have a9 : ∀ g, g < 3 → aUp 9 g := fun g hg => Or.inr (Or.inr (Or.inr ⟨rfl, hg⟩))
  -- the passes not yet entered
  have loop : ∀ (n i : Nat), i + n = P.length → ∀ w', hw_ag aUp w w' → w'.2.2.1 = w.2.2.1 → hb_fI w' 8 9 0 = nI c → hw_mk w' 0 (sp_mark C c) → (∀ b, b < 3 → cB w' b L R (sp_mark C c) (sp_bk b (P.take i))) → hb_R yX4_bringUp cX4_bringUp 5 none (d + 4 + 1) 118 [some (hb_r 8 0 0), some (hb_r 11 g1 0), some (hb_r 7 0 0), some (hb_i (nI i)), none] [] w' Q := by
    intro n
    induction n with
    | zero =>
      intro i hi w' hag hrf h9 hmk hB
      rw [Nat.add_zero] at hi
      subst hi
      have e3 : hb_fI w' 7 3 0 = nI P.length := (hag.1 7 3 0 n7).trans hn
      refine bk_X4_bringUp_118 hg1 ⟨fun _ => ?_, fun z => absurd (by rw [e3]; exact nI_le (Nat.le_refl _) (by omega)) z⟩
      rw [e3]
      have ag8 : hw_ag (fun t g => t = 8) w' (hb_pI w' 8 10 0 (nI P.length)) := hw_ag.rf.pI rfl
      refine q _ ⟨hRf.of hrf, h9, hw_fIs _ _ _ _ _, hmk, fun b hb => ?_⟩ (hag.pI (a8 0)) hrf
      have := hB b hb
      rw [List.take_length] at this
      exact this.ag ag8 (by decide)
    | succ n ih =>
      intro i hi w' hag hrf h9 hmk hB
      have hil : i < P.length := by omega
      have hpi : P[i]? = some P[i] := List.getElem?_eq_getElem hil
      have hpp := ho P[i] (List.getElem_mem hil)
      obtain ⟨p1, p2, p3⟩ := hP.ag hag n7 i _ hpi
      have htk : P.take (i + 1) = P.take i ++ [P[i]] := by rw [List.take_add_one, hpi]; rfl
      have hbl : ∀ b, (sp_bk b (P.take i)).length ≤ 400 := fun b => by
        have := sp_bk_len b (P.take i)
        rw [List.length_take] at this
        omega
      have vi : vp_in (nI i) 400 := vp_in_nI (by omega) (by decide)
      have e3 : hb_fI w' 7 3 0 = nI P.length := (hag.1 7 3 0 n7).trans hn
      -- the gate's book, then all
      have two : ∀ g, g < 2 → P[i].2.2 = g → hb_O yX0_add cX0_add 4 none (d + 4) [hb_r 9 g 0, hb_i (nI P[i].1), hb_i (nI P[i].2.1)] w' (fun rv w1 => hb_R yX4_bringUp cX4_bringUp 5 none (d + 4 + 1) 165 [some (hb_r 8 0 0), some (hb_r 11 g1 0), some (hb_r 7 0 0), some (hb_i (nI i)), some (hb_r 9 g 0)] (rv.toList ++ []) w1 Q) := by
        intro g hg hgate
        have rg : hb_fR w' 9 2 g = 0 := by
          obtain ⟨r0, r1, r2, r3⟩ := hRf.of hrf
          have : g = 0 ∨ g = 1 := by omega
          rcases this with rfl | rfl
          · exact r0
          · exact r1
        have r2 : hb_fR w' 9 2 2 = 0 := (hRf.of hrf).2.2.1
        refine ok_add (by omega) hpp.1 hpp.2.1 (hbl g) (by rw [rg]; decide) (by rw [rg]; exact hmk) (hB g (by omega)) (fun w2 b2 ag2 rf2 => ?_)
        have p' := hP.ag (hag.tr (ag2.wk (fun t g2 z => by rw [z.1, z.2]; exact a9 g (by omega)))) n7 i _ hpi
        refine bk_X4_bringUp_165 hg1 (show g < 4 by omega) ⟨vi, vi, ?_⟩
        rw [nI_clamp (by omega), p'.1, p'.2.1]
        have r2' : hb_fR w2 9 2 2 = 0 := by
          unfold hb_fR at r2 ⊢
          rw [rf2]; exact r2
        refine ok_add (by omega) hpp.1 hpp.2.1 (hbl 2) (by rw [r2']; decide) (by rw [r2']; exact hmk.ag ag2 (by omega)) ((hB 2 (by omega)).ag ag2 (by omega)) (fun w3 b3 ag3 rf3 => ?_)
        refine bk_X4_bringUp_184 hg1 (show g < 4 by omega) ?_
        rw [nI_1]
        refine hx_last (l := [_, _, _, _]) ?_
        refine ih (i + 1) (by omega) w3 ((hag.tr (ag2.wk (fun t g2 z => by rw [z.1, z.2]; exact a9 g (by omega)))).tr (ag3.wk (fun t g2 z => by rw [z.1, z.2]; exact a9 2 (by omega)))) (rf3.trans (rf2.trans hrf)) ?_ ((hmk.ag ag2 (by omega)).ag ag3 (by decide)) (fun b hb => ?_)
        · rw [ag3.1 8 9 0 (by decide), ag2.1 8 9 0 (fun z => absurd z.1 (by decide))]
          exact h9
        · rw [htk, sp_bk_app]
          by_cases e2 : b = 2
          · subst e2
            rw [if_pos (Or.inl rfl)]
            exact b3
          · by_cases eg : b = g
            · subst eg
              rw [if_pos (Or.inr hgate)]
              exact b2.ag ag3 (by omega)
            · rw [if_neg (by omega)]
              exact ((hB b hb).ag ag2 (by omega)).ag ag3 (by omega)
      refine bk_X4_bringUp_118 hg1 ⟨fun z => absurd z (by rw [e3]; exact nI_ge hil (by omega)), fun _ => ⟨vi, fun z => ⟨vi, vi, ?_⟩, fun z => ⟨vi, vi, ?_⟩⟩⟩
      · rw [nI_clamp (by omega)] at z ⊢
        rw [p3] at z
        have : P[i].2.2 = 1 := by
          have : P[i].2.2 ≠ 0 := fun y => z (by rw [y]; rfl)
          omega
        rw [p1, p2]
        exact two 1 (by decide) this
      · rw [nI_clamp (by omega)] at z ⊢
        rw [p3, show (0 : Int32) = nI 0 from rfl, nI_eq (by omega) (by decide)] at z
        rw [p1, p2]
        exact two 0 (by decide) z
  -- three books made empty
  have start : ∀ (w' : hb_W), hw_ag aUp w w' → w'.2.2.1 = w.2.2.1 → hb_fI w' 8 9 0 = nI c → hw_mk w' 0 (sp_mark C c) → ∀ x3, hb_O yX0_begin cX0_begin 3 none (d + 4) [hb_r 9 0 0, hb_i (hb_fI w' 11 1 g1), hb_i (hb_fI w' 11 2 g1)] w' (fun rv w1 => hb_R yX4_bringUp cX4_bringUp 5 none (d + 4 + 1) 78 [some (hb_r 8 0 0), some (hb_r 11 g1 0), some (hb_r 7 0 0), x3, none] (rv.toList ++ []) w1 Q) := by
    intro w' hag hrf h9 hmk x3
    have eL : hb_fI w' 11 1 g1 = nI L := (hag.1 11 1 g1 n11).trans hl
    have eR : hb_fI w' 11 2 g1 = nI R := (hag.1 11 2 g1 n11).trans hr
    rw [eL, eR]
    refine ok_begin (by decide) hL0 hL hR0 hR (fun w2 b2 ag2 rf2 => ?_)
    refine hx_at 3 (bk_X4_bringUp_78 hg1 ?_)
    rw [ag2.1 11 1 g1 (by omega), ag2.1 11 2 g1 (by omega), eL, eR]
    refine ok_begin (by decide) hL0 hL hR0 hR (fun w3 b3 ag3 rf3 => ?_)
    refine bk_X4_bringUp_93 hg1 ?_
    rw [ag3.1 11 1 g1 (by omega), ag3.1 11 2 g1 (by omega), ag2.1 11 1 g1 (by omega), ag2.1 11 2 g1 (by omega), eL, eR]
    refine ok_begin (by decide) hL0 hL hR0 hR (fun w4 b4 ag4 rf4 => ?_)
    refine bk_X4_bringUp_108 hg1 ?_
    have ag8 : hw_ag (fun t g => t = 8) w4 (hb_pI w4 8 10 0 0) := hw_ag.rf.pI rfl
    refine loop P.length 0 (by omega) _ ((((hag.tr (ag2.wk (fun t g2 z => by rw [z.1, z.2]; exact a9 0 (by omega)))).tr (ag3.wk (fun t g2 z => by rw [z.1, z.2]; exact a9 1 (by omega)))).tr (ag4.wk (fun t g2 z => by rw [z.1, z.2]; exact a9 2 (by omega)))).pI (a8 0)) (rf4.trans (rf3.trans (rf2.trans hrf))) ?_ ((((hmk.ag ag2 (by decide)).ag ag3 (by decide)).ag ag4 (by decide)).ag ag8 (by decide)) (fun b hb => ?_)
    · show hb_u3 _ 8 10 0 0 8 9 0 = nI c
      rw [hb_u3_tk _ _ _ _ _ (by decide)]
      show hb_fI w4 8 9 0 = nI c
      rw [ag4.1 8 9 0 (by decide), ag3.1 8 9 0 (by decide), ag2.1 8 9 0 (by decide)]
      exact h9
    · have e0 : sp_bk b (P.take 0) = [] := rfl
      rw [e0]
      have : b = 0 ∨ b = 1 ∨ b = 2 := by omega
      rcases this with rfl | rfl | rfl
      · exact (((b2 _).ag ag3 (by decide)).ag ag4 (by decide)).ag ag8 (by decide)
      · exact ((b3 _).ag ag4 (by decide)).ag ag8 (by decide)
      · exact (b4 _).ag ag8 (by decide)
  -- the marks by another coin
  have fill : ∀ (n i : Nat), i + n = 9 → ∀ w', hw_ag aUp w w' → w'.2.2.1 = w.2.2.1 → (∀ h l, h < 64 → l < i → hb_aI w' 5 1 0 (h * 9 + l) = nI (sp_mark C c h l)) → hb_R yX4_bringUp cX4_bringUp 5 none (d + 4 + 1) 13 [some (hb_r 8 0 0), some (hb_r 11 g1 0), some (hb_r 7 0 0), some (hb_i (nI i)), none] [] w' Q := by
    intro n
    induction n with
    | zero =>
      intro i hi w' hag hrf hm
      rw [Nat.add_zero] at hi
      subst hi
      have e4 : hb_fI w' 7 4 0 = nI c := (hag.1 7 4 0 n7).trans hcn
      refine bk_X4_bringUp_13 hg1 ⟨fun _ => ⟨fun z => absurd rfl z, fun _ => ?_⟩, fun z => absurd (nI_le (Nat.le_refl 9) (by decide)) z⟩
      refine start _ ((hag.pI (a8 0)).pI (a8 0)) hrf ?_ ?_ _
      · exact e4
      · intro h l h1 h2
        exact ⟨hm h l h1 h2, sp_md_lt _⟩
    | succ n ih =>
      intro i hi w' hag hrf hm
      have e4 : hb_fI w' 7 4 0 = nI c := (hag.1 7 4 0 n7).trans hcn
      refine bk_X4_bringUp_13 hg1 ⟨fun z => absurd z (nI_ge (b := 9) (by omega) (by decide)), fun _ => ?_⟩
      rw [e4]
      obtain ⟨x0, a, x1, x2, x3⟩ := hX.ag hag n2 n11
      refine ok_fillLine (by decide) hg1 (by omega) hc x1 x0 x2 x3 (fun w2 f1 f2 ag2 rf2 => ?_)
      refine bk_X4_bringUp_36 hg1 ?_
      rw [nI_1]
      refine ih (i + 1) (by omega) w2 (hag.tr (ag2.wk (fun t g z => ?_))) (rf2.trans hrf) (fun h l h1 h2 => ?_)
      · rcases z with z | z
        · exact Or.inl z
        · exact Or.inr (Or.inr (Or.inl z))
      · by_cases e : l = i
        · subst e
          exact f1 h h1
        · rw [f2 h l (by omega) e]
          exact hm h l h1 (by omega)
  refine bk_X4_bringUp_0 hg1 ⟨fun z => ?_, fun z => ?_⟩
  · rw [hcn] at z
    have hmk : hw_mk w 0 (sp_mark C c) := by
      rcases hM with y | ⟨m, m1, m2, m3⟩
      · rw [z] at y
        exact absurd y (hx_ne (by omega))
      · rw [z, nI_eq (by omega) (by omega)] at m2
        rw [m2]; exact m3
    refine ⟨fun y => ?_, fun y => start w hw_ag.rf rfl z hmk _⟩
    rcases hE with x | ⟨m, k, m1, m2, m3, m4, m5⟩
    · exact absurd x y
    · rw [z, nI_eq (by omega) (by omega)] at m2
      rw [m4]
      exact loop (P.length - k) k (by omega) w hw_ag.rf rfl z hmk (by rw [m2]; exact m5)
  · exact fill 9 0 (by decide) w hw_ag.rf rfl (fun h l _ y => absurd y (Nat.not_lt_zero _))
end HLA
