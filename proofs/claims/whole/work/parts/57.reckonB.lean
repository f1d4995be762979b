/-! ===== the class's Scene: reckon; Marks: fillLine ===== -/
theorem cO_A {c : Nat} (h : (1000 ≤ c ∧ c < 11000) ∨ (40 ≤ c ∧ c < 47) ∨ c = 13) : ¬ cO c ≤ -11 := by
  have e11 : (-11 : Int32).toInt = -11 := by decide
  rw [Int32.le_iff_toInt_le, e11]
  rcases h with h | h | h
  · unfold cO
    rw [if_pos h.1, nI_toInt (by omega)]
    omega
  · unfold cO
    rw [if_neg (by omega), if_neg (by omega), if_pos h.1, jI_t (by omega)]
    omega
  · subst h
    decide
theorem cO_B {c : Nat} (h : c = 60 ∨ c = 61 ∨ c = 12) : cO c ≤ -11 ∧ ¬ cO c ≤ -21 := by
  rcases h with rfl | rfl | rfl <;> decide
theorem cO_C {c : Nat} (h1 : 1 ≤ c) (h2 : c ≤ 11) : cO c ≤ -11 ∧ cO c ≤ -21 := by
  have e11 : (-11 : Int32).toInt = -11 := by decide
  have e21 : (-21 : Int32).toInt = -21 := by decide
  rw [cO_op h2, Int32.le_iff_toInt_le, Int32.le_iff_toInt_le, e11, e21, jI_t (by omega)]
  omega
theorem foM_B {mk : Nat → Nat → Nat} {h x y k : Nat} {v : Int} (hm : k = 0 → ∀ l, l < 9 → mk h l < 1000) (hx : ¬ k = 0 → x ≤ 1000 ∧ y ≤ 1000) : jB (foM mk h x y k v) := by
  unfold foM
  by_cases c : k = 0
  · rw [if_pos c]
    by_cases c2 : 0 ≤ v ∧ v < 9
    · rw [if_pos c2]
      have := hm c v.toNat (by omega)
      unfold jB
      omega
    · rw [if_neg c2]; exact jB0
  · rw [if_neg c]
    have := hx c
    split
    · unfold jB; omega
    · split
      · unfold jB; omega
      · exact jB0
theorem evR_app (pt : Nat → Int) (fo : Nat → Int → Int) (D : List Nat) (c : Nat) (s : List Int) : evR pt fo (D ++ [c]) s = ev1 pt fo (evR pt fo D s) c := by
  unfold evR
  rw [List.foldl_append]
  rfl
section HRB
variable {d : Nat} {w : hb_W} {Q : Option hb_V → hb_W → Prop}
set_option maxHeartbeats 1000000 in
theorem ok_reckon {g a n h x y : Nat} {C : List Nat} {b : Bool} {pt : Nat → Int} {mk : Nat → Nat → Nat} (hg : g < 3) (hC : ∀ k c, C[k]? = some c → hb_aI w 2 1 g (a + k) = cO c) (hsz : a + C.length ≤ n) (hn : hb_fI w 2 1 g = nI n) (hn2 : n ≤ 1600) (hty : tyR 64 C [] = some [b])
    (hp : ∀ k, k < 7 → 40 + k ∈ C → hb_fI w 6 k 0 = jI (pt k) ∧ jB (pt k)) (hm : 60 ∈ C → h < 64 ∧ hb_fI w 6 0 0 = nI h ∧ hw_mk w 0 mk) (hx : 61 ∈ C → hb_fI w 6 7 0 = nI x ∧ hb_fI w 6 8 0 = nI y ∧ x ≤ 1000 ∧ y ≤ 1000)
    (q : ∀ v f, evR pt (foM mk h x y) C [] = [v] → jB v → (b = true → v = 0 ∨ v = 1) → Q (some (hb_i (jI v))) (hb_sI w 6 1 0 f)) : hb_O yX9_reckon cX9_reckon 8 (some .int) (d + 2) [hb_r 6 0 0, hb_r 2 g 0, hb_i (nI a), hb_i (nI (a + C.length))] w Q := by
  have key : ∀ (E D : List Nat), C = D ++ E → ∀ (s : List Int) (t : List Bool) (f : Nat → Int32), evR pt (foM mk h x y) D [] = s → tyR 64 E t = some [b] → tyS s t → t.length ≤ 64 → stk f s → hb_R yX9_reckon cX9_reckon 8 (some .int) (d + 1 + 1) 20 [some (hb_r 6 0 0), some (hb_r 2 g 0), some (hb_i (nI a)), some (hb_i (nI (a + C.length))), some (hb_i (nI s.length)), some (hb_i (nI (a + C.length))), some (hb_i (nI (a + D.length))), none] [] (hb_sI w 6 1 0 f) Q := by
    intro E
    induction E with
    | nil =>
      intro D hD s t f hs ht hts h64 hst
      rw [List.append_nil] at hD
      subst hD
      have e : t = [b] := Option.some.inj ht
      subst e
      cases s with
      | nil => exact False.elim hts
      | cons v s =>
        cases s with
        | cons _ _ => exact False.elim hts.2.2
        | nil =>
          refine bk_X9_reckon_20 hg ⟨fun _ => ⟨fun c => absurd c (show ¬ nI 1 ≤ 0 by decide), fun _ => ?_⟩, fun c => absurd (nI_le (Nat.le_refl _) (by omega)) c⟩
          have e2 : hb_aI (hb_sI w 6 1 0 f) 6 1 0 (0 : Int32).toNatClampNeg = jI v := hst.1
          rw [e2]
          exact q v f hs hts.1 hts.2.1
    | cons c E ih =>
      intro D hD s t f hs ht hts h64 hst
      have hcm : c ∈ C := by rw [hD]; exact List.mem_append_right _ List.mem_cons_self
      have hcl : D.length < C.length := by rw [hD, List.length_append, List.length_cons]; omega
      have hcell : hb_aI w 2 1 g (a + D.length) = cO c := hC D.length c (by rw [hD, List.getElem?_append_right (Nat.le_refl _), Nat.sub_self]; rfl)
      obtain ⟨t', ht1, ht2⟩ := Option.bind_eq_some_iff.mp ht
      have hlen := tyS_len hts
      have hpB : ∀ k, c = 40 + k → k < 7 → jB (pt k) := fun k z z1 => (hp k z1 (z ▸ hcm)).2
      have hfB : ∀ k v, c = 60 + k → k < 2 → jB (foM mk h x y k v) := fun k v z z1 => foM_B (fun z2 l hl => by
          obtain ⟨a1, a2, a3⟩ := hm (by have : c = 60 := by omega
                                        exact this ▸ hcm)
          exact (a3 h l a1 hl).2) (fun z2 => by
          obtain ⟨a1, a2, a3, a4⟩ := hx (by have : c = 61 := by omega
                                            exact this ▸ hcm)
          exact ⟨a3, a4⟩)
      have h64' : t'.length ≤ 64 := by
        rcases ty1_cases ht1 with ⟨_, _, c3, e⟩ | ⟨_, e, _⟩ | ⟨_, _, c3, e⟩ | ⟨_, c3, e⟩ | ⟨_, e, _⟩ | ⟨_, _, t0, e2, e⟩
        · rw [e, List.length_cons]; omega
        · rw [e]; exact h64
        · rw [e, List.length_cons]; omega
        · rw [e, List.length_cons]; omega
        · rw [e]; exact h64
        · rw [e2, List.length_cons, List.length_cons] at h64
          rw [e, List.length_cons]; omega
      have hts' := ty_step ht1 hts hpB hfB
      have next : ∀ f', stk f' (ev1 pt (foM mk h x y) s c) → ∀ (x7 : Int32) (x4 : Int32), x4 = nI (ev1 pt (foM mk h x y) s c).length → hb_R yX9_reckon cX9_reckon 8 (some .int) (d + 1 + 1) 20 [some (hb_r 6 0 0), some (hb_r 2 g 0), some (hb_i (nI a)), some (hb_i (nI (a + C.length))), some (hb_i x4), some (hb_i (nI (a + C.length))), some (hb_i (nI (a + D.length) + 1)), some (hb_i x7)] [] (hb_sI w 6 1 0 f') Q := by
        intro f' hf' x7 x4 hx4
        rw [hx4, nI_1]
        refine hx_last (l := [_, _, _, _, _, _, _]) ?_
        have := ih (D ++ [c]) (by rw [hD]; simp) _ t' f' (by rw [evR_app, hs]) ht2 hts' h64' hf'
        rw [List.length_append, List.length_singleton, ← Nat.add_assoc] at this
        exact this
      refine bk_X9_reckon_20 hg ⟨fun z => absurd z (nI_ge (by omega) (by omega)), fun _ => ⟨vp_in_nI (by omega) (by decide), ?_⟩⟩
      rw [nI_clamp (by omega)]
      have hcell' : hb_aI (hb_sI w 6 1 0 f) 2 1 g (a + D.length) = cO c := hcell
      rw [hcell']
      -- pushing
      have push : ∀ v : Int, ev1 pt (foM mk h x y) s c = v :: s → ((1000 ≤ c ∧ c < 11000 ∧ v = ((c - 1000 : Nat) : Int)) ∨ (40 ≤ c ∧ c < 47 ∧ hb_fI w 6 (c - 40) 0 = jI v) ∨ (c = 13 ∧ v = 1)) → t.length < 64 → hb_O yX9_valueOf cX9_valueOf 2 (some .int) (d + 1) [hb_r 6 0 0, hb_i (cO c)] (hb_sI w 6 1 0 f) (fun rv w1 => hb_R yX9_reckon cX9_reckon 8 (some .int) (d + 1 + 1) 65 [some (hb_r 6 0 0), some (hb_r 2 g 0), some (hb_i (nI a)), some (hb_i (nI (a + C.length))), some (hb_i (nI s.length)), some (hb_i (nI (a + C.length))), some (hb_i (nI (a + D.length))), some (hb_i (cO c))] (rv.toList ++ [hb_i (nI s.length), hb_r 6 0 1]) w1 Q) := by
        intro v hv hc hl64
        refine ok_valueOf (v := v) hc ?_
        refine bk_X9_reckon_65 hg ⟨vp_in_nI (by omega) (by decide), ?_⟩
        rw [hw_aIs, hw_sI2, nI_clamp (by omega)]
        refine next _ ?_ _ _ ?_
        · rw [hv]; exact stk_push hst
        · rw [hv, nI_1]; rfl
      rcases ty1_cases ht1 with ⟨c1, c2, c3, e⟩ | ⟨c1, e, t0, e2⟩ | ⟨c1, c2, c3, e⟩ | ⟨c1, c3, e⟩ | ⟨c1, e, t0, e2⟩ | ⟨c1, c2, t0, e2, e⟩
      · refine ⟨fun z => absurd z (cO_A (Or.inl ⟨c1, c2⟩)), fun _ => ⟨fun z => absurd z (nI_ge (b := 64) (by omega) (by decide)), fun _ => ?_⟩⟩
        refine push ((c - 1000 : Nat) : Int) ?_ (Or.inl ⟨c1, c2, rfl⟩) c3
        unfold ev1
        rw [if_pos c1]
      · obtain ⟨b1, b2⟩ := cO_B (c := c) (by omega)
        subst e2
        cases s with
        | nil => exact False.elim hts
        | cons u s =>
          rw [List.length_cons] at hlen ⊢
          have es : nI (s.length + 1) - 1 = nI s.length := nI_pred s.length
          have hlt : s.length < 64 := by
            simp only [List.length_cons] at hlen h64
            omega
          refine ⟨fun _ => ⟨fun z => absurd z b2, fun _ => ⟨fun z => absurd z (nI_nlt (b := 1) (by omega) (by omega)), fun _ => ?_⟩⟩, fun z => absurd b1 z⟩
          rw [es, nI_clamp (by omega)]
          refine ⟨vp_in_nI (by omega) (by decide), ?_⟩
          have eu : hb_aI (hb_sI w 6 1 0 f) 6 1 0 s.length = jI u := hst.1
          rw [eu]
          refine ok_single (x := x) (y := y) (h := h) (mk := mk) (by omega) hts.1 (fun z => hm (z ▸ hcm)) (fun z => hx (z ▸ hcm)) ?_
          refine bk_X9_reckon_108 hg ⟨vp_in_nI (by omega) (by decide), ?_⟩
          rw [hw_aIs, hw_sI2, nI_clamp (by omega), if_neg (by omega)]
          have ev : ev1 pt (foM mk h x y) (u :: s) c = foM mk h x y (c - 60) u :: s := by
            unfold ev1
            rw [if_neg (by omega), if_pos (by omega)]
          refine next _ ?_ _ _ ?_
          · rw [ev]; exact stk_push hst.2
          · rw [ev]; rfl
      · refine ⟨fun z => absurd z (cO_A (Or.inr (Or.inl ⟨c1, c2⟩))), fun _ => ⟨fun z => absurd z (nI_ge (b := 64) (by omega) (by decide)), fun _ => ?_⟩⟩
        refine push (pt (c - 40)) ?_ (Or.inr (Or.inl ⟨c1, c2, (hp (c - 40) (by omega) (by rw [show 40 + (c - 40) = c by omega]; exact hcm)).1⟩)) c3
        unfold ev1
        rw [if_neg (by omega), if_neg (by omega), if_pos c1]
      · refine ⟨fun z => absurd z (cO_A (Or.inr (Or.inr c1))), fun _ => ⟨fun z => absurd z (nI_ge (b := 64) (by omega) (by decide)), fun _ => ?_⟩⟩
        refine push 1 ?_ (Or.inr (Or.inr ⟨c1, rfl⟩)) c3
        unfold ev1
        rw [if_neg (by omega), if_neg (by omega), if_neg (by omega), if_pos c1]
      · obtain ⟨b1, b2⟩ := cO_B (c := c) (by omega)
        subst e2
        cases s with
        | nil => exact False.elim hts
        | cons u s =>
          rw [List.length_cons] at hlen ⊢
          have es : nI (s.length + 1) - 1 = nI s.length := nI_pred s.length
          have hlt : s.length < 64 := by
            simp only [List.length_cons] at hlen h64
            omega
          refine ⟨fun _ => ⟨fun z => absurd z b2, fun _ => ⟨fun z => absurd z (nI_nlt (b := 1) (by omega) (by omega)), fun _ => ?_⟩⟩, fun z => absurd b1 z⟩
          rw [es, nI_clamp (by omega)]
          refine ⟨vp_in_nI (by omega) (by decide), ?_⟩
          have eu : hb_aI (hb_sI w 6 1 0 f) 6 1 0 s.length = jI u := hst.1
          rw [eu]
          refine ok_single (x := x) (y := y) (h := h) (mk := mk) (by omega) hts.1 (fun z => by omega) (fun z => by omega) ?_
          refine bk_X9_reckon_108 hg ⟨vp_in_nI (by omega) (by decide), ?_⟩
          rw [hw_aIs, hw_sI2, nI_clamp (by omega), if_pos c1]
          have ev : ev1 pt (foM mk h x y) (u :: s) c = (if u = 0 then 1 else 0) :: s := by
            unfold ev1
            rw [if_neg (by omega), if_neg (by omega), if_neg (by omega), if_neg (by omega), if_pos c1]
          refine next _ ?_ _ _ ?_
          · rw [ev]; exact stk_push hst.2
          · rw [ev]; rfl
      · obtain ⟨b1, b2⟩ := cO_C c1 c2
        subst e2
        cases s with
        | nil => exact False.elim hts
        | cons u s =>
          cases s with
          | nil => exact False.elim hts.2.2
          | cons u2 s =>
            rw [List.length_cons, List.length_cons] at hlen ⊢
            have es : nI (s.length + 1 + 1) - 1 = nI (s.length + 1) := nI_pred (s.length + 1)
            have es2 : nI (s.length + 1 + 1) - 2 = nI s.length := by rw [show (2 : Int32) = nI 2 from rfl, pk_sub (by omega)]; rfl
            have hlt : s.length + 1 < 64 := by
              simp only [List.length_cons] at hlen h64
              omega
            refine ⟨fun _ => ⟨fun _ => ⟨fun z => absurd z (nI_nlt (b := 2) (by omega) (by omega)), fun _ => ?_⟩, fun z => absurd b2 z⟩, fun z => absurd b1 z⟩
            rw [es, es2, nI_clamp (by omega), nI_clamp (by omega)]
            refine ⟨vp_in_nI (by omega) (by decide), vp_in_nI (by omega) (by decide), ?_⟩
            have eu : hb_aI (hb_sI w 6 1 0 f) 6 1 0 (s.length + 1) = jI u := hst.1
            have eu2 : hb_aI (hb_sI w 6 1 0 f) 6 1 0 s.length = jI u2 := hst.2.1
            rw [eu, eu2]
            refine ok_joined c1 c2 hts.2.2.1 hts.1 ?_
            refine bk_X9_reckon_149 hg ⟨vp_in_nI (by omega) (by decide), ?_⟩
            rw [hw_aIs, hw_sI2, nI_clamp (by omega)]
            have ev : ev1 pt (foM mk h x y) (u :: u2 :: s) c = ev_op c u2 u :: s := by
              unfold ev1
              rw [if_neg (by omega), if_neg (by omega), if_neg (by omega), if_neg (by omega), if_neg (by omega)]
            refine next _ ?_ _ _ ?_
            · rw [ev]; exact stk_push hst.2.2
            · rw [ev, pk_m1]; rfl
  refine bk_X9_reckon_0 hg ?_
  have ea : (if (0 : Int32) < nI a then nI a else 0) = nI a := by
    by_cases z : 0 < a
    · exact if_pos (show nI 0 < nI a from nI_lt z (by omega))
    · have : a = 0 := by omega
      subst this
      rfl
  have ee : (if hb_fI w 2 1 g < nI (a + C.length) then hb_fI w 2 1 g else nI (a + C.length)) = nI (a + C.length) := by
    rw [hn, if_neg (nI_nlt hsz (by omega))]
  rw [ea, ee]
  have := key C [] rfl [] [] (hb_aI w 6 1 0) rfl hty trivial (by decide) trivial
  rw [hw_sI0] at this
  exact this
/-- the mark by a night's mix: the codes, or the plain one -/
def sp_plain : List Nat := [40, 1619, 3, 42, 1211, 3, 1, 43, 1097, 3, 1]
def sp_mxC (mix : Option (List Nat)) : List Nat := match mix with
  | some C => C
  | none => sp_plain
def sp_pt (h tn l c : Nat) (k : Nat) : Int := if k = 0 then (h : Int) else if k = 1 then (tn : Int) else if k = 2 then (l : Int) else (c : Int)
def sp_ev (C : List Nat) (pt : Nat → Int) (fo : Nat → Int → Int) : Int := (evR pt fo C []).headD 0
def sp_fo0 : Nat → Int → Int := foM (fun _ _ => 0) 0 0 0
def sp_mark (C : List Nat) (c : Nat) (h l : Nat) : Nat := sp_md (sp_ev C (sp_pt h 0 l c) sp_fo0)
/-- codes that a night may hold for a mix: only hood, line, coin, numbers and sums of them -/
def sp_okC (P : Nat → Prop) (C : List Nat) : Prop := tyR 64 C [] = some [false] ∧ ∀ c ∈ C, 1000 ≤ c ∨ (1 ≤ c ∧ c ≤ 6) ∨ (∃ k, k < 7 ∧ P k ∧ c = 40 + k)
def sp_okMix : List Nat → Prop := sp_okC (fun k => k = 0 ∨ k = 2 ∨ k = 3)
def sp_okGive : List Nat → Prop := sp_okC (fun k => k = 0 ∨ k = 1)
theorem sp_plain_ok : sp_okMix sp_plain := by
  refine ⟨by decide, ?_⟩
  intro c hc
  simp only [sp_plain, List.mem_cons, List.not_mem_nil, or_false] at hc
  rcases hc with rfl | rfl | rfl | rfl | rfl | rfl | rfl | rfl | rfl | rfl | rfl
  · exact Or.inr (Or.inr ⟨0, by decide, Or.inl rfl, rfl⟩)
  · exact Or.inl (by decide)
  · exact Or.inr (Or.inl (by decide))
  · exact Or.inr (Or.inr ⟨2, by decide, Or.inr (Or.inl rfl), rfl⟩)
  · exact Or.inl (by decide)
  · exact Or.inr (Or.inl (by decide))
  · exact Or.inr (Or.inl (by decide))
  · exact Or.inr (Or.inr ⟨3, by decide, Or.inr (Or.inr rfl), rfl⟩)
  · exact Or.inl (by decide)
  · exact Or.inr (Or.inl (by decide))
  · exact Or.inr (Or.inl (by decide))
/-- code g of the class holds C from a on -/
def cC (w : hb_W) (g a : Nat) (C : List Nat) : Prop := (∀ k c, C[k]? = some c → hb_aI w 2 1 g (a + k) = cO c) ∧ ∃ n, a + C.length ≤ n ∧ hb_fI w 2 1 g = nI n ∧ n ≤ 1600
theorem ok_reckonC {g a : Nat} {C : List Nat} {P : Nat → Prop} {pt : Nat → Int} (hg : g < 3) (hC : cC w g a C) (hok : sp_okC P C) (hp : ∀ k, k < 7 → P k → hb_fI w 6 k 0 = jI (pt k) ∧ jB (pt k))
    (q : ∀ f, jB (sp_ev C pt sp_fo0) → Q (some (hb_i (jI (sp_ev C pt sp_fo0)))) (hb_sI w 6 1 0 f)) : hb_O yX9_reckon cX9_reckon 8 (some .int) (d + 2) [hb_r 6 0 0, hb_r 2 g 0, hb_i (nI a), hb_i (nI (a + C.length))] w Q := by
  obtain ⟨hc, n, hn1, hn2, hn3⟩ := hC
  refine ok_reckon (mk := fun _ _ => 0) (h := 0) (x := 0) (y := 0) (pt := pt) hg hc hn1 hn2 hn3 hok.1 (fun k hk hm => ?_) (fun hm => ?_) (fun hm => ?_) (fun v f hv hb _ => ?_)
  · rcases hok.2 _ hm with z | z | ⟨j, j1, j2, j3⟩
    · omega
    · omega
    · have : k = j := by omega
      rw [this]
      exact hp j j1 j2
  · exfalso
    rcases hok.2 _ hm with z | z | ⟨j, j1, j2, j3⟩ <;> omega
  · exfalso
    rcases hok.2 _ hm with z | z | ⟨j, j1, j2, j3⟩ <;> omega
  · have e : sp_ev C pt sp_fo0 = v := by
      unfold sp_ev sp_fo0
      rw [hv]
      rfl
    have := q f
    rw [e] at this
    exact this hb
theorem ok_fillLine {g g1 a l c : Nat} {C : List Nat} (hg : g < 2) (hg1 : g1 < 2) (hl : l < 9) (hc : c < 100) (hC : cC w (g1 + 1) a C) (hok : sp_okMix C) (ha : hb_fI w 11 13 g1 = nI a) (hb : hb_fI w 11 14 g1 = nI (a + C.length))
    (q : ∀ w2, (∀ h, h < 64 → hb_aI w2 5 1 g (h * 9 + l) = nI (sp_mark C c h l)) → (∀ h k, k < 9 → k ≠ l → hb_aI w2 5 1 g (h * 9 + k) = hb_aI w 5 1 g (h * 9 + k)) → hw_ag (fun t g2 => t = 6 ∨ (t = 5 ∧ g2 = g)) w w2 → w2.2.2.1 = w.2.2.1 → Q none w2) : hb_O yX5_fillLine cX5_fillLine 7 none (d + 3) [hb_r 5 g 0, hb_r 11 g1 0, hb_r 6 0 0, hb_i (nI c), hb_i (nI l)] w Q := by
  have key : ∀ (n i : Nat), i + n = 64 → ∀ w', hb_fI w' 6 3 0 = nI c → hb_fI w' 6 2 0 = nI l → (∀ h, h < i → hb_aI w' 5 1 g (h * 9 + l) = nI (sp_mark C c h l)) → (∀ h k, k < 9 → k ≠ l → hb_aI w' 5 1 g (h * 9 + k) = hb_aI w 5 1 g (h * 9 + k)) → hw_ag (fun t g2 => t = 6 ∨ (t = 5 ∧ g2 = g)) w w' → w'.2.2.1 = w.2.2.1 → hb_R yX5_fillLine cX5_fillLine 7 none (d + 2 + 1) 14 [some (hb_r 5 g 0), some (hb_r 11 g1 0), some (hb_r 6 0 0), some (hb_i (nI c)), some (hb_i (nI l)), some (hb_i (nI i)), none] [] w' Q := by
    intro n
    induction n with
    | zero =>
      intro i hi w' h3 h2 hm hk hag hr
      rw [Nat.add_zero] at hi
      subst hi
      exact bk_X5_fillLine_14 hg hg1 ⟨fun _ => q w' hm hk hag hr, fun z => absurd (nI_le (Nat.le_refl 64) (by decide)) z⟩
    | succ n ih =>
      intro i hi w' h3 h2 hm hk hag hr
      refine bk_X5_fillLine_14 hg hg1 ⟨fun z => absurd z (nI_ge (b := 64) (by omega) (by decide)), fun _ => ?_⟩
      refine ok_isLine _ (fun _ _ _ => ?_) (fun z => by
        rcases z with z | z
        · exact absurd z (nI_pos (by omega))
        · exact absurd z (nI_ge hl (by decide)))
      refine bk_X5_fillLine_26 hg hg1 ⟨fun z => absurd z (by decide), fun _ => ?_⟩
      have n11 : ¬ ((11 : Nat) = 6 ∨ ((11 : Nat) = 5 ∧ g1 = g)) := by omega
      have n2 : ¬ ((2 : Nat) = 6 ∨ ((2 : Nat) = 5 ∧ g1 + 1 = g)) := by omega
      have e13 : hb_fI w' 11 13 g1 = nI a := (hag.1 11 13 g1 n11).trans ha
      have e14 : hb_fI w' 11 14 g1 = nI (a + C.length) := (hag.1 11 14 g1 n11).trans hb
      have eC : cC (hb_pI w' 6 0 0 (nI i)) (g1 + 1) a C := by
        obtain ⟨c1, n, c2, c3, c4⟩ := hC
        refine ⟨fun k x hx => ?_, n, c2, ?_, c4⟩
        · show hb_aI w' 2 1 (g1 + 1) (a + k) = _
          rw [hag.2.2.2.1 2 1 (g1 + 1) n2]
          exact c1 k x hx
        · show hb_fI w' 2 1 (g1 + 1) = _
          rw [hag.1 2 1 (g1 + 1) n2]
          exact c3
      rw [e13, e14]
      refine ok_reckonC (pt := sp_pt i 0 l c) (by omega) eC hok (fun k hk7 hP => ?_) (fun f hv => ?_)
      · rcases hP with z | z | z
        · subst z
          exact ⟨(jI_n (n := i) (by omega)).symm, by show jB (i : Int); unfold jB; omega⟩
        · subst z
          exact ⟨h2.trans (jI_n (n := l) (by omega)).symm, by show jB (l : Int); unfold jB; omega⟩
        · subst z
          exact ⟨h3.trans (jI_n (n := c) (by omega)).symm, by show jB (c : Int); unfold jB; omega⟩
      · refine bk_X5_fillLine_51 hg hg1 ?_
        refine ok_floorMod hv ?_
        have e1 : nI i * 9 + nI l = nI (i * 9 + l) := by rw [show (9 : Int32) = nI 9 from rfl, pk_mul, nI_add]
        rw [e1]
        refine bk_X5_fillLine_73 hg hg1 hg ⟨vp_in_nI (by omega) (by decide), ?_⟩
        rw [nI_clamp (by omega), nI_1]
        refine hx_last (l := [_, _, _, _, _, _]) ?_
        have p6 : (fun t g2 => t = 6 ∨ (t = 5 ∧ g2 = g)) 6 0 := Or.inl rfl
        have p5 : (fun t g2 => t = 6 ∨ (t = 5 ∧ g2 = g)) 5 g := Or.inr ⟨rfl, rfl⟩
        refine ih (i + 1) (by omega) _ h3 h2 (fun h hh => ?_) (fun h k hk9 hkl => ?_) (((hag.pI p6).sI p6).sI p5) hr
        · rw [hw_aIs]
          unfold upd
          by_cases e : h * 9 + l = i * 9 + l
          · have : h = i := by omega
            rw [if_pos e, this]
            rfl
          · rw [if_neg e]
            exact hm h (by omega)
        · rw [hw_aIs]
          unfold upd
          rw [if_neg (by omega)]
          exact hk h k hk9 hkl
  have p6 : (fun t g2 => t = 6 ∨ (t = 5 ∧ g2 = g)) 6 0 := Or.inl rfl
  exact bk_X5_fillLine_0 hg hg1 (key 64 0 (by omega) _ rfl rfl (fun h hh => absurd hh (Nat.not_lt_zero h)) (fun _ _ _ _ => rfl) ((hw_ag.rf.pI p6).pI p6) rfl)
end HRB
