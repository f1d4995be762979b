/-! ===== how far a book is out, by kinds; whether a hood leaves no trace ===== -/
def sx_ab (a b : Int32) : Int32 := if a < b then b - a else a - b
theorem sx_ab_abs {a b : Int32} (ha : -1000000 ≤ a.toInt ∧ a.toInt ≤ 1000000) (hb : -1000000 ≤ b.toInt ∧ b.toInt ≤ 1000000) : (if 0 ≤ a - b then a - b else 0 - (a - b)) = sx_ab a b := by
  have e : (a - b).toInt = a.toInt - b.toInt := by
    rw [Int32.toInt_sub]
    exact Int.bmod_eq_of_le (by omega) (by omega)
  unfold sx_ab
  by_cases h : a < b
  · rw [if_pos h]
    rw [Int32.lt_iff_toInt_lt] at h
    rw [if_neg (by rw [Int32.le_iff_toInt_le, e]; show ¬ (0 : Int) ≤ _; omega)]
    rw [Int32.sub_eq_add_neg, Int32.neg_sub, Int32.zero_add]
  · rw [if_neg h]
    rw [Int32.lt_iff_toInt_lt] at h
    rw [if_pos (by rw [Int32.le_iff_toInt_le, e]; show (0 : Int) ≤ _; omega)]
theorem hx_nI {n : Nat} (h : n ≤ 1000000) : -1000000 ≤ (nI n).toInt ∧ (nI n).toInt ≤ 1000000 := by
  rw [nI_toInt (by omega)]
  omega
theorem sv_un_le {L : Nat} {l : List Nat} (hL : L ≤ 9) (hl : l.length ≤ L) : sv_un L l ≤ 8000 := by
  unfold sv_un
  split
  · omega
  · split
    · omega
    · have := Nat.div_le_self ((L - 1) * 1000) (l.getD (L - 1) 0)
      omega
theorem sp_U_le (T : Nat → Nat) : sp_U T ≤ 64 := by
  unfold sp_U
  have := sp_sum_le (f := fun h => if 0 < T h then 1 else 0) (g := fun _ => 1) (n := 64) (fun k _ => by split <;> omega)
  have e : sp_sum (fun _ => 1) 64 = 64 := by decide
  omega
noncomputable def sv_rs (mk : Nat → Nat → Nat) (ps : List (Nat × Nat)) : Int32 := if ps.length = 0 then 0 else (1 : Int32) <<< (sv_R (sS1 mk (sp_T ps)) &&& 31)
theorem sp_T_pos {ps : List (Nat × Nat)} {p : Nat × Nat} (h : p ∈ ps) : 0 < sp_T ps p.1 := List.countP_pos_iff.mpr ⟨p, h, by simp⟩
theorem sv_rs_le {mk : Nat → Nat → Nat} {ps : List (Nat × Nat)} {v : Int32} (hp : ∀ p ∈ ps, p.1 < 64) (hr : sp_run (sS1 mk (sp_T ps)) v) : -1000000 ≤ (sv_rs mk ps).toInt ∧ (sv_rs mk ps).toInt ≤ 1000000 := by
  unfold sv_rs
  by_cases h : ps.length = 0
  · rw [if_pos h]
    decide
  · rw [if_neg h]
    rw [sv_R_eq hr]
    rcases hr with ⟨_, r2⟩ | ⟨m, r1, r2, r3⟩
    · exfalso
      cases ps with
      | nil => exact h rfl
      | cons p ps => exact r2 (mk p.1 1) ⟨p.1, hp p List.mem_cons_self, sp_T_pos List.mem_cons_self, rfl⟩
    · rw [r2]
      have : ∀ k, k ≤ 10 → -1000000 ≤ ((1 : Int32) <<< (nI k &&& 31)).toInt ∧ ((1 : Int32) <<< (nI k &&& 31)).toInt ≤ 1000000 := by decide
      exact this _ (sp_nz_le m)
theorem sv_half_lt {f : Nat → Nat} {c k : Nat} : ∀ (n i s : Nat), sv_half f c n i s = some k → i ≤ k ∧ k < i + n
  | 0, _, _, h => by cases h
  | n + 1, i, s, h => by
    unfold sv_half at h
    split at h
    · cases h
      omega
    · have := sv_half_lt n (i + 1) (s + f i) h
      omega
theorem sv_mid_le {L : Nat} {ps : List (Nat × Nat)} (h0 : 1 ≤ L) (hL : L ≤ 9) : -1000000 ≤ (sv_mid L ps).toInt ∧ (sv_mid L ps).toInt ≤ 1000000 := by
  unfold sv_mid
  split
  · rename_i k hk
    have := sv_half_lt _ _ _ hk
    refine hx_nI ?_
    have := Nat.div_le_self (k * 100 + L - 1) L
    omega
  · decide
theorem sv_gift_le {ps : List (Nat × Nat)} : -1000000 ≤ (sv_gift ps).toInt ∧ (sv_gift ps).toInt ≤ 1000000 := by
  unfold sv_gift
  split
  · rename_i k hk
    have := sv_half_lt _ _ _ hk
    exact hx_nI (by omega)
  · decide
def sv_oo (L : Nat) (s : Nat → Nat × Nat) (h : Nat) : Nat := match (List.range L).find? (fun k => decide (0 < (s k).2 ∧ (s k).1 = h)) with
  | some k => (s k).2
  | none => 0
def sv_om (L : Nat) (ps : List (Nat × Nat)) : Int32 := if (sv_top (sp_T ps) 64).2 = 0 then 0 else sx_ab (nI (sv_oo L (sp_of L (ps.map Prod.fst)) (sv_top (sp_T ps) 64).1)) (nI (sp_T ps (sv_top (sp_T ps) 64).1))
noncomputable def sv_out (L R : Nat) (mk : Nat → Nat → Nat) (ps : List (Nat × Nat)) : Nat → Int32
  | 0 => sx_ab (nI (sv_un L (sv_L L (sS0 mk (sp_T ps))))) (nI (sp_U (sp_T ps)))
  | 1 => sx_ab (sv_rs mk ps) (nI (sp_U (sp_T ps)))
  | 2 => nI (sv_mtold L R mk (sp_T ps))
  | 3 => nI (sv_wr L mk (sp_T ps))
  | 4 => sx_ab (sv_mid L ps) (sv_gift ps)
  | _ => sv_om L ps
theorem sp_sg_one {mk : Nat → Nat → Nat} {P : Nat → Prop} {l a b : Nat} (ha : sp_sg mk P l a) (hb : sp_sg mk P l b) : a = b := by
  rcases ha with ⟨a1, a2⟩ | ⟨⟨x, x1, x2, x3⟩, a2⟩ <;> rcases hb with ⟨b1, b2⟩ | ⟨⟨y, y1, y2, y3⟩, b2⟩
  · omega
  · exact absurd y2 (a2 y y1)
  · exact absurd x2 (b2 x x1)
  · have := a2 y y1 y2
    have := b2 x x1 x2
    omega
noncomputable def sv_S (mk : Nat → Nat → Nat) (T : Nat → Nat) (l : Nat) : Nat := Classical.epsilon (fun v => sp_sg mk (fun h => 0 < T h) l v)
theorem sv_S_eq {mk : Nat → Nat → Nat} {T : Nat → Nat} {l v : Nat} (h : sp_sg mk (fun h => 0 < T h) l v) : sv_S mk T l = v := sp_sg_one (Classical.epsilon_spec (p := fun v => sp_sg mk (fun h => 0 < T h) l v) ⟨v, h⟩) h
def sv_lls (L : Nat) (l : List Nat) (m : Nat) : Prop := m ∈ l ∨ (l.length = L ∧ l.getD (L - 1) 0 < m)
def sv_sameP (L : Nat) (mk : Nat → Nat → Nat) (T : Nat → Nat) (h : Nat) : Prop := sv_wasP L mk T h ∧ nI (sp_nz (mk h 1)) ≤ sv_R (sS1 mk T) ∧ (∀ l, l < L → sv_S mk T l ≤ mk h l) ∧ sv_lls L (sv_L L (sS0 mk T)) (mk h 0)
section HWI
variable {d : Nat} {w : hb_W} {Q : Option hb_V → hb_W → Prop}
theorem ok_oftenestMissed {g L R : Nat} {ps : List (Nat × Nat)} (hg : g < 4) (hB : cH w g L R ps) (q : Q (some (hb_i (sv_om L ps))) w) : hb_O yX0_oftenestMissed cX0_oftenestMissed 4 (some .int) (d + 1) [hb_r 9 g 0] w Q := by
  have hB2 := hB
  obtain ⟨⟨n1, n2, n3, n4, n5, n6⟩, hl, hr, ⟨t1, t2, t3, t4, t5, t6, t7⟩⟩ := hB
  have hle : ∀ k, sp_T ps k ≤ 401 := fun k => Nat.le_trans (sp_T_le ps k) n5
  have hTl := sv_top_le hle 64
  refine bk_X0_oftenestMissed_0 hg (ok_oftenestHood hg hB2 ?_)
  unfold sv_hood
  unfold sv_om at q
  by_cases h0 : (sv_top (sp_T ps) 64).2 = 0
  · rw [if_pos h0] at q ⊢
    exact bk_X0_oftenestMissed_4 hg ⟨fun c => absurd rfl c, fun _ => q⟩
  · rw [if_neg h0] at q ⊢
    obtain ⟨h1, h2⟩ := sv_top_lt (f := sp_T ps) 64 (by omega)
    have h3 := hle (sv_top (sp_T ps) 64).1
    refine bk_X0_oftenestMissed_4 hg ⟨fun _ => ?_, fun c => absurd c ?_⟩
    · refine ok_oftenPlace hg n2 h1 hl t7 (fun k hk hf => ?_) (fun hf => ?_)
      · refine bk_X0_oftenestMissed_17 hg ⟨fun _ => ⟨vp_in_nI (by omega) (by decide), vp_in_nI (by omega) (by decide), ?_⟩, fun c => absurd c ?_⟩
        · rw [nI_clamp (by omega), nI_clamp (by omega), t3 _ h1, (t7 k hk).1]
          have hb := (t7 k hk).2.1
          rw [sx_ab_abs (hx_nI (by omega)) (hx_nI (by omega))]
          unfold sv_oo at q
          rw [hf] at q
          exact q
        · intro z
          have := congrArg Int32.toInt z
          rw [nI_toInt (by omega)] at this
          have e : (-1 : Int32).toInt = -1 := by decide
          omega
      · refine bk_X0_oftenestMissed_17 hg ⟨fun c => absurd rfl c, fun _ => ⟨vp_in_nI (by omega) (by decide), ?_⟩⟩
        rw [nI_clamp (by omega), t3 _ h1, sx_ab_abs (by decide) (hx_nI (by omega))]
        unfold sv_oo at q
        rw [hf] at q
        exact q
    · intro z
      have := congrArg Int32.toInt z
      rw [nI_toInt (by omega)] at this
      have e : (-1 : Int32).toInt = -1 := by decide
      omega
theorem ok_outBy {g L R k : Nat} {mk : Nat → Nat → Nat} {ps : List (Nat × Nat)} (hg : g < 4) (hk : k < 6) (hmi : hb_fR w 9 2 g < 2) (hmk : hw_mk w (hb_fR w 9 2 g) mk) (hB : cH w g L R ps)
    (m0 : k = 0 → cM0 w g L mk (sp_T ps)) (m1 : k = 1 → cM1 w g mk (sp_T ps)) (m2 : k = 2 → cM2 w g L R mk (sp_T ps)) (m3 : k = 3 → cM3 w g L mk (sp_T ps))
    (q : Q (some (hb_i (sv_out L R mk ps k))) w) : hb_O yX0_outBy cX0_outBy 2 (some .int) (d + 4) [hb_r 9 g 0, hb_i (nI k)] w Q := by
  have hB2 := hB
  obtain ⟨⟨n1, n2, n3, n4, n5, n6⟩, hl, hr, ⟨t1, t2, t3, t4, t5, t6, t7⟩⟩ := hB
  have hU := sp_U_le (sp_T ps)
  have e0 : ∀ {a : Nat}, a < 10 → (nI k = nI a → k = a) := fun ha z => (nI_eq (by omega) (by omega)).mp z
  refine bk_X0_outBy_0 hg ⟨fun c => ?_, fun c => ?_, fun c => ?_, fun c => ?_, fun c => ?_, fun c0 c1 c2 c3 c4 => ?_⟩
  · have := e0 (a := 0) (by decide) c
    subst this
    refine ok_unlikeSaid hg hB2 (m0 rfl) (bk_X0_outBy_40 hg ?_)
    obtain ⟨l, l1, l2, l3, l4⟩ := m0 rfl
    have e := sv_L_eq l3
    have hu : sv_un L (sv_L L (sS0 mk (sp_T ps))) ≤ 8000 := sv_un_le n2 (by rw [show sv_L L (sS0 mk (sp_T ps)) = l from e]; exact l3.2.2.1)
    rw [t2, sx_ab_abs (hx_nI (by omega)) (hx_nI (by omega))]
    exact q
  · have := e0 (a := 1) (by decide) c
    subst this
    refine ok_runsSaid hg hB2 (m1 rfl) (bk_X0_outBy_53 hg ?_)
    rw [t2]
    show Q (some (hb_i (if 0 ≤ sv_rs mk ps - nI (sp_U (sp_T ps)) then sv_rs mk ps - nI (sp_U (sp_T ps)) else 0 - (sv_rs mk ps - nI (sp_U (sp_T ps)))))) w
    rw [sx_ab_abs (sv_rs_le (fun p hp => (n6 p hp).1) (m1 rfl)) (hx_nI (by omega))]
    exact q
  · have := e0 (a := 2) (by decide) c
    subst this
    exact ok_mostTold hg hmi hmk hB2 (m2 rfl) (bk_X0_outBy_66 hg q)
  · have := e0 (a := 3) (by decide) c
    subst this
    exact ok_wrongly hg hmi hmk hB2 (m3 rfl) (bk_X0_outBy_71 hg q)
  · have := e0 (a := 4) (by decide) c
    subst this
    refine ok_middleSaid hg hB2 (bk_X0_outBy_76 hg (ok_middleGift hg hB2 (bk_X0_outBy_80 hg ?_)))
    rw [sx_ab_abs (sv_mid_le n1 n2) sv_gift_le]
    exact q
  · have : k = 5 := by
      have h0 : k ≠ 0 := fun z => c0 (by rw [z]; rfl)
      have h1 : k ≠ 1 := fun z => c1 (by rw [z]; rfl)
      have h2 : k ≠ 2 := fun z => c2 (by rw [z]; rfl)
      have h3 : k ≠ 3 := fun z => c3 (by rw [z]; rfl)
      have h4 : k ≠ 4 := fun z => c4 (by rw [z]; rfl)
      omega
    subst this
    exact ok_oftenestMissed hg hB2 (bk_X0_outBy_89 hg q)
theorem ok_leavesLeast {g L m : Nat} {S : Nat → Prop} (hg : g < 4) (hL0 : 1 ≤ L) (hL : L ≤ 9) (hm : m < 1000) (hl : hb_fI w 9 0 g = nI L) (h : bS_least (hb_fI w 9 8 g) (hb_aI w 9 4 g) L S)
    (q1 : sv_lls L (sv_L L S) m → Q (some (hb_i 1)) w) (q0 : ¬ sv_lls L (sv_L L S) m → Q (some (hb_i 0)) w) : hb_O yX0_leavesLeast cX0_leavesLeast 3 (some .boolean) d [hb_r 9 g 0, hb_i (nI m)] w Q := by
  obtain ⟨l, h1, h2, h3, h4⟩ := h
  rw [sv_L_eq h3] at q1 q0
  have hlen := h3.2.2.1
  refine bk_X0_leavesLeast_0 hg ?_
  have key : ∀ (n i : Nat), i + n = l.length → (∀ k, k < i → ¬ l.getD k 0 = m) → hb_R yX0_leavesLeast cX0_leavesLeast 3 (some .boolean) d 2 [some (hb_r 9 g 0), some (hb_i (nI m)), some (hb_i (nI i))] [] w Q := by
    intro n
    induction n with
    | zero =>
      intro i hi hne
      rw [Nat.add_zero] at hi
      subst hi
      have hno : ¬ m ∈ l := by
        intro hx
        obtain ⟨k, hk, e⟩ := List.getElem_of_mem hx
        refine hne k hk ?_
        rw [List.getD_eq_getElem?_getD, List.getElem?_eq_getElem hk]
        exact e
      have e1 : hb_fI w 9 0 g - 1 = nI (L - 1) := by rw [hl, show (1 : Int32) = nI 1 from rfl, pk_sub hL0]
      refine bk_X0_leavesLeast_2 hg ⟨fun _ => ⟨fun c => ?_, fun c => ?_⟩, fun c => absurd (by rw [h1]; exact nI_le (Nat.le_refl _) (by omega)) c⟩
      · rw [h1, hl, nI_eq (by omega) (by omega)] at c
        refine q0 fun z => ?_
        rcases z with z | z
        · exact hno z
        · exact c z.1
      · rw [h1, hl, nI_eq (by omega) (by omega)] at c
        have e2 := h2 (L - 1) (by omega)
        have hmem : l.getD (L - 1) 0 ∈ l := by
          rw [List.getD_eq_getElem?_getD, List.getElem?_eq_getElem (show L - 1 < l.length by omega)]
          exact List.getElem_mem _
        have h1000 := h4 _ hmem
        rw [e1, nI_clamp (by omega), e2]
        refine ⟨vp_in_nI (by omega) (by decide), fun c2 => ?_, fun c2 => ?_⟩
        · rw [nI_leI (by omega) (by omega)] at c2
          refine q0 fun z => ?_
          rcases z with z | z
          · exact hno z
          · omega
        · rw [nI_leI (by omega) (by omega)] at c2
          exact q1 (Or.inr ⟨c, by omega⟩)
    | succ n ih =>
      intro i hi hne
      have hil : i < l.length := by omega
      have hmem : l.getD i 0 ∈ l := by
        rw [List.getD_eq_getElem?_getD, List.getElem?_eq_getElem hil]
        exact List.getElem_mem hil
      have h1000 := h4 _ hmem
      refine bk_X0_leavesLeast_2 hg ⟨fun c => absurd c (by rw [h1]; exact nI_ge hil (by omega)), fun _ => ⟨vp_in_nI (by omega) (by decide), fun c => ?_, fun c => ?_⟩⟩
      · rw [nI_clamp (by omega), h2 i hil, nI_eq (by omega) (by omega)] at c
        rw [nI_1]
        refine ih (i + 1) (by omega) fun k hk => ?_
        rcases Nat.lt_or_ge k i with z | z
        · exact hne k z
        · have : k = i := by omega
          subst this
          exact c
      · rw [nI_clamp (by omega), h2 i hil, nI_eq (by omega) (by omega)] at c
        exact q1 (Or.inl (c ▸ hmem))
  exact key l.length 0 (by omega) (fun k hk => absurd hk (Nat.not_lt_zero k))
theorem ok_leavesNoTrace {g L R h : Nat} {mk : Nat → Nat → Nat} {ps : List (Nat × Nat)} (hg : g < 4) (hh : h < 64) (hmi : hb_fR w 9 2 g < 2) (hmk : hw_mk w (hb_fR w 9 2 g) mk) (hB : cB w g L R mk ps)
    (q1 : sv_sameP L mk (sp_T ps) h → Q (some (hb_i 1)) w) (q0 : ¬ sv_sameP L mk (sp_T ps) h → Q (some (hb_i 0)) w) : hb_O yX0_leavesNoTrace cX0_leavesNoTrace 3 (some .boolean) (d + 3) [hb_r 9 g 0, hb_i (nI h)] w Q := by
  obtain ⟨⟨n1, n2, n3, n4, n5, n6⟩, hl, hr, ⟨t1, t2, t3, t4, t5, t6, t7⟩, m0, m1, m2, m3, m4⟩ := hB
  have er : sv_R (sS1 mk (sp_T ps)) = hb_fI w 9 10 g := sv_R_eq m1
  refine bk_X0_leavesNoTrace_0 hg ?_
  refine ok_seemsThere (R := R) hg n1 n2 hh hl hmi hmk m3 (fun z => ?_) (fun z => ?_)
  · refine bk_X0_leavesNoTrace_5 hg ⟨fun c => absurd c (by decide), fun _ => ⟨hmi, ?_⟩⟩
    refine ok_of hmi hh (by decide) ?_
    obtain ⟨e1, b1⟩ := hmk h 1 hh (by decide)
    rw [e1]
    refine bk_X0_leavesNoTrace_17 hg (ok_noughts b1 ?_)
    refine bk_X0_leavesNoTrace_20 hg ⟨fun c => ?_, fun c => q0 fun y => c (by rw [← er]; exact y.2.1)⟩
    have key : ∀ (n i : Nat), i + n = L → (∀ l, l < i → sv_S mk (sp_T ps) l ≤ mk h l) → hb_R yX0_leavesNoTrace cX0_leavesNoTrace 3 (some .boolean) (d + 2 + 1) 31 [some (hb_r 9 g 0), some (hb_i (nI h)), some (hb_i (nI i))] [] w Q := by
      intro n
      induction n with
      | zero =>
        intro i hi hs
        rw [Nat.add_zero] at hi
        subst hi
        refine bk_X0_leavesNoTrace_31 hg ⟨fun _ => ⟨hmi, ?_⟩, fun c => absurd (by rw [hl]; exact nI_le (Nat.le_refl _) (by omega)) c⟩
        refine ok_of hmi hh (by decide) ?_
        obtain ⟨e0, b0⟩ := hmk h 0 hh (by decide)
        rw [e0]
        refine bk_X0_leavesNoTrace_75 hg hg ?_
        refine ok_leavesLeast hg n1 n2 b0 hl m0 (fun y => ?_) (fun y => ?_)
        · exact bk_X0_leavesNoTrace_78 hg ⟨Or.inr rfl, q1 ⟨z, by rw [er]; exact c, hs, y⟩⟩
        · exact bk_X0_leavesNoTrace_78 hg ⟨Or.inl rfl, q0 fun x => y x.2.2.2⟩
      | succ n ih =>
        intro i hi hs
        obtain ⟨v, v1, v2, v3⟩ := m4 i (by omega)
        obtain ⟨e2, b2⟩ := hmk h i hh (by omega)
        refine bk_X0_leavesNoTrace_31 hg ⟨fun c => absurd c (by rw [hl]; exact nI_ge (by omega) (by omega)), fun _ => ⟨hmi, ?_⟩⟩
        refine ok_of hmi hh (by omega) ?_
        rw [e2]
        refine bk_X0_leavesNoTrace_48 hg ⟨vp_in_nI (by omega) (by decide), fun c => ?_, fun c => ?_⟩
        · rw [nI_clamp (by omega), v2, nI_leI (by omega) (by omega)] at c
          rw [nI_1]
          refine ih (i + 1) (by omega) fun l hl2 => ?_
          rcases Nat.lt_or_ge l i with y | y
          · exact hs l y
          · have : l = i := by omega
            subst this
            rw [sv_S_eq v1]
            exact c
        · rw [nI_clamp (by omega), v2, nI_leI (by omega) (by omega)] at c
          refine q0 fun y => c ?_
          have := y.2.2.1 i (by omega)
          rw [sv_S_eq v1] at this
          exact this
    exact key L 0 (by omega) (fun k hk => absurd hk (Nat.not_lt_zero k))
  · exact bk_X0_leavesNoTrace_5 hg ⟨fun _ => q0 fun y => z y.1, fun c => absurd rfl c⟩
end HWI
