/-! ===== the class's Ledger: what it finds ===== -/
theorem sv_cnt_congr {P P2 : Nat → Prop} : ∀ n, (∀ k, k < n → (P k ↔ P2 k)) → sv_cnt P n = sv_cnt P2 n
  | 0, _ => rfl
  | n + 1, h => by
    show sv_cnt P n + sv_is (P n) = sv_cnt P2 n + sv_is (P2 n)
    rw [sv_cnt_congr n (fun k hk => h k (by omega)), propext (h n (by omega))]
theorem sv_cnt_none {P : Nat → Prop} : ∀ n, (∀ k, k < n → ¬ P k) → sv_cnt P n = 0
  | 0, _ => rfl
  | n + 1, h => by
    show sv_cnt P n + sv_is (P n) = 0
    rw [sv_cnt_none n (fun k hk => h k (by omega)), sv_is_n (h n (by omega))]
noncomputable def sv_al (L : Nat) (mk : Nat → Nat → Nat) (T0 T1 : Nat → Nat) : Nat := sv_cnt (fun l => sv_S mk T0 l = sv_S mk T1 l ∧ sv_S mk T0 l ≠ 1000) L
theorem sg_1000 {mk : Nat → Nat → Nat} {ps : List (Nat × Nat)} {l v : Nat} (h : sp_sg mk (fun h => 0 < sp_T ps h) l v) (hm : ∀ x, x < 64 → mk x l < 1000) (hp : ∀ p ∈ ps, p.1 < 64) : v = 1000 ↔ ps.length = 0 := by
  rcases h with ⟨h1, h2⟩ | ⟨⟨x, x1, x2, x3⟩, h2⟩
  · refine ⟨fun _ => ?_, fun _ => h1⟩
    cases ps with
    | nil => rfl
    | cons p ps => exact absurd (sp_T_pos (p := p) List.mem_cons_self) (h2 p.1 (hp p List.mem_cons_self))
  · have := hm x x1
    refine ⟨fun z => by omega, fun z => ?_⟩
    have : ps = [] := List.length_eq_zero_iff.mp z
    subst this
    exact absurd x2 (Nat.lt_irrefl 0)
noncomputable def sv_sc (P : Nat → Prop) (x : Int32) : Nat → Nat → Nat → Int32
  | 0, _, _ => -1
  | n + 1, i, c => @ite Int32 (P i) (Classical.propDecidable _) (if nI c = x then nI i else sv_sc P x n (i + 1) (c + 1)) (sv_sc P x n (i + 1) c)
def sv_few (f : Nat → Int32) (x : Int32) : Nat → Nat → Int32
  | 0, _ => -1
  | n + 1, i => if x < f i then sv_few f x n (i + 1) else nI i
def sv_cx (f : Nat → Int32) : Nat → Int32 × Int32
  | 0 => (-1, -1)
  | n + 1 => if (sv_cx f n).2 < f n then (nI n, f n) else sv_cx f n
theorem sv_cx_s (f : Nat → Int32) (n : Nat) : sv_cx f (n + 1) = if (sv_cx f n).2 < f n then (nI n, f n) else sv_cx f n := rfl
def sv_bs (f : Nat → Int32) : Nat → Int32 × Int32
  | 0 => (-1, 0)
  | n + 1 => if n = 0 ∨ f n < (sv_bs f n).2 then (nI n, f n) else sv_bs f n
theorem sx_ab_nn {a b : Int32} (ha : -1000000 ≤ a.toInt ∧ a.toInt ≤ 1000000) (hb : -1000000 ≤ b.toInt ∧ b.toInt ≤ 1000000) : 0 ≤ sx_ab a b := by
  rw [← sx_ab_abs ha hb]
  have e : (a - b).toInt = a.toInt - b.toInt := by
    rw [Int32.toInt_sub]
    exact Int.bmod_eq_of_le (by omega) (by omega)
  by_cases h : 0 ≤ a - b
  · rw [if_pos h]; exact h
  · rw [if_neg h]
    rw [Int32.le_iff_toInt_le] at h ⊢
    rw [e] at h
    have e0 : (0 : Int32).toInt = 0 := by decide
    rw [e0] at h ⊢
    rw [Int32.toInt_sub, e, e0]
    rw [Int.bmod_eq_of_le (by omega) (by omega)]
    omega
theorem sv_oo_le {L : Nat} {s : Nat → Nat × Nat} {h c : Nat} (hs : ∀ k, (s k).2 ≤ c) : sv_oo L s h ≤ c := by
  unfold sv_oo
  split
  · exact hs _
  · exact Nat.zero_le _
theorem sv_out_nn {L R k : Nat} {mk : Nat → Nat → Nat} {ps : List (Nat × Nat)} (hN : cN L R ps) (h0 : k = 0 → ∃ l, sp_least L (sS0 mk (sp_T ps)) l) (h1 : k = 1 → ∃ v, sp_run (sS1 mk (sp_T ps)) v) : 0 ≤ sv_out L R mk ps k := by
  obtain ⟨n1, n2, n3, n4, n5, n6⟩ := hN
  have hU := sp_U_le (sp_T ps)
  unfold sv_out
  split
  · obtain ⟨l, hl⟩ := h0 rfl
    have hu : sv_un L (sv_L L (sS0 mk (sp_T ps))) ≤ 8000 := sv_un_le n2 (by rw [sv_L_eq hl]; exact hl.2.2.1)
    exact sx_ab_nn (hx_nI (by omega)) (hx_nI (by omega))
  · obtain ⟨v, hv⟩ := h1 rfl
    exact sx_ab_nn (sv_rs_le (fun p hp => (n6 p hp).1) hv) (hx_nI (by omega))
  · have : sv_mtold L R mk (sp_T ps) ≤ 401 := sv_mx_le (fun h => by
      have := sv_told_le (L := L) (R := R) (mk := mk) (fun p hp => (n6 p hp).1) h (R - 1)
      omega) 64
    exact nI_pos' (by omega)
  · have : sv_wr L mk (sp_T ps) ≤ 64 := sv_cnt_le _ 64
    exact nI_pos' (by omega)
  · exact sx_ab_nn (sv_mid_le n1 n2) sv_gift_le
  · unfold sv_om
    split
    · decide
    · have := sv_oo_le (L := L) (h := (sv_top (sp_T ps) 64).1) (s := sp_of L (ps.map Prod.fst)) (c := 401) (fun k => by
        have := sp_of_le L (ps.map Prod.fst) (fun _ => (0, 0)) 0 (fun _ => Nat.le_refl 0) k
        rw [List.length_map] at this
        unfold sp_of
        omega)
      have := sp_T_le ps (sv_top (sp_T ps) 64).1
      exact sx_ab_nn (hx_nI (by omega)) (hx_nI (by omega))
theorem cUp.ag {Pp : Nat → Nat → Prop} {w w2 : hb_W} {L R c : Nat} {C : List Nat} {P : List (Nat × Nat × Nat)} (h : cUp w L R C c P) (ha : hw_ag Pp w w2) (n5 : ¬ Pp 5 0) (n9 : ∀ b, b < 3 → ¬ Pp 9 b) (e9 : hb_fI w2 8 9 0 = hb_fI w 8 9 0) (e10 : hb_fI w2 8 10 0 = hb_fI w 8 10 0) (er : hb_fR w2 9 2 3 < 2) : cUp w2 L R C c P := by
  obtain ⟨⟨a0, a1, a2, a3⟩, h2, h3, h4, h5⟩ := h
  exact ⟨⟨(ha.2.2.1 9 2 0 (n9 0 (by decide))).trans a0, (ha.2.2.1 9 2 1 (n9 1 (by decide))).trans a1, (ha.2.2.1 9 2 2 (n9 2 (by decide))).trans a2, er⟩, e9.trans h2, e10.trans h3, h4.ag ha n5, fun b hb => (h5 b hb).ag ha (n9 b hb)⟩
def aTr (t g : Nat) : Prop := t = 8 ∨ (t = 9 ∧ g = 3)
section HLB
variable {d : Nat} {w : hb_W} {Q : Option hb_V → hb_W → Prop}
theorem ok_linesAlike {L R : Nat} {mk : Nat → Nat → Nat} {ps0 ps1 ps2 : List (Nat × Nat)} (h0 : cB w 0 L R mk ps0) (h1 : cB w 1 L R mk ps1) (h2 : cB w 2 L R mk ps2) (hm : ∀ h l, h < 64 → l < 9 → mk h l < 1000) (q : Q (some (hb_i (nI (sv_al L mk (sp_T ps0) (sp_T ps1))))) w) : hb_O yX4_linesAlike cX4_linesAlike 3 (some .int) d [hb_r 8 0 0] w Q := by
  obtain ⟨⟨n1, n2, n3, n4, n5, n6⟩, _, _, ⟨t1, _⟩, _, _, _, _, m4⟩ := h0
  obtain ⟨⟨_, _, _, _, k5, k6⟩, _, _, ⟨u1, _⟩, _, _, _, _, m5⟩ := h1
  obtain ⟨_, hl, _⟩ := h2
  have v0 : ∀ l, l < L → hb_aI w 9 10 0 l = nI (sv_S mk (sp_T ps0) l) ∧ sv_S mk (sp_T ps0) l ≤ 1000 ∧ (sv_S mk (sp_T ps0) l = 1000 ↔ ps0.length = 0) := fun l hl2 => by
    obtain ⟨v, v1, v2, v3⟩ := m4 l hl2
    rw [sv_S_eq v1]
    exact ⟨v2, v3, sg_1000 v1 (fun x hx => hm x l hx (by omega)) (fun p hp => (n6 p hp).1)⟩
  have v1 : ∀ l, l < L → hb_aI w 9 10 1 l = nI (sv_S mk (sp_T ps1) l) ∧ sv_S mk (sp_T ps1) l ≤ 1000 ∧ (sv_S mk (sp_T ps1) l = 1000 ↔ ps1.length = 0) := fun l hl2 => by
    obtain ⟨v, v1, v2, v3⟩ := m5 l hl2
    rw [sv_S_eq v1]
    exact ⟨v2, v3, sg_1000 v1 (fun x hx => hm x l hx (by omega)) (fun p hp => (k6 p hp).1)⟩
  have zero : (ps0.length = 0 ∨ ps1.length = 0) → sv_al L mk (sp_T ps0) (sp_T ps1) = 0 := fun z => by
    refine sv_cnt_none L (fun l hl2 y => ?_)
    rcases z with z | z
    · exact y.2 ((v0 l hl2).2.2.mpr z)
    · exact y.2 (y.1.trans ((v1 l hl2).2.2.mpr z))
  have key : ¬ ps0.length = 0 → ∀ (n i : Nat), i + n = L → hb_R yX4_linesAlike cX4_linesAlike 3 (some .int) d 26 [some (hb_r 8 0 0), some (hb_i (nI (sv_cnt (fun l => sv_S mk (sp_T ps0) l = sv_S mk (sp_T ps1) l ∧ sv_S mk (sp_T ps0) l ≠ 1000) i))), some (hb_i (nI i))] [] w Q := by
    intro hne n
    induction n with
    | zero =>
      intro i hi
      rw [Nat.add_zero] at hi
      subst hi
      exact bk_X4_linesAlike_26 ⟨fun _ => q, fun c => absurd (by rw [hl]; exact nI_le (Nat.le_refl _) (by omega)) c⟩
    | succ n ih =>
      intro i hi
      obtain ⟨a1, a2, a3⟩ := v0 i (by omega)
      obtain ⟨b1, b2, b3⟩ := v1 i (by omega)
      have hnext := ih (i + 1) (by omega)
      refine bk_X4_linesAlike_26 ⟨fun c => absurd c (by rw [hl]; exact nI_ge (by omega) (by omega)), fun _ => ⟨vp_in_nI (by omega) (by decide), vp_in_nI (by omega) (by decide), ?_⟩⟩
      rw [nI_clamp (by omega), a1, b1, nI_eq (by omega) (by omega), nI_1, nI_1]
      refine ⟨fun c => ?_, fun c => ?_⟩
      · have e : sv_cnt (fun l => sv_S mk (sp_T ps0) l = sv_S mk (sp_T ps1) l ∧ sv_S mk (sp_T ps0) l ≠ 1000) (i + 1) = sv_cnt (fun l => sv_S mk (sp_T ps0) l = sv_S mk (sp_T ps1) l ∧ sv_S mk (sp_T ps0) l ≠ 1000) i := by
          show sv_cnt _ i + sv_is _ = _
          rw [sv_is_n (fun z => c z.1)]
          rfl
        rw [e] at hnext
        exact hnext
      · have e : sv_cnt (fun l => sv_S mk (sp_T ps0) l = sv_S mk (sp_T ps1) l ∧ sv_S mk (sp_T ps0) l ≠ 1000) (i + 1) = sv_cnt (fun l => sv_S mk (sp_T ps0) l = sv_S mk (sp_T ps1) l ∧ sv_S mk (sp_T ps0) l ≠ 1000) i + 1 := by
          show sv_cnt _ i + sv_is _ = _
          rw [sv_is_y ⟨c, fun z => hne (a3.mp z)⟩]
        rw [e] at hnext
        exact hnext
  refine bk_X4_linesAlike_0 ?_
  rw [t1, u1, show (0 : Int32) = nI 0 from rfl, nI_eq (by omega) (by omega), nI_eq (by omega) (by omega)]
  refine ⟨fun c => ?_, fun c => ⟨fun _ => key c L 0 (by omega), fun c2 => ?_⟩⟩
  · rw [zero (Or.inl c)] at q
    exact q
  · rw [zero (Or.inr c2)] at q
    exact q
theorem ok_setScene {h c c2 L R : Nat} {C : List Nat} {P : List (Nat × Nat × Nat)} (hh : h < 64) (hU : cUp w L R C c P)
    (q : ∀ w2, hb_fI w2 6 0 0 = nI h → hb_fI w2 6 3 0 = nI c2 → hb_fI w2 6 4 0 = nI (sp_T (sp_bk 2 P) h) → hb_fI w2 6 5 0 = nI (sv_told L R (sp_mark C c) (sp_T (sp_bk 2 P)) h (R - 1)) → hb_fI w2 6 6 0 = nI (sp_V (sp_bk 2 P) h) → hb_fI w2 6 7 0 = nI (sp_T (sp_bk 0 P) h) → hb_fI w2 6 8 0 = nI (sp_T (sp_bk 1 P) h) → hw_ag (fun t _ => t = 6) w w2 → w2.2.2.1 = w.2.2.1 → Q none w2) : hb_O yX4_setScene cX4_setScene 3 none (d + 3) [hb_r 8 0 0, hb_i (nI h), hb_i (nI c2)] w Q := by
  have b0 := hU.2.2.2.2 0 (by decide)
  have b1 := hU.2.2.2.2 1 (by decide)
  have b2 := hU.2.2.2.2 2 (by decide)
  obtain ⟨r1, r2⟩ := hU.mk0 (b := 2) (by decide)
  have vh : vp_in (nI h) 64 := vp_in_nI hh (by decide)
  have p6 : (fun t (_ : Nat) => t = 6) 6 0 := rfl
  have ag : hw_ag (fun t _ => t = 6) w (hb_pI (hb_pI (hb_pI w 6 0 0 (nI h)) 6 3 0 (nI c2)) 6 4 0 (hb_aI w 9 1 2 h)) := (((hw_ag.rf (P := fun t _ => t = 6)).pI p6).pI p6).pI p6
  refine bk_X4_setScene_0 ⟨vh, ?_⟩
  rw [nI_clamp (by omega)]
  refine ok_toldOf (by decide) hh r1 (r2.ag ag (by decide)) (b2.H.ag ag (by decide)) (b2.ag ag (by decide)).2.2.2.2.2.2.1 ?_
  refine bk_X4_setScene_44 ⟨vh, vh, vh, ?_⟩
  rw [nI_clamp (by omega)]
  refine q _ rfl rfl ?_ rfl ?_ ?_ ?_ ((((ag.pI p6).pI p6).pI p6).pI p6) rfl
  · exact b2.2.2.2.1.2.2.1 h hh
  · exact b2.2.2.2.1.2.2.2.1 h hh
  · exact b0.2.2.2.1.2.2.1 h hh
  · exact b1.2.2.2.1.2.2.1 h hh
theorem ok_countTraceless {L R : Nat} {mk : Nat → Nat → Nat} {ps : List (Nat × Nat)} (hmi : hb_fR w 9 2 2 < 2) (hmk : hw_mk w (hb_fR w 9 2 2) mk) (hB : cB w 2 L R mk ps) (q : Q (some (hb_i (nI (sv_cnt (sv_sameP L mk (sp_T ps)) 64)))) w) : hb_O yX4_countTraceless cX4_countTraceless 3 (some .int) (d + 4) [hb_r 8 0 0] w Q := by
  have key : ∀ (n i : Nat), i + n = 64 → hb_R yX4_countTraceless cX4_countTraceless 3 (some .int) (d + 3 + 1) 4 [some (hb_r 8 0 0), some (hb_i (nI (sv_cnt (sv_sameP L mk (sp_T ps)) i))), some (hb_i (nI i))] [] w Q := by
    intro n
    induction n with
    | zero =>
      intro i hi
      rw [Nat.add_zero] at hi
      subst hi
      exact bk_X4_countTraceless_4 ⟨fun _ => q, fun c => absurd (nI_le (Nat.le_refl 64) (by decide)) c⟩
    | succ n ih =>
      intro i hi
      have hnext := ih (i + 1) (by omega)
      refine bk_X4_countTraceless_4 ⟨fun c => absurd c (nI_ge (b := 64) (by omega) (by decide)), fun _ => ?_⟩
      refine ok_leavesNoTrace (by decide) (by omega) hmi hmk hB (fun z => ?_) (fun z => ?_)
      · refine bk_X4_countTraceless_18 ⟨fun c => absurd c (by decide), fun _ => ?_⟩
        rw [nI_1, nI_1]
        have e : sv_cnt (sv_sameP L mk (sp_T ps)) (i + 1) = sv_cnt (sv_sameP L mk (sp_T ps)) i + 1 := by
          show sv_cnt _ i + sv_is _ = _
          rw [sv_is_y z]
        rw [e] at hnext
        exact hnext
      · refine bk_X4_countTraceless_18 ⟨fun _ => ?_, fun c => absurd rfl c⟩
        rw [nI_1]
        have e : sv_cnt (sv_sameP L mk (sp_T ps)) (i + 1) = sv_cnt (sv_sameP L mk (sp_T ps)) i := by
          show sv_cnt _ i + sv_is _ = _
          rw [sv_is_n z]
          rfl
        rw [e] at hnext
        exact hnext
  exact bk_X4_countTraceless_0 (key 64 0 (by decide))
theorem ok_tracelessHood {L R : Nat} {x : Int32} {mk : Nat → Nat → Nat} {ps : List (Nat × Nat)} (hmi : hb_fR w 9 2 2 < 2) (hmk : hw_mk w (hb_fR w 9 2 2) mk) (hB : cB w 2 L R mk ps) (q : Q (some (hb_i (sv_sc (sv_sameP L mk (sp_T ps)) x 64 0 0))) w) : hb_O yX4_tracelessHood cX4_tracelessHood 4 (some .int) (d + 4) [hb_r 8 0 0, hb_i x] w Q := by
  have key : ∀ (n i c : Nat), i + n = 64 → Q (some (hb_i (sv_sc (sv_sameP L mk (sp_T ps)) x n i c))) w → hb_R yX4_tracelessHood cX4_tracelessHood 4 (some .int) (d + 3 + 1) 4 [some (hb_r 8 0 0), some (hb_i x), some (hb_i (nI c)), some (hb_i (nI i))] [] w Q := by
    intro n
    induction n with
    | zero =>
      intro i c hi hq
      rw [Nat.add_zero] at hi
      subst hi
      exact bk_X4_tracelessHood_4 ⟨fun _ => hq, fun z => absurd (nI_le (Nat.le_refl 64) (by decide)) z⟩
    | succ n ih =>
      intro i c hi hq
      unfold sv_sc at hq
      refine bk_X4_tracelessHood_4 ⟨fun z => absurd z (nI_ge (b := 64) (by omega) (by decide)), fun _ => ?_⟩
      refine ok_leavesNoTrace (by decide) (by omega) hmi hmk hB (fun z => ?_) (fun z => ?_)
      · rw [if_pos z] at hq
        refine bk_X4_tracelessHood_18 ⟨fun y => absurd y (by decide), fun _ => ⟨fun y => ?_, fun y => ?_⟩⟩
        · rw [if_neg y] at hq
          rw [nI_1, nI_1]
          exact ih (i + 1) (c + 1) (by omega) hq
        · rw [if_pos y] at hq
          exact hq
      · rw [if_neg z] at hq
        refine bk_X4_tracelessHood_18 ⟨fun _ => ?_, fun y => absurd rfl y⟩
        rw [nI_1]
        exact ih (i + 1) c (by omega) hq
  exact bk_X4_tracelessHood_0 (key 64 0 0 (by decide) q)
theorem ok_fewestLines {k c L R : Nat} {x : Int32} {C : List Nat} {P : List (Nat × Nat × Nat)} (hk : k < 6) (hlen : P.length ≤ 400) (ho : sp_okP P) (hP : cP w P) (hn : hb_fI w 7 3 0 = nI P.length) (hU : cUp w L R C c P)
    (q : ∀ w2, cUp w2 L R C c P → hw_ag aTr w w2 → Q (some (hb_i (sv_few (fun i => sv_out i R (sp_mark C c) (sp_bk 2 P) k) x 9 1))) w2) : hb_O yX4_fewestLines cX4_fewestLines 6 (some .int) (d + 5) [hb_r 8 0 0, hb_r 7 0 0, hb_i (nI k), hb_i x] w Q := by
  have b2 := hU.2.2.2.2 2 (by decide)
  have n7 : ¬ aTr 7 0 := by unfold aTr; omega
  have a93 : aTr 9 3 := Or.inr ⟨rfl, rfl⟩
  have hwk : ∀ t g, (t = 9 ∧ g = 3) → aTr t g := fun t g z => Or.inr z
  have n5 : ¬ aTr 5 0 := by unfold aTr; omega
  have n9 : ∀ b, b < 3 → ¬ aTr 9 b := fun b hb => by unfold aTr; omega
  have loop : ∀ (n i : Nat), i + n = 10 → 1 ≤ i → ∀ w', hw_ag aTr w w' → cUp w' L R C c P → hb_fR w' 9 2 3 = 0 → (∀ w2, cUp w2 L R C c P → hw_ag aTr w w2 → Q (some (hb_i (sv_few (fun i => sv_out i R (sp_mark C c) (sp_bk 2 P) k) x n i))) w2) → hb_R yX4_fewestLines cX4_fewestLines 6 (some .int) (d + 4 + 1) 14 [some (hb_r 8 0 0), some (hb_r 7 0 0), some (hb_i (nI k)), some (hb_i x), some (hb_i (nI i)), none] [] w' Q := by
    intro n
    induction n with
    | zero =>
      intro i hi h1 w' hag hU' hr q'
      rw [Nat.add_zero] at hi
      subst hi
      exact bk_X4_fewestLines_14 ⟨fun _ => q' w' hU' hag, fun z => absurd (nI_lt (a := 9) (b := 10) (by decide) (by decide)) z⟩
    | succ n ih =>
      intro i hi h1 w' hag hU' hr q'
      have bw := hU'.2.2.2.2 2 (by decide)
      refine bk_X4_fewestLines_14 ⟨fun z => absurd z (nI_nlt (b := i) (a := 9) (by omega) (by decide)), fun _ => ?_⟩
      rw [bw.2.2.1]
      refine ok_begin (by decide) h1 (by omega) b2.1.2.2.1 b2.1.2.2.2.1 (fun w2 bb2 ag2 rf2 => ?_)
      refine bk_X4_fewestLines_37 ?_
      -- the passes one by one
      have pl : ∀ (m j : Nat), j + m = P.length → ∀ w3, hw_ag (fun t g => t = 9 ∧ g = 3) w' w3 → w3.2.2.1 = w'.2.2.1 → cB w3 3 i R (sp_mark C c) (sp_bk 2 (P.take j)) → hb_R yX4_fewestLines cX4_fewestLines 6 (some .int) (d + 4 + 1) 40 [some (hb_r 8 0 0), some (hb_r 7 0 0), some (hb_i (nI k)), some (hb_i x), some (hb_i (nI i)), some (hb_i (nI j))] [] w3 Q := by
        intro m
        induction m with
        | zero =>
          intro j hj w3 ag3 rf3 hb3
          rw [Nat.add_zero] at hj
          subst hj
          rw [List.take_length] at hb3
          have e3 : hb_fI w3 7 3 0 = nI P.length := ((ag3.1 7 3 0 (by decide)).trans (hag.1 7 3 0 n7)).trans hn
          have er : hb_fR w3 9 2 3 = 0 := by unfold hb_fR at hr ⊢; rw [rf3]; exact hr
          have hU3 : cUp w3 L R C c P := hU'.ag ag3 (by decide) (by omega) (ag3.1 8 9 0 (by decide)) (ag3.1 8 10 0 (by decide)) (by rw [er]; decide)
          refine bk_X4_fewestLines_40 ⟨fun _ => ?_, fun z => absurd (by rw [e3]; exact nI_le (Nat.le_refl _) (by omega)) z⟩
          refine ok_outBy (by decide) hk (by rw [er]; decide) (by rw [er]; exact hU3.2.2.2.1) hb3.H (fun _ => hb3.2.2.2.2.1) (fun _ => hb3.2.2.2.2.2.1) (fun _ => hb3.2.2.2.2.2.2.1) (fun _ => hb3.2.2.2.2.2.2.2.1) ?_
          unfold sv_few at q'
          refine bk_X4_fewestLines_84 ⟨fun z => ?_, fun z => ?_⟩
          · rw [nI_1]
            refine hx_last (l := [_, _, _, _, _]) ?_
            refine ih (i + 1) (by omega) (by omega) w3 (hag.tr (ag3.wk hwk)) hU3 er (fun w4 g1 g2 => ?_)
            have := q' w4 g1 g2
            rw [if_pos z] at this
            exact this
          · have := q' w3 hU3 (hag.tr (ag3.wk hwk))
            rw [if_neg z] at this
            exact this
        | succ m ihm =>
          intro j hj w3 ag3 rf3 hb3
          have hjl : j < P.length := by omega
          have hpj : P[j]? = some P[j] := List.getElem?_eq_getElem hjl
          have hpp := ho P[j] (List.getElem_mem hjl)
          obtain ⟨p1, p2, p3⟩ := (hP.ag hag n7).ag ag3 (by decide) j _ hpj
          have htk : P.take (j + 1) = P.take j ++ [P[j]] := by rw [List.take_add_one, hpj]; rfl
          have e3 : hb_fI w3 7 3 0 = nI P.length := ((ag3.1 7 3 0 (by decide)).trans (hag.1 7 3 0 n7)).trans hn
          have er : hb_fR w3 9 2 3 = 0 := by unfold hb_fR at hr ⊢; rw [rf3]; exact hr
          have vj : vp_in (nI j) 400 := vp_in_nI (by omega) (by decide)
          refine bk_X4_fewestLines_40 ⟨fun z => absurd z (by rw [e3]; exact nI_ge hjl (by omega)), fun _ => ⟨vj, vj, ?_⟩⟩
          rw [nI_clamp (by omega), p1, p2]
          refine ok_add (by decide) hpp.1 hpp.2.1 (by
            have := sp_bk_len 2 (P.take j)
            rw [List.length_take] at this
            omega) (by rw [er]; decide) (by rw [er]; exact (hU'.2.2.2.1).ag ag3 (by decide)) hb3 (fun w4 hb4 ag4 rf4 => ?_)
          refine bk_X4_fewestLines_70 ?_
          rw [nI_1]
          refine ihm (j + 1) (by omega) w4 (ag3.tr ag4) (rf4.trans rf3) ?_
          rw [htk, sp_bk_app, if_pos (Or.inl rfl)]
          exact hb4
      exact pl P.length 0 (by omega) w2 ag2 rf2 (bb2 _)
  refine bk_X4_fewestLines_0 ?_
  have ag0 : hw_ag (fun t g => t = 9 ∧ g = 3) w (hb_pR w 9 2 3 0) := hw_ag.rf.pR ⟨rfl, rfl⟩
  have er0 : hb_fR (hb_pR w 9 2 3 0) 9 2 3 = 0 := rfl
  exact loop 9 1 (by decide) (by decide) _ (hw_ag.rf.pR a93) (hU.ag ag0 (by decide) (by omega) rfl rfl (by rw [er0]; decide)) er0 q
theorem ok_findCross {k c L R : Nat} {C : List Nat} {P : List (Nat × Nat × Nat)} (hk : k < 6) (hlen : P.length < 400) (hU : cUp w L R C c P)
    (q : ∀ w2, cUp w2 L R C c P → hw_ag aTr w w2 → hb_fI w2 8 4 0 = (sv_cx (fun i => sv_out L R (sp_mark C c) (sp_bk 2 P ++ [(i, 0)]) k) 64).1 → hb_fI w2 8 5 0 = (sv_cx (fun i => sv_out L R (sp_mark C c) (sp_bk 2 P ++ [(i, 0)]) k) 64).2 → Q none w2) : hb_O yX4_findCrossHood cX4_findCrossHood 4 none (d + 5) [hb_r 8 0 0, hb_i (nI k)] w Q := by
  have a93 : aTr 9 3 := Or.inr ⟨rfl, rfl⟩
  have a8 : ∀ g, aTr 8 g := fun g => Or.inl rfl
  have hwk : ∀ t g, (t = 9 ∧ g = 3) → aTr t g := fun t g z => Or.inr z
  have hbl : (sp_bk 2 P).length ≤ 400 := by have := sp_bk_len 2 P; omega
  have loop : ∀ (n i : Nat), i + n = 64 → ∀ w', hw_ag aTr w w' → cUp w' L R C c P → hb_fR w' 9 2 3 = 0 → hb_fI w' 8 4 0 = (sv_cx (fun i => sv_out L R (sp_mark C c) (sp_bk 2 P ++ [(i, 0)]) k) i).1 → hb_fI w' 8 5 0 = (sv_cx (fun i => sv_out L R (sp_mark C c) (sp_bk 2 P ++ [(i, 0)]) k) i).2 → hb_R yX4_findCrossHood cX4_findCrossHood 4 none (d + 4 + 1) 23 [some (hb_r 8 0 0), some (hb_i (nI k)), some (hb_i (nI i)), none] [] w' Q := by
    intro n
    induction n with
    | zero =>
      intro i hi w' hag hU' hr h4 h5
      rw [Nat.add_zero] at hi
      subst hi
      exact bk_X4_findCrossHood_23 ⟨fun _ => q w' hU' hag h4 h5, fun z => absurd (nI_le (Nat.le_refl 64) (by decide)) z⟩
    | succ n ih =>
      intro i hi w' hag hU' hr h4 h5
      refine bk_X4_findCrossHood_23 ⟨fun z => absurd z (nI_ge (b := 64) (by omega) (by decide)), fun _ => ?_⟩
      refine ok_copy (by decide) (by decide) (hU'.2.2.2.2 2 (by decide)) (fun w2 b2 ag2 rf2 => ?_)
      have er2 : hb_fR w2 9 2 3 = 0 := by unfold hb_fR at hr ⊢; rw [rf2]; exact hr
      have hU2 : cUp w2 L R C c P := hU'.ag ag2 (by decide) (by omega) (ag2.1 8 9 0 (by decide)) (ag2.1 8 10 0 (by decide)) (by rw [er2]; decide)
      refine bk_X4_findCrossHood_40 ?_
      refine ok_add (q := 0) (by decide) (by omega) (by decide) hbl (by rw [er2]; decide) (by rw [er2]; exact hU2.2.2.2.1) b2 (fun w3 b3 ag3 rf3 => ?_)
      have er3 : hb_fR w3 9 2 3 = 0 := by unfold hb_fR at er2 ⊢; rw [rf3]; exact er2
      have hU3 : cUp w3 L R C c P := hU2.ag ag3 (by decide) (by omega) (ag3.1 8 9 0 (by decide)) (ag3.1 8 10 0 (by decide)) (by rw [er3]; decide)
      refine bk_X4_findCrossHood_49 ?_
      refine ok_outBy (by decide) hk (by rw [er3]; decide) (by rw [er3]; exact hU3.2.2.2.1) b3.H (fun _ => b3.2.2.2.2.1) (fun _ => b3.2.2.2.2.2.1) (fun _ => b3.2.2.2.2.2.2.1) (fun _ => b3.2.2.2.2.2.2.2.1) ?_
      have e4 : hb_fI w3 8 4 0 = hb_fI w' 8 4 0 := (ag3.1 8 4 0 (by decide)).trans (ag2.1 8 4 0 (by decide))
      have e5 : hb_fI w3 8 5 0 = hb_fI w' 8 5 0 := (ag3.1 8 5 0 (by decide)).trans (ag2.1 8 5 0 (by decide))
      have hag3 : hw_ag aTr w w3 := (hag.tr (ag2.wk hwk)).tr (ag3.wk hwk)
      have ltle : ∀ a b : Int32, a ≤ b ↔ ¬ b < a := fun a b => by rw [Int32.le_iff_toInt_le, Int32.lt_iff_toInt_lt]; omega
      refine bk_X4_findCrossHood_57 ⟨fun z => ?_, fun z => ?_⟩
      · rw [nI_1]
        refine hx_last (l := [_, _, _]) ?_
        rw [e5, h5, ltle] at z
        refine ih (i + 1) (by omega) w3 hag3 hU3 er3 ?_ ?_
        · rw [e4, h4]
          rw [sv_cx_s, if_neg z]
        · rw [e5, h5]
          rw [sv_cx_s, if_neg z]
      · rw [nI_1]
        refine hx_last (l := [_, _, _]) ?_
        rw [e5, h5, ltle, Decidable.not_not] at z
        have ag8 : hw_ag (fun t _ => t = 8) w3 (hb_pI (hb_pI w3 8 4 0 (nI i)) 8 5 0 (sv_out L R (sp_mark C c) (sp_bk 2 P ++ [(i, 0)]) k)) := (hw_ag.rf.pI (P := fun t _ => t = 8) rfl).pI rfl
        refine ih (i + 1) (by omega) _ ((hag3.pI (a8 0)).pI (a8 0)) (hU3.ag ag8 (by decide) (by decide) rfl rfl (by show hb_fR w3 9 2 3 < 2; rw [er3]; decide)) er3 ?_ ?_
        · show nI i = _
          rw [sv_cx_s, if_pos z]
        · show sv_out L R (sp_mark C c) (sp_bk 2 P ++ [(i, 0)]) k = _
          rw [sv_cx_s, if_pos z]
  refine bk_X4_findCrossHood_0 ?_
  have ag0 : hw_ag (fun t g => t = 8 ∨ (t = 9 ∧ g = 3)) w (hb_pI (hb_pI (hb_pR w 9 2 3 0) 8 4 0 (-1)) 8 5 0 (-1)) := ((hw_ag.rf.pR (Or.inr ⟨rfl, rfl⟩)).pI (Or.inl rfl)).pI (Or.inl rfl)
  have er0 : hb_fR (hb_pI (hb_pI (hb_pR w 9 2 3 0) 8 4 0 (-1)) 8 5 0 (-1)) 9 2 3 = 0 := rfl
  exact loop 64 0 (by decide) _ ag0 (hU.ag ag0 (by decide) (by omega) rfl rfl (by rw [er0]; decide)) er0 rfl rfl
end HLB
