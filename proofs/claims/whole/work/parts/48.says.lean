/-! ===== what books say, as functions of the passes ===== -/
def sS0 (mk : Nat → Nat → Nat) (T : Nat → Nat) : Nat → Prop := fun m => ∃ h, h < 64 ∧ 0 < T h ∧ m = mk h 0
def sS1 (mk : Nat → Nat → Nat) (T : Nat → Nat) : Nat → Prop := fun m => ∃ h, h < 64 ∧ 0 < T h ∧ m = mk h 1
noncomputable def sv_L (L : Nat) (S : Nat → Prop) : List Nat := Classical.epsilon (fun l => sp_least L S l)
theorem sv_L_eq {L : Nat} {S : Nat → Prop} {l : List Nat} (h : sp_least L S l) : sv_L L S = l := sp_least_one L S _ _ (Classical.epsilon_spec (p := fun l => sp_least L S l) ⟨l, h⟩) h
noncomputable def sv_R (S : Nat → Prop) : Int32 := Classical.epsilon (fun v => sp_run S v)
theorem sv_R_eq {S : Nat → Prop} {v : Int32} (h : sp_run S v) : sv_R S = v := sp_run_one (Classical.epsilon_spec (p := fun v => sp_run S v) ⟨v, h⟩) h
def sv_un (L : Nat) (l : List Nat) : Nat := if l.length < L then l.length else if l.getD (L - 1) 0 = 0 then 0 else (L - 1) * 1000 / l.getD (L - 1) 0
def sv_told (L R : Nat) (mk : Nat → Nat → Nat) (T : Nat → Nat) (h : Nat) : Nat → Nat
  | 0 => sp_cr L mk T 0 (mk h 2 % L)
  | r + 1 => if r + 1 < R then min (sv_told L R mk T h r) (sp_cr L mk T (r + 1) (mk h (2 + (r + 1)) % L)) else sv_told L R mk T h r
/-- the first place by which more than half lie -/
def sv_half (f : Nat → Nat) (c : Nat) : Nat → Nat → Nat → Option Nat
  | 0, _, _ => none
  | n + 1, i, s => if c < s + f i then some i else sv_half f c n (i + 1) (s + f i)
/-- the first of the greatest, and how great -/
def sv_top (f : Nat → Nat) : Nat → Nat × Nat
  | 0 => (0, 0)
  | n + 1 => if (sv_top f n).2 < f n then (n, f n) else sv_top f n
theorem sp_cr_le (L : Nat) (mk : Nat → Nat → Nat) (T : Nat → Nat) (r k : Nat) : sp_cr L mk T r k ≤ sp_sum T 64 := sp_sum_le fun h _ => by
  split
  · exact Nat.le_refl _
  · exact Nat.zero_le _
theorem sp_T_sum : ∀ (ps : List (Nat × Nat)), (∀ p ∈ ps, p.1 < 64) → sp_sum (sp_T ps) 64 = ps.length := by
  intro ps
  induction ps with
  | nil =>
    intro _
    exact (sp_sum_congr (g := fun _ => 0) (fun _ _ => rfl)).trans (sp_sum_zero 64)
  | cons p ps ih =>
    intro hp
    have h1 := ih (fun q hq => hp q (List.mem_cons_of_mem _ hq))
    have h2 := hp p List.mem_cons_self
    rw [List.length_cons, ← h1, ← sp_sum_upd (sp_T ps) 1 h2]
    refine sp_sum_congr fun x _ => ?_
    unfold sp_T
    rw [List.countP_cons]
    by_cases e : x = p.1
    · subst e
      simp
    · have e2 : ¬ p.1 = x := fun z => e z.symm
      simp [e, e2]
/-- the truth of a book, and its lines and rows: what no mark touches -/
def cH (w : hb_W) (g L R : Nat) (ps : List (Nat × Nat)) : Prop := cN L R ps ∧ hb_fI w 9 0 g = nI L ∧ hb_fI w 9 1 g = nI R ∧ cT w g L ps
theorem cB.H {w : hb_W} {g L R : Nat} {mk : Nat → Nat → Nat} {ps : List (Nat × Nat)} (h : cB w g L R mk ps) : cH w g L R ps := ⟨h.1, h.2.1, h.2.2.1, h.2.2.2.1⟩
theorem sv_ab_eq {a b : Nat} (ha : a < 2 ^ 30) (hb : b < 2 ^ 30) : (if 0 ≤ nI a - nI b then nI a - nI b else 0 - (nI a - nI b)) = nI (if a < b then b - a else a - b) := by
  have e := pk_sub_toInt ha hb
  by_cases h : a < b
  · rw [if_pos h, if_neg (by rw [Int32.le_iff_toInt_le, e]; show ¬ (0 : Int) ≤ _; omega)]
    have e2 : nI b - nI a = nI (b - a) := pk_sub (by omega)
    rw [← e2]
    show 0 - (nI a - nI b) = nI b - nI a
    rw [Int32.sub_eq_add_neg, Int32.neg_sub, Int32.zero_add]
  · rw [if_neg h, if_pos (by rw [Int32.le_iff_toInt_le, e]; show (0 : Int) ≤ _; omega), pk_sub (by omega)]
def sv_ab (a b : Nat) : Nat := if a < b then b - a else a - b
section HWG
variable {d : Nat} {w : hb_W} {Q : Option hb_V → hb_W → Prop}
theorem ok_unlikeSaid {g L R : Nat} {mk : Nat → Nat → Nat} {ps : List (Nat × Nat)} (hg : g < 4) (hB : cH w g L R ps) (hM : cM0 w g L mk (sp_T ps)) (q : Q (some (hb_i (nI (sv_un L (sv_L L (sS0 mk (sp_T ps))))))) w) : hb_O yX0_unlikeSaid cX0_unlikeSaid 2 (some .int) d [hb_r 9 g 0] w Q := by
  obtain ⟨⟨n1, n2, n3, n4, n5, n6⟩, hl, hr, ⟨t1, t2, t3, t4, t5, t6, t7⟩⟩ := hB
  obtain ⟨l, l1, l2, l3, l4⟩ := hM
  have e := sv_L_eq l3
  rw [show sv_L L (sS0 mk (sp_T ps)) = l from e] at q
  have hlen := l3.2.2.1
  unfold sv_un at q
  refine bk_X0_unlikeSaid_0 hg ⟨fun c => ?_, fun c => ?_⟩
  · rw [hl, l1, nI_leI (by omega) (by omega)] at c
    rw [if_neg (by omega)] at q
    have e1 : hb_fI w 9 0 g - 1 = nI (L - 1) := by rw [hl, show (1 : Int32) = nI 1 from rfl, pk_sub n1]
    have e2 := l2 (L - 1) (by omega)
    have hb : l.getD (L - 1) 0 < 1000 := l4 _ (by
      rw [List.getD_eq_getElem?_getD, List.getElem?_eq_getElem (show L - 1 < l.length by omega)]
      exact List.getElem_mem _)
    rw [e1]
    refine ⟨vp_in_nI (by omega) (by decide), fun c2 => ?_, fun c2 => ?_⟩
    · rw [nI_clamp (by omega), e2] at c2 ⊢
      refine ⟨c2, ?_⟩
      have hne : ¬ l.getD (L - 1) 0 = 0 := fun z => c2 (by rw [z]; rfl)
      rw [if_neg hne] at q
      rw [show nI (L - 1) * 1000 = nI ((L - 1) * 1000) from pk_mul (L - 1) 1000, pk_div (by omega) (by omega) (by omega)]
      exact q
    · rw [nI_clamp (by omega), e2, show (0 : Int32) = nI 0 from rfl, nI_eq (by omega) (by omega)] at c2
      rw [if_pos c2] at q
      exact q
  · rw [hl, l1, nI_leI (by omega) (by omega)] at c
    rw [if_pos (by omega)] at q
    rw [l1]
    exact q
theorem ok_runsSaid {g L R : Nat} {mk : Nat → Nat → Nat} {ps : List (Nat × Nat)} (hg : g < 4) (hB : cH w g L R ps) (hM : cM1 w g mk (sp_T ps)) (q : Q (some (hb_i (if ps.length = 0 then 0 else (1 : Int32) <<< (sv_R (sS1 mk (sp_T ps)) &&& 31)))) w) : hb_O yX0_runsSaid cX0_runsSaid 1 (some .int) d [hb_r 9 g 0] w Q := by
  obtain ⟨⟨n1, n2, n3, n4, n5, n6⟩, hl, hr, ⟨t1, t2, t3, t4, t5, t6, t7⟩⟩ := hB
  have m1 := hM
  rw [show sv_R (sS1 mk (sp_T ps)) = hb_fI w 9 10 g from sv_R_eq m1] at q
  refine bk_X0_runsSaid_0 hg ⟨fun c => ?_, fun c => ?_⟩
  · rw [t1, show (0 : Int32) = nI 0 from rfl, nI_eq (by omega) (by omega)] at c
    rw [if_neg c] at q
    exact q
  · rw [t1, show (0 : Int32) = nI 0 from rfl, nI_eq (by omega) (by omega)] at c
    rw [if_pos c] at q
    exact q
theorem ok_toldOf {g L R h : Nat} {mk : Nat → Nat → Nat} {ps : List (Nat × Nat)} (hg : g < 4) (hh : h < 64) (hmi : hb_fR w 9 2 g < 2) (hmk : hw_mk w (hb_fR w 9 2 g) mk) (hB : cH w g L R ps) (hM : cM2 w g L R mk (sp_T ps)) (q : Q (some (hb_i (nI (sv_told L R mk (sp_T ps) h (R - 1))))) w) : hb_O yX0_toldOf cX0_toldOf 4 (some .int) (d + 2) [hb_r 9 g 0, hb_i (nI h)] w Q := by
  obtain ⟨⟨n1, n2, n3, n4, n5, n6⟩, hl, hr, ⟨t1, t2, t3, t4, t5, t6, t7⟩⟩ := hB
  have m2 := hM
  have hsum : sp_sum (sp_T ps) 64 = ps.length := sp_T_sum ps (fun p hp => (n6 p hp).1)
  have hmod : ∀ r, mk h (2 + r) % L < L := fun r => Nat.mod_lt _ (by omega)
  have hle : ∀ r, sv_told L R mk (sp_T ps) h r ≤ 401 := by
    intro r
    induction r with
    | zero =>
      have := sp_cr_le L mk (sp_T ps) 0 (mk h 2 % L)
      show sp_cr L mk (sp_T ps) 0 (mk h 2 % L) ≤ 401
      omega
    | succ r ih =>
      unfold sv_told
      split
      · exact Nat.le_trans (Nat.min_le_left _ _) ih
      · exact ih
  have key : ∀ (n i : Nat), i + 1 + n = R → hb_R yX0_toldOf cX0_toldOf 4 (some .int) (d + 1 + 1) 14 [some (hb_r 9 g 0), some (hb_i (nI h)), some (hb_i (nI (sv_told L R mk (sp_T ps) h i))), some (hb_i (nI (i + 1)))] [] w Q := by
    intro n
    induction n with
    | zero =>
      intro i hi
      rw [Nat.add_zero] at hi
      subst hi
      exact bk_X0_toldOf_14 hg ⟨fun _ => q, fun c => absurd (by rw [hr]; exact nI_le (Nat.le_refl _) (by omega)) c⟩
    | succ n ih =>
      intro i hi
      refine bk_X0_toldOf_14 hg ⟨fun c => absurd c (by rw [hr]; exact nI_ge (by omega) (by omega)), fun _ => ?_⟩
      have hm := hmod (i + 1)
      refine ok_crossing hg n1 n2 (by omega) hh hl hmi hmk ?_
      refine bk_X0_toldOf_33 (gs1 := g) hg hg ⟨vp_in_nI (by omega) (by decide), ?_⟩
      rw [nI_clamp (by omega), m2 (i + 1) _ (by omega) hm, nI_1]
      have := ih (i + 1) (by omega)
      have e : (if nI (sp_cr L mk (sp_T ps) (i + 1) (mk h (2 + (i + 1)) % L)) < nI (sv_told L R mk (sp_T ps) h i) then nI (sp_cr L mk (sp_T ps) (i + 1) (mk h (2 + (i + 1)) % L)) else nI (sv_told L R mk (sp_T ps) h i)) = nI (sv_told L R mk (sp_T ps) h (i + 1)) := by
        have h1 := hle i
        have h2 := sp_cr_le L mk (sp_T ps) (i + 1) (mk h (2 + (i + 1)) % L)
        rw [show sv_told L R mk (sp_T ps) h (i + 1) = min (sv_told L R mk (sp_T ps) h i) (sp_cr L mk (sp_T ps) (i + 1) (mk h (2 + (i + 1)) % L)) from if_pos (by omega)]
        by_cases z : sp_cr L mk (sp_T ps) (i + 1) (mk h (2 + (i + 1)) % L) < sv_told L R mk (sp_T ps) h i
        · rw [if_pos (nI_lt z (by omega)), Nat.min_eq_right (by omega)]
        · rw [if_neg (nI_nlt (by omega) (by omega)), Nat.min_eq_left (by omega)]
      rw [e]
      exact this
  refine bk_X0_toldOf_0 hg ?_
  have hm := hmod 0
  refine ok_crossing (r := 0) hg n1 n2 (by decide) hh hl hmi hmk ?_
  refine bk_X0_toldOf_10 (gs0 := g) hg hg ⟨vp_in_nI (by omega) (by decide), ?_⟩
  rw [nI_clamp (by omega), m2 0 _ (by omega) hm]
  exact key (R - 1) 0 (by omega)
theorem ok_seemsThere {g L R h : Nat} {mk : Nat → Nat → Nat} {T : Nat → Nat} (hg : g < 4) (hL0 : 1 ≤ L) (hL : L ≤ 9) (hh : h < 64) (hl : hb_fI w 9 0 g = nI L) (hmi : hb_fR w 9 2 g < 2) (hmk : hw_mk w (hb_fR w 9 2 g) mk) (hB : cM3 w g L mk T)
    (q1 : sp_bit L mk (fun h => 0 < T h) (mk h 5 % (8 * L)) ∧ sp_bit L mk (fun h => 0 < T h) (mk h 6 % (8 * L)) → Q (some (hb_i 1)) w) (q0 : ¬ (sp_bit L mk (fun h => 0 < T h) (mk h 5 % (8 * L)) ∧ sp_bit L mk (fun h => 0 < T h) (mk h 6 % (8 * L))) → Q (some (hb_i 0)) w) : hb_O yX0_seemsThere cX0_seemsThere 2 (some .boolean) (d + 2) [hb_r 9 g 0, hb_i (nI h)] w Q := by
  have h5 : mk h 5 % (8 * L) < 8 * L := Nat.mod_lt _ (by omega)
  have h6 : mk h 6 % (8 * L) < 8 * L := Nat.mod_lt _ (by omega)
  refine bk_X0_seemsThere_0 hg (ok_bitPlace (l := 5) hg hL0 hL (by decide) hh hl hmi hmk ?_)
  refine bk_X0_seemsThere_10 (gs0 := g) hg hg ⟨vp_in_nI (by omega) (by decide), fun c => ?_, fun c => ?_⟩
  · rw [nI_clamp (by omega)] at c
    rcases hB _ h5 with z | z
    · exact absurd z.2 c
    · exact q0 (fun y => z.1 y.1)
  · rw [nI_clamp (by omega)] at c
    refine ok_bitPlace (l := 6) hg hL0 hL (by decide) hh hl hmi hmk ?_
    have b5 : sp_bit L mk (fun h => 0 < T h) (mk h 5 % (8 * L)) := by
      rcases hB _ h5 with z | z
      · exact z.1
      · rw [z.2] at c
        exact absurd c (by decide)
    refine bk_X0_seemsThere_26 (gs0 := g) hg hg ⟨vp_in_nI (by omega) (by decide), fun c2 => ?_, fun c2 => ?_⟩
    · rw [nI_clamp (by omega)] at c2
      rcases hB _ h6 with z | z
      · exact absurd z.2 c2
      · exact q0 (fun y => z.1 y.2)
    · rw [nI_clamp (by omega)] at c2
      rcases hB _ h6 with z | z
      · exact q1 ⟨b5, z.1⟩
      · rw [z.2] at c2
        exact absurd c2 (by decide)
end HWG
