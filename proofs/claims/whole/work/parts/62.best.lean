/-! ===== the class's Ledger: the best coin ===== -/
def bl_f (k : Nat) : Nat := if k = 0 then 0 else if k = 1 then 1 else if k = 2 then 2 else 5
def bl_l (k R : Nat) : Nat := if k = 0 then 0 else if k = 1 then 1 else if k = 2 then 1 + R else 6
theorem sv_mx_congr {f g : Nat → Nat} : ∀ n, (∀ k, k < n → f k = g k) → sv_mx f n = sv_mx g n
  | 0, _ => rfl
  | n + 1, h => by
    show (if sv_mx f n < f n then f n else sv_mx f n) = (if sv_mx g n < g n then g n else sv_mx g n)
    rw [sv_mx_congr n (fun k hk => h k (by omega)), h n (by omega)]
theorem sp_cr_cg {L r k : Nat} {mk mk2 : Nat → Nat → Nat} {T : Nat → Nat} (h : ∀ x, x < 64 → mk x (2 + r) = mk2 x (2 + r)) : sp_cr L mk T r k = sp_cr L mk2 T r k := sp_sum_congr fun x hx => by rw [h x hx]
theorem sv_told_cg {L R h : Nat} {mk mk2 : Nat → Nat → Nat} {T : Nat → Nat} (hh : h < 64) (hm : ∀ x r, x < 64 → r < R → mk x (2 + r) = mk2 x (2 + r)) (hR : 1 ≤ R) : ∀ r, r < R → sv_told L R mk T h r = sv_told L R mk2 T h r
  | 0, _ => by
    show sp_cr L mk T 0 (mk h 2 % L) = sp_cr L mk2 T 0 (mk2 h 2 % L)
    rw [sp_cr_cg (fun x hx => hm x 0 hx (by omega)), show mk h 2 = mk2 h 2 from hm h 0 hh (by omega)]
  | r + 1, hr => by
    show (if r + 1 < R then min (sv_told L R mk T h r) (sp_cr L mk T (r + 1) (mk h (2 + (r + 1)) % L)) else sv_told L R mk T h r) = (if r + 1 < R then min (sv_told L R mk2 T h r) (sp_cr L mk2 T (r + 1) (mk2 h (2 + (r + 1)) % L)) else sv_told L R mk2 T h r)
    rw [sv_told_cg hh hm hR r (by omega), sp_cr_cg (fun x hx => hm x (r + 1) hx hr), hm h (r + 1) hh hr]
theorem sv_out_cg {L R k : Nat} {mk mk2 : Nat → Nat → Nat} {ps : List (Nat × Nat)} (hR : 1 ≤ R) (h : ∀ x l, x < 64 → bl_f k ≤ l → l ≤ bl_l k R → mk x l = mk2 x l) : sv_out L R mk ps k = sv_out L R mk2 ps k := by
  have s0 : k = 0 → sS0 mk (sp_T ps) = sS0 mk2 (sp_T ps) := fun hk => by
    subst hk
    funext m
    apply propext
    constructor
    · rintro ⟨x, x1, x2, x3⟩
      exact ⟨x, x1, x2, by rw [x3, h x 0 x1 (Nat.le_refl _) (Nat.le_refl _)]⟩
    · rintro ⟨x, x1, x2, x3⟩
      exact ⟨x, x1, x2, by rw [x3, h x 0 x1 (Nat.le_refl _) (Nat.le_refl _)]⟩
  have s1 : k = 1 → sS1 mk (sp_T ps) = sS1 mk2 (sp_T ps) := fun hk => by
    subst hk
    funext m
    apply propext
    constructor
    · rintro ⟨x, x1, x2, x3⟩
      exact ⟨x, x1, x2, by rw [x3, h x 1 x1 (Nat.le_refl _) (Nat.le_refl _)]⟩
    · rintro ⟨x, x1, x2, x3⟩
      exact ⟨x, x1, x2, by rw [x3, h x 1 x1 (Nat.le_refl _) (Nat.le_refl _)]⟩
  have s3 : k = 3 → ∀ y, sp_bit L mk (fun h => 0 < sp_T ps h) y ↔ sp_bit L mk2 (fun h => 0 < sp_T ps h) y := fun hk y => by
    subst hk
    have e5 : ∀ x, x < 64 → mk x 5 = mk2 x 5 := fun x hx => h x 5 hx (by decide) (by simp [bl_l])
    have e6 : ∀ x, x < 64 → mk x 6 = mk2 x 6 := fun x hx => h x 6 hx (by decide) (by simp [bl_l])
    constructor
    · rintro ⟨x, x1, x2, x3⟩
      exact ⟨x, x1, x2, by rw [← e5 x x1, ← e6 x x1]; exact x3⟩
    · rintro ⟨x, x1, x2, x3⟩
      exact ⟨x, x1, x2, by rw [e5 x x1, e6 x x1]; exact x3⟩
  unfold sv_out
  split
  · rw [s0 rfl]
  · unfold sv_rs
    rw [s1 rfl]
  · unfold sv_mtold
    congr 1
    refine sv_mx_congr 64 fun x hx => ?_
    rw [sv_told_cg hx (fun y r hy hr => h y (2 + r) hy (by simp [bl_f]) (by simp [bl_l]; omega)) hR (R - 1) (by omega)]
  · unfold sv_wr
    congr 1
    refine sv_cnt_congr 64 fun x hx => ?_
    unfold sv_wasP
    rw [s3 rfl, s3 rfl, h x 5 hx (by decide) (by simp [bl_l]), h x 6 hx (by decide) (by simp [bl_l])]
  · rfl
  · rfl
theorem sv_bs_s (f : Nat → Int32) (n : Nat) : sv_bs f (n + 1) = if n = 0 ∨ f n < (sv_bs f n).2 then (nI n, f n) else sv_bs f n := rfl
theorem sv_bs_n (f : Nat → Int32) : ∀ n, ∃ b, b ≤ n ∧ (sv_bs f (n + 1)).1 = nI b
  | 0 => ⟨0, Nat.le_refl 0, rfl⟩
  | n + 1 => by
    obtain ⟨b, b1, b2⟩ := sv_bs_n f n
    rw [sv_bs_s]
    by_cases h : n + 1 = 0 ∨ f (n + 1) < (sv_bs f (n + 1)).2
    · rw [if_pos h]
      exact ⟨n + 1, Nat.le_refl _, rfl⟩
    · rw [if_neg h]
      exact ⟨b, by omega, b2⟩
def tI (T : Nat → Nat) (i : Nat) : Nat → Nat := fun h => if h < i then T h else 0
theorem tI_0 (T : Nat → Nat) : tI T 0 = fun _ => 0 := funext fun h => if_neg (Nat.not_lt_zero h)
theorem tI_z {T : Nat → Nat} {i : Nat} (h : T i = 0) : tI T (i + 1) = tI T i := by
  funext x
  unfold tI
  by_cases e : x = i
  · subst e
    rw [if_pos (by omega), if_neg (by omega), h]
  · by_cases e2 : x < i
    · rw [if_pos (by omega), if_pos e2]
    · rw [if_neg (by omega), if_neg e2]
theorem tI_s (T : Nat → Nat) (i : Nat) : tI T (i + 1) = fun x => if x = i then tI T i x + T i else tI T i x := by
  funext x
  unfold tI
  by_cases e : x = i
  · subst e
    rw [if_pos (by omega), if_pos rfl, if_neg (by omega), Nat.zero_add]
  · rw [if_neg e]
    by_cases e2 : x < i
    · rw [if_pos (by omega), if_pos e2]
    · rw [if_neg (by omega), if_neg e2]
theorem tI_p {T : Nat → Nat} {i : Nat} (h : 0 < T i) (x : Nat) : 0 < tI T (i + 1) x ↔ 0 < tI T i x ∨ x = i := by
  rw [tI_s]
  by_cases e : x = i
  · simp [e]; omega
  · simp [e]
theorem tI_64 {T : Nat → Nat} {x : Nat} (h : x < 64) : tI T 64 x = T x := if_pos h
def aBs (t g : Nat) : Prop := t = 6 ∨ t = 8 ∨ (t = 9 ∧ g = 3) ∨ (t = 5 ∧ g = 1)
/-- what the kind looks at in the trial -/
def cMk (w : hb_W) (k L R : Nat) (mk : Nat → Nat → Nat) (T : Nat → Nat) : Prop := (k = 0 → cM0 w 3 L mk T) ∧ (k = 1 → cM1 w 3 mk T) ∧ (k = 2 → cM2 w 3 L R mk T) ∧ (k = 3 → cM3 w 3 L mk T)
theorem sp_cr_T {L r k : Nat} {mk : Nat → Nat → Nat} {T T2 : Nat → Nat} (h : ∀ x, x < 64 → T x = T2 x) : sp_cr L mk T r k = sp_cr L mk T2 r k := sp_sum_congr fun x hx => by rw [h x hx]
theorem cMk.full {w : hb_W} {k L R : Nat} {mk : Nat → Nat → Nat} {T : Nat → Nat} (h : cMk w k L R mk (tI T 64)) : cMk w k L R mk T := by
  obtain ⟨h0, h1, h2, h3⟩ := h
  have e : ∀ (P : Nat → Prop), (∃ x, x < 64 ∧ 0 < tI T 64 x ∧ P x) ↔ (∃ x, x < 64 ∧ 0 < T x ∧ P x) := fun P => by
    constructor
    · rintro ⟨x, x1, x2, x3⟩
      exact ⟨x, x1, by rw [tI_64 x1] at x2; exact x2, x3⟩
    · rintro ⟨x, x1, x2, x3⟩
      exact ⟨x, x1, by rw [tI_64 x1]; exact x2, x3⟩
  refine ⟨fun z => ?_, fun z => ?_, fun z r k hr hk => ?_, fun z y hy => ?_⟩
  · have := h0 z
    unfold cM0 at this ⊢
    simp only [e] at this
    exact this
  · have := h1 z
    unfold cM1 at this ⊢
    simp only [e] at this
    exact this
  · rw [h2 z r k hr hk, sp_cr_T (fun x hx => tI_64 hx)]
  · have := h3 z y hy
    unfold sp_bit at this ⊢
    simp only [e] at this
    exact this
section HLC
variable {d : Nat} {w : hb_W} {Q : Option hb_V → hb_W → Prop}
theorem ok_wipe2 (q : ∀ w2, (∀ k L R mk, L ≤ 9 → R ≤ 3 → cMk w2 k L R mk (fun _ => 0)) → (∀ L R ps, cH w 3 L R ps → cH w2 3 L R ps) → hw_ag (fun t g => t = 9 ∧ g = 3) w w2 → w2.2.2.1 = w.2.2.1 → Q none w2) : hb_O yX0_wipeMarks cX0_wipeMarks 1 none (d + 1) [hb_r 9 3 0] w Q := by
  have fl : ∀ {n k : Nat} {x : Int32} {f : Nat → Int32}, k < n → hw_fill n x f k = x := fun h => by unfold hw_fill; rw [if_pos h]
  refine ok_wipeMarks (by decide) (q _ (fun k L R mk hL hR => ⟨fun _ => ?_, fun _ => ?_, fun _ r j hr hj => ?_, fun _ j hj => ?_⟩) (fun L R ps h => h) ?_ rfl)
  · refine ⟨[], rfl, fun k hk => absurd hk (Nat.not_lt_zero k), sp_least_congr (sp_least_nil L) fun m => ?_, fun m hm => by cases hm⟩
    constructor
    · intro z; exact False.elim z
    · rintro ⟨h, _, z, _⟩
      exact absurd z (Nat.lt_irrefl 0)
  · refine Or.inl ⟨rfl, ?_⟩
    rintro m ⟨h, _, z, _⟩
    exact absurd z (Nat.lt_irrefl 0)
  · show hw_fill 27 0 (hb_aI w 9 7 3) (r * 9 + j) = _
    rw [fl (by omega)]
    have : sp_cr L mk (fun _ => 0) r j = 0 := by
      unfold sp_cr
      rw [sp_sum_congr (g := fun _ => 0) (fun x _ => by split <;> rfl), sp_sum_zero]
    rw [this]
    rfl
  · show _ ∨ (_ ∧ hw_fill 72 0 (hb_aI w 9 8 3) j = 0)
    rw [fl (by omega)]
    refine Or.inr ⟨?_, rfl⟩
    rintro ⟨h, _, z, _⟩
    exact absurd z (Nat.lt_irrefl 0)
  · have hp : (fun t g2 => t = 9 ∧ g2 = 3) 9 3 := ⟨rfl, rfl⟩
    exact ((((hw_ag.rf.pI hp).pI hp).sI hp).sI hp).sI hp
/-- one hood's marks, by its times -/
theorem ok_addMk {k L R i : Nat} {mk : Nat → Nat → Nat} {ps : List (Nat × Nat)} (hk : k < 6) (hi : i < 64) (hT : 0 < sp_T ps i) (hr : hb_fR w 9 2 3 = 1) (hmk : hw_mk w 1 mk) (hH : cH w 3 L R ps) (hM : cMk w k L R mk (tI (sp_T ps) i))
    (q : ∀ w2, cMk w2 k L R mk (tI (sp_T ps) (i + 1)) → cH w2 3 L R ps → hw_ag (fun t g => t = 9 ∧ g = 3) w w2 → w2.2.2.1 = w.2.2.1 → Q none w2) : hb_O yX0_addMarks cX0_addMarks 5 none (d + 3) [hb_r 9 3 0, hb_i (nI i), hb_i (nI (sp_T ps i)), hb_i (nI k)] w Q := by
  have hH2 := hH
  obtain ⟨⟨n1, n2, n3, n4, n5, n6⟩, hl, hrw, ⟨t1, t2, t3, t4, t5, t6, t7⟩⟩ := hH2
  obtain ⟨m0, m1, m2, m3⟩ := hM
  have hp : (fun t g2 => t = 9 ∧ g2 = 3) 9 3 := ⟨rfl, rfl⟩
  have r2 : hb_fR w 9 2 3 < 2 := by rw [hr]; decide
  have mk3 : hw_mk w (hb_fR w 9 2 3) mk := by rw [hr]; exact hmk
  have hP := tI_p hT
  have e : ∀ (F : Nat → Prop), (∃ x, x < 64 ∧ 0 < tI (sp_T ps) (i + 1) x ∧ F x) ↔ ((∃ x, x < 64 ∧ 0 < tI (sp_T ps) i x ∧ F x) ∨ F i) := fun F => by
    constructor
    · rintro ⟨x, x1, x2, x3⟩
      rcases (hP x).mp x2 with z | z
      · exact Or.inl ⟨x, x1, z, x3⟩
      · subst z; exact Or.inr x3
    · rintro (⟨x, x1, x2, x3⟩ | z)
      · exact ⟨x, x1, (hP x).mpr (Or.inl x2), x3⟩
      · exact ⟨i, hi, (hP i).mpr (Or.inr rfl), z⟩
  have hk6 : k = 0 ∨ k = 1 ∨ k = 2 ∨ k = 3 ∨ k = 4 ∨ k = 5 := by omega
  rcases hk6 with rfl | rfl | rfl | rfl | rfl | rfl
  · refine ok_addMarks0 (by decide) n1 n2 hi hl r2 mk3 (m0 rfl) (fun c f hm0 => q _ ⟨fun _ => ?_, fun z => absurd z (by decide), fun z => absurd z (by decide), fun z => absurd z (by decide)⟩ hH ((hw_ag.rf.pI hp).sI hp) rfl)
    obtain ⟨l, l1, l2, l3, l4⟩ := hm0
    exact ⟨l, l1, l2, sp_least_congr l3 fun m => (e (fun x => m = mk x 0)).symm, l4⟩
  · refine ok_addMarks1 (by decide) hi r2 mk3 (q _ ⟨fun z => absurd z (by decide), fun _ => ?_, fun z => absurd z (by decide), fun z => absurd z (by decide)⟩ hH (hw_ag.rf.pI hp) rfl)
    have hrun := sp_run_add (m := mk i 1) (m1 rfl)
    have e1 : (fun m => ∃ h, h < 64 ∧ 0 < tI (sp_T ps) (i + 1) h ∧ m = mk h 1) = (fun x => (∃ h, h < 64 ∧ 0 < tI (sp_T ps) i h ∧ x = mk h 1) ∨ x = mk i 1) := funext fun m => propext (e (fun x => m = mk x 1))
    show sp_run (fun m => ∃ h, h < 64 ∧ 0 < tI (sp_T ps) (i + 1) h ∧ m = mk h 1) _
    rw [e1]
    exact hrun
  · refine ok_addMarks2 (by decide) n1 n2 n4 hi hl hrw r2 mk3 (m2 rfl) (fun f7 hf7 => q _ ⟨fun z => absurd z (by decide), fun z => absurd z (by decide), fun _ r j hr1 hj => ?_, fun z => absurd z (by decide)⟩ hH (hw_ag.rf.sI hp) rfl)
    rw [hw_aIs, hf7 r j hr1 hj, tI_s, sp_cr_add hi]
  · refine ok_addMarks3 (by decide) n1 n2 hi hl r2 mk3 (q _ ⟨fun z => absurd z (by decide), fun z => absurd z (by decide), fun z => absurd z (by decide), fun _ => ?_⟩ hH (hw_ag.rf.sI hp) rfl)
    unfold cM3
    rw [hw_aIs]
    exact bS_bits_add hi (m3 rfl) hP
  · exact bk_X0_addMarks_0 (by decide) ⟨fun c => absurd c (by decide), fun c => absurd c (by decide), fun c => absurd c (by decide), fun c => absurd c (by decide), fun _ _ _ _ => q w ⟨fun z => absurd z (by decide), fun z => absurd z (by decide), fun z => absurd z (by decide), fun z => absurd z (by decide)⟩ hH hw_ag.rf rfl⟩
  · exact bk_X0_addMarks_0 (by decide) ⟨fun c => absurd c (by decide), fun c => absurd c (by decide), fun c => absurd c (by decide), fun c => absurd c (by decide), fun _ _ _ _ => q w ⟨fun z => absurd z (by decide), fun z => absurd z (by decide), fun z => absurd z (by decide), fun z => absurd z (by decide)⟩ hH hw_ag.rf rfl⟩
theorem ok_firstLine {k : Nat} (hk : k < 6) (q : Q (some (hb_i (nI (bl_f k)))) w) : hb_O yX4_firstLineOf cX4_firstLineOf 1 (some .int) d [hb_i (nI k)] w Q := by
  have hk6 : k = 0 ∨ k = 1 ∨ k = 2 ∨ k = 3 ∨ k = 4 ∨ k = 5 := by omega
  rcases hk6 with rfl | rfl | rfl | rfl | rfl | rfl
  · exact bk_X4_firstLineOf_0 ⟨fun _ => q, fun c => absurd c (by decide), fun c => absurd c (by decide), fun c => absurd rfl c⟩
  · exact bk_X4_firstLineOf_0 ⟨fun c => absurd c (by decide), fun _ => q, fun c => absurd c (by decide), fun _ c => absurd rfl c⟩
  · exact bk_X4_firstLineOf_0 ⟨fun c => absurd c (by decide), fun c => absurd c (by decide), fun _ => q, fun _ _ c => absurd rfl c⟩
  · exact bk_X4_firstLineOf_0 ⟨fun c => absurd c (by decide), fun c => absurd c (by decide), fun c => absurd c (by decide), fun _ _ _ => q⟩
  · exact bk_X4_firstLineOf_0 ⟨fun c => absurd c (by decide), fun c => absurd c (by decide), fun c => absurd c (by decide), fun _ _ _ => q⟩
  · exact bk_X4_firstLineOf_0 ⟨fun c => absurd c (by decide), fun c => absurd c (by decide), fun c => absurd c (by decide), fun _ _ _ => q⟩
theorem ok_lastLine {k R : Nat} (hk : k < 6) (q : Q (some (hb_i (nI (bl_l k R)))) w) : hb_O yX4_lastLineOf cX4_lastLineOf 2 (some .int) d [hb_i (nI k), hb_i (nI R)] w Q := by
  have hk6 : k = 0 ∨ k = 1 ∨ k = 2 ∨ k = 3 ∨ k = 4 ∨ k = 5 := by omega
  rcases hk6 with rfl | rfl | rfl | rfl | rfl | rfl
  · exact bk_X4_lastLineOf_0 ⟨fun _ => q, fun c => absurd c (by decide), fun c => absurd c (by decide), fun c => absurd rfl c⟩
  · exact bk_X4_lastLineOf_0 ⟨fun c => absurd c (by decide), fun _ => q, fun c => absurd c (by decide), fun _ c => absurd rfl c⟩
  · refine bk_X4_lastLineOf_0 ⟨fun c => absurd c (by decide), fun c => absurd c (by decide), fun _ => ?_, fun _ _ c => absurd rfl c⟩
    rw [show (1 : Int32) + nI R = nI (1 + R) from nI_add 1 R]
    exact q
  · exact bk_X4_lastLineOf_0 ⟨fun c => absurd c (by decide), fun c => absurd c (by decide), fun c => absurd c (by decide), fun _ _ _ => q⟩
  · exact bk_X4_lastLineOf_0 ⟨fun c => absurd c (by decide), fun c => absurd c (by decide), fun c => absurd c (by decide), fun _ _ _ => q⟩
  · exact bk_X4_lastLineOf_0 ⟨fun c => absurd c (by decide), fun c => absurd c (by decide), fun c => absurd c (by decide), fun _ _ _ => q⟩
def mkc (k c i : Nat) (C : List Nat) (mk1 : Nat → Nat → Nat) : Nat → Nat → Nat := fun h l => if bl_f k ≤ l ∧ l < i then sp_mark C c h l else mk1 h l
set_option maxHeartbeats 1000000 in
theorem ok_markTrial {g1 k c L R : Nat} {C : List Nat} {mk1 : Nat → Nat → Nat} {ps : List (Nat × Nat)} (hg1 : g1 < 2) (hk : k < 6) (hc : c < 100) (hX : cMx w g1 C) (hR : hb_fI w 9 1 2 = nI R) (hr : hb_fR w 9 2 3 = 1) (hmk : hw_mk w 1 mk1) (hH : cH w 3 L R ps)
    (q : ∀ w2 mk2, hw_mk w2 1 mk2 → (∀ x l, x < 64 → bl_f k ≤ l → l ≤ bl_l k R → mk2 x l = sp_mark C c x l) → cMk w2 k L R mk2 (sp_T ps) → cH w2 3 L R ps → hw_ag (fun t g => t = 6 ∨ (t = 9 ∧ g = 3) ∨ (t = 5 ∧ g = 1)) w w2 → w2.2.2.1 = w.2.2.1 → Q none w2) : hb_O yX4_markTrial cX4_markTrial 6 none (d + 4) [hb_r 8 0 0, hb_r 11 g1 0, hb_i (nI k), hb_i (nI c)] w Q := by
  have hR4 := hH.1.2.2.2.1
  have hR1 := hH.1.2.2.1
  have hfl : bl_f k ≤ bl_l k R + 1 := by
    have hk6 : k = 0 ∨ k = 1 ∨ k = 2 ∨ (k ≠ 0 ∧ k ≠ 1 ∧ k ≠ 2) := by omega
    rcases hk6 with rfl | rfl | rfl | ⟨a, b, c⟩
    · simp [bl_f, bl_l]
    · simp [bl_f, bl_l]
    · simp [bl_f, bl_l]
    · simp [bl_f, bl_l, a, b, c]
  have hl7 : bl_l k R ≤ 6 := by
    unfold bl_l
    repeat' split
    all_goals omega
  -- the hoods
  have hoods : ∀ (mk2 : Nat → Nat → Nat), (∀ x l, x < 64 → bl_f k ≤ l → l ≤ bl_l k R → mk2 x l = sp_mark C c x l) → ∀ (n i : Nat), i + n = 64 → ∀ w', hw_mk w' 1 mk2 → cMk w' k L R mk2 (tI (sp_T ps) i) → cH w' 3 L R ps → hw_ag (fun t g => t = 6 ∨ (t = 9 ∧ g = 3) ∨ (t = 5 ∧ g = 1)) w w' → w'.2.2.1 = w.2.2.1 → ∀ x4, hb_R yX4_markTrial cX4_markTrial 6 none (d + 3 + 1) 57 [some (hb_r 8 0 0), some (hb_r 11 g1 0), some (hb_i (nI k)), some (hb_i (nI c)), some (hb_i x4), some (hb_i (nI i))] [] w' Q := by
    intro mk2 hmk2 n
    induction n with
    | zero =>
      intro i hi w' h1 h2 h3 h4 h5 x4
      rw [Nat.add_zero] at hi
      subst hi
      exact bk_X4_markTrial_57 hg1 ⟨fun _ => q w' mk2 h1 hmk2 h2.full h3 h4 h5, fun z => absurd (nI_le (Nat.le_refl 64) (by decide)) z⟩
    | succ n ih =>
      intro i hi w' h1 h2 h3 h4 h5 x4
      have hTl := sp_T_le ps i
      have hn5 := h3.1.2.2.2.2.1
      have vi : vp_in (nI i) 64 := vp_in_nI (by omega) (by decide)
      have eT : hb_aI w' 9 1 3 i = nI (sp_T ps i) := h3.2.2.2.2.2.1 i (by omega)
      refine bk_X4_markTrial_57 hg1 ⟨fun z => absurd z (nI_ge (b := 64) (by omega) (by decide)), fun _ => ⟨vi, ?_⟩⟩
      rw [nI_clamp (by omega), eT, show (0 : Int32) = nI 0 from rfl, nI_leI (by omega) (by decide)]
      refine ⟨fun z => ?_, fun z => ⟨vi, ?_⟩⟩
      · refine bk_X4_markTrial_97 hg1 ?_
        rw [nI_1]
        refine ih (i + 1) (by omega) w' h1 ?_ h3 h4 h5 x4
        rw [tI_z (by omega)]
        exact h2
      · have er : hb_fR w' 9 2 3 = 1 := by unfold hb_fR at hr ⊢; rw [h5]; exact hr
        refine ok_addMk hk (by omega) (by omega) er h1 h3 h2 (fun w2 g1' g2 g3 g4 => ?_)
        refine bk_X4_markTrial_97 hg1 ?_
        rw [nI_1]
        exact ih (i + 1) (by omega) w2 (h1.ag g3 (by decide)) g1' g2 (h4.tr (g3.wk (fun t g z => Or.inr (Or.inl z)))) (g4.trans h5) x4
  -- the lines
  have lines : ∀ (n i : Nat), i + n = bl_l k R + 1 → bl_f k ≤ i → ∀ w', hw_mk w' 1 (mkc k c i C mk1) → cH w' 3 L R ps → hw_ag (fun t g => t = 6 ∨ (t = 9 ∧ g = 3) ∨ (t = 5 ∧ g = 1)) w w' → w'.2.2.1 = w.2.2.1 → hb_R yX4_markTrial cX4_markTrial 6 none (d + 3 + 1) 19 [some (hb_r 8 0 0), some (hb_r 11 g1 0), some (hb_i (nI k)), some (hb_i (nI c)), some (hb_i (nI (bl_l k R))), some (hb_i (nI i))] [] w' Q := by
    intro n
    induction n with
    | zero =>
      intro i hi hfi w' h1 h3 h4 h5
      refine bk_X4_markTrial_19 hg1 ⟨fun _ => ?_, fun z => absurd (nI_lt (by omega) (by omega)) z⟩
      refine ok_wipe2 (fun w2 g1' g2 g3 g4 => ?_)
      refine bk_X4_markTrial_54 hg1 ?_
      refine hoods (mkc k c i C mk1) (fun x l hx hl1 hl2 => if_pos ⟨hl1, by omega⟩) 64 0 (by decide) w2 (h1.ag g3 (by decide)) ?_ (g2 L R ps h3) (h4.tr (g3.wk (fun t g z => Or.inr (Or.inl z)))) (g4.trans h5) _
      rw [tI_0]
      exact g1' k L R _ h3.1.2.1 hR4
    | succ n ih =>
      intro i hi hfi w' h1 h3 h4 h5
      refine bk_X4_markTrial_19 hg1 ⟨fun z => absurd z (nI_nlt (by omega) (by omega)), fun _ => ?_⟩
      obtain ⟨x0, a, x1, x2, x3⟩ := hX.ag h4 (by omega) (by omega)
      refine ok_fillLine (by decide) hg1 (by omega) hc x1 x0 x2 x3 (fun w2 f1 f2 ag2 rf2 => ?_)
      refine bk_X4_markTrial_41 hg1 ?_
      rw [nI_1]
      refine ih (i + 1) (by omega) (by omega) w2 (fun x l hx hl9 => ?_) (h3.ag ag2 (by decide)) (h4.tr (ag2.wk (fun t g z => ?_))) (rf2.trans h5)
      · by_cases e : l = i
        · subst e
          have e1 : mkc k c (l + 1) C mk1 x l = sp_mark C c x l := if_pos ⟨hfi, by omega⟩
          rw [e1]
          exact ⟨f1 x hx, sp_md_lt _⟩
        · rw [f2 x l hl9 e]
          have := h1 x l hx hl9
          have e1 : mkc k c (i + 1) C mk1 x l = mkc k c i C mk1 x l := by
            unfold mkc
            by_cases e2 : bl_f k ≤ l ∧ l < i
            · rw [if_pos e2, if_pos (by omega)]
            · rw [if_neg e2, if_neg (by omega)]
          rw [e1]
          exact this
      · rcases z with z | z
        · exact Or.inl z
        · exact Or.inr (Or.inr z)
  refine bk_X4_markTrial_0 hg1 ?_
  rw [hR]
  refine ok_lastLine hk (bk_X4_markTrial_11 hg1 (ok_firstLine hk (bk_X4_markTrial_17 hg1 ?_)))
  refine lines (bl_l k R + 1 - bl_f k) (bl_f k) (by omega) (Nat.le_refl _) w ?_ hH hw_ag.rf rfl
  intro x l hx hl9
  have : mkc k c (bl_f k) C mk1 x l = mk1 x l := if_neg (by omega)
  rw [this]
  exact hmk x l hx hl9
set_option maxHeartbeats 1000000 in
theorem ok_findBest {g1 k c L R : Nat} {C : List Nat} {mk1 : Nat → Nat → Nat} {P : List (Nat × Nat × Nat)} (hg1 : g1 < 2) (hk : k < 6) (hX : cMx w g1 C) (hU : cUp w L R C c P) (hmk : hw_mk w 1 mk1)
    (q : ∀ w2 n mk2, cUp w2 L R C c P → hw_mk w2 1 mk2 → hw_ag aBs w w2 → 1 ≤ n → n ≤ 100 → hb_fI w2 8 4 0 = (sv_bs (fun i => sv_out L R (sp_mark C i) (sp_bk 2 P) k) n).1 → hb_fI w2 8 5 0 = (sv_bs (fun i => sv_out L R (sp_mark C i) (sp_bk 2 P) k) n).2 → (n = 100 ∨ (sv_bs (fun i => sv_out L R (sp_mark C i) (sp_bk 2 P) k) n).2 ≤ 0 ∨ k = 5) → Q none w2) : hb_O yX4_findBestCoin cX4_findBestCoin 5 none (d + 5) [hb_r 8 0 0, hb_r 11 g1 0, hb_i (nI k)] w Q := by
  have a8 : ∀ g, aBs 8 g := fun g => Or.inr (Or.inl rfl)
  have n11 : ¬ aBs 11 g1 := by unfold aBs; omega
  have n2 : ¬ aBs 2 (g1 + 1) := by unfold aBs; omega
  have n5 : ¬ aBs 5 0 := by unfold aBs; omega
  have n9 : ∀ b, b < 3 → ¬ aBs 9 b := fun b hb => by unfold aBs; omega
  have ltle : ∀ a b : Int32, a ≤ b ↔ ¬ b < a := fun a b => by rw [Int32.le_iff_toInt_le, Int32.lt_iff_toInt_lt]; omega
  have loop : ∀ (n i : Nat), i + n = 100 → ∀ w' mk2, hw_ag aBs w w' → cUp w' L R C c P → hw_mk w' 1 mk2 → hb_fR w' 9 2 3 = 1 → cH w' 3 L R (sp_bk 2 P) → hb_fI w' 8 4 0 = (sv_bs (fun i => sv_out L R (sp_mark C i) (sp_bk 2 P) k) i).1 → (0 < i → hb_fI w' 8 5 0 = (sv_bs (fun i => sv_out L R (sp_mark C i) (sp_bk 2 P) k) i).2) → hb_R yX4_findBestCoin cX4_findBestCoin 5 none (d + 4 + 1) 29 [some (hb_r 8 0 0), some (hb_r 11 g1 0), some (hb_i (nI k)), some (hb_i (nI i)), none] [] w' Q := by
    intro n
    induction n with
    | zero =>
      intro i hi w' mk2 hag hU' hm hr hH h4 h5
      rw [Nat.add_zero] at hi
      subst hi
      exact bk_X4_findBestCoin_29 hg1 ⟨fun _ => q w' 100 mk2 hU' hm hag (by decide) (by decide) h4 (h5 (by decide)) (Or.inl rfl), fun z => absurd (nI_le (Nat.le_refl 100) (by decide)) z⟩
    | succ n ih =>
      intro i hi w' mk2 hag hU' hm hr hH h4 h5
      refine bk_X4_findBestCoin_29 hg1 ⟨fun z => absurd z (nI_ge (b := 100) (by omega) (by decide)), fun _ => ?_⟩
      refine ok_markTrial hg1 hk (by omega) (hX.ag hag n2 n11) (hU'.2.2.2.2 2 (by decide)).2.2.1 hr hm hH (fun w2 mk3 m1 m2 m3 m4 m5 m6 => ?_)
      have er : hb_fR w2 9 2 3 = 1 := by unfold hb_fR at hr ⊢; rw [m6]; exact hr
      have hU2 : cUp w2 L R C c P := hU'.ag m5 (by decide) (by omega) (m5.1 8 9 0 (by decide)) (m5.1 8 10 0 (by decide)) (by rw [er]; decide)
      have e4 : hb_fI w2 8 4 0 = hb_fI w' 8 4 0 := m5.1 8 4 0 (by decide)
      have e5 : hb_fI w2 8 5 0 = hb_fI w' 8 5 0 := m5.1 8 5 0 (by decide)
      have hag2 : hw_ag aBs w w2 := hag.tr (m5.wk (fun t g z => by
        rcases z with z | z | z
        · exact Or.inl z
        · exact Or.inr (Or.inr (Or.inl z))
        · exact Or.inr (Or.inr (Or.inr z))))
      refine bk_X4_findBestCoin_42 hg1 ?_
      refine ok_outBy (by decide) hk (by rw [er]; decide) (by rw [er]; exact m1) m4 m3.1 m3.2.1 m3.2.2.1 m3.2.2.2 ?_
      have eo : sv_out L R mk3 (sp_bk 2 P) k = sv_out L R (sp_mark C i) (sp_bk 2 P) k := sv_out_cg m4.1.2.2.1 m2
      rw [eo]
      -- taken, or not
      have upd1 : ∀ (w3 : hb_W), hw_ag aBs w w3 → cUp w3 L R C c P → hw_mk w3 1 mk3 → hb_fR w3 9 2 3 = 1 → cH w3 3 L R (sp_bk 2 P) → hb_fI w3 8 4 0 = (sv_bs (fun i => sv_out L R (sp_mark C i) (sp_bk 2 P) k) (i + 1)).1 → hb_fI w3 8 5 0 = (sv_bs (fun i => sv_out L R (sp_mark C i) (sp_bk 2 P) k) (i + 1)).2 → ∀ x, (sv_out L R (sp_mark C i) (sp_bk 2 P) k = 0 → (sv_bs (fun i => sv_out L R (sp_mark C i) (sp_bk 2 P) k) (i + 1)).2 ≤ 0) → ((sv_out L R (sp_mark C i) (sp_bk 2 P) k = 0) → Q none w3) ∧ ((¬ sv_out L R (sp_mark C i) (sp_bk 2 P) k = 0) → ((¬ nI k = (5 : Int32)) → hb_R yX4_findBestCoin cX4_findBestCoin 5 none (d + 4 + 1) 29 [some (hb_r 8 0 0), some (hb_r 11 g1 0), some (hb_i (nI k)), some (hb_i (nI i + 1)), some (hb_i x)] [] w3 Q) ∧ ((nI k = (5 : Int32)) → Q none w3)) := by
        intro w3 k1 k2 k3 k4 k5 k6 k7 x k8
        refine ⟨fun z => q w3 (i + 1) mk3 k2 k3 k1 (by omega) (by omega) k6 k7 (Or.inr (Or.inl (k8 z))), fun z => ⟨fun y => ?_, fun y => q w3 (i + 1) mk3 k2 k3 k1 (by omega) (by omega) k6 k7 (Or.inr (Or.inr ((nI_eq (b := 5) (by omega) (by decide)).mp y)))⟩⟩
        rw [nI_1]
        exact hx_last (l := [_, _, _, _]) (ih (i + 1) (by omega) w3 mk3 k1 k2 k3 k4 k5 k6 (fun _ => k7))
      have take : (i = 0 ∨ sv_out L R (sp_mark C i) (sp_bk 2 P) k < (sv_bs (fun i => sv_out L R (sp_mark C i) (sp_bk 2 P) k) i).2) → ((sv_out L R (sp_mark C i) (sp_bk 2 P) k = 0) → Q none (hb_pI (hb_pI w2 8 4 0 (nI i)) 8 5 0 (sv_out L R (sp_mark C i) (sp_bk 2 P) k))) ∧ ((¬ sv_out L R (sp_mark C i) (sp_bk 2 P) k = 0) → ((¬ nI k = (5 : Int32)) → hb_R yX4_findBestCoin cX4_findBestCoin 5 none (d + 4 + 1) 29 [some (hb_r 8 0 0), some (hb_r 11 g1 0), some (hb_i (nI k)), some (hb_i (nI i + 1)), some (hb_i (sv_out L R (sp_mark C i) (sp_bk 2 P) k))] [] (hb_pI (hb_pI w2 8 4 0 (nI i)) 8 5 0 (sv_out L R (sp_mark C i) (sp_bk 2 P) k)) Q) ∧ ((nI k = (5 : Int32)) → Q none (hb_pI (hb_pI w2 8 4 0 (nI i)) 8 5 0 (sv_out L R (sp_mark C i) (sp_bk 2 P) k)))) := by
        intro hz
        have es : sv_bs (fun i => sv_out L R (sp_mark C i) (sp_bk 2 P) k) (i + 1) = (nI i, sv_out L R (sp_mark C i) (sp_bk 2 P) k) := by rw [sv_bs_s, if_pos hz]
        have ag8 : hw_ag (fun t _ => t = 8) w2 (hb_pI (hb_pI w2 8 4 0 (nI i)) 8 5 0 (sv_out L R (sp_mark C i) (sp_bk 2 P) k)) := (hw_ag.rf.pI (P := fun t _ => t = 8) rfl).pI rfl
        refine upd1 _ ((hag2.pI (a8 0)).pI (a8 0)) (hU2.ag ag8 (by decide) (by decide) rfl rfl (by show hb_fR w2 9 2 3 < 2; rw [er]; decide)) m1 er m4 ?_ ?_ _ (fun z => ?_)
        · rw [es]; rfl
        · rw [es]; rfl
        · rw [es, z]; exact Int32.le_refl 0
      have keep : ¬ (i = 0 ∨ sv_out L R (sp_mark C i) (sp_bk 2 P) k < (sv_bs (fun i => sv_out L R (sp_mark C i) (sp_bk 2 P) k) i).2) → ((sv_out L R (sp_mark C i) (sp_bk 2 P) k = 0) → Q none w2) ∧ ((¬ sv_out L R (sp_mark C i) (sp_bk 2 P) k = 0) → ((¬ nI k = (5 : Int32)) → hb_R yX4_findBestCoin cX4_findBestCoin 5 none (d + 4 + 1) 29 [some (hb_r 8 0 0), some (hb_r 11 g1 0), some (hb_i (nI k)), some (hb_i (nI i + 1)), some (hb_i (sv_out L R (sp_mark C i) (sp_bk 2 P) k))] [] w2 Q) ∧ ((nI k = (5 : Int32)) → Q none w2)) := by
        intro hz
        have es : sv_bs (fun i => sv_out L R (sp_mark C i) (sp_bk 2 P) k) (i + 1) = sv_bs (fun i => sv_out L R (sp_mark C i) (sp_bk 2 P) k) i := by rw [sv_bs_s, if_neg hz]
        refine upd1 w2 hag2 hU2 m1 er m4 ?_ ?_ _ (fun z => ?_)
        · rw [es, e4]; exact h4
        · rw [es, e5]; exact h5 (by omega)
        · rw [es, ltle, ← z]
          exact fun y => hz (Or.inr y)
      refine bk_X4_findBestCoin_50 hg1 ⟨fun z => take (Or.inl ?_), fun z => ?_⟩
      · rw [e4, h4] at z
        cases i with
        | zero => rfl
        | succ j =>
          obtain ⟨b, b1, b2⟩ := sv_bs_n (fun i => sv_out L R (sp_mark C i) (sp_bk 2 P) k) j
          rw [b2] at z
          exact absurd z (hx_ne (by omega))
      · have hi0 : 0 < i := by
          rcases Nat.eq_zero_or_pos i with y | y
          · exfalso
            apply z
            rw [e4, h4, y]
            rfl
          · exact y
        rw [e5, h5 hi0]
        refine ⟨fun y => keep ?_, fun y => take (Or.inr ?_)⟩
        · rw [ltle] at y
          intro x
          rcases x with x | x
          · omega
          · exact y x
        · rw [ltle, Decidable.not_not] at y
          exact y
  refine bk_X4_findBestCoin_0 hg1 ?_
  refine ok_copy (by decide) (by decide) (hU.2.2.2.2 2 (by decide)) (fun w2 b2 ag2 rf2 => ?_)
  refine bk_X4_findBestCoin_11 hg1 ?_
  have ag3 : hw_ag (fun t g => t = 8 ∨ (t = 9 ∧ g = 3)) w2 (hb_pI (hb_pR w2 9 2 3 1) 8 4 0 (-1)) := (hw_ag.rf.pR (Or.inr ⟨rfl, rfl⟩)).pI (Or.inl rfl)
  have er0 : hb_fR (hb_pI (hb_pR w2 9 2 3 1) 8 4 0 (-1)) 9 2 3 = 1 := rfl
  have er2 : hb_fR w2 9 2 3 < 2 := by have := hU.1.2.2.2; unfold hb_fR at this ⊢; rw [rf2]; exact this
  have hU2 : cUp w2 L R C c P := hU.ag ag2 (by decide) (by omega) (ag2.1 8 9 0 (by decide)) (ag2.1 8 10 0 (by decide)) er2
  refine loop 100 0 (by decide) _ mk1 ?_ (hU2.ag ag3 (by decide) (by omega) rfl rfl (by rw [er0]; decide)) ((hmk.ag ag2 (by decide)).ag ag3 (by decide)) er0 b2.H rfl (fun z => absurd z (Nat.lt_irrefl 0))
  refine (ag2.wk (fun t g z => Or.inr (Or.inr (Or.inl z)))).tr (ag3.wk (fun t g z => ?_))
  rcases z with z | z
  · exact Or.inr (Or.inl z)
  · exact Or.inr (Or.inr (Or.inl z))
end HLC
