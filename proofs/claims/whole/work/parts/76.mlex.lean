/-! ===== the model's reading of words, numbers, signs ===== -/
/-- where the last word or number ended -/
def mE (x : Int32) (p : Nat) (z : Bool) : Prop := (z = true ∧ x = nI p) ∨ (z = false ∧ ∀ k, p ≤ k → k ≤ 1600 → ¬ nI k = x)
/-- the model reads at a cursor -/
def mD (w : hb_W) (T : Nat → Nat) (n p : Nat) (z : Bool) : Prop := mTx w T n ∧ hb_fI w 12 3 0 = nI n ∧ hb_fI w 12 5 0 = 0 ∧ hb_fI w 12 6 0 = -1 ∧ (∃ a, hb_fI w 12 2 0 = nI a ∧ a ≤ n ∧ lx_S T n a = p) ∧ mE (hb_fI w 12 4 0) p z
def mX (w : hb_W) (k pl : Nat) : Prop := hb_fI w 12 5 0 = nI k ∧ hb_fI w 12 6 0 = nI pl
theorem mD.le {w : hb_W} {T : Nat → Nat} {n p : Nat} {z : Bool} (h : mD w T n p z) : p ≤ n ∧ n ≤ 1600 ∧ ¬ (p < n ∧ (T p = 10 ∨ T p = 32)) := by
  obtain ⟨h1, h2, h3, h4, ⟨a, a1, a2, a3⟩, h6⟩ := h
  have := lx_S_sp (T := T) a2
  rw [a3] at this
  exact ⟨this.2.1, h1.1, this.2.2.2⟩
theorem mD.ag {K J : List Nat} {w w2 : hb_W} {T : Nat → Nat} {n p : Nat} {z : Bool} (h : mD w T n p z) (ha : hm_ag K J w w2) (k2 : ¬ 2 ∈ K) (k3 : ¬ 3 ∈ K) (k4 : ¬ 4 ∈ K) (k5 : ¬ 5 ∈ K) (k6 : ¬ 6 ∈ K) (j1 : ¬ 1 ∈ J) : mD w2 T n p z := by
  unfold mD at h ⊢
  rw [ha.I 2 k2, ha.I 3 k3, ha.I 4 k4, ha.I 5 k5, ha.I 6 k6]
  exact ⟨h.1.ag ha j1, h.2⟩
/-- the char arrays of the model: its words -/
def mWd (w : hb_W) (j : Nat) (wd : List Nat) : Prop := ∀ i, i < wd.length → hb_aI w 12 j 0 i = nI (lx_w wd i)
theorem mE_word {T : Nat → Nat} {n p : Nat} (hp : p ≤ n) (hn : n ≤ 1600) (h3 : lx_k T n p = 1 ∨ lx_k T n p = 2) : mE (nI (lx_E T n p)) (lx_n T n p) (lx_z T n p) := by
  have h1 := lx_E_le (T := T) hp
  have h2 := lx_S_sp (T := T) h1.2
  unfold mE lx_z
  by_cases e : lx_n T n p = lx_E T n p
  · left
    rw [e]
    exact ⟨by simp; omega, rfl⟩
  · right
    refine ⟨by simp; intro y; exact absurd y e, fun k k1 k2 y => ?_⟩
    have k1' : lx_S T n (lx_E T n p) ≤ k := k1
    have e' : ¬ lx_S T n (lx_E T n p) = lx_E T n p := e
    rw [nI_eq (by omega) (by omega)] at y
    omega
theorem mE_sign {T : Nat → Nat} {n p : Nat} {z : Bool} {x : Int32} (hp : p ≤ n) (hn : n ≤ 1600) (hk : lx_k T n p ≠ 0) (h : mE x p z) : mE x (lx_n T n p) false := by
  have h1 := lx_n_lt hp hk
  right
  refine ⟨rfl, fun k k1 k2 y => ?_⟩
  rcases h with ⟨_, h⟩ | ⟨_, h⟩
  · rw [h, nI_eq (by omega) (by omega)] at y; omega
  · exact h k (by omega) k2 y
section HML
variable {d : Nat} {w : hb_W} {Q : Option hb_V → hb_W → Prop} {T : Nat → Nat} {n p : Nat} {z : Bool}
theorem om_look (h : mD w T n p z) (q : ∀ w2, mD w2 T n p z → hb_fI w2 12 2 0 = nI p → hm_ag [2] [] w w2 → Q (some (hb_i (if p < n then nI (T p) else -1))) w2) : hb_O yX12_look cX12_look 1 (some .int) d [hb_r 12 0 0] w Q := by
  obtain ⟨h1, h2, h3, h4, ⟨a, a1, a2, a3⟩, h6⟩ := h
  have hn := h1.1
  have sp := lx_S_sp (T := T) a2
  rw [a3] at sp
  have loop : ∀ (m k : Nat), k + m = p → a ≤ k → ∀ w', hb_fI w' 12 2 0 = nI k → hm_ag [2] [] w w' → hb_R yX12_look cX12_look 1 (some .int) d 0 [some (hb_r 12 0 0)] [] w' Q := by
    intro m
    induction m with
    | zero =>
      intro k hk hak w' g1 g2
      rw [Nat.add_zero] at hk
      subst hk
      have e3 : hb_fI w' 12 3 0 = nI n := by rw [g2.I 3]; exact h2
      have hD : mD w' T n k z := ⟨h1.ag g2 (by decide), e3, by rw [g2.I 5]; exact h3, by rw [g2.I 6]; exact h4, ⟨k, g1, sp.2.1, lx_S_n sp.2.2.2⟩, by rw [g2.I 4]; exact h6⟩
      have q' := q w' hD g1 g2
      refine bk_X12_look_0 ?_
      rw [e3, g1, nI_leI (by omega) (by omega), nI_clamp (by omega)]
      by_cases y : k < n
      · rw [if_pos y] at q'
        have et := (h1.ag g2 (show ¬ 1 ∈ ([] : List Nat) by decide)).2 k y
        rw [et.1]
        refine ⟨fun x => absurd x (by omega), fun _ => ⟨vp_in_nI (by omega) (by decide), fun x => ?_, fun x => ⟨vp_in_nI (by omega) (by decide), fun x2 => ⟨fun u => absurd u (by omega), fun _ => ⟨vp_in_nI (by omega) (by decide), q'⟩⟩, fun x2 => ?_⟩⟩⟩
        · rw [show (10 : Int32) = nI 10 from rfl, nI_eq (by have := et.2; omega) (by decide)] at x
          exact absurd ⟨y, Or.inl x⟩ sp.2.2.2
        · rw [show (32 : Int32) = nI 32 from rfl, nI_eq (by have := et.2; omega) (by decide)] at x2
          exact absurd ⟨y, Or.inr x2⟩ sp.2.2.2
      · rw [if_neg y] at q'
        exact ⟨fun _ => ⟨fun _ => q', fun x => absurd (by omega) x⟩, fun x => absurd (by omega) x⟩
    | succ m ih =>
      intro k hk hak w' g1 g2
      have e3 : hb_fI w' 12 3 0 = nI n := by rw [g2.I 3]; exact h2
      have y : k < n := by omega
      have et := (h1.ag g2 (show ¬ 1 ∈ ([] : List Nat) by decide)).2 k y
      have hb := sp.2.2.1 k hak (by omega)
      have nxt : hb_R yX12_look cX12_look 1 (some .int) d 0 [some (hb_r 12 0 0)] [] (hb_pI w' 12 2 0 (nI k + 1)) Q := by
        rw [nI_1]
        exact ih (k + 1) (by omega) (by omega) _ rfl (g2.pI (by decide))
      refine bk_X12_look_0 ?_
      rw [e3, g1, nI_leI (by omega) (by omega), nI_clamp (by omega), et.1]
      refine ⟨fun x => absurd x (by omega), fun _ => ⟨vp_in_nI (by omega) (by decide), fun x => nxt, fun x => ⟨vp_in_nI (by omega) (by decide), fun x2 => ?_, fun x2 => nxt⟩⟩⟩
      exfalso
      rcases hb with u | u
      · exact x (by rw [u]; rfl)
      · exact x2 (by rw [u]; rfl)
  exact loop (p - a) a (by omega) (Nat.le_refl a) w a1 hm_ag.rf
theorem om_isLetter {k : Nat} (h : ∀ k, k < n → T k < 256) (hn : n ≤ 1600) (q1 : lx_k T n k = 1 → Q (some (hb_i 1)) w) (q0 : ¬ lx_k T n k = 1 → Q (some (hb_i 0)) w) : hb_O yX12_isLetter cX12_isLetter 1 (some .boolean) d [hb_i (if k < n then nI (T k) else -1)] w Q := by
  rw [lx_k_1] at q1 q0
  by_cases y : k < n
  · have := h k y
    rw [if_pos y]
    refine bk_X12_isLetter_0 ?_
    rw [show (97 : Int32) = nI 97 from rfl, show (122 : Int32) = nI 122 from rfl, nI_ltI (by omega) (by decide), nI_ltI (by decide) (by omega)]
    exact ⟨fun x => q0 (by omega), fun x => ⟨fun x2 => q0 (by omega), fun x2 => q1 (by omega)⟩⟩
  · rw [if_neg y]
    exact bk_X12_isLetter_0 ⟨fun _ => q0 (by omega), fun x => absurd (by decide) x⟩
theorem om_isDigit {k : Nat} (h : ∀ k, k < n → T k < 256) (hn : n ≤ 1600) (q1 : lx_k T n k = 2 → Q (some (hb_i 1)) w) (q0 : ¬ lx_k T n k = 2 → Q (some (hb_i 0)) w) : hb_O yX12_isDigit cX12_isDigit 1 (some .boolean) d [hb_i (if k < n then nI (T k) else -1)] w Q := by
  rw [lx_k_2] at q1 q0
  by_cases y : k < n
  · have := h k y
    rw [if_pos y]
    refine bk_X12_isDigit_0 ?_
    rw [show (48 : Int32) = nI 48 from rfl, show (57 : Int32) = nI 57 from rfl, nI_ltI (by omega) (by decide), nI_ltI (by decide) (by omega)]
    exact ⟨fun x => q0 (by omega), fun x => ⟨fun x2 => q0 (by omega), fun x2 => q1 (by omega)⟩⟩
  · rw [if_neg y]
    exact bk_X12_isDigit_0 ⟨fun _ => q0 (by omega), fun x => absurd (by decide) x⟩
theorem mE_eq {x : Int32} (hn : n ≤ 1600) (hp : p ≤ n) (h : mE x p z) : nI p = x ↔ z = true := by
  rcases h with ⟨a, b⟩ | ⟨a, b⟩
  · exact ⟨fun _ => a, fun _ => b.symm⟩
  · exact ⟨fun y => absurd y (b p (Nat.le_refl p) (by omega)), fun y => by rw [a] at y; cases y⟩
theorem om_isHere {j : Nat} {wd : List Nat} (hs : hb_sh 12 j = some (.inr (2, wd.length))) (ho : lx_ok wd) (hw : mWd w j wd) (h : mD w T n p z) (q1 : lx_W T n p z wd → ∀ w2, mD w2 T n p z → hb_fI w2 12 2 0 = nI p → hm_ag [2] [] w w2 → Q (some (hb_i 1)) w2) (q0 : ¬ lx_W T n p z wd → ∀ w2, mD w2 T n p z → hb_fI w2 12 2 0 = nI p → hm_ag [2] [] w w2 → Q (some (hb_i 0)) w2) : hb_O yX12_isHere cX12_isHere 4 (some .boolean) (d + 1) [hb_r 12 0 0, hb_r 12 0 j] w Q := by
  obtain ⟨hp, hn, hbl⟩ := h.le
  obtain ⟨o1, o2, o3⟩ := ho
  refine bk_X12_isHere_0 hs (by decide) ⟨fun y => absurd h.2.2.1 y, fun _ => ?_⟩
  refine om_look h (fun w2 g1 g2 g3 => bk_X12_isHere_11 hs (by decide) ?_)
  have hT : ∀ k, k < n → T k < 256 := fun k hk => (g1.1.2 k hk).2
  have qy := fun y => q1 y w2 g1 g2 g3
  have qn := fun y => q0 y w2 g1 g2 g3
  have e3 : hb_fI w2 12 3 0 = nI n := g1.2.1
  refine om_isLetter hT hn (fun k1 => bk_X12_isHere_14 hs (by decide) ⟨fun x => absurd x (by decide), fun _ => ?_⟩) (fun k1 => bk_X12_isHere_14 hs (by decide) ⟨fun _ => qn (fun y => k1 y.2.1), fun x => absurd rfl x⟩)
  have hz := mE_eq hn hp g1.2.2.2.2.2
  rw [g2, hz]
  refine ⟨fun x => ?_, fun x => qn (fun y => by rw [y.1] at x; cases x)⟩
  have zf : z = false := by cases z with
    | false => rfl
    | true => exact absurd rfl x
  obtain ⟨f1, f2, f3, f4⟩ := lx_E_long hp (Or.inl k1)
  -- the letters agree
  have cmp : lx_E T n p = p + wd.length → ∀ (m i : Nat), i + m = wd.length → (∀ k, k < i → T (p + k) = lx_w wd k) → ∀ x2, hb_R yX12_isHere cX12_isHere 4 (some .boolean) (d + 1) 76 [some (hb_r 12 0 0), some (hb_r 12 0 j), some (hb_i x2), some (hb_i (nI i))] [] w2 Q := by
    intro hE m
    induction m with
    | zero =>
      intro i hi hk x2
      rw [Nat.add_zero] at hi
      subst hi
      exact bk_X12_isHere_76 hs (by decide) ⟨fun _ => qy ⟨zf, k1, hE, hk⟩, fun x => absurd (nI_le (Nat.le_refl _) (by omega)) x⟩
    | succ m ih =>
      intro i hi hk x2
      have ew : hb_aI w2 12 j 0 i = nI (lx_w wd i) := by rw [g3.A j (by simp)]; exact hw i (by omega)
      have et := g1.1.2 (p + i) (by omega)
      have b1 := (o3 i (by omega)).2
      refine bk_X12_isHere_76 hs (by decide) ⟨fun x => absurd x (nI_ge (by omega) (by omega)), fun _ => ?_⟩
      rw [g2, nI_add, nI_clamp (by omega), nI_clamp (by omega), et.1, ew, nI_eq (by have := et.2; omega) (by omega), nI_1]
      refine ⟨vp_in_nI (by omega) (by decide), vp_in_nI (by omega) (by omega), fun x => ih (i + 1) (by omega) (fun k hk2 => ?_) x2, fun x => qn (fun y => x (y.2.2.2 i (by omega)))⟩
      by_cases e : k = i
      · subst e; exact x
      · exact hk k (by omega)
  have len : ((nI (lx_E T n p) - hb_fI w2 12 2 0 = Int32.ofNat wd.length) → hb_R yX12_isHere cX12_isHere 4 (some .boolean) (d + 1) 76 [some (hb_r 12 0 0), some (hb_r 12 0 j), some (hb_i (nI (lx_E T n p))), some (hb_i 0)] [] w2 Q) ∧ ((¬ nI (lx_E T n p) - hb_fI w2 12 2 0 = Int32.ofNat wd.length) → Q (some (hb_i 0)) w2) := by
    have e : (nI (lx_E T n p) - hb_fI w2 12 2 0 = Int32.ofNat wd.length) ↔ lx_E T n p = p + wd.length := by
      rw [g2, pk_sub (by omega)]
      show nI (lx_E T n p - p) = nI wd.length ↔ _
      rw [nI_eq (by omega) (by omega)]
      omega
    rw [e]
    exact ⟨fun y => cmp y wd.length 0 (by omega) (fun k hk => absurd hk (Nat.not_lt_zero k)) _, fun y => qn (fun x => y x.2.2.1)⟩
  have scan : ∀ (m k : Nat), k + m = lx_E T n p → p ≤ k → hb_R yX12_isHere cX12_isHere 4 (some .boolean) (d + 1) 35 [some (hb_r 12 0 0), some (hb_r 12 0 j), some (hb_i (nI k)), none] [] w2 Q := by
    intro m
    induction m with
    | zero =>
      intro k hk hpk
      rw [Nat.add_zero] at hk
      subst hk
      refine bk_X12_isHere_35 hs (by decide) ⟨fun _ => len, fun y => ?_⟩
      rw [e3, nI_leI (by omega) (by omega)] at y
      have hkn : lx_E T n p < n := by omega
      refine ⟨vp_in_nI (by omega) (by decide), ?_⟩
      rw [nI_clamp (by omega), (g1.1.2 _ hkn).1]
      have := om_isLetter (d := d) (w := w2) (Q := fun rv w1 => hb_R yX12_isHere cX12_isHere 4 (some .boolean) (d + 1) 52 [some (hb_r 12 0 0), some (hb_r 12 0 j), some (hb_i (nI (lx_E T n p))), none] (rv.toList ++ []) w1 Q) (k := lx_E T n p) hT hn (fun x => absurd (x.trans k1.symm) f4) (fun x => bk_X12_isHere_52 hs (by decide) ⟨fun _ => len, fun u => absurd rfl u⟩)
      rw [if_pos hkn] at this
      exact this
    | succ m ih =>
      intro k hk hpk
      have hkn : k < n := by omega
      refine bk_X12_isHere_35 hs (by decide) ⟨fun y => absurd y (by rw [e3]; exact nI_ge hkn (by omega)), fun y => ⟨vp_in_nI (by omega) (by decide), ?_⟩⟩
      rw [nI_clamp (by omega), (g1.1.2 _ hkn).1]
      have := om_isLetter (d := d) (w := w2) (Q := fun rv w1 => hb_R yX12_isHere cX12_isHere 4 (some .boolean) (d + 1) 52 [some (hb_r 12 0 0), some (hb_r 12 0 j), some (hb_i (nI k)), none] (rv.toList ++ []) w1 Q) (k := k) hT hn (fun x => bk_X12_isHere_52 hs (by decide) ⟨fun u => absurd u (by decide), fun _ => by rw [nI_1]; exact ih (k + 1) (by omega) (by omega)⟩) (fun x => absurd ((f3 k hpk (by omega)).trans k1) x)
      rw [if_pos hkn] at this
      exact this
  exact scan (lx_E T n p - p) p (by omega) (Nat.le_refl p)
theorem om_takes {j : Nat} {wd : List Nat} (hs : hb_sh 12 j = some (.inr (2, wd.length))) (ho : lx_ok wd) (hw : mWd w j wd) (h : mD w T n p z) (q1 : lx_W T n p z wd → ∀ w2, mD w2 T n (lx_n T n p) (lx_z T n p) → hm_ag [2, 4] [] w w2 → Q (some (hb_i 1)) w2) (q0 : ¬ lx_W T n p z wd → ∀ w2, mD w2 T n p z → hb_fI w2 12 2 0 = nI p → hm_ag [2, 4] [] w w2 → Q (some (hb_i 0)) w2) : hb_O yX12_takes cX12_takes 2 (some .boolean) (d + 2) [hb_r 12 0 0, hb_r 12 0 j] w Q := by
  obtain ⟨hp, hn, hbl⟩ := h.le
  refine bk_X12_takes_0 hs (by decide) (om_isHere hs ho hw h (fun y w2 g1 g2 g3 => ?_) (fun y w2 g1 g2 g3 => bk_X12_takes_5 hs (by decide) ⟨fun x => absurd rfl x, fun _ => q0 y w2 g1 g2 (g3.wk (by decide) (fun x hx => hx))⟩))
  refine bk_X12_takes_5 hs (by decide) ⟨fun _ => ?_, fun x => absurd x (by decide)⟩
  have eE : hb_fI w2 12 2 0 + Int32.ofNat wd.length = nI (lx_E T n p) := by
    rw [g2, y.2.2.1]
    exact nI_add p wd.length
  rw [eE]
  have hE := lx_E_le (T := T) hp
  refine q1 y _ ⟨g1.1, g1.2.1, g1.2.2.1, g1.2.2.2.1, ⟨lx_E T n p, rfl, hE.2, rfl⟩, ?_⟩ (((g3.wk (by decide) (fun x hx => hx)).pI (by decide)).pI (by decide))
  exact mE_word hp hn (Or.inl y.2.1)
theorem om_fail {k pl : Nat} (h5 : hb_fI w 12 5 0 = 0) (q : ∀ w2, mX w2 k pl → hm_ag [5, 6] [] w w2 → Q none w2) : hb_O yX12_fail cX12_fail 3 none d [hb_r 12 0 0, hb_i (nI k), hb_i (nI pl)] w Q := bk_X12_fail_0 ⟨fun _ => q _ ⟨rfl, rfl⟩ ((hm_ag.rf.pI (by decide)).pI (by decide)), fun y => absurd h5 y⟩
theorem om_asks {j : Nat} {wd : List Nat} (hs : hb_sh 12 j = some (.inr (2, wd.length))) (ho : lx_ok wd) (hw : mWd w j wd) (h : mD w T n p z) (q1 : lx_W T n p z wd → ∀ w2, mD w2 T n (lx_n T n p) (lx_z T n p) → hm_ag [2, 4, 5, 6] [] w w2 → Q none w2) (q0 : ¬ lx_W T n p z wd → ∀ w2, mX w2 1 p → hm_ag [2, 4, 5, 6] [] w w2 → Q none w2) : hb_O yX12_asks cX12_asks 2 none (d + 3) [hb_r 12 0 0, hb_r 12 0 j] w Q := by
  refine bk_X12_asks_0 hs (by decide) ⟨fun y => absurd h.2.2.1 y, fun _ => ?_⟩
  refine om_takes hs ho hw h (fun y w2 g1 g2 => bk_X12_asks_12 hs (by decide) ⟨fun _ => bk_X12_asks_24 hs (by decide) (q1 y w2 g1 (g2.wk (by decide) (fun x hx => hx))), fun x => absurd x (by decide)⟩) (fun y w2 g1 g2 g3 => bk_X12_asks_12 hs (by decide) ⟨fun x => absurd rfl x, fun _ => ?_⟩)
  rw [g2]
  exact om_fail (k := 1) g1.2.2.1 (fun w3 k1 k2 => bk_X12_asks_24 hs (by decide) (q0 y w3 k1 ((g3.wk (by decide) (fun x hx => hx)).tr (k2.wk (by decide) (fun x hx => hx)))))
theorem om_takesSign {c : Nat} (hc : lx_sg c) (h : mD w T n p z) (q1 : lx_s T n p c → ∀ w2, mD w2 T n (lx_n T n p) false → hb_fI w2 12 2 0 = nI (p + 1) → hm_ag [2] [] w w2 → Q (some (hb_i 1)) w2) (q0 : ¬ lx_s T n p c → ∀ w2, mD w2 T n p z → hb_fI w2 12 2 0 = nI p → hm_ag [2] [] w w2 → Q (some (hb_i 0)) w2) : hb_O yX12_takesSign cX12_takesSign 2 (some .boolean) (d + 1) [hb_r 12 0 0, hb_i (nI c)] w Q := by
  obtain ⟨hp, hn, hbl⟩ := h.le
  refine bk_X12_takesSign_0 ⟨fun y => absurd h.2.2.1 y, fun _ => om_look h (fun w2 g1 g2 g3 => bk_X12_takesSign_11 ?_)⟩
  by_cases y : p < n
  · rw [if_pos y, nI_eq (by have := (g1.1.2 p y).2; omega) (by have := hc.2.2.1; omega), g2, nI_1]
    refine ⟨fun x => ?_, fun x => q0 (fun u => x u.2) w2 g1 g2 g3⟩
    have hs : lx_s T n p c := ⟨y, x⟩
    have k3 := lx_s3 hc hs
    refine q1 hs _ ⟨g1.1, g1.2.1, g1.2.2.1, g1.2.2.2.1, ⟨p + 1, rfl, by omega, ?_⟩, ?_⟩ rfl (g3.pI (by decide))
    · unfold lx_n
      rw [lx_E_3 k3]
    · exact mE_sign hp hn (by omega) g1.2.2.2.2.2
  · rw [if_neg y]
    refine ⟨fun x => ?_, fun x => q0 (fun u => y u.1) w2 g1 g2 g3⟩
    exact absurd x.symm (hx_ne (by have := hc.2.2.1; omega))
theorem om_asksSign {c : Nat} (hc : lx_sg c) (h : mD w T n p z) (q1 : lx_s T n p c → ∀ w2, mD w2 T n (lx_n T n p) false → hm_ag [2, 5, 6] [] w w2 → Q none w2) (q0 : ¬ lx_s T n p c → ∀ w2, mX w2 1 p → hm_ag [2, 5, 6] [] w w2 → Q none w2) : hb_O yX12_asksSign cX12_asksSign 2 none (d + 2) [hb_r 12 0 0, hb_i (nI c)] w Q := by
  refine bk_X12_asksSign_0 ⟨fun y => absurd h.2.2.1 y, fun _ => ?_⟩
  refine om_takesSign hc h (fun y w2 g1 g2 g3 => bk_X12_asksSign_12 ⟨fun _ => bk_X12_asksSign_24 (q1 y w2 g1 (g3.wk (by decide) (fun x hx => hx))), fun x => absurd x (by decide)⟩) (fun y w2 g1 g2 g3 => bk_X12_asksSign_12 ⟨fun x => absurd rfl x, fun _ => ?_⟩)
  rw [g2]
  exact om_fail (k := 1) g1.2.2.1 (fun w3 k1 k2 => bk_X12_asksSign_24 (q0 y w3 k1 ((g3.wk (by decide) (fun x hx => hx)).tr (k2.wk (by decide) (fun x hx => hx)))))
end HML
