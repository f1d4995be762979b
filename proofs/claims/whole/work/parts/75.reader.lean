/-! ===== the class's Reader: what it takes ===== -/
def rF (w : hb_W) : Prop := hb_fI w 3 6 0 = 0 ∧ hb_fI w 3 7 0 = -1
def rX (w : hb_W) (k pl : Nat) : Prop := hb_fI w 3 6 0 = nI k ∧ hb_fI w 3 7 0 = nI pl
def rG (w : hb_W) (T : Nat → Nat) (n p : Nat) (z : Bool) : Prop := cTx w T n ∧ rD w T n p z ∧ rF w
def lx_s (T : Nat → Nat) (n p c : Nat) : Prop := p < n ∧ T p = c
def lx_sg (c : Nat) : Prop := ¬ (97 ≤ c ∧ c ≤ 122) ∧ ¬ (48 ≤ c ∧ c ≤ 57) ∧ c < 256 ∧ c ≠ 10 ∧ c ≠ 32
def lx_no (T : Nat → Nat) (n p : Nat) (z : Bool) (lo hi : Nat) : Prop := z = false ∧ lx_k T n p = 2 ∧ lx_E T n p ≤ p + 4 ∧ lo ≤ lx_v T p (lx_E T n p - p) ∧ lx_v T p (lx_E T n p - p) ≤ hi
def lx_nf (T : Nat → Nat) (n p : Nat) (z : Bool) : Nat × Nat := if z = false ∧ lx_k T n p = 2 then (if lx_E T n p ≤ p + 4 then (2, p) else (1, p + 4)) else (1, p)
theorem lx_s3 {T : Nat → Nat} {n p c : Nat} (hc : lx_sg c) (h : lx_s T n p c) : lx_k T n p = 3 := by
  unfold lx_k
  rw [if_neg (by have := h.1; omega), h.2, if_neg hc.1, if_neg hc.2.1]
theorem lx_v_le {T : Nat → Nat} {p : Nat} : ∀ k, (∀ i, i < k → 48 ≤ T (p + i) ∧ T (p + i) ≤ 57) → lx_v T p k < 10 ^ k
  | 0, _ => (show 0 < 1 by decide)
  | k + 1, h => by
    have h1 := lx_v_le (T := T) (p := p) k (fun i hi => h i (by omega))
    have h2 := h k (by omega)
    have e : lx_v T p (k + 1) = lx_v T p k * 10 + (T (p + k) - 48) := rfl
    rw [e, Nat.pow_succ]
    omega
theorem lx_vn {T : Nat → Nat} {n p : Nat} (hp : p ≤ n) (h : lx_k T n p = 2) (hE : lx_E T n p ≤ p + 4) : lx_v T p (lx_E T n p - p) < 10000 := by
  have h1 := lx_v_le (T := T) (p := p) (lx_E T n p - p) (fun i hi => by
    have := (lx_E_long hp (Or.inr h)).2.2.1 (p + i) (by omega) (by omega)
    rw [h] at this
    exact (lx_k_2.mp this).2)
  have h2 : 10 ^ (lx_E T n p - p) ≤ 10 ^ 4 := Nat.pow_le_pow_right (by decide) (by omega)
  have h3 : (10 : Nat) ^ 4 = 10000 := by decide
  omega
theorem lx_n_le {T : Nat → Nat} {n p : Nat} (hp : p ≤ n) : p ≤ lx_n T n p ∧ lx_n T n p ≤ n := by
  have h1 := lx_E_le (T := T) hp
  have h2 := lx_S_sp (T := T) h1.2
  unfold lx_n
  omega
theorem lx_n_lt {T : Nat → Nat} {n p : Nat} (hp : p ≤ n) (h : lx_k T n p ≠ 0) : p < lx_n T n p := by
  have h1 := lx_E_le (T := T) hp
  have h2 := lx_S_sp (T := T) h1.2
  have hl := lx_k_le T n p
  have : p < lx_E T n p := by
    by_cases h3 : lx_k T n p = 3
    · rw [lx_E_3 h3]; omega
    · exact (lx_E_long hp (by omega)).1
  unfold lx_n
  omega
theorem lx_z3 {T : Nat → Nat} {n p : Nat} (h : lx_k T n p = 3) : lx_z T n p = false := by
  unfold lx_z
  simp [h]
section HRE
variable {d : Nat} {w : hb_W} {Q : Option hb_V → hb_W → Prop} {T : Nat → Nat} {n p : Nat} {z : Bool}
theorem ok_stepG (h : rG w T n p z) (hk : lx_k T n p ≠ 0) (hz : z = true → lx_k T n p = 3) (q : ∀ w2, rG w2 T n (lx_n T n p) (lx_z T n p) → hw_ag (fun t _ => t = 3) w w2 → w2.2.2.1 = w.2.2.1 → Q none w2) : hb_O yX7_step cX7_step 4 none (d + 1) [hb_r 3 0 0] w Q := ok_step h.1 h.2.1 hk hz (fun w2 g1 g2 g3 g4 g5 => q w2 ⟨h.1.ag g4 (by decide), g1, g2.trans h.2.2.1, g3.trans h.2.2.2⟩ g4 g5)
theorem ok_start (h : cTx w T n) (q : ∀ w2, rG w2 T n (lx_S T n 0) false → hw_ag (fun t _ => t = 3) w w2 → w2.2.2.1 = w.2.2.1 → Q none w2) : hb_O yX7_start cX7_start 1 none (d + 2) [hb_r 3 0 0] w Q := by
  have p3 : (fun t (_ : Nat) => t = 3) 3 0 := rfl
  have a : hw_ag (fun t _ => t = 3) w (hb_pI (hb_pI (hb_pI (hb_pI w 3 1 0 3) 3 5 0 0) 3 6 0 0) 3 7 0 (-1)) := ((((hw_ag.rf (P := fun t _ => t = 3)).pI p3).pI p3).pI p3).pI p3
  refine bk_X7_start_0 (ok_step0 (κ := 3) (e0 := 0) (h.ag a (by decide)) rfl (by decide) rfl (Nat.zero_le n) (fun y => by omega) (fun w2 g1 g2 g3 g4 g5 => bk_X7_start_24 (q w2 ⟨(h.ag a (by decide)).ag g4 (by decide), ?_, g2, g3⟩ (a.tr g4) g5)))
  have e : decide (lx_S T n 0 = 0 ∧ ((3 : Nat) = 1 ∨ (3 : Nat) = 2)) = false := by simp
  rw [e] at g1
  exact g1
theorem ok_isSign {c : Nat} (hc : lx_sg c) (h : rG w T n p z) (q1 : lx_s T n p c → Q (some (hb_i 1)) w) (q0 : ¬ lx_s T n p c → Q (some (hb_i 0)) w) : hb_O yX7_isSign cX7_isSign 2 (some .boolean) (d + 1) [hb_r 3 0 0, hb_i (nI c)] w Q := by
  obtain ⟨hT, ⟨d0, d1, d2, d3, d4, d5, d6⟩, hF⟩ := h
  have hkl := lx_k_le T n p
  have hn := hT.2.1
  refine bk_X7_isSign_0 ?_
  rw [d1, d4, show (3 : Int32) = nI 3 from rfl, nI_eq (by split <;> omega) (by decide)]
  refine ⟨fun y => q0 (fun x => ?_), fun y => ?_⟩
  · have := lx_s3 hc x
    rw [if_neg (by omega)] at y
    exact y this
  · have k3 : lx_k T n p = 3 := by
      by_cases x : z = true ∧ (lx_k T n p = 1 ∨ lx_k T n p = 2)
      · rw [if_pos x] at y; omega
      · rw [if_neg x] at y; exact y
    have hpn : p < n := by
      rcases Nat.lt_or_ge p n with x | x
      · exact x
      · have := (lx_k_0 (T := T)).mpr x; omega
    refine ok_atT hT hpn (fun b => bk_X7_isSign_19 ?_)
    rw [nI_eq (by omega) (by have := hc.2.2.1; omega)]
    exact ⟨fun x => q0 (fun y => x y.2), fun x => q1 ⟨hpn, x⟩⟩
theorem ok_stopG {k pl : Nat} (h : rF w) (q : ∀ w2, rX w2 k pl → hw_ag (fun t _ => t = 3) w w2 → w2.2.2.1 = w.2.2.1 → Q (some (hb_i 0)) w2) : hb_O yX7_stop cX7_stop 3 (some .boolean) d [hb_r 3 0 0, hb_i (nI k), hb_i (nI pl)] w Q := by
  have p3 : (fun t (_ : Nat) => t = 3) 3 0 := rfl
  exact ok_stop (fun y => absurd h.1 y) (fun _ => q _ ⟨rfl, rfl⟩ (((hw_ag.rf (P := fun t _ => t = 3)).pI p3).pI p3) rfl)
theorem ok_takeSign {c : Nat} (hc : lx_sg c) (h : rG w T n p z) (q1 : lx_s T n p c → ∀ w2, rG w2 T n (lx_n T n p) false → hw_ag (fun t _ => t = 3) w w2 → w2.2.2.1 = w.2.2.1 → Q (some (hb_i 1)) w2) (q0 : ¬ lx_s T n p c → ∀ w2, rX w2 1 p → hw_ag (fun t _ => t = 3) w w2 → w2.2.2.1 = w.2.2.1 → Q (some (hb_i 0)) w2) : hb_O yX7_takeSign cX7_takeSign 2 (some .boolean) (d + 2) [hb_r 3 0 0, hb_i (nI c)] w Q := by
  refine bk_X7_takeSign_0 (ok_isSign hc h (fun y => ?_) (fun y => ?_))
  · have k3 := lx_s3 hc y
    refine bk_X7_takeSign_5 ⟨fun _ => ok_stepG h (by omega) (fun _ => k3) (fun w2 g1 g2 g3 => bk_X7_takeSign_22 (q1 y w2 ?_ g2 g3)), fun x => absurd x (by decide)⟩
    rw [lx_z3 k3] at g1
    exact g1
  · refine bk_X7_takeSign_5 ⟨fun x => absurd rfl x, fun _ => ?_⟩
    rw [h.2.1.2.2.2.2.1]
    exact ok_stopG (k := 1) h.2.2 (fun w2 g1 g2 g3 => bk_X7_takeSign_17 ⟨Or.inl rfl, q0 y w2 g1 g2 g3⟩)
theorem ok_takeWord {wd : List Nat} {x : Int32} (ho : lx_ok wd) (hx : x = nI (lx_H wd)) (h : rG w T n p z) (q1 : lx_W T n p z wd → ∀ w2, rG w2 T n (lx_n T n p) (lx_z T n p) → hw_ag (fun t _ => t = 3) w w2 → w2.2.2.1 = w.2.2.1 → Q (some (hb_i 1)) w2) (q0 : ¬ lx_W T n p z wd → ∀ w2, rX w2 1 p → hw_ag (fun t _ => t = 3) w w2 → w2.2.2.1 = w.2.2.1 → Q (some (hb_i 0)) w2) : hb_O yX7_takeWord cX7_takeWord 2 (some .boolean) (d + 2) [hb_r 3 0 0, hb_i x] w Q := by
  have hW := h.2.1.W (wd := wd) (fun k hk => (h.1.2.2 k hk).2) h.1.2.1 ho
  subst hx
  refine bk_X7_takeWord_0 ⟨fun y => ?_, fun y => ?_⟩
  · have y' := hW.mp y
    exact ok_stepG h (by rw [y'.2.1]; decide) (fun e => by rw [y'.1] at e; cases e) (fun w2 g1 g2 g3 => bk_X7_takeWord_22 (q1 y' w2 g1 g2 g3))
  · rw [h.2.1.2.2.2.2.1]
    exact ok_stopG (k := 1) h.2.2 (fun w2 g1 g2 g3 => bk_X7_takeWord_17 ⟨Or.inl rfl, q0 (fun x => y (hW.mpr x)) w2 g1 g2 g3⟩)
theorem ok_takeNumber {lo hi : Nat} (hlo : lo < 100000) (hhi : hi < 100000) (h : rG w T n p z) (q1 : lx_no T n p z lo hi → ∀ w2, rG w2 T n (lx_n T n p) (lx_z T n p) → hw_ag (fun t _ => t = 3) w w2 → w2.2.2.1 = w.2.2.1 → Q (some (hb_i (nI (lx_v T p (lx_E T n p - p))))) w2) (q0 : ¬ lx_no T n p z lo hi → ∀ w2, rX w2 (lx_nf T n p z).1 (lx_nf T n p z).2 → hw_ag (fun t _ => t = 3) w w2 → w2.2.2.1 = w.2.2.1 → Q (some (hb_i (-1))) w2) : hb_O yX7_takeNumber cX7_takeNumber 4 (some .int) (d + 2) [hb_r 3 0 0, hb_i (nI lo), hb_i (nI hi)] w Q := by
  have hG := h
  obtain ⟨hT, ⟨d0, d1, d2, d3, d4, d5, d6⟩, hF⟩ := h
  have hkl := lx_k_le T n p
  have hn := hT.2.1
  have hE := lx_E_le (T := T) d0
  have e5 : nI (lx_E T n p) - nI p = nI (lx_E T n p - p) := pk_sub hE.1
  refine bk_X7_takeNumber_0 ?_
  rw [d1, d4, d5, e5, show (2 : Int32) = nI 2 from rfl, nI_eq (by split <;> omega) (by decide), show (4 : Int32) = nI 4 from rfl, nI_leI (by omega) (by decide), nI_add]
  refine ⟨fun y => ?_, fun y => ?_⟩
  · have hz : ¬ (z = true ∧ (lx_k T n p = 1 ∨ lx_k T n p = 2)) := fun x => by rw [if_pos x] at y; omega
    rw [if_neg hz] at y
    have hzf : z = false := by
      cases z with
      | false => rfl
      | true => exact absurd ⟨rfl, Or.inr y⟩ hz
    refine ⟨fun y2 => ?_, fun y2 => ?_⟩
    · have hv := lx_vn d0 y (by omega)
      rw [d3 y, nI_ltI (by omega) (by omega), nI_leI (by omega) (by omega)]
      have bad : ¬ (lo ≤ lx_v T p (lx_E T n p - p) ∧ lx_v T p (lx_E T n p - p) ≤ hi) → hb_O yX7_stop cX7_stop 3 (some .boolean) (d + 1) [hb_r 3 0 0, hb_i (nI 2), hb_i (nI p)] w (fun rv w1 => hb_R yX7_takeNumber cX7_takeNumber 4 (some .int) (d + 1 + 1) 71 [some (hb_r 3 0 0), some (hb_i (nI lo)), some (hb_i (nI hi)), some (hb_i (nI (lx_v T p (lx_E T n p - p))))] (rv.toList ++ []) w1 Q) := fun x => ok_stopG hF (fun w2 g1 g2 g3 => bk_X7_takeNumber_71 (q0 (fun u => x u.2.2.2) w2 (by unfold lx_nf; rw [if_pos ⟨hzf, y⟩, if_pos (by omega)]; exact g1) g2 g3))
      refine ⟨fun y3 => bad (by omega), fun y3 => ⟨fun y4 => ?_, fun y4 => bad (by omega)⟩⟩
      exact ok_stepG hG (by omega) (fun e => by rw [hzf] at e; cases e) (fun w2 g1 g2 g3 => bk_X7_takeNumber_78 (q1 ⟨hzf, y, by omega, by omega, y4⟩ w2 g1 g2 g3))
    · exact ok_stopG (k := 1) hF (fun w2 g1 g2 g3 => bk_X7_takeNumber_44 (q0 (fun u => y2 (by have := u.2.2.1; omega)) w2 (by unfold lx_nf; rw [if_pos ⟨hzf, y⟩, if_neg (by omega)]; exact g1) g2 g3))
  · have hb : ¬ (z = false ∧ lx_k T n p = 2) := fun x => y (by rw [if_neg (fun u => by rw [x.1] at u; exact absurd u.1 (by decide))]; exact x.2)
    exact ok_stopG (k := 1) hF (fun w2 g1 g2 g3 => bk_X7_takeNumber_17 (q0 (fun u => hb ⟨u.1, u.2.1⟩) w2 (by unfold lx_nf; rw [if_neg hb]; exact g1) g2 g3))
end HRE
