/-! ===== the model's numbers; refusals that pass by ===== -/
section HMN
variable {d : Nat} {w : hb_W} {Q : Option hb_V → hb_W → Prop} {T : Nat → Nat} {n p : Nat} {z : Bool}
theorem om_number {lo hi : Nat} (hlo : lo < 100000) (hhi : hi < 100000) (h : mD w T n p z) (q1 : lx_no T n p z lo hi → ∀ w2, mD w2 T n (lx_n T n p) (lx_z T n p) → hm_ag [2, 4, 5, 6, 10] [] w w2 → Q (some (hb_i (nI (lx_v T p (lx_E T n p - p))))) w2) (q0 : ¬ lx_no T n p z lo hi → ∀ w2 r, mX w2 (lx_nf T n p z).1 (lx_nf T n p z).2 → hm_ag [2, 4, 5, 6, 10] [] w w2 → Q (some (hb_i r)) w2) : hb_O yX12_number cX12_number 5 (some .int) (d + 1) [hb_r 12 0 0, hb_i (nI lo), hb_i (nI hi)] w Q := by
  obtain ⟨hp, hn, hbl⟩ := h.le
  refine bk_X12_number_0 ⟨fun _ => om_look h (fun w2 g1 g2 g3 => bk_X12_number_13 ?_), fun y => absurd h.2.2.1 y⟩
  have hT : ∀ k, k < n → T k < 256 := fun k hk => (g1.1.2 k hk).2
  have bad1 : ¬ (z = false ∧ lx_k T n p = 2) → hb_O yX12_fail cX12_fail 3 none d [hb_r 12 0 0, hb_i 1, hb_i (hb_fI w2 12 2 0)] w2 (fun rv w1 => hb_R yX12_number cX12_number 5 (some .int) (d + 1) 39 [some (hb_r 12 0 0), some (hb_i (nI lo)), some (hb_i (nI hi)), none, none] (rv.toList ++ []) w1 Q) := fun y => by
    rw [g2]
    refine om_fail (k := 1) g1.2.2.1 (fun w3 k1 k2 => bk_X12_number_39 (q0 (fun u => y ⟨u.1, u.2.1⟩) w3 _ ?_ ((g3.wk (by decide) (fun x hx => hx)).tr (k2.wk (by decide) (fun x hx => hx)))))
    unfold lx_nf
    rw [if_neg y]
    exact k1
  refine om_isDigit hT hn (fun k2 => bk_X12_number_16 ⟨fun x => absurd x (by decide), fun _ => ?_⟩) (fun k2 => bk_X12_number_16 ⟨fun _ => bad1 (fun y => k2 y.2), fun x => absurd rfl x⟩)
  have hz := mE_eq hn hp g1.2.2.2.2.2
  have e24 : (hb_fI w2 12 2 0 = hb_fI w2 12 4 0) ↔ z = true := by rw [g2]; exact hz
  rw [e24]
  refine ⟨fun x => ?_, fun x => bad1 (fun y => by rw [y.1] at x; cases x)⟩
  have zf : z = false := by cases z with
    | false => rfl
    | true => exact absurd rfl x
  obtain ⟨f1, f2, f3, f4⟩ := lx_E_long hp (Or.inr k2)
  have hE := lx_E_le (T := T) hp
  rw [g2]
  -- the end of the number: in range, or not
  have fin : lx_E T n p ≤ p + 4 → ∀ w', hb_fI w' 12 2 0 = nI (lx_E T n p) → hm_ag [2] [] w2 w' → hb_O yX12_isIn cX12_isIn 6 (some .boolean) d [hb_l (nI (lx_v T p (lx_E T n p - p))).toInt64, hb_l (nI lo).toInt64, hb_l (nI hi).toInt64] (hb_pI (hb_pI w' 12 4 0 (hb_fI w' 12 2 0)) 12 10 0 (nI p)) (fun rv w1 => hb_R yX12_number cX12_number 5 (some .int) (d + 1) 152 [some (hb_r 12 0 0), some (hb_i (nI lo)), some (hb_i (nI hi)), some (hb_i (nI p)), some (hb_i (nI (lx_v T p (lx_E T n p - p))))] (rv.toList ++ []) w1 Q) := by
    intro h4 w' u1 u2
    have hv := lx_vn hp k2 h4
    rw [nI_l (by omega), nI_l (by omega), nI_l (by omega), u1]
    have a4 : hm_ag [2, 4, 5, 6, 10] [] w (hb_pI (hb_pI w' 12 4 0 (nI (lx_E T n p))) 12 10 0 (nI p)) := ((((g3.tr u2).wk (K2 := [2, 4, 5, 6, 10]) (J2 := []) (by decide) (fun x hx => hx)).pI (by decide)).pI (by decide))
    have b5 : hb_fI w' 12 5 0 = 0 := by rw [u2.I 5]; exact g1.2.2.1
    refine om_isIn (fun y1 y2 => bk_X12_number_152 ⟨fun _ => bk_X12_number_164 (q1 ⟨zf, k2, h4, ?_, ?_⟩ _ ⟨?_, ?_, ?_, ?_, ⟨lx_E T n p, u1, hE.2, rfl⟩, mE_word hp hn (Or.inr k2)⟩ a4), fun u => absurd u (by decide)⟩) (fun y => bk_X12_number_152 ⟨fun u => absurd rfl u, fun _ => ?_⟩)
    · rw [lN_le (by omega) (by omega)] at y1; exact y1
    · rw [lN_le (by omega) (by omega)] at y2; exact y2
    · exact (g1.1.ag u2 (by decide)).ag ((hm_ag.rf (K := [4, 10]) (J := [])).pI (by decide) |>.pI (by decide)) (by decide)
    · show hb_fI w' 12 3 0 = nI n
      rw [u2.I 3]; exact g1.2.1
    · exact b5
    · show hb_fI w' 12 6 0 = -1
      rw [u2.I 6]; exact g1.2.2.2.1
    · refine om_fail (k := 2) (pl := p) b5 (fun w3 m1 m2 => bk_X12_number_164 (q0 (fun u => y ⟨?_, ?_⟩) w3 _ ?_ (a4.tr (m2.wk (by decide) (fun x hx => hx)))))
      · rw [lN_le (by omega) (by omega)]; exact u.2.2.2.1
      · rw [lN_le (by omega) (by omega)]; exact u.2.2.2.2
      · unfold lx_nf
        rw [if_pos ⟨zf, k2⟩, if_pos h4]
        exact m1
  have loop : ∀ (m k : Nat), k + m = lx_E T n p → p ≤ k → k ≤ p + 4 → ∀ w', hb_fI w' 12 2 0 = nI k → hm_ag [2] [] w2 w' → hb_R yX12_number cX12_number 5 (some .int) (d + 1) 49 [some (hb_r 12 0 0), some (hb_i (nI lo)), some (hb_i (nI hi)), some (hb_i (nI p)), some (hb_i (nI (lx_v T p (k - p))))] [] w' Q := by
    intro m
    induction m with
    | zero =>
      intro k hk hpk hk4 w' u1 u2
      rw [Nat.add_zero] at hk
      subst hk
      have e3 : hb_fI w' 12 3 0 = nI n := by rw [u2.I 3]; exact g1.2.1
      refine bk_X12_number_49 ⟨fun _ => fin hk4 w' u1 u2, fun y => ?_⟩
      rw [e3, u1, nI_leI (by omega) (by omega)] at y
      have hkn : lx_E T n p < n := by omega
      rw [u1, nI_clamp (by omega), u2.A 1, (g1.1.2 _ hkn).1]
      refine ⟨vp_in_nI (by omega) (by decide), ?_⟩
      have := om_isDigit (d := d) (w := w') (Q := fun rv w1 => hb_R yX12_number cX12_number 5 (some .int) (d + 1) 72 [some (hb_r 12 0 0), some (hb_i (nI lo)), some (hb_i (nI hi)), some (hb_i (nI p)), some (hb_i (nI (lx_v T p (lx_E T n p - p))))] (rv.toList ++ []) w1 Q) (k := lx_E T n p) hT hn (fun x => absurd (x.trans k2.symm) f4) (fun x => bk_X12_number_72 ⟨fun _ => fin hk4 w' u1 u2, fun u => absurd rfl u⟩)
      rw [if_pos hkn] at this
      exact this
    | succ m ih =>
      intro k hk hpk hk4 w' u1 u2
      have e3 : hb_fI w' 12 3 0 = nI n := by rw [u2.I 3]; exact g1.2.1
      have hkn : k < n := by omega
      have hdg : lx_k T n k = 2 := (f3 k hpk (by omega)).trans k2
      have h48 := (lx_k_2.mp hdg).2
      refine bk_X12_number_49 ⟨fun y => absurd y (by rw [e3, u1]; exact nI_ge hkn (by omega)), fun y => ?_⟩
      rw [u1, nI_clamp (by omega), u2.A 1, (g1.1.2 _ hkn).1]
      refine ⟨vp_in_nI (by omega) (by decide), ?_⟩
      have := om_isDigit (d := d) (w := w') (Q := fun rv w1 => hb_R yX12_number cX12_number 5 (some .int) (d + 1) 72 [some (hb_r 12 0 0), some (hb_i (nI lo)), some (hb_i (nI hi)), some (hb_i (nI p)), some (hb_i (nI (lx_v T p (k - p))))] (rv.toList ++ []) w1 Q) (k := k) hT hn (fun x => bk_X12_number_72 ⟨fun u => absurd u (by decide), fun _ => ?_⟩) (fun x => absurd hdg x)
      · rw [if_pos hkn] at this
        exact this
      rw [u1, pk_sub hpk, show (4 : Int32) = nI 4 from rfl, nI_eq (by omega) (by decide), nI_clamp (by omega), u2.A 1, (g1.1.2 _ hkn).1, nI_1]
      refine ⟨fun y4 => ⟨vp_in_nI (by omega) (by decide), ?_⟩, fun y4 => ?_⟩
      · have ev : (10 : Int32) * nI (lx_v T p (k - p)) + nI (T k) - 48 = nI (lx_v T p (k + 1 - p)) := by
          have hk1 : k + 1 - p = (k - p) + 1 := by omega
          rw [show (10 : Int32) = nI 10 from rfl, pk_mul, nI_add, show (48 : Int32) = nI 48 from rfl, pk_sub (by omega), hk1]
          show _ = nI (lx_v T p (k - p) * 10 + (T (p + (k - p)) - 48))
          rw [show p + (k - p) = k by omega]
          congr 1
          omega
        rw [ev]
        exact ih (k + 1) (by omega) (by omega) (by omega) _ rfl (u2.pI (by decide))
      · refine om_fail (k := 1) (by rw [u2.I 5]; exact g1.2.2.1) (fun w3 m1 m2 => bk_X12_number_94 (q0 (fun u => by have := u.2.2.1; omega) w3 _ ?_ (((g3.tr u2).wk (by decide) (fun x hx => hx)).tr (m2.wk (by decide) (fun x hx => hx)))))
        unfold lx_nf
        rw [if_pos ⟨zf, k2⟩, if_neg (by omega)]
        rw [show k = p + 4 by omega] at m1
        exact m1
  have := loop (lx_E T n p - p) p (by omega) (Nat.le_refl p) (by omega) w2 g2 hm_ag.rf
  rw [Nat.sub_self] at this
  exact this
/-- nothing is read behind a fault -/
theorem mX.ne {k pl : Nat} (h : mX w k pl) (hk : 0 < k) (hk2 : k < 10) : ¬ hb_fI w 12 5 0 = 0 := by
  rw [h.1]
  exact nI_ne0 hk (by omega)
theorem om_asksX {j m : Nat} (hs : hb_sh 12 j = some (.inr (2, m))) (h : ¬ hb_fI w 12 5 0 = 0) (q : Q none w) : hb_O yX12_asks cX12_asks 2 none (d + 1) [hb_r 12 0 0, hb_r 12 0 j] w Q := bk_X12_asks_0 hs (by decide) ⟨fun _ => bk_X12_asks_24 hs (by decide) q, fun y => absurd y h⟩
theorem om_asksSignX {c : Int32} (h : ¬ hb_fI w 12 5 0 = 0) (q : Q none w) : hb_O yX12_asksSign cX12_asksSign 2 none (d + 1) [hb_r 12 0 0, hb_i c] w Q := bk_X12_asksSign_0 ⟨fun _ => bk_X12_asksSign_24 q, fun y => absurd y h⟩
theorem om_numberX {a b : Int32} (h : ¬ hb_fI w 12 5 0 = 0) (q : Q (some (hb_i 0)) w) : hb_O yX12_number cX12_number 5 (some .int) (d + 1) [hb_r 12 0 0, hb_i a, hb_i b] w Q := bk_X12_number_0 ⟨fun y => absurd y h, fun _ => q⟩
theorem om_takesSignX {c : Int32} (h : ¬ hb_fI w 12 5 0 = 0) (q : Q (some (hb_i 0)) w) : hb_O yX12_takesSign cX12_takesSign 2 (some .boolean) (d + 1) [hb_r 12 0 0, hb_i c] w Q := bk_X12_takesSign_0 ⟨fun _ => q, fun y => absurd y h⟩
theorem om_isHereX {j m : Nat} (hs : hb_sh 12 j = some (.inr (2, m))) (h : ¬ hb_fI w 12 5 0 = 0) (q : Q (some (hb_i 0)) w) : hb_O yX12_isHere cX12_isHere 4 (some .boolean) (d + 1) [hb_r 12 0 0, hb_r 12 0 j] w Q := bk_X12_isHere_0 hs (by decide) ⟨fun _ => q, fun y => absurd y h⟩
theorem om_takesX {j m : Nat} (hs : hb_sh 12 j = some (.inr (2, m))) (h : ¬ hb_fI w 12 5 0 = 0) (q : Q (some (hb_i 0)) w) : hb_O yX12_takes cX12_takes 2 (some .boolean) (d + 2) [hb_r 12 0 0, hb_r 12 0 j] w Q := bk_X12_takes_0 hs (by decide) (om_isHereX hs h (bk_X12_takes_5 hs (by decide) ⟨fun y => absurd rfl y, fun _ => q⟩))
end HMN
