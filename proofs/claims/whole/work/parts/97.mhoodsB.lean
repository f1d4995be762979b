section HMI
variable {d : Nat} {Q : Option hb_V → hb_W → Prop} {w : hb_W} {T : Nat → Nat} {n p p1 st L R co : Nat} {z z1 : Bool} {rows : List rO} {mix : Option (List Nat × Nat)} {K D : List Nat}
def mSg (w : hb_W) (k a : Nat) (D : List Nat) : Prop := hb_aI w 12 15 0 k = nI a ∧ hb_aI w 12 16 0 k = nI (a + D.length)
theorem mSg.ag {A : List Nat} {w2 : hb_W} {k a : Nat} (h : mSg w k a D) (ha : hm_ag A [] w w2) : mSg w2 k a D := ⟨by rw [ha.A 15]; exact h.1, by rw [ha.A 16]; exact h.2⟩
/-- all good ones up to the codes -/
def hC7 (T : Nat → Nat) (n p : Nat) (z : Bool) (m : Nat) (D : List Nat) (p1 : Nat) (z1 : Bool) : Prop := hC3 T n p z m ∧ lx_no T n (pN T n 5 p) (zN T n 5 p z) 0 63 ∧ lx_W T n (pN T n 6 p) (zN T n 6 p z) wd_gives ∧ gS T n 0 (pN T n 7 p) (zN T n 7 p z) 0 D p1 z1 ∧ noOp T n p1
theorem st_h8 (hst : ¬ st = 40) (c : hC7 T n p z rows.length D p1 z1) (hS : mSt w T n p z st L R rows mix co K) (q : ∀ w2, mSt w2 T n p1 z1 st L R rows mix co (K ++ D) → mSg w2 rows.length K.length D → ho_ag kO jO w w2 → hb_O yX12_asks cX12_asks 2 none (d + 7) [hb_r 12 0 0, hb_r 12 0 10] w2 (fun rv w1 => hb_R yX12_hoodsTold cX12_hoodsTold 7 none (d + 8) 95 [some (hb_r 12 0 0), some (hb_i (nI p)), some (hb_i (nI (vN T n 1 p))), some (hb_i (nI (vN T n 3 p))), some (hb_i (nI (vN T n 5 p))), none, none] (rv.toList ++ []) w1 (sK37 d (nI p) Q))) : oR d Q w := by
  obtain ⟨c3, c5, c6, hG, hno⟩ := c
  have hr := c3.2.1
  refine st_h7 hst c3 c5 c6 hS (fun w2 s2 a2 => ?_)
  have hst2 := s2.2.2.2.1
  refine om_codesTold (k := rows.length) (tk := 0) (by omega) (by rw [if_neg (by omega)]) s2.1 s2.2.1 s2.2.2.1.2.2.1 s2.2.2.2.2.2 hG hno (fun w3 g1 g2 g3 g4 g5 g6 g7 => bk_X12_hoodsTold_87 ?_)
  obtain ⟨b1, b2, b3, b4, b5, b6, b7⟩ := mN_codes s2.2.2.1 g7 g3 g5 g6 (fun j hj => by omega)
  refine q w3 ⟨g1, s2.2.1.ag g7 (by decide), ⟨b1, b2, g3, b3, b4, b5, b6, b7 (by omega)⟩, hst2, by omega, g4⟩ ⟨?_, ?_⟩ ((a5O a2).tr g2)
  · rw [g5]; exact pk_us
  · rw [g6]; exact pk_us
theorem oX_h8 (hst : ¬ st = 40) (c : hC7 T n p z rows.length D p1 z1) (c8 : ¬ lx_W T n p1 z1 wd_gate) : oX T n p z st L R rows mix co K 1 p1 := ⟨by decide, by decide, fun d Q w hS q => st_h8 hst c hS (fun w2 s2 _ a2 => om_asksS (wd := wd_gate) (by decide) rfl s2 (fun y => absurd y c8) (fun _ w3 g1 g2 => hX95 (g1.ne (by decide) (by decide)) (sK37X (a2.tr (a5O g2)) g1 (by decide) (by decide) q)))⟩
theorem st_h9 (hst : ¬ st = 40) (c : hC7 T n p z rows.length D p1 z1) (c8 : lx_W T n p1 z1 wd_gate) (hS : mSt w T n p z st L R rows mix co K) (q : ∀ w2, mSt w2 T n (lx_n T n p1) (lx_z T n p1) st L R rows mix co (K ++ D) → mSg w2 rows.length K.length D → ho_ag kO jO w w2 → hb_O yX12_number cX12_number 5 (some .int) (d + 7) [hb_r 12 0 0, hb_i (nI 0), hb_i (nI 1)] w2 (fun rv w1 => hb_R yX12_hoodsTold cX12_hoodsTold 7 none (d + 8) 101 [some (hb_r 12 0 0), some (hb_i (nI p)), some (hb_i (nI (vN T n 1 p))), some (hb_i (nI (vN T n 3 p))), some (hb_i (nI (vN T n 5 p))), none, none] (rv.toList ++ []) w1 (sK37 d (nI p) Q))) : oR d Q w := st_h8 hst c hS (fun w2 s2 h2 a2 => om_asksS (wd := wd_gate) (by decide) rfl s2 (fun _ w3 s3 a3 => bk_X12_hoodsTold_95 (q w3 s3 (h2.ag a3) (a2.tr (a5O a3)))) (fun y => absurd c8 y))
theorem oX_h9 (hst : ¬ st = 40) (c : hC7 T n p z rows.length D p1 z1) (c8 : lx_W T n p1 z1 wd_gate) (c9 : ¬ lx_no T n (lx_n T n p1) (lx_z T n p1) 0 1) : oX T n p z st L R rows mix co K (lx_nf T n (lx_n T n p1) (lx_z T n p1)).1 (lx_nf T n (lx_n T n p1) (lx_z T n p1)).2 := ⟨lx_nf_b.1, lx_nf_b.2, fun d Q w hS q => st_h9 hst c c8 hS (fun w2 s2 _ a2 => om_numS (by decide) (by decide) s2 (fun y => absurd y c9) (fun _ w3 r g1 g2 => hX101 (g1.ne lx_nf_b.1 lx_nf_b.2) (sK37X (a2.tr (a5O g2)) g1 lx_nf_b.1 lx_nf_b.2 q)))⟩
theorem mN_row {a1 a2 a3 a4 : Nat} (hr : rows.length < 20) (h : mN w st L R rows mix co (K ++ D)) (hg : mSg w rows.length K.length D) {f : Nat → Int32} (hf : f = upd (upd (upd (upd (hb_aI w 12 14 0) (4 * rows.length) (nI a1)) (4 * rows.length + 1) (nI a2)) (4 * rows.length + 2) (nI a3)) (4 * rows.length + 3) (nI a4)) {w2 : hb_W} (h14 : hb_aI w2 12 14 0 = f) (h22 : hb_fI w2 12 22 0 = nI (rows.length + 1)) (ha : hm_ag [22] [14] w w2) : mN w2 st L R (rows ++ [((a1, a2, a3, a4, D), K.length)]) mix co (K ++ D) := by
  obtain ⟨h3, h4, h5, h6, h7, h8, h9, h10⟩ := h
  refine ⟨by rw [ha.I 29]; exact h3, by rw [h22, List.length_append]; rfl, ⟨by rw [ha.I 28]; exact h5.1, by rw [ha.A 17]; exact h5.2⟩, by rw [ha.A 13]; exact h6, by rw [ha.A 13]; exact h7, by rw [ha.A 13]; exact h8, fun k x hk => ?_, ?_⟩
  · unfold mNr
    rw [ha.A 15, ha.A 16, h14, hf]
    by_cases e : k < rows.length
    · rw [List.getElem?_append_left e] at hk
      have := h9 k x hk
      unfold mNr at this
      rw [pk_un (by omega), pk_un (by omega), pk_un (by omega), pk_un (by omega), pk_un (by omega), pk_un (by omega), pk_un (by omega), pk_un (by omega), pk_un (by omega), pk_un (by omega), pk_un (by omega), pk_un (by omega), pk_un (by omega), pk_un (by omega), pk_un (by omega), pk_un (by omega)]
      exact this
    · rw [List.getElem?_append_right (by omega)] at hk
      cases e2 : k - rows.length with
      | zero =>
        rw [e2] at hk
        cases hk
        have ek : k = rows.length := by omega
        subst ek
        refine ⟨?_, ?_, ?_, ?_, hg.1, hg.2⟩
        · rw [pk_un (by omega), pk_un (by omega), pk_un (by omega), pk_us]
        · rw [pk_un (by omega), pk_un (by omega), pk_us]
        · rw [pk_un (by omega), pk_us]
        · rw [pk_us]
      | succ m =>
        rw [e2] at hk
        simp at hk
  · unfold mNx at h10 ⊢
    cases mix with
    | none => rw [ha.A 15]; exact h10
    | some m => rw [ha.A 15, ha.A 16]; exact h10
end HMI
