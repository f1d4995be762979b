/-! ===== the model's nights: mix ===== -/
section HMM
variable {d : Nat} {Q : Option hb_V → hb_W → Prop} {w : hb_W} {T : Nat → Nat} {n p st L R co : Nat} {z : Bool} {rows : List rO} {mix : Option (List Nat × Nat)} {K D : List Nat}
abbrev kC : List Nat := [2, 4, 5, 6, 10, 28, 31, 80, 82, 83, 84]
abbrev jC : List Nat := [15, 16, 17, 54, 55]
theorem mN_codes {w2 : hb_W} {k : Nat} (h : mN w st L R rows mix co K) (ha : hm_ag kC jC w w2) (hK : mK w2 (K ++ D)) (e15 : hb_aI w2 12 15 0 = upd (hb_aI w 12 15 0) k (nI K.length)) (e16 : hb_aI w2 12 16 0 = upd (hb_aI w 12 16 0) k (nI (K.length + D.length))) (hk : ∀ j, j < rows.length → j ≠ k) : hb_fI w2 12 29 0 = nI st ∧ hb_fI w2 12 22 0 = nI rows.length ∧ hb_aI w2 12 13 0 0 = nI L ∧ hb_aI w2 12 13 0 1 = nI R ∧ hb_aI w2 12 13 0 5 = nI co ∧ (∀ k x, rows[k]? = some x → mNr w2 k x) ∧ (¬ 20 = k → mNx w2 mix) := by
  obtain ⟨h3, h4, h5, h6, h7, h8, h9, h10⟩ := h
  refine ⟨by rw [ha.I 29]; exact h3, by rw [ha.I 22]; exact h4, by rw [ha.A 13]; exact h6, by rw [ha.A 13]; exact h7, by rw [ha.A 13]; exact h8, fun j x hj => ?_, fun hne => ?_⟩
  · have hlt : j < rows.length := by
      rcases Nat.lt_or_ge j rows.length with u | u
      · exact u
      · rw [List.getElem?_eq_none u] at hj; cases hj
    have := h9 j x hj
    unfold mNr at this ⊢
    rw [ha.A 14, e15, e16, pk_un (hk j hlt), pk_un (hk j hlt)]
    exact this
  · unfold mNx at h10 ⊢
    cases mix with
    | none => rw [e15]; exact (pk_un hne).trans h10
    | some m => rw [e15, e16]; exact ⟨(pk_un hne).trans h10.1, (pk_un hne).trans h10.2⟩
def sK56 (d : Nat) (x : Int32) (Q : Option hb_V → hb_W → Prop) : Option hb_V → hb_W → Prop := fun rv w1 => hb_R yX12_statementTold cX12_statementTold 2 none (d + 9) 56 [some (hb_r 12 0 0), some (hb_i x)] (rv.toList ++ []) w1 (oK86 d Q)
theorem st_mix (hW : lx_W T n p z wd_mix) (hst : ¬ st = 40) (hS : mSt w T n p z st L R rows mix co K) (q : ∀ w2, mSt w2 T n (lx_n T n p) (lx_z T n p) st L R rows mix co K → hm_ag [2, 4, 5, 6, 10] [] w w2 → hb_O yX12_mixTold cX12_mixTold 2 none (d + 8) [hb_r 12 0 0, hb_i (nI p)] w2 (sK56 d (nI p) Q)) : oR d Q w := by
  have hk1 : lx_k T n p = 1 := hW.2.1
  have hpn : p < n := (lx_k_1.mp hk1).1
  have hlt := lx_n_lt (Nat.le_of_lt hpn) (show lx_k T n p ≠ 0 by omega)
  refine st_head hS hpn hst (fun w2 s2 g2 a2 => ?_)
  refine om_takes (wd := wd_hoods) rfl (wd_ok (6, wd_hoods) (by decide)) (s2.2.1 (6, wd_hoods) (by decide)) s2.1 (fun y => absurd (lx_W_u y hW) (by decide)) (fun _ w3 k1 k2 k3 => bk_X12_statementTold_29 ⟨fun _ => ?_, fun y => absurd rfl y⟩)
  have s3 := s2.lex k1 (k3.wk (by decide) (by decide)) (Nat.le_refl p)
  refine om_takes (wd := wd_mix) rfl (wd_ok (11, wd_mix) (by decide)) (s3.2.1 (11, wd_mix) (by decide)) s3.1 (fun _ w4 l1 l3 => bk_X12_statementTold_48 ⟨fun y => absurd y (by decide), fun _ => ?_⟩) (fun y => absurd hW y)
  exact q w4 (s3.lex l1 (l3.wk (by decide) (by decide)) (by omega)) ((a2.tr (k3.wk (by decide) (by decide))).tr (l3.wk (by decide) (by decide)))
theorem oX_mix5 {m : List Nat × Nat} (hW : lx_W T n p z wd_mix) (hst : ¬ st = 40) (hm : m.2 < 2 ^ 31) : oX T n p z st L R rows (some m) co K 5 p := by
  refine ⟨by decide, by decide, ?_⟩
  intro d Q w hS q
  refine st_mix hW hst hS (fun w2 s2 a2 => ?_)
  have e20 : hb_aI w2 12 15 0 20 = nI m.2 := s2.2.2.1.2.2.2.2.2.2.2.1
  refine bk_X12_mixTold_0 ⟨fun y => absurd s2.1.2.2.1 y, fun _ => ⟨fun y => absurd (e20.symm.trans y) (hx_ne hm), fun _ => ?_⟩⟩
  refine om_fail (k := 5) s2.1.2.2.1 (fun w3 g1 g2 => ?_)
  have hb := g1.ne (by decide) (by decide)
  exact bk_X12_mixTold_24 ⟨fun _ => bk_X12_mixTold_37 (bk_X12_statementTold_56 (st_endX ((a2.ow (by decide) (by decide)).tr (g2.ow (by decide) (by decide))) g1 (by decide) (by decide) q)), fun y => absurd y hb⟩
theorem oX_mixS {kf pl : Nat} (hW : lx_W T n p z wd_mix) (hst : ¬ st = 40) (hk : 0 < kf) (hk2 : kf < 10) (hG : fS T n 1 (lx_n T n p) (lx_z T n p) 0 kf pl) : oX T n p z st L R rows none co K kf pl := by
  refine ⟨hk, hk2, ?_⟩
  intro d Q w hS q
  refine st_mix hW hst hS (fun w2 s2 a2 => ?_)
  have e20 : hb_aI w2 12 15 0 20 = -1 := s2.2.2.1.2.2.2.2.2.2.2
  refine bk_X12_mixTold_0 ⟨fun y => absurd s2.1.2.2.1 y, fun _ => ⟨fun _ => ?_, fun y => absurd e20 y⟩⟩
  refine bk_X12_mixTold_24 ⟨fun y => absurd s2.1.2.2.1 y, fun _ => ?_⟩
  exact om_codesToldX (k := 20) (tk := 1) (by decide) rfl s2.1 s2.2.1 hk hk2 hG (fun w3 g1 g2 => bk_X12_mixTold_37 (bk_X12_statementTold_56 (st_endX ((a2.ow (by decide) (by decide)).tr g2) g1 hk hk2 q)))
theorem st_mixG {p1 : Nat} {z1 : Bool} (hW : lx_W T n p z wd_mix) (hst : st < 40) (hG : gS T n 1 (lx_n T n p) (lx_z T n p) 0 D p1 z1) (hno : noOp T n p1) (hS : mSt w T n p z st L R rows none co K) (q1 : lx_s T n p1 59 → ∀ w2, ho_ag kO jO w w2 → mSt w2 T n (lx_n T n p1) false (st + 1) L R rows (some (D, K.length)) co (K ++ D) → oR d Q w2) (q0 : ¬ lx_s T n p1 59 → ∀ w2, ho_ag kO jO w w2 → mX w2 1 p1 → oR d Q w2) : oR d Q w := by
  refine st_mix hW (by omega) hS (fun w2 s2 a2 => ?_)
  have e20 : hb_aI w2 12 15 0 20 = -1 := s2.2.2.1.2.2.2.2.2.2.2
  refine bk_X12_mixTold_0 ⟨fun y => absurd s2.1.2.2.1 y, fun _ => ⟨fun _ => ?_, fun y => absurd e20 y⟩⟩
  refine bk_X12_mixTold_24 ⟨fun y => absurd s2.1.2.2.1 y, fun _ => ?_⟩
  have hr := s2.2.2.2.2.1
  refine om_codesTold (k := 20) (tk := 1) (by decide) rfl s2.1 s2.2.1 s2.2.2.1.2.2.1 s2.2.2.2.2.2 hG hno (fun w3 g1 g2 g3 g4 g5 g6 g7 => bk_X12_mixTold_37 (bk_X12_statementTold_56 ?_))
  obtain ⟨b1, b2, b3, b4, b5, b6, _⟩ := mN_codes s2.2.2.1 g7 g3 g5 g6 (fun j hj => by omega)
  have hx3 : mNx w3 (some (D, K.length)) := by
    refine ⟨?_, ?_⟩
    · rw [g5]; exact pk_us
    · rw [g6]; exact pk_us
  exact st_end (mix := some (D, K.length)) ((a2.ow (by decide) (by decide)).tr g2) hst ⟨g1, s2.2.1.ag g7 (by decide), ⟨b1, b2, g3, b3, b4, b5, b6, hx3⟩, by omega, hr, g4⟩ q1 q0
theorem oG_mix {p1 : Nat} {z1 : Bool} (hW : lx_W T n p z wd_mix) (hst : st < 40) (hG : gS T n 1 (lx_n T n p) (lx_z T n p) 0 D p1 z1) (hno : noOp T n p1) (hs : lx_s T n p1 59) : oG T n p z st L R rows none co K (lx_n T n p1) false rows (some (D, K.length)) co (K ++ D) := fun d Q w hS q => st_mixG hW hst hG hno hS (fun _ => q) (fun y => absurd hs y)
theorem oX_mixE {p1 : Nat} {z1 : Bool} (hW : lx_W T n p z wd_mix) (hst : st < 40) (hG : gS T n 1 (lx_n T n p) (lx_z T n p) 0 D p1 z1) (hno : noOp T n p1) (hs : ¬ lx_s T n p1 59) : oX T n p z st L R rows none co K 1 p1 := ⟨by decide, by decide, fun d Q w hS q => st_mixG hW hst hG hno hS (fun y => absurd y hs) (fun _ => q)⟩
end HMM
