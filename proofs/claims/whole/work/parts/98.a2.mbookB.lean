section HBL
variable {d : Nat} {Q : Option hb_V → hb_W → Prop} {w : hb_W} {T : Nat → Nat} {n p L : Nat} {z : Bool}
/-- the first three -/
def bC2 (T : Nat → Nat) (n : Nat) : Prop := lx_W T n (lx_S T n 0) false wd_book ∧ lx_W T n (pN T n 1 (lx_S T n 0)) (zN T n 1 (lx_S T n 0) false) wd_lines ∧ lx_no T n (pN T n 2 (lx_S T n 0)) (zN T n 2 (lx_S T n 0) false) 1 9
theorem mPre.s13 {f : Nat → Int32} (h : mPre w T n p z) (h5 : f 5 = 0) : mPre (hb_sI w 12 13 0 f) T n p z := by
  have ha : hm_ag [] [13] w (hb_sI w 12 13 0 f) := hm_ag.rf.sI (by decide)
  obtain ⟨g1, g2, g3, g4, g5, g6, g7⟩ := h
  exact ⟨g1.ag ha (by decide) (by decide) (by decide) (by decide) (by decide) (by decide), g2.ag ha (by decide), g3, g4, by rw [sI_s]; exact h5, g6, g7⟩
theorem st_b3 (c : bC2 T n) (hT : mTx w T n) (h1 : hb_fI w 12 1 0 = nI n) (hV : mVoc w) (q : ∀ w2, mPre w2 T n (pN T n 3 (lx_S T n 0)) (zN T n 3 (lx_S T n 0) false) → hb_aI w2 12 13 0 0 = nI (vN T n 2 (lx_S T n 0)) → ho_ag kN jO w w2 → hb_O yX12_asks cX12_asks 2 none (d + 8) [hb_r 12 0 0, hb_r 12 0 5] w2 (fun rv w1 => hb_R yX12_bookTold cX12_bookTold 1 none (d + 9) 37 [some (hb_r 12 0 0)] (rv.toList ++ []) w1 (oK62 d Q))) : oB d Q w := by
  refine st_b2 c.1 c.2.1 hT h1 hV (fun w2 s2 a2 => om_numP (by decide) (by decide) s2 (fun _ w3 s3 a3 => bk_X12_bookTold_28 ⟨v06, ?_⟩) (fun y => absurd c.2.2 y))
  refine q _ (s3.s13 ?_) ?_ ((a2.tr (a5N a3)).s13 (by decide) (by decide) (by decide))
  · exact (pk_un (by decide)).trans s3.2.2.2.2.1
  · rw [sI_s]; exact pk_us
theorem bX_3 (c : bC2 T n) (c3 : ¬ lx_W T n (pN T n 3 (lx_S T n 0)) (zN T n 3 (lx_S T n 0) false) wd_rows) : bX T n 1 (pN T n 3 (lx_S T n 0)) := ⟨by decide, by decide, fun d Q w hT h1 hV q => st_b3 c hT h1 hV (fun w2 s2 _ a2 => om_asksP (wd := wd_rows) (by decide) rfl s2 (fun y => absurd y c3) (fun _ w3 g1 g2 => kX37 (g1.ne (by decide) (by decide)) (oK62X (a2.tr (a5N g2)) g1 (by rw [g2.I 1]; exact s2.2.2.2.2.2.2) q)))⟩
theorem st_b4 (c : bC2 T n) (c3 : lx_W T n (pN T n 3 (lx_S T n 0)) (zN T n 3 (lx_S T n 0) false) wd_rows) (hT : mTx w T n) (h1 : hb_fI w 12 1 0 = nI n) (hV : mVoc w) (q : ∀ w2, mPre w2 T n (pN T n 4 (lx_S T n 0)) (zN T n 4 (lx_S T n 0) false) → hb_aI w2 12 13 0 0 = nI (vN T n 2 (lx_S T n 0)) → ho_ag kN jO w w2 → hb_O yX12_number cX12_number 5 (some .int) (d + 8) [hb_r 12 0 0, hb_i (nI 1), hb_i (nI 3)] w2 (fun rv w1 => hb_R yX12_bookTold cX12_bookTold 1 none (d + 9) 48 [some (hb_r 12 0 0)] (rv.toList ++ [hb_i 1, hb_r 12 0 13]) w1 (oK62 d Q))) : oB d Q w := st_b3 c hT h1 hV (fun w2 s2 e2 a2 => om_asksP (wd := wd_rows) (by decide) rfl s2 (fun _ w3 s3 a3 => bk_X12_bookTold_37 (q w3 s3 (by rw [a3.A 13]; exact e2) (a2.tr (a5N a3)))) (fun y => absurd c3 y))
theorem bX_4 (c : bC2 T n) (c3 : lx_W T n (pN T n 3 (lx_S T n 0)) (zN T n 3 (lx_S T n 0) false) wd_rows) (c4 : ¬ lx_no T n (pN T n 4 (lx_S T n 0)) (zN T n 4 (lx_S T n 0) false) 1 3) : bX T n (lx_nf T n (pN T n 4 (lx_S T n 0)) (zN T n 4 (lx_S T n 0) false)).1 (lx_nf T n (pN T n 4 (lx_S T n 0)) (zN T n 4 (lx_S T n 0) false)).2 := ⟨lx_nf_b.1, lx_nf_b.2, fun d Q w hT h1 hV q => st_b4 c c3 hT h1 hV (fun w2 s2 _ a2 => om_numP (by decide) (by decide) s2 (fun y => absurd y c4) (fun _ w3 r g1 g2 => kX48 (g1.ne lx_nf_b.1 lx_nf_b.2) (oK62X (a2.tr (a5N g2)) g1 (by rw [g2.I 1]; exact s2.2.2.2.2.2.2) q)))⟩
theorem st_b5 (c : bC2 T n) (c3 : lx_W T n (pN T n 3 (lx_S T n 0)) (zN T n 3 (lx_S T n 0) false) wd_rows) (c4 : lx_no T n (pN T n 4 (lx_S T n 0)) (zN T n 4 (lx_S T n 0) false) 1 3) (hT : mTx w T n) (h1 : hb_fI w 12 1 0 = nI n) (hV : mVoc w) (q1 : lx_s T n (pN T n 5 (lx_S T n 0)) 59 → ∀ w2, ho_ag kN jO w w2 → mSt w2 T n (pN T n 6 (lx_S T n 0)) false 1 (vN T n 2 (lx_S T n 0)) (vN T n 4 (lx_S T n 0)) [] none 0 [] → hb_fI w2 12 1 0 = 0 → oR d Q w2) (q0 : ¬ lx_s T n (pN T n 5 (lx_S T n 0)) 59 → ∀ w2, ho_ag kN jO w w2 → mX w2 1 (pN T n 5 (lx_S T n 0)) → hb_fI w2 12 1 0 = 0 → oR d Q w2) : oB d Q w := by
  refine st_b4 c c3 hT h1 hV (fun w2 s2 e2 a2 => om_numP (by decide) (by decide) s2 (fun _ w3 s3 a3 => bk_X12_bookTold_48 ⟨v16, ?_⟩) (fun y => absurd c4 y))
  have e3 : hb_aI w3 12 13 0 0 = nI (vN T n 2 (lx_S T n 0)) := by rw [a3.A 13]; exact e2
  have s4 : mPre (hb_sI w3 12 13 0 (upd (hb_aI w3 12 13 0) (1 : Int32).toNatClampNeg (nI (vN T n 4 (lx_S T n 0))))) T n (pN T n 5 (lx_S T n 0)) (zN T n 5 (lx_S T n 0) false) := s3.s13 ((pk_un (by decide)).trans s3.2.2.2.2.1)
  have f0 : hb_aI (hb_sI w3 12 13 0 (upd (hb_aI w3 12 13 0) (1 : Int32).toNatClampNeg (nI (vN T n 4 (lx_S T n 0))))) 12 13 0 0 = nI (vN T n 2 (lx_S T n 0)) := by rw [sI_s]; exact (pk_un (by decide)).trans e3
  have f1 : hb_aI (hb_sI w3 12 13 0 (upd (hb_aI w3 12 13 0) (1 : Int32).toNatClampNeg (nI (vN T n 4 (lx_S T n 0))))) 12 13 0 1 = nI (vN T n 4 (lx_S T n 0)) := by rw [sI_s]; exact pk_us
  have a4 : ho_ag kN jO w (hb_sI w3 12 13 0 (upd (hb_aI w3 12 13 0) (1 : Int32).toNatClampNeg (nI (vN T n 4 (lx_S T n 0))))) := (a2.tr (a5N a3)).s13 (by decide) (by decide) (by decide)
  refine om_asksSign sg59 s4.1 (fun y w5 g1 g2 => bk_X12_bookTold_55 (bk_X12_open_62 ?_)) (fun y w5 g1 g2 => bk_X12_bookTold_55 (bk_X12_open_62 (q0 y _ ((a4.tr (g2.ow (by decide) (by decide))).pI (by decide)) g1 (show hb_fI w5 12 1 0 = 0 by rw [g2.I 1]; exact s4.2.2.2.2.2.2))))
  have s5 := s4.lex g1 (g2.wk (by decide) (by decide))
  have hag : hm_ag [29] [] w5 (hb_pI w5 12 29 0 1) := hm_ag.rf.pI (by decide)
  obtain ⟨k1, k2, k3, k4, k5, k6, k7⟩ := s5
  refine q1 y _ ((a4.tr (g2.ow (by decide) (by decide))).pI (by decide)) ⟨k1.ag hag (by decide) (by decide) (by decide) (by decide) (by decide) (by decide), k2.ag hag (by decide), ⟨rfl, k3, ⟨k4, fun i c hi => by simp at hi⟩, ?_, ?_, k5, fun k x hk => by simp at hk, k6⟩, by decide, by decide, Nat.zero_le _⟩ k7
  · show hb_aI w5 12 13 0 0 = _
    rw [g2.A 13]; exact f0
  · show hb_aI w5 12 13 0 1 = _
    rw [g2.A 13]; exact f1
theorem bG_5 (c : bC2 T n) (c3 : lx_W T n (pN T n 3 (lx_S T n 0)) (zN T n 3 (lx_S T n 0) false) wd_rows) (c4 : lx_no T n (pN T n 4 (lx_S T n 0)) (zN T n 4 (lx_S T n 0) false) 1 3) (c5 : lx_s T n (pN T n 5 (lx_S T n 0)) 59) : bG T n (vN T n 2 (lx_S T n 0)) (vN T n 4 (lx_S T n 0)) (pN T n 6 (lx_S T n 0)) := fun d Q w hT h1 hV q => st_b5 c c3 c4 hT h1 hV (fun _ => q) (fun y => absurd c5 y)
theorem bX_5 (c : bC2 T n) (c3 : lx_W T n (pN T n 3 (lx_S T n 0)) (zN T n 3 (lx_S T n 0) false) wd_rows) (c4 : lx_no T n (pN T n 4 (lx_S T n 0)) (zN T n 4 (lx_S T n 0) false) 1 3) (c5 : ¬ lx_s T n (pN T n 5 (lx_S T n 0)) 59) : bX T n 1 (pN T n 5 (lx_S T n 0)) := ⟨by decide, by decide, fun d Q w hT h1 hV q => st_b5 c c3 c4 hT h1 hV (fun y => absurd y c5) (fun _ => q)⟩
end HBL
