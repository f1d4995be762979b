section HKJ
variable {d : Nat} {w : hb_W} {Q : Option hb_V → hb_W → Prop} {T : Nat → Nat} {n p g1 tk st L R co : Nat} {z : Bool} {rows : List rO} {mix : Option (List Nat × Nat)} {K : List Nat}
theorem ok_readHoods (hg : g1 < 2) (hst : ¬ st = 40) (hW : lx_W T n p z wd_hoods) (h : cSt w T n g1 tk p z st L R rows mix co K) (q1 : ∀ D p1 z1 w2, hC7 T n p z rows.length D p1 z1 → lx_W T n p1 z1 wd_gate → lx_no T n (lx_n T n p1) (lx_z T n p1) 0 1 → cSt w2 T n g1 0 (pN T n 2 p1) (zN T n 2 p1 z1) st L R (rows ++ [(hRow T n p p1 D, K.length)]) mix co (K ++ D) → hw_ag (aM g1) w w2 → w2.2.2.1 = w.2.2.1 → Q (some (hb_i 1)) w2) (q0 : ∀ k pl w2, oX T n p z st L R rows mix co K k pl → rX w2 k pl → hw_ag (aM g1) w w2 → w2.2.2.1 = w.2.2.1 → Q (some (hb_i 0)) w2) : hb_O yX2_readHoods cX2_readHoods 3 (some .boolean) (d + 31) [hb_r 4 0 0, hb_r 11 g1 0] w Q := by
  have hgc : g1 < hb_ct 11 := hg
  have g2c : g1 + 1 < hb_ct 2 := (show g1 + 1 < 3 by omega)
  refine ok_hoodsA hg hst hW h (fun C3 c5 c6 w1 M1 A1 r1 => bk_X2_readHoods_149 hgc ⟨fun _ => ?_, fun y => absurd y (by decide)⟩) q0
  have hr2 := M1.2.2.1
  have hfr1 : hb_fR w1 4 1 0 = g1 + 1 := M1.1.2.1
  have kk : (nI rows.length).toNatClampNeg = rows.length := nI_clamp (by omega)
  have v20 : vp_in (nI rows.length) 20 := vp_in_nI (by omega) (by decide)
  have p11 : aM g1 11 g1 := Or.inr (Or.inr (Or.inr ⟨rfl, rfl⟩))
  have p4 : aM g1 4 0 := Or.inr (Or.inl rfl)
  have hsz1 : hb_fI w1 2 1 (g1 + 1) = nI K.length := M1.1.2.2.2.2
  rw [hfr1, hsz1, kk]
  refine ⟨g2c, v20, ?_⟩
  have b4 : hw_ag (fun t _ => t = 4) w1 (hb_pI w1 4 2 0 0) := hw_ag.rf.pI rfl
  have M1' : cMd (hb_pI w1 4 2 0 0) T n g1 0 (pN T n 7 p) (zN T n 7 p z) st L R rows mix co K [(3, vN T n 5 p), (2, vN T n 3 p), (1, vN T n 1 p)] := ⟨⟨M1.1.1.ag b4 (by decide) (by decide), M1.1.2.1, rfl, M1.1.2.2.2.1, M1.1.2.2.2.2⟩, M1.2.1.ag b4 (show ¬ (11 : Nat) = 4 by decide), hr2, M1.2.2.2.1, M1.2.2.2.2.1, M1.2.2.2.2.2.ag b4 (show ¬ (11 : Nat) = 4 by decide)⟩
  have M2 := M1'.put (j := 5) (v := K.length) (by simp)
  have A2 : hw_ag (aM g1) w (hb_sI (hb_pI w1 4 2 0 0) 11 5 g1 (upd (hb_aI w1 11 5 g1) rows.length (nI K.length))) := (A1.pI p4).sI p11
  refine ct_sum (tk := 0) (by decide) 6 d _ _ (g1 + 1) _ _ K 11 0 rfl (by omega) M2.1 M2.2.2.2.1 (fun D p1 z1 w3 l1 l2 l3 l4 => bk_X2_readHoods_177 hgc ⟨fun y => absurd y (by decide), fun _ => ?_⟩) (fun kf pl w3 l1 l2 => bk_X2_readHoods_177 hgc ⟨fun _ => q0 kf pl w3 (oX_h7 hst C3 c5 c6 l2.2.2.2.2.1 l2.2.2.2.2.2 l1) l2.1 (A2.tr (aMG l2.2.2.1)) (l2.2.2.2.1.trans r1), fun y => absurd rfl y⟩)
  obtain ⟨s1, s2, s3, s4, s5, s6⟩ := l4
  have n11 : ¬ aG (g1 + 1) 11 g1 := by unfold aG; omega
  have C7 : hC7 T n p z rows.length D p1 z1 := ⟨C3, c5, c6, l1, l2⟩
  have M3 : cMd w3 T n g1 0 p1 z1 st L R rows mix co (K ++ D) [(5, K.length), (3, vN T n 5 p), (2, vN T n 3 p), (1, vN T n 1 p)] := ⟨s2, M2.2.1.ag s4 n11, hr2, s3, M2.2.2.2.2.1.app, M2.2.2.2.2.2.ag s4 n11⟩
  have A3 := A2.tr (aMG s4)
  have r3 : w3.2.2.1 = w.2.2.1 := s5.trans r1
  refine ok_wordM (wd := wd_gate) (wdo ⟨10, by decide⟩) (by decide) M3 (fun c8 w4 M4 d2 d3 => bk_X2_readHoods_189 hgc ⟨fun _ => ?_, fun y => absurd y (by decide)⟩) (fun c8 w4 d1 d2 d3 => bk_X2_readHoods_189 hgc ⟨fun y => absurd rfl y, fun _ => q0 1 p1 w4 (oX_h8 hst C7 c8) d1 (A3.tr d2) (d3.trans r3)⟩)
  have hfr4 : hb_fR w4 4 1 0 = g1 + 1 := M4.1.2.1
  have hsz4 : hb_fI w4 2 1 (g1 + 1) = nI (K ++ D).length := M4.1.2.2.2.2
  rw [hfr4, hsz4, kk]
  refine ⟨g2c, v20, ?_⟩
  have M5 := M4.put (j := 6) (v := (K ++ D).length) (by simp)
  have A5 : hw_ag (aM g1) w (hb_sI w4 11 6 g1 (upd (hb_aI w4 11 6 g1) rows.length (nI (K ++ D).length))) := (A3.tr d2).sI p11
  have r5 := d3.trans r3
  have at_ : ∀ (w' : hb_W) (v : Int32), hb_aI (hb_sI w' 11 4 g1 (upd (hb_aI w' 11 4 g1) rows.length v)) 11 4 g1 rows.length = v := fun w' v => by rw [sI_s]; exact pk_us
  refine ok_numM (lo := 0) (hi := 1) (by decide) (by decide) M5 (fun c9 w6 M6 e2 e3 => bk_X2_readHoods_221 hgc hgc ⟨v20, v20, ?_⟩) (fun c9 w6 e1 e2 e3 => bk_X2_readHoods_221 hgc hgc ⟨v20, v20, ?_⟩)
  · rw [kk, at_]
    refine ⟨fun y => absurd y (hx_ne (by have := c9.2.2.2.2; omega)), fun _ => ?_⟩
    have h4 : hb_fI w6 11 4 g1 + 1 = nI (rows.length + 1) := by rw [M6.2.1.2.2.2.2.1, nI_1]
    rw [h4]
    have M7 := M6.put (j := 4) (v := vN T n 1 p1) (by simp)
    have hc := M7.2.2.2.2.2
    have hrow : cNr (hb_sI w6 11 4 g1 (upd (hb_aI w6 11 4 g1) rows.length (nI (vN T n 1 p1)))) g1 rows.length (hRow T n p p1 D, K.length) := ⟨hc (1, vN T n 1 p) (by simp), hc (2, vN T n 3 p) (by simp), hc (3, vN T n 5 p) (by simp), hc (4, vN T n 1 p1) (by simp), hc (5, K.length) (by simp), by have := hc (6, (K ++ D).length) (by simp); rw [List.length_append] at this; exact this⟩
    have b7 : hw_ag (fun t g => t = 11 ∧ g = g1) (hb_sI w6 11 4 g1 (upd (hb_aI w6 11 4 g1) rows.length (nI (vN T n 1 p1)))) (hb_pI (hb_sI w6 11 4 g1 (upd (hb_aI w6 11 4 g1) rows.length (nI (vN T n 1 p1)))) 11 4 g1 (nI (rows.length + 1))) := hw_ag.rf.pI ⟨rfl, rfl⟩
    refine q1 D p1 z1 _ C7 c8 c9 ⟨⟨M7.1.1.ag b7 (by omega) (by omega), M7.1.2.1, M7.1.2.2.1, M7.1.2.2.2.1, M7.1.2.2.2.2⟩, M7.2.1.more hrow rfl, by rw [List.length_append, List.length_singleton]; omega, M7.2.2.2.1, ⟨fun x hx => ?_, M7.2.2.2.2.1.2.1, M7.2.2.2.2.1.2.2⟩⟩ (((A5.tr e2).sI p11).pI p11) (e3.trans r5)
    rcases List.mem_append.mp hx with u | u
    · exact M7.2.2.2.2.1.1 x u
    · rw [List.mem_singleton.mp u]
      have y1 := C3.2.2.1.2.2.2
      have y3 := C3.2.2.2.2.1.2.2.2.2
      have y5 := c5.2.2.2.2
      have y9 := c9.2.2.2.2
      refine ⟨⟨y1.1, y1.2, ?_, ?_, ?_, okc.give s6 (l3.le (by decide))⟩, seg_new⟩
      · show vN T n 3 p < 64
        unfold vN; omega
      · show vN T n 5 p < 64
        unfold vN; omega
      · show vN T n 1 p1 < 2
        show lx_v T (lx_n T n p1) (lx_E T n (lx_n T n p1) - lx_n T n p1) < 2
        omega
  · rw [kk, at_]
    exact ⟨fun _ => q0 _ _ _ (oX_h9 hst C7 c8 c9) e1 (((A5.tr e2).sI p11).pI p11) (e3.trans r5), fun y => absurd rfl y⟩
end HKJ
