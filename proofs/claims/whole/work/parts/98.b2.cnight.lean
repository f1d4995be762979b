/-! ===== the class's nights: the whole text ===== -/
theorem nI_ex (x : Int32) : ∃ n : Nat, x = nI n := ⟨x.toBitVec.toNat, Int32.toBitVec_inj.mp (by
  show x.toBitVec = BitVec.ofNat 32 x.toBitVec.toNat
  rw [BitVec.ofNat_toNat, BitVec.setWidth_eq])⟩
def cNight (w : hb_W) (g1 st L R : Nat) (rows : List wT) (mix : Option (List Nat)) (co : Nat) : Prop := hb_fI w 11 0 g1 = nI st ∧ hb_fI w 11 1 g1 = nI L ∧ hb_fI w 11 2 g1 = nI R ∧ hb_fI w 11 3 g1 = nI co ∧ hb_fI w 11 4 g1 = nI rows.length ∧ (∀ k x, rows[k]? = some x → cRow w g1 k x) ∧ cMx w g1 (sp_mxC mix)
section HKN
variable {d : Nat} {w : hb_W} {Q : Option hb_V → hb_W → Prop} {T : Nat → Nat} {n p g1 tk st L R co : Nat} {z : Bool} {rows : List rO} {mix : Option (List Nat × Nat)} {K : List Nat}
theorem aNM {w2 : hb_W} (h : hw_ag (aN g1) w w2) : hw_ag (aM g1) w w2 := h.wk (fun t g y => by unfold aN at y; unfold aM; omega)
theorem ok_plain (hg : g1 < 2) (hS : cS w T n tk (g1 + 1) p z K) (hl : K.length + 11 ≤ 1600) (q : ∀ w2, cS w2 T n tk (g1 + 1) p z (K ++ sp_plain) → hb_fI w2 11 13 g1 = nI K.length → hb_fI w2 11 14 g1 = nI (K.length + 11) → (∀ k, ¬ k = 13 → ¬ k = 14 → hb_fI w2 11 k g1 = hb_fI w 11 k g1) → (∀ j, hb_aI w2 11 j g1 = hb_aI w 11 j g1) → hw_ag (aM g1) w w2 → Q none w2) : hb_O yX6_putPlainMix cX6_putPlainMix 1 none (d + 1) [hb_r 11 g1 0] w Q := by
  have hgc : g1 < hb_ct 11 := hg
  have hg3 : g1 + 1 < 3 := by omega
  have p11 : aM g1 11 g1 := Or.inr (Or.inr (Or.inr ⟨rfl, rfl⟩))
  have ha : hw_ag (fun t g => t = 11 ∧ g = g1) w (hb_pI w 11 13 g1 (hb_fI w 2 1 (g1 + 1))) := hw_ag.rf.pI ⟨rfl, rfl⟩
  obtain ⟨s1, s2, s3, s4, s5⟩ := hS
  have S0 : cS (hb_pI w 11 13 g1 (hb_fI w 2 1 (g1 + 1))) T n tk (g1 + 1) p z K := ⟨s1.ag ha (by omega) (by omega), s2, s3, s4, s5⟩
  refine bk_X6_putPlainMix_0 hgc (ok_put2 (c := 40) rfl hg3 S0 (by omega) (fun v1 S1 a1 _ => bk_X6_putPlainMix_19 hgc ?_))
  refine ok_put2 (c := 1619) rfl hg3 S1 (by simp only [List.length_append, List.length_cons, List.length_nil]; omega) (fun v2 S2 a2 _ => bk_X6_putPlainMix_29 hgc ?_)
  refine ok_put2 (c := 3) rfl hg3 S2 (by simp only [List.length_append, List.length_cons, List.length_nil]; omega) (fun v3 S3 a3 _ => bk_X6_putPlainMix_38 hgc ?_)
  refine ok_put2 (c := 42) rfl hg3 S3 (by simp only [List.length_append, List.length_cons, List.length_nil]; omega) (fun v4 S4 a4 _ => bk_X6_putPlainMix_47 hgc ?_)
  refine ok_put2 (c := 1211) rfl hg3 S4 (by simp only [List.length_append, List.length_cons, List.length_nil]; omega) (fun v5 S5 a5 _ => bk_X6_putPlainMix_57 hgc ?_)
  refine ok_put2 (c := 3) rfl hg3 S5 (by simp only [List.length_append, List.length_cons, List.length_nil]; omega) (fun v6 S6 a6 _ => bk_X6_putPlainMix_66 hgc ?_)
  refine ok_put2 (c := 1) rfl hg3 S6 (by simp only [List.length_append, List.length_cons, List.length_nil]; omega) (fun v7 S7 a7 _ => bk_X6_putPlainMix_75 hgc ?_)
  refine ok_put2 (c := 43) rfl hg3 S7 (by simp only [List.length_append, List.length_cons, List.length_nil]; omega) (fun v8 S8 a8 _ => bk_X6_putPlainMix_84 hgc ?_)
  refine ok_put2 (c := 1097) rfl hg3 S8 (by simp only [List.length_append, List.length_cons, List.length_nil]; omega) (fun v9 S9 a9 _ => bk_X6_putPlainMix_93 hgc ?_)
  refine ok_put2 (c := 3) rfl hg3 S9 (by simp only [List.length_append, List.length_cons, List.length_nil]; omega) (fun v10 S10 a10 _ => bk_X6_putPlainMix_102 hgc ?_)
  refine ok_put2 (c := 1) rfl hg3 S10 (by simp only [List.length_append, List.length_cons, List.length_nil]; omega) (fun v11 S11 a11 _ => bk_X6_putPlainMix_111 hgc ?_)
  have A : hw_ag (aG (g1 + 1)) (hb_pI w 11 13 g1 (hb_fI w 2 1 (g1 + 1))) v11 := (((((((((a1.tr a2).tr a3).tr a4).tr a5).tr a6).tr a7).tr a8).tr a9).tr a10).tr a11
  have n11 : ¬ aG (g1 + 1) 11 g1 := by unfold aG; omega
  have eK : (((((((((((K ++ [40]) ++ [1619]) ++ [3]) ++ [42]) ++ [1211]) ++ [3]) ++ [1]) ++ [43]) ++ [1097]) ++ [3]) ++ [1]) = K ++ sp_plain := by simp [sp_plain]
  rw [eK] at S11
  have hb : hw_ag (fun t g => t = 11 ∧ g = g1) v11 (hb_pI v11 11 14 g1 (hb_fI v11 2 1 (g1 + 1))) := hw_ag.rf.pI ⟨rfl, rfl⟩
  have hlen : (K ++ sp_plain).length = K.length + 11 := by rw [List.length_append]; rfl
  obtain ⟨t1, t2, t3, t4, t5⟩ := S11
  refine q _ ⟨t1.ag hb (by omega) (by omega), t2, t3, t4, t5⟩ ?_ ?_ (fun k k1 k2 => ?_) (fun j => ?_) ?_
  · rw [pI_n _ _ _ _ _ (by decide), A.1 11 13 g1 n11, pI_s]; exact s5
  · rw [pI_s, t5, hlen]
  · rw [pI_n _ _ _ _ _ k2, A.1 11 k g1 n11, pI_n _ _ _ _ _ k1]
  · exact A.2.2.2.1 11 j g1 n11
  · exact ((hw_ag.rf.pI p11).tr (aMG A)).pI p11
theorem cSt.next (h : cSt w T n g1 tk p z st L R rows mix co K) : cSt (hb_pI w 11 0 g1 (nI (st + 1))) T n g1 tk p z (st + 1) L R rows mix co K := by
  have ha : hw_ag (fun t g => t = 11 ∧ g = g1) w (hb_pI w 11 0 g1 (nI (st + 1))) := hw_ag.rf.pI ⟨rfl, rfl⟩
  obtain ⟨⟨s1, s2, s3, s4, s5⟩, ⟨h0, h1, h2, h3, h4, h5, h6⟩, hr, hl, hok⟩ := h
  refine ⟨⟨s1.ag ha (by omega) (by omega), s2, s3, s4, s5⟩, ⟨pI_s _ _ _ _ _, (pI_n _ _ _ _ _ (by decide)).trans h1, (pI_n _ _ _ _ _ (by decide)).trans h2, (pI_n _ _ _ _ _ (by decide)).trans h3, (pI_n _ _ _ _ _ (by decide)).trans h4, h5, ?_⟩, hr, hl, hok⟩
  unfold cNx at h6 ⊢
  cases mix with
  | none => exact (pI_n _ _ _ _ _ (by decide)).trans h6
  | some m => exact ⟨(pI_n _ _ _ _ _ (by decide)).trans h6.1, (pI_n _ _ _ _ _ (by decide)).trans h6.2.1, (pI_n _ _ _ _ _ (by decide)).trans h6.2.2⟩
theorem cC_seg {a m : Nat} {C K2 : List Nat} (hs : seg K a C) (hc : ∀ k c, K2[k]? = some c → hb_aI w 2 1 (g1 + 1) k = cO c) (hsz : hb_fI w 2 1 (g1 + 1) = nI m) (hm : K.length ≤ m) (hm2 : m ≤ 1600) (hK : ∀ k c : Nat, K[k]? = some c → K2[k]? = some c) : cC w (g1 + 1) a C := ⟨fun k c hk => hc _ _ (hK _ _ (hs.2 k c hk)), m, by have := hs.1; omega, hsz, hm2⟩
/-- the night that stands at the end of the text -/
theorem cSt.night {w2 : hb_W} {K2 : List Nat} {m : Nat} (h : cNn w g1 st L R rows mix co) (hok : okN rows mix co K) (hc : ∀ k c, K2[k]? = some c → hb_aI w2 2 1 (g1 + 1) k = cO c) (hsz : hb_fI w2 2 1 (g1 + 1) = nI m) (hm : K.length ≤ m) (hm2 : m ≤ 1600) (hK : ∀ k c : Nat, K[k]? = some c → K2[k]? = some c) (hf : ∀ k, ¬ k = 13 → ¬ k = 14 → hb_fI w2 11 k g1 = hb_fI w 11 k g1) (hj : ∀ j, hb_aI w2 11 j g1 = hb_aI w 11 j g1) (hx : cMx w2 g1 (sp_mxC (mix.map (fun m => m.1)))) : cNight w2 g1 st L R (rows.map (fun x => x.1)) (mix.map (fun m => m.1)) co := by
  obtain ⟨h0, h1, h2, h3, h4, h5, h6⟩ := h
  refine ⟨(hf 0 (by decide) (by decide)).trans h0, (hf 1 (by decide) (by decide)).trans h1, (hf 2 (by decide) (by decide)).trans h2, (hf 3 (by decide) (by decide)).trans h3, by rw [List.length_map]; exact (hf 4 (by decide) (by decide)).trans h4, fun k x hk => ?_, hx⟩
  rw [List.getElem?_map] at hk
  cases hr : rows[k]? with
  | none => rw [hr] at hk; cases hk
  | some y =>
    rw [hr] at hk
    cases hk
    obtain ⟨r1, r2, r3, r4, r5, r6⟩ := h5 k y hr
    refine ⟨by rw [hj]; exact r1, by rw [hj]; exact r2, by rw [hj]; exact r3, by rw [hj]; exact r4, y.2, by rw [hj]; exact r5, by rw [hj]; exact r6, cC_seg (hok.1 y (gl_mem hr)).2 hc hsz hm hm2 hK⟩
theorem ok_readNight (hg : g1 < 2) (h : cTx w T n) (q1 : ∀ st L R rows mix co K p w2, 1 ≤ L → L ≤ 9 → 1 ≤ R → R ≤ 3 → bO T n p false st L R rows mix co K → ¬ p < n → rows.length ≤ 20 → okN rows mix co K → rF w2 → cNight w2 g1 st L R (rows.map (fun x => x.1)) (mix.map (fun m => m.1)) co → hw_ag (aM g1) w w2 → Q (some (hb_i 1)) w2) (q0 : ∀ k pl w2, bX T n k pl → rX w2 k pl → hw_ag (aM g1) w w2 → Q (some (hb_i 0)) w2) : hb_O yX2_readNight cX2_readNight 3 (some .boolean) (d + 33) [hb_r 4 0 0, hb_r 11 g1 0] w Q := by
  have hgc : g1 < hb_ct 11 := hg
  have p11 : aM g1 11 g1 := Or.inr (Or.inr (Or.inr ⟨rfl, rfl⟩))
  have p2 : aM g1 2 (g1 + 1) := Or.inr (Or.inr (Or.inl ⟨rfl, rfl⟩))
  have p4 : aM g1 4 0 := Or.inr (Or.inl rfl)
  have n1 : ¬ aM g1 1 0 := by unfold aM; omega
  obtain ⟨tk0, htk0⟩ := nI_ex (hb_fI w 4 2 0)
  have hn := h.2.1
  -- the end of the text
  have fin : ∀ (w' : hb_W) (tk st L R p : Nat) (rows : List rO) (mix : Option (List Nat × Nat)) (co : Nat) (K : List Nat) (x : Int32), 1 ≤ L → L ≤ 9 → 1 ≤ R → R ≤ 3 → bO T n p false st L R rows mix co K → cSt w' T n g1 tk p false st L R rows mix co K → hw_ag (aM g1) w w' → ¬ p < n → ((¬ (hb_fI w' 11 12 g1) = 0) → hb_R yX2_readNight cX2_readNight 3 (some .boolean) (d + 33) 115 [some (hb_r 4 0 0), some (hb_r 11 g1 0), some (hb_i x)] [] w' Q) ∧ (((hb_fI w' 11 12 g1) = 0) → hb_O yX6_putPlainMix cX6_putPlainMix 1 none (d + 32) [hb_r 11 g1 0] w' (fun rv w1 => hb_R yX2_readNight cX2_readNight 3 (some .boolean) (d + 33) 115 [some (hb_r 4 0 0), some (hb_r 11 g1 0), some (hb_i x)] (rv.toList ++ []) w1 Q)) := by
    intro w' tk st L R p rows mix co K x hL0 hL hR0 hR hO hS hA hp
    obtain ⟨s1, s2, s3, s4, s5⟩ := hS
    have hple := s1.1.2.1.1
    have hx := s2.2.2.2.2.2.2
    refine ⟨fun y => bk_X2_readNight_115 hgc ?_, fun y => ?_⟩
    · cases mix with
      | none => exact absurd hx y
      | some m =>
        have hm := s5.2.1 m rfl
        refine q1 st L R rows (some m) co K p w' hL0 hL hR0 hR hO hp s3 s5 s1.1.2.2 ?_ hA
        refine cSt.night (K2 := K) (m := K.length) s2 s5 s1.2.2.2.1 s1.2.2.2.2 (Nat.le_refl _) (by omega) (fun _ _ e => e) (fun _ _ _ => rfl) (fun _ => rfl) ⟨hm.1, m.2, ?_, hx.2.1, hx.2.2⟩
        exact cC_seg hm.2 s1.2.2.2.1 s1.2.2.2.2 (Nat.le_refl _) (by omega) (fun _ _ e => e)
    · cases mix with
      | some m => exact absurd (hx.1.symm.trans y) (by decide)
      | none =>
        refine ok_plain hg s1 (by omega) (fun w2 t1 t2 t3 t4 t5 t6 => bk_X2_readNight_115 hgc ?_)
        have hlen : (K ++ sp_plain).length = K.length + 11 := by rw [List.length_append]; rfl
        have hsz : hb_fI w2 2 1 (g1 + 1) = nI (K.length + 11) := by rw [t1.2.2.2.2, hlen]
        have hKa : ∀ k c, K[k]? = some c → (K ++ sp_plain)[k]? = some c := fun k c e => by rw [List.getElem?_append_left (gl_lt e)]; exact e
        refine q1 st L R rows none co K p w2 hL0 hL hR0 hR hO hp s3 s5 t1.1.2.2 ?_ (hA.tr t6)
        refine cSt.night (K2 := K ++ sp_plain) (m := K.length + 11) s2 s5 t1.2.2.2.1 hsz (by omega) (by omega) hKa t4 t5 ⟨sp_plain_ok, K.length, ?_, t2, t3⟩
        exact cC_seg (K := K ++ sp_plain) seg_new t1.2.2.2.1 hsz (by omega) (by omega) (fun _ _ e => e)
  have loop : ∀ (m st : Nat), st + m = 40 → ∀ (w' : hb_W) (tk L R p : Nat) (rows : List rO) (mix : Option (List Nat × Nat)) (co : Nat) (K : List Nat), 1 ≤ L → L ≤ 9 → 1 ≤ R → R ≤ 3 → bO T n p false st L R rows mix co K → cSt w' T n g1 tk p false st L R rows mix co K → hw_ag (aM g1) w w' → hb_R yX2_readNight cX2_readNight 3 (some .boolean) (d + 33) 36 [some (hb_r 4 0 0), some (hb_r 11 g1 0), some (hb_i (nI st))] [] w' Q := by
    intro m
    induction m with
    | zero =>
      intro st hst w' tk L R p rows mix co K hL0 hL hR0 hR hO hS hA
      obtain rfl : st = 40 := by omega
      refine bk_X2_readNight_36 hgc ⟨fun _ => ⟨fun y => fin w' tk 40 L R p rows mix co K _ hL0 hL hR0 hR hO hS hA (hS.1.kind0.mp y), fun y => ?_⟩, fun y => absurd (nI_le (Nat.le_refl 40) (by decide)) y⟩
      rw [hS.1.kind0] at y
      rw [hS.1.1.2.1.2.2.2.2.1]
      exact ok_stopG (k := 5) hS.1.1.2.2 (fun w2 c1 c2 c3 => bk_X2_readNight_103 hgc ⟨Or.inl rfl, q0 5 p w2 (hO.bad (oX_40 (by omega))) c1 (hA.tr (aM3 c2))⟩)
    | succ m ih =>
      intro st hst w' tk L R p rows mix co K hL0 hL hR0 hR hO hS hA
      refine bk_X2_readNight_36 hgc ⟨fun y => absurd y (nI_ge (b := 40) (by omega) (by decide)), fun _ => ⟨fun y => ⟨fun _ => fin w' tk st L R p rows mix co K _ hL0 hL hR0 hR hO hS hA (hS.1.kind0.mp y), fun u => absurd y u⟩, fun y => ?_⟩⟩
      rw [hS.1.kind0] at y
      refine ok_readStatement hg (by omega) (by omega) hS (fun tk' p' rows' mix' co' K' w2 l1 l2 l3 l4 => bk_X2_readNight_57 hgc ⟨fun _ => ?_, fun u => absurd u (by decide)⟩) (fun k pl w2 l1 l2 l3 l4 => bk_X2_readNight_57 hgc ⟨fun u => absurd rfl u, fun _ => q0 k pl w2 (hO.bad l1) l2 (hA.tr l3)⟩)
      rw [l2.2.1.1, nI_1]
      exact ih (st + 1) (by omega) _ tk' L R p' rows' mix' co' K' hL0 hL hR0 hR (hO.step l1) l2.next ((hA.tr l3).pI p11)
  refine bk_X2_readNight_0 hgc (bk_X6_clear_0 hgc (bk_X2_readNight_4 hgc ?_))
  have a0 : hw_ag (aM g1) w (hb_pR (hb_pI (hb_pI (hb_pI (hb_pI (hb_pI (hb_pI (hb_pI (hb_pI (hb_pI w 11 0 g1 0) 11 1 g1 0) 11 2 g1 0) 11 3 g1 0) 11 4 g1 0) 2 1 (g1 + 1) 0) 11 12 g1 0) 11 13 g1 0) 11 14 g1 0) 4 1 0 (g1 + 1)) := (((((((((hw_ag.rf.pI p11).pI p11).pI p11).pI p11).pI p11).pI p2).pI p11).pI p11).pI p11).pR p4
  refine ok_start (h.ag a0 n1) (fun w2 b1 b2 b3 => bk_X2_readNight_19 hgc ?_)
  have A2 : hw_ag (aM g1) w w2 := a0.tr (aM3 b2)
  have f3 : hb_fI w2 11 3 g1 = 0 := by rw [b2.1 11 3 g1 (show ¬ (11 : Nat) = 3 by decide)]; simp [hb_fI, hb_pI, hb_pR, hb_u3]
  have f4 : hb_fI w2 11 4 g1 = 0 := by rw [b2.1 11 4 g1 (show ¬ (11 : Nat) = 3 by decide)]; simp [hb_fI, hb_pI, hb_pR, hb_u3]
  have f12 : hb_fI w2 11 12 g1 = 0 := by rw [b2.1 11 12 g1 (show ¬ (11 : Nat) = 3 by decide)]; simp [hb_fI, hb_pI, hb_pR, hb_u3]
  have fc : hb_fI w2 2 1 (g1 + 1) = 0 := by rw [b2.1 2 1 (g1 + 1) (show ¬ (2 : Nat) = 3 by decide)]; simp [hb_fI, hb_pI, hb_pR, hb_u3]
  have ft : hb_fI w2 4 2 0 = nI tk0 := by rw [b2.1 4 2 0 (show ¬ (4 : Nat) = 3 by decide)]; exact htk0
  have fr : hb_fR w2 4 1 0 = g1 + 1 := by unfold hb_fR; rw [b3]; rfl
  refine ok_readBook hg b1 (fun L R p' w3 hL0 hL hR0 hR e1 e2 e3 e4 e5 e6 e7 e8 => bk_X2_readNight_24 hgc ⟨fun _ => ?_, fun u => absurd u (by decide)⟩) (fun k pl w3 e1 e2 e3 e4 => bk_X2_readNight_24 hgc ⟨fun u => absurd rfl u, fun _ => q0 k pl w3 e1 e2 (A2.tr (aNM e3))⟩)
  have m4 : ¬ aN g1 4 0 := by unfold aN; omega
  have m2 : ¬ aN g1 2 (g1 + 1) := by unfold aN; omega
  have hb : hw_ag (fun t g => t = 11 ∧ g = g1) w3 (hb_pI w3 11 0 g1 1) := hw_ag.rf.pI ⟨rfl, rfl⟩
  have S3 : cS (hb_pI w3 11 0 g1 1) T n tk0 (g1 + 1) p' false [] := ⟨e3.n11 hb, by show hb_fR w3 4 1 0 = _; unfold hb_fR; rw [e8]; exact fr, by show hb_fI w3 4 2 0 = _; rw [e7.1 4 2 0 m4]; exact ft, fun k c hk => by simp at hk, by show hb_fI w3 2 1 (g1 + 1) = _; rw [e7.1 2 1 (g1 + 1) m2]; exact fc⟩
  refine loop 39 1 rfl (hb_pI w3 11 0 g1 1) tk0 L R p' [] none 0 [] hL0 hL hR0 hR e1 ⟨S3, ⟨pI_s _ _ _ _ _, (pI_n _ _ _ _ _ (by decide)).trans e4, (pI_n _ _ _ _ _ (by decide)).trans e5, (pI_n _ _ _ _ _ (by decide)).trans ((e6 3 (by decide) (by decide)).trans f3), (pI_n _ _ _ _ _ (by decide)).trans ((e6 4 (by decide) (by decide)).trans f4), fun k x hk => by simp at hk, (pI_n _ _ _ _ _ (by decide)).trans ((e6 12 (by decide) (by decide)).trans f12)⟩, Nat.zero_le _, by simpa using e2, ⟨fun x hx => (by cases hx), fun m hm => (by cases hm), by decide⟩⟩ ((A2.tr (aNM e7)).pI p11)
end HKN
