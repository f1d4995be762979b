/-! ===== the model's pile: puts, joins ===== -/
def stkL (f : Nat → Int64) : List Int → Prop
  | [] => True
  | v :: s => f s.length = jL v ∧ stkL f s
theorem stkL_upd {f : Nat → Int64} {x : Int64} : ∀ {s : List Int} {n : Nat}, stkL f s → s.length ≤ n → stkL (vp_updL f n x) s
  | [], _, _, _ => trivial
  | v :: s, n, h, hn => by
    simp only [List.length_cons] at hn
    refine ⟨?_, stkL_upd h.2 (by omega)⟩
    unfold vp_updL
    rw [if_neg (by omega)]
    exact h.1
theorem stkL_push {f : Nat → Int64} {v : Int} {s : List Int} (h : stkL f s) : stkL (vp_updL f s.length (jL v)) (v :: s) := ⟨by unfold vp_updL; rw [if_pos rfl], stkL_upd h (Nat.le_refl _)⟩
theorem jL_div {a b : Int} (ha : -1000000000000 ≤ a ∧ a ≤ 1000000000000) (hb : -1000000000000 ≤ b ∧ b ≤ 1000000000000) : jL a / jL b = jL (a.tdiv b) := Int64.toInt_inj.mp (by
  have e : (a.tdiv b).natAbs = a.natAbs / b.natAbs := Int.natAbs_tdiv a b
  have e2 : a.natAbs / b.natAbs ≤ a.natAbs := Nat.div_le_self _ _
  rw [Int64.toInt_div, jL_t (by omega), jL_t (by omega), jL_t (by omega)]
  exact Int.bmod_eq_of_le (by omega) (by omega))
theorem jL_rem {a b : Int} (ha : jB a) (hb : jB b) : jL a - jL a / jL b * jL b = jL (a - a.tdiv b * b) := by
  have h1 := ha.1; have h2 := ha.2; have h3 := hb.1; have h4 := hb.2
  rw [jL_div (by omega) (by omega), jL_mul (jB_tdiv ha) hb, jL_sub ha (jB_tdm ha)]
section HME
variable {d : Nat} {w : hb_W} {Q : Option hb_V → hb_W → Prop}
theorem om_qPuts {s : List Int} {v : Int} (hn : hb_fI w 12 86 0 = nI s.length) (hl : s.length < 1700) (hs : stkL (hb_aL w 12 56 0) s) (q : ∀ w2, hm_ag [86] [56] w w2 → stkL (hb_aL w2 12 56 0) (v :: s) → hb_fI w2 12 86 0 = nI (s.length + 1) → Q none w2) : hb_O yX12_qPuts cX12_qPuts 3 none d [hb_r 12 0 0, hb_l (jL v)] w Q := by
  refine bk_X12_qPuts_0 ?_
  rw [hn, nI_clamp (by omega), nI_1]
  exact ⟨vp_in_nI hl (by decide), q _ ((hm_ag.rf.sL (by decide)).pI (by decide)) (stkL_push hs) rfl⟩
theorem om_qClip {v : Int} (hv : -1000000000000 ≤ v ∧ v ≤ 1000000000000) (q : Q (some (hb_l (jL (ev_cl v)))) w) : hb_O yX12_qClip cX12_qClip 2 (some .long) d [hb_l (jL v)] w Q := by
  have e1 : (1000000 : Int64) = jL 1000000 := by decide
  have e2 : (-1000000 : Int64) = jL (-1000000) := by decide
  unfold ev_cl at q
  refine bk_X12_qClip_0 ?_
  rw [lg_cmp_le, lg_cmp_ge, e2, e1, jL_le (by omega) (by omega), jL_le (by omega) (by omega)]
  refine ⟨fun c => ⟨fun c2 => ?_, fun c2 => ?_⟩, fun c => ?_⟩
  · rw [if_neg (by omega), if_neg (by omega)] at q
    exact q
  · rw [if_neg (by omega), if_pos (by omega)] at q
    exact q
  · rw [if_pos (by omega)] at q
    exact q
theorem om_qFloor {a b : Int} (ha : jB a) (hb : jB b) (q : Q (some (hb_l (jL (ev_div a b)))) w) : hb_O yX12_qFloor cX12_qFloor 6 (some .long) d [hb_l (jL a), hb_l (jL b)] w Q := by
  have h1 := ha.1; have h2 := ha.2; have h3 := hb.1; have h4 := hb.2
  have e0 : (0 : Int64) = jL 0 := by decide
  have e1 : (1 : Int64) = jL 1 := by decide
  have hd := jB_tdiv (b := b) ha
  have hdm := jB_tdm (b := b) ha
  have d1 := hdm.1; have d2 := hdm.2
  unfold ev_div at q
  refine bk_X12_qFloor_0 ?_
  rw [lg_cmp_eq, lg_cmp_eq, lg_cmp_ge, lg_cmp_ge, jL_rem ha hb, jL_div (by omega) (by omega), e0, e1, jL_eq (by omega) (by omega), jL_eq (by omega) (by omega), jL_le (by omega) (by omega), jL_le (by omega) (by omega), jL_sub hd jB1]
  have pq : (a < 0 ↔ b < 0) ∨ a.tdiv b * b = a → ¬ b = 0 → Q (some (hb_l (jL (a.tdiv b)))) w := fun z z2 => by
    rw [if_neg z2, if_pos z] at q
    exact q
  have mq : ¬ ((a < 0 ↔ b < 0) ∨ a.tdiv b * b = a) → ¬ b = 0 → Q (some (hb_l (jL (a.tdiv b - 1)))) w := fun z z2 => by
    rw [if_neg z2, if_neg z] at q
    exact q
  refine ⟨fun c => ⟨c, c, fun c2 => pq (Or.inr (by omega)) c, fun c2 => ⟨fun c3 => ⟨fun c4 => ⟨fun _ => pq (Or.inl (by omega)) c, fun z => absurd rfl z⟩, fun c4 => ⟨fun z => absurd z (by decide), fun _ => mq (fun z => by omega) c⟩⟩, fun c3 => ⟨fun c4 => ⟨fun z => absurd z (by decide), fun _ => mq (fun z => by omega) c⟩, fun c4 => ⟨fun _ => pq (Or.inl (by omega)) c, fun z => absurd rfl z⟩⟩⟩⟩, fun c => ?_⟩
  rw [if_pos c] at q
  exact q
set_option maxHeartbeats 1000000 in
theorem om_qJoins {c : Nat} {a b : Int} {s : List Int} (h1 : 1 ≤ c) (h2 : c ≤ 11) (ha : jB a) (hb : jB b) (hty : 10 ≤ c → (a = 0 ∨ a = 1) ∧ (b = 0 ∨ b = 1)) (hn : hb_fI w 12 86 0 = nI (s.length + 2)) (hl : s.length + 2 ≤ 1700) (hs : stkL (hb_aL w 12 56 0) (b :: a :: s)) (q : ∀ w2, hm_ag [86] [56] w w2 → stkL (hb_aL w2 12 56 0) (ev_op c a b :: s) → hb_fI w2 12 86 0 = nI (s.length + 1) → Q none w2) : hb_O yX12_qJoins cX12_qJoins 6 none (d + 1) [hb_r 12 0 0, hb_i (nI c)] w Q := by
  have ha1 := ha.1; have ha2 := ha.2; have hb1 := hb.1; have hb2 := hb.2
  have hm := jB_mul ha hb
  have es1 : nI (s.length + 2) - 1 = nI (s.length + 1) := nI_pred (s.length + 1)
  have es2 : nI (s.length + 2) - 2 = nI s.length := by rw [show (2 : Int32) = nI 2 from rfl, pk_sub (by omega)]; rfl
  have eb : hb_aL w 12 56 0 (s.length + 1) = jL b := hs.1
  have ea : hb_aL w 12 56 0 s.length = jL a := hs.2.1
  have ek : ∀ k : Nat, k < 100 → (nI c = nI k → c = k) := fun k hk z => (nI_eq (by omega) (by omega)).mp z
  have e0 : (0 : Int64) = jL 0 := by decide
  have e1 : (1 : Int64) = jL 1 := by decide
  -- what each road ends in
  have fin : ∀ (v : Int) {QQ : Option hb_V → hb_W → Prop}, v = ev_op c a b → (∀ w2, Q none w2 → QQ none w2) → hb_O yX12_qPuts cX12_qPuts 3 none d [hb_r 12 0 0, hb_l (jL v)] (hb_pI w 12 86 0 (nI s.length)) QQ := fun v {QQ} hv hq => by
    refine om_qPuts (w := hb_pI w 12 86 0 (nI s.length)) rfl (by omega) hs.2.2 (fun w2 g1 g2 g3 => ?_)
    refine hq w2 (q w2 ((hm_ag.rf.pI (by decide)).tr g1) ?_ g3)
    rw [← hv]
    exact g2
  refine bk_X12_qJoins_0 ?_
  rw [hn, es1, es2, nI_clamp (by omega), nI_clamp (by omega), eb, ea, e0, e1]
  refine ⟨vp_in_nI (by omega) (by decide), vp_in_nI (by omega) (by decide), fun e => ?_, fun e => ?_, fun e => ?_, fun e => ?_, fun e => ?_, fun e => ?_, fun e => ?_, fun e => ?_, fun e => ?_, fun e => ?_, fun n1 n2 n3 n4 n5 n6 n7 n8 n9 n10 => ?_⟩
  · have hk := ek 1 (by decide) e
    subst hk
    rw [jL_add ha hb]
    exact om_qClip (by omega) (bk_X12_qJoins_100 (fin (ev_cl (a + b)) (by unfold ev_op; rw [if_pos rfl]) (fun w2 z => bk_X12_qJoins_103 (bk_X12_qJoins_273 z))))
  · have hk := ek 2 (by decide) e
    subst hk
    rw [jL_sub ha hb]
    exact om_qClip (by omega) (bk_X12_qJoins_114 (fin (ev_cl (a - b)) (by unfold ev_op; rw [if_neg (by decide), if_pos rfl]) (fun w2 z => bk_X12_qJoins_117 (bk_X12_qJoins_273 z))))
  · have hk := ek 3 (by decide) e
    subst hk
    rw [jL_mul ha hb]
    exact om_qClip hm (bk_X12_qJoins_128 (fin (ev_cl (a * b)) (by unfold ev_op; rw [if_neg (by decide), if_neg (by decide), if_pos rfl]) (fun w2 z => bk_X12_qJoins_131 (bk_X12_qJoins_273 z))))
  · have hk := ek 4 (by decide) e
    subst hk
    exact om_qFloor ha hb (bk_X12_qJoins_141 (fin (ev_div a b) (by unfold ev_op; rw [if_neg (by decide), if_neg (by decide), if_neg (by decide), if_pos rfl]) (fun w2 z => bk_X12_qJoins_144 (bk_X12_qJoins_273 z))))
  · have hk := ek 5 (by decide) e
    subst hk
    rw [lg_cmp_ge, jL_le (by omega) (by omega)]
    have ev : ev_op 5 a b = if b < a then b else a := by unfold ev_op; rw [if_neg (by decide), if_neg (by decide), if_neg (by decide), if_neg (by decide), if_pos rfl]
    refine ⟨fun c => ?_, fun c => ?_⟩
    · refine bk_X12_qJoins_161 (fin b ?_ (fun w2 z => bk_X12_qJoins_164 (bk_X12_qJoins_273 z)))
      rw [ev]
      split <;> omega
    · refine bk_X12_qJoins_161 (fin a ?_ (fun w2 z => bk_X12_qJoins_164 (bk_X12_qJoins_273 z)))
      rw [ev, if_neg (by omega)]
  · have hk := ek 6 (by decide) e
    subst hk
    rw [lg_cmp_le, jL_le (by omega) (by omega)]
    have ev : ev_op 6 a b = if a < b then b else a := by unfold ev_op; rw [if_neg (by decide), if_neg (by decide), if_neg (by decide), if_neg (by decide), if_neg (by decide), if_pos rfl]
    refine ⟨fun c => ?_, fun c => ?_⟩
    · refine bk_X12_qJoins_181 (fin b ?_ (fun w2 z => bk_X12_qJoins_184 (bk_X12_qJoins_273 z)))
      rw [ev]
      split <;> omega
    · refine bk_X12_qJoins_181 (fin a ?_ (fun w2 z => bk_X12_qJoins_184 (bk_X12_qJoins_273 z)))
      rw [ev, if_neg (by omega)]
  · have hk := ek 7 (by decide) e
    subst hk
    rw [lg_cmp_ge, jL_le (by omega) (by omega)]
    have ev : ev_op 7 a b = if a < b then 1 else 0 := by unfold ev_op; rw [if_neg (by decide), if_neg (by decide), if_neg (by decide), if_neg (by decide), if_neg (by decide), if_neg (by decide), if_pos rfl]
    refine ⟨fun c => ?_, fun c => ?_⟩
    · refine bk_X12_qJoins_200 (fin 0 ?_ (fun w2 z => bk_X12_qJoins_203 (bk_X12_qJoins_273 z)))
      rw [ev, if_neg (by omega)]
    · refine bk_X12_qJoins_200 (fin 1 ?_ (fun w2 z => bk_X12_qJoins_203 (bk_X12_qJoins_273 z)))
      rw [ev, if_pos (by omega)]
  · have hk := ek 8 (by decide) e
    subst hk
    rw [lg_cmp_le, jL_le (by omega) (by omega)]
    have ev : ev_op 8 a b = if b < a then 1 else 0 := by unfold ev_op; rw [if_neg (by decide), if_neg (by decide), if_neg (by decide), if_neg (by decide), if_neg (by decide), if_neg (by decide), if_neg (by decide), if_pos rfl]
    refine ⟨fun c => ?_, fun c => ?_⟩
    · refine bk_X12_qJoins_219 (fin 0 ?_ (fun w2 z => bk_X12_qJoins_222 (bk_X12_qJoins_273 z)))
      rw [ev, if_neg (by omega)]
    · refine bk_X12_qJoins_219 (fin 1 ?_ (fun w2 z => bk_X12_qJoins_222 (bk_X12_qJoins_273 z)))
      rw [ev, if_pos (by omega)]
  · have hk := ek 9 (by decide) e
    subst hk
    rw [lg_cmp_eq, jL_eq (by omega) (by omega)]
    have ev : ev_op 9 a b = if a = b then 1 else 0 := by unfold ev_op; rw [if_neg (by decide), if_neg (by decide), if_neg (by decide), if_neg (by decide), if_neg (by decide), if_neg (by decide), if_neg (by decide), if_neg (by decide), if_pos rfl]
    refine ⟨fun c => ?_, fun c => ?_⟩
    · refine bk_X12_qJoins_238 (fin 0 ?_ (fun w2 z => bk_X12_qJoins_241 (bk_X12_qJoins_273 z)))
      rw [ev, if_neg c]
    · refine bk_X12_qJoins_238 (fin 1 ?_ (fun w2 z => bk_X12_qJoins_241 (bk_X12_qJoins_273 z)))
      rw [ev, if_pos c]
  · have hk := ek 10 (by decide) e
    subst hk
    rw [jL_mul ha hb]
    refine fin (a * b) ?_ (fun w2 z => bk_X12_qJoins_252 (bk_X12_qJoins_273 z))
    have ev : ev_op 10 a b = if a = 0 then 0 else if b = 0 then 0 else 1 := by unfold ev_op; rw [if_neg (by decide), if_neg (by decide), if_neg (by decide), if_neg (by decide), if_neg (by decide), if_neg (by decide), if_neg (by decide), if_neg (by decide), if_neg (by decide), if_pos rfl]
    rw [ev]
    obtain ⟨ta, tb⟩ := hty (by decide)
    rcases ta with ta | ta <;> rcases tb with tb | tb <;> rw [ta, tb] <;> decide
  · have hk : c = 11 := by
      have g1 : c ≠ 1 := fun z => n1 (by rw [z]; rfl)
      have g2 : c ≠ 2 := fun z => n2 (by rw [z]; rfl)
      have g3 : c ≠ 3 := fun z => n3 (by rw [z]; rfl)
      have g4 : c ≠ 4 := fun z => n4 (by rw [z]; rfl)
      have g5 : c ≠ 5 := fun z => n5 (by rw [z]; rfl)
      have g6 : c ≠ 6 := fun z => n6 (by rw [z]; rfl)
      have g7 : c ≠ 7 := fun z => n7 (by rw [z]; rfl)
      have g8 : c ≠ 8 := fun z => n8 (by rw [z]; rfl)
      have g9 : c ≠ 9 := fun z => n9 (by rw [z]; rfl)
      have g10 : c ≠ 10 := fun z => n10 (by rw [z]; rfl)
      omega
    subst hk
    rw [lg_cmp_le, jL_add ha hb, jL_le (by omega) (by omega)]
    have ev : ev_op 11 a b = if a = 0 then (if b = 0 then 0 else 1) else 1 := by unfold ev_op; rw [if_neg (by decide), if_neg (by decide), if_neg (by decide), if_neg (by decide), if_neg (by decide), if_neg (by decide), if_neg (by decide), if_neg (by decide), if_neg (by decide), if_neg (by decide)]
    obtain ⟨ta, tb⟩ := hty (by decide)
    refine ⟨fun c => ?_, fun c => ?_⟩
    · refine bk_X12_qJoins_270 (fin 0 ?_ (fun w2 z => bk_X12_qJoins_273 z))
      rw [ev, if_pos (by omega), if_pos (by omega)]
    · refine bk_X12_qJoins_270 (fin 1 ?_ (fun w2 z => bk_X12_qJoins_273 z))
      rw [ev]
      rcases ta with ta | ta
      · rw [if_pos ta, if_neg (by omega)]
      · rw [if_neg (by omega)]
end HME
