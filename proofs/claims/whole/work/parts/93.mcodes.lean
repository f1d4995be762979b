/-! ===== the model's nights: codes told ===== -/
abbrev kO : List Nat := [2, 4, 5, 6, 10, 22, 28, 29, 31, 80, 82, 83, 84]
abbrev jO : List Nat := [13, 14, 15, 16, 17, 54, 55]
/-- the codes of the night so far -/
def mK (w : hb_W) (K : List Nat) : Prop := hb_fI w 12 28 0 = nI K.length ∧ ∀ i c, K[i]? = some c → hb_aI w 12 17 0 i = nI c
theorem sI_s (w : hb_W) (t j g : Nat) (f : Nat → Int32) : hb_aI (hb_sI w t j g f) t j g = f := hb_u3_s w.2.2.2.1 t j g f
section HNC
variable {d : Nat} {Q : Option hb_V → hb_W → Prop} {w : hb_W} {T : Nat → Nat} {n p : Nat} {z : Bool} {K : List Nat}
theorem om_codesLoop {k : Nat} {D : List Nat} (hk : k < 21) {w2 : hb_W} (hQ : mQ w2 D) (hK : mK w2 K) (hl : K.length + D.length ≤ 1600) (q : ∀ w3, hm_ag [28] [15, 16, 17] w2 w3 → (∀ j, 1600 ≤ j → hb_aI w3 12 17 0 j = hb_aI w2 12 17 0 j) → mK w3 (K ++ D) → hb_aI w3 12 15 0 = hb_aI w2 12 15 0 → hb_aI w3 12 16 0 = upd (hb_aI w2 12 16 0) k (nI (K.length + D.length)) → Q none w3) : hb_R yX12_codesTold cX12_codesTold 3 none (d + 1) 59 [some (hb_r 12 0 0), some (hb_i (nI k)), some (hb_i (nI 0))] [] w2 Q := by
  have loop : ∀ (m i : Nat), i + m = D.length → ∀ w', hm_ag [28] [17] w2 w' → (∀ j, 1600 ≤ j → hb_aI w' 12 17 0 j = hb_aI w2 12 17 0 j) → hb_fI w' 12 28 0 = nI (K.length + i) → (∀ j c, (K ++ D)[j]? = some c → j < K.length + i → hb_aI w' 12 17 0 j = nI c) → hb_R yX12_codesTold cX12_codesTold 3 none (d + 1) 59 [some (hb_r 12 0 0), some (hb_i (nI k)), some (hb_i (nI i))] [] w' Q := by
    intro m
    induction m with
    | zero =>
      intro i hi w' ha hup h28 hc
      have h80 : hb_fI w' 12 80 0 = nI D.length := by rw [ha.I 80]; exact hQ.1
      refine bk_X12_codesTold_59 ?_
      rw [h80, h28, nI_clamp (by omega)]
      refine ⟨fun _ => ⟨vp_in_nI (by omega) (by decide), ?_⟩, fun y => absurd (nI_le (by omega) (by omega)) y⟩
      have hlen : (K ++ D).length = K.length + D.length := List.length_append
      refine q _ ((ha.wk (by decide) (by decide)).sI (by decide)) hup ⟨?_, fun j c hj => ?_⟩ (by show hb_aI w' 12 15 0 = _; exact ha.A 15) ?_
      · show hb_fI w' 12 28 0 = _
        rw [h28, hlen]
        congr 1
        omega
      · have hlt : j < (K ++ D).length := by
          rcases Nat.lt_or_ge j (K ++ D).length with u | u
          · exact u
          · rw [List.getElem?_eq_none u] at hj; cases hj
        show hb_aI w' 12 17 0 j = _
        exact hc j c hj (by omega)
      · rw [← ha.A 16, show K.length + D.length = K.length + i by omega]
        exact sI_s _ 12 16 0 _
    | succ m ih =>
      intro i hi w' ha hup h28 hc
      have h80 : hb_fI w' 12 80 0 = nI D.length := by rw [ha.I 80]; exact hQ.1
      refine bk_X12_codesTold_59 ?_
      rw [h80, h28, nI_leI (by omega) (by omega), nI_clamp (by omega), nI_1, nI_1]
      refine ⟨fun y => absurd y (by omega), fun _ => ⟨vp_in_nI (by omega) (by decide), vp_in_nI (by omega) (by decide), ?_⟩⟩
      have hDi : D[i]? = some D[i] := List.getElem?_eq_getElem (by omega)
      have e54 : hb_aI w' 12 54 0 i = nI D[i] := by rw [ha.A 54]; exact hQ.2.2 i _ hDi
      have e54' : hb_aI w' 12 54 0 (nI i).toNatClampNeg = nI D[i] := by rw [nI_clamp (by omega)]; exact e54
      have eK : (nI (K.length + i)).toNatClampNeg = K.length + i := nI_clamp (by omega)
      rw [e54', eK]
      refine ih (i + 1) (by omega) _ ((ha.sI (by decide)).pI (by decide)) (fun j hj => (congrFun (sI_s w' 12 17 0 (upd (hb_aI w' 12 17 0) (K.length + i) (nI D[i]))) j).trans ((pk_un (by omega)).trans (hup j hj))) (by rw [← Nat.add_assoc]; rfl) (fun j c hj hlt => ?_)
      have es := congrFun (sI_s w' 12 17 0 (upd (hb_aI w' 12 17 0) (K.length + i) (nI D[i]))) j
      refine Eq.trans es ?_
      by_cases e : j = K.length + i
      · subst e
        rw [pk_us]
        rw [List.getElem?_append_right (by omega), Nat.add_sub_cancel_left, hDi] at hj
        cases hj
        rfl
      · rw [pk_un e]
        exact hc j c hj (by omega)
  exact loop D.length 0 (by omega) w2 hm_ag.rf (fun _ _ => rfl) (by rw [hK.1]; rfl) (fun j c hj hlt => hK.2 j c (by rw [List.getElem?_append_left (by omega)] at hj; exact hj))
theorem nt_U {tk : Nat} (hD : mD w T n p z) (hV : mVoc w) : mU (hb_pI (hb_pI (hb_pI (hb_pI (hb_pI w 12 31 0 (nI tk)) 12 80 0 0) 12 82 0 0) 12 83 0 0) 12 84 0 0) T n tk 0 p z 0 [] [] := by
  have ha : hm_ag [31, 80, 82, 83, 84] [] w (hb_pI (hb_pI (hb_pI (hb_pI (hb_pI w 12 31 0 (nI tk)) 12 80 0 0) 12 82 0 0) 12 83 0 0) 12 84 0 0) := ((((hm_ag.rf.pI (by decide)).pI (by decide)).pI (by decide)).pI (by decide)).pI (by decide)
  exact ⟨hD.ag ha (by decide) (by decide) (by decide) (by decide) (by decide) (by decide), hV.ag ha (by decide), rfl, rfl, rfl, Nat.le_refl _, ⟨rfl, trivial, fun x hx => by cases hx⟩, rfl, fun k c hk => by simp at hk⟩
theorem om_codesTold {k tk p1 : Nat} {z1 : Bool} {D : List Nat} (hk : k < 21) (htk : tk = if k = 20 then 1 else 0) (hD : mD w T n p z) (hV : mVoc w) (hK : mK w K) (hl : K.length ≤ p) (hG : gS T n tk p z 0 D p1 z1) (hno : noOp T n p1) (q : ∀ w2, mD w2 T n p1 z1 → ho_ag kO jO w w2 → mK w2 (K ++ D) → (K ++ D).length ≤ p1 → hb_aI w2 12 15 0 = upd (hb_aI w 12 15 0) k (nI K.length) → hb_aI w2 12 16 0 = upd (hb_aI w 12 16 0) k (nI (K.length + D.length)) → hm_ag [2, 4, 5, 6, 10, 28, 31, 80, 82, 83, 84] [15, 16, 17, 54, 55] w w2 → Q none w2) : hb_O yX12_codesTold cX12_codesTold 3 none (d + 7) [hb_r 12 0 0, hb_i (nI k)] w Q := by
  have hU := nt_U (tk := tk) hD hV
  have main : hb_O yX12_qSums cX12_qSums 3 none (d + 6) [hb_r 12 0 0] (hb_pI (hb_pI (hb_pI (hb_pI (hb_pI w 12 31 0 (nI tk)) 12 80 0 0) 12 82 0 0) 12 83 0 0) 12 84 0 0) (fun rv w1 => hb_R yX12_codesTold cX12_codesTold 3 none (d + 7) 39 [some (hb_r 12 0 0), some (hb_i (nI k)), none] (rv.toList ++ []) w1 Q) := by
    have ha : hm_ag [31, 80, 82, 83, 84] [] w (hb_pI (hb_pI (hb_pI (hb_pI (hb_pI w 12 31 0 (nI tk)) 12 80 0 0) 12 82 0 0) 12 83 0 0) 12 84 0 0) := ((((hm_ag.rf.pI (by decide)).pI (by decide)).pI (by decide)).pI (by decide)).pI (by decide)
    refine om_qSums (x := 0) (W := []) (Cd := []) (s := K.length) hU hdT_nil.1.1 (by simpa using hl) hG hno (fun w2 l1 l2 l3 => ?_)
    rw [List.nil_append] at l2 l3
    have hn2 := l2.1.le
    simp only [List.length_nil] at l3
    have a2 : hm_ag [2, 4, 5, 6, 10, 31, 80, 82, 83, 84] [54, 55] w w2 := (ha.wk (by decide) (by decide)).tr (l1.wk (by decide) (by decide))
    refine bk_X12_codesTold_39 ⟨fun _ => ?_, fun y => absurd l2.1.2.2.1 y⟩
    rw [nI_clamp (by omega)]
    refine ⟨vp_in_nI (by omega) (by decide), ?_⟩
    have h28 : hb_fI w2 12 28 0 = nI K.length := by rw [a2.I 28]; exact hK.1
    rw [h28]
    have a3 : hm_ag [2, 4, 5, 6, 10, 28, 31, 80, 82, 83, 84] [15, 16, 17, 54, 55] w (hb_sI w2 12 15 0 (upd (hb_aI w2 12 15 0) k (nI K.length))) := (a2.wk (by decide) (by decide)).sI (by decide)
    have hlen : (K ++ D).length = K.length + D.length := List.length_append
    refine om_codesLoop (K := K) (D := D) hk (w2 := hb_sI w2 12 15 0 (upd (hb_aI w2 12 15 0) k (nI K.length))) ⟨l2.2.2.2.2.2.2.2.1, by omega, l2.2.2.2.2.2.2.2.2⟩ ⟨h28, fun i c hi => ?_⟩ (by omega) (fun w3 m1 mu m2 m3 m4 => ?_)
    · show hb_aI w2 12 17 0 i = _
      rw [a2.A 17]
      exact hK.2 i c hi
    · have hag : hm_ag [28] [15, 16, 17] w2 w3 := (hm_ag.rf.sI (by decide)).tr m1
      have a4 := a3.tr (m1.wk (K2 := [2, 4, 5, 6, 10, 28, 31, 80, 82, 83, 84]) (J2 := [15, 16, 17, 54, 55]) (by decide) (by decide))
      have e15 : hb_aI w3 12 15 0 = upd (hb_aI w 12 15 0) k (nI K.length) := by
        rw [m3]
        rw [← a2.A 15]
        exact sI_s _ 12 15 0 _
      have e16 : hb_aI w3 12 16 0 = upd (hb_aI w 12 16 0) k (nI (K.length + D.length)) := by
        rw [m4]
        show upd (hb_aI w2 12 16 0) k _ = _
        rw [a2.A 16]
      have hup : up_ag w w3 := ⟨congrFun (a4.A 13) 2, congrFun (a4.A 13) 3, fun j _ => congrFun (a4.A 14) j, fun j hj => by rw [e15]; exact pk_un (by omega), fun j hj => by rw [e16]; exact pk_un (by omega), fun j hj => (mu j hj).trans (congrFun (a2.A 17) j)⟩
      exact q w3 (l2.1.ag hag (by decide) (by decide) (by decide) (by decide) (by decide) (by decide)) ⟨a4.wk (by decide) (by decide), hup⟩ m2 (by omega) e15 e16 a4
  refine bk_X12_codesTold_0 ⟨fun y => ?_, fun y => ?_⟩
  · have : ¬ k = 20 := fun e => y (by rw [e]; rfl)
    rw [if_neg this] at htk
    rw [htk] at main
    exact main
  · rw [show (20 : Int32) = nI 20 from rfl, nI_eq (by omega) (by decide)] at y
    rw [if_pos y] at htk
    rw [htk] at main
    exact main
theorem om_codesToldX {k tk kf pl : Nat} (hk : k < 21) (htk : tk = if k = 20 then 1 else 0) (hD : mD w T n p z) (hV : mVoc w) (hkf : 0 < kf) (hkf2 : kf < 10) (hG : fS T n tk p z 0 kf pl) (q : ∀ w2, mX w2 kf pl → ho_ag kO jO w w2 → Q none w2) : hb_O yX12_codesTold cX12_codesTold 3 none (d + 7) [hb_r 12 0 0, hb_i (nI k)] w Q := by
  have hU := nt_U (tk := tk) hD hV
  have main : hb_O yX12_qSums cX12_qSums 3 none (d + 6) [hb_r 12 0 0] (hb_pI (hb_pI (hb_pI (hb_pI (hb_pI w 12 31 0 (nI tk)) 12 80 0 0) 12 82 0 0) 12 83 0 0) 12 84 0 0) (fun rv w1 => hb_R yX12_codesTold cX12_codesTold 3 none (d + 7) 39 [some (hb_r 12 0 0), some (hb_i (nI k)), none] (rv.toList ++ []) w1 Q) := by
    have ha : hm_ag [31, 80, 82, 83, 84] [] w (hb_pI (hb_pI (hb_pI (hb_pI (hb_pI w 12 31 0 (nI tk)) 12 80 0 0) 12 82 0 0) 12 83 0 0) 12 84 0 0) := ((((hm_ag.rf.pI (by decide)).pI (by decide)).pI (by decide)).pI (by decide)).pI (by decide)
    exact om_qSumsX (x := 0) (W := []) (Cd := []) (s := 0) hU hdT_nil.1.1 (Nat.zero_le _) hG (fun w2 l1 l2 => bk_X12_codesTold_39 ⟨fun y => absurd y (l2.1.ne hkf hkf2), fun _ => q w2 l2.1 ((ha.ow (by decide) (by decide)).tr (l1.ow (by decide) (by decide)))⟩)
  refine bk_X12_codesTold_0 ⟨fun y => ?_, fun y => ?_⟩
  · have : ¬ k = 20 := fun e => y (by rw [e]; rfl)
    rw [if_neg this] at htk
    rw [htk] at main
    exact main
  · rw [show (20 : Int32) = nI 20 from rfl, nI_eq (by omega) (by decide)] at y
    rw [if_pos y] at htk
    rw [htk] at main
    exact main
end HNC
