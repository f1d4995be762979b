/-! ===== answers over the hoods ===== -/
def qa_f (T : Nat → Nat) (V : Nat → Int) : Nat → Int
  | 0 => -1
  | n + 1 => if 0 < T n ∧ V n ≠ 0 ∧ qa_f T V n = -1 then (n : Int) else qa_f T V n
def qa_l (T : Nat → Nat) (V : Nat → Int) : Nat → Int
  | 0 => -1
  | n + 1 => if 0 < T n ∧ V n ≠ 0 then (n : Int) else qa_l T V n
def qa_o (T : Nat → Nat) (V : Nat → Int) : Nat → Int
  | 0 => 0
  | n + 1 => if 0 < T n ∧ V n ≠ 0 then qa_o T V n + 1 else qa_o T V n
def qa_t (T : Nat → Nat) (V : Nat → Int) : Nat → Int
  | 0 => 0
  | n + 1 => if 0 < T n then qa_t T V n + V n else qa_t T V n
def qa_m (T : Nat → Nat) (V : Nat → Int) : Nat → Int
  | 0 => -1000000
  | n + 1 => if 0 < T n ∧ qa_m T V n < V n then V n else qa_m T V n
def qa_s (T : Nat → Nat) (V : Nat → Int) : Nat → Int
  | 0 => 1000000
  | n + 1 => if 0 < T n ∧ V n < qa_s T V n then V n else qa_s T V n
def qa_y (T : Nat → Nat) : Nat → Bool
  | 0 => false
  | n + 1 => if 0 < T n then true else qa_y T n
/-- the answer by the kind (0 to 5), after n hoods -/
def qa (T : Nat → Nat) (V : Nat → Int) (k n : Nat) : Int := if k = 0 then qa_f T V n else if k = 1 then qa_l T V n else if k = 2 then qa_o T V n else if k = 3 then qa_t T V n else if k = 4 then (if qa_y T n = true then qa_m T V n else 0) else (if qa_y T n = true then qa_s T V n else 0)
theorem qa_b {T : Nat → Nat} {V : Nat → Int} (hV : ∀ n, 0 < T n → jB (V n)) : ∀ n, (-1 ≤ qa_f T V n ∧ qa_f T V n < n) ∧ (-1 ≤ qa_l T V n ∧ qa_l T V n < n) ∧ (0 ≤ qa_o T V n ∧ qa_o T V n ≤ n) ∧ (-1000000 * (n : Int) ≤ qa_t T V n ∧ qa_t T V n ≤ 1000000 * (n : Int)) ∧ jB (qa_m T V n) ∧ jB (qa_s T V n)
  | 0 => ⟨by unfold qa_f; omega, by unfold qa_l; omega, by unfold qa_o; omega, by unfold qa_t; omega, by unfold qa_m jB; omega, by unfold qa_s jB; omega⟩
  | n + 1 => by
    obtain ⟨h1, h2, h3, h4, h5, h6⟩ := qa_b hV n
    have hV' := hV n
    refine ⟨?_, ?_, ?_, ?_, ?_, ?_⟩
    · unfold qa_f
      split <;> omega
    · unfold qa_l
      split <;> omega
    · unfold qa_o
      split <;> omega
    · unfold qa_t
      split
      · rename_i z
        have := (hV' z).1
        have := (hV' z).2
        omega
      · omega
    · unfold qa_m
      split
      · rename_i z
        exact hV' z.1
      · exact h5
    · unfold qa_s
      split
      · rename_i z
        exact hV' z.1
      · exact h6
theorem qa_y_none {T : Nat → Nat} : ∀ n, (∀ k, k < n → T k = 0) → qa_y T n = false
  | 0, _ => rfl
  | n + 1, h => by
    unfold qa_y
    rw [if_neg (by rw [h n (by omega)]; omega), qa_y_none n (fun k hk => h k (by omega))]
theorem qa_y_some {T : Nat → Nat} {k : Nat} (hk : 0 < T k) : ∀ n, k < n → qa_y T n = true
  | 0, h => absurd h (Nat.not_lt_zero k)
  | n + 1, h => by
    unfold qa_y
    split
    · rfl
    · rename_i z
      refine qa_y_some hk n ?_
      rcases Nat.lt_or_ge k n with y | y
      · exact y
      · have : k = n := by omega
        subst this
        exact absurd hk z
theorem qa_y_P {P : List (Nat × Nat × Nat)} (ho : sp_okP P) : qa_y (sp_T (sp_bk 2 P)) 64 = decide (P.length ≠ 0) := by
  cases P with
  | nil =>
    exact qa_y_none 64 (fun k _ => rfl)
  | cons p P =>
    have hm : (p.1, p.2.1) ∈ sp_bk 2 (p :: P) := by
      unfold sp_bk
      simp
    rw [qa_y_some (sp_T_pos hm) 64 (ho p List.mem_cons_self).1]
    simp
/-- what one hood does to the model's answer -/
def qa1 (k : Nat) (v : Int) (i : Nat) (y : Bool) (a : Int) : Int := if k = 0 then (if v ≠ 0 ∧ a = -1 then (i : Int) else a) else if k = 1 then (if v ≠ 0 then (i : Int) else a) else if k = 2 then (if v ≠ 0 then a + 1 else a) else if k = 3 then a + v else if k = 4 then (if y = false ∨ a < v then v else a) else (if y = false ∨ v < a then v else a)
theorem qa_s1 {T : Nat → Nat} {V : Nat → Int} {k n : Nat} (hk : k < 6) (hT : 0 < T n) (hV : jB (V n)) (hm : qa_y T n = false → qa_m T V n = -1000000 ∧ qa_s T V n = 1000000) : qa T V k (n + 1) = qa1 k (V n) n (qa_y T n) (qa T V k n) := by
  have hy : qa_y T (n + 1) = true := by unfold qa_y; rw [if_pos hT]
  have h1 := hV.1; have h2 := hV.2
  have hk6 : k = 0 ∨ k = 1 ∨ k = 2 ∨ k = 3 ∨ k = 4 ∨ k = 5 := by omega
  rcases hk6 with rfl | rfl | rfl | rfl | rfl | rfl
  · show qa_f T V (n + 1) = if V n ≠ 0 ∧ qa_f T V n = -1 then (n : Int) else qa_f T V n
    have e : qa_f T V (n + 1) = if 0 < T n ∧ V n ≠ 0 ∧ qa_f T V n = -1 then (n : Int) else qa_f T V n := rfl
    rw [e]
    simp only [hT, true_and]
  · show qa_l T V (n + 1) = if V n ≠ 0 then (n : Int) else qa_l T V n
    have e : qa_l T V (n + 1) = if 0 < T n ∧ V n ≠ 0 then (n : Int) else qa_l T V n := rfl
    rw [e]
    simp only [hT, true_and]
  · show qa_o T V (n + 1) = if V n ≠ 0 then qa_o T V n + 1 else qa_o T V n
    have e : qa_o T V (n + 1) = if 0 < T n ∧ V n ≠ 0 then qa_o T V n + 1 else qa_o T V n := rfl
    rw [e]
    simp only [hT, true_and]
  · show qa_t T V (n + 1) = qa_t T V n + V n
    exact if_pos hT
  · show (if qa_y T (n + 1) = true then qa_m T V (n + 1) else 0) = if qa_y T n = false ∨ (if qa_y T n = true then qa_m T V n else 0) < V n then V n else (if qa_y T n = true then qa_m T V n else 0)
    rw [if_pos hy]
    have e : qa_m T V (n + 1) = if 0 < T n ∧ qa_m T V n < V n then V n else qa_m T V n := rfl
    rw [e]
    cases hyn : qa_y T n with
    | true =>
      simp only [hT, true_and, if_true]
      simp
    | false =>
      rw [(hm hyn).1]
      simp [hT]
      omega
  · show (if qa_y T (n + 1) = true then qa_s T V (n + 1) else 0) = if qa_y T n = false ∨ V n < (if qa_y T n = true then qa_s T V n else 0) then V n else (if qa_y T n = true then qa_s T V n else 0)
    rw [if_pos hy]
    have e : qa_s T V (n + 1) = if 0 < T n ∧ V n < qa_s T V n then V n else qa_s T V n := rfl
    rw [e]
    cases hyn : qa_y T n with
    | true =>
      simp only [hT, true_and, if_true]
      simp
    | false =>
      rw [(hm hyn).2]
      simp [hT]
      omega
theorem qa_new {T : Nat → Nat} {V : Nat → Int} : ∀ n, qa_y T n = false → qa_m T V n = -1000000 ∧ qa_s T V n = 1000000
  | 0, _ => ⟨rfl, rfl⟩
  | n + 1, h => by
    unfold qa_y at h
    by_cases z : 0 < T n
    · rw [if_pos z] at h; cases h
    · rw [if_neg z] at h
      obtain ⟨h1, h2⟩ := qa_new (V := V) n h
      unfold qa_m qa_s
      rw [if_neg (fun y => z y.1), if_neg (fun y => z y.1)]
      exact ⟨h1, h2⟩
theorem qa_s0 {T : Nat → Nat} {V : Nat → Int} {k n : Nat} (hT : ¬ 0 < T n) : qa T V k (n + 1) = qa T V k n := by
  unfold qa
  have e1 : qa_f T V (n + 1) = qa_f T V n := if_neg (fun y => hT y.1)
  have e2 : qa_l T V (n + 1) = qa_l T V n := if_neg (fun y => hT y.1)
  have e3 : qa_o T V (n + 1) = qa_o T V n := if_neg (fun y => hT y.1)
  have e4 : qa_t T V (n + 1) = qa_t T V n := if_neg hT
  have e5 : qa_m T V (n + 1) = qa_m T V n := if_neg (fun y => hT y.1)
  have e6 : qa_s T V (n + 1) = qa_s T V n := if_neg (fun y => hT y.1)
  have e7 : qa_y T (n + 1) = qa_y T n := if_neg hT
  rw [e1, e2, e3, e4, e5, e6, e7]
/-- the value of the question at a hood -/
def qV (c L R : Nat) (mk : Nat → Nat → Nat) (P : List (Nat × Nat × Nat)) (C : List Nat) (i : Nat) : Int := sp_ev C (qP i c (sp_T (sp_bk 2 P)) (fun h => sv_told L R mk (sp_T (sp_bk 2 P)) h (R - 1)) (sp_V (sp_bk 2 P))) (foM mk i (sp_T (sp_bk 0 P) i) (sp_T (sp_bk 1 P) i))
section HAN
variable {d : Nat} {w : hb_W} {Q : Option hb_V → hb_W → Prop}
theorem om_qTakes {k i : Nat} {v a : Int} {y : Bool} (hk : k < 6) (hi : i < 64) (hv : jB v) (hb : k < 3 → v = 0 ∨ v = 1) (ha : -100000000 ≤ a ∧ a ≤ 100000000) (h87 : hb_fL w 12 87 0 = jL a) (h88 : hb_fI w 12 88 0 = if y = true then 0 else 1) (q : ∀ w2, hb_fL w2 12 87 0 = jL (qa1 k v i y a) → hb_fI w2 12 88 0 = 0 → hm_ag [87, 88] [] w w2 → Q none w2) : hb_O yX12_qTakes cX12_qTakes 6 none d [hb_r 12 0 0, hb_i (nI k), hb_l (jL v), hb_i (nI i)] w Q := by
  have h1 := hv.1; have h2 := hv.2
  have e1 : (1 : Int64) = jL 1 := by decide
  have em : (-1 : Int64) = jL (-1) := by decide
  have ei : (nI i).toInt64 = jL (i : Int) := by rw [nI_l (by omega), jL_n (by omega)]
  have fin : ∀ (w' : hb_W) (x5 : Int32), hb_fL w' 12 87 0 = jL (qa1 k v i y a) → hm_ag [87, 88] [] w w' → hb_R yX12_qTakes cX12_qTakes 6 none d 133 [some (hb_r 12 0 0), some (hb_i (nI k)), some (hb_l (jL v)), none, some (hb_i (nI i)), some (hb_i x5)] [] w' Q := fun w' x5 g1 g2 => bk_X12_qTakes_133 (q _ g1 rfl (g2.pI (by decide)))
  have addL : ∀ x : Int, jB x → jL a + jL x = jL (a + x) := fun x hx => Int64.toInt_inj.mp (by
    have := hx.1; have := hx.2
    rw [Int64.toInt_add, jL_t (by omega), jL_t (by omega), jL_t (by omega)]
    exact Int.bmod_eq_of_le (by omega) (by omega))
  have hk6 : k = 0 ∨ k = 1 ∨ k = 2 ∨ k = 3 ∨ k = 4 ∨ k = 5 := by omega
  rcases hk6 with rfl | rfl | rfl | rfl | rfl | rfl
  · -- first
    have t55 : ∀ (w' : hb_W) (x5 : Int32), hb_fL w' 12 87 0 = jL (qa1 0 v i y a) → hm_ag [87, 88] [] w w' → hb_R yX12_qTakes cX12_qTakes 6 none d 55 [some (hb_r 12 0 0), some (hb_i (nI 0)), some (hb_l (jL v)), none, some (hb_i (nI i)), some (hb_i x5)] [] w' Q := fun w' x5 g1 g2 => bk_X12_qTakes_55 ⟨fun _ => bk_X12_qTakes_75 ⟨fun _ => bk_X12_qTakes_90 ⟨fun _ => fin w' x5 g1 g2, fun z => absurd (by decide) z⟩, fun z => absurd z (by decide)⟩, fun z => absurd z (by decide)⟩
    have t38 : ∀ (x5 : Int32), qa1 0 v i y a = a → hb_R yX12_qTakes cX12_qTakes 6 none d 38 [some (hb_r 12 0 0), some (hb_i (nI 0)), some (hb_l (jL v)), none, some (hb_i (nI i)), some (hb_i x5)] [] w Q := fun x5 g => bk_X12_qTakes_38 ⟨fun _ => t55 w x5 (by rw [g]; exact h87) hm_ag.rf, fun z => absurd z (by decide)⟩
    refine bk_X12_qTakes_0 ⟨fun z => absurd z (by decide), fun _ => ?_⟩
    rw [h87, lg_cmp_eq, lg_cmp_eq, em, e1, jL_eq (by omega) (by omega), jL_eq (by omega) (by omega)]
    refine ⟨fun z1 => ⟨fun z => absurd rfl z, fun _ => ⟨fun _ => t38 _ ?_, fun z => absurd rfl z⟩⟩, fun z1 => ⟨fun z => absurd rfl z, fun _ => ⟨fun z => absurd z (by decide), fun _ => ⟨fun z2 => bk_X12_qTakes_48 (t55 _ _ ?_ (hm_ag.rf.pL (by decide))), fun z2 => t38 _ ?_⟩⟩⟩⟩
    · have : v = 0 := by have := hb (by decide); omega
      show (if v ≠ 0 ∧ a = -1 then (i : Int) else a) = a
      rw [if_neg (fun z => z.1 this)]
    · have e : qa1 0 v i y a = (i : Int) := by
        show (if v ≠ 0 ∧ a = -1 then (i : Int) else a) = i
        rw [if_pos ⟨by omega, z2⟩]
      rw [e]
      exact ei
    · show (if v ≠ 0 ∧ a = -1 then (i : Int) else a) = a
      rw [if_neg (fun z => z2 z.2)]
  · -- last
    have t55 : ∀ (w' : hb_W) (x5 : Int32), hb_fL w' 12 87 0 = jL (qa1 1 v i y a) → hm_ag [87, 88] [] w w' → hb_R yX12_qTakes cX12_qTakes 6 none d 55 [some (hb_r 12 0 0), some (hb_i (nI 1)), some (hb_l (jL v)), none, some (hb_i (nI i)), some (hb_i x5)] [] w' Q := fun w' x5 g1 g2 => bk_X12_qTakes_55 ⟨fun _ => bk_X12_qTakes_75 ⟨fun _ => bk_X12_qTakes_90 ⟨fun _ => fin w' x5 g1 g2, fun z => absurd (by decide) z⟩, fun z => absurd z (by decide)⟩, fun z => absurd z (by decide)⟩
    refine bk_X12_qTakes_0 ⟨fun z => absurd z (by decide), fun _ => ?_⟩
    rw [lg_cmp_eq, lg_cmp_eq, em, e1, jL_eq (by omega) (by omega)]
    refine ⟨fun z1 => ⟨fun _ => bk_X12_qTakes_38 ⟨fun z => absurd rfl z, fun _ => ⟨fun _ => t55 w _ ?_ hm_ag.rf, fun z => absurd rfl z⟩⟩, fun z => absurd z (by decide)⟩, fun z1 => ⟨fun _ => bk_X12_qTakes_38 ⟨fun z => absurd rfl z, fun _ => ⟨fun z => absurd z (by decide), fun _ => bk_X12_qTakes_48 (t55 _ _ ?_ (hm_ag.rf.pL (by decide)))⟩⟩, fun z => absurd z (by decide)⟩⟩
    · have : v = 0 := by have := hb (by decide); omega
      have e : qa1 1 v i y a = a := by
        show (if v ≠ 0 then (i : Int) else a) = a
        rw [if_neg (fun z => z this)]
      rw [e]; exact h87
    · have e : qa1 1 v i y a = (i : Int) := by
        show (if v ≠ 0 then (i : Int) else a) = i
        rw [if_pos (by omega)]
      rw [e]
      exact ei
  · -- often
    have t75 : ∀ (w' : hb_W) (x5 : Int32), hb_fL w' 12 87 0 = jL (qa1 2 v i y a) → hm_ag [87, 88] [] w w' → hb_R yX12_qTakes cX12_qTakes 6 none d 75 [some (hb_r 12 0 0), some (hb_i (nI 2)), some (hb_l (jL v)), none, some (hb_i (nI i)), some (hb_i x5)] [] w' Q := fun w' x5 g1 g2 => bk_X12_qTakes_75 ⟨fun _ => bk_X12_qTakes_90 ⟨fun _ => fin w' x5 g1 g2, fun z => absurd (by decide) z⟩, fun z => absurd z (by decide)⟩
    refine bk_X12_qTakes_0 ⟨fun z => absurd z (by decide), fun _ => ?_⟩
    rw [lg_cmp_eq, lg_cmp_eq, em, e1, jL_eq (by omega) (by omega)]
    refine ⟨fun z1 => ⟨fun _ => bk_X12_qTakes_38 ⟨fun _ => bk_X12_qTakes_55 ⟨fun z => absurd rfl z, fun _ => ⟨fun _ => t75 w _ ?_ hm_ag.rf, fun z => absurd rfl z⟩⟩, fun z => absurd z (by decide)⟩, fun z => absurd z (by decide)⟩, fun z1 => ⟨fun _ => bk_X12_qTakes_38 ⟨fun _ => bk_X12_qTakes_55 ⟨fun z => absurd rfl z, fun _ => ⟨fun z => absurd z (by decide), fun _ => t75 _ _ ?_ (hm_ag.rf.pL (by decide))⟩⟩, fun z => absurd z (by decide)⟩, fun z => absurd z (by decide)⟩⟩
    · have : v = 0 := by have := hb (by decide); omega
      have e : qa1 2 v i y a = a := by
        show (if v ≠ 0 then a + 1 else a) = a
        rw [if_neg (fun z => z this)]
      rw [e]; exact h87
    · have e : qa1 2 v i y a = a + 1 := by
        show (if v ≠ 0 then a + 1 else a) = a + 1
        rw [if_pos (by omega)]
      rw [e]
      show hb_fL w 12 87 0 + 1 = jL (a + 1)
      rw [h87, e1, addL 1 jB1]
  · -- total
    refine bk_X12_qTakes_0 ⟨fun _ => ⟨fun _ => bk_X12_qTakes_38 ⟨fun _ => bk_X12_qTakes_55 ⟨fun _ => bk_X12_qTakes_75 ⟨fun z => absurd rfl z, fun _ => bk_X12_qTakes_90 ⟨fun _ => fin _ _ ?_ (hm_ag.rf.pL (by decide)), fun z => absurd (by decide) z⟩⟩, fun z => absurd z (by decide)⟩, fun z => absurd z (by decide)⟩, fun z => absurd z (by decide)⟩, fun z => absurd (by decide) z⟩
    show hb_fL w 12 87 0 + jL v = jL (a + v)
    rw [h87, addL v hv]
  · -- most
    have to90 : hb_R yX12_qTakes cX12_qTakes 6 none d 90 [some (hb_r 12 0 0), some (hb_i (nI 4)), some (hb_l (jL v)), none, some (hb_i (nI i)), some (hb_i 0)] [] w Q → hb_O yX12_qTakes cX12_qTakes 6 none d [hb_r 12 0 0, hb_i (nI 4), hb_l (jL v), hb_i (nI i)] w Q := fun g => bk_X12_qTakes_0 ⟨fun _ => ⟨fun _ => bk_X12_qTakes_38 ⟨fun _ => bk_X12_qTakes_55 ⟨fun _ => bk_X12_qTakes_75 ⟨fun _ => g, fun z => absurd z (by decide)⟩, fun z => absurd z (by decide)⟩, fun z => absurd z (by decide)⟩, fun z => absurd z (by decide)⟩, fun z => absurd (by decide) z⟩
    refine to90 (bk_X12_qTakes_90 ⟨fun z => absurd z (by decide), fun _ => ?_⟩)
    have tk : qa1 4 v i y a = v → hb_R yX12_qTakes cX12_qTakes 6 none d 128 [some (hb_r 12 0 0), some (hb_i (nI 4)), some (hb_l (jL v)), none, some (hb_i (nI i)), some (hb_i 0)] [] w Q := fun e => bk_X12_qTakes_128 (fin _ _ (by rw [e]; rfl) (hm_ag.rf.pL (by decide)))
    have ev : qa1 4 v i y a = if y = false ∨ a < v then v else a := rfl
    rw [h88, h87, lg_cmp_ge, lg_cmp_le, jL_le (by omega) (by omega), jL_le (by omega) (by omega)]
    cases y with
    | true =>
      refine ⟨fun z => absurd rfl z, fun _ => ⟨fun z => absurd rfl z, fun _ => ⟨fun z => fin w _ ?_ hm_ag.rf, fun z => tk ?_⟩⟩⟩
      · rw [ev, if_neg (by simp; omega)]; exact h87
      · rw [ev, if_pos (Or.inr (by omega))]
    | false => exact ⟨fun _ => tk (by rw [ev, if_pos (Or.inl rfl)]), fun z => absurd z (by decide)⟩
  · -- least
    have to90 : hb_R yX12_qTakes cX12_qTakes 6 none d 90 [some (hb_r 12 0 0), some (hb_i (nI 5)), some (hb_l (jL v)), none, some (hb_i (nI i)), some (hb_i 0)] [] w Q → hb_O yX12_qTakes cX12_qTakes 6 none d [hb_r 12 0 0, hb_i (nI 5), hb_l (jL v), hb_i (nI i)] w Q := fun g => bk_X12_qTakes_0 ⟨fun _ => ⟨fun _ => bk_X12_qTakes_38 ⟨fun _ => bk_X12_qTakes_55 ⟨fun _ => bk_X12_qTakes_75 ⟨fun _ => g, fun z => absurd z (by decide)⟩, fun z => absurd z (by decide)⟩, fun z => absurd z (by decide)⟩, fun z => absurd z (by decide)⟩, fun z => absurd (by decide) z⟩
    refine to90 (bk_X12_qTakes_90 ⟨fun z => absurd z (by decide), fun _ => ?_⟩)
    have tk : qa1 5 v i y a = v → hb_R yX12_qTakes cX12_qTakes 6 none d 128 [some (hb_r 12 0 0), some (hb_i (nI 5)), some (hb_l (jL v)), none, some (hb_i (nI i)), some (hb_i 0)] [] w Q := fun e => bk_X12_qTakes_128 (fin _ _ (by rw [e]; rfl) (hm_ag.rf.pL (by decide)))
    have ev : qa1 5 v i y a = if y = false ∨ v < a then v else a := rfl
    rw [h88, h87, lg_cmp_ge, lg_cmp_le, jL_le (by omega) (by omega), jL_le (by omega) (by omega)]
    cases y with
    | true =>
      refine ⟨fun z => absurd rfl z, fun _ => ⟨fun _ => ⟨fun z => fin w _ ?_ hm_ag.rf, fun z => tk ?_⟩, fun z => absurd z (by decide)⟩⟩
      · rw [ev, if_neg (by simp; omega)]; exact h87
      · rw [ev, if_pos (Or.inr (by omega))]
    | false => exact ⟨fun _ => tk (by rw [ev, if_pos (Or.inl rfl)]), fun z => absurd z (by decide)⟩
end HAN
