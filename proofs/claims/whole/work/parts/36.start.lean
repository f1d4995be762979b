theorem hl_i0 : Cond.instantiable RX0 17 ∈ hb_tb := hb_t2 10 rfl rfl
theorem hl_i1 : Cond.instantiable RX1 2 ∈ hb_tb := hb_t1 43 rfl rfl
theorem hl_i2 : Cond.instantiable RX2 3 ∈ hb_tb := hb_t1 62 rfl rfl
theorem hl_i3 : Cond.instantiable RX3 2 ∈ hb_tb := hb_t2 127 rfl rfl
theorem hl_i4 : Cond.instantiable RX4 11 ∈ hb_tb := hb_t2 2 rfl rfl
theorem hl_i5 : Cond.instantiable RX5 1 ∈ hb_tb := hb_t1 115 rfl rfl
theorem hl_i6 : Cond.instantiable RX6 15 ∈ hb_tb := hb_t2 142 rfl rfl
theorem hl_i7 : Cond.instantiable RX7 8 ∈ hb_tb := hb_t1 64 rfl rfl
theorem hl_i8 : Cond.instantiable RX8 12 ∈ hb_tb := hb_t1 177 rfl rfl
theorem hl_i9 : Cond.instantiable RX9 11 ∈ hb_tb := hb_t1 125 rfl rfl
theorem hl_i10 : Cond.instantiable RX10 2 ∈ hb_tb := hb_t1 26 rfl rfl
theorem hl_i11 : Cond.instantiable RX11 13 ∈ hb_tb := hb_t1 18 rfl rfl
theorem hl_i12 : Cond.instantiable RX12 91 ∈ hb_tb := hb_t5 164 rfl rfl
theorem hl_n1 : hb_nest ∈ lw_tbl := List.mem_of_getElem? (i := 796) (by decide +kernel)
theorem hl_n2 : hb_nest2 ∈ lw_tbl := List.mem_of_getElem? (i := 852) (by decide +kernel)
theorem hl_arr {args : Array Value} {s : State} {ty : FieldType} (h : (Cond.arrayClass ty).before args s = true) : ∃ cB : ClassId, ArrOfT s cB ty ∧ s.vm.findClass ("[" ++ ty.toString) = some cB := by
  obtain ⟨cB, kB, comp, h1, h2, h3⟩ := Cond.arrayClass_spec h
  exact ⟨cB, fun n z => ⟨fun k hk => (by cases hk), kB, h2, comp, h3⟩, h1⟩
theorem hl_K {args : Array Value} {s : State} (htb : ∀ w ∈ hb_tb, w.before args s = true) : ∃ (D : va_G) (cA : Nat → ClassId), va_K D vwCl (hb_tys cA) s := by
  obtain ⟨c0, iS0, hKn0⟩ := u_known (C := RX0) (T := TX0) (N := 17) (n := 17) htb uw_0 (htb _ hl_i0)
  obtain ⟨c1, iS1, hKn1⟩ := u_known (C := RX1) (T := TX1) (N := 2) (n := 2) htb uw_1 (htb _ hl_i1)
  obtain ⟨c2, iS2, hKn2⟩ := u_known (C := RX2) (T := TX2) (N := 3) (n := 3) htb uw_2 (htb _ hl_i2)
  obtain ⟨c3, iS3, hKn3⟩ := u_known (C := RX3) (T := TX3) (N := 2) (n := 2) htb uw_3 (htb _ hl_i3)
  obtain ⟨c4, iS4, hKn4⟩ := u_known (C := RX4) (T := TX4) (N := 11) (n := 11) htb uw_4 (htb _ hl_i4)
  obtain ⟨c5, iS5, hKn5⟩ := u_known (C := RX5) (T := TX5) (N := 1) (n := 1) htb uw_5 (htb _ hl_i5)
  obtain ⟨c6, iS6, hKn6⟩ := u_known (C := RX6) (T := TX6) (N := 15) (n := 15) htb uw_6 (htb _ hl_i6)
  obtain ⟨c7, iS7, hKn7⟩ := u_known (C := RX7) (T := TX7) (N := 8) (n := 8) htb uw_7 (htb _ hl_i7)
  obtain ⟨c8, iS8, hKn8⟩ := u_known (C := RX8) (T := TX8) (N := 12) (n := 12) htb uw_8 (htb _ hl_i8)
  obtain ⟨c9, iS9, hKn9⟩ := u_known (C := RX9) (T := TX9) (N := 11) (n := 11) htb uw_9 (htb _ hl_i9)
  obtain ⟨c10, iS10, hKn10⟩ := u_known (C := RX10) (T := TX10) (N := 2) (n := 2) htb uw_10 (htb _ hl_i10)
  obtain ⟨c11, iS11, hKn11⟩ := u_known (C := RX11) (T := TX11) (N := 13) (n := 13) htb uw_11 (htb _ hl_i11)
  obtain ⟨c12, iS12, hKn12⟩ := u_known (C := RX12) (T := TX12) (N := 91) (n := 91) htb uw_12 (htb _ hl_i12)
  obtain ⟨dC, dI, hKc⟩ : ∃ (dC : Nat → ClassId) (dI : Nat → Nat → Nat), ∀ (k : Nat) (q : vw_C), vwCl[k]? = some q → u_Kn s q.1 q.2.1 q.2.2 (dC k) (dI k) := by
    refine ⟨fun k => if k = 0 then c0 else if k = 1 then c1 else if k = 2 then c2 else if k = 3 then c3 else if k = 4 then c4 else if k = 5 then c5 else if k = 6 then c6 else if k = 7 then c7 else if k = 8 then c8 else if k = 9 then c9 else if k = 10 then c10 else if k = 11 then c11 else c12, fun k => if k = 0 then iS0 else if k = 1 then iS1 else if k = 2 then iS2 else if k = 3 then iS3 else if k = 4 then iS4 else if k = 5 then iS5 else if k = 6 then iS6 else if k = 7 then iS7 else if k = 8 then iS8 else if k = 9 then iS9 else if k = 10 then iS10 else if k = 11 then iS11 else iS12, ?_⟩
    intro k q hq
    match k, hq with
    | 0, hq => cases hq; exact hKn0
    | 1, hq => cases hq; exact hKn1
    | 2, hq => cases hq; exact hKn2
    | 3, hq => cases hq; exact hKn3
    | 4, hq => cases hq; exact hKn4
    | 5, hq => cases hq; exact hKn5
    | 6, hq => cases hq; exact hKn6
    | 7, hq => cases hq; exact hKn7
    | 8, hq => cases hq; exact hKn8
    | 9, hq => cases hq; exact hKn9
    | 10, hq => cases hq; exact hKn10
    | 11, hq => cases hq; exact hKn11
    | 12, hq => cases hq; exact hKn12
    | k + 13, hq => simp [vwCl] at hq
  obtain ⟨a0, p0, q0⟩ := hl_arr (htb _ (hc_ac 0 (by decide)))
  obtain ⟨a1, p1, q1⟩ := hl_arr (htb _ (hc_ac 1 (by decide)))
  obtain ⟨a2, p2, q2⟩ := hl_arr (htb _ (hc_ac 2 (by decide)))
  obtain ⟨a3, p3, q3⟩ := hl_arr (htb _ (hc_ac 3 (by decide)))
  obtain ⟨a4, p4, q4⟩ := hl_arr (htb _ (hc_ac 4 (by decide)))
  refine ⟨(dC, dI), fun k => if k = 0 then a0 else if k = 1 then a1 else if k = 2 then a2 else if k = 3 then a3 else a4, hKc, ?_⟩
  intro k q hq
  match k, hq with
  | 0, hq => cases hq; exact ⟨p0, q0⟩
  | 1, hq => cases hq; exact ⟨p1, q1⟩
  | 2, hq => cases hq; exact ⟨p2, q2⟩
  | 3, hq => cases hq; exact ⟨p3, q3⟩
  | 4, hq => cases hq; exact ⟨p4, q4⟩
  | k + 5, hq => simp [hb_tys] at hq
set_option maxRecDepth 20000 in
/-- THE LAW, from its entry, out of a relation that holds at first and that every pair of calls keeps -/
theorem hl_start {p : Program} {e : Env} {s : State} {m : MethodId} {below : List Frame} {meth : Method} {c : Code} (l : Launch) {b L : Nat} {xs : Nat → Int32} (hL : L ≤ 384) (C0 : lw_At p s m meth c b L xs) {Sim : hb_W → Prop} (h0 : Sim hd_w) (hp : hp_all Sim) : W p l e room_1 s m #[Value.ref b] below meth c s.heap [] 0 0 (lw_Z below #[Value.ref b] s) (entryFrame m ([Value.ref b] : List Value).toArray 4) := by
  obtain ⟨hx, hb, hr, hml, hown, hts, hX, hbl, hlocks, hgv⟩ := id C0
  have htb : ∀ w ∈ hb_tb, w.before #[Value.ref b] s = true := fun w hw => hts w (List.mem_filter.mp hw).1
  obtain ⟨D, cA, hK⟩ := hl_K htb
  have hN1 : va_Nw hb_nest s := va_Nw.of rfl (hts _ hl_n1)
  have hN2 : va_Nw hb_nest2 s := va_Nw.of rfl (hts _ hl_n2)
  have C : hc_C "HoodBookLaw" meth.name cL_law 4 7 p room_1 s m #[Value.ref b] meth c D cA := ⟨hx, hb, hml, hown, htb, hK, ⟨by decide, by decide⟩, rfl, hN1, hN2⟩
  have hH : hc_H D cA s.heap [] s.heap [] := ⟨rfl, fun k q h => by simp [hc_ws] at h, va_S.rf⟩
  have hl := lv_entry ([.ref b]) (n := 4) (Nat.le_of_ble_eq_true rfl)
  rw [lg_entry_eq]
  generalize (lg_sl ([.ref b]) ++ List.replicate (4 - (lg_sl ([.ref b])).length) Slot.unset).toArray = ls at hl ⊢
  have hl : lv_has ls 4 [(0, .ref b)] := hl
  refine hc_new C dL_law_0 (hc_nl_ok ("HoodBookLaw", 7, 11) (List.mem_of_getElem? (i := 13) rfl)) hH (by decide) (by decide) (fun H1 hH1 => ?_)
  refine lv_dup hx hb dL_law_3 rfl ?_
  refine hc_callI (d := 6) (y2 := yX11_init) (cc2 := cX11_init) (nL2 := 2) (L1 := hd_L51) (As := []) (q := (0, 0, 0)) (rest := [hb_r 0 0 0]) C dL_law_4 (hb_t1 19 rfl rfl) mf_X11_init rfl (hb_t1 20 rfl rfl) rfl (by decide) (by decide) hd_s129 hH1 hl.1 (by decide) (by decide) (fun H2 locs2 hH2 => ?_)
  refine lv_astore_n (x := s.heap.size + 0) (lv' := [(1, .ref (s.heap.size + 0)), (0, .ref b)]) hx hb dL_law_7 rfl hl (by decide) rfl (fun ls hl => ?_)
  refine hc_new C dL_law_8 (hc_nl_ok ("HoodBookLaw", 10, 12) (List.mem_of_getElem? (i := 14) rfl)) hH2 (by decide) (by decide) (fun H3 hH3 => ?_)
  refine lv_dup hx hb dL_law_11 rfl ?_
  have hlen : (hd_L51 : List hc_A).length = 87 := by decide +kernel
  rw [hlen]
  have hH3 : hc_H D cA s.heap hd_L52 H3 locs2 := hH3
  refine hc_callI (d := 6) (y2 := yX12_init) (cc2 := cX12_init) (nL2 := 1) (L1 := hd_L85) (As := []) (q := (87, 0, 0)) (rest := [hb_r 87 0 0]) C dL_law_12 (hb_t5 165 rfl rfl) mf_X12_init rfl (hb_t5 166 rfl rfl) rfl (by decide) (by decide) hd_s165 hH3 hl.1 (by decide) (by decide) (fun H4 locs4 hH4 => ?_)
  refine lv_astore_n (x := s.heap.size + 87) (lv' := [(2, .ref (s.heap.size + 87)), (1, .ref (s.heap.size + 0)), (0, .ref b)]) hx hb dL_law_15 rfl hl (by decide) rfl (fun ls hl => ?_)
  refine lv_iconst (v := 0) hx hb dL_law_16 (by decide) ?_
  refine lv_istore_n (lv' := [(3, .int 0), (2, .ref (s.heap.size + 87)), (1, .ref (s.heap.size + 0)), (0, .ref b)]) hx hb dL_law_17 rfl hl (by decide) rfl (fun ls hl => ?_)
  have hC : hl_C p s m meth c (0 + 1 + 86 + 1 + 57) (0 + (hc_dfT.getD 11 []).length + 12147 + (hc_dfT.getD 12 []).length + 13884) D cA b := ⟨hx, hb, hml, hown, htb, hK, hd_D cA b s.heap, ⟨by decide, by decide, by decide, by decide⟩, hr, hlocks, hN1, hN2⟩
  refine hl_loop hp hL hC hX hbl ?_ (L + 6) 0 hd_w H4 locs4 ls (by omega) (by omega) h0 (hd_first b hH4) ?_
  · intro H locs lsm hS
    refine va_forget (fun q hq => hS.2.2 q hq) ?_
    refine W.widen (k := 600000) (n := 7302250) (by decide) (by decide) ?_
    exact lw_ret hx hb hr hlocks dL_law_1208
  · refine ⟨hl.1, hl.2.1, fun i v hv => ?_⟩
    match i, hv with
    | 0, hv => cases hv; exact hl.2.2 (0, .ref b) (by simp)
    | 1, hv =>
      cases hv
      have := hl.2.2 (1, .ref (s.heap.size + 0)) (by simp)
      exact this
    | 2, hv =>
      cases hv
      have := hl.2.2 (2, .ref (s.heap.size + 87)) (by simp)
      exact this
    | 3, hv => cases hv; exact hl.2.2 (3, .int 0) (by simp)
    | i + 4, hv => simp at hv
