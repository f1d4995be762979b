/-! THE CLAIM OUT OF ONE WALK OF THE LAW'S BODY. Your part is whole_start (and what it stands on); all else here is the same for every law, but numbers. -/
def R_law : String := "HoodBookLaw"
def lw_P (b : Addr) (xs : List Int32) (args : Array Value) (s : State) : Prop := args = #[.ref b] ∧ s.IntsAt b xs ∧ xs.length ≤ 384 ∧ (Jvm.Cond.and given_1 narrow_1).before args s = true
def lw_Q (_ : Array Value) (s : State) (o : Outcome) (t : State) : Prop := o = .returned (some (.int 1)) ∧ Framed s o t [] 600000 7302250
def lw_Z (below : List Frame) (a : Array Value) (s : State) : State → Prop := fun t => ∃ o, t.status = .running ∧ Ended t below o ∧ lw_Q a s o t
/-- the law's own end, with 1 on the stack, nothing written that was there before, its room as the claim has it -/
theorem lw_ret {p : Program} {l : Launch} {e : Env} {s : State} {m : MethodId} {below : List Frame} {meth : Method} {c : Code} {b : Nat} (hx : p.tables.exec = Jvm.exec) (hb : c.code = code) (hr : meth.sig.returnType = ret) (hlocks : meth.locks = false) {pc : Nat} {H : Heap} {ls : Array Slot} (hdg : decode code pc = .ok (.ireturn, 1)) : W p l e room_1 s m #[Value.ref b] below meth c H [] 600000 7302250 (lw_Z below #[Value.ref b] s) (F0 m pc ls [.int 1]) := by
  intro T hT X
  obtain ⟨fs, hret, hrun, hended, hW, hframe⟩ := X.leave (v := some (.int 1)) (hlocks := hlocks) (fun h => by rw [hr] at h; cases h)
  have hmeth' : T.vm.method? m = some meth := X.method'
  refine ⟨T.setFrames fs, ?_, .returned (some (.int 1)), hrun, hended, rfl, ⟨_, rfl⟩, hW, hframe⟩
  jvm_step X.here [X.here.top, hx, hb, hdg, hmeth', hr, ret, narrow_b1]
  (try refine ⟨rfl, ?_⟩); (try refine ⟨rfl, ?_⟩)
  first | (intro acts; rw [hret _ acts rfl rfl rfl]) | rw [hret _ _ rfl rfl rfl]
  exact Steps.refl _
/-- what holds at the law's entry: the machine, the code, the tables' words (any of lw_tbl by 'hts w (by decide +kernel)'), the script of L ints xs at the cell b, what the Statement gives of the start (any of its parts by flat_of_before) -/
def lw_At (p : Program) (s : State) (m : MethodId) (meth : Method) (c : Code) (b L : Nat) (xs : Nat → Int32) : Prop :=
  p.tables.exec = Jvm.exec ∧ c.code = code ∧ meth.sig.returnType = ret ∧ c.maxLocals = 4 ∧ s.vm.findClass R_law = some m.cls ∧ (∀ w ∈ lw_tbl, w.before #[Value.ref b] s = true) ∧ va_X b L xs s s.heap ∧ b < s.heap.size ∧ meth.locks = false ∧ (Jvm.Cond.and given_1 narrow_1).before #[Value.ref b] s = true
section HLW
variable {y y2 : MethodName} {cc cc2 : ByteArray} {nL nL2 n : Nat} {ret ret2 : Option FieldType} {d pc : Nat} {st As : List hb_V} {w : hb_W} {Q1 : Option hb_V → hb_W → Prop} {t g ci index : Nat}
variable {p : Program} {l : Launch} {e : Env} {R : Room} {s : State} {m : MethodId} {args : Array Value} {below : List Frame} {meth : Method} {c : Code} {cells slots : Nat} {D : va_G} {cA : Nat → ClassId} {ad : hb_Id → Nat} {Hb : Heap} {Z : State → Prop} {H : Heap} {locs : List Loc} {lsm : Array Slot}
theorem hl_call (C : hb_C y cc nL ret (d + 1) p R s m args meth c cells slots D cA ad Hb) (hd : decode cc pc = .ok (.invokevirtual index, 3)) (hm : Cond.methodLink y.cls index y2 ∈ hb_tb) (hf : hb_MF y2 cc2 nL2 ret2 n) (hi : hb_MI y2) (hs : hb_sh t 0 = some (.inl ci)) (hcn : (vwCl[ci]?).map (fun q => q.1) = some y2.cls) (hg : g < hb_ct t) (hn : As.length = n) (hlen : (hb_fl (hb_r t g 0 :: As)).length ≤ nL2) (hroom : (st.map hb_ca).sum ≤ 8)
    (hO : hb_O y2 cc2 nL2 ret2 d (hb_r t g 0 :: As) w Q1) (hH : hb_H D cA ad Hb w H locs) (hsz : lsm.size = nL) (h : ∀ rv w1 H1 locs1, Q1 rv w1 → hb_H D cA ad Hb w1 H1 locs1 → W p l e R s m args below meth c H1 locs1 cells slots Z (F0 m (pc + 3) lsm ((rv.toList ++ st).map (hb_cv ad)))) : W p l e R s m args below meth c H locs cells slots Z (F0 m pc lsm ((As.reverse ++ hb_r t g 0 :: st).map (hb_cv ad))) := by
  have C1 := id C
  obtain ⟨c1, c2, c3, c4, c5, c6, c7, ⟨c8, c9, c10, c11⟩, c12, c13, c14, c15⟩ := C1
  have hM := hb_met l D cA ad Hb c7 hf hlen hO
  obtain ⟨f1, f2, f3, f4, f5⟩ := hf
  have hG : GoodIn hb_tb (Cond.code y2 cc2 nL2 ret2 :: hb_tb) := fun x hx => by
    rcases List.mem_cons.mp hx with h1 | h1
    · rw [h1]; exact ⟨f1, hb_good _ f1⟩
    · exact ⟨h1, hb_good _ h1⟩
  have cw : CallW R s args y.cls y2.cls index y2 cc2 nL2 ret2 (Cond.code y2 cc2 nL2 ret2 :: hb_tb) (hb_rm d) 0 0 n := ⟨callB_of n c5 hG rfl rfl rfl (c5 _ f2) (c5 _ hm) f4 ⟨c8, by show 8 + (nL2 + 11) + 64 * d ≤ R.locals; omega⟩, c5 _ hi.1, c5 _ hi.2⟩
  obtain ⟨p0, hp⟩ := hb_place hs hg
  have he := hb_ws_at cA ad w hp
  rw [hb_e_obj cA ad w hs] at he
  obtain ⟨q0, hq0, hq1⟩ := Option.map_eq_some_iff.mp hcn
  have hrec := va_recv c6 hH.1 hq0 he
  rw [hq1] at hrec
  refine hb_after (pc := pc) (st := st) (va_runV (As := As.map (hb_cv ad)) (rest := st.map (hb_cv ad)) (b := ad (t, g, 0)) ⟨c1, c2, c3, c4, c5⟩ hM cw ⟨hb_blind, hrec, fun U hU hW => ⟨rfl, by rw [hU]; exact hH.nil, va_K.moved hW.alike c6, va_Nw.warmM hW c14, va_Nw.warmM hW c15⟩⟩ rfl (by rw [List.length_map]; exact hn) hsz (by simp [hb_cv]) (by rw [hb_ca_sum]; show 2 * 0 + _ ≤ 8; omega) hd ⟨by omega, by omega⟩) hH.2 ?_
  intro rv w1 H1 locs1 hq hH1
  exact h rv w1 H1 locs1 hq hH1
end HLW
def hp_feed (Sim : hb_W → Prop) : Prop := ∀ (w : hb_W) (a1 a2 a3 a4 a5 : Int32), Sim w → hb_O yX11_feed cX11_feed 6 (some .int) 1000 [hb_r 0 0 0, hb_i a1, hb_i a2, hb_i a3, hb_i a4, hb_i a5] w (fun rv w1 => ∃ r : Int32, rv = some (hb_i r) ∧ hb_O yX12_feed cX12_feed 8 (some .int) 1000 [hb_r 12 0 0, hb_i a1, hb_i a2, hb_i a3, hb_i a4, hb_i a5] w1 (fun rv2 w2 => rv2 = some (hb_i r) ∧ Sim w2))
def hp_end (Sim : hb_W → Prop) : Prop := ∀ (w : hb_W) (a1 : Int32), Sim w → hb_O yX11_end cX11_end 2 (some .boolean) 1000 [hb_r 0 0 0, hb_i a1] w (fun rv w1 => ∃ r : Int32, rv = some (hb_i r) ∧ hb_O yX12_end cX12_end 2 (some .boolean) 1000 [hb_r 12 0 0, hb_i a1] w1 (fun rv2 w2 => rv2 = some (hb_i r) ∧ Sim w2))
def hp_open (Sim : hb_W → Prop) : Prop := ∀ (w : hb_W), Sim w → hb_O yX11_open cX11_open 3 (some .int) 1000 [hb_r 0 0 0] w (fun rv w1 => ∃ r : Int32, rv = some (hb_i r) ∧ hb_O yX12_open cX12_open 1 (some .int) 1000 [hb_r 12 0 0] w1 (fun rv2 w2 => rv2 = some (hb_i r) ∧ Sim w2))
def hp_fault (Sim : hb_W → Prop) : Prop := ∀ (w : hb_W) (a1 : Int32), Sim w → hb_O yX11_fault cX11_fault 2 (some .int) 1000 [hb_r 0 0 0, hb_i a1] w (fun rv w1 => ∃ r : Int32, rv = some (hb_i r) ∧ hb_O yX12_fault cX12_fault 2 (some .int) 1000 [hb_r 12 0 0, hb_i a1] w1 (fun rv2 w2 => rv2 = some (hb_i r) ∧ Sim w2))
def hp_has (Sim : hb_W → Prop) : Prop := ∀ (w : hb_W) (a1 : Int32), Sim w → hb_O yX11_has cX11_has 2 (some .int) 1000 [hb_r 0 0 0, hb_i a1] w (fun rv w1 => ∃ r : Int32, rv = some (hb_i r) ∧ hb_O yX12_has cX12_has 2 (some .int) 1000 [hb_r 12 0 0, hb_i a1] w1 (fun rv2 w2 => rv2 = some (hb_i r) ∧ Sim w2))
def hp_mark (Sim : hb_W → Prop) : Prop := ∀ (w : hb_W) (a1 a2 : Int32), Sim w → hb_O yX11_mark cX11_mark 3 (some .int) 1000 [hb_r 0 0 0, hb_i a1, hb_i a2] w (fun rv w1 => ∃ r : Int32, rv = some (hb_i r) ∧ hb_O yX12_mark cX12_mark 3 (some .int) 1000 [hb_r 12 0 0, hb_i a1, hb_i a2] w1 (fun rv2 w2 => rv2 = some (hb_i r) ∧ Sim w2))
def hp_passed (Sim : hb_W → Prop) : Prop := ∀ (w : hb_W) (a1 a2 : Int32), Sim w → hb_O yX11_passed cX11_passed 3 (some .int) 1000 [hb_r 0 0 0, hb_i a1, hb_i a2] w (fun rv w1 => ∃ r : Int32, rv = some (hb_i r) ∧ hb_O yX12_passed cX12_passed 3 (some .int) 1000 [hb_r 12 0 0, hb_i a1, hb_i a2] w1 (fun rv2 w2 => rv2 = some (hb_i r) ∧ Sim w2))
def hp_least (Sim : hb_W → Prop) : Prop := ∀ (w : hb_W) (a1 a2 : Int32), Sim w → hb_O yX11_least cX11_least 4 (some .int) 1000 [hb_r 0 0 0, hb_i a1, hb_i a2] w (fun rv w1 => ∃ r : Int32, rv = some (hb_i r) ∧ hb_O yX12_least cX12_least 3 (some .int) 1000 [hb_r 12 0 0, hb_i a1, hb_i a2] w1 (fun rv2 w2 => rv2 = some (hb_i r) ∧ Sim w2))
def hp_run (Sim : hb_W → Prop) : Prop := ∀ (w : hb_W) (a1 : Int32), Sim w → hb_O yX11_run cX11_run 3 (some .int) 1000 [hb_r 0 0 0, hb_i a1] w (fun rv w1 => ∃ r : Int32, rv = some (hb_i r) ∧ hb_O yX12_run cX12_run 2 (some .int) 1000 [hb_r 12 0 0, hb_i a1] w1 (fun rv2 w2 => rv2 = some (hb_i r) ∧ Sim w2))
def hp_often (Sim : hb_W → Prop) : Prop := ∀ (w : hb_W) (a1 a2 a3 : Int32), Sim w → hb_O yX11_often cX11_often 5 (some .int) 1000 [hb_r 0 0 0, hb_i a1, hb_i a2, hb_i a3] w (fun rv w1 => ∃ r : Int32, rv = some (hb_i r) ∧ hb_O yX12_often cX12_often 4 (some .int) 1000 [hb_r 12 0 0, hb_i a1, hb_i a2, hb_i a3] w1 (fun rv2 w2 => rv2 = some (hb_i r) ∧ Sim w2))
def hp_crossed (Sim : hb_W → Prop) : Prop := ∀ (w : hb_W) (a1 a2 a3 : Int32), Sim w → hb_O yX11_crossed cX11_crossed 5 (some .int) 1000 [hb_r 0 0 0, hb_i a1, hb_i a2, hb_i a3] w (fun rv w1 => ∃ r : Int32, rv = some (hb_i r) ∧ hb_O yX12_crossed cX12_crossed 4 (some .int) 1000 [hb_r 12 0 0, hb_i a1, hb_i a2, hb_i a3] w1 (fun rv2 w2 => rv2 = some (hb_i r) ∧ Sim w2))
def hp_bit (Sim : hb_W → Prop) : Prop := ∀ (w : hb_W) (a1 a2 : Int32), Sim w → hb_O yX11_bit cX11_bit 4 (some .int) 1000 [hb_r 0 0 0, hb_i a1, hb_i a2] w (fun rv w1 => ∃ r : Int32, rv = some (hb_i r) ∧ hb_O yX12_bit cX12_bit 3 (some .int) 1000 [hb_r 12 0 0, hb_i a1, hb_i a2] w1 (fun rv2 w2 => rv2 = some (hb_i r) ∧ Sim w2))
def hp_bin (Sim : hb_W → Prop) : Prop := ∀ (w : hb_W) (a1 a2 : Int32), Sim w → hb_O yX11_bin cX11_bin 4 (some .int) 1000 [hb_r 0 0 0, hb_i a1, hb_i a2] w (fun rv w1 => ∃ r : Int32, rv = some (hb_i r) ∧ hb_O yX12_bin cX12_bin 3 (some .int) 1000 [hb_r 12 0 0, hb_i a1, hb_i a2] w1 (fun rv2 w2 => rv2 = some (hb_i r) ∧ Sim w2))
def hp_sign (Sim : hb_W → Prop) : Prop := ∀ (w : hb_W) (a1 a2 : Int32), Sim w → hb_O yX11_sign cX11_sign 4 (some .int) 1000 [hb_r 0 0 0, hb_i a1, hb_i a2] w (fun rv w1 => ∃ r : Int32, rv = some (hb_i r) ∧ hb_O yX12_sign cX12_sign 3 (some .int) 1000 [hb_r 12 0 0, hb_i a1, hb_i a2] w1 (fun rv2 w2 => rv2 = some (hb_i r) ∧ Sim w2))
def hp_lot (Sim : hb_W → Prop) : Prop := ∀ (w : hb_W) (a1 : Int32), Sim w → hb_O yX11_lot cX11_lot 2 (some .int) 1000 [hb_r 0 0 0, hb_i a1] w (fun rv w1 => ∃ r : Int32, rv = some (hb_i r) ∧ hb_O yX12_lot cX12_lot 2 (some .int) 1000 [hb_r 12 0 0, hb_i a1] w1 (fun rv2 w2 => rv2 = some (hb_i r) ∧ Sim w2))
def hp_says (Sim : hb_W → Prop) : Prop := ∀ (w : hb_W) (a1 a2 : Int32), Sim w → hb_O yX11_says cX11_says 4 (some .int) 1000 [hb_r 0 0 0, hb_i a1, hb_i a2] w (fun rv w1 => ∃ r : Int32, rv = some (hb_i r) ∧ hb_O yX12_says cX12_says 3 (some .int) 1000 [hb_r 12 0 0, hb_i a1, hb_i a2] w1 (fun rv2 w2 => rv2 = some (hb_i r) ∧ Sim w2))
def hp_told (Sim : hb_W → Prop) : Prop := ∀ (w : hb_W) (a1 a2 : Int32), Sim w → hb_O yX11_told cX11_told 4 (some .int) 1000 [hb_r 0 0 0, hb_i a1, hb_i a2] w (fun rv w1 => ∃ r : Int32, rv = some (hb_i r) ∧ hb_O yX12_told cX12_told 3 (some .int) 1000 [hb_r 12 0 0, hb_i a1, hb_i a2] w1 (fun rv2 w2 => rv2 = some (hb_i r) ∧ Sim w2))
def hp_was (Sim : hb_W → Prop) : Prop := ∀ (w : hb_W) (a1 a2 : Int32), Sim w → hb_O yX11_was cX11_was 4 (some .int) 1000 [hb_r 0 0 0, hb_i a1, hb_i a2] w (fun rv w1 => ∃ r : Int32, rv = some (hb_i r) ∧ hb_O yX12_was cX12_was 3 (some .int) 1000 [hb_r 12 0 0, hb_i a1, hb_i a2] w1 (fun rv2 w2 => rv2 = some (hb_i r) ∧ Sim w2))
def hp_alike (Sim : hb_W → Prop) : Prop := ∀ (w : hb_W), Sim w → hb_O yX11_alike cX11_alike 1 (some .int) 1000 [hb_r 0 0 0] w (fun rv w1 => ∃ r : Int32, rv = some (hb_i r) ∧ hb_O yX12_alike cX12_alike 3 (some .int) 1000 [hb_r 12 0 0] w1 (fun rv2 w2 => rv2 = some (hb_i r) ∧ Sim w2))
def hp_truth (Sim : hb_W → Prop) : Prop := ∀ (w : hb_W) (a1 a2 : Int32), Sim w → hb_O yX11_truth cX11_truth 5 (some .int) 1000 [hb_r 0 0 0, hb_i a1, hb_i a2] w (fun rv w1 => ∃ r : Int32, rv = some (hb_i r) ∧ hb_O yX12_truth cX12_truth 3 (some .int) 1000 [hb_r 12 0 0, hb_i a1, hb_i a2] w1 (fun rv2 w2 => rv2 = some (hb_i r) ∧ Sim w2))
def hp_times (Sim : hb_W → Prop) : Prop := ∀ (w : hb_W) (a1 a2 : Int32), Sim w → hb_O yX11_times cX11_times 4 (some .int) 1000 [hb_r 0 0 0, hb_i a1, hb_i a2] w (fun rv w1 => ∃ r : Int32, rv = some (hb_i r) ∧ hb_O yX12_times cX12_times 3 (some .int) 1000 [hb_r 12 0 0, hb_i a1, hb_i a2] w1 (fun rv2 w2 => rv2 = some (hb_i r) ∧ Sim w2))
def hp_out (Sim : hb_W → Prop) : Prop := ∀ (w : hb_W) (a1 a2 : Int32), Sim w → hb_O yX11_out cX11_out 4 (some .int) 1000 [hb_r 0 0 0, hb_i a1, hb_i a2] w (fun rv w1 => ∃ r : Int32, rv = some (hb_i r) ∧ hb_O yX12_out cX12_out 3 (some .int) 1000 [hb_r 12 0 0, hb_i a1, hb_i a2] w1 (fun rv2 w2 => rv2 = some (hb_i r) ∧ Sim w2))
def hp_few (Sim : hb_W → Prop) : Prop := ∀ (w : hb_W) (a1 a2 : Int32), Sim w → hb_O yX11_few cX11_few 3 (some .int) 1000 [hb_r 0 0 0, hb_i a1, hb_i a2] w (fun rv w1 => ∃ r : Int32, rv = some (hb_i r) ∧ hb_O yX12_few cX12_few 4 (some .int) 1000 [hb_r 12 0 0, hb_i a1, hb_i a2] w1 (fun rv2 w2 => rv2 = some (hb_i r) ∧ Sim w2))
def hp_best (Sim : hb_W → Prop) : Prop := ∀ (w : hb_W) (a1 a2 : Int32), Sim w → hb_O yX11_best cX11_best 3 (some .int) 1000 [hb_r 0 0 0, hb_i a1, hb_i a2] w (fun rv w1 => ∃ r : Int32, rv = some (hb_i r) ∧ hb_O yX12_best cX12_best 7 (some .int) 1000 [hb_r 12 0 0, hb_i a1, hb_i a2] w1 (fun rv2 w2 => rv2 = some (hb_i r) ∧ Sim w2))
def hp_cross (Sim : hb_W → Prop) : Prop := ∀ (w : hb_W) (a1 a2 : Int32), Sim w → hb_O yX11_cross cX11_cross 3 (some .int) 1000 [hb_r 0 0 0, hb_i a1, hb_i a2] w (fun rv w1 => ∃ r : Int32, rv = some (hb_i r) ∧ hb_O yX12_cross cX12_cross 7 (some .int) 1000 [hb_r 12 0 0, hb_i a1, hb_i a2] w1 (fun rv2 w2 => rv2 = some (hb_i r) ∧ Sim w2))
def hp_same (Sim : hb_W → Prop) : Prop := ∀ (w : hb_W) (a1 : Int32), Sim w → hb_O yX11_same cX11_same 2 (some .int) 1000 [hb_r 0 0 0, hb_i a1] w (fun rv w1 => ∃ r : Int32, rv = some (hb_i r) ∧ hb_O yX12_same cX12_same 4 (some .int) 1000 [hb_r 12 0 0, hb_i a1] w1 (fun rv2 w2 => rv2 = some (hb_i r) ∧ Sim w2))
def hp_pass (Sim : hb_W → Prop) : Prop := ∀ (w : hb_W) (a1 a2 a3 : Int32), Sim w → hb_O yX11_pass cX11_pass 5 (some .int) 1000 [hb_r 0 0 0, hb_i a1, hb_i a2, hb_i a3] w (fun rv w1 => ∃ r : Int32, rv = some (hb_i r) ∧ hb_O yX12_pass cX12_pass 4 (some .int) 1000 [hb_r 12 0 0, hb_i a1, hb_i a2, hb_i a3] w1 (fun rv2 w2 => rv2 = some (hb_i r) ∧ Sim w2))
def hp_night (Sim : hb_W → Prop) : Prop := ∀ (w : hb_W), Sim w → hb_O yX11_night cX11_night 3 (some .int) 1000 [hb_r 0 0 0] w (fun rv w1 => ∃ r : Int32, rv = some (hb_i r) ∧ hb_O yX12_night cX12_night 3 (some .int) 1000 [hb_r 12 0 0] w1 (fun rv2 w2 => rv2 = some (hb_i r) ∧ Sim w2))
def hp_toss (Sim : hb_W → Prop) : Prop := ∀ (w : hb_W) (a1 : Int32), Sim w → hb_O yX11_toss cX11_toss 2 (some .boolean) 1000 [hb_r 0 0 0, hb_i a1] w (fun rv w1 => ∃ r : Int32, rv = some (hb_i r) ∧ hb_O yX12_toss cX12_toss 2 (some .boolean) 1000 [hb_r 12 0 0, hb_i a1] w1 (fun rv2 w2 => rv2 = some (hb_i r) ∧ Sim w2))
def hp_undo (Sim : hb_W → Prop) : Prop := ∀ (w : hb_W), Sim w → hb_O yX11_undo cX11_undo 1 (some .boolean) 1000 [hb_r 0 0 0] w (fun rv w1 => ∃ r : Int32, rv = some (hb_i r) ∧ hb_O yX12_undo cX12_undo 2 (some .boolean) 1000 [hb_r 12 0 0] w1 (fun rv2 w2 => rv2 = some (hb_i r) ∧ Sim w2))
def hp_seed (Sim : hb_W → Prop) : Prop := ∀ (w : hb_W) (a1 : Int32), Sim w → hb_O yX11_seed cX11_seed 2 (some .boolean) 1000 [hb_r 0 0 0, hb_i a1] w (fun rv w1 => ∃ r : Int32, rv = some (hb_i r) ∧ hb_O yX12_seed cX12_seed 2 (some .boolean) 1000 [hb_r 12 0 0, hb_i a1] w1 (fun rv2 w2 => rv2 = some (hb_i r) ∧ Sim w2))
def hp_ask (Sim : hb_W → Prop) : Prop := ∀ (w : hb_W), Sim w → hb_O yX11_ask cX11_ask 2 (some .long) 1000 [hb_r 0 0 0] w (fun rv w1 => ∃ r : Int64, rv = some (hb_l r) ∧ hb_O yX12_ask cX12_ask 3 (some .long) 1000 [hb_r 12 0 0] w1 (fun rv2 w2 => rv2 = some (hb_l r) ∧ Sim w2))
def hp_image (Sim : hb_W → Prop) : Prop := ∀ (w : hb_W), Sim w → hb_O yX11_image cX11_image 1 (some .int) 1000 [hb_r 0 0 0] w (fun rv w1 => ∃ r : Int32, rv = some (hb_i r) ∧ hb_O yX12_image cX12_image 2 (some .int) 1000 [hb_r 12 0 0] w1 (fun rv2 w2 => rv2 = some (hb_i r) ∧ Sim w2))
def hp_octet (Sim : hb_W → Prop) : Prop := ∀ (w : hb_W) (a1 : Int32), Sim w → hb_O yX11_octet cX11_octet 2 (some .int) 1000 [hb_r 0 0 0, hb_i a1] w (fun rv w1 => ∃ r : Int32, rv = some (hb_i r) ∧ hb_O yX12_octet cX12_octet 2 (some .int) 1000 [hb_r 12 0 0, hb_i a1] w1 (fun rv2 w2 => rv2 = some (hb_i r) ∧ Sim w2))
def hp_on (Sim : hb_W → Prop) : Prop := ∀ (w : hb_W), Sim w → hb_O yX11_on cX11_on 2 (some .boolean) 1000 [hb_r 0 0 0] w (fun rv w1 => ∃ r : Int32, rv = some (hb_i r) ∧ hb_O yX12_on cX12_on 3 (some .boolean) 1000 [hb_r 12 0 0] w1 (fun rv2 w2 => rv2 = some (hb_i r) ∧ Sim w2))
def hp_status (Sim : hb_W → Prop) : Prop := ∀ (w : hb_W) (a1 : Int32), Sim w → hb_O yX11_status cX11_status 2 (some .int) 1000 [hb_r 0 0 0, hb_i a1] w (fun rv w1 => ∃ r : Int32, rv = some (hb_i r) ∧ hb_O yX12_status cX12_status 2 (some .int) 1000 [hb_r 12 0 0, hb_i a1] w1 (fun rv2 w2 => rv2 = some (hb_i r) ∧ Sim w2))
def hp_all (Sim : hb_W → Prop) : Prop := hp_feed Sim ∧ hp_end Sim ∧ hp_open Sim ∧ hp_fault Sim ∧ hp_has Sim ∧ hp_mark Sim ∧ hp_passed Sim ∧ hp_least Sim ∧ hp_run Sim ∧ hp_often Sim ∧ hp_crossed Sim ∧ hp_bit Sim ∧ hp_bin Sim ∧ hp_sign Sim ∧ hp_lot Sim ∧ hp_says Sim ∧ hp_told Sim ∧ hp_was Sim ∧ hp_alike Sim ∧ hp_truth Sim ∧ hp_times Sim ∧ hp_out Sim ∧ hp_few Sim ∧ hp_best Sim ∧ hp_cross Sim ∧ hp_same Sim ∧ hp_pass Sim ∧ hp_night Sim ∧ hp_toss Sim ∧ hp_undo Sim ∧ hp_seed Sim ∧ hp_ask Sim ∧ hp_image Sim ∧ hp_octet Sim ∧ hp_on Sim ∧ hp_status Sim
abbrev hl_C (p : Program) (s : State) (m : MethodId) (meth : Method) (c : Code) (cells slots : Nat) (D : va_G) (cA : Nat → ClassId) (b : Nat) : Prop := hb_C yL_law cL_law 4 ret 1001 p room_1 s m #[Value.ref b] meth c cells slots D cA (hd_ad b s.heap.size) s.heap
abbrev hl_ls (i : Nat) : List (Option hb_V) := [some (hb_r 13 0 0), some (hb_r 0 0 0), some (hb_r 12 0 0), some (hb_i (nI i))]
theorem hl_in {i L : Nat} (k : Nat) (hk : k ≤ 5) (h : i + 6 ≤ L) (hL : L ≤ 384) : vp_in (nI i + nI k) L := by
  rw [nI_add]
  exact vp_in_nI (by omega) (by omega)
theorem hl_case_0 {p : Program} {l : Launch} {e : Env} {s : State} {m : MethodId} {below : List Frame} {meth : Method} {c : Code} {b L : Nat} {xs : Nat → Int32} {cells slots : Nat} {D : va_G} {cA : Nat → ClassId} {Z : State → Prop} {Sim : hb_W → Prop} (hp : hp_feed Sim) (hL : L ≤ 384) (C : hl_C p s m meth c cells slots D cA b) (hX : va_X b L xs s s.heap) (hbl : b < s.heap.size) {i : Nat} (hi : i + 6 ≤ L) {w : hb_W} (hS : Sim w) {H : Heap} {locs : List Loc} {lsm : Array Slot} (hH : hb_H D cA (hd_ad b s.heap.size) s.heap w H locs) (hA : hb_L (hd_ad b s.heap.size) 4 (hl_ls i) lsm)
    (kk : ∀ (w2 : hb_W) (H2 : Heap) (locs2 : List Loc), Sim w2 → hb_H D cA (hd_ad b s.heap.size) s.heap w2 H2 locs2 → W p l e room_1 s m #[Value.ref b] below meth c H2 locs2 cells slots Z (F0 m 1201 lsm [])) : W p l e room_1 s m #[Value.ref b] below meth c H locs cells slots Z (F0 m 192 lsm []) := by
  have hbA : ¬ (fun q : Nat => s.heap.size ≤ q) b := Nat.not_le.mpr hbl
  refine lv_aload_n C.1 C.2.1 dL_law_192 rfl (hA.2.2 1 _ rfl) ?_
  refine lv_aload_n C.1 C.2.1 dL_law_193 rfl (hA.2.2 0 _ rfl) ?_
  refine lv_iload_n C.1 C.2.1 dL_law_194 rfl (hA.2.2 3 _ rfl) ?_
  refine lv_iconst (v := 1) C.1 C.2.1 dL_law_195 (by decide) ?_
  refine lv_iadd C.1 C.2.1 dL_law_196 ?_
  refine va_sld (b := b) C.1 C.2.1 hX hbl hbA hH.2 (hl_in 1 (by decide) hi hL) dL_law_197 ?_
  refine lv_aload_n C.1 C.2.1 dL_law_198 rfl (hA.2.2 0 _ rfl) ?_
  refine lv_iload_n C.1 C.2.1 dL_law_199 rfl (hA.2.2 3 _ rfl) ?_
  refine lv_iconst (v := 2) C.1 C.2.1 dL_law_200 (by decide) ?_
  refine lv_iadd C.1 C.2.1 dL_law_201 ?_
  refine va_sld (b := b) C.1 C.2.1 hX hbl hbA hH.2 (hl_in 2 (by decide) hi hL) dL_law_202 ?_
  refine lv_aload_n C.1 C.2.1 dL_law_203 rfl (hA.2.2 0 _ rfl) ?_
  refine lv_iload_n C.1 C.2.1 dL_law_204 rfl (hA.2.2 3 _ rfl) ?_
  refine lv_iconst (v := 3) C.1 C.2.1 dL_law_205 (by decide) ?_
  refine lv_iadd C.1 C.2.1 dL_law_206 ?_
  refine va_sld (b := b) C.1 C.2.1 hX hbl hbA hH.2 (hl_in 3 (by decide) hi hL) dL_law_207 ?_
  refine lv_aload_n C.1 C.2.1 dL_law_208 rfl (hA.2.2 0 _ rfl) ?_
  refine lv_iload_n C.1 C.2.1 dL_law_209 rfl (hA.2.2 3 _ rfl) ?_
  refine lv_iconst (v := 4) C.1 C.2.1 dL_law_210 (by decide) ?_
  refine lv_iadd C.1 C.2.1 dL_law_211 ?_
  refine va_sld (b := b) C.1 C.2.1 hX hbl hbA hH.2 (hl_in 4 (by decide) hi hL) dL_law_212 ?_
  refine lv_aload_n C.1 C.2.1 dL_law_213 rfl (hA.2.2 0 _ rfl) ?_
  refine lv_iload_n C.1 C.2.1 dL_law_214 rfl (hA.2.2 3 _ rfl) ?_
  refine lv_iconst (v := 5) C.1 C.2.1 dL_law_215 (by decide) ?_
  refine lv_iadd C.1 C.2.1 dL_law_216 ?_
  refine va_sld (b := b) C.1 C.2.1 hX hbl hbA hH.2 (hl_in 5 (by decide) hi hL) dL_law_217 ?_
  show W p l e room_1 s m #[Value.ref b] below meth c H locs cells slots Z (F0 m 218 lsm (([hb_i (xs (nI i + 5).toNatClampNeg), hb_i (xs (nI i + 4).toNatClampNeg), hb_i (xs (nI i + 3).toNatClampNeg), hb_i (xs (nI i + 2).toNatClampNeg), hb_i (xs (nI i + 1).toNatClampNeg), hb_r 0 0 0] : List hb_V).map (hb_cv (hd_ad b s.heap.size))))
  refine hl_call (As := [hb_i (xs (nI i + 1).toNatClampNeg), hb_i (xs (nI i + 2).toNatClampNeg), hb_i (xs (nI i + 3).toNatClampNeg), hb_i (xs (nI i + 4).toNatClampNeg), hb_i (xs (nI i + 5).toNatClampNeg)]) (st := []) C dL_law_218 ml_L_13 mf_X11_feed mi_X11_feed (t := 0) (g := 0) (ci := 11) rfl rfl (by decide) rfl (Nat.le_of_ble_eq_true rfl) (Nat.le_of_ble_eq_true rfl) (hp w (xs (nI i + 1).toNatClampNeg) (xs (nI i + 2).toNatClampNeg) (xs (nI i + 3).toNatClampNeg) (xs (nI i + 4).toNatClampNeg) (xs (nI i + 5).toNatClampNeg) hS) hH hA.1 ?_
  rintro rv w1 H1 locs1 ⟨r, rfl, hO2⟩ hH1
  show W p l e room_1 s m #[Value.ref b] below meth c H1 locs1 cells slots Z (F0 m 221 lsm (([hb_i r] : List hb_V).map (hb_cv (hd_ad b s.heap.size))))
  refine lv_aload_n C.1 C.2.1 dL_law_221 rfl (hA.2.2 2 _ rfl) ?_
  refine lv_aload_n C.1 C.2.1 dL_law_222 rfl (hA.2.2 0 _ rfl) ?_
  refine lv_iload_n C.1 C.2.1 dL_law_223 rfl (hA.2.2 3 _ rfl) ?_
  refine lv_iconst (v := 1) C.1 C.2.1 dL_law_224 (by decide) ?_
  refine lv_iadd C.1 C.2.1 dL_law_225 ?_
  refine va_sld (b := b) C.1 C.2.1 hX hbl hbA hH1.2 (hl_in 1 (by decide) hi hL) dL_law_226 ?_
  refine lv_aload_n C.1 C.2.1 dL_law_227 rfl (hA.2.2 0 _ rfl) ?_
  refine lv_iload_n C.1 C.2.1 dL_law_228 rfl (hA.2.2 3 _ rfl) ?_
  refine lv_iconst (v := 2) C.1 C.2.1 dL_law_229 (by decide) ?_
  refine lv_iadd C.1 C.2.1 dL_law_230 ?_
  refine va_sld (b := b) C.1 C.2.1 hX hbl hbA hH1.2 (hl_in 2 (by decide) hi hL) dL_law_231 ?_
  refine lv_aload_n C.1 C.2.1 dL_law_232 rfl (hA.2.2 0 _ rfl) ?_
  refine lv_iload_n C.1 C.2.1 dL_law_233 rfl (hA.2.2 3 _ rfl) ?_
  refine lv_iconst (v := 3) C.1 C.2.1 dL_law_234 (by decide) ?_
  refine lv_iadd C.1 C.2.1 dL_law_235 ?_
  refine va_sld (b := b) C.1 C.2.1 hX hbl hbA hH1.2 (hl_in 3 (by decide) hi hL) dL_law_236 ?_
  refine lv_aload_n C.1 C.2.1 dL_law_237 rfl (hA.2.2 0 _ rfl) ?_
  refine lv_iload_n C.1 C.2.1 dL_law_238 rfl (hA.2.2 3 _ rfl) ?_
  refine lv_iconst (v := 4) C.1 C.2.1 dL_law_239 (by decide) ?_
  refine lv_iadd C.1 C.2.1 dL_law_240 ?_
  refine va_sld (b := b) C.1 C.2.1 hX hbl hbA hH1.2 (hl_in 4 (by decide) hi hL) dL_law_241 ?_
  refine lv_aload_n C.1 C.2.1 dL_law_242 rfl (hA.2.2 0 _ rfl) ?_
  refine lv_iload_n C.1 C.2.1 dL_law_243 rfl (hA.2.2 3 _ rfl) ?_
  refine lv_iconst (v := 5) C.1 C.2.1 dL_law_244 (by decide) ?_
  refine lv_iadd C.1 C.2.1 dL_law_245 ?_
  refine va_sld (b := b) C.1 C.2.1 hX hbl hbA hH1.2 (hl_in 5 (by decide) hi hL) dL_law_246 ?_
  show W p l e room_1 s m #[Value.ref b] below meth c H1 locs1 cells slots Z (F0 m 247 lsm (([hb_i (xs (nI i + 5).toNatClampNeg), hb_i (xs (nI i + 4).toNatClampNeg), hb_i (xs (nI i + 3).toNatClampNeg), hb_i (xs (nI i + 2).toNatClampNeg), hb_i (xs (nI i + 1).toNatClampNeg), hb_r 12 0 0, hb_i r] : List hb_V).map (hb_cv (hd_ad b s.heap.size))))
  refine hl_call (As := [hb_i (xs (nI i + 1).toNatClampNeg), hb_i (xs (nI i + 2).toNatClampNeg), hb_i (xs (nI i + 3).toNatClampNeg), hb_i (xs (nI i + 4).toNatClampNeg), hb_i (xs (nI i + 5).toNatClampNeg)]) (st := [hb_i r]) C dL_law_247 ml_L_17 mf_X12_feed mi_X12_feed (t := 12) (g := 0) (ci := 12) rfl rfl (by decide) rfl (Nat.le_of_ble_eq_true rfl) (Nat.le_of_ble_eq_true rfl) hO2 hH1 hA.1 ?_
  rintro rv w2 H2 locs2 ⟨rfl, hS2⟩ hH2
  show W p l e room_1 s m #[Value.ref b] below meth c H2 locs2 cells slots Z (F0 m 250 lsm (([hb_i r, hb_i r] : List hb_V).map (hb_cv (hd_ad b s.heap.size))))
  refine lv_icmp_eq (tgt := 1201) C.1 C.2.1 dL_law_250 (by decide) (fun _ => ?_) (fun q => absurd rfl q)
  exact kk w2 H2 locs2 hS2 hH2
theorem hl_case_1 {p : Program} {l : Launch} {e : Env} {s : State} {m : MethodId} {below : List Frame} {meth : Method} {c : Code} {b L : Nat} {xs : Nat → Int32} {cells slots : Nat} {D : va_G} {cA : Nat → ClassId} {Z : State → Prop} {Sim : hb_W → Prop} (hp : hp_end Sim) (hL : L ≤ 384) (C : hl_C p s m meth c cells slots D cA b) (hX : va_X b L xs s s.heap) (hbl : b < s.heap.size) {i : Nat} (hi : i + 6 ≤ L) {w : hb_W} (hS : Sim w) {H : Heap} {locs : List Loc} {lsm : Array Slot} (hH : hb_H D cA (hd_ad b s.heap.size) s.heap w H locs) (hA : hb_L (hd_ad b s.heap.size) 4 (hl_ls i) lsm)
    (kk : ∀ (w2 : hb_W) (H2 : Heap) (locs2 : List Loc), Sim w2 → hb_H D cA (hd_ad b s.heap.size) s.heap w2 H2 locs2 → W p l e room_1 s m #[Value.ref b] below meth c H2 locs2 cells slots Z (F0 m 1201 lsm [])) : W p l e room_1 s m #[Value.ref b] below meth c H locs cells slots Z (F0 m 255 lsm []) := by
  have hbA : ¬ (fun q : Nat => s.heap.size ≤ q) b := Nat.not_le.mpr hbl
  refine lv_aload_n C.1 C.2.1 dL_law_255 rfl (hA.2.2 1 _ rfl) ?_
  refine lv_aload_n C.1 C.2.1 dL_law_256 rfl (hA.2.2 0 _ rfl) ?_
  refine lv_iload_n C.1 C.2.1 dL_law_257 rfl (hA.2.2 3 _ rfl) ?_
  refine lv_iconst (v := 1) C.1 C.2.1 dL_law_258 (by decide) ?_
  refine lv_iadd C.1 C.2.1 dL_law_259 ?_
  refine va_sld (b := b) C.1 C.2.1 hX hbl hbA hH.2 (hl_in 1 (by decide) hi hL) dL_law_260 ?_
  show W p l e room_1 s m #[Value.ref b] below meth c H locs cells slots Z (F0 m 261 lsm (([hb_i (xs (nI i + 1).toNatClampNeg), hb_r 0 0 0] : List hb_V).map (hb_cv (hd_ad b s.heap.size))))
  refine hl_call (As := [hb_i (xs (nI i + 1).toNatClampNeg)]) (st := []) C dL_law_261 ml_L_18 mf_X11_end mi_X11_end (t := 0) (g := 0) (ci := 11) rfl rfl (by decide) rfl (Nat.le_of_ble_eq_true rfl) (Nat.le_of_ble_eq_true rfl) (hp w (xs (nI i + 1).toNatClampNeg) hS) hH hA.1 ?_
  rintro rv w1 H1 locs1 ⟨r, rfl, hO2⟩ hH1
  show W p l e room_1 s m #[Value.ref b] below meth c H1 locs1 cells slots Z (F0 m 264 lsm (([hb_i r] : List hb_V).map (hb_cv (hd_ad b s.heap.size))))
  refine lv_aload_n C.1 C.2.1 dL_law_264 rfl (hA.2.2 2 _ rfl) ?_
  refine lv_aload_n C.1 C.2.1 dL_law_265 rfl (hA.2.2 0 _ rfl) ?_
  refine lv_iload_n C.1 C.2.1 dL_law_266 rfl (hA.2.2 3 _ rfl) ?_
  refine lv_iconst (v := 1) C.1 C.2.1 dL_law_267 (by decide) ?_
  refine lv_iadd C.1 C.2.1 dL_law_268 ?_
  refine va_sld (b := b) C.1 C.2.1 hX hbl hbA hH1.2 (hl_in 1 (by decide) hi hL) dL_law_269 ?_
  show W p l e room_1 s m #[Value.ref b] below meth c H1 locs1 cells slots Z (F0 m 270 lsm (([hb_i (xs (nI i + 1).toNatClampNeg), hb_r 12 0 0, hb_i r] : List hb_V).map (hb_cv (hd_ad b s.heap.size))))
  refine hl_call (As := [hb_i (xs (nI i + 1).toNatClampNeg)]) (st := [hb_i r]) C dL_law_270 ml_L_22 mf_X12_end mi_X12_end (t := 12) (g := 0) (ci := 12) rfl rfl (by decide) rfl (Nat.le_of_ble_eq_true rfl) (Nat.le_of_ble_eq_true rfl) hO2 hH1 hA.1 ?_
  rintro rv w2 H2 locs2 ⟨rfl, hS2⟩ hH2
  show W p l e room_1 s m #[Value.ref b] below meth c H2 locs2 cells slots Z (F0 m 273 lsm (([hb_i r, hb_i r] : List hb_V).map (hb_cv (hd_ad b s.heap.size))))
  refine lv_icmp_eq (tgt := 1201) C.1 C.2.1 dL_law_273 (by decide) (fun _ => ?_) (fun q => absurd rfl q)
  exact kk w2 H2 locs2 hS2 hH2
theorem hl_case_2 {p : Program} {l : Launch} {e : Env} {s : State} {m : MethodId} {below : List Frame} {meth : Method} {c : Code} {b L : Nat} {xs : Nat → Int32} {cells slots : Nat} {D : va_G} {cA : Nat → ClassId} {Z : State → Prop} {Sim : hb_W → Prop} (hp : hp_open Sim) (hL : L ≤ 384) (C : hl_C p s m meth c cells slots D cA b) (hX : va_X b L xs s s.heap) (hbl : b < s.heap.size) {i : Nat} (hi : i + 6 ≤ L) {w : hb_W} (hS : Sim w) {H : Heap} {locs : List Loc} {lsm : Array Slot} (hH : hb_H D cA (hd_ad b s.heap.size) s.heap w H locs) (hA : hb_L (hd_ad b s.heap.size) 4 (hl_ls i) lsm)
    (kk : ∀ (w2 : hb_W) (H2 : Heap) (locs2 : List Loc), Sim w2 → hb_H D cA (hd_ad b s.heap.size) s.heap w2 H2 locs2 → W p l e room_1 s m #[Value.ref b] below meth c H2 locs2 cells slots Z (F0 m 1201 lsm [])) : W p l e room_1 s m #[Value.ref b] below meth c H locs cells slots Z (F0 m 278 lsm []) := by
  have hbA : ¬ (fun q : Nat => s.heap.size ≤ q) b := Nat.not_le.mpr hbl
  refine lv_aload_n C.1 C.2.1 dL_law_278 rfl (hA.2.2 1 _ rfl) ?_
  show W p l e room_1 s m #[Value.ref b] below meth c H locs cells slots Z (F0 m 279 lsm (([hb_r 0 0 0] : List hb_V).map (hb_cv (hd_ad b s.heap.size))))
  refine hl_call (As := []) (st := []) C dL_law_279 ml_L_23 mf_X11_open mi_X11_open (t := 0) (g := 0) (ci := 11) rfl rfl (by decide) rfl (Nat.le_of_ble_eq_true rfl) (Nat.le_of_ble_eq_true rfl) (hp w hS) hH hA.1 ?_
  rintro rv w1 H1 locs1 ⟨r, rfl, hO2⟩ hH1
  show W p l e room_1 s m #[Value.ref b] below meth c H1 locs1 cells slots Z (F0 m 282 lsm (([hb_i r] : List hb_V).map (hb_cv (hd_ad b s.heap.size))))
  refine lv_aload_n C.1 C.2.1 dL_law_282 rfl (hA.2.2 2 _ rfl) ?_
  show W p l e room_1 s m #[Value.ref b] below meth c H1 locs1 cells slots Z (F0 m 283 lsm (([hb_r 12 0 0, hb_i r] : List hb_V).map (hb_cv (hd_ad b s.heap.size))))
  refine hl_call (As := []) (st := [hb_i r]) C dL_law_283 ml_L_27 mf_X12_open mi_X12_open (t := 12) (g := 0) (ci := 12) rfl rfl (by decide) rfl (Nat.le_of_ble_eq_true rfl) (Nat.le_of_ble_eq_true rfl) hO2 hH1 hA.1 ?_
  rintro rv w2 H2 locs2 ⟨rfl, hS2⟩ hH2
  show W p l e room_1 s m #[Value.ref b] below meth c H2 locs2 cells slots Z (F0 m 286 lsm (([hb_i r, hb_i r] : List hb_V).map (hb_cv (hd_ad b s.heap.size))))
  refine lv_icmp_eq (tgt := 1201) C.1 C.2.1 dL_law_286 (by decide) (fun _ => ?_) (fun q => absurd rfl q)
  exact kk w2 H2 locs2 hS2 hH2
theorem hl_case_3 {p : Program} {l : Launch} {e : Env} {s : State} {m : MethodId} {below : List Frame} {meth : Method} {c : Code} {b L : Nat} {xs : Nat → Int32} {cells slots : Nat} {D : va_G} {cA : Nat → ClassId} {Z : State → Prop} {Sim : hb_W → Prop} (hp : hp_fault Sim) (hL : L ≤ 384) (C : hl_C p s m meth c cells slots D cA b) (hX : va_X b L xs s s.heap) (hbl : b < s.heap.size) {i : Nat} (hi : i + 6 ≤ L) {w : hb_W} (hS : Sim w) {H : Heap} {locs : List Loc} {lsm : Array Slot} (hH : hb_H D cA (hd_ad b s.heap.size) s.heap w H locs) (hA : hb_L (hd_ad b s.heap.size) 4 (hl_ls i) lsm)
    (kk : ∀ (w2 : hb_W) (H2 : Heap) (locs2 : List Loc), Sim w2 → hb_H D cA (hd_ad b s.heap.size) s.heap w2 H2 locs2 → W p l e room_1 s m #[Value.ref b] below meth c H2 locs2 cells slots Z (F0 m 1201 lsm [])) : W p l e room_1 s m #[Value.ref b] below meth c H locs cells slots Z (F0 m 291 lsm []) := by
  have hbA : ¬ (fun q : Nat => s.heap.size ≤ q) b := Nat.not_le.mpr hbl
  refine lv_aload_n C.1 C.2.1 dL_law_291 rfl (hA.2.2 1 _ rfl) ?_
  refine lv_aload_n C.1 C.2.1 dL_law_292 rfl (hA.2.2 0 _ rfl) ?_
  refine lv_iload_n C.1 C.2.1 dL_law_293 rfl (hA.2.2 3 _ rfl) ?_
  refine lv_iconst (v := 1) C.1 C.2.1 dL_law_294 (by decide) ?_
  refine lv_iadd C.1 C.2.1 dL_law_295 ?_
  refine va_sld (b := b) C.1 C.2.1 hX hbl hbA hH.2 (hl_in 1 (by decide) hi hL) dL_law_296 ?_
  show W p l e room_1 s m #[Value.ref b] below meth c H locs cells slots Z (F0 m 297 lsm (([hb_i (xs (nI i + 1).toNatClampNeg), hb_r 0 0 0] : List hb_V).map (hb_cv (hd_ad b s.heap.size))))
  refine hl_call (As := [hb_i (xs (nI i + 1).toNatClampNeg)]) (st := []) C dL_law_297 ml_L_28 mf_X11_fault mi_X11_fault (t := 0) (g := 0) (ci := 11) rfl rfl (by decide) rfl (Nat.le_of_ble_eq_true rfl) (Nat.le_of_ble_eq_true rfl) (hp w (xs (nI i + 1).toNatClampNeg) hS) hH hA.1 ?_
  rintro rv w1 H1 locs1 ⟨r, rfl, hO2⟩ hH1
  show W p l e room_1 s m #[Value.ref b] below meth c H1 locs1 cells slots Z (F0 m 300 lsm (([hb_i r] : List hb_V).map (hb_cv (hd_ad b s.heap.size))))
  refine lv_aload_n C.1 C.2.1 dL_law_300 rfl (hA.2.2 2 _ rfl) ?_
  refine lv_aload_n C.1 C.2.1 dL_law_301 rfl (hA.2.2 0 _ rfl) ?_
  refine lv_iload_n C.1 C.2.1 dL_law_302 rfl (hA.2.2 3 _ rfl) ?_
  refine lv_iconst (v := 1) C.1 C.2.1 dL_law_303 (by decide) ?_
  refine lv_iadd C.1 C.2.1 dL_law_304 ?_
  refine va_sld (b := b) C.1 C.2.1 hX hbl hbA hH1.2 (hl_in 1 (by decide) hi hL) dL_law_305 ?_
  show W p l e room_1 s m #[Value.ref b] below meth c H1 locs1 cells slots Z (F0 m 306 lsm (([hb_i (xs (nI i + 1).toNatClampNeg), hb_r 12 0 0, hb_i r] : List hb_V).map (hb_cv (hd_ad b s.heap.size))))
  refine hl_call (As := [hb_i (xs (nI i + 1).toNatClampNeg)]) (st := [hb_i r]) C dL_law_306 ml_L_32 mf_X12_fault mi_X12_fault (t := 12) (g := 0) (ci := 12) rfl rfl (by decide) rfl (Nat.le_of_ble_eq_true rfl) (Nat.le_of_ble_eq_true rfl) hO2 hH1 hA.1 ?_
  rintro rv w2 H2 locs2 ⟨rfl, hS2⟩ hH2
  show W p l e room_1 s m #[Value.ref b] below meth c H2 locs2 cells slots Z (F0 m 309 lsm (([hb_i r, hb_i r] : List hb_V).map (hb_cv (hd_ad b s.heap.size))))
  refine lv_icmp_eq (tgt := 1201) C.1 C.2.1 dL_law_309 (by decide) (fun _ => ?_) (fun q => absurd rfl q)
  exact kk w2 H2 locs2 hS2 hH2
theorem hl_case_4 {p : Program} {l : Launch} {e : Env} {s : State} {m : MethodId} {below : List Frame} {meth : Method} {c : Code} {b L : Nat} {xs : Nat → Int32} {cells slots : Nat} {D : va_G} {cA : Nat → ClassId} {Z : State → Prop} {Sim : hb_W → Prop} (hp : hp_has Sim) (hL : L ≤ 384) (C : hl_C p s m meth c cells slots D cA b) (hX : va_X b L xs s s.heap) (hbl : b < s.heap.size) {i : Nat} (hi : i + 6 ≤ L) {w : hb_W} (hS : Sim w) {H : Heap} {locs : List Loc} {lsm : Array Slot} (hH : hb_H D cA (hd_ad b s.heap.size) s.heap w H locs) (hA : hb_L (hd_ad b s.heap.size) 4 (hl_ls i) lsm)
    (kk : ∀ (w2 : hb_W) (H2 : Heap) (locs2 : List Loc), Sim w2 → hb_H D cA (hd_ad b s.heap.size) s.heap w2 H2 locs2 → W p l e room_1 s m #[Value.ref b] below meth c H2 locs2 cells slots Z (F0 m 1201 lsm [])) : W p l e room_1 s m #[Value.ref b] below meth c H locs cells slots Z (F0 m 314 lsm []) := by
  have hbA : ¬ (fun q : Nat => s.heap.size ≤ q) b := Nat.not_le.mpr hbl
  refine lv_aload_n C.1 C.2.1 dL_law_314 rfl (hA.2.2 1 _ rfl) ?_
  refine lv_aload_n C.1 C.2.1 dL_law_315 rfl (hA.2.2 0 _ rfl) ?_
  refine lv_iload_n C.1 C.2.1 dL_law_316 rfl (hA.2.2 3 _ rfl) ?_
  refine lv_iconst (v := 1) C.1 C.2.1 dL_law_317 (by decide) ?_
  refine lv_iadd C.1 C.2.1 dL_law_318 ?_
  refine va_sld (b := b) C.1 C.2.1 hX hbl hbA hH.2 (hl_in 1 (by decide) hi hL) dL_law_319 ?_
  show W p l e room_1 s m #[Value.ref b] below meth c H locs cells slots Z (F0 m 320 lsm (([hb_i (xs (nI i + 1).toNatClampNeg), hb_r 0 0 0] : List hb_V).map (hb_cv (hd_ad b s.heap.size))))
  refine hl_call (As := [hb_i (xs (nI i + 1).toNatClampNeg)]) (st := []) C dL_law_320 ml_L_33 mf_X11_has mi_X11_has (t := 0) (g := 0) (ci := 11) rfl rfl (by decide) rfl (Nat.le_of_ble_eq_true rfl) (Nat.le_of_ble_eq_true rfl) (hp w (xs (nI i + 1).toNatClampNeg) hS) hH hA.1 ?_
  rintro rv w1 H1 locs1 ⟨r, rfl, hO2⟩ hH1
  show W p l e room_1 s m #[Value.ref b] below meth c H1 locs1 cells slots Z (F0 m 323 lsm (([hb_i r] : List hb_V).map (hb_cv (hd_ad b s.heap.size))))
  refine lv_aload_n C.1 C.2.1 dL_law_323 rfl (hA.2.2 2 _ rfl) ?_
  refine lv_aload_n C.1 C.2.1 dL_law_324 rfl (hA.2.2 0 _ rfl) ?_
  refine lv_iload_n C.1 C.2.1 dL_law_325 rfl (hA.2.2 3 _ rfl) ?_
  refine lv_iconst (v := 1) C.1 C.2.1 dL_law_326 (by decide) ?_
  refine lv_iadd C.1 C.2.1 dL_law_327 ?_
  refine va_sld (b := b) C.1 C.2.1 hX hbl hbA hH1.2 (hl_in 1 (by decide) hi hL) dL_law_328 ?_
  show W p l e room_1 s m #[Value.ref b] below meth c H1 locs1 cells slots Z (F0 m 329 lsm (([hb_i (xs (nI i + 1).toNatClampNeg), hb_r 12 0 0, hb_i r] : List hb_V).map (hb_cv (hd_ad b s.heap.size))))
  refine hl_call (As := [hb_i (xs (nI i + 1).toNatClampNeg)]) (st := [hb_i r]) C dL_law_329 ml_L_36 mf_X12_has mi_X12_has (t := 12) (g := 0) (ci := 12) rfl rfl (by decide) rfl (Nat.le_of_ble_eq_true rfl) (Nat.le_of_ble_eq_true rfl) hO2 hH1 hA.1 ?_
  rintro rv w2 H2 locs2 ⟨rfl, hS2⟩ hH2
  show W p l e room_1 s m #[Value.ref b] below meth c H2 locs2 cells slots Z (F0 m 332 lsm (([hb_i r, hb_i r] : List hb_V).map (hb_cv (hd_ad b s.heap.size))))
  refine lv_icmp_eq (tgt := 1201) C.1 C.2.1 dL_law_332 (by decide) (fun _ => ?_) (fun q => absurd rfl q)
  exact kk w2 H2 locs2 hS2 hH2
theorem hl_case_5 {p : Program} {l : Launch} {e : Env} {s : State} {m : MethodId} {below : List Frame} {meth : Method} {c : Code} {b L : Nat} {xs : Nat → Int32} {cells slots : Nat} {D : va_G} {cA : Nat → ClassId} {Z : State → Prop} {Sim : hb_W → Prop} (hp : hp_mark Sim) (hL : L ≤ 384) (C : hl_C p s m meth c cells slots D cA b) (hX : va_X b L xs s s.heap) (hbl : b < s.heap.size) {i : Nat} (hi : i + 6 ≤ L) {w : hb_W} (hS : Sim w) {H : Heap} {locs : List Loc} {lsm : Array Slot} (hH : hb_H D cA (hd_ad b s.heap.size) s.heap w H locs) (hA : hb_L (hd_ad b s.heap.size) 4 (hl_ls i) lsm)
    (kk : ∀ (w2 : hb_W) (H2 : Heap) (locs2 : List Loc), Sim w2 → hb_H D cA (hd_ad b s.heap.size) s.heap w2 H2 locs2 → W p l e room_1 s m #[Value.ref b] below meth c H2 locs2 cells slots Z (F0 m 1201 lsm [])) : W p l e room_1 s m #[Value.ref b] below meth c H locs cells slots Z (F0 m 337 lsm []) := by
  have hbA : ¬ (fun q : Nat => s.heap.size ≤ q) b := Nat.not_le.mpr hbl
  refine lv_aload_n C.1 C.2.1 dL_law_337 rfl (hA.2.2 1 _ rfl) ?_
  refine lv_aload_n C.1 C.2.1 dL_law_338 rfl (hA.2.2 0 _ rfl) ?_
  refine lv_iload_n C.1 C.2.1 dL_law_339 rfl (hA.2.2 3 _ rfl) ?_
  refine lv_iconst (v := 1) C.1 C.2.1 dL_law_340 (by decide) ?_
  refine lv_iadd C.1 C.2.1 dL_law_341 ?_
  refine va_sld (b := b) C.1 C.2.1 hX hbl hbA hH.2 (hl_in 1 (by decide) hi hL) dL_law_342 ?_
  refine lv_aload_n C.1 C.2.1 dL_law_343 rfl (hA.2.2 0 _ rfl) ?_
  refine lv_iload_n C.1 C.2.1 dL_law_344 rfl (hA.2.2 3 _ rfl) ?_
  refine lv_iconst (v := 2) C.1 C.2.1 dL_law_345 (by decide) ?_
  refine lv_iadd C.1 C.2.1 dL_law_346 ?_
  refine va_sld (b := b) C.1 C.2.1 hX hbl hbA hH.2 (hl_in 2 (by decide) hi hL) dL_law_347 ?_
  show W p l e room_1 s m #[Value.ref b] below meth c H locs cells slots Z (F0 m 348 lsm (([hb_i (xs (nI i + 2).toNatClampNeg), hb_i (xs (nI i + 1).toNatClampNeg), hb_r 0 0 0] : List hb_V).map (hb_cv (hd_ad b s.heap.size))))
  refine hl_call (As := [hb_i (xs (nI i + 1).toNatClampNeg), hb_i (xs (nI i + 2).toNatClampNeg)]) (st := []) C dL_law_348 ml_L_37 mf_X11_mark mi_X11_mark (t := 0) (g := 0) (ci := 11) rfl rfl (by decide) rfl (Nat.le_of_ble_eq_true rfl) (Nat.le_of_ble_eq_true rfl) (hp w (xs (nI i + 1).toNatClampNeg) (xs (nI i + 2).toNatClampNeg) hS) hH hA.1 ?_
  rintro rv w1 H1 locs1 ⟨r, rfl, hO2⟩ hH1
  show W p l e room_1 s m #[Value.ref b] below meth c H1 locs1 cells slots Z (F0 m 351 lsm (([hb_i r] : List hb_V).map (hb_cv (hd_ad b s.heap.size))))
  refine lv_aload_n C.1 C.2.1 dL_law_351 rfl (hA.2.2 2 _ rfl) ?_
  refine lv_aload_n C.1 C.2.1 dL_law_352 rfl (hA.2.2 0 _ rfl) ?_
  refine lv_iload_n C.1 C.2.1 dL_law_353 rfl (hA.2.2 3 _ rfl) ?_
  refine lv_iconst (v := 1) C.1 C.2.1 dL_law_354 (by decide) ?_
  refine lv_iadd C.1 C.2.1 dL_law_355 ?_
  refine va_sld (b := b) C.1 C.2.1 hX hbl hbA hH1.2 (hl_in 1 (by decide) hi hL) dL_law_356 ?_
  refine lv_aload_n C.1 C.2.1 dL_law_357 rfl (hA.2.2 0 _ rfl) ?_
  refine lv_iload_n C.1 C.2.1 dL_law_358 rfl (hA.2.2 3 _ rfl) ?_
  refine lv_iconst (v := 2) C.1 C.2.1 dL_law_359 (by decide) ?_
  refine lv_iadd C.1 C.2.1 dL_law_360 ?_
  refine va_sld (b := b) C.1 C.2.1 hX hbl hbA hH1.2 (hl_in 2 (by decide) hi hL) dL_law_361 ?_
  show W p l e room_1 s m #[Value.ref b] below meth c H1 locs1 cells slots Z (F0 m 362 lsm (([hb_i (xs (nI i + 2).toNatClampNeg), hb_i (xs (nI i + 1).toNatClampNeg), hb_r 12 0 0, hb_i r] : List hb_V).map (hb_cv (hd_ad b s.heap.size))))
  refine hl_call (As := [hb_i (xs (nI i + 1).toNatClampNeg), hb_i (xs (nI i + 2).toNatClampNeg)]) (st := [hb_i r]) C dL_law_362 ml_L_41 mf_X12_mark mi_X12_mark (t := 12) (g := 0) (ci := 12) rfl rfl (by decide) rfl (Nat.le_of_ble_eq_true rfl) (Nat.le_of_ble_eq_true rfl) hO2 hH1 hA.1 ?_
  rintro rv w2 H2 locs2 ⟨rfl, hS2⟩ hH2
  show W p l e room_1 s m #[Value.ref b] below meth c H2 locs2 cells slots Z (F0 m 365 lsm (([hb_i r, hb_i r] : List hb_V).map (hb_cv (hd_ad b s.heap.size))))
  refine lv_icmp_eq (tgt := 1201) C.1 C.2.1 dL_law_365 (by decide) (fun _ => ?_) (fun q => absurd rfl q)
  exact kk w2 H2 locs2 hS2 hH2
theorem hl_case_6 {p : Program} {l : Launch} {e : Env} {s : State} {m : MethodId} {below : List Frame} {meth : Method} {c : Code} {b L : Nat} {xs : Nat → Int32} {cells slots : Nat} {D : va_G} {cA : Nat → ClassId} {Z : State → Prop} {Sim : hb_W → Prop} (hp : hp_passed Sim) (hL : L ≤ 384) (C : hl_C p s m meth c cells slots D cA b) (hX : va_X b L xs s s.heap) (hbl : b < s.heap.size) {i : Nat} (hi : i + 6 ≤ L) {w : hb_W} (hS : Sim w) {H : Heap} {locs : List Loc} {lsm : Array Slot} (hH : hb_H D cA (hd_ad b s.heap.size) s.heap w H locs) (hA : hb_L (hd_ad b s.heap.size) 4 (hl_ls i) lsm)
    (kk : ∀ (w2 : hb_W) (H2 : Heap) (locs2 : List Loc), Sim w2 → hb_H D cA (hd_ad b s.heap.size) s.heap w2 H2 locs2 → W p l e room_1 s m #[Value.ref b] below meth c H2 locs2 cells slots Z (F0 m 1201 lsm [])) : W p l e room_1 s m #[Value.ref b] below meth c H locs cells slots Z (F0 m 370 lsm []) := by
  have hbA : ¬ (fun q : Nat => s.heap.size ≤ q) b := Nat.not_le.mpr hbl
  refine lv_aload_n C.1 C.2.1 dL_law_370 rfl (hA.2.2 1 _ rfl) ?_
  refine lv_aload_n C.1 C.2.1 dL_law_371 rfl (hA.2.2 0 _ rfl) ?_
  refine lv_iload_n C.1 C.2.1 dL_law_372 rfl (hA.2.2 3 _ rfl) ?_
  refine lv_iconst (v := 1) C.1 C.2.1 dL_law_373 (by decide) ?_
  refine lv_iadd C.1 C.2.1 dL_law_374 ?_
  refine va_sld (b := b) C.1 C.2.1 hX hbl hbA hH.2 (hl_in 1 (by decide) hi hL) dL_law_375 ?_
  refine lv_aload_n C.1 C.2.1 dL_law_376 rfl (hA.2.2 0 _ rfl) ?_
  refine lv_iload_n C.1 C.2.1 dL_law_377 rfl (hA.2.2 3 _ rfl) ?_
  refine lv_iconst (v := 2) C.1 C.2.1 dL_law_378 (by decide) ?_
  refine lv_iadd C.1 C.2.1 dL_law_379 ?_
  refine va_sld (b := b) C.1 C.2.1 hX hbl hbA hH.2 (hl_in 2 (by decide) hi hL) dL_law_380 ?_
  show W p l e room_1 s m #[Value.ref b] below meth c H locs cells slots Z (F0 m 381 lsm (([hb_i (xs (nI i + 2).toNatClampNeg), hb_i (xs (nI i + 1).toNatClampNeg), hb_r 0 0 0] : List hb_V).map (hb_cv (hd_ad b s.heap.size))))
  refine hl_call (As := [hb_i (xs (nI i + 1).toNatClampNeg), hb_i (xs (nI i + 2).toNatClampNeg)]) (st := []) C dL_law_381 ml_L_42 mf_X11_passed mi_X11_passed (t := 0) (g := 0) (ci := 11) rfl rfl (by decide) rfl (Nat.le_of_ble_eq_true rfl) (Nat.le_of_ble_eq_true rfl) (hp w (xs (nI i + 1).toNatClampNeg) (xs (nI i + 2).toNatClampNeg) hS) hH hA.1 ?_
  rintro rv w1 H1 locs1 ⟨r, rfl, hO2⟩ hH1
  show W p l e room_1 s m #[Value.ref b] below meth c H1 locs1 cells slots Z (F0 m 384 lsm (([hb_i r] : List hb_V).map (hb_cv (hd_ad b s.heap.size))))
  refine lv_aload_n C.1 C.2.1 dL_law_384 rfl (hA.2.2 2 _ rfl) ?_
  refine lv_aload_n C.1 C.2.1 dL_law_385 rfl (hA.2.2 0 _ rfl) ?_
  refine lv_iload_n C.1 C.2.1 dL_law_386 rfl (hA.2.2 3 _ rfl) ?_
  refine lv_iconst (v := 1) C.1 C.2.1 dL_law_387 (by decide) ?_
  refine lv_iadd C.1 C.2.1 dL_law_388 ?_
  refine va_sld (b := b) C.1 C.2.1 hX hbl hbA hH1.2 (hl_in 1 (by decide) hi hL) dL_law_389 ?_
  refine lv_aload_n C.1 C.2.1 dL_law_390 rfl (hA.2.2 0 _ rfl) ?_
  refine lv_iload_n C.1 C.2.1 dL_law_391 rfl (hA.2.2 3 _ rfl) ?_
  refine lv_iconst (v := 2) C.1 C.2.1 dL_law_392 (by decide) ?_
  refine lv_iadd C.1 C.2.1 dL_law_393 ?_
  refine va_sld (b := b) C.1 C.2.1 hX hbl hbA hH1.2 (hl_in 2 (by decide) hi hL) dL_law_394 ?_
  show W p l e room_1 s m #[Value.ref b] below meth c H1 locs1 cells slots Z (F0 m 395 lsm (([hb_i (xs (nI i + 2).toNatClampNeg), hb_i (xs (nI i + 1).toNatClampNeg), hb_r 12 0 0, hb_i r] : List hb_V).map (hb_cv (hd_ad b s.heap.size))))
  refine hl_call (As := [hb_i (xs (nI i + 1).toNatClampNeg), hb_i (xs (nI i + 2).toNatClampNeg)]) (st := [hb_i r]) C dL_law_395 ml_L_45 mf_X12_passed mi_X12_passed (t := 12) (g := 0) (ci := 12) rfl rfl (by decide) rfl (Nat.le_of_ble_eq_true rfl) (Nat.le_of_ble_eq_true rfl) hO2 hH1 hA.1 ?_
  rintro rv w2 H2 locs2 ⟨rfl, hS2⟩ hH2
  show W p l e room_1 s m #[Value.ref b] below meth c H2 locs2 cells slots Z (F0 m 398 lsm (([hb_i r, hb_i r] : List hb_V).map (hb_cv (hd_ad b s.heap.size))))
  refine lv_icmp_eq (tgt := 1201) C.1 C.2.1 dL_law_398 (by decide) (fun _ => ?_) (fun q => absurd rfl q)
  exact kk w2 H2 locs2 hS2 hH2
theorem hl_case_7 {p : Program} {l : Launch} {e : Env} {s : State} {m : MethodId} {below : List Frame} {meth : Method} {c : Code} {b L : Nat} {xs : Nat → Int32} {cells slots : Nat} {D : va_G} {cA : Nat → ClassId} {Z : State → Prop} {Sim : hb_W → Prop} (hp : hp_least Sim) (hL : L ≤ 384) (C : hl_C p s m meth c cells slots D cA b) (hX : va_X b L xs s s.heap) (hbl : b < s.heap.size) {i : Nat} (hi : i + 6 ≤ L) {w : hb_W} (hS : Sim w) {H : Heap} {locs : List Loc} {lsm : Array Slot} (hH : hb_H D cA (hd_ad b s.heap.size) s.heap w H locs) (hA : hb_L (hd_ad b s.heap.size) 4 (hl_ls i) lsm)
    (kk : ∀ (w2 : hb_W) (H2 : Heap) (locs2 : List Loc), Sim w2 → hb_H D cA (hd_ad b s.heap.size) s.heap w2 H2 locs2 → W p l e room_1 s m #[Value.ref b] below meth c H2 locs2 cells slots Z (F0 m 1201 lsm [])) : W p l e room_1 s m #[Value.ref b] below meth c H locs cells slots Z (F0 m 403 lsm []) := by
  have hbA : ¬ (fun q : Nat => s.heap.size ≤ q) b := Nat.not_le.mpr hbl
  refine lv_aload_n C.1 C.2.1 dL_law_403 rfl (hA.2.2 1 _ rfl) ?_
  refine lv_aload_n C.1 C.2.1 dL_law_404 rfl (hA.2.2 0 _ rfl) ?_
  refine lv_iload_n C.1 C.2.1 dL_law_405 rfl (hA.2.2 3 _ rfl) ?_
  refine lv_iconst (v := 1) C.1 C.2.1 dL_law_406 (by decide) ?_
  refine lv_iadd C.1 C.2.1 dL_law_407 ?_
  refine va_sld (b := b) C.1 C.2.1 hX hbl hbA hH.2 (hl_in 1 (by decide) hi hL) dL_law_408 ?_
  refine lv_aload_n C.1 C.2.1 dL_law_409 rfl (hA.2.2 0 _ rfl) ?_
  refine lv_iload_n C.1 C.2.1 dL_law_410 rfl (hA.2.2 3 _ rfl) ?_
  refine lv_iconst (v := 2) C.1 C.2.1 dL_law_411 (by decide) ?_
  refine lv_iadd C.1 C.2.1 dL_law_412 ?_
  refine va_sld (b := b) C.1 C.2.1 hX hbl hbA hH.2 (hl_in 2 (by decide) hi hL) dL_law_413 ?_
  show W p l e room_1 s m #[Value.ref b] below meth c H locs cells slots Z (F0 m 414 lsm (([hb_i (xs (nI i + 2).toNatClampNeg), hb_i (xs (nI i + 1).toNatClampNeg), hb_r 0 0 0] : List hb_V).map (hb_cv (hd_ad b s.heap.size))))
  refine hl_call (As := [hb_i (xs (nI i + 1).toNatClampNeg), hb_i (xs (nI i + 2).toNatClampNeg)]) (st := []) C dL_law_414 ml_L_46 mf_X11_least mi_X11_least (t := 0) (g := 0) (ci := 11) rfl rfl (by decide) rfl (Nat.le_of_ble_eq_true rfl) (Nat.le_of_ble_eq_true rfl) (hp w (xs (nI i + 1).toNatClampNeg) (xs (nI i + 2).toNatClampNeg) hS) hH hA.1 ?_
  rintro rv w1 H1 locs1 ⟨r, rfl, hO2⟩ hH1
  show W p l e room_1 s m #[Value.ref b] below meth c H1 locs1 cells slots Z (F0 m 417 lsm (([hb_i r] : List hb_V).map (hb_cv (hd_ad b s.heap.size))))
  refine lv_aload_n C.1 C.2.1 dL_law_417 rfl (hA.2.2 2 _ rfl) ?_
  refine lv_aload_n C.1 C.2.1 dL_law_418 rfl (hA.2.2 0 _ rfl) ?_
  refine lv_iload_n C.1 C.2.1 dL_law_419 rfl (hA.2.2 3 _ rfl) ?_
  refine lv_iconst (v := 1) C.1 C.2.1 dL_law_420 (by decide) ?_
  refine lv_iadd C.1 C.2.1 dL_law_421 ?_
  refine va_sld (b := b) C.1 C.2.1 hX hbl hbA hH1.2 (hl_in 1 (by decide) hi hL) dL_law_422 ?_
  refine lv_aload_n C.1 C.2.1 dL_law_423 rfl (hA.2.2 0 _ rfl) ?_
  refine lv_iload_n C.1 C.2.1 dL_law_424 rfl (hA.2.2 3 _ rfl) ?_
  refine lv_iconst (v := 2) C.1 C.2.1 dL_law_425 (by decide) ?_
  refine lv_iadd C.1 C.2.1 dL_law_426 ?_
  refine va_sld (b := b) C.1 C.2.1 hX hbl hbA hH1.2 (hl_in 2 (by decide) hi hL) dL_law_427 ?_
  show W p l e room_1 s m #[Value.ref b] below meth c H1 locs1 cells slots Z (F0 m 428 lsm (([hb_i (xs (nI i + 2).toNatClampNeg), hb_i (xs (nI i + 1).toNatClampNeg), hb_r 12 0 0, hb_i r] : List hb_V).map (hb_cv (hd_ad b s.heap.size))))
  refine hl_call (As := [hb_i (xs (nI i + 1).toNatClampNeg), hb_i (xs (nI i + 2).toNatClampNeg)]) (st := [hb_i r]) C dL_law_428 ml_L_49 mf_X12_least mi_X12_least (t := 12) (g := 0) (ci := 12) rfl rfl (by decide) rfl (Nat.le_of_ble_eq_true rfl) (Nat.le_of_ble_eq_true rfl) hO2 hH1 hA.1 ?_
  rintro rv w2 H2 locs2 ⟨rfl, hS2⟩ hH2
  show W p l e room_1 s m #[Value.ref b] below meth c H2 locs2 cells slots Z (F0 m 431 lsm (([hb_i r, hb_i r] : List hb_V).map (hb_cv (hd_ad b s.heap.size))))
  refine lv_icmp_eq (tgt := 1201) C.1 C.2.1 dL_law_431 (by decide) (fun _ => ?_) (fun q => absurd rfl q)
  exact kk w2 H2 locs2 hS2 hH2
theorem hl_case_8 {p : Program} {l : Launch} {e : Env} {s : State} {m : MethodId} {below : List Frame} {meth : Method} {c : Code} {b L : Nat} {xs : Nat → Int32} {cells slots : Nat} {D : va_G} {cA : Nat → ClassId} {Z : State → Prop} {Sim : hb_W → Prop} (hp : hp_run Sim) (hL : L ≤ 384) (C : hl_C p s m meth c cells slots D cA b) (hX : va_X b L xs s s.heap) (hbl : b < s.heap.size) {i : Nat} (hi : i + 6 ≤ L) {w : hb_W} (hS : Sim w) {H : Heap} {locs : List Loc} {lsm : Array Slot} (hH : hb_H D cA (hd_ad b s.heap.size) s.heap w H locs) (hA : hb_L (hd_ad b s.heap.size) 4 (hl_ls i) lsm)
    (kk : ∀ (w2 : hb_W) (H2 : Heap) (locs2 : List Loc), Sim w2 → hb_H D cA (hd_ad b s.heap.size) s.heap w2 H2 locs2 → W p l e room_1 s m #[Value.ref b] below meth c H2 locs2 cells slots Z (F0 m 1201 lsm [])) : W p l e room_1 s m #[Value.ref b] below meth c H locs cells slots Z (F0 m 436 lsm []) := by
  have hbA : ¬ (fun q : Nat => s.heap.size ≤ q) b := Nat.not_le.mpr hbl
  refine lv_aload_n C.1 C.2.1 dL_law_436 rfl (hA.2.2 1 _ rfl) ?_
  refine lv_aload_n C.1 C.2.1 dL_law_437 rfl (hA.2.2 0 _ rfl) ?_
  refine lv_iload_n C.1 C.2.1 dL_law_438 rfl (hA.2.2 3 _ rfl) ?_
  refine lv_iconst (v := 1) C.1 C.2.1 dL_law_439 (by decide) ?_
  refine lv_iadd C.1 C.2.1 dL_law_440 ?_
  refine va_sld (b := b) C.1 C.2.1 hX hbl hbA hH.2 (hl_in 1 (by decide) hi hL) dL_law_441 ?_
  show W p l e room_1 s m #[Value.ref b] below meth c H locs cells slots Z (F0 m 442 lsm (([hb_i (xs (nI i + 1).toNatClampNeg), hb_r 0 0 0] : List hb_V).map (hb_cv (hd_ad b s.heap.size))))
  refine hl_call (As := [hb_i (xs (nI i + 1).toNatClampNeg)]) (st := []) C dL_law_442 ml_L_50 mf_X11_run mi_X11_run (t := 0) (g := 0) (ci := 11) rfl rfl (by decide) rfl (Nat.le_of_ble_eq_true rfl) (Nat.le_of_ble_eq_true rfl) (hp w (xs (nI i + 1).toNatClampNeg) hS) hH hA.1 ?_
  rintro rv w1 H1 locs1 ⟨r, rfl, hO2⟩ hH1
  show W p l e room_1 s m #[Value.ref b] below meth c H1 locs1 cells slots Z (F0 m 445 lsm (([hb_i r] : List hb_V).map (hb_cv (hd_ad b s.heap.size))))
  refine lv_aload_n C.1 C.2.1 dL_law_445 rfl (hA.2.2 2 _ rfl) ?_
  refine lv_aload_n C.1 C.2.1 dL_law_446 rfl (hA.2.2 0 _ rfl) ?_
  refine lv_iload_n C.1 C.2.1 dL_law_447 rfl (hA.2.2 3 _ rfl) ?_
  refine lv_iconst (v := 1) C.1 C.2.1 dL_law_448 (by decide) ?_
  refine lv_iadd C.1 C.2.1 dL_law_449 ?_
  refine va_sld (b := b) C.1 C.2.1 hX hbl hbA hH1.2 (hl_in 1 (by decide) hi hL) dL_law_450 ?_
  show W p l e room_1 s m #[Value.ref b] below meth c H1 locs1 cells slots Z (F0 m 451 lsm (([hb_i (xs (nI i + 1).toNatClampNeg), hb_r 12 0 0, hb_i r] : List hb_V).map (hb_cv (hd_ad b s.heap.size))))
  refine hl_call (As := [hb_i (xs (nI i + 1).toNatClampNeg)]) (st := [hb_i r]) C dL_law_451 ml_L_53 mf_X12_run mi_X12_run (t := 12) (g := 0) (ci := 12) rfl rfl (by decide) rfl (Nat.le_of_ble_eq_true rfl) (Nat.le_of_ble_eq_true rfl) hO2 hH1 hA.1 ?_
  rintro rv w2 H2 locs2 ⟨rfl, hS2⟩ hH2
  show W p l e room_1 s m #[Value.ref b] below meth c H2 locs2 cells slots Z (F0 m 454 lsm (([hb_i r, hb_i r] : List hb_V).map (hb_cv (hd_ad b s.heap.size))))
  refine lv_icmp_eq (tgt := 1201) C.1 C.2.1 dL_law_454 (by decide) (fun _ => ?_) (fun q => absurd rfl q)
  exact kk w2 H2 locs2 hS2 hH2
theorem hl_case_9 {p : Program} {l : Launch} {e : Env} {s : State} {m : MethodId} {below : List Frame} {meth : Method} {c : Code} {b L : Nat} {xs : Nat → Int32} {cells slots : Nat} {D : va_G} {cA : Nat → ClassId} {Z : State → Prop} {Sim : hb_W → Prop} (hp : hp_often Sim) (hL : L ≤ 384) (C : hl_C p s m meth c cells slots D cA b) (hX : va_X b L xs s s.heap) (hbl : b < s.heap.size) {i : Nat} (hi : i + 6 ≤ L) {w : hb_W} (hS : Sim w) {H : Heap} {locs : List Loc} {lsm : Array Slot} (hH : hb_H D cA (hd_ad b s.heap.size) s.heap w H locs) (hA : hb_L (hd_ad b s.heap.size) 4 (hl_ls i) lsm)
    (kk : ∀ (w2 : hb_W) (H2 : Heap) (locs2 : List Loc), Sim w2 → hb_H D cA (hd_ad b s.heap.size) s.heap w2 H2 locs2 → W p l e room_1 s m #[Value.ref b] below meth c H2 locs2 cells slots Z (F0 m 1201 lsm [])) : W p l e room_1 s m #[Value.ref b] below meth c H locs cells slots Z (F0 m 459 lsm []) := by
  have hbA : ¬ (fun q : Nat => s.heap.size ≤ q) b := Nat.not_le.mpr hbl
  refine lv_aload_n C.1 C.2.1 dL_law_459 rfl (hA.2.2 1 _ rfl) ?_
  refine lv_aload_n C.1 C.2.1 dL_law_460 rfl (hA.2.2 0 _ rfl) ?_
  refine lv_iload_n C.1 C.2.1 dL_law_461 rfl (hA.2.2 3 _ rfl) ?_
  refine lv_iconst (v := 1) C.1 C.2.1 dL_law_462 (by decide) ?_
  refine lv_iadd C.1 C.2.1 dL_law_463 ?_
  refine va_sld (b := b) C.1 C.2.1 hX hbl hbA hH.2 (hl_in 1 (by decide) hi hL) dL_law_464 ?_
  refine lv_aload_n C.1 C.2.1 dL_law_465 rfl (hA.2.2 0 _ rfl) ?_
  refine lv_iload_n C.1 C.2.1 dL_law_466 rfl (hA.2.2 3 _ rfl) ?_
  refine lv_iconst (v := 2) C.1 C.2.1 dL_law_467 (by decide) ?_
  refine lv_iadd C.1 C.2.1 dL_law_468 ?_
  refine va_sld (b := b) C.1 C.2.1 hX hbl hbA hH.2 (hl_in 2 (by decide) hi hL) dL_law_469 ?_
  refine lv_aload_n C.1 C.2.1 dL_law_470 rfl (hA.2.2 0 _ rfl) ?_
  refine lv_iload_n C.1 C.2.1 dL_law_471 rfl (hA.2.2 3 _ rfl) ?_
  refine lv_iconst (v := 3) C.1 C.2.1 dL_law_472 (by decide) ?_
  refine lv_iadd C.1 C.2.1 dL_law_473 ?_
  refine va_sld (b := b) C.1 C.2.1 hX hbl hbA hH.2 (hl_in 3 (by decide) hi hL) dL_law_474 ?_
  show W p l e room_1 s m #[Value.ref b] below meth c H locs cells slots Z (F0 m 475 lsm (([hb_i (xs (nI i + 3).toNatClampNeg), hb_i (xs (nI i + 2).toNatClampNeg), hb_i (xs (nI i + 1).toNatClampNeg), hb_r 0 0 0] : List hb_V).map (hb_cv (hd_ad b s.heap.size))))
  refine hl_call (As := [hb_i (xs (nI i + 1).toNatClampNeg), hb_i (xs (nI i + 2).toNatClampNeg), hb_i (xs (nI i + 3).toNatClampNeg)]) (st := []) C dL_law_475 ml_L_54 mf_X11_often mi_X11_often (t := 0) (g := 0) (ci := 11) rfl rfl (by decide) rfl (Nat.le_of_ble_eq_true rfl) (Nat.le_of_ble_eq_true rfl) (hp w (xs (nI i + 1).toNatClampNeg) (xs (nI i + 2).toNatClampNeg) (xs (nI i + 3).toNatClampNeg) hS) hH hA.1 ?_
  rintro rv w1 H1 locs1 ⟨r, rfl, hO2⟩ hH1
  show W p l e room_1 s m #[Value.ref b] below meth c H1 locs1 cells slots Z (F0 m 478 lsm (([hb_i r] : List hb_V).map (hb_cv (hd_ad b s.heap.size))))
  refine lv_aload_n C.1 C.2.1 dL_law_478 rfl (hA.2.2 2 _ rfl) ?_
  refine lv_aload_n C.1 C.2.1 dL_law_479 rfl (hA.2.2 0 _ rfl) ?_
  refine lv_iload_n C.1 C.2.1 dL_law_480 rfl (hA.2.2 3 _ rfl) ?_
  refine lv_iconst (v := 1) C.1 C.2.1 dL_law_481 (by decide) ?_
  refine lv_iadd C.1 C.2.1 dL_law_482 ?_
  refine va_sld (b := b) C.1 C.2.1 hX hbl hbA hH1.2 (hl_in 1 (by decide) hi hL) dL_law_483 ?_
  refine lv_aload_n C.1 C.2.1 dL_law_484 rfl (hA.2.2 0 _ rfl) ?_
  refine lv_iload_n C.1 C.2.1 dL_law_485 rfl (hA.2.2 3 _ rfl) ?_
  refine lv_iconst (v := 2) C.1 C.2.1 dL_law_486 (by decide) ?_
  refine lv_iadd C.1 C.2.1 dL_law_487 ?_
  refine va_sld (b := b) C.1 C.2.1 hX hbl hbA hH1.2 (hl_in 2 (by decide) hi hL) dL_law_488 ?_
  refine lv_aload_n C.1 C.2.1 dL_law_489 rfl (hA.2.2 0 _ rfl) ?_
  refine lv_iload_n C.1 C.2.1 dL_law_490 rfl (hA.2.2 3 _ rfl) ?_
  refine lv_iconst (v := 3) C.1 C.2.1 dL_law_491 (by decide) ?_
  refine lv_iadd C.1 C.2.1 dL_law_492 ?_
  refine va_sld (b := b) C.1 C.2.1 hX hbl hbA hH1.2 (hl_in 3 (by decide) hi hL) dL_law_493 ?_
  show W p l e room_1 s m #[Value.ref b] below meth c H1 locs1 cells slots Z (F0 m 494 lsm (([hb_i (xs (nI i + 3).toNatClampNeg), hb_i (xs (nI i + 2).toNatClampNeg), hb_i (xs (nI i + 1).toNatClampNeg), hb_r 12 0 0, hb_i r] : List hb_V).map (hb_cv (hd_ad b s.heap.size))))
  refine hl_call (As := [hb_i (xs (nI i + 1).toNatClampNeg), hb_i (xs (nI i + 2).toNatClampNeg), hb_i (xs (nI i + 3).toNatClampNeg)]) (st := [hb_i r]) C dL_law_494 ml_L_58 mf_X12_often mi_X12_often (t := 12) (g := 0) (ci := 12) rfl rfl (by decide) rfl (Nat.le_of_ble_eq_true rfl) (Nat.le_of_ble_eq_true rfl) hO2 hH1 hA.1 ?_
  rintro rv w2 H2 locs2 ⟨rfl, hS2⟩ hH2
  show W p l e room_1 s m #[Value.ref b] below meth c H2 locs2 cells slots Z (F0 m 497 lsm (([hb_i r, hb_i r] : List hb_V).map (hb_cv (hd_ad b s.heap.size))))
  refine lv_icmp_eq (tgt := 1201) C.1 C.2.1 dL_law_497 (by decide) (fun _ => ?_) (fun q => absurd rfl q)
  exact kk w2 H2 locs2 hS2 hH2
theorem hl_case_10 {p : Program} {l : Launch} {e : Env} {s : State} {m : MethodId} {below : List Frame} {meth : Method} {c : Code} {b L : Nat} {xs : Nat → Int32} {cells slots : Nat} {D : va_G} {cA : Nat → ClassId} {Z : State → Prop} {Sim : hb_W → Prop} (hp : hp_crossed Sim) (hL : L ≤ 384) (C : hl_C p s m meth c cells slots D cA b) (hX : va_X b L xs s s.heap) (hbl : b < s.heap.size) {i : Nat} (hi : i + 6 ≤ L) {w : hb_W} (hS : Sim w) {H : Heap} {locs : List Loc} {lsm : Array Slot} (hH : hb_H D cA (hd_ad b s.heap.size) s.heap w H locs) (hA : hb_L (hd_ad b s.heap.size) 4 (hl_ls i) lsm)
    (kk : ∀ (w2 : hb_W) (H2 : Heap) (locs2 : List Loc), Sim w2 → hb_H D cA (hd_ad b s.heap.size) s.heap w2 H2 locs2 → W p l e room_1 s m #[Value.ref b] below meth c H2 locs2 cells slots Z (F0 m 1201 lsm [])) : W p l e room_1 s m #[Value.ref b] below meth c H locs cells slots Z (F0 m 502 lsm []) := by
  have hbA : ¬ (fun q : Nat => s.heap.size ≤ q) b := Nat.not_le.mpr hbl
  refine lv_aload_n C.1 C.2.1 dL_law_502 rfl (hA.2.2 1 _ rfl) ?_
  refine lv_aload_n C.1 C.2.1 dL_law_503 rfl (hA.2.2 0 _ rfl) ?_
  refine lv_iload_n C.1 C.2.1 dL_law_504 rfl (hA.2.2 3 _ rfl) ?_
  refine lv_iconst (v := 1) C.1 C.2.1 dL_law_505 (by decide) ?_
  refine lv_iadd C.1 C.2.1 dL_law_506 ?_
  refine va_sld (b := b) C.1 C.2.1 hX hbl hbA hH.2 (hl_in 1 (by decide) hi hL) dL_law_507 ?_
  refine lv_aload_n C.1 C.2.1 dL_law_508 rfl (hA.2.2 0 _ rfl) ?_
  refine lv_iload_n C.1 C.2.1 dL_law_509 rfl (hA.2.2 3 _ rfl) ?_
  refine lv_iconst (v := 2) C.1 C.2.1 dL_law_510 (by decide) ?_
  refine lv_iadd C.1 C.2.1 dL_law_511 ?_
  refine va_sld (b := b) C.1 C.2.1 hX hbl hbA hH.2 (hl_in 2 (by decide) hi hL) dL_law_512 ?_
  refine lv_aload_n C.1 C.2.1 dL_law_513 rfl (hA.2.2 0 _ rfl) ?_
  refine lv_iload_n C.1 C.2.1 dL_law_514 rfl (hA.2.2 3 _ rfl) ?_
  refine lv_iconst (v := 3) C.1 C.2.1 dL_law_515 (by decide) ?_
  refine lv_iadd C.1 C.2.1 dL_law_516 ?_
  refine va_sld (b := b) C.1 C.2.1 hX hbl hbA hH.2 (hl_in 3 (by decide) hi hL) dL_law_517 ?_
  show W p l e room_1 s m #[Value.ref b] below meth c H locs cells slots Z (F0 m 518 lsm (([hb_i (xs (nI i + 3).toNatClampNeg), hb_i (xs (nI i + 2).toNatClampNeg), hb_i (xs (nI i + 1).toNatClampNeg), hb_r 0 0 0] : List hb_V).map (hb_cv (hd_ad b s.heap.size))))
  refine hl_call (As := [hb_i (xs (nI i + 1).toNatClampNeg), hb_i (xs (nI i + 2).toNatClampNeg), hb_i (xs (nI i + 3).toNatClampNeg)]) (st := []) C dL_law_518 ml_L_59 mf_X11_crossed mi_X11_crossed (t := 0) (g := 0) (ci := 11) rfl rfl (by decide) rfl (Nat.le_of_ble_eq_true rfl) (Nat.le_of_ble_eq_true rfl) (hp w (xs (nI i + 1).toNatClampNeg) (xs (nI i + 2).toNatClampNeg) (xs (nI i + 3).toNatClampNeg) hS) hH hA.1 ?_
  rintro rv w1 H1 locs1 ⟨r, rfl, hO2⟩ hH1
  show W p l e room_1 s m #[Value.ref b] below meth c H1 locs1 cells slots Z (F0 m 521 lsm (([hb_i r] : List hb_V).map (hb_cv (hd_ad b s.heap.size))))
  refine lv_aload_n C.1 C.2.1 dL_law_521 rfl (hA.2.2 2 _ rfl) ?_
  refine lv_aload_n C.1 C.2.1 dL_law_522 rfl (hA.2.2 0 _ rfl) ?_
  refine lv_iload_n C.1 C.2.1 dL_law_523 rfl (hA.2.2 3 _ rfl) ?_
  refine lv_iconst (v := 1) C.1 C.2.1 dL_law_524 (by decide) ?_
  refine lv_iadd C.1 C.2.1 dL_law_525 ?_
  refine va_sld (b := b) C.1 C.2.1 hX hbl hbA hH1.2 (hl_in 1 (by decide) hi hL) dL_law_526 ?_
  refine lv_aload_n C.1 C.2.1 dL_law_527 rfl (hA.2.2 0 _ rfl) ?_
  refine lv_iload_n C.1 C.2.1 dL_law_528 rfl (hA.2.2 3 _ rfl) ?_
  refine lv_iconst (v := 2) C.1 C.2.1 dL_law_529 (by decide) ?_
  refine lv_iadd C.1 C.2.1 dL_law_530 ?_
  refine va_sld (b := b) C.1 C.2.1 hX hbl hbA hH1.2 (hl_in 2 (by decide) hi hL) dL_law_531 ?_
  refine lv_aload_n C.1 C.2.1 dL_law_532 rfl (hA.2.2 0 _ rfl) ?_
  refine lv_iload_n C.1 C.2.1 dL_law_533 rfl (hA.2.2 3 _ rfl) ?_
  refine lv_iconst (v := 3) C.1 C.2.1 dL_law_534 (by decide) ?_
  refine lv_iadd C.1 C.2.1 dL_law_535 ?_
  refine va_sld (b := b) C.1 C.2.1 hX hbl hbA hH1.2 (hl_in 3 (by decide) hi hL) dL_law_536 ?_
  show W p l e room_1 s m #[Value.ref b] below meth c H1 locs1 cells slots Z (F0 m 537 lsm (([hb_i (xs (nI i + 3).toNatClampNeg), hb_i (xs (nI i + 2).toNatClampNeg), hb_i (xs (nI i + 1).toNatClampNeg), hb_r 12 0 0, hb_i r] : List hb_V).map (hb_cv (hd_ad b s.heap.size))))
  refine hl_call (As := [hb_i (xs (nI i + 1).toNatClampNeg), hb_i (xs (nI i + 2).toNatClampNeg), hb_i (xs (nI i + 3).toNatClampNeg)]) (st := [hb_i r]) C dL_law_537 ml_L_62 mf_X12_crossed mi_X12_crossed (t := 12) (g := 0) (ci := 12) rfl rfl (by decide) rfl (Nat.le_of_ble_eq_true rfl) (Nat.le_of_ble_eq_true rfl) hO2 hH1 hA.1 ?_
  rintro rv w2 H2 locs2 ⟨rfl, hS2⟩ hH2
  show W p l e room_1 s m #[Value.ref b] below meth c H2 locs2 cells slots Z (F0 m 540 lsm (([hb_i r, hb_i r] : List hb_V).map (hb_cv (hd_ad b s.heap.size))))
  refine lv_icmp_eq (tgt := 1201) C.1 C.2.1 dL_law_540 (by decide) (fun _ => ?_) (fun q => absurd rfl q)
  exact kk w2 H2 locs2 hS2 hH2
theorem hl_case_11 {p : Program} {l : Launch} {e : Env} {s : State} {m : MethodId} {below : List Frame} {meth : Method} {c : Code} {b L : Nat} {xs : Nat → Int32} {cells slots : Nat} {D : va_G} {cA : Nat → ClassId} {Z : State → Prop} {Sim : hb_W → Prop} (hp : hp_bit Sim) (hL : L ≤ 384) (C : hl_C p s m meth c cells slots D cA b) (hX : va_X b L xs s s.heap) (hbl : b < s.heap.size) {i : Nat} (hi : i + 6 ≤ L) {w : hb_W} (hS : Sim w) {H : Heap} {locs : List Loc} {lsm : Array Slot} (hH : hb_H D cA (hd_ad b s.heap.size) s.heap w H locs) (hA : hb_L (hd_ad b s.heap.size) 4 (hl_ls i) lsm)
    (kk : ∀ (w2 : hb_W) (H2 : Heap) (locs2 : List Loc), Sim w2 → hb_H D cA (hd_ad b s.heap.size) s.heap w2 H2 locs2 → W p l e room_1 s m #[Value.ref b] below meth c H2 locs2 cells slots Z (F0 m 1201 lsm [])) : W p l e room_1 s m #[Value.ref b] below meth c H locs cells slots Z (F0 m 545 lsm []) := by
  have hbA : ¬ (fun q : Nat => s.heap.size ≤ q) b := Nat.not_le.mpr hbl
  refine lv_aload_n C.1 C.2.1 dL_law_545 rfl (hA.2.2 1 _ rfl) ?_
  refine lv_aload_n C.1 C.2.1 dL_law_546 rfl (hA.2.2 0 _ rfl) ?_
  refine lv_iload_n C.1 C.2.1 dL_law_547 rfl (hA.2.2 3 _ rfl) ?_
  refine lv_iconst (v := 1) C.1 C.2.1 dL_law_548 (by decide) ?_
  refine lv_iadd C.1 C.2.1 dL_law_549 ?_
  refine va_sld (b := b) C.1 C.2.1 hX hbl hbA hH.2 (hl_in 1 (by decide) hi hL) dL_law_550 ?_
  refine lv_aload_n C.1 C.2.1 dL_law_551 rfl (hA.2.2 0 _ rfl) ?_
  refine lv_iload_n C.1 C.2.1 dL_law_552 rfl (hA.2.2 3 _ rfl) ?_
  refine lv_iconst (v := 2) C.1 C.2.1 dL_law_553 (by decide) ?_
  refine lv_iadd C.1 C.2.1 dL_law_554 ?_
  refine va_sld (b := b) C.1 C.2.1 hX hbl hbA hH.2 (hl_in 2 (by decide) hi hL) dL_law_555 ?_
  show W p l e room_1 s m #[Value.ref b] below meth c H locs cells slots Z (F0 m 556 lsm (([hb_i (xs (nI i + 2).toNatClampNeg), hb_i (xs (nI i + 1).toNatClampNeg), hb_r 0 0 0] : List hb_V).map (hb_cv (hd_ad b s.heap.size))))
  refine hl_call (As := [hb_i (xs (nI i + 1).toNatClampNeg), hb_i (xs (nI i + 2).toNatClampNeg)]) (st := []) C dL_law_556 ml_L_63 mf_X11_bit mi_X11_bit (t := 0) (g := 0) (ci := 11) rfl rfl (by decide) rfl (Nat.le_of_ble_eq_true rfl) (Nat.le_of_ble_eq_true rfl) (hp w (xs (nI i + 1).toNatClampNeg) (xs (nI i + 2).toNatClampNeg) hS) hH hA.1 ?_
  rintro rv w1 H1 locs1 ⟨r, rfl, hO2⟩ hH1
  show W p l e room_1 s m #[Value.ref b] below meth c H1 locs1 cells slots Z (F0 m 559 lsm (([hb_i r] : List hb_V).map (hb_cv (hd_ad b s.heap.size))))
  refine lv_aload_n C.1 C.2.1 dL_law_559 rfl (hA.2.2 2 _ rfl) ?_
  refine lv_aload_n C.1 C.2.1 dL_law_560 rfl (hA.2.2 0 _ rfl) ?_
  refine lv_iload_n C.1 C.2.1 dL_law_561 rfl (hA.2.2 3 _ rfl) ?_
  refine lv_iconst (v := 1) C.1 C.2.1 dL_law_562 (by decide) ?_
  refine lv_iadd C.1 C.2.1 dL_law_563 ?_
  refine va_sld (b := b) C.1 C.2.1 hX hbl hbA hH1.2 (hl_in 1 (by decide) hi hL) dL_law_564 ?_
  refine lv_aload_n C.1 C.2.1 dL_law_565 rfl (hA.2.2 0 _ rfl) ?_
  refine lv_iload_n C.1 C.2.1 dL_law_566 rfl (hA.2.2 3 _ rfl) ?_
  refine lv_iconst (v := 2) C.1 C.2.1 dL_law_567 (by decide) ?_
  refine lv_iadd C.1 C.2.1 dL_law_568 ?_
  refine va_sld (b := b) C.1 C.2.1 hX hbl hbA hH1.2 (hl_in 2 (by decide) hi hL) dL_law_569 ?_
  show W p l e room_1 s m #[Value.ref b] below meth c H1 locs1 cells slots Z (F0 m 570 lsm (([hb_i (xs (nI i + 2).toNatClampNeg), hb_i (xs (nI i + 1).toNatClampNeg), hb_r 12 0 0, hb_i r] : List hb_V).map (hb_cv (hd_ad b s.heap.size))))
  refine hl_call (As := [hb_i (xs (nI i + 1).toNatClampNeg), hb_i (xs (nI i + 2).toNatClampNeg)]) (st := [hb_i r]) C dL_law_570 ml_L_66 mf_X12_bit mi_X12_bit (t := 12) (g := 0) (ci := 12) rfl rfl (by decide) rfl (Nat.le_of_ble_eq_true rfl) (Nat.le_of_ble_eq_true rfl) hO2 hH1 hA.1 ?_
  rintro rv w2 H2 locs2 ⟨rfl, hS2⟩ hH2
  show W p l e room_1 s m #[Value.ref b] below meth c H2 locs2 cells slots Z (F0 m 573 lsm (([hb_i r, hb_i r] : List hb_V).map (hb_cv (hd_ad b s.heap.size))))
  refine lv_icmp_eq (tgt := 1201) C.1 C.2.1 dL_law_573 (by decide) (fun _ => ?_) (fun q => absurd rfl q)
  exact kk w2 H2 locs2 hS2 hH2
theorem hl_case_12 {p : Program} {l : Launch} {e : Env} {s : State} {m : MethodId} {below : List Frame} {meth : Method} {c : Code} {b L : Nat} {xs : Nat → Int32} {cells slots : Nat} {D : va_G} {cA : Nat → ClassId} {Z : State → Prop} {Sim : hb_W → Prop} (hp : hp_bin Sim) (hL : L ≤ 384) (C : hl_C p s m meth c cells slots D cA b) (hX : va_X b L xs s s.heap) (hbl : b < s.heap.size) {i : Nat} (hi : i + 6 ≤ L) {w : hb_W} (hS : Sim w) {H : Heap} {locs : List Loc} {lsm : Array Slot} (hH : hb_H D cA (hd_ad b s.heap.size) s.heap w H locs) (hA : hb_L (hd_ad b s.heap.size) 4 (hl_ls i) lsm)
    (kk : ∀ (w2 : hb_W) (H2 : Heap) (locs2 : List Loc), Sim w2 → hb_H D cA (hd_ad b s.heap.size) s.heap w2 H2 locs2 → W p l e room_1 s m #[Value.ref b] below meth c H2 locs2 cells slots Z (F0 m 1201 lsm [])) : W p l e room_1 s m #[Value.ref b] below meth c H locs cells slots Z (F0 m 578 lsm []) := by
  have hbA : ¬ (fun q : Nat => s.heap.size ≤ q) b := Nat.not_le.mpr hbl
  refine lv_aload_n C.1 C.2.1 dL_law_578 rfl (hA.2.2 1 _ rfl) ?_
  refine lv_aload_n C.1 C.2.1 dL_law_579 rfl (hA.2.2 0 _ rfl) ?_
  refine lv_iload_n C.1 C.2.1 dL_law_580 rfl (hA.2.2 3 _ rfl) ?_
  refine lv_iconst (v := 1) C.1 C.2.1 dL_law_581 (by decide) ?_
  refine lv_iadd C.1 C.2.1 dL_law_582 ?_
  refine va_sld (b := b) C.1 C.2.1 hX hbl hbA hH.2 (hl_in 1 (by decide) hi hL) dL_law_583 ?_
  refine lv_aload_n C.1 C.2.1 dL_law_584 rfl (hA.2.2 0 _ rfl) ?_
  refine lv_iload_n C.1 C.2.1 dL_law_585 rfl (hA.2.2 3 _ rfl) ?_
  refine lv_iconst (v := 2) C.1 C.2.1 dL_law_586 (by decide) ?_
  refine lv_iadd C.1 C.2.1 dL_law_587 ?_
  refine va_sld (b := b) C.1 C.2.1 hX hbl hbA hH.2 (hl_in 2 (by decide) hi hL) dL_law_588 ?_
  show W p l e room_1 s m #[Value.ref b] below meth c H locs cells slots Z (F0 m 589 lsm (([hb_i (xs (nI i + 2).toNatClampNeg), hb_i (xs (nI i + 1).toNatClampNeg), hb_r 0 0 0] : List hb_V).map (hb_cv (hd_ad b s.heap.size))))
  refine hl_call (As := [hb_i (xs (nI i + 1).toNatClampNeg), hb_i (xs (nI i + 2).toNatClampNeg)]) (st := []) C dL_law_589 ml_L_67 mf_X11_bin mi_X11_bin (t := 0) (g := 0) (ci := 11) rfl rfl (by decide) rfl (Nat.le_of_ble_eq_true rfl) (Nat.le_of_ble_eq_true rfl) (hp w (xs (nI i + 1).toNatClampNeg) (xs (nI i + 2).toNatClampNeg) hS) hH hA.1 ?_
  rintro rv w1 H1 locs1 ⟨r, rfl, hO2⟩ hH1
  show W p l e room_1 s m #[Value.ref b] below meth c H1 locs1 cells slots Z (F0 m 592 lsm (([hb_i r] : List hb_V).map (hb_cv (hd_ad b s.heap.size))))
  refine lv_aload_n C.1 C.2.1 dL_law_592 rfl (hA.2.2 2 _ rfl) ?_
  refine lv_aload_n C.1 C.2.1 dL_law_593 rfl (hA.2.2 0 _ rfl) ?_
  refine lv_iload_n C.1 C.2.1 dL_law_594 rfl (hA.2.2 3 _ rfl) ?_
  refine lv_iconst (v := 1) C.1 C.2.1 dL_law_595 (by decide) ?_
  refine lv_iadd C.1 C.2.1 dL_law_596 ?_
  refine va_sld (b := b) C.1 C.2.1 hX hbl hbA hH1.2 (hl_in 1 (by decide) hi hL) dL_law_597 ?_
  refine lv_aload_n C.1 C.2.1 dL_law_598 rfl (hA.2.2 0 _ rfl) ?_
  refine lv_iload_n C.1 C.2.1 dL_law_599 rfl (hA.2.2 3 _ rfl) ?_
  refine lv_iconst (v := 2) C.1 C.2.1 dL_law_600 (by decide) ?_
  refine lv_iadd C.1 C.2.1 dL_law_601 ?_
  refine va_sld (b := b) C.1 C.2.1 hX hbl hbA hH1.2 (hl_in 2 (by decide) hi hL) dL_law_602 ?_
  show W p l e room_1 s m #[Value.ref b] below meth c H1 locs1 cells slots Z (F0 m 603 lsm (([hb_i (xs (nI i + 2).toNatClampNeg), hb_i (xs (nI i + 1).toNatClampNeg), hb_r 12 0 0, hb_i r] : List hb_V).map (hb_cv (hd_ad b s.heap.size))))
  refine hl_call (As := [hb_i (xs (nI i + 1).toNatClampNeg), hb_i (xs (nI i + 2).toNatClampNeg)]) (st := [hb_i r]) C dL_law_603 ml_L_70 mf_X12_bin mi_X12_bin (t := 12) (g := 0) (ci := 12) rfl rfl (by decide) rfl (Nat.le_of_ble_eq_true rfl) (Nat.le_of_ble_eq_true rfl) hO2 hH1 hA.1 ?_
  rintro rv w2 H2 locs2 ⟨rfl, hS2⟩ hH2
  show W p l e room_1 s m #[Value.ref b] below meth c H2 locs2 cells slots Z (F0 m 606 lsm (([hb_i r, hb_i r] : List hb_V).map (hb_cv (hd_ad b s.heap.size))))
  refine lv_icmp_eq (tgt := 1201) C.1 C.2.1 dL_law_606 (by decide) (fun _ => ?_) (fun q => absurd rfl q)
  exact kk w2 H2 locs2 hS2 hH2
theorem hl_case_13 {p : Program} {l : Launch} {e : Env} {s : State} {m : MethodId} {below : List Frame} {meth : Method} {c : Code} {b L : Nat} {xs : Nat → Int32} {cells slots : Nat} {D : va_G} {cA : Nat → ClassId} {Z : State → Prop} {Sim : hb_W → Prop} (hp : hp_sign Sim) (hL : L ≤ 384) (C : hl_C p s m meth c cells slots D cA b) (hX : va_X b L xs s s.heap) (hbl : b < s.heap.size) {i : Nat} (hi : i + 6 ≤ L) {w : hb_W} (hS : Sim w) {H : Heap} {locs : List Loc} {lsm : Array Slot} (hH : hb_H D cA (hd_ad b s.heap.size) s.heap w H locs) (hA : hb_L (hd_ad b s.heap.size) 4 (hl_ls i) lsm)
    (kk : ∀ (w2 : hb_W) (H2 : Heap) (locs2 : List Loc), Sim w2 → hb_H D cA (hd_ad b s.heap.size) s.heap w2 H2 locs2 → W p l e room_1 s m #[Value.ref b] below meth c H2 locs2 cells slots Z (F0 m 1201 lsm [])) : W p l e room_1 s m #[Value.ref b] below meth c H locs cells slots Z (F0 m 611 lsm []) := by
  have hbA : ¬ (fun q : Nat => s.heap.size ≤ q) b := Nat.not_le.mpr hbl
  refine lv_aload_n C.1 C.2.1 dL_law_611 rfl (hA.2.2 1 _ rfl) ?_
  refine lv_aload_n C.1 C.2.1 dL_law_612 rfl (hA.2.2 0 _ rfl) ?_
  refine lv_iload_n C.1 C.2.1 dL_law_613 rfl (hA.2.2 3 _ rfl) ?_
  refine lv_iconst (v := 1) C.1 C.2.1 dL_law_614 (by decide) ?_
  refine lv_iadd C.1 C.2.1 dL_law_615 ?_
  refine va_sld (b := b) C.1 C.2.1 hX hbl hbA hH.2 (hl_in 1 (by decide) hi hL) dL_law_616 ?_
  refine lv_aload_n C.1 C.2.1 dL_law_617 rfl (hA.2.2 0 _ rfl) ?_
  refine lv_iload_n C.1 C.2.1 dL_law_618 rfl (hA.2.2 3 _ rfl) ?_
  refine lv_iconst (v := 2) C.1 C.2.1 dL_law_619 (by decide) ?_
  refine lv_iadd C.1 C.2.1 dL_law_620 ?_
  refine va_sld (b := b) C.1 C.2.1 hX hbl hbA hH.2 (hl_in 2 (by decide) hi hL) dL_law_621 ?_
  show W p l e room_1 s m #[Value.ref b] below meth c H locs cells slots Z (F0 m 622 lsm (([hb_i (xs (nI i + 2).toNatClampNeg), hb_i (xs (nI i + 1).toNatClampNeg), hb_r 0 0 0] : List hb_V).map (hb_cv (hd_ad b s.heap.size))))
  refine hl_call (As := [hb_i (xs (nI i + 1).toNatClampNeg), hb_i (xs (nI i + 2).toNatClampNeg)]) (st := []) C dL_law_622 ml_L_71 mf_X11_sign mi_X11_sign (t := 0) (g := 0) (ci := 11) rfl rfl (by decide) rfl (Nat.le_of_ble_eq_true rfl) (Nat.le_of_ble_eq_true rfl) (hp w (xs (nI i + 1).toNatClampNeg) (xs (nI i + 2).toNatClampNeg) hS) hH hA.1 ?_
  rintro rv w1 H1 locs1 ⟨r, rfl, hO2⟩ hH1
  show W p l e room_1 s m #[Value.ref b] below meth c H1 locs1 cells slots Z (F0 m 625 lsm (([hb_i r] : List hb_V).map (hb_cv (hd_ad b s.heap.size))))
  refine lv_aload_n C.1 C.2.1 dL_law_625 rfl (hA.2.2 2 _ rfl) ?_
  refine lv_aload_n C.1 C.2.1 dL_law_626 rfl (hA.2.2 0 _ rfl) ?_
  refine lv_iload_n C.1 C.2.1 dL_law_627 rfl (hA.2.2 3 _ rfl) ?_
  refine lv_iconst (v := 1) C.1 C.2.1 dL_law_628 (by decide) ?_
  refine lv_iadd C.1 C.2.1 dL_law_629 ?_
  refine va_sld (b := b) C.1 C.2.1 hX hbl hbA hH1.2 (hl_in 1 (by decide) hi hL) dL_law_630 ?_
  refine lv_aload_n C.1 C.2.1 dL_law_631 rfl (hA.2.2 0 _ rfl) ?_
  refine lv_iload_n C.1 C.2.1 dL_law_632 rfl (hA.2.2 3 _ rfl) ?_
  refine lv_iconst (v := 2) C.1 C.2.1 dL_law_633 (by decide) ?_
  refine lv_iadd C.1 C.2.1 dL_law_634 ?_
  refine va_sld (b := b) C.1 C.2.1 hX hbl hbA hH1.2 (hl_in 2 (by decide) hi hL) dL_law_635 ?_
  show W p l e room_1 s m #[Value.ref b] below meth c H1 locs1 cells slots Z (F0 m 636 lsm (([hb_i (xs (nI i + 2).toNatClampNeg), hb_i (xs (nI i + 1).toNatClampNeg), hb_r 12 0 0, hb_i r] : List hb_V).map (hb_cv (hd_ad b s.heap.size))))
  refine hl_call (As := [hb_i (xs (nI i + 1).toNatClampNeg), hb_i (xs (nI i + 2).toNatClampNeg)]) (st := [hb_i r]) C dL_law_636 ml_L_74 mf_X12_sign mi_X12_sign (t := 12) (g := 0) (ci := 12) rfl rfl (by decide) rfl (Nat.le_of_ble_eq_true rfl) (Nat.le_of_ble_eq_true rfl) hO2 hH1 hA.1 ?_
  rintro rv w2 H2 locs2 ⟨rfl, hS2⟩ hH2
  show W p l e room_1 s m #[Value.ref b] below meth c H2 locs2 cells slots Z (F0 m 639 lsm (([hb_i r, hb_i r] : List hb_V).map (hb_cv (hd_ad b s.heap.size))))
  refine lv_icmp_eq (tgt := 1201) C.1 C.2.1 dL_law_639 (by decide) (fun _ => ?_) (fun q => absurd rfl q)
  exact kk w2 H2 locs2 hS2 hH2
theorem hl_case_14 {p : Program} {l : Launch} {e : Env} {s : State} {m : MethodId} {below : List Frame} {meth : Method} {c : Code} {b L : Nat} {xs : Nat → Int32} {cells slots : Nat} {D : va_G} {cA : Nat → ClassId} {Z : State → Prop} {Sim : hb_W → Prop} (hp : hp_lot Sim) (hL : L ≤ 384) (C : hl_C p s m meth c cells slots D cA b) (hX : va_X b L xs s s.heap) (hbl : b < s.heap.size) {i : Nat} (hi : i + 6 ≤ L) {w : hb_W} (hS : Sim w) {H : Heap} {locs : List Loc} {lsm : Array Slot} (hH : hb_H D cA (hd_ad b s.heap.size) s.heap w H locs) (hA : hb_L (hd_ad b s.heap.size) 4 (hl_ls i) lsm)
    (kk : ∀ (w2 : hb_W) (H2 : Heap) (locs2 : List Loc), Sim w2 → hb_H D cA (hd_ad b s.heap.size) s.heap w2 H2 locs2 → W p l e room_1 s m #[Value.ref b] below meth c H2 locs2 cells slots Z (F0 m 1201 lsm [])) : W p l e room_1 s m #[Value.ref b] below meth c H locs cells slots Z (F0 m 644 lsm []) := by
  have hbA : ¬ (fun q : Nat => s.heap.size ≤ q) b := Nat.not_le.mpr hbl
  refine lv_aload_n C.1 C.2.1 dL_law_644 rfl (hA.2.2 1 _ rfl) ?_
  refine lv_aload_n C.1 C.2.1 dL_law_645 rfl (hA.2.2 0 _ rfl) ?_
  refine lv_iload_n C.1 C.2.1 dL_law_646 rfl (hA.2.2 3 _ rfl) ?_
  refine lv_iconst (v := 1) C.1 C.2.1 dL_law_647 (by decide) ?_
  refine lv_iadd C.1 C.2.1 dL_law_648 ?_
  refine va_sld (b := b) C.1 C.2.1 hX hbl hbA hH.2 (hl_in 1 (by decide) hi hL) dL_law_649 ?_
  show W p l e room_1 s m #[Value.ref b] below meth c H locs cells slots Z (F0 m 650 lsm (([hb_i (xs (nI i + 1).toNatClampNeg), hb_r 0 0 0] : List hb_V).map (hb_cv (hd_ad b s.heap.size))))
  refine hl_call (As := [hb_i (xs (nI i + 1).toNatClampNeg)]) (st := []) C dL_law_650 ml_L_75 mf_X11_lot mi_X11_lot (t := 0) (g := 0) (ci := 11) rfl rfl (by decide) rfl (Nat.le_of_ble_eq_true rfl) (Nat.le_of_ble_eq_true rfl) (hp w (xs (nI i + 1).toNatClampNeg) hS) hH hA.1 ?_
  rintro rv w1 H1 locs1 ⟨r, rfl, hO2⟩ hH1
  show W p l e room_1 s m #[Value.ref b] below meth c H1 locs1 cells slots Z (F0 m 653 lsm (([hb_i r] : List hb_V).map (hb_cv (hd_ad b s.heap.size))))
  refine lv_aload_n C.1 C.2.1 dL_law_653 rfl (hA.2.2 2 _ rfl) ?_
  refine lv_aload_n C.1 C.2.1 dL_law_654 rfl (hA.2.2 0 _ rfl) ?_
  refine lv_iload_n C.1 C.2.1 dL_law_655 rfl (hA.2.2 3 _ rfl) ?_
  refine lv_iconst (v := 1) C.1 C.2.1 dL_law_656 (by decide) ?_
  refine lv_iadd C.1 C.2.1 dL_law_657 ?_
  refine va_sld (b := b) C.1 C.2.1 hX hbl hbA hH1.2 (hl_in 1 (by decide) hi hL) dL_law_658 ?_
  show W p l e room_1 s m #[Value.ref b] below meth c H1 locs1 cells slots Z (F0 m 659 lsm (([hb_i (xs (nI i + 1).toNatClampNeg), hb_r 12 0 0, hb_i r] : List hb_V).map (hb_cv (hd_ad b s.heap.size))))
  refine hl_call (As := [hb_i (xs (nI i + 1).toNatClampNeg)]) (st := [hb_i r]) C dL_law_659 ml_L_78 mf_X12_lot mi_X12_lot (t := 12) (g := 0) (ci := 12) rfl rfl (by decide) rfl (Nat.le_of_ble_eq_true rfl) (Nat.le_of_ble_eq_true rfl) hO2 hH1 hA.1 ?_
  rintro rv w2 H2 locs2 ⟨rfl, hS2⟩ hH2
  show W p l e room_1 s m #[Value.ref b] below meth c H2 locs2 cells slots Z (F0 m 662 lsm (([hb_i r, hb_i r] : List hb_V).map (hb_cv (hd_ad b s.heap.size))))
  refine lv_icmp_eq (tgt := 1201) C.1 C.2.1 dL_law_662 (by decide) (fun _ => ?_) (fun q => absurd rfl q)
  exact kk w2 H2 locs2 hS2 hH2
theorem hl_case_15 {p : Program} {l : Launch} {e : Env} {s : State} {m : MethodId} {below : List Frame} {meth : Method} {c : Code} {b L : Nat} {xs : Nat → Int32} {cells slots : Nat} {D : va_G} {cA : Nat → ClassId} {Z : State → Prop} {Sim : hb_W → Prop} (hp : hp_says Sim) (hL : L ≤ 384) (C : hl_C p s m meth c cells slots D cA b) (hX : va_X b L xs s s.heap) (hbl : b < s.heap.size) {i : Nat} (hi : i + 6 ≤ L) {w : hb_W} (hS : Sim w) {H : Heap} {locs : List Loc} {lsm : Array Slot} (hH : hb_H D cA (hd_ad b s.heap.size) s.heap w H locs) (hA : hb_L (hd_ad b s.heap.size) 4 (hl_ls i) lsm)
    (kk : ∀ (w2 : hb_W) (H2 : Heap) (locs2 : List Loc), Sim w2 → hb_H D cA (hd_ad b s.heap.size) s.heap w2 H2 locs2 → W p l e room_1 s m #[Value.ref b] below meth c H2 locs2 cells slots Z (F0 m 1201 lsm [])) : W p l e room_1 s m #[Value.ref b] below meth c H locs cells slots Z (F0 m 667 lsm []) := by
  have hbA : ¬ (fun q : Nat => s.heap.size ≤ q) b := Nat.not_le.mpr hbl
  refine lv_aload_n C.1 C.2.1 dL_law_667 rfl (hA.2.2 1 _ rfl) ?_
  refine lv_aload_n C.1 C.2.1 dL_law_668 rfl (hA.2.2 0 _ rfl) ?_
  refine lv_iload_n C.1 C.2.1 dL_law_669 rfl (hA.2.2 3 _ rfl) ?_
  refine lv_iconst (v := 1) C.1 C.2.1 dL_law_670 (by decide) ?_
  refine lv_iadd C.1 C.2.1 dL_law_671 ?_
  refine va_sld (b := b) C.1 C.2.1 hX hbl hbA hH.2 (hl_in 1 (by decide) hi hL) dL_law_672 ?_
  refine lv_aload_n C.1 C.2.1 dL_law_673 rfl (hA.2.2 0 _ rfl) ?_
  refine lv_iload_n C.1 C.2.1 dL_law_674 rfl (hA.2.2 3 _ rfl) ?_
  refine lv_iconst (v := 2) C.1 C.2.1 dL_law_675 (by decide) ?_
  refine lv_iadd C.1 C.2.1 dL_law_676 ?_
  refine va_sld (b := b) C.1 C.2.1 hX hbl hbA hH.2 (hl_in 2 (by decide) hi hL) dL_law_677 ?_
  show W p l e room_1 s m #[Value.ref b] below meth c H locs cells slots Z (F0 m 678 lsm (([hb_i (xs (nI i + 2).toNatClampNeg), hb_i (xs (nI i + 1).toNatClampNeg), hb_r 0 0 0] : List hb_V).map (hb_cv (hd_ad b s.heap.size))))
  refine hl_call (As := [hb_i (xs (nI i + 1).toNatClampNeg), hb_i (xs (nI i + 2).toNatClampNeg)]) (st := []) C dL_law_678 ml_L_79 mf_X11_says mi_X11_says (t := 0) (g := 0) (ci := 11) rfl rfl (by decide) rfl (Nat.le_of_ble_eq_true rfl) (Nat.le_of_ble_eq_true rfl) (hp w (xs (nI i + 1).toNatClampNeg) (xs (nI i + 2).toNatClampNeg) hS) hH hA.1 ?_
  rintro rv w1 H1 locs1 ⟨r, rfl, hO2⟩ hH1
  show W p l e room_1 s m #[Value.ref b] below meth c H1 locs1 cells slots Z (F0 m 681 lsm (([hb_i r] : List hb_V).map (hb_cv (hd_ad b s.heap.size))))
  refine lv_aload_n C.1 C.2.1 dL_law_681 rfl (hA.2.2 2 _ rfl) ?_
  refine lv_aload_n C.1 C.2.1 dL_law_682 rfl (hA.2.2 0 _ rfl) ?_
  refine lv_iload_n C.1 C.2.1 dL_law_683 rfl (hA.2.2 3 _ rfl) ?_
  refine lv_iconst (v := 1) C.1 C.2.1 dL_law_684 (by decide) ?_
  refine lv_iadd C.1 C.2.1 dL_law_685 ?_
  refine va_sld (b := b) C.1 C.2.1 hX hbl hbA hH1.2 (hl_in 1 (by decide) hi hL) dL_law_686 ?_
  refine lv_aload_n C.1 C.2.1 dL_law_687 rfl (hA.2.2 0 _ rfl) ?_
  refine lv_iload_n C.1 C.2.1 dL_law_688 rfl (hA.2.2 3 _ rfl) ?_
  refine lv_iconst (v := 2) C.1 C.2.1 dL_law_689 (by decide) ?_
  refine lv_iadd C.1 C.2.1 dL_law_690 ?_
  refine va_sld (b := b) C.1 C.2.1 hX hbl hbA hH1.2 (hl_in 2 (by decide) hi hL) dL_law_691 ?_
  show W p l e room_1 s m #[Value.ref b] below meth c H1 locs1 cells slots Z (F0 m 692 lsm (([hb_i (xs (nI i + 2).toNatClampNeg), hb_i (xs (nI i + 1).toNatClampNeg), hb_r 12 0 0, hb_i r] : List hb_V).map (hb_cv (hd_ad b s.heap.size))))
  refine hl_call (As := [hb_i (xs (nI i + 1).toNatClampNeg), hb_i (xs (nI i + 2).toNatClampNeg)]) (st := [hb_i r]) C dL_law_692 ml_L_82 mf_X12_says mi_X12_says (t := 12) (g := 0) (ci := 12) rfl rfl (by decide) rfl (Nat.le_of_ble_eq_true rfl) (Nat.le_of_ble_eq_true rfl) hO2 hH1 hA.1 ?_
  rintro rv w2 H2 locs2 ⟨rfl, hS2⟩ hH2
  show W p l e room_1 s m #[Value.ref b] below meth c H2 locs2 cells slots Z (F0 m 695 lsm (([hb_i r, hb_i r] : List hb_V).map (hb_cv (hd_ad b s.heap.size))))
  refine lv_icmp_eq (tgt := 1201) C.1 C.2.1 dL_law_695 (by decide) (fun _ => ?_) (fun q => absurd rfl q)
  exact kk w2 H2 locs2 hS2 hH2
theorem hl_case_16 {p : Program} {l : Launch} {e : Env} {s : State} {m : MethodId} {below : List Frame} {meth : Method} {c : Code} {b L : Nat} {xs : Nat → Int32} {cells slots : Nat} {D : va_G} {cA : Nat → ClassId} {Z : State → Prop} {Sim : hb_W → Prop} (hp : hp_told Sim) (hL : L ≤ 384) (C : hl_C p s m meth c cells slots D cA b) (hX : va_X b L xs s s.heap) (hbl : b < s.heap.size) {i : Nat} (hi : i + 6 ≤ L) {w : hb_W} (hS : Sim w) {H : Heap} {locs : List Loc} {lsm : Array Slot} (hH : hb_H D cA (hd_ad b s.heap.size) s.heap w H locs) (hA : hb_L (hd_ad b s.heap.size) 4 (hl_ls i) lsm)
    (kk : ∀ (w2 : hb_W) (H2 : Heap) (locs2 : List Loc), Sim w2 → hb_H D cA (hd_ad b s.heap.size) s.heap w2 H2 locs2 → W p l e room_1 s m #[Value.ref b] below meth c H2 locs2 cells slots Z (F0 m 1201 lsm [])) : W p l e room_1 s m #[Value.ref b] below meth c H locs cells slots Z (F0 m 700 lsm []) := by
  have hbA : ¬ (fun q : Nat => s.heap.size ≤ q) b := Nat.not_le.mpr hbl
  refine lv_aload_n C.1 C.2.1 dL_law_700 rfl (hA.2.2 1 _ rfl) ?_
  refine lv_aload_n C.1 C.2.1 dL_law_701 rfl (hA.2.2 0 _ rfl) ?_
  refine lv_iload_n C.1 C.2.1 dL_law_702 rfl (hA.2.2 3 _ rfl) ?_
  refine lv_iconst (v := 1) C.1 C.2.1 dL_law_703 (by decide) ?_
  refine lv_iadd C.1 C.2.1 dL_law_704 ?_
  refine va_sld (b := b) C.1 C.2.1 hX hbl hbA hH.2 (hl_in 1 (by decide) hi hL) dL_law_705 ?_
  refine lv_aload_n C.1 C.2.1 dL_law_706 rfl (hA.2.2 0 _ rfl) ?_
  refine lv_iload_n C.1 C.2.1 dL_law_707 rfl (hA.2.2 3 _ rfl) ?_
  refine lv_iconst (v := 2) C.1 C.2.1 dL_law_708 (by decide) ?_
  refine lv_iadd C.1 C.2.1 dL_law_709 ?_
  refine va_sld (b := b) C.1 C.2.1 hX hbl hbA hH.2 (hl_in 2 (by decide) hi hL) dL_law_710 ?_
  show W p l e room_1 s m #[Value.ref b] below meth c H locs cells slots Z (F0 m 711 lsm (([hb_i (xs (nI i + 2).toNatClampNeg), hb_i (xs (nI i + 1).toNatClampNeg), hb_r 0 0 0] : List hb_V).map (hb_cv (hd_ad b s.heap.size))))
  refine hl_call (As := [hb_i (xs (nI i + 1).toNatClampNeg), hb_i (xs (nI i + 2).toNatClampNeg)]) (st := []) C dL_law_711 ml_L_83 mf_X11_told mi_X11_told (t := 0) (g := 0) (ci := 11) rfl rfl (by decide) rfl (Nat.le_of_ble_eq_true rfl) (Nat.le_of_ble_eq_true rfl) (hp w (xs (nI i + 1).toNatClampNeg) (xs (nI i + 2).toNatClampNeg) hS) hH hA.1 ?_
  rintro rv w1 H1 locs1 ⟨r, rfl, hO2⟩ hH1
  show W p l e room_1 s m #[Value.ref b] below meth c H1 locs1 cells slots Z (F0 m 714 lsm (([hb_i r] : List hb_V).map (hb_cv (hd_ad b s.heap.size))))
  refine lv_aload_n C.1 C.2.1 dL_law_714 rfl (hA.2.2 2 _ rfl) ?_
  refine lv_aload_n C.1 C.2.1 dL_law_715 rfl (hA.2.2 0 _ rfl) ?_
  refine lv_iload_n C.1 C.2.1 dL_law_716 rfl (hA.2.2 3 _ rfl) ?_
  refine lv_iconst (v := 1) C.1 C.2.1 dL_law_717 (by decide) ?_
  refine lv_iadd C.1 C.2.1 dL_law_718 ?_
  refine va_sld (b := b) C.1 C.2.1 hX hbl hbA hH1.2 (hl_in 1 (by decide) hi hL) dL_law_719 ?_
  refine lv_aload_n C.1 C.2.1 dL_law_720 rfl (hA.2.2 0 _ rfl) ?_
  refine lv_iload_n C.1 C.2.1 dL_law_721 rfl (hA.2.2 3 _ rfl) ?_
  refine lv_iconst (v := 2) C.1 C.2.1 dL_law_722 (by decide) ?_
  refine lv_iadd C.1 C.2.1 dL_law_723 ?_
  refine va_sld (b := b) C.1 C.2.1 hX hbl hbA hH1.2 (hl_in 2 (by decide) hi hL) dL_law_724 ?_
  show W p l e room_1 s m #[Value.ref b] below meth c H1 locs1 cells slots Z (F0 m 725 lsm (([hb_i (xs (nI i + 2).toNatClampNeg), hb_i (xs (nI i + 1).toNatClampNeg), hb_r 12 0 0, hb_i r] : List hb_V).map (hb_cv (hd_ad b s.heap.size))))
  refine hl_call (As := [hb_i (xs (nI i + 1).toNatClampNeg), hb_i (xs (nI i + 2).toNatClampNeg)]) (st := [hb_i r]) C dL_law_725 ml_L_86 mf_X12_told mi_X12_told (t := 12) (g := 0) (ci := 12) rfl rfl (by decide) rfl (Nat.le_of_ble_eq_true rfl) (Nat.le_of_ble_eq_true rfl) hO2 hH1 hA.1 ?_
  rintro rv w2 H2 locs2 ⟨rfl, hS2⟩ hH2
  show W p l e room_1 s m #[Value.ref b] below meth c H2 locs2 cells slots Z (F0 m 728 lsm (([hb_i r, hb_i r] : List hb_V).map (hb_cv (hd_ad b s.heap.size))))
  refine lv_icmp_eq (tgt := 1201) C.1 C.2.1 dL_law_728 (by decide) (fun _ => ?_) (fun q => absurd rfl q)
  exact kk w2 H2 locs2 hS2 hH2
theorem hl_case_17 {p : Program} {l : Launch} {e : Env} {s : State} {m : MethodId} {below : List Frame} {meth : Method} {c : Code} {b L : Nat} {xs : Nat → Int32} {cells slots : Nat} {D : va_G} {cA : Nat → ClassId} {Z : State → Prop} {Sim : hb_W → Prop} (hp : hp_was Sim) (hL : L ≤ 384) (C : hl_C p s m meth c cells slots D cA b) (hX : va_X b L xs s s.heap) (hbl : b < s.heap.size) {i : Nat} (hi : i + 6 ≤ L) {w : hb_W} (hS : Sim w) {H : Heap} {locs : List Loc} {lsm : Array Slot} (hH : hb_H D cA (hd_ad b s.heap.size) s.heap w H locs) (hA : hb_L (hd_ad b s.heap.size) 4 (hl_ls i) lsm)
    (kk : ∀ (w2 : hb_W) (H2 : Heap) (locs2 : List Loc), Sim w2 → hb_H D cA (hd_ad b s.heap.size) s.heap w2 H2 locs2 → W p l e room_1 s m #[Value.ref b] below meth c H2 locs2 cells slots Z (F0 m 1201 lsm [])) : W p l e room_1 s m #[Value.ref b] below meth c H locs cells slots Z (F0 m 733 lsm []) := by
  have hbA : ¬ (fun q : Nat => s.heap.size ≤ q) b := Nat.not_le.mpr hbl
  refine lv_aload_n C.1 C.2.1 dL_law_733 rfl (hA.2.2 1 _ rfl) ?_
  refine lv_aload_n C.1 C.2.1 dL_law_734 rfl (hA.2.2 0 _ rfl) ?_
  refine lv_iload_n C.1 C.2.1 dL_law_735 rfl (hA.2.2 3 _ rfl) ?_
  refine lv_iconst (v := 1) C.1 C.2.1 dL_law_736 (by decide) ?_
  refine lv_iadd C.1 C.2.1 dL_law_737 ?_
  refine va_sld (b := b) C.1 C.2.1 hX hbl hbA hH.2 (hl_in 1 (by decide) hi hL) dL_law_738 ?_
  refine lv_aload_n C.1 C.2.1 dL_law_739 rfl (hA.2.2 0 _ rfl) ?_
  refine lv_iload_n C.1 C.2.1 dL_law_740 rfl (hA.2.2 3 _ rfl) ?_
  refine lv_iconst (v := 2) C.1 C.2.1 dL_law_741 (by decide) ?_
  refine lv_iadd C.1 C.2.1 dL_law_742 ?_
  refine va_sld (b := b) C.1 C.2.1 hX hbl hbA hH.2 (hl_in 2 (by decide) hi hL) dL_law_743 ?_
  show W p l e room_1 s m #[Value.ref b] below meth c H locs cells slots Z (F0 m 744 lsm (([hb_i (xs (nI i + 2).toNatClampNeg), hb_i (xs (nI i + 1).toNatClampNeg), hb_r 0 0 0] : List hb_V).map (hb_cv (hd_ad b s.heap.size))))
  refine hl_call (As := [hb_i (xs (nI i + 1).toNatClampNeg), hb_i (xs (nI i + 2).toNatClampNeg)]) (st := []) C dL_law_744 ml_L_87 mf_X11_was mi_X11_was (t := 0) (g := 0) (ci := 11) rfl rfl (by decide) rfl (Nat.le_of_ble_eq_true rfl) (Nat.le_of_ble_eq_true rfl) (hp w (xs (nI i + 1).toNatClampNeg) (xs (nI i + 2).toNatClampNeg) hS) hH hA.1 ?_
  rintro rv w1 H1 locs1 ⟨r, rfl, hO2⟩ hH1
  show W p l e room_1 s m #[Value.ref b] below meth c H1 locs1 cells slots Z (F0 m 747 lsm (([hb_i r] : List hb_V).map (hb_cv (hd_ad b s.heap.size))))
  refine lv_aload_n C.1 C.2.1 dL_law_747 rfl (hA.2.2 2 _ rfl) ?_
  refine lv_aload_n C.1 C.2.1 dL_law_748 rfl (hA.2.2 0 _ rfl) ?_
  refine lv_iload_n C.1 C.2.1 dL_law_749 rfl (hA.2.2 3 _ rfl) ?_
  refine lv_iconst (v := 1) C.1 C.2.1 dL_law_750 (by decide) ?_
  refine lv_iadd C.1 C.2.1 dL_law_751 ?_
  refine va_sld (b := b) C.1 C.2.1 hX hbl hbA hH1.2 (hl_in 1 (by decide) hi hL) dL_law_752 ?_
  refine lv_aload_n C.1 C.2.1 dL_law_753 rfl (hA.2.2 0 _ rfl) ?_
  refine lv_iload_n C.1 C.2.1 dL_law_754 rfl (hA.2.2 3 _ rfl) ?_
  refine lv_iconst (v := 2) C.1 C.2.1 dL_law_755 (by decide) ?_
  refine lv_iadd C.1 C.2.1 dL_law_756 ?_
  refine va_sld (b := b) C.1 C.2.1 hX hbl hbA hH1.2 (hl_in 2 (by decide) hi hL) dL_law_757 ?_
  show W p l e room_1 s m #[Value.ref b] below meth c H1 locs1 cells slots Z (F0 m 758 lsm (([hb_i (xs (nI i + 2).toNatClampNeg), hb_i (xs (nI i + 1).toNatClampNeg), hb_r 12 0 0, hb_i r] : List hb_V).map (hb_cv (hd_ad b s.heap.size))))
  refine hl_call (As := [hb_i (xs (nI i + 1).toNatClampNeg), hb_i (xs (nI i + 2).toNatClampNeg)]) (st := [hb_i r]) C dL_law_758 ml_L_90 mf_X12_was mi_X12_was (t := 12) (g := 0) (ci := 12) rfl rfl (by decide) rfl (Nat.le_of_ble_eq_true rfl) (Nat.le_of_ble_eq_true rfl) hO2 hH1 hA.1 ?_
  rintro rv w2 H2 locs2 ⟨rfl, hS2⟩ hH2
  show W p l e room_1 s m #[Value.ref b] below meth c H2 locs2 cells slots Z (F0 m 761 lsm (([hb_i r, hb_i r] : List hb_V).map (hb_cv (hd_ad b s.heap.size))))
  refine lv_icmp_eq (tgt := 1201) C.1 C.2.1 dL_law_761 (by decide) (fun _ => ?_) (fun q => absurd rfl q)
  exact kk w2 H2 locs2 hS2 hH2
theorem hl_case_18 {p : Program} {l : Launch} {e : Env} {s : State} {m : MethodId} {below : List Frame} {meth : Method} {c : Code} {b L : Nat} {xs : Nat → Int32} {cells slots : Nat} {D : va_G} {cA : Nat → ClassId} {Z : State → Prop} {Sim : hb_W → Prop} (hp : hp_alike Sim) (hL : L ≤ 384) (C : hl_C p s m meth c cells slots D cA b) (hX : va_X b L xs s s.heap) (hbl : b < s.heap.size) {i : Nat} (hi : i + 6 ≤ L) {w : hb_W} (hS : Sim w) {H : Heap} {locs : List Loc} {lsm : Array Slot} (hH : hb_H D cA (hd_ad b s.heap.size) s.heap w H locs) (hA : hb_L (hd_ad b s.heap.size) 4 (hl_ls i) lsm)
    (kk : ∀ (w2 : hb_W) (H2 : Heap) (locs2 : List Loc), Sim w2 → hb_H D cA (hd_ad b s.heap.size) s.heap w2 H2 locs2 → W p l e room_1 s m #[Value.ref b] below meth c H2 locs2 cells slots Z (F0 m 1201 lsm [])) : W p l e room_1 s m #[Value.ref b] below meth c H locs cells slots Z (F0 m 766 lsm []) := by
  have hbA : ¬ (fun q : Nat => s.heap.size ≤ q) b := Nat.not_le.mpr hbl
  refine lv_aload_n C.1 C.2.1 dL_law_766 rfl (hA.2.2 1 _ rfl) ?_
  show W p l e room_1 s m #[Value.ref b] below meth c H locs cells slots Z (F0 m 767 lsm (([hb_r 0 0 0] : List hb_V).map (hb_cv (hd_ad b s.heap.size))))
  refine hl_call (As := []) (st := []) C dL_law_767 ml_L_91 mf_X11_alike mi_X11_alike (t := 0) (g := 0) (ci := 11) rfl rfl (by decide) rfl (Nat.le_of_ble_eq_true rfl) (Nat.le_of_ble_eq_true rfl) (hp w hS) hH hA.1 ?_
  rintro rv w1 H1 locs1 ⟨r, rfl, hO2⟩ hH1
  show W p l e room_1 s m #[Value.ref b] below meth c H1 locs1 cells slots Z (F0 m 770 lsm (([hb_i r] : List hb_V).map (hb_cv (hd_ad b s.heap.size))))
  refine lv_aload_n C.1 C.2.1 dL_law_770 rfl (hA.2.2 2 _ rfl) ?_
  show W p l e room_1 s m #[Value.ref b] below meth c H1 locs1 cells slots Z (F0 m 771 lsm (([hb_r 12 0 0, hb_i r] : List hb_V).map (hb_cv (hd_ad b s.heap.size))))
  refine hl_call (As := []) (st := [hb_i r]) C dL_law_771 ml_L_94 mf_X12_alike mi_X12_alike (t := 12) (g := 0) (ci := 12) rfl rfl (by decide) rfl (Nat.le_of_ble_eq_true rfl) (Nat.le_of_ble_eq_true rfl) hO2 hH1 hA.1 ?_
  rintro rv w2 H2 locs2 ⟨rfl, hS2⟩ hH2
  show W p l e room_1 s m #[Value.ref b] below meth c H2 locs2 cells slots Z (F0 m 774 lsm (([hb_i r, hb_i r] : List hb_V).map (hb_cv (hd_ad b s.heap.size))))
  refine lv_icmp_eq (tgt := 1201) C.1 C.2.1 dL_law_774 (by decide) (fun _ => ?_) (fun q => absurd rfl q)
  exact kk w2 H2 locs2 hS2 hH2
theorem hl_case_19 {p : Program} {l : Launch} {e : Env} {s : State} {m : MethodId} {below : List Frame} {meth : Method} {c : Code} {b L : Nat} {xs : Nat → Int32} {cells slots : Nat} {D : va_G} {cA : Nat → ClassId} {Z : State → Prop} {Sim : hb_W → Prop} (hp : hp_truth Sim) (hL : L ≤ 384) (C : hl_C p s m meth c cells slots D cA b) (hX : va_X b L xs s s.heap) (hbl : b < s.heap.size) {i : Nat} (hi : i + 6 ≤ L) {w : hb_W} (hS : Sim w) {H : Heap} {locs : List Loc} {lsm : Array Slot} (hH : hb_H D cA (hd_ad b s.heap.size) s.heap w H locs) (hA : hb_L (hd_ad b s.heap.size) 4 (hl_ls i) lsm)
    (kk : ∀ (w2 : hb_W) (H2 : Heap) (locs2 : List Loc), Sim w2 → hb_H D cA (hd_ad b s.heap.size) s.heap w2 H2 locs2 → W p l e room_1 s m #[Value.ref b] below meth c H2 locs2 cells slots Z (F0 m 1201 lsm [])) : W p l e room_1 s m #[Value.ref b] below meth c H locs cells slots Z (F0 m 779 lsm []) := by
  have hbA : ¬ (fun q : Nat => s.heap.size ≤ q) b := Nat.not_le.mpr hbl
  refine lv_aload_n C.1 C.2.1 dL_law_779 rfl (hA.2.2 1 _ rfl) ?_
  refine lv_aload_n C.1 C.2.1 dL_law_780 rfl (hA.2.2 0 _ rfl) ?_
  refine lv_iload_n C.1 C.2.1 dL_law_781 rfl (hA.2.2 3 _ rfl) ?_
  refine lv_iconst (v := 1) C.1 C.2.1 dL_law_782 (by decide) ?_
  refine lv_iadd C.1 C.2.1 dL_law_783 ?_
  refine va_sld (b := b) C.1 C.2.1 hX hbl hbA hH.2 (hl_in 1 (by decide) hi hL) dL_law_784 ?_
  refine lv_aload_n C.1 C.2.1 dL_law_785 rfl (hA.2.2 0 _ rfl) ?_
  refine lv_iload_n C.1 C.2.1 dL_law_786 rfl (hA.2.2 3 _ rfl) ?_
  refine lv_iconst (v := 2) C.1 C.2.1 dL_law_787 (by decide) ?_
  refine lv_iadd C.1 C.2.1 dL_law_788 ?_
  refine va_sld (b := b) C.1 C.2.1 hX hbl hbA hH.2 (hl_in 2 (by decide) hi hL) dL_law_789 ?_
  show W p l e room_1 s m #[Value.ref b] below meth c H locs cells slots Z (F0 m 790 lsm (([hb_i (xs (nI i + 2).toNatClampNeg), hb_i (xs (nI i + 1).toNatClampNeg), hb_r 0 0 0] : List hb_V).map (hb_cv (hd_ad b s.heap.size))))
  refine hl_call (As := [hb_i (xs (nI i + 1).toNatClampNeg), hb_i (xs (nI i + 2).toNatClampNeg)]) (st := []) C dL_law_790 ml_L_95 mf_X11_truth mi_X11_truth (t := 0) (g := 0) (ci := 11) rfl rfl (by decide) rfl (Nat.le_of_ble_eq_true rfl) (Nat.le_of_ble_eq_true rfl) (hp w (xs (nI i + 1).toNatClampNeg) (xs (nI i + 2).toNatClampNeg) hS) hH hA.1 ?_
  rintro rv w1 H1 locs1 ⟨r, rfl, hO2⟩ hH1
  show W p l e room_1 s m #[Value.ref b] below meth c H1 locs1 cells slots Z (F0 m 793 lsm (([hb_i r] : List hb_V).map (hb_cv (hd_ad b s.heap.size))))
  refine lv_aload_n C.1 C.2.1 dL_law_793 rfl (hA.2.2 2 _ rfl) ?_
  refine lv_aload_n C.1 C.2.1 dL_law_794 rfl (hA.2.2 0 _ rfl) ?_
  refine lv_iload_n C.1 C.2.1 dL_law_795 rfl (hA.2.2 3 _ rfl) ?_
  refine lv_iconst (v := 1) C.1 C.2.1 dL_law_796 (by decide) ?_
  refine lv_iadd C.1 C.2.1 dL_law_797 ?_
  refine va_sld (b := b) C.1 C.2.1 hX hbl hbA hH1.2 (hl_in 1 (by decide) hi hL) dL_law_798 ?_
  refine lv_aload_n C.1 C.2.1 dL_law_799 rfl (hA.2.2 0 _ rfl) ?_
  refine lv_iload_n C.1 C.2.1 dL_law_800 rfl (hA.2.2 3 _ rfl) ?_
  refine lv_iconst (v := 2) C.1 C.2.1 dL_law_801 (by decide) ?_
  refine lv_iadd C.1 C.2.1 dL_law_802 ?_
  refine va_sld (b := b) C.1 C.2.1 hX hbl hbA hH1.2 (hl_in 2 (by decide) hi hL) dL_law_803 ?_
  show W p l e room_1 s m #[Value.ref b] below meth c H1 locs1 cells slots Z (F0 m 804 lsm (([hb_i (xs (nI i + 2).toNatClampNeg), hb_i (xs (nI i + 1).toNatClampNeg), hb_r 12 0 0, hb_i r] : List hb_V).map (hb_cv (hd_ad b s.heap.size))))
  refine hl_call (As := [hb_i (xs (nI i + 1).toNatClampNeg), hb_i (xs (nI i + 2).toNatClampNeg)]) (st := [hb_i r]) C dL_law_804 ml_L_98 mf_X12_truth mi_X12_truth (t := 12) (g := 0) (ci := 12) rfl rfl (by decide) rfl (Nat.le_of_ble_eq_true rfl) (Nat.le_of_ble_eq_true rfl) hO2 hH1 hA.1 ?_
  rintro rv w2 H2 locs2 ⟨rfl, hS2⟩ hH2
  show W p l e room_1 s m #[Value.ref b] below meth c H2 locs2 cells slots Z (F0 m 807 lsm (([hb_i r, hb_i r] : List hb_V).map (hb_cv (hd_ad b s.heap.size))))
  refine lv_icmp_eq (tgt := 1201) C.1 C.2.1 dL_law_807 (by decide) (fun _ => ?_) (fun q => absurd rfl q)
  exact kk w2 H2 locs2 hS2 hH2
theorem hl_case_20 {p : Program} {l : Launch} {e : Env} {s : State} {m : MethodId} {below : List Frame} {meth : Method} {c : Code} {b L : Nat} {xs : Nat → Int32} {cells slots : Nat} {D : va_G} {cA : Nat → ClassId} {Z : State → Prop} {Sim : hb_W → Prop} (hp : hp_times Sim) (hL : L ≤ 384) (C : hl_C p s m meth c cells slots D cA b) (hX : va_X b L xs s s.heap) (hbl : b < s.heap.size) {i : Nat} (hi : i + 6 ≤ L) {w : hb_W} (hS : Sim w) {H : Heap} {locs : List Loc} {lsm : Array Slot} (hH : hb_H D cA (hd_ad b s.heap.size) s.heap w H locs) (hA : hb_L (hd_ad b s.heap.size) 4 (hl_ls i) lsm)
    (kk : ∀ (w2 : hb_W) (H2 : Heap) (locs2 : List Loc), Sim w2 → hb_H D cA (hd_ad b s.heap.size) s.heap w2 H2 locs2 → W p l e room_1 s m #[Value.ref b] below meth c H2 locs2 cells slots Z (F0 m 1201 lsm [])) : W p l e room_1 s m #[Value.ref b] below meth c H locs cells slots Z (F0 m 812 lsm []) := by
  have hbA : ¬ (fun q : Nat => s.heap.size ≤ q) b := Nat.not_le.mpr hbl
  refine lv_aload_n C.1 C.2.1 dL_law_812 rfl (hA.2.2 1 _ rfl) ?_
  refine lv_aload_n C.1 C.2.1 dL_law_813 rfl (hA.2.2 0 _ rfl) ?_
  refine lv_iload_n C.1 C.2.1 dL_law_814 rfl (hA.2.2 3 _ rfl) ?_
  refine lv_iconst (v := 1) C.1 C.2.1 dL_law_815 (by decide) ?_
  refine lv_iadd C.1 C.2.1 dL_law_816 ?_
  refine va_sld (b := b) C.1 C.2.1 hX hbl hbA hH.2 (hl_in 1 (by decide) hi hL) dL_law_817 ?_
  refine lv_aload_n C.1 C.2.1 dL_law_818 rfl (hA.2.2 0 _ rfl) ?_
  refine lv_iload_n C.1 C.2.1 dL_law_819 rfl (hA.2.2 3 _ rfl) ?_
  refine lv_iconst (v := 2) C.1 C.2.1 dL_law_820 (by decide) ?_
  refine lv_iadd C.1 C.2.1 dL_law_821 ?_
  refine va_sld (b := b) C.1 C.2.1 hX hbl hbA hH.2 (hl_in 2 (by decide) hi hL) dL_law_822 ?_
  show W p l e room_1 s m #[Value.ref b] below meth c H locs cells slots Z (F0 m 823 lsm (([hb_i (xs (nI i + 2).toNatClampNeg), hb_i (xs (nI i + 1).toNatClampNeg), hb_r 0 0 0] : List hb_V).map (hb_cv (hd_ad b s.heap.size))))
  refine hl_call (As := [hb_i (xs (nI i + 1).toNatClampNeg), hb_i (xs (nI i + 2).toNatClampNeg)]) (st := []) C dL_law_823 ml_L_99 mf_X11_times mi_X11_times (t := 0) (g := 0) (ci := 11) rfl rfl (by decide) rfl (Nat.le_of_ble_eq_true rfl) (Nat.le_of_ble_eq_true rfl) (hp w (xs (nI i + 1).toNatClampNeg) (xs (nI i + 2).toNatClampNeg) hS) hH hA.1 ?_
  rintro rv w1 H1 locs1 ⟨r, rfl, hO2⟩ hH1
  show W p l e room_1 s m #[Value.ref b] below meth c H1 locs1 cells slots Z (F0 m 826 lsm (([hb_i r] : List hb_V).map (hb_cv (hd_ad b s.heap.size))))
  refine lv_aload_n C.1 C.2.1 dL_law_826 rfl (hA.2.2 2 _ rfl) ?_
  refine lv_aload_n C.1 C.2.1 dL_law_827 rfl (hA.2.2 0 _ rfl) ?_
  refine lv_iload_n C.1 C.2.1 dL_law_828 rfl (hA.2.2 3 _ rfl) ?_
  refine lv_iconst (v := 1) C.1 C.2.1 dL_law_829 (by decide) ?_
  refine lv_iadd C.1 C.2.1 dL_law_830 ?_
  refine va_sld (b := b) C.1 C.2.1 hX hbl hbA hH1.2 (hl_in 1 (by decide) hi hL) dL_law_831 ?_
  refine lv_aload_n C.1 C.2.1 dL_law_832 rfl (hA.2.2 0 _ rfl) ?_
  refine lv_iload_n C.1 C.2.1 dL_law_833 rfl (hA.2.2 3 _ rfl) ?_
  refine lv_iconst (v := 2) C.1 C.2.1 dL_law_834 (by decide) ?_
  refine lv_iadd C.1 C.2.1 dL_law_835 ?_
  refine va_sld (b := b) C.1 C.2.1 hX hbl hbA hH1.2 (hl_in 2 (by decide) hi hL) dL_law_836 ?_
  show W p l e room_1 s m #[Value.ref b] below meth c H1 locs1 cells slots Z (F0 m 837 lsm (([hb_i (xs (nI i + 2).toNatClampNeg), hb_i (xs (nI i + 1).toNatClampNeg), hb_r 12 0 0, hb_i r] : List hb_V).map (hb_cv (hd_ad b s.heap.size))))
  refine hl_call (As := [hb_i (xs (nI i + 1).toNatClampNeg), hb_i (xs (nI i + 2).toNatClampNeg)]) (st := [hb_i r]) C dL_law_837 ml_L_102 mf_X12_times mi_X12_times (t := 12) (g := 0) (ci := 12) rfl rfl (by decide) rfl (Nat.le_of_ble_eq_true rfl) (Nat.le_of_ble_eq_true rfl) hO2 hH1 hA.1 ?_
  rintro rv w2 H2 locs2 ⟨rfl, hS2⟩ hH2
  show W p l e room_1 s m #[Value.ref b] below meth c H2 locs2 cells slots Z (F0 m 840 lsm (([hb_i r, hb_i r] : List hb_V).map (hb_cv (hd_ad b s.heap.size))))
  refine lv_icmp_eq (tgt := 1201) C.1 C.2.1 dL_law_840 (by decide) (fun _ => ?_) (fun q => absurd rfl q)
  exact kk w2 H2 locs2 hS2 hH2
theorem hl_case_21 {p : Program} {l : Launch} {e : Env} {s : State} {m : MethodId} {below : List Frame} {meth : Method} {c : Code} {b L : Nat} {xs : Nat → Int32} {cells slots : Nat} {D : va_G} {cA : Nat → ClassId} {Z : State → Prop} {Sim : hb_W → Prop} (hp : hp_out Sim) (hL : L ≤ 384) (C : hl_C p s m meth c cells slots D cA b) (hX : va_X b L xs s s.heap) (hbl : b < s.heap.size) {i : Nat} (hi : i + 6 ≤ L) {w : hb_W} (hS : Sim w) {H : Heap} {locs : List Loc} {lsm : Array Slot} (hH : hb_H D cA (hd_ad b s.heap.size) s.heap w H locs) (hA : hb_L (hd_ad b s.heap.size) 4 (hl_ls i) lsm)
    (kk : ∀ (w2 : hb_W) (H2 : Heap) (locs2 : List Loc), Sim w2 → hb_H D cA (hd_ad b s.heap.size) s.heap w2 H2 locs2 → W p l e room_1 s m #[Value.ref b] below meth c H2 locs2 cells slots Z (F0 m 1201 lsm [])) : W p l e room_1 s m #[Value.ref b] below meth c H locs cells slots Z (F0 m 845 lsm []) := by
  have hbA : ¬ (fun q : Nat => s.heap.size ≤ q) b := Nat.not_le.mpr hbl
  refine lv_aload_n C.1 C.2.1 dL_law_845 rfl (hA.2.2 1 _ rfl) ?_
  refine lv_aload_n C.1 C.2.1 dL_law_846 rfl (hA.2.2 0 _ rfl) ?_
  refine lv_iload_n C.1 C.2.1 dL_law_847 rfl (hA.2.2 3 _ rfl) ?_
  refine lv_iconst (v := 1) C.1 C.2.1 dL_law_848 (by decide) ?_
  refine lv_iadd C.1 C.2.1 dL_law_849 ?_
  refine va_sld (b := b) C.1 C.2.1 hX hbl hbA hH.2 (hl_in 1 (by decide) hi hL) dL_law_850 ?_
  refine lv_aload_n C.1 C.2.1 dL_law_851 rfl (hA.2.2 0 _ rfl) ?_
  refine lv_iload_n C.1 C.2.1 dL_law_852 rfl (hA.2.2 3 _ rfl) ?_
  refine lv_iconst (v := 2) C.1 C.2.1 dL_law_853 (by decide) ?_
  refine lv_iadd C.1 C.2.1 dL_law_854 ?_
  refine va_sld (b := b) C.1 C.2.1 hX hbl hbA hH.2 (hl_in 2 (by decide) hi hL) dL_law_855 ?_
  show W p l e room_1 s m #[Value.ref b] below meth c H locs cells slots Z (F0 m 856 lsm (([hb_i (xs (nI i + 2).toNatClampNeg), hb_i (xs (nI i + 1).toNatClampNeg), hb_r 0 0 0] : List hb_V).map (hb_cv (hd_ad b s.heap.size))))
  refine hl_call (As := [hb_i (xs (nI i + 1).toNatClampNeg), hb_i (xs (nI i + 2).toNatClampNeg)]) (st := []) C dL_law_856 ml_L_103 mf_X11_out mi_X11_out (t := 0) (g := 0) (ci := 11) rfl rfl (by decide) rfl (Nat.le_of_ble_eq_true rfl) (Nat.le_of_ble_eq_true rfl) (hp w (xs (nI i + 1).toNatClampNeg) (xs (nI i + 2).toNatClampNeg) hS) hH hA.1 ?_
  rintro rv w1 H1 locs1 ⟨r, rfl, hO2⟩ hH1
  show W p l e room_1 s m #[Value.ref b] below meth c H1 locs1 cells slots Z (F0 m 859 lsm (([hb_i r] : List hb_V).map (hb_cv (hd_ad b s.heap.size))))
  refine lv_aload_n C.1 C.2.1 dL_law_859 rfl (hA.2.2 2 _ rfl) ?_
  refine lv_aload_n C.1 C.2.1 dL_law_860 rfl (hA.2.2 0 _ rfl) ?_
  refine lv_iload_n C.1 C.2.1 dL_law_861 rfl (hA.2.2 3 _ rfl) ?_
  refine lv_iconst (v := 1) C.1 C.2.1 dL_law_862 (by decide) ?_
  refine lv_iadd C.1 C.2.1 dL_law_863 ?_
  refine va_sld (b := b) C.1 C.2.1 hX hbl hbA hH1.2 (hl_in 1 (by decide) hi hL) dL_law_864 ?_
  refine lv_aload_n C.1 C.2.1 dL_law_865 rfl (hA.2.2 0 _ rfl) ?_
  refine lv_iload_n C.1 C.2.1 dL_law_866 rfl (hA.2.2 3 _ rfl) ?_
  refine lv_iconst (v := 2) C.1 C.2.1 dL_law_867 (by decide) ?_
  refine lv_iadd C.1 C.2.1 dL_law_868 ?_
  refine va_sld (b := b) C.1 C.2.1 hX hbl hbA hH1.2 (hl_in 2 (by decide) hi hL) dL_law_869 ?_
  show W p l e room_1 s m #[Value.ref b] below meth c H1 locs1 cells slots Z (F0 m 870 lsm (([hb_i (xs (nI i + 2).toNatClampNeg), hb_i (xs (nI i + 1).toNatClampNeg), hb_r 12 0 0, hb_i r] : List hb_V).map (hb_cv (hd_ad b s.heap.size))))
  refine hl_call (As := [hb_i (xs (nI i + 1).toNatClampNeg), hb_i (xs (nI i + 2).toNatClampNeg)]) (st := [hb_i r]) C dL_law_870 ml_L_106 mf_X12_out mi_X12_out (t := 12) (g := 0) (ci := 12) rfl rfl (by decide) rfl (Nat.le_of_ble_eq_true rfl) (Nat.le_of_ble_eq_true rfl) hO2 hH1 hA.1 ?_
  rintro rv w2 H2 locs2 ⟨rfl, hS2⟩ hH2
  show W p l e room_1 s m #[Value.ref b] below meth c H2 locs2 cells slots Z (F0 m 873 lsm (([hb_i r, hb_i r] : List hb_V).map (hb_cv (hd_ad b s.heap.size))))
  refine lv_icmp_eq (tgt := 1201) C.1 C.2.1 dL_law_873 (by decide) (fun _ => ?_) (fun q => absurd rfl q)
  exact kk w2 H2 locs2 hS2 hH2
theorem hl_case_22 {p : Program} {l : Launch} {e : Env} {s : State} {m : MethodId} {below : List Frame} {meth : Method} {c : Code} {b L : Nat} {xs : Nat → Int32} {cells slots : Nat} {D : va_G} {cA : Nat → ClassId} {Z : State → Prop} {Sim : hb_W → Prop} (hp : hp_few Sim) (hL : L ≤ 384) (C : hl_C p s m meth c cells slots D cA b) (hX : va_X b L xs s s.heap) (hbl : b < s.heap.size) {i : Nat} (hi : i + 6 ≤ L) {w : hb_W} (hS : Sim w) {H : Heap} {locs : List Loc} {lsm : Array Slot} (hH : hb_H D cA (hd_ad b s.heap.size) s.heap w H locs) (hA : hb_L (hd_ad b s.heap.size) 4 (hl_ls i) lsm)
    (kk : ∀ (w2 : hb_W) (H2 : Heap) (locs2 : List Loc), Sim w2 → hb_H D cA (hd_ad b s.heap.size) s.heap w2 H2 locs2 → W p l e room_1 s m #[Value.ref b] below meth c H2 locs2 cells slots Z (F0 m 1201 lsm [])) : W p l e room_1 s m #[Value.ref b] below meth c H locs cells slots Z (F0 m 878 lsm []) := by
  have hbA : ¬ (fun q : Nat => s.heap.size ≤ q) b := Nat.not_le.mpr hbl
  refine lv_aload_n C.1 C.2.1 dL_law_878 rfl (hA.2.2 1 _ rfl) ?_
  refine lv_aload_n C.1 C.2.1 dL_law_879 rfl (hA.2.2 0 _ rfl) ?_
  refine lv_iload_n C.1 C.2.1 dL_law_880 rfl (hA.2.2 3 _ rfl) ?_
  refine lv_iconst (v := 1) C.1 C.2.1 dL_law_881 (by decide) ?_
  refine lv_iadd C.1 C.2.1 dL_law_882 ?_
  refine va_sld (b := b) C.1 C.2.1 hX hbl hbA hH.2 (hl_in 1 (by decide) hi hL) dL_law_883 ?_
  refine lv_aload_n C.1 C.2.1 dL_law_884 rfl (hA.2.2 0 _ rfl) ?_
  refine lv_iload_n C.1 C.2.1 dL_law_885 rfl (hA.2.2 3 _ rfl) ?_
  refine lv_iconst (v := 2) C.1 C.2.1 dL_law_886 (by decide) ?_
  refine lv_iadd C.1 C.2.1 dL_law_887 ?_
  refine va_sld (b := b) C.1 C.2.1 hX hbl hbA hH.2 (hl_in 2 (by decide) hi hL) dL_law_888 ?_
  show W p l e room_1 s m #[Value.ref b] below meth c H locs cells slots Z (F0 m 889 lsm (([hb_i (xs (nI i + 2).toNatClampNeg), hb_i (xs (nI i + 1).toNatClampNeg), hb_r 0 0 0] : List hb_V).map (hb_cv (hd_ad b s.heap.size))))
  refine hl_call (As := [hb_i (xs (nI i + 1).toNatClampNeg), hb_i (xs (nI i + 2).toNatClampNeg)]) (st := []) C dL_law_889 ml_L_107 mf_X11_few mi_X11_few (t := 0) (g := 0) (ci := 11) rfl rfl (by decide) rfl (Nat.le_of_ble_eq_true rfl) (Nat.le_of_ble_eq_true rfl) (hp w (xs (nI i + 1).toNatClampNeg) (xs (nI i + 2).toNatClampNeg) hS) hH hA.1 ?_
  rintro rv w1 H1 locs1 ⟨r, rfl, hO2⟩ hH1
  show W p l e room_1 s m #[Value.ref b] below meth c H1 locs1 cells slots Z (F0 m 892 lsm (([hb_i r] : List hb_V).map (hb_cv (hd_ad b s.heap.size))))
  refine lv_aload_n C.1 C.2.1 dL_law_892 rfl (hA.2.2 2 _ rfl) ?_
  refine lv_aload_n C.1 C.2.1 dL_law_893 rfl (hA.2.2 0 _ rfl) ?_
  refine lv_iload_n C.1 C.2.1 dL_law_894 rfl (hA.2.2 3 _ rfl) ?_
  refine lv_iconst (v := 1) C.1 C.2.1 dL_law_895 (by decide) ?_
  refine lv_iadd C.1 C.2.1 dL_law_896 ?_
  refine va_sld (b := b) C.1 C.2.1 hX hbl hbA hH1.2 (hl_in 1 (by decide) hi hL) dL_law_897 ?_
  refine lv_aload_n C.1 C.2.1 dL_law_898 rfl (hA.2.2 0 _ rfl) ?_
  refine lv_iload_n C.1 C.2.1 dL_law_899 rfl (hA.2.2 3 _ rfl) ?_
  refine lv_iconst (v := 2) C.1 C.2.1 dL_law_900 (by decide) ?_
  refine lv_iadd C.1 C.2.1 dL_law_901 ?_
  refine va_sld (b := b) C.1 C.2.1 hX hbl hbA hH1.2 (hl_in 2 (by decide) hi hL) dL_law_902 ?_
  show W p l e room_1 s m #[Value.ref b] below meth c H1 locs1 cells slots Z (F0 m 903 lsm (([hb_i (xs (nI i + 2).toNatClampNeg), hb_i (xs (nI i + 1).toNatClampNeg), hb_r 12 0 0, hb_i r] : List hb_V).map (hb_cv (hd_ad b s.heap.size))))
  refine hl_call (As := [hb_i (xs (nI i + 1).toNatClampNeg), hb_i (xs (nI i + 2).toNatClampNeg)]) (st := [hb_i r]) C dL_law_903 ml_L_110 mf_X12_few mi_X12_few (t := 12) (g := 0) (ci := 12) rfl rfl (by decide) rfl (Nat.le_of_ble_eq_true rfl) (Nat.le_of_ble_eq_true rfl) hO2 hH1 hA.1 ?_
  rintro rv w2 H2 locs2 ⟨rfl, hS2⟩ hH2
  show W p l e room_1 s m #[Value.ref b] below meth c H2 locs2 cells slots Z (F0 m 906 lsm (([hb_i r, hb_i r] : List hb_V).map (hb_cv (hd_ad b s.heap.size))))
  refine lv_icmp_eq (tgt := 1201) C.1 C.2.1 dL_law_906 (by decide) (fun _ => ?_) (fun q => absurd rfl q)
  exact kk w2 H2 locs2 hS2 hH2
theorem hl_case_23 {p : Program} {l : Launch} {e : Env} {s : State} {m : MethodId} {below : List Frame} {meth : Method} {c : Code} {b L : Nat} {xs : Nat → Int32} {cells slots : Nat} {D : va_G} {cA : Nat → ClassId} {Z : State → Prop} {Sim : hb_W → Prop} (hp : hp_best Sim) (hL : L ≤ 384) (C : hl_C p s m meth c cells slots D cA b) (hX : va_X b L xs s s.heap) (hbl : b < s.heap.size) {i : Nat} (hi : i + 6 ≤ L) {w : hb_W} (hS : Sim w) {H : Heap} {locs : List Loc} {lsm : Array Slot} (hH : hb_H D cA (hd_ad b s.heap.size) s.heap w H locs) (hA : hb_L (hd_ad b s.heap.size) 4 (hl_ls i) lsm)
    (kk : ∀ (w2 : hb_W) (H2 : Heap) (locs2 : List Loc), Sim w2 → hb_H D cA (hd_ad b s.heap.size) s.heap w2 H2 locs2 → W p l e room_1 s m #[Value.ref b] below meth c H2 locs2 cells slots Z (F0 m 1201 lsm [])) : W p l e room_1 s m #[Value.ref b] below meth c H locs cells slots Z (F0 m 911 lsm []) := by
  have hbA : ¬ (fun q : Nat => s.heap.size ≤ q) b := Nat.not_le.mpr hbl
  refine lv_aload_n C.1 C.2.1 dL_law_911 rfl (hA.2.2 1 _ rfl) ?_
  refine lv_aload_n C.1 C.2.1 dL_law_912 rfl (hA.2.2 0 _ rfl) ?_
  refine lv_iload_n C.1 C.2.1 dL_law_913 rfl (hA.2.2 3 _ rfl) ?_
  refine lv_iconst (v := 1) C.1 C.2.1 dL_law_914 (by decide) ?_
  refine lv_iadd C.1 C.2.1 dL_law_915 ?_
  refine va_sld (b := b) C.1 C.2.1 hX hbl hbA hH.2 (hl_in 1 (by decide) hi hL) dL_law_916 ?_
  refine lv_aload_n C.1 C.2.1 dL_law_917 rfl (hA.2.2 0 _ rfl) ?_
  refine lv_iload_n C.1 C.2.1 dL_law_918 rfl (hA.2.2 3 _ rfl) ?_
  refine lv_iconst (v := 2) C.1 C.2.1 dL_law_919 (by decide) ?_
  refine lv_iadd C.1 C.2.1 dL_law_920 ?_
  refine va_sld (b := b) C.1 C.2.1 hX hbl hbA hH.2 (hl_in 2 (by decide) hi hL) dL_law_921 ?_
  show W p l e room_1 s m #[Value.ref b] below meth c H locs cells slots Z (F0 m 922 lsm (([hb_i (xs (nI i + 2).toNatClampNeg), hb_i (xs (nI i + 1).toNatClampNeg), hb_r 0 0 0] : List hb_V).map (hb_cv (hd_ad b s.heap.size))))
  refine hl_call (As := [hb_i (xs (nI i + 1).toNatClampNeg), hb_i (xs (nI i + 2).toNatClampNeg)]) (st := []) C dL_law_922 ml_L_111 mf_X11_best mi_X11_best (t := 0) (g := 0) (ci := 11) rfl rfl (by decide) rfl (Nat.le_of_ble_eq_true rfl) (Nat.le_of_ble_eq_true rfl) (hp w (xs (nI i + 1).toNatClampNeg) (xs (nI i + 2).toNatClampNeg) hS) hH hA.1 ?_
  rintro rv w1 H1 locs1 ⟨r, rfl, hO2⟩ hH1
  show W p l e room_1 s m #[Value.ref b] below meth c H1 locs1 cells slots Z (F0 m 925 lsm (([hb_i r] : List hb_V).map (hb_cv (hd_ad b s.heap.size))))
  refine lv_aload_n C.1 C.2.1 dL_law_925 rfl (hA.2.2 2 _ rfl) ?_
  refine lv_aload_n C.1 C.2.1 dL_law_926 rfl (hA.2.2 0 _ rfl) ?_
  refine lv_iload_n C.1 C.2.1 dL_law_927 rfl (hA.2.2 3 _ rfl) ?_
  refine lv_iconst (v := 1) C.1 C.2.1 dL_law_928 (by decide) ?_
  refine lv_iadd C.1 C.2.1 dL_law_929 ?_
  refine va_sld (b := b) C.1 C.2.1 hX hbl hbA hH1.2 (hl_in 1 (by decide) hi hL) dL_law_930 ?_
  refine lv_aload_n C.1 C.2.1 dL_law_931 rfl (hA.2.2 0 _ rfl) ?_
  refine lv_iload_n C.1 C.2.1 dL_law_932 rfl (hA.2.2 3 _ rfl) ?_
  refine lv_iconst (v := 2) C.1 C.2.1 dL_law_933 (by decide) ?_
  refine lv_iadd C.1 C.2.1 dL_law_934 ?_
  refine va_sld (b := b) C.1 C.2.1 hX hbl hbA hH1.2 (hl_in 2 (by decide) hi hL) dL_law_935 ?_
  show W p l e room_1 s m #[Value.ref b] below meth c H1 locs1 cells slots Z (F0 m 936 lsm (([hb_i (xs (nI i + 2).toNatClampNeg), hb_i (xs (nI i + 1).toNatClampNeg), hb_r 12 0 0, hb_i r] : List hb_V).map (hb_cv (hd_ad b s.heap.size))))
  refine hl_call (As := [hb_i (xs (nI i + 1).toNatClampNeg), hb_i (xs (nI i + 2).toNatClampNeg)]) (st := [hb_i r]) C dL_law_936 ml_L_114 mf_X12_best mi_X12_best (t := 12) (g := 0) (ci := 12) rfl rfl (by decide) rfl (Nat.le_of_ble_eq_true rfl) (Nat.le_of_ble_eq_true rfl) hO2 hH1 hA.1 ?_
  rintro rv w2 H2 locs2 ⟨rfl, hS2⟩ hH2
  show W p l e room_1 s m #[Value.ref b] below meth c H2 locs2 cells slots Z (F0 m 939 lsm (([hb_i r, hb_i r] : List hb_V).map (hb_cv (hd_ad b s.heap.size))))
  refine lv_icmp_eq (tgt := 1201) C.1 C.2.1 dL_law_939 (by decide) (fun _ => ?_) (fun q => absurd rfl q)
  exact kk w2 H2 locs2 hS2 hH2
theorem hl_case_24 {p : Program} {l : Launch} {e : Env} {s : State} {m : MethodId} {below : List Frame} {meth : Method} {c : Code} {b L : Nat} {xs : Nat → Int32} {cells slots : Nat} {D : va_G} {cA : Nat → ClassId} {Z : State → Prop} {Sim : hb_W → Prop} (hp : hp_cross Sim) (hL : L ≤ 384) (C : hl_C p s m meth c cells slots D cA b) (hX : va_X b L xs s s.heap) (hbl : b < s.heap.size) {i : Nat} (hi : i + 6 ≤ L) {w : hb_W} (hS : Sim w) {H : Heap} {locs : List Loc} {lsm : Array Slot} (hH : hb_H D cA (hd_ad b s.heap.size) s.heap w H locs) (hA : hb_L (hd_ad b s.heap.size) 4 (hl_ls i) lsm)
    (kk : ∀ (w2 : hb_W) (H2 : Heap) (locs2 : List Loc), Sim w2 → hb_H D cA (hd_ad b s.heap.size) s.heap w2 H2 locs2 → W p l e room_1 s m #[Value.ref b] below meth c H2 locs2 cells slots Z (F0 m 1201 lsm [])) : W p l e room_1 s m #[Value.ref b] below meth c H locs cells slots Z (F0 m 944 lsm []) := by
  have hbA : ¬ (fun q : Nat => s.heap.size ≤ q) b := Nat.not_le.mpr hbl
  refine lv_aload_n C.1 C.2.1 dL_law_944 rfl (hA.2.2 1 _ rfl) ?_
  refine lv_aload_n C.1 C.2.1 dL_law_945 rfl (hA.2.2 0 _ rfl) ?_
  refine lv_iload_n C.1 C.2.1 dL_law_946 rfl (hA.2.2 3 _ rfl) ?_
  refine lv_iconst (v := 1) C.1 C.2.1 dL_law_947 (by decide) ?_
  refine lv_iadd C.1 C.2.1 dL_law_948 ?_
  refine va_sld (b := b) C.1 C.2.1 hX hbl hbA hH.2 (hl_in 1 (by decide) hi hL) dL_law_949 ?_
  refine lv_aload_n C.1 C.2.1 dL_law_950 rfl (hA.2.2 0 _ rfl) ?_
  refine lv_iload_n C.1 C.2.1 dL_law_951 rfl (hA.2.2 3 _ rfl) ?_
  refine lv_iconst (v := 2) C.1 C.2.1 dL_law_952 (by decide) ?_
  refine lv_iadd C.1 C.2.1 dL_law_953 ?_
  refine va_sld (b := b) C.1 C.2.1 hX hbl hbA hH.2 (hl_in 2 (by decide) hi hL) dL_law_954 ?_
  show W p l e room_1 s m #[Value.ref b] below meth c H locs cells slots Z (F0 m 955 lsm (([hb_i (xs (nI i + 2).toNatClampNeg), hb_i (xs (nI i + 1).toNatClampNeg), hb_r 0 0 0] : List hb_V).map (hb_cv (hd_ad b s.heap.size))))
  refine hl_call (As := [hb_i (xs (nI i + 1).toNatClampNeg), hb_i (xs (nI i + 2).toNatClampNeg)]) (st := []) C dL_law_955 ml_L_115 mf_X11_cross mi_X11_cross (t := 0) (g := 0) (ci := 11) rfl rfl (by decide) rfl (Nat.le_of_ble_eq_true rfl) (Nat.le_of_ble_eq_true rfl) (hp w (xs (nI i + 1).toNatClampNeg) (xs (nI i + 2).toNatClampNeg) hS) hH hA.1 ?_
  rintro rv w1 H1 locs1 ⟨r, rfl, hO2⟩ hH1
  show W p l e room_1 s m #[Value.ref b] below meth c H1 locs1 cells slots Z (F0 m 958 lsm (([hb_i r] : List hb_V).map (hb_cv (hd_ad b s.heap.size))))
  refine lv_aload_n C.1 C.2.1 dL_law_958 rfl (hA.2.2 2 _ rfl) ?_
  refine lv_aload_n C.1 C.2.1 dL_law_959 rfl (hA.2.2 0 _ rfl) ?_
  refine lv_iload_n C.1 C.2.1 dL_law_960 rfl (hA.2.2 3 _ rfl) ?_
  refine lv_iconst (v := 1) C.1 C.2.1 dL_law_961 (by decide) ?_
  refine lv_iadd C.1 C.2.1 dL_law_962 ?_
  refine va_sld (b := b) C.1 C.2.1 hX hbl hbA hH1.2 (hl_in 1 (by decide) hi hL) dL_law_963 ?_
  refine lv_aload_n C.1 C.2.1 dL_law_964 rfl (hA.2.2 0 _ rfl) ?_
  refine lv_iload_n C.1 C.2.1 dL_law_965 rfl (hA.2.2 3 _ rfl) ?_
  refine lv_iconst (v := 2) C.1 C.2.1 dL_law_966 (by decide) ?_
  refine lv_iadd C.1 C.2.1 dL_law_967 ?_
  refine va_sld (b := b) C.1 C.2.1 hX hbl hbA hH1.2 (hl_in 2 (by decide) hi hL) dL_law_968 ?_
  show W p l e room_1 s m #[Value.ref b] below meth c H1 locs1 cells slots Z (F0 m 969 lsm (([hb_i (xs (nI i + 2).toNatClampNeg), hb_i (xs (nI i + 1).toNatClampNeg), hb_r 12 0 0, hb_i r] : List hb_V).map (hb_cv (hd_ad b s.heap.size))))
  refine hl_call (As := [hb_i (xs (nI i + 1).toNatClampNeg), hb_i (xs (nI i + 2).toNatClampNeg)]) (st := [hb_i r]) C dL_law_969 ml_L_118 mf_X12_cross mi_X12_cross (t := 12) (g := 0) (ci := 12) rfl rfl (by decide) rfl (Nat.le_of_ble_eq_true rfl) (Nat.le_of_ble_eq_true rfl) hO2 hH1 hA.1 ?_
  rintro rv w2 H2 locs2 ⟨rfl, hS2⟩ hH2
  show W p l e room_1 s m #[Value.ref b] below meth c H2 locs2 cells slots Z (F0 m 972 lsm (([hb_i r, hb_i r] : List hb_V).map (hb_cv (hd_ad b s.heap.size))))
  refine lv_icmp_eq (tgt := 1201) C.1 C.2.1 dL_law_972 (by decide) (fun _ => ?_) (fun q => absurd rfl q)
  exact kk w2 H2 locs2 hS2 hH2
theorem hl_case_25 {p : Program} {l : Launch} {e : Env} {s : State} {m : MethodId} {below : List Frame} {meth : Method} {c : Code} {b L : Nat} {xs : Nat → Int32} {cells slots : Nat} {D : va_G} {cA : Nat → ClassId} {Z : State → Prop} {Sim : hb_W → Prop} (hp : hp_same Sim) (hL : L ≤ 384) (C : hl_C p s m meth c cells slots D cA b) (hX : va_X b L xs s s.heap) (hbl : b < s.heap.size) {i : Nat} (hi : i + 6 ≤ L) {w : hb_W} (hS : Sim w) {H : Heap} {locs : List Loc} {lsm : Array Slot} (hH : hb_H D cA (hd_ad b s.heap.size) s.heap w H locs) (hA : hb_L (hd_ad b s.heap.size) 4 (hl_ls i) lsm)
    (kk : ∀ (w2 : hb_W) (H2 : Heap) (locs2 : List Loc), Sim w2 → hb_H D cA (hd_ad b s.heap.size) s.heap w2 H2 locs2 → W p l e room_1 s m #[Value.ref b] below meth c H2 locs2 cells slots Z (F0 m 1201 lsm [])) : W p l e room_1 s m #[Value.ref b] below meth c H locs cells slots Z (F0 m 977 lsm []) := by
  have hbA : ¬ (fun q : Nat => s.heap.size ≤ q) b := Nat.not_le.mpr hbl
  refine lv_aload_n C.1 C.2.1 dL_law_977 rfl (hA.2.2 1 _ rfl) ?_
  refine lv_aload_n C.1 C.2.1 dL_law_978 rfl (hA.2.2 0 _ rfl) ?_
  refine lv_iload_n C.1 C.2.1 dL_law_979 rfl (hA.2.2 3 _ rfl) ?_
  refine lv_iconst (v := 1) C.1 C.2.1 dL_law_980 (by decide) ?_
  refine lv_iadd C.1 C.2.1 dL_law_981 ?_
  refine va_sld (b := b) C.1 C.2.1 hX hbl hbA hH.2 (hl_in 1 (by decide) hi hL) dL_law_982 ?_
  show W p l e room_1 s m #[Value.ref b] below meth c H locs cells slots Z (F0 m 983 lsm (([hb_i (xs (nI i + 1).toNatClampNeg), hb_r 0 0 0] : List hb_V).map (hb_cv (hd_ad b s.heap.size))))
  refine hl_call (As := [hb_i (xs (nI i + 1).toNatClampNeg)]) (st := []) C dL_law_983 ml_L_119 mf_X11_same mi_X11_same (t := 0) (g := 0) (ci := 11) rfl rfl (by decide) rfl (Nat.le_of_ble_eq_true rfl) (Nat.le_of_ble_eq_true rfl) (hp w (xs (nI i + 1).toNatClampNeg) hS) hH hA.1 ?_
  rintro rv w1 H1 locs1 ⟨r, rfl, hO2⟩ hH1
  show W p l e room_1 s m #[Value.ref b] below meth c H1 locs1 cells slots Z (F0 m 986 lsm (([hb_i r] : List hb_V).map (hb_cv (hd_ad b s.heap.size))))
  refine lv_aload_n C.1 C.2.1 dL_law_986 rfl (hA.2.2 2 _ rfl) ?_
  refine lv_aload_n C.1 C.2.1 dL_law_987 rfl (hA.2.2 0 _ rfl) ?_
  refine lv_iload_n C.1 C.2.1 dL_law_988 rfl (hA.2.2 3 _ rfl) ?_
  refine lv_iconst (v := 1) C.1 C.2.1 dL_law_989 (by decide) ?_
  refine lv_iadd C.1 C.2.1 dL_law_990 ?_
  refine va_sld (b := b) C.1 C.2.1 hX hbl hbA hH1.2 (hl_in 1 (by decide) hi hL) dL_law_991 ?_
  show W p l e room_1 s m #[Value.ref b] below meth c H1 locs1 cells slots Z (F0 m 992 lsm (([hb_i (xs (nI i + 1).toNatClampNeg), hb_r 12 0 0, hb_i r] : List hb_V).map (hb_cv (hd_ad b s.heap.size))))
  refine hl_call (As := [hb_i (xs (nI i + 1).toNatClampNeg)]) (st := [hb_i r]) C dL_law_992 ml_L_122 mf_X12_same mi_X12_same (t := 12) (g := 0) (ci := 12) rfl rfl (by decide) rfl (Nat.le_of_ble_eq_true rfl) (Nat.le_of_ble_eq_true rfl) hO2 hH1 hA.1 ?_
  rintro rv w2 H2 locs2 ⟨rfl, hS2⟩ hH2
  show W p l e room_1 s m #[Value.ref b] below meth c H2 locs2 cells slots Z (F0 m 995 lsm (([hb_i r, hb_i r] : List hb_V).map (hb_cv (hd_ad b s.heap.size))))
  refine lv_icmp_eq (tgt := 1201) C.1 C.2.1 dL_law_995 (by decide) (fun _ => ?_) (fun q => absurd rfl q)
  exact kk w2 H2 locs2 hS2 hH2
theorem hl_case_26 {p : Program} {l : Launch} {e : Env} {s : State} {m : MethodId} {below : List Frame} {meth : Method} {c : Code} {b L : Nat} {xs : Nat → Int32} {cells slots : Nat} {D : va_G} {cA : Nat → ClassId} {Z : State → Prop} {Sim : hb_W → Prop} (hp : hp_pass Sim) (hL : L ≤ 384) (C : hl_C p s m meth c cells slots D cA b) (hX : va_X b L xs s s.heap) (hbl : b < s.heap.size) {i : Nat} (hi : i + 6 ≤ L) {w : hb_W} (hS : Sim w) {H : Heap} {locs : List Loc} {lsm : Array Slot} (hH : hb_H D cA (hd_ad b s.heap.size) s.heap w H locs) (hA : hb_L (hd_ad b s.heap.size) 4 (hl_ls i) lsm)
    (kk : ∀ (w2 : hb_W) (H2 : Heap) (locs2 : List Loc), Sim w2 → hb_H D cA (hd_ad b s.heap.size) s.heap w2 H2 locs2 → W p l e room_1 s m #[Value.ref b] below meth c H2 locs2 cells slots Z (F0 m 1201 lsm [])) : W p l e room_1 s m #[Value.ref b] below meth c H locs cells slots Z (F0 m 1000 lsm []) := by
  have hbA : ¬ (fun q : Nat => s.heap.size ≤ q) b := Nat.not_le.mpr hbl
  refine lv_aload_n C.1 C.2.1 dL_law_1000 rfl (hA.2.2 1 _ rfl) ?_
  refine lv_aload_n C.1 C.2.1 dL_law_1001 rfl (hA.2.2 0 _ rfl) ?_
  refine lv_iload_n C.1 C.2.1 dL_law_1002 rfl (hA.2.2 3 _ rfl) ?_
  refine lv_iconst (v := 1) C.1 C.2.1 dL_law_1003 (by decide) ?_
  refine lv_iadd C.1 C.2.1 dL_law_1004 ?_
  refine va_sld (b := b) C.1 C.2.1 hX hbl hbA hH.2 (hl_in 1 (by decide) hi hL) dL_law_1005 ?_
  refine lv_aload_n C.1 C.2.1 dL_law_1006 rfl (hA.2.2 0 _ rfl) ?_
  refine lv_iload_n C.1 C.2.1 dL_law_1007 rfl (hA.2.2 3 _ rfl) ?_
  refine lv_iconst (v := 2) C.1 C.2.1 dL_law_1008 (by decide) ?_
  refine lv_iadd C.1 C.2.1 dL_law_1009 ?_
  refine va_sld (b := b) C.1 C.2.1 hX hbl hbA hH.2 (hl_in 2 (by decide) hi hL) dL_law_1010 ?_
  refine lv_aload_n C.1 C.2.1 dL_law_1011 rfl (hA.2.2 0 _ rfl) ?_
  refine lv_iload_n C.1 C.2.1 dL_law_1012 rfl (hA.2.2 3 _ rfl) ?_
  refine lv_iconst (v := 3) C.1 C.2.1 dL_law_1013 (by decide) ?_
  refine lv_iadd C.1 C.2.1 dL_law_1014 ?_
  refine va_sld (b := b) C.1 C.2.1 hX hbl hbA hH.2 (hl_in 3 (by decide) hi hL) dL_law_1015 ?_
  show W p l e room_1 s m #[Value.ref b] below meth c H locs cells slots Z (F0 m 1016 lsm (([hb_i (xs (nI i + 3).toNatClampNeg), hb_i (xs (nI i + 2).toNatClampNeg), hb_i (xs (nI i + 1).toNatClampNeg), hb_r 0 0 0] : List hb_V).map (hb_cv (hd_ad b s.heap.size))))
  refine hl_call (As := [hb_i (xs (nI i + 1).toNatClampNeg), hb_i (xs (nI i + 2).toNatClampNeg), hb_i (xs (nI i + 3).toNatClampNeg)]) (st := []) C dL_law_1016 ml_L_123 mf_X11_pass mi_X11_pass (t := 0) (g := 0) (ci := 11) rfl rfl (by decide) rfl (Nat.le_of_ble_eq_true rfl) (Nat.le_of_ble_eq_true rfl) (hp w (xs (nI i + 1).toNatClampNeg) (xs (nI i + 2).toNatClampNeg) (xs (nI i + 3).toNatClampNeg) hS) hH hA.1 ?_
  rintro rv w1 H1 locs1 ⟨r, rfl, hO2⟩ hH1
  show W p l e room_1 s m #[Value.ref b] below meth c H1 locs1 cells slots Z (F0 m 1019 lsm (([hb_i r] : List hb_V).map (hb_cv (hd_ad b s.heap.size))))
  refine lv_aload_n C.1 C.2.1 dL_law_1019 rfl (hA.2.2 2 _ rfl) ?_
  refine lv_aload_n C.1 C.2.1 dL_law_1020 rfl (hA.2.2 0 _ rfl) ?_
  refine lv_iload_n C.1 C.2.1 dL_law_1021 rfl (hA.2.2 3 _ rfl) ?_
  refine lv_iconst (v := 1) C.1 C.2.1 dL_law_1022 (by decide) ?_
  refine lv_iadd C.1 C.2.1 dL_law_1023 ?_
  refine va_sld (b := b) C.1 C.2.1 hX hbl hbA hH1.2 (hl_in 1 (by decide) hi hL) dL_law_1024 ?_
  refine lv_aload_n C.1 C.2.1 dL_law_1025 rfl (hA.2.2 0 _ rfl) ?_
  refine lv_iload_n C.1 C.2.1 dL_law_1026 rfl (hA.2.2 3 _ rfl) ?_
  refine lv_iconst (v := 2) C.1 C.2.1 dL_law_1027 (by decide) ?_
  refine lv_iadd C.1 C.2.1 dL_law_1028 ?_
  refine va_sld (b := b) C.1 C.2.1 hX hbl hbA hH1.2 (hl_in 2 (by decide) hi hL) dL_law_1029 ?_
  refine lv_aload_n C.1 C.2.1 dL_law_1030 rfl (hA.2.2 0 _ rfl) ?_
  refine lv_iload_n C.1 C.2.1 dL_law_1031 rfl (hA.2.2 3 _ rfl) ?_
  refine lv_iconst (v := 3) C.1 C.2.1 dL_law_1032 (by decide) ?_
  refine lv_iadd C.1 C.2.1 dL_law_1033 ?_
  refine va_sld (b := b) C.1 C.2.1 hX hbl hbA hH1.2 (hl_in 3 (by decide) hi hL) dL_law_1034 ?_
  show W p l e room_1 s m #[Value.ref b] below meth c H1 locs1 cells slots Z (F0 m 1035 lsm (([hb_i (xs (nI i + 3).toNatClampNeg), hb_i (xs (nI i + 2).toNatClampNeg), hb_i (xs (nI i + 1).toNatClampNeg), hb_r 12 0 0, hb_i r] : List hb_V).map (hb_cv (hd_ad b s.heap.size))))
  refine hl_call (As := [hb_i (xs (nI i + 1).toNatClampNeg), hb_i (xs (nI i + 2).toNatClampNeg), hb_i (xs (nI i + 3).toNatClampNeg)]) (st := [hb_i r]) C dL_law_1035 ml_L_126 mf_X12_pass mi_X12_pass (t := 12) (g := 0) (ci := 12) rfl rfl (by decide) rfl (Nat.le_of_ble_eq_true rfl) (Nat.le_of_ble_eq_true rfl) hO2 hH1 hA.1 ?_
  rintro rv w2 H2 locs2 ⟨rfl, hS2⟩ hH2
  show W p l e room_1 s m #[Value.ref b] below meth c H2 locs2 cells slots Z (F0 m 1038 lsm (([hb_i r, hb_i r] : List hb_V).map (hb_cv (hd_ad b s.heap.size))))
  refine lv_icmp_eq (tgt := 1201) C.1 C.2.1 dL_law_1038 (by decide) (fun _ => ?_) (fun q => absurd rfl q)
  exact kk w2 H2 locs2 hS2 hH2
theorem hl_case_27 {p : Program} {l : Launch} {e : Env} {s : State} {m : MethodId} {below : List Frame} {meth : Method} {c : Code} {b L : Nat} {xs : Nat → Int32} {cells slots : Nat} {D : va_G} {cA : Nat → ClassId} {Z : State → Prop} {Sim : hb_W → Prop} (hp : hp_night Sim) (hL : L ≤ 384) (C : hl_C p s m meth c cells slots D cA b) (hX : va_X b L xs s s.heap) (hbl : b < s.heap.size) {i : Nat} (hi : i + 6 ≤ L) {w : hb_W} (hS : Sim w) {H : Heap} {locs : List Loc} {lsm : Array Slot} (hH : hb_H D cA (hd_ad b s.heap.size) s.heap w H locs) (hA : hb_L (hd_ad b s.heap.size) 4 (hl_ls i) lsm)
    (kk : ∀ (w2 : hb_W) (H2 : Heap) (locs2 : List Loc), Sim w2 → hb_H D cA (hd_ad b s.heap.size) s.heap w2 H2 locs2 → W p l e room_1 s m #[Value.ref b] below meth c H2 locs2 cells slots Z (F0 m 1201 lsm [])) : W p l e room_1 s m #[Value.ref b] below meth c H locs cells slots Z (F0 m 1043 lsm []) := by
  have hbA : ¬ (fun q : Nat => s.heap.size ≤ q) b := Nat.not_le.mpr hbl
  refine lv_aload_n C.1 C.2.1 dL_law_1043 rfl (hA.2.2 1 _ rfl) ?_
  show W p l e room_1 s m #[Value.ref b] below meth c H locs cells slots Z (F0 m 1044 lsm (([hb_r 0 0 0] : List hb_V).map (hb_cv (hd_ad b s.heap.size))))
  refine hl_call (As := []) (st := []) C dL_law_1044 ml_L_127 mf_X11_night mi_X11_night (t := 0) (g := 0) (ci := 11) rfl rfl (by decide) rfl (Nat.le_of_ble_eq_true rfl) (Nat.le_of_ble_eq_true rfl) (hp w hS) hH hA.1 ?_
  rintro rv w1 H1 locs1 ⟨r, rfl, hO2⟩ hH1
  show W p l e room_1 s m #[Value.ref b] below meth c H1 locs1 cells slots Z (F0 m 1047 lsm (([hb_i r] : List hb_V).map (hb_cv (hd_ad b s.heap.size))))
  refine lv_aload_n C.1 C.2.1 dL_law_1047 rfl (hA.2.2 2 _ rfl) ?_
  show W p l e room_1 s m #[Value.ref b] below meth c H1 locs1 cells slots Z (F0 m 1048 lsm (([hb_r 12 0 0, hb_i r] : List hb_V).map (hb_cv (hd_ad b s.heap.size))))
  refine hl_call (As := []) (st := [hb_i r]) C dL_law_1048 ml_L_130 mf_X12_night mi_X12_night (t := 12) (g := 0) (ci := 12) rfl rfl (by decide) rfl (Nat.le_of_ble_eq_true rfl) (Nat.le_of_ble_eq_true rfl) hO2 hH1 hA.1 ?_
  rintro rv w2 H2 locs2 ⟨rfl, hS2⟩ hH2
  show W p l e room_1 s m #[Value.ref b] below meth c H2 locs2 cells slots Z (F0 m 1051 lsm (([hb_i r, hb_i r] : List hb_V).map (hb_cv (hd_ad b s.heap.size))))
  refine lv_icmp_eq (tgt := 1201) C.1 C.2.1 dL_law_1051 (by decide) (fun _ => ?_) (fun q => absurd rfl q)
  exact kk w2 H2 locs2 hS2 hH2
theorem hl_case_28 {p : Program} {l : Launch} {e : Env} {s : State} {m : MethodId} {below : List Frame} {meth : Method} {c : Code} {b L : Nat} {xs : Nat → Int32} {cells slots : Nat} {D : va_G} {cA : Nat → ClassId} {Z : State → Prop} {Sim : hb_W → Prop} (hp : hp_toss Sim) (hL : L ≤ 384) (C : hl_C p s m meth c cells slots D cA b) (hX : va_X b L xs s s.heap) (hbl : b < s.heap.size) {i : Nat} (hi : i + 6 ≤ L) {w : hb_W} (hS : Sim w) {H : Heap} {locs : List Loc} {lsm : Array Slot} (hH : hb_H D cA (hd_ad b s.heap.size) s.heap w H locs) (hA : hb_L (hd_ad b s.heap.size) 4 (hl_ls i) lsm)
    (kk : ∀ (w2 : hb_W) (H2 : Heap) (locs2 : List Loc), Sim w2 → hb_H D cA (hd_ad b s.heap.size) s.heap w2 H2 locs2 → W p l e room_1 s m #[Value.ref b] below meth c H2 locs2 cells slots Z (F0 m 1201 lsm [])) : W p l e room_1 s m #[Value.ref b] below meth c H locs cells slots Z (F0 m 1056 lsm []) := by
  have hbA : ¬ (fun q : Nat => s.heap.size ≤ q) b := Nat.not_le.mpr hbl
  refine lv_aload_n C.1 C.2.1 dL_law_1056 rfl (hA.2.2 1 _ rfl) ?_
  refine lv_aload_n C.1 C.2.1 dL_law_1057 rfl (hA.2.2 0 _ rfl) ?_
  refine lv_iload_n C.1 C.2.1 dL_law_1058 rfl (hA.2.2 3 _ rfl) ?_
  refine lv_iconst (v := 1) C.1 C.2.1 dL_law_1059 (by decide) ?_
  refine lv_iadd C.1 C.2.1 dL_law_1060 ?_
  refine va_sld (b := b) C.1 C.2.1 hX hbl hbA hH.2 (hl_in 1 (by decide) hi hL) dL_law_1061 ?_
  show W p l e room_1 s m #[Value.ref b] below meth c H locs cells slots Z (F0 m 1062 lsm (([hb_i (xs (nI i + 1).toNatClampNeg), hb_r 0 0 0] : List hb_V).map (hb_cv (hd_ad b s.heap.size))))
  refine hl_call (As := [hb_i (xs (nI i + 1).toNatClampNeg)]) (st := []) C dL_law_1062 ml_L_131 mf_X11_toss mi_X11_toss (t := 0) (g := 0) (ci := 11) rfl rfl (by decide) rfl (Nat.le_of_ble_eq_true rfl) (Nat.le_of_ble_eq_true rfl) (hp w (xs (nI i + 1).toNatClampNeg) hS) hH hA.1 ?_
  rintro rv w1 H1 locs1 ⟨r, rfl, hO2⟩ hH1
  show W p l e room_1 s m #[Value.ref b] below meth c H1 locs1 cells slots Z (F0 m 1065 lsm (([hb_i r] : List hb_V).map (hb_cv (hd_ad b s.heap.size))))
  refine lv_aload_n C.1 C.2.1 dL_law_1065 rfl (hA.2.2 2 _ rfl) ?_
  refine lv_aload_n C.1 C.2.1 dL_law_1066 rfl (hA.2.2 0 _ rfl) ?_
  refine lv_iload_n C.1 C.2.1 dL_law_1067 rfl (hA.2.2 3 _ rfl) ?_
  refine lv_iconst (v := 1) C.1 C.2.1 dL_law_1068 (by decide) ?_
  refine lv_iadd C.1 C.2.1 dL_law_1069 ?_
  refine va_sld (b := b) C.1 C.2.1 hX hbl hbA hH1.2 (hl_in 1 (by decide) hi hL) dL_law_1070 ?_
  show W p l e room_1 s m #[Value.ref b] below meth c H1 locs1 cells slots Z (F0 m 1071 lsm (([hb_i (xs (nI i + 1).toNatClampNeg), hb_r 12 0 0, hb_i r] : List hb_V).map (hb_cv (hd_ad b s.heap.size))))
  refine hl_call (As := [hb_i (xs (nI i + 1).toNatClampNeg)]) (st := [hb_i r]) C dL_law_1071 ml_L_134 mf_X12_toss mi_X12_toss (t := 12) (g := 0) (ci := 12) rfl rfl (by decide) rfl (Nat.le_of_ble_eq_true rfl) (Nat.le_of_ble_eq_true rfl) hO2 hH1 hA.1 ?_
  rintro rv w2 H2 locs2 ⟨rfl, hS2⟩ hH2
  show W p l e room_1 s m #[Value.ref b] below meth c H2 locs2 cells slots Z (F0 m 1074 lsm (([hb_i r, hb_i r] : List hb_V).map (hb_cv (hd_ad b s.heap.size))))
  refine lv_icmp_eq (tgt := 1201) C.1 C.2.1 dL_law_1074 (by decide) (fun _ => ?_) (fun q => absurd rfl q)
  exact kk w2 H2 locs2 hS2 hH2
theorem hl_case_29 {p : Program} {l : Launch} {e : Env} {s : State} {m : MethodId} {below : List Frame} {meth : Method} {c : Code} {b L : Nat} {xs : Nat → Int32} {cells slots : Nat} {D : va_G} {cA : Nat → ClassId} {Z : State → Prop} {Sim : hb_W → Prop} (hp : hp_undo Sim) (hL : L ≤ 384) (C : hl_C p s m meth c cells slots D cA b) (hX : va_X b L xs s s.heap) (hbl : b < s.heap.size) {i : Nat} (hi : i + 6 ≤ L) {w : hb_W} (hS : Sim w) {H : Heap} {locs : List Loc} {lsm : Array Slot} (hH : hb_H D cA (hd_ad b s.heap.size) s.heap w H locs) (hA : hb_L (hd_ad b s.heap.size) 4 (hl_ls i) lsm)
    (kk : ∀ (w2 : hb_W) (H2 : Heap) (locs2 : List Loc), Sim w2 → hb_H D cA (hd_ad b s.heap.size) s.heap w2 H2 locs2 → W p l e room_1 s m #[Value.ref b] below meth c H2 locs2 cells slots Z (F0 m 1201 lsm [])) : W p l e room_1 s m #[Value.ref b] below meth c H locs cells slots Z (F0 m 1079 lsm []) := by
  have hbA : ¬ (fun q : Nat => s.heap.size ≤ q) b := Nat.not_le.mpr hbl
  refine lv_aload_n C.1 C.2.1 dL_law_1079 rfl (hA.2.2 1 _ rfl) ?_
  show W p l e room_1 s m #[Value.ref b] below meth c H locs cells slots Z (F0 m 1080 lsm (([hb_r 0 0 0] : List hb_V).map (hb_cv (hd_ad b s.heap.size))))
  refine hl_call (As := []) (st := []) C dL_law_1080 ml_L_135 mf_X11_undo mi_X11_undo (t := 0) (g := 0) (ci := 11) rfl rfl (by decide) rfl (Nat.le_of_ble_eq_true rfl) (Nat.le_of_ble_eq_true rfl) (hp w hS) hH hA.1 ?_
  rintro rv w1 H1 locs1 ⟨r, rfl, hO2⟩ hH1
  show W p l e room_1 s m #[Value.ref b] below meth c H1 locs1 cells slots Z (F0 m 1083 lsm (([hb_i r] : List hb_V).map (hb_cv (hd_ad b s.heap.size))))
  refine lv_aload_n C.1 C.2.1 dL_law_1083 rfl (hA.2.2 2 _ rfl) ?_
  show W p l e room_1 s m #[Value.ref b] below meth c H1 locs1 cells slots Z (F0 m 1084 lsm (([hb_r 12 0 0, hb_i r] : List hb_V).map (hb_cv (hd_ad b s.heap.size))))
  refine hl_call (As := []) (st := [hb_i r]) C dL_law_1084 ml_L_139 mf_X12_undo mi_X12_undo (t := 12) (g := 0) (ci := 12) rfl rfl (by decide) rfl (Nat.le_of_ble_eq_true rfl) (Nat.le_of_ble_eq_true rfl) hO2 hH1 hA.1 ?_
  rintro rv w2 H2 locs2 ⟨rfl, hS2⟩ hH2
  show W p l e room_1 s m #[Value.ref b] below meth c H2 locs2 cells slots Z (F0 m 1087 lsm (([hb_i r, hb_i r] : List hb_V).map (hb_cv (hd_ad b s.heap.size))))
  refine lv_icmp_eq (tgt := 1201) C.1 C.2.1 dL_law_1087 (by decide) (fun _ => ?_) (fun q => absurd rfl q)
  exact kk w2 H2 locs2 hS2 hH2
theorem hl_case_30 {p : Program} {l : Launch} {e : Env} {s : State} {m : MethodId} {below : List Frame} {meth : Method} {c : Code} {b L : Nat} {xs : Nat → Int32} {cells slots : Nat} {D : va_G} {cA : Nat → ClassId} {Z : State → Prop} {Sim : hb_W → Prop} (hp : hp_seed Sim) (hL : L ≤ 384) (C : hl_C p s m meth c cells slots D cA b) (hX : va_X b L xs s s.heap) (hbl : b < s.heap.size) {i : Nat} (hi : i + 6 ≤ L) {w : hb_W} (hS : Sim w) {H : Heap} {locs : List Loc} {lsm : Array Slot} (hH : hb_H D cA (hd_ad b s.heap.size) s.heap w H locs) (hA : hb_L (hd_ad b s.heap.size) 4 (hl_ls i) lsm)
    (kk : ∀ (w2 : hb_W) (H2 : Heap) (locs2 : List Loc), Sim w2 → hb_H D cA (hd_ad b s.heap.size) s.heap w2 H2 locs2 → W p l e room_1 s m #[Value.ref b] below meth c H2 locs2 cells slots Z (F0 m 1201 lsm [])) : W p l e room_1 s m #[Value.ref b] below meth c H locs cells slots Z (F0 m 1092 lsm []) := by
  have hbA : ¬ (fun q : Nat => s.heap.size ≤ q) b := Nat.not_le.mpr hbl
  refine lv_aload_n C.1 C.2.1 dL_law_1092 rfl (hA.2.2 1 _ rfl) ?_
  refine lv_aload_n C.1 C.2.1 dL_law_1093 rfl (hA.2.2 0 _ rfl) ?_
  refine lv_iload_n C.1 C.2.1 dL_law_1094 rfl (hA.2.2 3 _ rfl) ?_
  refine lv_iconst (v := 1) C.1 C.2.1 dL_law_1095 (by decide) ?_
  refine lv_iadd C.1 C.2.1 dL_law_1096 ?_
  refine va_sld (b := b) C.1 C.2.1 hX hbl hbA hH.2 (hl_in 1 (by decide) hi hL) dL_law_1097 ?_
  show W p l e room_1 s m #[Value.ref b] below meth c H locs cells slots Z (F0 m 1098 lsm (([hb_i (xs (nI i + 1).toNatClampNeg), hb_r 0 0 0] : List hb_V).map (hb_cv (hd_ad b s.heap.size))))
  refine hl_call (As := [hb_i (xs (nI i + 1).toNatClampNeg)]) (st := []) C dL_law_1098 ml_L_140 mf_X11_seed mi_X11_seed (t := 0) (g := 0) (ci := 11) rfl rfl (by decide) rfl (Nat.le_of_ble_eq_true rfl) (Nat.le_of_ble_eq_true rfl) (hp w (xs (nI i + 1).toNatClampNeg) hS) hH hA.1 ?_
  rintro rv w1 H1 locs1 ⟨r, rfl, hO2⟩ hH1
  show W p l e room_1 s m #[Value.ref b] below meth c H1 locs1 cells slots Z (F0 m 1101 lsm (([hb_i r] : List hb_V).map (hb_cv (hd_ad b s.heap.size))))
  refine lv_aload_n C.1 C.2.1 dL_law_1101 rfl (hA.2.2 2 _ rfl) ?_
  refine lv_aload_n C.1 C.2.1 dL_law_1102 rfl (hA.2.2 0 _ rfl) ?_
  refine lv_iload_n C.1 C.2.1 dL_law_1103 rfl (hA.2.2 3 _ rfl) ?_
  refine lv_iconst (v := 1) C.1 C.2.1 dL_law_1104 (by decide) ?_
  refine lv_iadd C.1 C.2.1 dL_law_1105 ?_
  refine va_sld (b := b) C.1 C.2.1 hX hbl hbA hH1.2 (hl_in 1 (by decide) hi hL) dL_law_1106 ?_
  show W p l e room_1 s m #[Value.ref b] below meth c H1 locs1 cells slots Z (F0 m 1107 lsm (([hb_i (xs (nI i + 1).toNatClampNeg), hb_r 12 0 0, hb_i r] : List hb_V).map (hb_cv (hd_ad b s.heap.size))))
  refine hl_call (As := [hb_i (xs (nI i + 1).toNatClampNeg)]) (st := [hb_i r]) C dL_law_1107 ml_L_143 mf_X12_seed mi_X12_seed (t := 12) (g := 0) (ci := 12) rfl rfl (by decide) rfl (Nat.le_of_ble_eq_true rfl) (Nat.le_of_ble_eq_true rfl) hO2 hH1 hA.1 ?_
  rintro rv w2 H2 locs2 ⟨rfl, hS2⟩ hH2
  show W p l e room_1 s m #[Value.ref b] below meth c H2 locs2 cells slots Z (F0 m 1110 lsm (([hb_i r, hb_i r] : List hb_V).map (hb_cv (hd_ad b s.heap.size))))
  refine lv_icmp_eq (tgt := 1201) C.1 C.2.1 dL_law_1110 (by decide) (fun _ => ?_) (fun q => absurd rfl q)
  exact kk w2 H2 locs2 hS2 hH2
theorem hl_case_31 {p : Program} {l : Launch} {e : Env} {s : State} {m : MethodId} {below : List Frame} {meth : Method} {c : Code} {b L : Nat} {xs : Nat → Int32} {cells slots : Nat} {D : va_G} {cA : Nat → ClassId} {Z : State → Prop} {Sim : hb_W → Prop} (hp : hp_ask Sim) (hL : L ≤ 384) (C : hl_C p s m meth c cells slots D cA b) (hX : va_X b L xs s s.heap) (hbl : b < s.heap.size) {i : Nat} (hi : i + 6 ≤ L) {w : hb_W} (hS : Sim w) {H : Heap} {locs : List Loc} {lsm : Array Slot} (hH : hb_H D cA (hd_ad b s.heap.size) s.heap w H locs) (hA : hb_L (hd_ad b s.heap.size) 4 (hl_ls i) lsm)
    (kk : ∀ (w2 : hb_W) (H2 : Heap) (locs2 : List Loc), Sim w2 → hb_H D cA (hd_ad b s.heap.size) s.heap w2 H2 locs2 → W p l e room_1 s m #[Value.ref b] below meth c H2 locs2 cells slots Z (F0 m 1201 lsm [])) : W p l e room_1 s m #[Value.ref b] below meth c H locs cells slots Z (F0 m 1115 lsm []) := by
  have hbA : ¬ (fun q : Nat => s.heap.size ≤ q) b := Nat.not_le.mpr hbl
  refine lv_aload_n C.1 C.2.1 dL_law_1115 rfl (hA.2.2 1 _ rfl) ?_
  show W p l e room_1 s m #[Value.ref b] below meth c H locs cells slots Z (F0 m 1116 lsm (([hb_r 0 0 0] : List hb_V).map (hb_cv (hd_ad b s.heap.size))))
  refine hl_call (As := []) (st := []) C dL_law_1116 ml_L_144 mf_X11_ask mi_X11_ask (t := 0) (g := 0) (ci := 11) rfl rfl (by decide) rfl (Nat.le_of_ble_eq_true rfl) (Nat.le_of_ble_eq_true rfl) (hp w hS) hH hA.1 ?_
  rintro rv w1 H1 locs1 ⟨r, rfl, hO2⟩ hH1
  show W p l e room_1 s m #[Value.ref b] below meth c H1 locs1 cells slots Z (F0 m 1119 lsm (([hb_l r] : List hb_V).map (hb_cv (hd_ad b s.heap.size))))
  refine lv_aload_n C.1 C.2.1 dL_law_1119 rfl (hA.2.2 2 _ rfl) ?_
  show W p l e room_1 s m #[Value.ref b] below meth c H1 locs1 cells slots Z (F0 m 1120 lsm (([hb_r 12 0 0, hb_l r] : List hb_V).map (hb_cv (hd_ad b s.heap.size))))
  refine hl_call (As := []) (st := [hb_l r]) C dL_law_1120 ml_L_148 mf_X12_ask mi_X12_ask (t := 12) (g := 0) (ci := 12) rfl rfl (by decide) rfl (Nat.le_of_ble_eq_true rfl) (Nat.le_of_ble_eq_true rfl) hO2 hH1 hA.1 ?_
  rintro rv w2 H2 locs2 ⟨rfl, hS2⟩ hH2
  show W p l e room_1 s m #[Value.ref b] below meth c H2 locs2 cells slots Z (F0 m 1123 lsm (([hb_l r, hb_l r] : List hb_V).map (hb_cv (hd_ad b s.heap.size))))
  refine W.lcmp C.1 C.2.1 dL_law_1123 ?_
  refine lv_if_eq (tgt := 1201) C.1 C.2.1 dL_law_1124 (by decide) (fun _ => ?_) (fun q => absurd (by simp [lg_cmp]) q)
  exact kk w2 H2 locs2 hS2 hH2
theorem hl_case_32 {p : Program} {l : Launch} {e : Env} {s : State} {m : MethodId} {below : List Frame} {meth : Method} {c : Code} {b L : Nat} {xs : Nat → Int32} {cells slots : Nat} {D : va_G} {cA : Nat → ClassId} {Z : State → Prop} {Sim : hb_W → Prop} (hp : hp_image Sim) (hL : L ≤ 384) (C : hl_C p s m meth c cells slots D cA b) (hX : va_X b L xs s s.heap) (hbl : b < s.heap.size) {i : Nat} (hi : i + 6 ≤ L) {w : hb_W} (hS : Sim w) {H : Heap} {locs : List Loc} {lsm : Array Slot} (hH : hb_H D cA (hd_ad b s.heap.size) s.heap w H locs) (hA : hb_L (hd_ad b s.heap.size) 4 (hl_ls i) lsm)
    (kk : ∀ (w2 : hb_W) (H2 : Heap) (locs2 : List Loc), Sim w2 → hb_H D cA (hd_ad b s.heap.size) s.heap w2 H2 locs2 → W p l e room_1 s m #[Value.ref b] below meth c H2 locs2 cells slots Z (F0 m 1201 lsm [])) : W p l e room_1 s m #[Value.ref b] below meth c H locs cells slots Z (F0 m 1129 lsm []) := by
  have hbA : ¬ (fun q : Nat => s.heap.size ≤ q) b := Nat.not_le.mpr hbl
  refine lv_aload_n C.1 C.2.1 dL_law_1129 rfl (hA.2.2 1 _ rfl) ?_
  show W p l e room_1 s m #[Value.ref b] below meth c H locs cells slots Z (F0 m 1130 lsm (([hb_r 0 0 0] : List hb_V).map (hb_cv (hd_ad b s.heap.size))))
  refine hl_call (As := []) (st := []) C dL_law_1130 ml_L_149 mf_X11_image mi_X11_image (t := 0) (g := 0) (ci := 11) rfl rfl (by decide) rfl (Nat.le_of_ble_eq_true rfl) (Nat.le_of_ble_eq_true rfl) (hp w hS) hH hA.1 ?_
  rintro rv w1 H1 locs1 ⟨r, rfl, hO2⟩ hH1
  show W p l e room_1 s m #[Value.ref b] below meth c H1 locs1 cells slots Z (F0 m 1133 lsm (([hb_i r] : List hb_V).map (hb_cv (hd_ad b s.heap.size))))
  refine lv_aload_n C.1 C.2.1 dL_law_1133 rfl (hA.2.2 2 _ rfl) ?_
  show W p l e room_1 s m #[Value.ref b] below meth c H1 locs1 cells slots Z (F0 m 1134 lsm (([hb_r 12 0 0, hb_i r] : List hb_V).map (hb_cv (hd_ad b s.heap.size))))
  refine hl_call (As := []) (st := [hb_i r]) C dL_law_1134 ml_L_152 mf_X12_image mi_X12_image (t := 12) (g := 0) (ci := 12) rfl rfl (by decide) rfl (Nat.le_of_ble_eq_true rfl) (Nat.le_of_ble_eq_true rfl) hO2 hH1 hA.1 ?_
  rintro rv w2 H2 locs2 ⟨rfl, hS2⟩ hH2
  show W p l e room_1 s m #[Value.ref b] below meth c H2 locs2 cells slots Z (F0 m 1137 lsm (([hb_i r, hb_i r] : List hb_V).map (hb_cv (hd_ad b s.heap.size))))
  refine lv_icmp_eq (tgt := 1201) C.1 C.2.1 dL_law_1137 (by decide) (fun _ => ?_) (fun q => absurd rfl q)
  exact kk w2 H2 locs2 hS2 hH2
theorem hl_case_33 {p : Program} {l : Launch} {e : Env} {s : State} {m : MethodId} {below : List Frame} {meth : Method} {c : Code} {b L : Nat} {xs : Nat → Int32} {cells slots : Nat} {D : va_G} {cA : Nat → ClassId} {Z : State → Prop} {Sim : hb_W → Prop} (hp : hp_octet Sim) (hL : L ≤ 384) (C : hl_C p s m meth c cells slots D cA b) (hX : va_X b L xs s s.heap) (hbl : b < s.heap.size) {i : Nat} (hi : i + 6 ≤ L) {w : hb_W} (hS : Sim w) {H : Heap} {locs : List Loc} {lsm : Array Slot} (hH : hb_H D cA (hd_ad b s.heap.size) s.heap w H locs) (hA : hb_L (hd_ad b s.heap.size) 4 (hl_ls i) lsm)
    (kk : ∀ (w2 : hb_W) (H2 : Heap) (locs2 : List Loc), Sim w2 → hb_H D cA (hd_ad b s.heap.size) s.heap w2 H2 locs2 → W p l e room_1 s m #[Value.ref b] below meth c H2 locs2 cells slots Z (F0 m 1201 lsm [])) : W p l e room_1 s m #[Value.ref b] below meth c H locs cells slots Z (F0 m 1142 lsm []) := by
  have hbA : ¬ (fun q : Nat => s.heap.size ≤ q) b := Nat.not_le.mpr hbl
  refine lv_aload_n C.1 C.2.1 dL_law_1142 rfl (hA.2.2 1 _ rfl) ?_
  refine lv_aload_n C.1 C.2.1 dL_law_1143 rfl (hA.2.2 0 _ rfl) ?_
  refine lv_iload_n C.1 C.2.1 dL_law_1144 rfl (hA.2.2 3 _ rfl) ?_
  refine lv_iconst (v := 1) C.1 C.2.1 dL_law_1145 (by decide) ?_
  refine lv_iadd C.1 C.2.1 dL_law_1146 ?_
  refine va_sld (b := b) C.1 C.2.1 hX hbl hbA hH.2 (hl_in 1 (by decide) hi hL) dL_law_1147 ?_
  show W p l e room_1 s m #[Value.ref b] below meth c H locs cells slots Z (F0 m 1148 lsm (([hb_i (xs (nI i + 1).toNatClampNeg), hb_r 0 0 0] : List hb_V).map (hb_cv (hd_ad b s.heap.size))))
  refine hl_call (As := [hb_i (xs (nI i + 1).toNatClampNeg)]) (st := []) C dL_law_1148 ml_L_153 mf_X11_octet mi_X11_octet (t := 0) (g := 0) (ci := 11) rfl rfl (by decide) rfl (Nat.le_of_ble_eq_true rfl) (Nat.le_of_ble_eq_true rfl) (hp w (xs (nI i + 1).toNatClampNeg) hS) hH hA.1 ?_
  rintro rv w1 H1 locs1 ⟨r, rfl, hO2⟩ hH1
  show W p l e room_1 s m #[Value.ref b] below meth c H1 locs1 cells slots Z (F0 m 1151 lsm (([hb_i r] : List hb_V).map (hb_cv (hd_ad b s.heap.size))))
  refine lv_aload_n C.1 C.2.1 dL_law_1151 rfl (hA.2.2 2 _ rfl) ?_
  refine lv_aload_n C.1 C.2.1 dL_law_1152 rfl (hA.2.2 0 _ rfl) ?_
  refine lv_iload_n C.1 C.2.1 dL_law_1153 rfl (hA.2.2 3 _ rfl) ?_
  refine lv_iconst (v := 1) C.1 C.2.1 dL_law_1154 (by decide) ?_
  refine lv_iadd C.1 C.2.1 dL_law_1155 ?_
  refine va_sld (b := b) C.1 C.2.1 hX hbl hbA hH1.2 (hl_in 1 (by decide) hi hL) dL_law_1156 ?_
  show W p l e room_1 s m #[Value.ref b] below meth c H1 locs1 cells slots Z (F0 m 1157 lsm (([hb_i (xs (nI i + 1).toNatClampNeg), hb_r 12 0 0, hb_i r] : List hb_V).map (hb_cv (hd_ad b s.heap.size))))
  refine hl_call (As := [hb_i (xs (nI i + 1).toNatClampNeg)]) (st := [hb_i r]) C dL_law_1157 ml_L_156 mf_X12_octet mi_X12_octet (t := 12) (g := 0) (ci := 12) rfl rfl (by decide) rfl (Nat.le_of_ble_eq_true rfl) (Nat.le_of_ble_eq_true rfl) hO2 hH1 hA.1 ?_
  rintro rv w2 H2 locs2 ⟨rfl, hS2⟩ hH2
  show W p l e room_1 s m #[Value.ref b] below meth c H2 locs2 cells slots Z (F0 m 1160 lsm (([hb_i r, hb_i r] : List hb_V).map (hb_cv (hd_ad b s.heap.size))))
  refine lv_icmp_eq (tgt := 1201) C.1 C.2.1 dL_law_1160 (by decide) (fun _ => ?_) (fun q => absurd rfl q)
  exact kk w2 H2 locs2 hS2 hH2
theorem hl_case_34 {p : Program} {l : Launch} {e : Env} {s : State} {m : MethodId} {below : List Frame} {meth : Method} {c : Code} {b L : Nat} {xs : Nat → Int32} {cells slots : Nat} {D : va_G} {cA : Nat → ClassId} {Z : State → Prop} {Sim : hb_W → Prop} (hp : hp_on Sim) (hL : L ≤ 384) (C : hl_C p s m meth c cells slots D cA b) (hX : va_X b L xs s s.heap) (hbl : b < s.heap.size) {i : Nat} (hi : i + 6 ≤ L) {w : hb_W} (hS : Sim w) {H : Heap} {locs : List Loc} {lsm : Array Slot} (hH : hb_H D cA (hd_ad b s.heap.size) s.heap w H locs) (hA : hb_L (hd_ad b s.heap.size) 4 (hl_ls i) lsm)
    (kk : ∀ (w2 : hb_W) (H2 : Heap) (locs2 : List Loc), Sim w2 → hb_H D cA (hd_ad b s.heap.size) s.heap w2 H2 locs2 → W p l e room_1 s m #[Value.ref b] below meth c H2 locs2 cells slots Z (F0 m 1201 lsm [])) : W p l e room_1 s m #[Value.ref b] below meth c H locs cells slots Z (F0 m 1165 lsm []) := by
  have hbA : ¬ (fun q : Nat => s.heap.size ≤ q) b := Nat.not_le.mpr hbl
  refine lv_aload_n C.1 C.2.1 dL_law_1165 rfl (hA.2.2 1 _ rfl) ?_
  show W p l e room_1 s m #[Value.ref b] below meth c H locs cells slots Z (F0 m 1166 lsm (([hb_r 0 0 0] : List hb_V).map (hb_cv (hd_ad b s.heap.size))))
  refine hl_call (As := []) (st := []) C dL_law_1166 ml_L_157 mf_X11_on mi_X11_on (t := 0) (g := 0) (ci := 11) rfl rfl (by decide) rfl (Nat.le_of_ble_eq_true rfl) (Nat.le_of_ble_eq_true rfl) (hp w hS) hH hA.1 ?_
  rintro rv w1 H1 locs1 ⟨r, rfl, hO2⟩ hH1
  show W p l e room_1 s m #[Value.ref b] below meth c H1 locs1 cells slots Z (F0 m 1169 lsm (([hb_i r] : List hb_V).map (hb_cv (hd_ad b s.heap.size))))
  refine lv_aload_n C.1 C.2.1 dL_law_1169 rfl (hA.2.2 2 _ rfl) ?_
  show W p l e room_1 s m #[Value.ref b] below meth c H1 locs1 cells slots Z (F0 m 1170 lsm (([hb_r 12 0 0, hb_i r] : List hb_V).map (hb_cv (hd_ad b s.heap.size))))
  refine hl_call (As := []) (st := [hb_i r]) C dL_law_1170 ml_L_160 mf_X12_on mi_X12_on (t := 12) (g := 0) (ci := 12) rfl rfl (by decide) rfl (Nat.le_of_ble_eq_true rfl) (Nat.le_of_ble_eq_true rfl) hO2 hH1 hA.1 ?_
  rintro rv w2 H2 locs2 ⟨rfl, hS2⟩ hH2
  show W p l e room_1 s m #[Value.ref b] below meth c H2 locs2 cells slots Z (F0 m 1173 lsm (([hb_i r, hb_i r] : List hb_V).map (hb_cv (hd_ad b s.heap.size))))
  refine lv_icmp_eq (tgt := 1201) C.1 C.2.1 dL_law_1173 (by decide) (fun _ => ?_) (fun q => absurd rfl q)
  exact kk w2 H2 locs2 hS2 hH2
theorem hl_case_35 {p : Program} {l : Launch} {e : Env} {s : State} {m : MethodId} {below : List Frame} {meth : Method} {c : Code} {b L : Nat} {xs : Nat → Int32} {cells slots : Nat} {D : va_G} {cA : Nat → ClassId} {Z : State → Prop} {Sim : hb_W → Prop} (hp : hp_status Sim) (hL : L ≤ 384) (C : hl_C p s m meth c cells slots D cA b) (hX : va_X b L xs s s.heap) (hbl : b < s.heap.size) {i : Nat} (hi : i + 6 ≤ L) {w : hb_W} (hS : Sim w) {H : Heap} {locs : List Loc} {lsm : Array Slot} (hH : hb_H D cA (hd_ad b s.heap.size) s.heap w H locs) (hA : hb_L (hd_ad b s.heap.size) 4 (hl_ls i) lsm)
    (kk : ∀ (w2 : hb_W) (H2 : Heap) (locs2 : List Loc), Sim w2 → hb_H D cA (hd_ad b s.heap.size) s.heap w2 H2 locs2 → W p l e room_1 s m #[Value.ref b] below meth c H2 locs2 cells slots Z (F0 m 1201 lsm [])) : W p l e room_1 s m #[Value.ref b] below meth c H locs cells slots Z (F0 m 1178 lsm []) := by
  have hbA : ¬ (fun q : Nat => s.heap.size ≤ q) b := Nat.not_le.mpr hbl
  refine lv_aload_n C.1 C.2.1 dL_law_1178 rfl (hA.2.2 1 _ rfl) ?_
  refine lv_aload_n C.1 C.2.1 dL_law_1179 rfl (hA.2.2 0 _ rfl) ?_
  refine lv_iload_n C.1 C.2.1 dL_law_1180 rfl (hA.2.2 3 _ rfl) ?_
  refine lv_iconst (v := 1) C.1 C.2.1 dL_law_1181 (by decide) ?_
  refine lv_iadd C.1 C.2.1 dL_law_1182 ?_
  refine va_sld (b := b) C.1 C.2.1 hX hbl hbA hH.2 (hl_in 1 (by decide) hi hL) dL_law_1183 ?_
  show W p l e room_1 s m #[Value.ref b] below meth c H locs cells slots Z (F0 m 1184 lsm (([hb_i (xs (nI i + 1).toNatClampNeg), hb_r 0 0 0] : List hb_V).map (hb_cv (hd_ad b s.heap.size))))
  refine hl_call (As := [hb_i (xs (nI i + 1).toNatClampNeg)]) (st := []) C dL_law_1184 ml_L_161 mf_X11_status mi_X11_status (t := 0) (g := 0) (ci := 11) rfl rfl (by decide) rfl (Nat.le_of_ble_eq_true rfl) (Nat.le_of_ble_eq_true rfl) (hp w (xs (nI i + 1).toNatClampNeg) hS) hH hA.1 ?_
  rintro rv w1 H1 locs1 ⟨r, rfl, hO2⟩ hH1
  show W p l e room_1 s m #[Value.ref b] below meth c H1 locs1 cells slots Z (F0 m 1187 lsm (([hb_i r] : List hb_V).map (hb_cv (hd_ad b s.heap.size))))
  refine lv_aload_n C.1 C.2.1 dL_law_1187 rfl (hA.2.2 2 _ rfl) ?_
  refine lv_aload_n C.1 C.2.1 dL_law_1188 rfl (hA.2.2 0 _ rfl) ?_
  refine lv_iload_n C.1 C.2.1 dL_law_1189 rfl (hA.2.2 3 _ rfl) ?_
  refine lv_iconst (v := 1) C.1 C.2.1 dL_law_1190 (by decide) ?_
  refine lv_iadd C.1 C.2.1 dL_law_1191 ?_
  refine va_sld (b := b) C.1 C.2.1 hX hbl hbA hH1.2 (hl_in 1 (by decide) hi hL) dL_law_1192 ?_
  show W p l e room_1 s m #[Value.ref b] below meth c H1 locs1 cells slots Z (F0 m 1193 lsm (([hb_i (xs (nI i + 1).toNatClampNeg), hb_r 12 0 0, hb_i r] : List hb_V).map (hb_cv (hd_ad b s.heap.size))))
  refine hl_call (As := [hb_i (xs (nI i + 1).toNatClampNeg)]) (st := [hb_i r]) C dL_law_1193 ml_L_164 mf_X12_status mi_X12_status (t := 12) (g := 0) (ci := 12) rfl rfl (by decide) rfl (Nat.le_of_ble_eq_true rfl) (Nat.le_of_ble_eq_true rfl) hO2 hH1 hA.1 ?_
  rintro rv w2 H2 locs2 ⟨rfl, hS2⟩ hH2
  show W p l e room_1 s m #[Value.ref b] below meth c H2 locs2 cells slots Z (F0 m 1196 lsm (([hb_i r, hb_i r] : List hb_V).map (hb_cv (hd_ad b s.heap.size))))
  refine lv_icmp_eq (tgt := 1201) C.1 C.2.1 dL_law_1196 (by decide) (fun _ => ?_) (fun q => absurd rfl q)
  exact kk w2 H2 locs2 hS2 hH2
theorem hl_gt {i L : Nat} (h : L < i + 6) (hi : i ≤ 400) (hL : L ≤ 384) : Int32.ofNat L - 6 < nI i := by
  have e1 : (Int32.ofNat L - 6 : Int32).toInt = (L : Int) - 6 := pk_sub_toInt (a := L) (b := 6) (by omega) (by omega)
  have e2 : (nI i).toInt = (i : Int) := nI_toInt (by omega)
  rw [Int32.lt_iff_toInt_lt, e1, e2]
  omega
theorem hl_sw (x : Int32) : ∃ j : Nat, j < 64 ∧ x &&& 63 = nI j := pk_andE x 6 (by decide)
theorem hl_loop {p : Program} {l : Launch} {e : Env} {s : State} {m : MethodId} {below : List Frame} {meth : Method} {c : Code} {b L : Nat} {xs : Nat → Int32} {cells slots : Nat} {D : va_G} {cA : Nat → ClassId} {Z : State → Prop} {Sim : hb_W → Prop} (hp : hp_all Sim) (hL : L ≤ 384) (C : hl_C p s m meth c cells slots D cA b) (hX : va_X b L xs s s.heap) (hbl : b < s.heap.size)
    (fin : ∀ (H : Heap) (locs : List Loc) (lsm : Array Slot), va_S (fun q => s.heap.size ≤ q) s.heap H locs → W p l e room_1 s m #[Value.ref b] below meth c H locs cells slots Z (F0 m 1208 lsm [.int 1])) :
    ∀ (n i : Nat) (w : hb_W) (H : Heap) (locs : List Loc) (lsm : Array Slot), L + 6 ≤ i + n → i ≤ 400 → Sim w → hb_H D cA (hd_ad b s.heap.size) s.heap w H locs → hb_L (hd_ad b s.heap.size) 4 (hl_ls i) lsm → W p l e room_1 s m #[Value.ref b] below meth c H locs cells slots Z (F0 m 18 lsm []) := by
  have hbA : ¬ (fun q : Nat => s.heap.size ≤ q) b := Nat.not_le.mpr hbl
  obtain ⟨h0, h1, h2, h3, h4, h5, h6, h7, h8, h9, h10, h11, h12, h13, h14, h15, h16, h17, h18, h19, h20, h21, h22, h23, h24, h25, h26, h27, h28, h29, h30, h31, h32, h33, h34, h35⟩ := hp
  intro n
  induction n with
  | zero =>
    intro i w H locs lsm hin hi4 hS hH hA
    refine lv_iload_n C.1 C.2.1 dL_law_18 rfl (hA.2.2 3 _ rfl) ?_
    refine lv_aload_n C.1 C.2.1 dL_law_19 rfl (hA.2.2 0 _ rfl) ?_
    refine va_slen (b := b) C.1 C.2.1 hX hbl hbA hH.2 dL_law_20 ?_
    refine lv_bipush (v := 6) C.1 C.2.1 dL_law_21 (by decide) ?_
    refine lv_isub C.1 C.2.1 dL_law_23 ?_
    refine lv_icmp_gt (tgt := 1207) C.1 C.2.1 dL_law_24 (by decide) (fun _ => ?_) (fun q => ?_)
    · refine lv_iconst (v := 1) C.1 C.2.1 dL_law_1207 (by decide) ?_
      exact fin H locs lsm hH.2
    · exact absurd (hl_gt (by omega) hi4 hL) q
  | succ n ih =>
    intro i w H locs lsm hin hi4 hS hH hA
    refine lv_iload_n C.1 C.2.1 dL_law_18 rfl (hA.2.2 3 _ rfl) ?_
    refine lv_aload_n C.1 C.2.1 dL_law_19 rfl (hA.2.2 0 _ rfl) ?_
    refine va_slen (b := b) C.1 C.2.1 hX hbl hbA hH.2 dL_law_20 ?_
    refine lv_bipush (v := 6) C.1 C.2.1 dL_law_21 (by decide) ?_
    refine lv_isub C.1 C.2.1 dL_law_23 ?_
    refine lv_icmp_gt (tgt := 1207) C.1 C.2.1 dL_law_24 (by decide) (fun _ => ?_) (fun q => ?_)
    · refine lv_iconst (v := 1) C.1 C.2.1 dL_law_1207 (by decide) ?_
      exact fin H locs lsm hH.2
    · have hi6 : i + 6 ≤ L := by
        rcases Nat.lt_or_ge L (i + 6) with z | z
        · exact absurd (hl_gt z hi4 hL) q
        · exact z
      refine lv_aload_n C.1 C.2.1 dL_law_27 rfl (hA.2.2 0 _ rfl) ?_
      refine lv_iload_n C.1 C.2.1 dL_law_28 rfl (hA.2.2 3 _ rfl) ?_
      refine va_sld (b := b) C.1 C.2.1 hX hbl hbA hH.2 (vp_in_nI (by omega) (by omega)) dL_law_29 ?_
      refine lv_bipush (v := 63) C.1 C.2.1 dL_law_30 (by decide) ?_
      refine lv_iand C.1 C.2.1 dL_law_32 ?_
      have kk : ∀ (w2 : hb_W) (H2 : Heap) (locs2 : List Loc), Sim w2 → hb_H D cA (hd_ad b s.heap.size) s.heap w2 H2 locs2 → W p l e room_1 s m #[Value.ref b] below meth c H2 locs2 cells slots Z (F0 m 1201 lsm []) := by
        intro w2 H2 locs2 hS2 hH2
        have hg := hA.2.2 3 (hb_i (nI i)) rfl
        dsimp only [hb_cv] at hg
        obtain ⟨lsm2, e2, h2⟩ := hA.s1 (i := 3) (v := hb_i (nI i + 6)) (by decide) rfl
        have hstep : W p l e room_1 s m #[Value.ref b] below meth c H2 locs2 cells slots Z (F0 m 1204 lsm2 []) := by
          refine lv_goto (tgt := 18) C.1 C.2.1 dL_law_1204 (by decide) ?_
          refine ih (i + 6) w2 H2 locs2 lsm2 (by omega) (by omega) hS2 hH2 ?_
          have e3 : hb_s1 (hl_ls i) 3 (hb_i (nI i + 6)) = hl_ls (i + 6) := by
            show [some (hb_r 13 0 0), some (hb_r 0 0 0), some (hb_r 12 0 0), some (hb_i (nI i + nI 6))] = _
            rw [nI_add]
          rw [e3] at h2
          exact h2
        intro T hT X
        obtain ⟨t, a1, b1⟩ := hstep T hT X
        refine ⟨t, ?_, b1⟩
        have hx := C.1
        have hb := C.2.1
        have hd := dL_law_1201
        dsimp only [hb_cv] at e2
        jvm_step X.here [X.here.top, ↓top_set X.here.top, hx, hb, hd, hg, e2]
        exact a1
      obtain ⟨j, hj, ej⟩ := hl_sw (xs (nI i).toNatClampNeg)
      have ej2 : (xs (nI i).toNatClampNeg &&& 63).toInt = (j : Int) := by rw [ej]; exact nI_toInt (by omega)
      by_cases hj36 : 36 ≤ j
      · refine lv_tableOut (tgt := 1201) C.1 C.2.1 dL_law_33 (Or.inr (by rw [ej2]; omega)) (by decide) ?_
        exact kk w H locs hS hH
      · have hz : ∀ (k tg : Nat) (off : Int), j = k → (#[159, 222, 245, 258, 281, 304, 337, 370, 403, 426, 469, 512, 545, 578, 611, 634, 667, 700, 733, 746, 779, 812, 845, 878, 911, 944, 967, 1010, 1023, 1046, 1059, 1082, 1096, 1109, 1132, 1145] : Array Int)[k]? = some off → (33 : Int) + off = (tg : Int) → W p l e room_1 s m #[Value.ref b] below meth c H locs cells slots Z (F0 m tg lsm []) → W p l e room_1 s m #[Value.ref b] below meth c H locs cells slots Z (F0 m 33 lsm [.int (xs (nI i).toNatClampNeg &&& 63)]) := by
          intro k tg off e0 e1 e2 h2
          refine lv_tableIn (tgt := tg) (off := off) C.1 C.2.1 dL_law_33 (by rw [ej2]; omega) (by rw [ej2]; omega) (by rw [ej2, show ((j : Int) - 0).toNat = k by omega]; exact e1) e2 h2
        match j, hj36 with
        | 0, _ => exact hz 0 192 159 rfl rfl rfl (hl_case_0 h0 hL C hX hbl hi6 hS hH hA kk)
        | 1, _ => exact hz 1 255 222 rfl rfl rfl (hl_case_1 h1 hL C hX hbl hi6 hS hH hA kk)
        | 2, _ => exact hz 2 278 245 rfl rfl rfl (hl_case_2 h2 hL C hX hbl hi6 hS hH hA kk)
        | 3, _ => exact hz 3 291 258 rfl rfl rfl (hl_case_3 h3 hL C hX hbl hi6 hS hH hA kk)
        | 4, _ => exact hz 4 314 281 rfl rfl rfl (hl_case_4 h4 hL C hX hbl hi6 hS hH hA kk)
        | 5, _ => exact hz 5 337 304 rfl rfl rfl (hl_case_5 h5 hL C hX hbl hi6 hS hH hA kk)
        | 6, _ => exact hz 6 370 337 rfl rfl rfl (hl_case_6 h6 hL C hX hbl hi6 hS hH hA kk)
        | 7, _ => exact hz 7 403 370 rfl rfl rfl (hl_case_7 h7 hL C hX hbl hi6 hS hH hA kk)
        | 8, _ => exact hz 8 436 403 rfl rfl rfl (hl_case_8 h8 hL C hX hbl hi6 hS hH hA kk)
        | 9, _ => exact hz 9 459 426 rfl rfl rfl (hl_case_9 h9 hL C hX hbl hi6 hS hH hA kk)
        | 10, _ => exact hz 10 502 469 rfl rfl rfl (hl_case_10 h10 hL C hX hbl hi6 hS hH hA kk)
        | 11, _ => exact hz 11 545 512 rfl rfl rfl (hl_case_11 h11 hL C hX hbl hi6 hS hH hA kk)
        | 12, _ => exact hz 12 578 545 rfl rfl rfl (hl_case_12 h12 hL C hX hbl hi6 hS hH hA kk)
        | 13, _ => exact hz 13 611 578 rfl rfl rfl (hl_case_13 h13 hL C hX hbl hi6 hS hH hA kk)
        | 14, _ => exact hz 14 644 611 rfl rfl rfl (hl_case_14 h14 hL C hX hbl hi6 hS hH hA kk)
        | 15, _ => exact hz 15 667 634 rfl rfl rfl (hl_case_15 h15 hL C hX hbl hi6 hS hH hA kk)
        | 16, _ => exact hz 16 700 667 rfl rfl rfl (hl_case_16 h16 hL C hX hbl hi6 hS hH hA kk)
        | 17, _ => exact hz 17 733 700 rfl rfl rfl (hl_case_17 h17 hL C hX hbl hi6 hS hH hA kk)
        | 18, _ => exact hz 18 766 733 rfl rfl rfl (hl_case_18 h18 hL C hX hbl hi6 hS hH hA kk)
        | 19, _ => exact hz 19 779 746 rfl rfl rfl (hl_case_19 h19 hL C hX hbl hi6 hS hH hA kk)
        | 20, _ => exact hz 20 812 779 rfl rfl rfl (hl_case_20 h20 hL C hX hbl hi6 hS hH hA kk)
        | 21, _ => exact hz 21 845 812 rfl rfl rfl (hl_case_21 h21 hL C hX hbl hi6 hS hH hA kk)
        | 22, _ => exact hz 22 878 845 rfl rfl rfl (hl_case_22 h22 hL C hX hbl hi6 hS hH hA kk)
        | 23, _ => exact hz 23 911 878 rfl rfl rfl (hl_case_23 h23 hL C hX hbl hi6 hS hH hA kk)
        | 24, _ => exact hz 24 944 911 rfl rfl rfl (hl_case_24 h24 hL C hX hbl hi6 hS hH hA kk)
        | 25, _ => exact hz 25 977 944 rfl rfl rfl (hl_case_25 h25 hL C hX hbl hi6 hS hH hA kk)
        | 26, _ => exact hz 26 1000 967 rfl rfl rfl (hl_case_26 h26 hL C hX hbl hi6 hS hH hA kk)
        | 27, _ => exact hz 27 1043 1010 rfl rfl rfl (hl_case_27 h27 hL C hX hbl hi6 hS hH hA kk)
        | 28, _ => exact hz 28 1056 1023 rfl rfl rfl (hl_case_28 h28 hL C hX hbl hi6 hS hH hA kk)
        | 29, _ => exact hz 29 1079 1046 rfl rfl rfl (hl_case_29 h29 hL C hX hbl hi6 hS hH hA kk)
        | 30, _ => exact hz 30 1092 1059 rfl rfl rfl (hl_case_30 h30 hL C hX hbl hi6 hS hH hA kk)
        | 31, _ => exact hz 31 1115 1082 rfl rfl rfl (hl_case_31 h31 hL C hX hbl hi6 hS hH hA kk)
        | 32, _ => exact hz 32 1129 1096 rfl rfl rfl (hl_case_32 h32 hL C hX hbl hi6 hS hH hA kk)
        | 33, _ => exact hz 33 1142 1109 rfl rfl rfl (hl_case_33 h33 hL C hX hbl hi6 hS hH hA kk)
        | 34, _ => exact hz 34 1165 1132 rfl rfl rfl (hl_case_34 h34 hL C hX hbl hi6 hS hH hA kk)
        | 35, _ => exact hz 35 1178 1145 rfl rfl rfl (hl_case_35 h35 hL C hX hbl hi6 hS hH hA kk)
        | j + 36, hj36 => exact absurd (Nat.le_add_left 36 j) hj36
