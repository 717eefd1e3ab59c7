/-! THE CLAIM OUT OF ONE WALK OF THE LAW'S BODY. Your part is whole_start (and what it stands on); all else here is the same for every law, but numbers. -/
def R_law : String := "DriftPlansLaw"
def lw_P (b : Addr) (xs : List Int32) (args : Array Value) (s : State) : Prop := args = #[.ref b] ∧ s.IntsAt b xs ∧ xs.length ≤ 2048 ∧ (Jvm.Cond.and given_1 narrow_1).before args s = true
/-- what a walk over the start with the record d0 says of its end, said of the start itself -/
theorem lw_closed {s t : State} {o : Outcome} {d0 : Drawn} {L : List Loc} {k n : Nat} (hd0 : s.drawn.sameBut d0 lw_cs) (hv : ∃ v, o = .returned v) (hW : (s.setDrawn d0).WarmedH t.vm) (hs : (s.setDrawn d0).sameButNew ({ t with vm := s.vm } : State) L k n) : State.butDraws s t lw_cs (fun t1 => Framed s o t1 L k n) := by
  have h2 : t.drawn = d0 := congrArg State.drawn hs.1
  refine ⟨⟨hv, hW, State.sameButNew.setDrawn hs s.drawn⟩, ?_, by decide⟩
  rw [h2]
  exact hd0
def lw_Q (_ : Array Value) (s : State) (o : Outcome) (t : State) : Prop := o = .returned (some (.int 1)) ∧ State.butDraws s t lw_cs (fun t1 => Framed s o t1 [] 600000 7302250)
def lw_Z (below : List Frame) (a : Array Value) (s : State) : State → Prop := fun t => ∃ o, t.status = .running ∧ Ended t below o ∧ lw_Q a s o t
/-- the law's own end, with 1 on the stack, nothing written that was there before, its room as the claim has it; d0: the record of draws at this point (at the entry s.drawn: begin with 'refine W.base ?_' and 'have hd0 := Drawn.sameBut.refl s.drawn lw_cs') -/
theorem lw_ret {p : Program} {l : Launch} {e : Env} {s : State} {m : MethodId} {below : List Frame} {meth : Method} {c : Code} {b : Nat} {d0 : Drawn} (hd0 : s.drawn.sameBut d0 lw_cs) (hx : p.tables.exec = Jvm.exec) (hb : c.code = code) (hr : meth.sig.returnType = ret) (hlocks : meth.locks = false) {pc : Nat} {H : Heap} {ls : Array Slot} (hdg : decode code pc = .ok (.ireturn, 1)) : W p l e room_1 (s.setDrawn d0) m #[Value.ref b] below meth c H [] 600000 7302250 (lw_Z below #[Value.ref b] s) (F0 m pc ls [.int 1]) := by
  intro T hT X
  obtain ⟨fs, hret, hrun, hended, hW, hframe⟩ := X.leave (v := some (.int 1)) (hlocks := hlocks) (fun h => by rw [hr] at h; cases h)
  have hmeth' : T.vm.method? m = some meth := X.method'
  refine ⟨T.setFrames fs, ?_, .returned (some (.int 1)), hrun, hended, rfl, lw_closed hd0 ⟨_, rfl⟩ hW hframe⟩
  jvm_step X.here [X.here.top, hx, hb, hdg, hmeth', hr, ret, narrow_b1]
  (try refine ⟨rfl, ?_⟩); (try refine ⟨rfl, ?_⟩)
  first | (intro acts; rw [hret _ acts rfl rfl rfl]) | rw [hret _ _ rfl rfl rfl]
  exact Steps.refl _
/-- what holds at the law's entry: the machine, the code, the tables' words (any of lw_tbl by 'hts w (by decide +kernel)'), the script of L ints xs at the cell b, what the Statement gives of the start (any of its parts by flat_of_before) -/
def lw_At (p : Program) (s : State) (m : MethodId) (meth : Method) (c : Code) (b L : Nat) (xs : Nat → Int32) : Prop :=
  p.tables.exec = Jvm.exec ∧ c.code = code ∧ meth.sig.returnType = ret ∧ c.maxLocals = 8 ∧ s.vm.findClass R_law = some m.cls ∧ (∀ w ∈ lw_tbl, w.before #[Value.ref b] s = true) ∧ va_X b L xs s s.heap ∧ b < s.heap.size ∧ meth.locks = false ∧ (Jvm.Cond.and given_1 narrow_1).before #[Value.ref b] s = true
theorem nan_of {r : UInt64} (h : isNaN64 r = true) : Jvm.FP.Core.val64 r = .nan := by
  refine (Jvm.FP.Core.dIsNaN_iff r).mp ((Jvm.FP.Core.isNaN_bits r).mpr ?_)
  unfold isNaN64 at h
  have h1 : (0x7ff0000000000000 : UInt64) < r &&& 0x7fffffffffffffff := of_decide_eq_true h
  have h2 := UInt64.lt_iff_toNat_lt.mp h1
  rw [UInt64.toNat_and] at h2
  have h3 : (0x7fffffffffffffff : UInt64).toNat = 2 ^ 63 - 1 := by decide
  rw [h3, Nat.and_two_pow_sub_one_eq_mod] at h2
  exact h2
theorem fit_cmp {v : DR} {r1 r2 : UInt64} (h1 : dOK v r1) (h2 : dOK v r2) : Op.cmpValue (FP.dcmp r1 r2) CmpOp.l = 0 ∨ (Op.cmpValue (FP.dcmp r1 r2) CmpOp.l ≠ 0 ∧ Op.cmpValue (FP.dcmp r1 r1) CmpOp.l ≠ 0 ∧ Op.cmpValue (FP.dcmp r2 r2) CmpOp.l ≠ 0) := by
  have key : r1 = r2 ∨ (Jvm.FP.Core.val64 r1 = .nan ∧ Jvm.FP.Core.val64 r2 = .nan) := by
    cases v with
    | none => exact Or.inl (Eq.trans h1 (Eq.symm h2))
    | some q =>
      have e1 : alike64 r1 (FP.ddiv q.1 q.2) = true := h1
      have e2 : alike64 r2 (FP.ddiv q.1 q.2) = true := h2
      simp only [alike64, Bool.or_eq_true, Bool.and_eq_true, decide_eq_true_eq] at e1 e2
      rcases e1 with e1 | e1
      · rcases e2 with e2 | e2
        · exact Or.inl (e1.trans e2.symm)
        · exact Or.inr ⟨nan_of (by rw [e1]; exact e2.2), nan_of e2.1⟩
      · rcases e2 with e2 | e2
        · exact Or.inr ⟨nan_of e1.1, nan_of (by rw [e2]; exact e1.2)⟩
        · exact Or.inr ⟨nan_of e1.1, nan_of e2.1⟩
  have hn : ∀ a b : UInt64, Jvm.FP.Core.val64 a = .nan → Op.cmpValue (FP.dcmp a b) CmpOp.l ≠ 0 := fun a b ha => by
    have e : FP.dcmp a b = none := (Jvm.FP.Core.dcmp_none a b).mpr (Or.inl ha)
    rw [e]
    decide
  rcases key with rfl | ⟨a1, a2⟩
  · by_cases hz : Jvm.FP.Core.val64 r1 = .nan
    · exact Or.inr ⟨hn _ _ hz, hn _ _ hz, hn _ _ hz⟩
    · refine Or.inl ?_
      have e : FP.dcmp r1 r1 = some .eq := Jvm.FP.Core.dcmp_self hz
      rw [e]
      decide
  · exact Or.inr ⟨hn _ _ a1, hn _ _ a1, hn _ _ a2⟩
theorem fit_end {p : Program} {l : Launch} {e : Env} {s : State} {m : MethodId} {args : Array Value} {below : List Frame} {meth : Method} {c : Code} {H : Heap} {locs : List Loc} {cells slots : Nat} {Q : State → Prop} {R : Room} {ls : Array Slot} {b ax o0 : Nat} {x3 : Int32} {r1 r2 : UInt64} {v : DR} {d2 : Drawn} (hx : p.tables.exec = Jvm.exec) (hb : c.code = cL_law) (_hd2 : s.drawn.sameBut d2 lw_cs) (hl : lv_has ls 8 [(6, .double r2), (4, .double r1), (0, .ref b), (1, .ref ax), (2, .ref o0), (3, .int x3)]) (h1 : dOK v r1) (h2 : dOK v r2)
    (kk : W p l e R (s.setDrawn d2) m args below meth c H locs cells slots Q (F0 m 866 ls [])) : W p l e R (s.setDrawn d2) m args below meth c H locs cells slots Q (F0 m 734 ls [.int (Op.cmpValue (FP.dcmp r1 r2) CmpOp.l)]) := by
  rcases fit_cmp h1 h2 with hz | ⟨z1, z2, z3⟩
  · refine lv_if_eq (tgt := 755) hx hb dL_law_734 (by decide) (fun _ => ?_) (fun c1 => absurd hz c1)
    exact lv_goto (tgt := 866) hx hb dL_law_755 (by decide) kk
  · refine lv_if_eq (tgt := 755) hx hb dL_law_734 (by decide) (fun c1 => absurd c1 z1) (fun _ => ?_)
    refine lv_dload hx hb dL_law_737 (lv_at hl 1 rfl) ?_
    refine lv_dload hx hb dL_law_739 (lv_at hl 1 rfl) ?_
    refine lv_dcmp hx hb dL_law_741 ?_
    refine lv_if_eq (tgt := 753) hx hb dL_law_742 (by decide) (fun c1 => absurd c1 z2) (fun _ => ?_)
    refine lv_dload hx hb dL_law_745 (lv_at hl 0 rfl) ?_
    refine lv_dload hx hb dL_law_747 (lv_at hl 0 rfl) ?_
    refine lv_dcmp hx hb dL_law_749 ?_
    refine lv_if_ne (tgt := 755) hx hb dL_law_750 (by decide) (fun _ => ?_) (fun c1 => absurd c1 z3)
    exact lv_goto (tgt := 866) hx hb dL_law_755 (by decide) kk
set_option maxRecDepth 100000 in
set_option maxHeartbeats 8000000 in
/-- the law's loop -/
theorem law_loop {p : Program} {l : Launch} {e : Env} {s : State} {m : MethodId} {below : List Frame} {meth : Method} {c : Code} {D : va_G} {ct : Nat → ClassId} {a0 : Nat} {b L : Nat} {xs : Nat → Int32} (hL : L ≤ 2048) (C0 : lw_At p s m meth c b L xs) (hK : va_K D vwCl (tysK ct) s) (hN : NK s) (hZ : SE a0 (fun q : Nat => s.heap.size ≤ q) s s.heap) {Rel : Nat → Nat → KH → MT → Prop} (hs : StepsOK ct a0 Rel) {ax : Nat} {o : Nat → Nat} (hDD : ∀ w2 : va_W, w2.map Prod.fst = mad o → va_D (fun q : Nat => s.heap.size ≤ q) w2) :
    ∀ (n j : Nat), j + n = 513 → ∀ (x3 : Int32), x3 = nI (4 * j) → 4 * j ≤ L + 3 → ∀ (h : KH) (M : MT) (d0 : Drawn), s.drawn.sameBut d0 lw_cs → Rel j ax h M → ∀ (H : Heap) (locs : List Loc), KW D (fun q : Nat => s.heap.size ≤ q) h H → va_P D vwCl (MTw o (ct 0) (ct 1) M) H → (∀ x ∈ MTw o (ct 0) (ct 1) M, h x.1 = none) → va_S (fun q : Nat => s.heap.size ≤ q) s.heap H locs → ∀ (ls : Array Slot), lv_has ls 8 [(0, .ref b), (1, .ref ax), (2, .ref (o 0)), (3, .int x3)] → W p l e room_1 (s.setDrawn d0) m #[Value.ref b] below meth c H locs (33 + 204 * j) (1192 + 1381 * j) (lw_Z below #[Value.ref b] s) (F0 m 18 ls []) := by
  obtain ⟨hx, hb, hr, hml, hown, hts0, hX, hbl, hlocks, hgv⟩ := C0
  obtain ⟨hobj, s_rows, s_part, s_count, s_run, s_pin, s_forget, s_drift, s_append, s_clear, s_fault, s_carryOut, s_why, s_table, s_partOf, s_size, s_least, s_best, s_plan, s_counted, s_fitness, s_ifCounted, s_ifRun, s_leastDrift, s_undo, s_save, s_restore⟩ := hs
  have hA : ∀ q : Nat, s.heap.size ≤ q → (fun q : Nat => s.heap.size ≤ q) q := fun _ h => h
  have hbA : ¬ (fun q : Nat => s.heap.size ≤ q) b := Nat.not_le.mpr hbl
  intro n
  induction n with
  | zero => intro j hj x3 e3 h4; omega
  | succ n ih =>
    intro j hj x3 e3 h4 h M d0 hd0 hrel H locs hW hP hdis hS ls hl
    have hts : ∀ w ∈ wsL_law, w.before #[Value.ref b] (s.setDrawn d0) = true := fun w hw => dr_words hts0 d0 w (wsL_law_in w hw)
    have B : BX p (s.setDrawn d0) m #[Value.ref b] c cL_law 8 RL := ⟨hx, hb, hml, hown, hts⟩
    obtain ⟨⟨fs0, ho⟩, hmono⟩ := hobj j ax h M hrel
    refine lv_iload_n hx hb dL_law_18 rfl (lv_at hl 3 rfl) ?_
    refine lv_aload_n hx hb dL_law_19 rfl (lv_at hl 0 rfl) ?_
    refine va_slen hx hb hX hbl hbA hS dL_law_20 ?_
    refine lv_iconst (v := (4 : Int32)) hx hb dL_law_21 (by decide) ?_
    refine lv_isub hx hb dL_law_22 ?_
    refine lv_icmp_gt (tgt := 872) hx hb dL_law_23 (by decide) (fun c0 => ?_) (fun c0 => ?_)
    · refine lv_iconst (v := (1 : Int32)) hx hb dL_law_872 (by decide) ?_
      refine va_forget (s := s.setDrawn d0) (fun q hq => hS.2.2 q hq) ?_
      refine W.widen (k := 600000) (n := 7302250) (by omega) (by omega) ?_
      exact lw_ret hd0 hx hb hr hlocks dL_law_873
    have hlt : 4 * j + 4 ≤ L := by
      rcases Nat.lt_or_ge L (4 * j + 4) with q | q
      · refine absurd ?_ c0
        rw [e3]
        show nI L - nI 4 < nI (4 * j)
        rw [Int32.lt_iff_toInt_lt, pk_sub_toInt (by omega) (by omega), nI_toInt (by omega)]
        omega
      · exact q
    have i0 : vp_in x3 L := by
      rw [e3]; exact vp_in_nI (by omega) (by omega)
    have i1 : vp_in (x3 + (1 : Int32)) L := by
      rw [e3]
      have e9 : nI (4 * j) + (1 : Int32) = nI (4 * j + 1) := nI_add (4 * j) 1
      rw [e9]; exact vp_in_nI (by omega) (by omega)
    have i2 : vp_in (x3 + (2 : Int32)) L := by
      rw [e3]
      have e9 : nI (4 * j) + (2 : Int32) = nI (4 * j + 2) := nI_add (4 * j) 2
      rw [e9]; exact vp_in_nI (by omega) (by omega)
    have i3 : vp_in (x3 + (3 : Int32)) L := by
      rw [e3]
      have e9 : nI (4 * j) + (3 : Int32) = nI (4 * j + 3) := nI_add (4 * j) 3
      rw [e9]; exact vp_in_nI (by omega) (by omega)
    have e4 : x3 + (4 : Int32) = nI (4 * (j + 1)) := by rw [e3]; exact nI_add (4 * j) 4
    refine lv_aload_n hx hb dL_law_26 rfl (lv_at hl 0 rfl) ?_
    refine lv_iload_n hx hb dL_law_27 rfl (lv_at hl 3 rfl) ?_
    refine va_sld (s := s.setDrawn d0) hx hb hX hbl hbA hS i0 dL_law_28 ?_
    refine lv_bipush (v := (31 : Int32)) hx hb dL_law_29 (by decide) ?_
    refine lv_iand hx hb dL_law_31 ?_
    refine lv_topi (fun op eop => ?_)
    have hend : ∀ (h1 : KH) (M1 : MT) (d1 : Drawn) (H1 : Heap) (locs1 : List Loc) (ls1 : Array Slot) (k1 n1 : Nat), s.drawn.sameBut d1 lw_cs → Rel (j + 1) ax h1 M1 → KW D (fun q : Nat => s.heap.size ≤ q) h1 H1 → va_P D vwCl (MTw o (ct 0) (ct 1) M1) H1 → (∀ x ∈ MTw o (ct 0) (ct 1) M1, h1 x.1 = none) → va_S (fun q : Nat => s.heap.size ≤ q) s.heap H1 locs1 → k1 ≤ 33 + 204 * (j + 1) → n1 ≤ 1192 + 1381 * (j + 1) → lv_has ls1 8 [(0, .ref b), (1, .ref ax), (2, .ref (o 0)), (3, .int x3)] → W p l e room_1 (s.setDrawn d1) m #[Value.ref b] below meth c H1 locs1 k1 n1 (lw_Z below #[Value.ref b] s) (F0 m 866 ls1 []) := by
      intro h1 M1 d1 H1 locs1 ls1 k1 n1 hd1 hrel1 hW1 hP1 hdis1 hS1 hk1 hn1 hl1
      refine lv_iinc (v := (x3 + (4 : Int32))) (lv' := [(3, .int (x3 + (4 : Int32))), (0, .ref b), (1, .ref ax), (2, .ref (o 0))]) hx hb dL_law_866 hl1 (k := 3) rfl (congrArg (HAdd.hAdd x3) (by decide)) (by decide) rfl (fun ls hl => ?_)
      refine lv_goto (tgt := 18) hx hb dL_law_869 (by decide) ?_
      refine W.widen (k := 33 + 204 * (j + 1)) (n := 1192 + 1381 * (j + 1)) hk1 hn1 ?_
      exact ih (j + 1) (by omega) _ e4 (by omega) h1 M1 d1 hd1 hrel1 H1 locs1 hW1 hP1 hdis1 hS1 ls (lv_sub hl [1, 2, 3, 0] rfl)
    
    by_cases c0 : op = (0 : Int32)
    · refine lv_tableIn (off := 120) (tgt := 152) hx hb dL_law_32 (by rw [c0]; decide) (by rw [c0]; decide) (by rw [c0]; rfl) (by decide) ?_
      refine lv_aload_n hx hb dL_law_152 rfl (lv_at hl 1 rfl) ?_
      refine lv_aload_n hx hb dL_law_153 rfl (lv_at hl 0 rfl) ?_
      refine lv_iload_n hx hb dL_law_154 rfl (lv_at hl 3 rfl) ?_
      refine lv_iconst (v := (1 : Int32)) hx hb dL_law_155 (by decide) ?_
      refine lv_iadd hx hb dL_law_156 ?_
      refine va_sld (s := s.setDrawn d0) hx hb hX hbl hbA hS i1 dL_law_157 ?_
      refine lv_aload_n hx hb dL_law_158 rfl (lv_at hl 0 rfl) ?_
      refine lv_iload_n hx hb dL_law_159 rfl (lv_at hl 3 rfl) ?_
      refine lv_iconst (v := (2 : Int32)) hx hb dL_law_160 (by decide) ?_
      refine lv_iadd hx hb dL_law_161 ?_
      refine va_sld (s := s.setDrawn d0) hx hb hX hbl hbA hS i2 dL_law_162 ?_
      refine lawx (s := s.setDrawn d0) (As := [.int (xs (x3 + (1 : Int32)).toNatClampNeg), .int (xs (x3 + (2 : Int32)).toNatClampNeg)]) (rest := []) (ci := 6) (cg_X5_rows l D ct a0 ax (xs (x3 + (1 : Int32)).toNatClampNeg) (xs (x3 + (2 : Int32)).toNatClampNeg) h _ (s_rows j (by omega) ax h M (xs (x3 + (1 : Int32)).toNatClampNeg) (xs (x3 + (2 : Int32)).toNatClampNeg) hrel)) B hK hN hZ hA hW hP hdis hS ho rfl k_X5_rows q_4_19 rfl ⟨Nat.le_of_ble_eq_true rfl, Nat.le_of_ble_eq_true rfl⟩ ⟨by show _ ≤ 600000; omega, by show _ ≤ 7302250; omega⟩ hl.1 rfl (Nat.le_of_ble_eq_true rfl) dL_law_163 (fun r h1 H1 locs1 hq hW hP hdis hS => ?_)
      obtain ⟨q, eq, er, hrel1⟩ := hq
      refine lv_aload_n hx hb dL_law_166 rfl (lv_at hl 2 rfl) ?_
      refine lv_aload_n hx hb dL_law_167 rfl (lv_at hl 0 rfl) ?_
      refine lv_iload_n hx hb dL_law_168 rfl (lv_at hl 3 rfl) ?_
      refine lv_iconst (v := (1 : Int32)) hx hb dL_law_169 (by decide) ?_
      refine lv_iadd hx hb dL_law_170 ?_
      refine va_sld (s := s.setDrawn d0) hx hb hX hbl hbA hS i1 dL_law_171 ?_
      refine lv_aload_n hx hb dL_law_172 rfl (lv_at hl 0 rfl) ?_
      refine lv_iload_n hx hb dL_law_173 rfl (lv_at hl 3 rfl) ?_
      refine lv_iconst (v := (2 : Int32)) hx hb dL_law_174 (by decide) ?_
      refine lv_iadd hx hb dL_law_175 ?_
      refine va_sld (s := s.setDrawn d0) hx hb hX hbl hbA hS i2 dL_law_176 ?_
      refine lawm (s := s.setDrawn d0) (As := [.int (xs (x3 + (1 : Int32)).toNatClampNeg), .int (xs (x3 + (2 : Int32)).toNatClampNeg)]) (rest := [.int r]) (c_X6_rows l D o (ct 0) (ct 1) (xs (x3 + (1 : Int32)).toNatClampNeg) (xs (x3 + (2 : Int32)).toNatClampNeg) M.1 M.2.1 M.2.2.1 M.2.2.2.1 M.2.2.2.2.1 M.2.2.2.2.2.1 M.2.2.2.2.2.2.1 M.2.2.2.2.2.2.2.1 M.2.2.2.2.2.2.2.2.1 M.2.2.2.2.2.2.2.2.2.1 M.2.2.2.2.2.2.2.2.2.2.1 M.2.2.2.2.2.2.2.2.2.2.2.1 M.2.2.2.2.2.2.2.2.2.2.2.2.1 M.2.2.2.2.2.2.2.2.2.2.2.2.2.1 M.2.2.2.2.2.2.2.2.2.2.2.2.2.2.1 M.2.2.2.2.2.2.2.2.2.2.2.2.2.2.2.1 M.2.2.2.2.2.2.2.2.2.2.2.2.2.2.2.2.1 M.2.2.2.2.2.2.2.2.2.2.2.2.2.2.2.2.2.1 M.2.2.2.2.2.2.2.2.2.2.2.2.2.2.2.2.2.2.1 M.2.2.2.2.2.2.2.2.2.2.2.2.2.2.2.2.2.2.2.1 M.2.2.2.2.2.2.2.2.2.2.2.2.2.2.2.2.2.2.2.2.1 M.2.2.2.2.2.2.2.2.2.2.2.2.2.2.2.2.2.2.2.2.2 q eq) B hK hDD hA hW hP hdis hS rfl rfl (va_recv (s := s) hK hP (ci := 7) (q0 := 0) rfl rfl) k_X6_rows q_9_8 rfl ⟨Nat.le_of_ble_eq_true rfl, Nat.le_of_ble_eq_true rfl⟩ ⟨by show _ ≤ 600000; omega, by show _ ≤ 7302250; omega⟩ hl.1 rfl (Nat.le_of_ble_eq_true rfl) dL_law_177 (fun H1 locs1 hW hP hdis hS => ?_)
      refine lv_icmp_eq (tgt := 866) hx hb dL_law_180 (by decide) (fun _ => ?_) (fun cq => absurd er.symm cq)
      exact hend h1 _ d0 H1 locs1 ls _ _ hd0 hrel1 hW hP hdis hS (by omega) (by omega) hl
    by_cases c1 : op = (1 : Int32)
    · refine lv_tableIn (off := 153) (tgt := 185) hx hb dL_law_32 (by rw [c1]; decide) (by rw [c1]; decide) (by rw [c1]; rfl) (by decide) ?_
      refine lv_aload_n hx hb dL_law_185 rfl (lv_at hl 1 rfl) ?_
      refine lv_aload_n hx hb dL_law_186 rfl (lv_at hl 0 rfl) ?_
      refine lv_iload_n hx hb dL_law_187 rfl (lv_at hl 3 rfl) ?_
      refine lv_iconst (v := (1 : Int32)) hx hb dL_law_188 (by decide) ?_
      refine lv_iadd hx hb dL_law_189 ?_
      refine va_sld (s := s.setDrawn d0) hx hb hX hbl hbA hS i1 dL_law_190 ?_
      refine lv_aload_n hx hb dL_law_191 rfl (lv_at hl 0 rfl) ?_
      refine lv_iload_n hx hb dL_law_192 rfl (lv_at hl 3 rfl) ?_
      refine lv_iconst (v := (2 : Int32)) hx hb dL_law_193 (by decide) ?_
      refine lv_iadd hx hb dL_law_194 ?_
      refine va_sld (s := s.setDrawn d0) hx hb hX hbl hbA hS i2 dL_law_195 ?_
      refine lv_aload_n hx hb dL_law_196 rfl (lv_at hl 0 rfl) ?_
      refine lv_iload_n hx hb dL_law_197 rfl (lv_at hl 3 rfl) ?_
      refine lv_iconst (v := (3 : Int32)) hx hb dL_law_198 (by decide) ?_
      refine lv_iadd hx hb dL_law_199 ?_
      refine va_sld (s := s.setDrawn d0) hx hb hX hbl hbA hS i3 dL_law_200 ?_
      refine lawx (s := s.setDrawn d0) (As := [.int (xs (x3 + (1 : Int32)).toNatClampNeg), .int (xs (x3 + (2 : Int32)).toNatClampNeg), .int (xs (x3 + (3 : Int32)).toNatClampNeg)]) (rest := []) (ci := 6) (cg_X5_part l D ct a0 ax (xs (x3 + (1 : Int32)).toNatClampNeg) (xs (x3 + (2 : Int32)).toNatClampNeg) (xs (x3 + (3 : Int32)).toNatClampNeg) h _ (s_part j (by omega) ax h M (xs (x3 + (1 : Int32)).toNatClampNeg) (xs (x3 + (2 : Int32)).toNatClampNeg) (xs (x3 + (3 : Int32)).toNatClampNeg) hrel)) B hK hN hZ hA hW hP hdis hS ho rfl k_X5_part q_10_0 rfl ⟨Nat.le_of_ble_eq_true rfl, Nat.le_of_ble_eq_true rfl⟩ ⟨by show _ ≤ 600000; omega, by show _ ≤ 7302250; omega⟩ hl.1 rfl (Nat.le_of_ble_eq_true rfl) dL_law_201 (fun r h1 H1 locs1 hq hW hP hdis hS => ?_)
      obtain ⟨q, eq, er, hrel1⟩ := hq
      refine lv_aload_n hx hb dL_law_204 rfl (lv_at hl 2 rfl) ?_
      refine lv_aload_n hx hb dL_law_205 rfl (lv_at hl 0 rfl) ?_
      refine lv_iload_n hx hb dL_law_206 rfl (lv_at hl 3 rfl) ?_
      refine lv_iconst (v := (1 : Int32)) hx hb dL_law_207 (by decide) ?_
      refine lv_iadd hx hb dL_law_208 ?_
      refine va_sld (s := s.setDrawn d0) hx hb hX hbl hbA hS i1 dL_law_209 ?_
      refine lv_aload_n hx hb dL_law_210 rfl (lv_at hl 0 rfl) ?_
      refine lv_iload_n hx hb dL_law_211 rfl (lv_at hl 3 rfl) ?_
      refine lv_iconst (v := (2 : Int32)) hx hb dL_law_212 (by decide) ?_
      refine lv_iadd hx hb dL_law_213 ?_
      refine va_sld (s := s.setDrawn d0) hx hb hX hbl hbA hS i2 dL_law_214 ?_
      refine lv_aload_n hx hb dL_law_215 rfl (lv_at hl 0 rfl) ?_
      refine lv_iload_n hx hb dL_law_216 rfl (lv_at hl 3 rfl) ?_
      refine lv_iconst (v := (3 : Int32)) hx hb dL_law_217 (by decide) ?_
      refine lv_iadd hx hb dL_law_218 ?_
      refine va_sld (s := s.setDrawn d0) hx hb hX hbl hbA hS i3 dL_law_219 ?_
      refine lawm (s := s.setDrawn d0) (As := [.int (xs (x3 + (1 : Int32)).toNatClampNeg), .int (xs (x3 + (2 : Int32)).toNatClampNeg), .int (xs (x3 + (3 : Int32)).toNatClampNeg)]) (rest := [.int r]) (c_X6_part l D o (ct 0) (ct 1) (xs (x3 + (1 : Int32)).toNatClampNeg) (xs (x3 + (2 : Int32)).toNatClampNeg) (xs (x3 + (3 : Int32)).toNatClampNeg) M.1 M.2.1 M.2.2.1 M.2.2.2.1 M.2.2.2.2.1 M.2.2.2.2.2.1 M.2.2.2.2.2.2.1 M.2.2.2.2.2.2.2.1 M.2.2.2.2.2.2.2.2.1 M.2.2.2.2.2.2.2.2.2.1 M.2.2.2.2.2.2.2.2.2.2.1 M.2.2.2.2.2.2.2.2.2.2.2.1 M.2.2.2.2.2.2.2.2.2.2.2.2.1 M.2.2.2.2.2.2.2.2.2.2.2.2.2.1 M.2.2.2.2.2.2.2.2.2.2.2.2.2.2.1 M.2.2.2.2.2.2.2.2.2.2.2.2.2.2.2.1 M.2.2.2.2.2.2.2.2.2.2.2.2.2.2.2.2.1 M.2.2.2.2.2.2.2.2.2.2.2.2.2.2.2.2.2.1 M.2.2.2.2.2.2.2.2.2.2.2.2.2.2.2.2.2.2.1 M.2.2.2.2.2.2.2.2.2.2.2.2.2.2.2.2.2.2.2.1 M.2.2.2.2.2.2.2.2.2.2.2.2.2.2.2.2.2.2.2.2.1 M.2.2.2.2.2.2.2.2.2.2.2.2.2.2.2.2.2.2.2.2.2 q eq) B hK hDD hA hW hP hdis hS rfl rfl (va_recv (s := s) hK hP (ci := 7) (q0 := 0) rfl rfl) k_X6_part q_10_20 rfl ⟨Nat.le_of_ble_eq_true rfl, Nat.le_of_ble_eq_true rfl⟩ ⟨by show _ ≤ 600000; omega, by show _ ≤ 7302250; omega⟩ hl.1 rfl (Nat.le_of_ble_eq_true rfl) dL_law_220 (fun H1 locs1 hW hP hdis hS => ?_)
      refine lv_icmp_eq (tgt := 866) hx hb dL_law_223 (by decide) (fun _ => ?_) (fun cq => absurd er.symm cq)
      exact hend h1 _ d0 H1 locs1 ls _ _ hd0 hrel1 hW hP hdis hS (by omega) (by omega) hl
    by_cases c2 : op = (2 : Int32)
    · refine lv_tableIn (off := 196) (tgt := 228) hx hb dL_law_32 (by rw [c2]; decide) (by rw [c2]; decide) (by rw [c2]; rfl) (by decide) ?_
      refine lv_aload_n hx hb dL_law_228 rfl (lv_at hl 1 rfl) ?_
      refine lv_aload_n hx hb dL_law_229 rfl (lv_at hl 0 rfl) ?_
      refine lv_iload_n hx hb dL_law_230 rfl (lv_at hl 3 rfl) ?_
      refine lv_iconst (v := (1 : Int32)) hx hb dL_law_231 (by decide) ?_
      refine lv_iadd hx hb dL_law_232 ?_
      refine va_sld (s := s.setDrawn d0) hx hb hX hbl hbA hS i1 dL_law_233 ?_
      refine lawx (s := s.setDrawn d0) (As := [.int (xs (x3 + (1 : Int32)).toNatClampNeg)]) (rest := []) (ci := 6) (cg_X5_count l D ct a0 ax (xs (x3 + (1 : Int32)).toNatClampNeg) h _ (s_count j (by omega) ax h M (xs (x3 + (1 : Int32)).toNatClampNeg) hrel)) B hK hN hZ hA hW hP hdis hS ho rfl k_X5_count q_11_11 rfl ⟨Nat.le_of_ble_eq_true rfl, Nat.le_of_ble_eq_true rfl⟩ ⟨by show _ ≤ 600000; omega, by show _ ≤ 7302250; omega⟩ hl.1 rfl (Nat.le_of_ble_eq_true rfl) dL_law_234 (fun r h1 H1 locs1 hq hW hP hdis hS => ?_)
      obtain ⟨q, eq, er, hrel1⟩ := hq
      refine lv_aload_n hx hb dL_law_237 rfl (lv_at hl 2 rfl) ?_
      refine lv_aload_n hx hb dL_law_238 rfl (lv_at hl 0 rfl) ?_
      refine lv_iload_n hx hb dL_law_239 rfl (lv_at hl 3 rfl) ?_
      refine lv_iconst (v := (1 : Int32)) hx hb dL_law_240 (by decide) ?_
      refine lv_iadd hx hb dL_law_241 ?_
      refine va_sld (s := s.setDrawn d0) hx hb hX hbl hbA hS i1 dL_law_242 ?_
      refine lawm (s := s.setDrawn d0) (As := [.int (xs (x3 + (1 : Int32)).toNatClampNeg)]) (rest := [.int r]) (c_X6_count l D o (ct 0) (ct 1) (xs (x3 + (1 : Int32)).toNatClampNeg) M.1 M.2.1 M.2.2.1 M.2.2.2.1 M.2.2.2.2.1 M.2.2.2.2.2.1 M.2.2.2.2.2.2.1 M.2.2.2.2.2.2.2.1 M.2.2.2.2.2.2.2.2.1 M.2.2.2.2.2.2.2.2.2.1 M.2.2.2.2.2.2.2.2.2.2.1 M.2.2.2.2.2.2.2.2.2.2.2.1 M.2.2.2.2.2.2.2.2.2.2.2.2.1 M.2.2.2.2.2.2.2.2.2.2.2.2.2.1 M.2.2.2.2.2.2.2.2.2.2.2.2.2.2.1 M.2.2.2.2.2.2.2.2.2.2.2.2.2.2.2.1 M.2.2.2.2.2.2.2.2.2.2.2.2.2.2.2.2.1 M.2.2.2.2.2.2.2.2.2.2.2.2.2.2.2.2.2.1 M.2.2.2.2.2.2.2.2.2.2.2.2.2.2.2.2.2.2.1 M.2.2.2.2.2.2.2.2.2.2.2.2.2.2.2.2.2.2.2.1 M.2.2.2.2.2.2.2.2.2.2.2.2.2.2.2.2.2.2.2.2.1 M.2.2.2.2.2.2.2.2.2.2.2.2.2.2.2.2.2.2.2.2.2 q eq) B hK hDD hA hW hP hdis hS rfl rfl (va_recv (s := s) hK hP (ci := 7) (q0 := 0) rfl rfl) k_X6_count q_12_8 rfl ⟨Nat.le_of_ble_eq_true rfl, Nat.le_of_ble_eq_true rfl⟩ ⟨by show _ ≤ 600000; omega, by show _ ≤ 7302250; omega⟩ hl.1 rfl (Nat.le_of_ble_eq_true rfl) dL_law_243 (fun H1 locs1 hW hP hdis hS => ?_)
      refine lv_icmp_eq (tgt := 866) hx hb dL_law_246 (by decide) (fun _ => ?_) (fun cq => absurd er.symm cq)
      exact hend h1 _ d0 H1 locs1 ls _ _ hd0 hrel1 hW hP hdis hS (by omega) (by omega) hl
    by_cases c3 : op = (3 : Int32)
    · refine lv_tableIn (off := 219) (tgt := 251) hx hb dL_law_32 (by rw [c3]; decide) (by rw [c3]; decide) (by rw [c3]; rfl) (by decide) ?_
      refine lv_aload_n hx hb dL_law_251 rfl (lv_at hl 1 rfl) ?_
      refine lv_aload_n hx hb dL_law_252 rfl (lv_at hl 0 rfl) ?_
      refine lv_iload_n hx hb dL_law_253 rfl (lv_at hl 3 rfl) ?_
      refine lv_iconst (v := (1 : Int32)) hx hb dL_law_254 (by decide) ?_
      refine lv_iadd hx hb dL_law_255 ?_
      refine va_sld (s := s.setDrawn d0) hx hb hX hbl hbA hS i1 dL_law_256 ?_
      refine lawx (s := s.setDrawn d0) (As := [.int (xs (x3 + (1 : Int32)).toNatClampNeg)]) (rest := []) (ci := 6) (cg_X5_run l D ct a0 ax (xs (x3 + (1 : Int32)).toNatClampNeg) h _ (s_run j (by omega) ax h M (xs (x3 + (1 : Int32)).toNatClampNeg) hrel)) B hK hN hZ hA hW hP hdis hS ho rfl k_X5_run q_13_0 rfl ⟨Nat.le_of_ble_eq_true rfl, Nat.le_of_ble_eq_true rfl⟩ ⟨by show _ ≤ 600000; omega, by show _ ≤ 7302250; omega⟩ hl.1 rfl (Nat.le_of_ble_eq_true rfl) dL_law_257 (fun r h1 H1 locs1 hq hW hP hdis hS => ?_)
      obtain ⟨q, eq, er, hrel1⟩ := hq
      refine lv_aload_n hx hb dL_law_260 rfl (lv_at hl 2 rfl) ?_
      refine lv_aload_n hx hb dL_law_261 rfl (lv_at hl 0 rfl) ?_
      refine lv_iload_n hx hb dL_law_262 rfl (lv_at hl 3 rfl) ?_
      refine lv_iconst (v := (1 : Int32)) hx hb dL_law_263 (by decide) ?_
      refine lv_iadd hx hb dL_law_264 ?_
      refine va_sld (s := s.setDrawn d0) hx hb hX hbl hbA hS i1 dL_law_265 ?_
      refine lawm (s := s.setDrawn d0) (As := [.int (xs (x3 + (1 : Int32)).toNatClampNeg)]) (rest := [.int r]) (c_X6_run l D o (ct 0) (ct 1) (xs (x3 + (1 : Int32)).toNatClampNeg) M.1 M.2.1 M.2.2.1 M.2.2.2.1 M.2.2.2.2.1 M.2.2.2.2.2.1 M.2.2.2.2.2.2.1 M.2.2.2.2.2.2.2.1 M.2.2.2.2.2.2.2.2.1 M.2.2.2.2.2.2.2.2.2.1 M.2.2.2.2.2.2.2.2.2.2.1 M.2.2.2.2.2.2.2.2.2.2.2.1 M.2.2.2.2.2.2.2.2.2.2.2.2.1 M.2.2.2.2.2.2.2.2.2.2.2.2.2.1 M.2.2.2.2.2.2.2.2.2.2.2.2.2.2.1 M.2.2.2.2.2.2.2.2.2.2.2.2.2.2.2.1 M.2.2.2.2.2.2.2.2.2.2.2.2.2.2.2.2.1 M.2.2.2.2.2.2.2.2.2.2.2.2.2.2.2.2.2.1 M.2.2.2.2.2.2.2.2.2.2.2.2.2.2.2.2.2.2.1 M.2.2.2.2.2.2.2.2.2.2.2.2.2.2.2.2.2.2.2.1 M.2.2.2.2.2.2.2.2.2.2.2.2.2.2.2.2.2.2.2.2.1 M.2.2.2.2.2.2.2.2.2.2.2.2.2.2.2.2.2.2.2.2.2 q eq) B hK hDD hA hW hP hdis hS rfl rfl (va_recv (s := s) hK hP (ci := 7) (q0 := 0) rfl rfl) k_X6_run q_17_9 rfl ⟨Nat.le_of_ble_eq_true rfl, Nat.le_of_ble_eq_true rfl⟩ ⟨by show _ ≤ 600000; omega, by show _ ≤ 7302250; omega⟩ hl.1 rfl (Nat.le_of_ble_eq_true rfl) dL_law_266 (fun H1 locs1 hW hP hdis hS => ?_)
      refine lv_icmp_eq (tgt := 866) hx hb dL_law_269 (by decide) (fun _ => ?_) (fun cq => absurd er.symm cq)
      exact hend h1 _ d0 H1 locs1 ls _ _ hd0 hrel1 hW hP hdis hS (by omega) (by omega) hl
    by_cases c4 : op = (4 : Int32)
    · refine lv_tableIn (off := 242) (tgt := 274) hx hb dL_law_32 (by rw [c4]; decide) (by rw [c4]; decide) (by rw [c4]; rfl) (by decide) ?_
      refine lv_aload_n hx hb dL_law_274 rfl (lv_at hl 1 rfl) ?_
      refine lv_aload_n hx hb dL_law_275 rfl (lv_at hl 0 rfl) ?_
      refine lv_iload_n hx hb dL_law_276 rfl (lv_at hl 3 rfl) ?_
      refine lv_iconst (v := (1 : Int32)) hx hb dL_law_277 (by decide) ?_
      refine lv_iadd hx hb dL_law_278 ?_
      refine va_sld (s := s.setDrawn d0) hx hb hX hbl hbA hS i1 dL_law_279 ?_
      refine lawx (s := s.setDrawn d0) (As := [.int (xs (x3 + (1 : Int32)).toNatClampNeg)]) (rest := []) (ci := 6) (cg_X5_pin l D ct a0 ax (xs (x3 + (1 : Int32)).toNatClampNeg) h _ (s_pin j (by omega) ax h M (xs (x3 + (1 : Int32)).toNatClampNeg) hrel)) B hK hN hZ hA hW hP hdis hS ho rfl k_X5_pin q_19_23 rfl ⟨Nat.le_of_ble_eq_true rfl, Nat.le_of_ble_eq_true rfl⟩ ⟨by show _ ≤ 600000; omega, by show _ ≤ 7302250; omega⟩ hl.1 rfl (Nat.le_of_ble_eq_true rfl) dL_law_280 (fun r h1 H1 locs1 hq hW hP hdis hS => ?_)
      obtain ⟨q, eq, er, hrel1⟩ := hq
      refine lv_aload_n hx hb dL_law_283 rfl (lv_at hl 2 rfl) ?_
      refine lv_aload_n hx hb dL_law_284 rfl (lv_at hl 0 rfl) ?_
      refine lv_iload_n hx hb dL_law_285 rfl (lv_at hl 3 rfl) ?_
      refine lv_iconst (v := (1 : Int32)) hx hb dL_law_286 (by decide) ?_
      refine lv_iadd hx hb dL_law_287 ?_
      refine va_sld (s := s.setDrawn d0) hx hb hX hbl hbA hS i1 dL_law_288 ?_
      refine lawm (s := s.setDrawn d0) (As := [.int (xs (x3 + (1 : Int32)).toNatClampNeg)]) (rest := [.int r]) (c_X6_pin l D o (ct 0) (ct 1) (xs (x3 + (1 : Int32)).toNatClampNeg) M.1 M.2.1 M.2.2.1 M.2.2.2.1 M.2.2.2.2.1 M.2.2.2.2.2.1 M.2.2.2.2.2.2.1 M.2.2.2.2.2.2.2.1 M.2.2.2.2.2.2.2.2.1 M.2.2.2.2.2.2.2.2.2.1 M.2.2.2.2.2.2.2.2.2.2.1 M.2.2.2.2.2.2.2.2.2.2.2.1 M.2.2.2.2.2.2.2.2.2.2.2.2.1 M.2.2.2.2.2.2.2.2.2.2.2.2.2.1 M.2.2.2.2.2.2.2.2.2.2.2.2.2.2.1 M.2.2.2.2.2.2.2.2.2.2.2.2.2.2.2.1 M.2.2.2.2.2.2.2.2.2.2.2.2.2.2.2.2.1 M.2.2.2.2.2.2.2.2.2.2.2.2.2.2.2.2.2.1 M.2.2.2.2.2.2.2.2.2.2.2.2.2.2.2.2.2.2.1 M.2.2.2.2.2.2.2.2.2.2.2.2.2.2.2.2.2.2.2.1 M.2.2.2.2.2.2.2.2.2.2.2.2.2.2.2.2.2.2.2.2.1 M.2.2.2.2.2.2.2.2.2.2.2.2.2.2.2.2.2.2.2.2.2 q eq) B hK hDD hA hW hP hdis hS rfl rfl (va_recv (s := s) hK hP (ci := 7) (q0 := 0) rfl rfl) k_X6_pin q_20_13 rfl ⟨Nat.le_of_ble_eq_true rfl, Nat.le_of_ble_eq_true rfl⟩ ⟨by show _ ≤ 600000; omega, by show _ ≤ 7302250; omega⟩ hl.1 rfl (Nat.le_of_ble_eq_true rfl) dL_law_289 (fun H1 locs1 hW hP hdis hS => ?_)
      refine lv_icmp_eq (tgt := 866) hx hb dL_law_292 (by decide) (fun _ => ?_) (fun cq => absurd er.symm cq)
      exact hend h1 _ d0 H1 locs1 ls _ _ hd0 hrel1 hW hP hdis hS (by omega) (by omega) hl
    by_cases c5 : op = (5 : Int32)
    · refine lv_tableIn (off := 265) (tgt := 297) hx hb dL_law_32 (by rw [c5]; decide) (by rw [c5]; decide) (by rw [c5]; rfl) (by decide) ?_
      refine lv_aload_n hx hb dL_law_297 rfl (lv_at hl 1 rfl) ?_
      refine lv_aload_n hx hb dL_law_298 rfl (lv_at hl 0 rfl) ?_
      refine lv_iload_n hx hb dL_law_299 rfl (lv_at hl 3 rfl) ?_
      refine lv_iconst (v := (1 : Int32)) hx hb dL_law_300 (by decide) ?_
      refine lv_iadd hx hb dL_law_301 ?_
      refine va_sld (s := s.setDrawn d0) hx hb hX hbl hbA hS i1 dL_law_302 ?_
      refine lawx (s := s.setDrawn d0) (As := [.int (xs (x3 + (1 : Int32)).toNatClampNeg)]) (rest := []) (ci := 6) (cg_X5_forget l D ct a0 ax (xs (x3 + (1 : Int32)).toNatClampNeg) h _ (s_forget j (by omega) ax h M (xs (x3 + (1 : Int32)).toNatClampNeg) hrel)) B hK hN hZ hA hW hP hdis hS ho rfl k_X5_forget q_20_17 rfl ⟨Nat.le_of_ble_eq_true rfl, Nat.le_of_ble_eq_true rfl⟩ ⟨by show _ ≤ 600000; omega, by show _ ≤ 7302250; omega⟩ hl.1 rfl (Nat.le_of_ble_eq_true rfl) dL_law_303 (fun r h1 H1 locs1 hq hW hP hdis hS => ?_)
      obtain ⟨q, eq, er, hrel1⟩ := hq
      refine lv_aload_n hx hb dL_law_306 rfl (lv_at hl 2 rfl) ?_
      refine lv_aload_n hx hb dL_law_307 rfl (lv_at hl 0 rfl) ?_
      refine lv_iload_n hx hb dL_law_308 rfl (lv_at hl 3 rfl) ?_
      refine lv_iconst (v := (1 : Int32)) hx hb dL_law_309 (by decide) ?_
      refine lv_iadd hx hb dL_law_310 ?_
      refine va_sld (s := s.setDrawn d0) hx hb hX hbl hbA hS i1 dL_law_311 ?_
      refine lawm (s := s.setDrawn d0) (As := [.int (xs (x3 + (1 : Int32)).toNatClampNeg)]) (rest := [.int r]) (c_X6_forget l D o (ct 0) (ct 1) (xs (x3 + (1 : Int32)).toNatClampNeg) M.1 M.2.1 M.2.2.1 M.2.2.2.1 M.2.2.2.2.1 M.2.2.2.2.2.1 M.2.2.2.2.2.2.1 M.2.2.2.2.2.2.2.1 M.2.2.2.2.2.2.2.2.1 M.2.2.2.2.2.2.2.2.2.1 M.2.2.2.2.2.2.2.2.2.2.1 M.2.2.2.2.2.2.2.2.2.2.2.1 M.2.2.2.2.2.2.2.2.2.2.2.2.1 M.2.2.2.2.2.2.2.2.2.2.2.2.2.1 M.2.2.2.2.2.2.2.2.2.2.2.2.2.2.1 M.2.2.2.2.2.2.2.2.2.2.2.2.2.2.2.1 M.2.2.2.2.2.2.2.2.2.2.2.2.2.2.2.2.1 M.2.2.2.2.2.2.2.2.2.2.2.2.2.2.2.2.2.1 M.2.2.2.2.2.2.2.2.2.2.2.2.2.2.2.2.2.2.1 M.2.2.2.2.2.2.2.2.2.2.2.2.2.2.2.2.2.2.2.1 M.2.2.2.2.2.2.2.2.2.2.2.2.2.2.2.2.2.2.2.2.1 M.2.2.2.2.2.2.2.2.2.2.2.2.2.2.2.2.2.2.2.2.2 q eq) B hK hDD hA hW hP hdis hS rfl rfl (va_recv (s := s) hK hP (ci := 7) (q0 := 0) rfl rfl) k_X6_forget q_20_23 rfl ⟨Nat.le_of_ble_eq_true rfl, Nat.le_of_ble_eq_true rfl⟩ ⟨by show _ ≤ 600000; omega, by show _ ≤ 7302250; omega⟩ hl.1 rfl (Nat.le_of_ble_eq_true rfl) dL_law_312 (fun H1 locs1 hW hP hdis hS => ?_)
      refine lv_icmp_eq (tgt := 866) hx hb dL_law_315 (by decide) (fun _ => ?_) (fun cq => absurd er.symm cq)
      exact hend h1 _ d0 H1 locs1 ls _ _ hd0 hrel1 hW hP hdis hS (by omega) (by omega) hl
    by_cases c6 : op = (6 : Int32)
    · refine lv_tableIn (off := 288) (tgt := 320) hx hb dL_law_32 (by rw [c6]; decide) (by rw [c6]; decide) (by rw [c6]; rfl) (by decide) ?_
      refine lv_aload_n hx hb dL_law_320 rfl (lv_at hl 1 rfl) ?_
      refine lv_aload_n hx hb dL_law_321 rfl (lv_at hl 0 rfl) ?_
      refine lv_iload_n hx hb dL_law_322 rfl (lv_at hl 3 rfl) ?_
      refine lv_iconst (v := (1 : Int32)) hx hb dL_law_323 (by decide) ?_
      refine lv_iadd hx hb dL_law_324 ?_
      refine va_sld (s := s.setDrawn d0) hx hb hX hbl hbA hS i1 dL_law_325 ?_
      refine lawx (s := s.setDrawn d0) (As := [.int (xs (x3 + (1 : Int32)).toNatClampNeg)]) (rest := []) (ci := 6) (cg_X5_drift l D ct a0 ax (xs (x3 + (1 : Int32)).toNatClampNeg) h _ (s_drift j (by omega) ax h M (xs (x3 + (1 : Int32)).toNatClampNeg) hrel)) B hK hN hZ hA hW hP hdis hS ho rfl k_X5_drift q_21_3 rfl ⟨Nat.le_of_ble_eq_true rfl, Nat.le_of_ble_eq_true rfl⟩ ⟨by show _ ≤ 600000; omega, by show _ ≤ 7302250; omega⟩ hl.1 rfl (Nat.le_of_ble_eq_true rfl) dL_law_326 (fun r h1 H1 locs1 hq hW hP hdis hS => ?_)
      obtain ⟨q, eq, er, hrel1⟩ := hq
      refine lv_aload_n hx hb dL_law_329 rfl (lv_at hl 2 rfl) ?_
      refine lv_aload_n hx hb dL_law_330 rfl (lv_at hl 0 rfl) ?_
      refine lv_iload_n hx hb dL_law_331 rfl (lv_at hl 3 rfl) ?_
      refine lv_iconst (v := (1 : Int32)) hx hb dL_law_332 (by decide) ?_
      refine lv_iadd hx hb dL_law_333 ?_
      refine va_sld (s := s.setDrawn d0) hx hb hX hbl hbA hS i1 dL_law_334 ?_
      refine lawm (s := s.setDrawn d0) (As := [.int (xs (x3 + (1 : Int32)).toNatClampNeg)]) (rest := [.int r]) (c_X6_drift l D o (ct 0) (ct 1) (xs (x3 + (1 : Int32)).toNatClampNeg) M.1 M.2.1 M.2.2.1 M.2.2.2.1 M.2.2.2.2.1 M.2.2.2.2.2.1 M.2.2.2.2.2.2.1 M.2.2.2.2.2.2.2.1 M.2.2.2.2.2.2.2.2.1 M.2.2.2.2.2.2.2.2.2.1 M.2.2.2.2.2.2.2.2.2.2.1 M.2.2.2.2.2.2.2.2.2.2.2.1 M.2.2.2.2.2.2.2.2.2.2.2.2.1 M.2.2.2.2.2.2.2.2.2.2.2.2.2.1 M.2.2.2.2.2.2.2.2.2.2.2.2.2.2.1 M.2.2.2.2.2.2.2.2.2.2.2.2.2.2.2.1 M.2.2.2.2.2.2.2.2.2.2.2.2.2.2.2.2.1 M.2.2.2.2.2.2.2.2.2.2.2.2.2.2.2.2.2.1 M.2.2.2.2.2.2.2.2.2.2.2.2.2.2.2.2.2.2.1 M.2.2.2.2.2.2.2.2.2.2.2.2.2.2.2.2.2.2.2.1 M.2.2.2.2.2.2.2.2.2.2.2.2.2.2.2.2.2.2.2.2.1 M.2.2.2.2.2.2.2.2.2.2.2.2.2.2.2.2.2.2.2.2.2 q eq) B hK hDD hA hW hP hdis hS rfl rfl (va_recv (s := s) hK hP (ci := 7) (q0 := 0) rfl rfl) k_X6_drift q_21_8 rfl ⟨Nat.le_of_ble_eq_true rfl, Nat.le_of_ble_eq_true rfl⟩ ⟨by show _ ≤ 600000; omega, by show _ ≤ 7302250; omega⟩ hl.1 rfl (Nat.le_of_ble_eq_true rfl) dL_law_335 (fun H1 locs1 hW hP hdis hS => ?_)
      refine lv_icmp_eq (tgt := 866) hx hb dL_law_338 (by decide) (fun _ => ?_) (fun cq => absurd er.symm cq)
      exact hend h1 _ d0 H1 locs1 ls _ _ hd0 hrel1 hW hP hdis hS (by omega) (by omega) hl
    by_cases c7 : op = (7 : Int32)
    · refine lv_tableIn (off := 311) (tgt := 343) hx hb dL_law_32 (by rw [c7]; decide) (by rw [c7]; decide) (by rw [c7]; rfl) (by decide) ?_
      refine lv_aload_n hx hb dL_law_343 rfl (lv_at hl 1 rfl) ?_
      refine lv_aload_n hx hb dL_law_344 rfl (lv_at hl 0 rfl) ?_
      refine lv_iload_n hx hb dL_law_345 rfl (lv_at hl 3 rfl) ?_
      refine lv_iconst (v := (1 : Int32)) hx hb dL_law_346 (by decide) ?_
      refine lv_iadd hx hb dL_law_347 ?_
      refine va_sld (s := s.setDrawn d0) hx hb hX hbl hbA hS i1 dL_law_348 ?_
      refine lawx (s := s.setDrawn d0) (As := [.int (xs (x3 + (1 : Int32)).toNatClampNeg)]) (rest := []) (ci := 6) (cg_X5_append l D ct a0 ax (xs (x3 + (1 : Int32)).toNatClampNeg) h _ (s_append j (by omega) ax h M (xs (x3 + (1 : Int32)).toNatClampNeg) hrel)) B hK hN hZ hA hW hP hdis hS ho rfl k_X5_append q_21_12 rfl ⟨Nat.le_of_ble_eq_true rfl, Nat.le_of_ble_eq_true rfl⟩ ⟨by show _ ≤ 600000; omega, by show _ ≤ 7302250; omega⟩ hl.1 rfl (Nat.le_of_ble_eq_true rfl) dL_law_349 (fun r h1 H1 locs1 hq hW hP hdis hS => ?_)
      obtain ⟨q, eq, er, hrel1⟩ := hq
      refine lv_aload_n hx hb dL_law_352 rfl (lv_at hl 2 rfl) ?_
      refine lv_aload_n hx hb dL_law_353 rfl (lv_at hl 0 rfl) ?_
      refine lv_iload_n hx hb dL_law_354 rfl (lv_at hl 3 rfl) ?_
      refine lv_iconst (v := (1 : Int32)) hx hb dL_law_355 (by decide) ?_
      refine lv_iadd hx hb dL_law_356 ?_
      refine va_sld (s := s.setDrawn d0) hx hb hX hbl hbA hS i1 dL_law_357 ?_
      refine lawm (s := s.setDrawn d0) (As := [.int (xs (x3 + (1 : Int32)).toNatClampNeg)]) (rest := [.int r]) (c_X6_append l D o (ct 0) (ct 1) (xs (x3 + (1 : Int32)).toNatClampNeg) M.1 M.2.1 M.2.2.1 M.2.2.2.1 M.2.2.2.2.1 M.2.2.2.2.2.1 M.2.2.2.2.2.2.1 M.2.2.2.2.2.2.2.1 M.2.2.2.2.2.2.2.2.1 M.2.2.2.2.2.2.2.2.2.1 M.2.2.2.2.2.2.2.2.2.2.1 M.2.2.2.2.2.2.2.2.2.2.2.1 M.2.2.2.2.2.2.2.2.2.2.2.2.1 M.2.2.2.2.2.2.2.2.2.2.2.2.2.1 M.2.2.2.2.2.2.2.2.2.2.2.2.2.2.1 M.2.2.2.2.2.2.2.2.2.2.2.2.2.2.2.1 M.2.2.2.2.2.2.2.2.2.2.2.2.2.2.2.2.1 M.2.2.2.2.2.2.2.2.2.2.2.2.2.2.2.2.2.1 M.2.2.2.2.2.2.2.2.2.2.2.2.2.2.2.2.2.2.1 M.2.2.2.2.2.2.2.2.2.2.2.2.2.2.2.2.2.2.2.1 M.2.2.2.2.2.2.2.2.2.2.2.2.2.2.2.2.2.2.2.2.1 M.2.2.2.2.2.2.2.2.2.2.2.2.2.2.2.2.2.2.2.2.2 q eq) B hK hDD hA hW hP hdis hS rfl rfl (va_recv (s := s) hK hP (ci := 7) (q0 := 0) rfl rfl) k_X6_append q_21_21 rfl ⟨Nat.le_of_ble_eq_true rfl, Nat.le_of_ble_eq_true rfl⟩ ⟨by show _ ≤ 600000; omega, by show _ ≤ 7302250; omega⟩ hl.1 rfl (Nat.le_of_ble_eq_true rfl) dL_law_358 (fun H1 locs1 hW hP hdis hS => ?_)
      refine lv_icmp_eq (tgt := 866) hx hb dL_law_361 (by decide) (fun _ => ?_) (fun cq => absurd er.symm cq)
      exact hend h1 _ d0 H1 locs1 ls _ _ hd0 hrel1 hW hP hdis hS (by omega) (by omega) hl
    by_cases c8 : op = (8 : Int32)
    · refine lv_tableIn (off := 334) (tgt := 366) hx hb dL_law_32 (by rw [c8]; decide) (by rw [c8]; decide) (by rw [c8]; rfl) (by decide) ?_
      refine lv_aload_n hx hb dL_law_366 rfl (lv_at hl 1 rfl) ?_
      refine lawx (s := s.setDrawn d0) (As := []) (rest := []) (ci := 6) (cg_X5_clear l D ct a0 ax  h _ (s_clear j (by omega) ax h M  hrel)) B hK hN hZ hA hW hP hdis hS ho rfl k_X5_clear q_22_2 rfl ⟨Nat.le_of_ble_eq_true rfl, Nat.le_of_ble_eq_true rfl⟩ ⟨by show _ ≤ 600000; omega, by show _ ≤ 7302250; omega⟩ hl.1 rfl (Nat.le_of_ble_eq_true rfl) dL_law_367 (fun r h1 H1 locs1 hq hW hP hdis hS => ?_)
      obtain ⟨q, eq, er, hrel1⟩ := hq
      refine lv_aload_n hx hb dL_law_370 rfl (lv_at hl 2 rfl) ?_
      refine lawm (s := s.setDrawn d0) (As := []) (rest := [.int r]) (c_X6_clear l D o (ct 0) (ct 1)  M.1 M.2.1 M.2.2.1 M.2.2.2.1 M.2.2.2.2.1 M.2.2.2.2.2.1 M.2.2.2.2.2.2.1 M.2.2.2.2.2.2.2.1 M.2.2.2.2.2.2.2.2.1 M.2.2.2.2.2.2.2.2.2.1 M.2.2.2.2.2.2.2.2.2.2.1 M.2.2.2.2.2.2.2.2.2.2.2.1 M.2.2.2.2.2.2.2.2.2.2.2.2.1 M.2.2.2.2.2.2.2.2.2.2.2.2.2.1 M.2.2.2.2.2.2.2.2.2.2.2.2.2.2.1 M.2.2.2.2.2.2.2.2.2.2.2.2.2.2.2.1 M.2.2.2.2.2.2.2.2.2.2.2.2.2.2.2.2.1 M.2.2.2.2.2.2.2.2.2.2.2.2.2.2.2.2.2.1 M.2.2.2.2.2.2.2.2.2.2.2.2.2.2.2.2.2.2.1 M.2.2.2.2.2.2.2.2.2.2.2.2.2.2.2.2.2.2.2.1 M.2.2.2.2.2.2.2.2.2.2.2.2.2.2.2.2.2.2.2.2.1 M.2.2.2.2.2.2.2.2.2.2.2.2.2.2.2.2.2.2.2.2.2 q eq) B hK hDD hA hW hP hdis hS rfl rfl (va_recv (s := s) hK hP (ci := 7) (q0 := 0) rfl rfl) k_X6_clear q_22_6 rfl ⟨Nat.le_of_ble_eq_true rfl, Nat.le_of_ble_eq_true rfl⟩ ⟨by show _ ≤ 600000; omega, by show _ ≤ 7302250; omega⟩ hl.1 rfl (Nat.le_of_ble_eq_true rfl) dL_law_371 (fun H1 locs1 hW hP hdis hS => ?_)
      refine lv_icmp_eq (tgt := 866) hx hb dL_law_374 (by decide) (fun _ => ?_) (fun cq => absurd er.symm cq)
      exact hend h1 _ d0 H1 locs1 ls _ _ hd0 hrel1 hW hP hdis hS (by omega) (by omega) hl
    by_cases c9 : op = (9 : Int32)
    · refine lv_tableIn (off := 347) (tgt := 379) hx hb dL_law_32 (by rw [c9]; decide) (by rw [c9]; decide) (by rw [c9]; rfl) (by decide) ?_
      refine lv_aload_n hx hb dL_law_379 rfl (lv_at hl 1 rfl) ?_
      refine lawx (s := s.setDrawn d0) (As := []) (rest := []) (ci := 6) (cg_X5_fault l D ct a0 ax  h _ (s_fault j (by omega) ax h M  hrel)) B hK hN hZ hA hW hP hdis hS ho rfl k_X5_fault q_22_10 rfl ⟨Nat.le_of_ble_eq_true rfl, Nat.le_of_ble_eq_true rfl⟩ ⟨by show _ ≤ 600000; omega, by show _ ≤ 7302250; omega⟩ hl.1 rfl (Nat.le_of_ble_eq_true rfl) dL_law_380 (fun r h1 H1 locs1 hq hW hP hdis hS => ?_)
      obtain ⟨q, eq, er, hrel1⟩ := hq
      refine lv_aload_n hx hb dL_law_383 rfl (lv_at hl 2 rfl) ?_
      refine lawm (s := s.setDrawn d0) (As := []) (rest := [.int r]) (c_X6_fault l D o (ct 0) (ct 1)  M.1 M.2.1 M.2.2.1 M.2.2.2.1 M.2.2.2.2.1 M.2.2.2.2.2.1 M.2.2.2.2.2.2.1 M.2.2.2.2.2.2.2.1 M.2.2.2.2.2.2.2.2.1 M.2.2.2.2.2.2.2.2.2.1 M.2.2.2.2.2.2.2.2.2.2.1 M.2.2.2.2.2.2.2.2.2.2.2.1 M.2.2.2.2.2.2.2.2.2.2.2.2.1 M.2.2.2.2.2.2.2.2.2.2.2.2.2.1 M.2.2.2.2.2.2.2.2.2.2.2.2.2.2.1 M.2.2.2.2.2.2.2.2.2.2.2.2.2.2.2.1 M.2.2.2.2.2.2.2.2.2.2.2.2.2.2.2.2.1 M.2.2.2.2.2.2.2.2.2.2.2.2.2.2.2.2.2.1 M.2.2.2.2.2.2.2.2.2.2.2.2.2.2.2.2.2.2.1 M.2.2.2.2.2.2.2.2.2.2.2.2.2.2.2.2.2.2.2.1 M.2.2.2.2.2.2.2.2.2.2.2.2.2.2.2.2.2.2.2.2.1 M.2.2.2.2.2.2.2.2.2.2.2.2.2.2.2.2.2.2.2.2.2 q eq) B hK hDD hA hW hP hdis hS rfl rfl (va_recv (s := s) hK hP (ci := 7) (q0 := 0) rfl rfl) k_X6_fault q_24_13 rfl ⟨Nat.le_of_ble_eq_true rfl, Nat.le_of_ble_eq_true rfl⟩ ⟨by show _ ≤ 600000; omega, by show _ ≤ 7302250; omega⟩ hl.1 rfl (Nat.le_of_ble_eq_true rfl) dL_law_384 (fun H1 locs1 hW hP hdis hS => ?_)
      refine lv_icmp_eq (tgt := 866) hx hb dL_law_387 (by decide) (fun _ => ?_) (fun cq => absurd er.symm cq)
      exact hend h1 _ d0 H1 locs1 ls _ _ hd0 hrel1 hW hP hdis hS (by omega) (by omega) hl
    by_cases c10 : op = (10 : Int32)
    · refine lv_tableIn (off := 360) (tgt := 392) hx hb dL_law_32 (by rw [c10]; decide) (by rw [c10]; decide) (by rw [c10]; rfl) (by decide) ?_
      refine lv_aload_n hx hb dL_law_392 rfl (lv_at hl 1 rfl) ?_
      refine lawx (s := s.setDrawn d0) (As := []) (rest := []) (ci := 6) (cg_X5_carryOut l D ct a0 ax  h _ (s_carryOut j (by omega) ax h M  hrel)) B hK hN hZ hA hW hP hdis hS ho rfl k_X5_carryOut q_25_19 rfl ⟨Nat.le_of_ble_eq_true rfl, Nat.le_of_ble_eq_true rfl⟩ ⟨by show _ ≤ 600000; omega, by show _ ≤ 7302250; omega⟩ hl.1 rfl (Nat.le_of_ble_eq_true rfl) dL_law_393 (fun r h1 H1 locs1 hq hW hP hdis hS => ?_)
      obtain ⟨q, eq, er, hrel1⟩ := hq
      refine lv_aload_n hx hb dL_law_396 rfl (lv_at hl 2 rfl) ?_
      refine lawm (s := s.setDrawn d0) (As := []) (rest := [.int r]) (c_X6_carryOut l D o (ct 0) (ct 1)  M.1 M.2.1 M.2.2.1 M.2.2.2.1 M.2.2.2.2.1 M.2.2.2.2.2.1 M.2.2.2.2.2.2.1 M.2.2.2.2.2.2.2.1 M.2.2.2.2.2.2.2.2.1 M.2.2.2.2.2.2.2.2.2.1 M.2.2.2.2.2.2.2.2.2.2.1 M.2.2.2.2.2.2.2.2.2.2.2.1 M.2.2.2.2.2.2.2.2.2.2.2.2.1 M.2.2.2.2.2.2.2.2.2.2.2.2.2.1 M.2.2.2.2.2.2.2.2.2.2.2.2.2.2.1 M.2.2.2.2.2.2.2.2.2.2.2.2.2.2.2.1 M.2.2.2.2.2.2.2.2.2.2.2.2.2.2.2.2.1 M.2.2.2.2.2.2.2.2.2.2.2.2.2.2.2.2.2.1 M.2.2.2.2.2.2.2.2.2.2.2.2.2.2.2.2.2.2.1 M.2.2.2.2.2.2.2.2.2.2.2.2.2.2.2.2.2.2.2.1 M.2.2.2.2.2.2.2.2.2.2.2.2.2.2.2.2.2.2.2.2.1 M.2.2.2.2.2.2.2.2.2.2.2.2.2.2.2.2.2.2.2.2.2 q eq) B hK hDD hA hW hP hdis hS rfl rfl (va_recv (s := s) hK hP (ci := 7) (q0 := 0) rfl rfl) k_X6_carryOut q_26_10 rfl ⟨Nat.le_of_ble_eq_true rfl, Nat.le_of_ble_eq_true rfl⟩ ⟨by show _ ≤ 600000; omega, by show _ ≤ 7302250; omega⟩ hl.1 rfl (Nat.le_of_ble_eq_true rfl) dL_law_397 (fun H1 locs1 hW hP hdis hS => ?_)
      refine lv_icmp_eq (tgt := 866) hx hb dL_law_400 (by decide) (fun _ => ?_) (fun cq => absurd er.symm cq)
      exact hend h1 _ d0 H1 locs1 ls _ _ hd0 hrel1 hW hP hdis hS (by omega) (by omega) hl
    by_cases c11 : op = (11 : Int32)
    · refine lv_tableIn (off := 373) (tgt := 405) hx hb dL_law_32 (by rw [c11]; decide) (by rw [c11]; decide) (by rw [c11]; rfl) (by decide) ?_
      refine lv_aload_n hx hb dL_law_405 rfl (lv_at hl 1 rfl) ?_
      refine lv_aload_n hx hb dL_law_406 rfl (lv_at hl 0 rfl) ?_
      refine lv_iload_n hx hb dL_law_407 rfl (lv_at hl 3 rfl) ?_
      refine lv_iconst (v := (1 : Int32)) hx hb dL_law_408 (by decide) ?_
      refine lv_iadd hx hb dL_law_409 ?_
      refine va_sld (s := s.setDrawn d0) hx hb hX hbl hbA hS i1 dL_law_410 ?_
      refine lawx (s := s.setDrawn d0) (As := [.int (xs (x3 + (1 : Int32)).toNatClampNeg)]) (rest := []) (ci := 6) (cg_X5_why l D ct a0 ax (xs (x3 + (1 : Int32)).toNatClampNeg) h _ (s_why j (by omega) ax h M (xs (x3 + (1 : Int32)).toNatClampNeg) hrel)) B hK hN hZ hA hW hP hdis hS ho rfl k_X5_why q_27_3 rfl ⟨Nat.le_of_ble_eq_true rfl, Nat.le_of_ble_eq_true rfl⟩ ⟨by show _ ≤ 600000; omega, by show _ ≤ 7302250; omega⟩ hl.1 rfl (Nat.le_of_ble_eq_true rfl) dL_law_411 (fun r h1 H1 locs1 hq hW hP hdis hS => ?_)
      obtain ⟨q, eq, er, hrel1⟩ := hq
      refine lv_aload_n hx hb dL_law_414 rfl (lv_at hl 2 rfl) ?_
      refine lv_aload_n hx hb dL_law_415 rfl (lv_at hl 0 rfl) ?_
      refine lv_iload_n hx hb dL_law_416 rfl (lv_at hl 3 rfl) ?_
      refine lv_iconst (v := (1 : Int32)) hx hb dL_law_417 (by decide) ?_
      refine lv_iadd hx hb dL_law_418 ?_
      refine va_sld (s := s.setDrawn d0) hx hb hX hbl hbA hS i1 dL_law_419 ?_
      refine lawm (s := s.setDrawn d0) (As := [.int (xs (x3 + (1 : Int32)).toNatClampNeg)]) (rest := [.int r]) (c_X6_why l D o (ct 0) (ct 1) (xs (x3 + (1 : Int32)).toNatClampNeg) M.1 M.2.1 M.2.2.1 M.2.2.2.1 M.2.2.2.2.1 M.2.2.2.2.2.1 M.2.2.2.2.2.2.1 M.2.2.2.2.2.2.2.1 M.2.2.2.2.2.2.2.2.1 M.2.2.2.2.2.2.2.2.2.1 M.2.2.2.2.2.2.2.2.2.2.1 M.2.2.2.2.2.2.2.2.2.2.2.1 M.2.2.2.2.2.2.2.2.2.2.2.2.1 M.2.2.2.2.2.2.2.2.2.2.2.2.2.1 M.2.2.2.2.2.2.2.2.2.2.2.2.2.2.1 M.2.2.2.2.2.2.2.2.2.2.2.2.2.2.2.1 M.2.2.2.2.2.2.2.2.2.2.2.2.2.2.2.2.1 M.2.2.2.2.2.2.2.2.2.2.2.2.2.2.2.2.2.1 M.2.2.2.2.2.2.2.2.2.2.2.2.2.2.2.2.2.2.1 M.2.2.2.2.2.2.2.2.2.2.2.2.2.2.2.2.2.2.2.1 M.2.2.2.2.2.2.2.2.2.2.2.2.2.2.2.2.2.2.2.2.1 M.2.2.2.2.2.2.2.2.2.2.2.2.2.2.2.2.2.2.2.2.2 q eq) B hK hDD hA hW hP hdis hS rfl rfl (va_recv (s := s) hK hP (ci := 7) (q0 := 0) rfl rfl) k_X6_why q_27_7 rfl ⟨Nat.le_of_ble_eq_true rfl, Nat.le_of_ble_eq_true rfl⟩ ⟨by show _ ≤ 600000; omega, by show _ ≤ 7302250; omega⟩ hl.1 rfl (Nat.le_of_ble_eq_true rfl) dL_law_420 (fun H1 locs1 hW hP hdis hS => ?_)
      refine lv_icmp_eq (tgt := 866) hx hb dL_law_423 (by decide) (fun _ => ?_) (fun cq => absurd er.symm cq)
      exact hend h1 _ d0 H1 locs1 ls _ _ hd0 hrel1 hW hP hdis hS (by omega) (by omega) hl
    by_cases c12 : op = (12 : Int32)
    · refine lv_tableIn (off := 396) (tgt := 428) hx hb dL_law_32 (by rw [c12]; decide) (by rw [c12]; decide) (by rw [c12]; rfl) (by decide) ?_
      refine lv_aload_n hx hb dL_law_428 rfl (lv_at hl 1 rfl) ?_
      refine lv_aload_n hx hb dL_law_429 rfl (lv_at hl 0 rfl) ?_
      refine lv_iload_n hx hb dL_law_430 rfl (lv_at hl 3 rfl) ?_
      refine lv_iconst (v := (1 : Int32)) hx hb dL_law_431 (by decide) ?_
      refine lv_iadd hx hb dL_law_432 ?_
      refine va_sld (s := s.setDrawn d0) hx hb hX hbl hbA hS i1 dL_law_433 ?_
      refine lv_aload_n hx hb dL_law_434 rfl (lv_at hl 0 rfl) ?_
      refine lv_iload_n hx hb dL_law_435 rfl (lv_at hl 3 rfl) ?_
      refine lv_iconst (v := (2 : Int32)) hx hb dL_law_436 (by decide) ?_
      refine lv_iadd hx hb dL_law_437 ?_
      refine va_sld (s := s.setDrawn d0) hx hb hX hbl hbA hS i2 dL_law_438 ?_
      refine lawx (s := s.setDrawn d0) (As := [.int (xs (x3 + (1 : Int32)).toNatClampNeg), .int (xs (x3 + (2 : Int32)).toNatClampNeg)]) (rest := []) (ci := 6) (cg_X5_table l D ct a0 ax (xs (x3 + (1 : Int32)).toNatClampNeg) (xs (x3 + (2 : Int32)).toNatClampNeg) h _ (s_table j (by omega) ax h M (xs (x3 + (1 : Int32)).toNatClampNeg) (xs (x3 + (2 : Int32)).toNatClampNeg) hrel)) B hK hN hZ hA hW hP hdis hS ho rfl k_X5_table q_27_11 rfl ⟨Nat.le_of_ble_eq_true rfl, Nat.le_of_ble_eq_true rfl⟩ ⟨by show _ ≤ 600000; omega, by show _ ≤ 7302250; omega⟩ hl.1 rfl (Nat.le_of_ble_eq_true rfl) dL_law_439 (fun r h1 H1 locs1 hq hW hP hdis hS => ?_)
      obtain ⟨q, eq, er, hrel1⟩ := hq
      refine lv_aload_n hx hb dL_law_442 rfl (lv_at hl 2 rfl) ?_
      refine lv_aload_n hx hb dL_law_443 rfl (lv_at hl 0 rfl) ?_
      refine lv_iload_n hx hb dL_law_444 rfl (lv_at hl 3 rfl) ?_
      refine lv_iconst (v := (1 : Int32)) hx hb dL_law_445 (by decide) ?_
      refine lv_iadd hx hb dL_law_446 ?_
      refine va_sld (s := s.setDrawn d0) hx hb hX hbl hbA hS i1 dL_law_447 ?_
      refine lv_aload_n hx hb dL_law_448 rfl (lv_at hl 0 rfl) ?_
      refine lv_iload_n hx hb dL_law_449 rfl (lv_at hl 3 rfl) ?_
      refine lv_iconst (v := (2 : Int32)) hx hb dL_law_450 (by decide) ?_
      refine lv_iadd hx hb dL_law_451 ?_
      refine va_sld (s := s.setDrawn d0) hx hb hX hbl hbA hS i2 dL_law_452 ?_
      refine lawm (s := s.setDrawn d0) (As := [.int (xs (x3 + (1 : Int32)).toNatClampNeg), .int (xs (x3 + (2 : Int32)).toNatClampNeg)]) (rest := [.int r]) (c_X6_table l D o (ct 0) (ct 1) (xs (x3 + (1 : Int32)).toNatClampNeg) (xs (x3 + (2 : Int32)).toNatClampNeg) M.1 M.2.1 M.2.2.1 M.2.2.2.1 M.2.2.2.2.1 M.2.2.2.2.2.1 M.2.2.2.2.2.2.1 M.2.2.2.2.2.2.2.1 M.2.2.2.2.2.2.2.2.1 M.2.2.2.2.2.2.2.2.2.1 M.2.2.2.2.2.2.2.2.2.2.1 M.2.2.2.2.2.2.2.2.2.2.2.1 M.2.2.2.2.2.2.2.2.2.2.2.2.1 M.2.2.2.2.2.2.2.2.2.2.2.2.2.1 M.2.2.2.2.2.2.2.2.2.2.2.2.2.2.1 M.2.2.2.2.2.2.2.2.2.2.2.2.2.2.2.1 M.2.2.2.2.2.2.2.2.2.2.2.2.2.2.2.2.1 M.2.2.2.2.2.2.2.2.2.2.2.2.2.2.2.2.2.1 M.2.2.2.2.2.2.2.2.2.2.2.2.2.2.2.2.2.2.1 M.2.2.2.2.2.2.2.2.2.2.2.2.2.2.2.2.2.2.2.1 M.2.2.2.2.2.2.2.2.2.2.2.2.2.2.2.2.2.2.2.2.1 M.2.2.2.2.2.2.2.2.2.2.2.2.2.2.2.2.2.2.2.2.2 q eq) B hK hDD hA hW hP hdis hS rfl rfl (va_recv (s := s) hK hP (ci := 7) (q0 := 0) rfl rfl) k_X6_table q_28_0 rfl ⟨Nat.le_of_ble_eq_true rfl, Nat.le_of_ble_eq_true rfl⟩ ⟨by show _ ≤ 600000; omega, by show _ ≤ 7302250; omega⟩ hl.1 rfl (Nat.le_of_ble_eq_true rfl) dL_law_453 (fun H1 locs1 hW hP hdis hS => ?_)
      refine lv_icmp_eq (tgt := 866) hx hb dL_law_456 (by decide) (fun _ => ?_) (fun cq => absurd er.symm cq)
      exact hend h1 _ d0 H1 locs1 ls _ _ hd0 hrel1 hW hP hdis hS (by omega) (by omega) hl
    by_cases c13 : op = (13 : Int32)
    · refine lv_tableIn (off := 429) (tgt := 461) hx hb dL_law_32 (by rw [c13]; decide) (by rw [c13]; decide) (by rw [c13]; rfl) (by decide) ?_
      refine lv_aload_n hx hb dL_law_461 rfl (lv_at hl 1 rfl) ?_
      refine lv_aload_n hx hb dL_law_462 rfl (lv_at hl 0 rfl) ?_
      refine lv_iload_n hx hb dL_law_463 rfl (lv_at hl 3 rfl) ?_
      refine lv_iconst (v := (1 : Int32)) hx hb dL_law_464 (by decide) ?_
      refine lv_iadd hx hb dL_law_465 ?_
      refine va_sld (s := s.setDrawn d0) hx hb hX hbl hbA hS i1 dL_law_466 ?_
      refine lv_aload_n hx hb dL_law_467 rfl (lv_at hl 0 rfl) ?_
      refine lv_iload_n hx hb dL_law_468 rfl (lv_at hl 3 rfl) ?_
      refine lv_iconst (v := (2 : Int32)) hx hb dL_law_469 (by decide) ?_
      refine lv_iadd hx hb dL_law_470 ?_
      refine va_sld (s := s.setDrawn d0) hx hb hX hbl hbA hS i2 dL_law_471 ?_
      refine lawx (s := s.setDrawn d0) (As := [.int (xs (x3 + (1 : Int32)).toNatClampNeg), .int (xs (x3 + (2 : Int32)).toNatClampNeg)]) (rest := []) (ci := 6) (cg_X5_partOf l D ct a0 ax (xs (x3 + (1 : Int32)).toNatClampNeg) (xs (x3 + (2 : Int32)).toNatClampNeg) h _ (s_partOf j (by omega) ax h M (xs (x3 + (1 : Int32)).toNatClampNeg) (xs (x3 + (2 : Int32)).toNatClampNeg) hrel)) B hK hN hZ hA hW hP hdis hS ho rfl k_X5_partOf q_28_8 rfl ⟨Nat.le_of_ble_eq_true rfl, Nat.le_of_ble_eq_true rfl⟩ ⟨by show _ ≤ 600000; omega, by show _ ≤ 7302250; omega⟩ hl.1 rfl (Nat.le_of_ble_eq_true rfl) dL_law_472 (fun r h1 H1 locs1 hq hW hP hdis hS => ?_)
      obtain ⟨q, eq, er, hrel1⟩ := hq
      refine lv_aload_n hx hb dL_law_475 rfl (lv_at hl 2 rfl) ?_
      refine lv_aload_n hx hb dL_law_476 rfl (lv_at hl 0 rfl) ?_
      refine lv_iload_n hx hb dL_law_477 rfl (lv_at hl 3 rfl) ?_
      refine lv_iconst (v := (1 : Int32)) hx hb dL_law_478 (by decide) ?_
      refine lv_iadd hx hb dL_law_479 ?_
      refine va_sld (s := s.setDrawn d0) hx hb hX hbl hbA hS i1 dL_law_480 ?_
      refine lv_aload_n hx hb dL_law_481 rfl (lv_at hl 0 rfl) ?_
      refine lv_iload_n hx hb dL_law_482 rfl (lv_at hl 3 rfl) ?_
      refine lv_iconst (v := (2 : Int32)) hx hb dL_law_483 (by decide) ?_
      refine lv_iadd hx hb dL_law_484 ?_
      refine va_sld (s := s.setDrawn d0) hx hb hX hbl hbA hS i2 dL_law_485 ?_
      refine lawm (s := s.setDrawn d0) (As := [.int (xs (x3 + (1 : Int32)).toNatClampNeg), .int (xs (x3 + (2 : Int32)).toNatClampNeg)]) (rest := [.int r]) (c_X6_partOf l D o (ct 0) (ct 1) (xs (x3 + (1 : Int32)).toNatClampNeg) (xs (x3 + (2 : Int32)).toNatClampNeg) M.1 M.2.1 M.2.2.1 M.2.2.2.1 M.2.2.2.2.1 M.2.2.2.2.2.1 M.2.2.2.2.2.2.1 M.2.2.2.2.2.2.2.1 M.2.2.2.2.2.2.2.2.1 M.2.2.2.2.2.2.2.2.2.1 M.2.2.2.2.2.2.2.2.2.2.1 M.2.2.2.2.2.2.2.2.2.2.2.1 M.2.2.2.2.2.2.2.2.2.2.2.2.1 M.2.2.2.2.2.2.2.2.2.2.2.2.2.1 M.2.2.2.2.2.2.2.2.2.2.2.2.2.2.1 M.2.2.2.2.2.2.2.2.2.2.2.2.2.2.2.1 M.2.2.2.2.2.2.2.2.2.2.2.2.2.2.2.2.1 M.2.2.2.2.2.2.2.2.2.2.2.2.2.2.2.2.2.1 M.2.2.2.2.2.2.2.2.2.2.2.2.2.2.2.2.2.2.1 M.2.2.2.2.2.2.2.2.2.2.2.2.2.2.2.2.2.2.2.1 M.2.2.2.2.2.2.2.2.2.2.2.2.2.2.2.2.2.2.2.2.1 M.2.2.2.2.2.2.2.2.2.2.2.2.2.2.2.2.2.2.2.2.2 q eq) B hK hDD hA hW hP hdis hS rfl rfl (va_recv (s := s) hK hP (ci := 7) (q0 := 0) rfl rfl) k_X6_partOf q_28_12 rfl ⟨Nat.le_of_ble_eq_true rfl, Nat.le_of_ble_eq_true rfl⟩ ⟨by show _ ≤ 600000; omega, by show _ ≤ 7302250; omega⟩ hl.1 rfl (Nat.le_of_ble_eq_true rfl) dL_law_486 (fun H1 locs1 hW hP hdis hS => ?_)
      refine lv_icmp_eq (tgt := 866) hx hb dL_law_489 (by decide) (fun _ => ?_) (fun cq => absurd er.symm cq)
      exact hend h1 _ d0 H1 locs1 ls _ _ hd0 hrel1 hW hP hdis hS (by omega) (by omega) hl
    by_cases c14 : op = (14 : Int32)
    · refine lv_tableIn (off := 462) (tgt := 494) hx hb dL_law_32 (by rw [c14]; decide) (by rw [c14]; decide) (by rw [c14]; rfl) (by decide) ?_
      by_cases z : (xs (x3 + (2 : Int32)).toNatClampNeg) = 0
      · skip
        refine lv_aload_n hx hb dL_law_494 rfl (lv_at hl 1 rfl) ?_
        refine lv_aload_n hx hb dL_law_495 rfl (lv_at hl 0 rfl) ?_
        refine lv_iload_n hx hb dL_law_496 rfl (lv_at hl 3 rfl) ?_
        refine lv_iconst (v := (1 : Int32)) hx hb dL_law_497 (by decide) ?_
        refine lv_iadd hx hb dL_law_498 ?_
        refine va_sld (s := s.setDrawn d0) hx hb hX hbl hbA hS i1 dL_law_499 ?_
        refine lv_aload_n hx hb dL_law_500 rfl (lv_at hl 0 rfl) ?_
        refine lv_iload_n hx hb dL_law_501 rfl (lv_at hl 3 rfl) ?_
        refine lv_iconst (v := (2 : Int32)) hx hb dL_law_502 (by decide) ?_
        refine lv_iadd hx hb dL_law_503 ?_
        refine va_sld (s := s.setDrawn d0) hx hb hX hbl hbA hS i2 dL_law_504 ?_
        refine lv_if_eq (tgt := 512) hx hb dL_law_505 (by decide) (fun _ => ?_) (fun cz => absurd z cz)
        refine lv_iconst (v := (0 : Int32)) hx hb dL_law_512 (by decide) ?_
        refine lawx (s := s.setDrawn d0) (As := [.int (xs (x3 + (1 : Int32)).toNatClampNeg), .int (0 : Int32)]) (rest := []) (ci := 6) (cg_X5_size l D ct a0 ax (xs (x3 + (1 : Int32)).toNatClampNeg) (0 : Int32) h _ (s_size j (by omega) ax h M (xs (x3 + (1 : Int32)).toNatClampNeg) (0 : Int32) hrel)) B hK hN hZ hA hW hP hdis hS ho rfl k_X5_size q_28_16 rfl ⟨Nat.le_of_ble_eq_true rfl, Nat.le_of_ble_eq_true rfl⟩ ⟨by show _ ≤ 600000; omega, by show _ ≤ 7302250; omega⟩ hl.1 rfl (Nat.le_of_ble_eq_true rfl) dL_law_513 (fun r h1 H1 locs1 hq hW hP hdis hS => ?_)
        obtain ⟨q, eq, er, hrel1⟩ := hq
        refine lv_aload_n hx hb dL_law_516 rfl (lv_at hl 2 rfl) ?_
        refine lv_aload_n hx hb dL_law_517 rfl (lv_at hl 0 rfl) ?_
        refine lv_iload_n hx hb dL_law_518 rfl (lv_at hl 3 rfl) ?_
        refine lv_iconst (v := (1 : Int32)) hx hb dL_law_519 (by decide) ?_
        refine lv_iadd hx hb dL_law_520 ?_
        refine va_sld (s := s.setDrawn d0) hx hb hX hbl hbA hS i1 dL_law_521 ?_
        refine lv_aload_n hx hb dL_law_522 rfl (lv_at hl 0 rfl) ?_
        refine lv_iload_n hx hb dL_law_523 rfl (lv_at hl 3 rfl) ?_
        refine lv_iconst (v := (2 : Int32)) hx hb dL_law_524 (by decide) ?_
        refine lv_iadd hx hb dL_law_525 ?_
        refine va_sld (s := s.setDrawn d0) hx hb hX hbl hbA hS i2 dL_law_526 ?_
        refine lv_if_eq (tgt := 534) hx hb dL_law_527 (by decide) (fun _ => ?_) (fun cz => absurd z cz)
        refine lv_iconst (v := (0 : Int32)) hx hb dL_law_534 (by decide) ?_
        refine lawm (s := s.setDrawn d0) (As := [.int (xs (x3 + (1 : Int32)).toNatClampNeg), .int (0 : Int32)]) (rest := [.int r]) (c_X6_size l D o (ct 0) (ct 1) (xs (x3 + (1 : Int32)).toNatClampNeg) (0 : Int32) M.1 M.2.1 M.2.2.1 M.2.2.2.1 M.2.2.2.2.1 M.2.2.2.2.2.1 M.2.2.2.2.2.2.1 M.2.2.2.2.2.2.2.1 M.2.2.2.2.2.2.2.2.1 M.2.2.2.2.2.2.2.2.2.1 M.2.2.2.2.2.2.2.2.2.2.1 M.2.2.2.2.2.2.2.2.2.2.2.1 M.2.2.2.2.2.2.2.2.2.2.2.2.1 M.2.2.2.2.2.2.2.2.2.2.2.2.2.1 M.2.2.2.2.2.2.2.2.2.2.2.2.2.2.1 M.2.2.2.2.2.2.2.2.2.2.2.2.2.2.2.1 M.2.2.2.2.2.2.2.2.2.2.2.2.2.2.2.2.1 M.2.2.2.2.2.2.2.2.2.2.2.2.2.2.2.2.2.1 M.2.2.2.2.2.2.2.2.2.2.2.2.2.2.2.2.2.2.1 M.2.2.2.2.2.2.2.2.2.2.2.2.2.2.2.2.2.2.2.1 M.2.2.2.2.2.2.2.2.2.2.2.2.2.2.2.2.2.2.2.2.1 M.2.2.2.2.2.2.2.2.2.2.2.2.2.2.2.2.2.2.2.2.2 q eq) B hK hDD hA hW hP hdis hS rfl rfl (va_recv (s := s) hK hP (ci := 7) (q0 := 0) rfl rfl) k_X6_size q_28_21 rfl ⟨Nat.le_of_ble_eq_true rfl, Nat.le_of_ble_eq_true rfl⟩ ⟨by show _ ≤ 600000; omega, by show _ ≤ 7302250; omega⟩ hl.1 rfl (Nat.le_of_ble_eq_true rfl) dL_law_535 (fun H1 locs1 hW hP hdis hS => ?_)
        refine lv_icmp_eq (tgt := 866) hx hb dL_law_538 (by decide) (fun _ => ?_) (fun cq => absurd er.symm cq)
        exact hend h1 _ d0 H1 locs1 ls _ _ hd0 hrel1 hW hP hdis hS (by omega) (by omega) hl
      · skip
        refine lv_aload_n hx hb dL_law_494 rfl (lv_at hl 1 rfl) ?_
        refine lv_aload_n hx hb dL_law_495 rfl (lv_at hl 0 rfl) ?_
        refine lv_iload_n hx hb dL_law_496 rfl (lv_at hl 3 rfl) ?_
        refine lv_iconst (v := (1 : Int32)) hx hb dL_law_497 (by decide) ?_
        refine lv_iadd hx hb dL_law_498 ?_
        refine va_sld (s := s.setDrawn d0) hx hb hX hbl hbA hS i1 dL_law_499 ?_
        refine lv_aload_n hx hb dL_law_500 rfl (lv_at hl 0 rfl) ?_
        refine lv_iload_n hx hb dL_law_501 rfl (lv_at hl 3 rfl) ?_
        refine lv_iconst (v := (2 : Int32)) hx hb dL_law_502 (by decide) ?_
        refine lv_iadd hx hb dL_law_503 ?_
        refine va_sld (s := s.setDrawn d0) hx hb hX hbl hbA hS i2 dL_law_504 ?_
        refine lv_if_eq (tgt := 512) hx hb dL_law_505 (by decide) (fun cz => absurd cz z) (fun _ => ?_)
        refine lv_iconst (v := (1 : Int32)) hx hb dL_law_508 (by decide) ?_
        refine lv_goto (tgt := 513) hx hb dL_law_509 (by decide) ?_
        refine lawx (s := s.setDrawn d0) (As := [.int (xs (x3 + (1 : Int32)).toNatClampNeg), .int (1 : Int32)]) (rest := []) (ci := 6) (cg_X5_size l D ct a0 ax (xs (x3 + (1 : Int32)).toNatClampNeg) (1 : Int32) h _ (s_size j (by omega) ax h M (xs (x3 + (1 : Int32)).toNatClampNeg) (1 : Int32) hrel)) B hK hN hZ hA hW hP hdis hS ho rfl k_X5_size q_28_16 rfl ⟨Nat.le_of_ble_eq_true rfl, Nat.le_of_ble_eq_true rfl⟩ ⟨by show _ ≤ 600000; omega, by show _ ≤ 7302250; omega⟩ hl.1 rfl (Nat.le_of_ble_eq_true rfl) dL_law_513 (fun r h1 H1 locs1 hq hW hP hdis hS => ?_)
        obtain ⟨q, eq, er, hrel1⟩ := hq
        refine lv_aload_n hx hb dL_law_516 rfl (lv_at hl 2 rfl) ?_
        refine lv_aload_n hx hb dL_law_517 rfl (lv_at hl 0 rfl) ?_
        refine lv_iload_n hx hb dL_law_518 rfl (lv_at hl 3 rfl) ?_
        refine lv_iconst (v := (1 : Int32)) hx hb dL_law_519 (by decide) ?_
        refine lv_iadd hx hb dL_law_520 ?_
        refine va_sld (s := s.setDrawn d0) hx hb hX hbl hbA hS i1 dL_law_521 ?_
        refine lv_aload_n hx hb dL_law_522 rfl (lv_at hl 0 rfl) ?_
        refine lv_iload_n hx hb dL_law_523 rfl (lv_at hl 3 rfl) ?_
        refine lv_iconst (v := (2 : Int32)) hx hb dL_law_524 (by decide) ?_
        refine lv_iadd hx hb dL_law_525 ?_
        refine va_sld (s := s.setDrawn d0) hx hb hX hbl hbA hS i2 dL_law_526 ?_
        refine lv_if_eq (tgt := 534) hx hb dL_law_527 (by decide) (fun cz => absurd cz z) (fun _ => ?_)
        refine lv_iconst (v := (1 : Int32)) hx hb dL_law_530 (by decide) ?_
        refine lv_goto (tgt := 535) hx hb dL_law_531 (by decide) ?_
        refine lawm (s := s.setDrawn d0) (As := [.int (xs (x3 + (1 : Int32)).toNatClampNeg), .int (1 : Int32)]) (rest := [.int r]) (c_X6_size l D o (ct 0) (ct 1) (xs (x3 + (1 : Int32)).toNatClampNeg) (1 : Int32) M.1 M.2.1 M.2.2.1 M.2.2.2.1 M.2.2.2.2.1 M.2.2.2.2.2.1 M.2.2.2.2.2.2.1 M.2.2.2.2.2.2.2.1 M.2.2.2.2.2.2.2.2.1 M.2.2.2.2.2.2.2.2.2.1 M.2.2.2.2.2.2.2.2.2.2.1 M.2.2.2.2.2.2.2.2.2.2.2.1 M.2.2.2.2.2.2.2.2.2.2.2.2.1 M.2.2.2.2.2.2.2.2.2.2.2.2.2.1 M.2.2.2.2.2.2.2.2.2.2.2.2.2.2.1 M.2.2.2.2.2.2.2.2.2.2.2.2.2.2.2.1 M.2.2.2.2.2.2.2.2.2.2.2.2.2.2.2.2.1 M.2.2.2.2.2.2.2.2.2.2.2.2.2.2.2.2.2.1 M.2.2.2.2.2.2.2.2.2.2.2.2.2.2.2.2.2.2.1 M.2.2.2.2.2.2.2.2.2.2.2.2.2.2.2.2.2.2.2.1 M.2.2.2.2.2.2.2.2.2.2.2.2.2.2.2.2.2.2.2.2.1 M.2.2.2.2.2.2.2.2.2.2.2.2.2.2.2.2.2.2.2.2.2 q eq) B hK hDD hA hW hP hdis hS rfl rfl (va_recv (s := s) hK hP (ci := 7) (q0 := 0) rfl rfl) k_X6_size q_28_21 rfl ⟨Nat.le_of_ble_eq_true rfl, Nat.le_of_ble_eq_true rfl⟩ ⟨by show _ ≤ 600000; omega, by show _ ≤ 7302250; omega⟩ hl.1 rfl (Nat.le_of_ble_eq_true rfl) dL_law_535 (fun H1 locs1 hW hP hdis hS => ?_)
        refine lv_icmp_eq (tgt := 866) hx hb dL_law_538 (by decide) (fun _ => ?_) (fun cq => absurd er.symm cq)
        exact hend h1 _ d0 H1 locs1 ls _ _ hd0 hrel1 hW hP hdis hS (by omega) (by omega) hl
    by_cases c15 : op = (15 : Int32)
    · refine lv_tableIn (off := 511) (tgt := 543) hx hb dL_law_32 (by rw [c15]; decide) (by rw [c15]; decide) (by rw [c15]; rfl) (by decide) ?_
      by_cases z : (xs (x3 + (2 : Int32)).toNatClampNeg) = 0
      · skip
        refine lv_aload_n hx hb dL_law_543 rfl (lv_at hl 1 rfl) ?_
        refine lv_aload_n hx hb dL_law_544 rfl (lv_at hl 0 rfl) ?_
        refine lv_iload_n hx hb dL_law_545 rfl (lv_at hl 3 rfl) ?_
        refine lv_iconst (v := (1 : Int32)) hx hb dL_law_546 (by decide) ?_
        refine lv_iadd hx hb dL_law_547 ?_
        refine va_sld (s := s.setDrawn d0) hx hb hX hbl hbA hS i1 dL_law_548 ?_
        refine lv_aload_n hx hb dL_law_549 rfl (lv_at hl 0 rfl) ?_
        refine lv_iload_n hx hb dL_law_550 rfl (lv_at hl 3 rfl) ?_
        refine lv_iconst (v := (2 : Int32)) hx hb dL_law_551 (by decide) ?_
        refine lv_iadd hx hb dL_law_552 ?_
        refine va_sld (s := s.setDrawn d0) hx hb hX hbl hbA hS i2 dL_law_553 ?_
        refine lv_if_eq (tgt := 561) hx hb dL_law_554 (by decide) (fun _ => ?_) (fun cz => absurd z cz)
        refine lv_iconst (v := (0 : Int32)) hx hb dL_law_561 (by decide) ?_
        refine lv_aload_n hx hb dL_law_562 rfl (lv_at hl 0 rfl) ?_
        refine lv_iload_n hx hb dL_law_563 rfl (lv_at hl 3 rfl) ?_
        refine lv_iconst (v := (3 : Int32)) hx hb dL_law_564 (by decide) ?_
        refine lv_iadd hx hb dL_law_565 ?_
        refine va_sld (s := s.setDrawn d0) hx hb hX hbl hbA hS i3 dL_law_566 ?_
        refine lawx (s := s.setDrawn d0) (As := [.int (xs (x3 + (1 : Int32)).toNatClampNeg), .int (0 : Int32), .int (xs (x3 + (3 : Int32)).toNatClampNeg)]) (rest := []) (ci := 6) (cg_X5_least l D ct a0 ax (xs (x3 + (1 : Int32)).toNatClampNeg) (0 : Int32) (xs (x3 + (3 : Int32)).toNatClampNeg) h _ (s_least j (by omega) ax h M (xs (x3 + (1 : Int32)).toNatClampNeg) (0 : Int32) (xs (x3 + (3 : Int32)).toNatClampNeg) hrel)) B hK hN hZ hA hW hP hdis hS ho rfl k_X5_least q_29_4 rfl ⟨Nat.le_of_ble_eq_true rfl, Nat.le_of_ble_eq_true rfl⟩ ⟨by show _ ≤ 600000; omega, by show _ ≤ 7302250; omega⟩ hl.1 rfl (Nat.le_of_ble_eq_true rfl) dL_law_567 (fun r h1 H1 locs1 hq hW hP hdis hS => ?_)
        obtain ⟨q, eq, er, hrel1⟩ := hq
        refine lv_aload_n hx hb dL_law_570 rfl (lv_at hl 2 rfl) ?_
        refine lv_aload_n hx hb dL_law_571 rfl (lv_at hl 0 rfl) ?_
        refine lv_iload_n hx hb dL_law_572 rfl (lv_at hl 3 rfl) ?_
        refine lv_iconst (v := (1 : Int32)) hx hb dL_law_573 (by decide) ?_
        refine lv_iadd hx hb dL_law_574 ?_
        refine va_sld (s := s.setDrawn d0) hx hb hX hbl hbA hS i1 dL_law_575 ?_
        refine lv_aload_n hx hb dL_law_576 rfl (lv_at hl 0 rfl) ?_
        refine lv_iload_n hx hb dL_law_577 rfl (lv_at hl 3 rfl) ?_
        refine lv_iconst (v := (2 : Int32)) hx hb dL_law_578 (by decide) ?_
        refine lv_iadd hx hb dL_law_579 ?_
        refine va_sld (s := s.setDrawn d0) hx hb hX hbl hbA hS i2 dL_law_580 ?_
        refine lv_if_eq (tgt := 588) hx hb dL_law_581 (by decide) (fun _ => ?_) (fun cz => absurd z cz)
        refine lv_iconst (v := (0 : Int32)) hx hb dL_law_588 (by decide) ?_
        refine lv_aload_n hx hb dL_law_589 rfl (lv_at hl 0 rfl) ?_
        refine lv_iload_n hx hb dL_law_590 rfl (lv_at hl 3 rfl) ?_
        refine lv_iconst (v := (3 : Int32)) hx hb dL_law_591 (by decide) ?_
        refine lv_iadd hx hb dL_law_592 ?_
        refine va_sld (s := s.setDrawn d0) hx hb hX hbl hbA hS i3 dL_law_593 ?_
        refine lawm (s := s.setDrawn d0) (As := [.int (xs (x3 + (1 : Int32)).toNatClampNeg), .int (0 : Int32), .int (xs (x3 + (3 : Int32)).toNatClampNeg)]) (rest := [.int r]) (c_X6_least l D o (ct 0) (ct 1) (xs (x3 + (1 : Int32)).toNatClampNeg) (0 : Int32) (xs (x3 + (3 : Int32)).toNatClampNeg) M.1 M.2.1 M.2.2.1 M.2.2.2.1 M.2.2.2.2.1 M.2.2.2.2.2.1 M.2.2.2.2.2.2.1 M.2.2.2.2.2.2.2.1 M.2.2.2.2.2.2.2.2.1 M.2.2.2.2.2.2.2.2.2.1 M.2.2.2.2.2.2.2.2.2.2.1 M.2.2.2.2.2.2.2.2.2.2.2.1 M.2.2.2.2.2.2.2.2.2.2.2.2.1 M.2.2.2.2.2.2.2.2.2.2.2.2.2.1 M.2.2.2.2.2.2.2.2.2.2.2.2.2.2.1 M.2.2.2.2.2.2.2.2.2.2.2.2.2.2.2.1 M.2.2.2.2.2.2.2.2.2.2.2.2.2.2.2.2.1 M.2.2.2.2.2.2.2.2.2.2.2.2.2.2.2.2.2.1 M.2.2.2.2.2.2.2.2.2.2.2.2.2.2.2.2.2.2.1 M.2.2.2.2.2.2.2.2.2.2.2.2.2.2.2.2.2.2.2.1 M.2.2.2.2.2.2.2.2.2.2.2.2.2.2.2.2.2.2.2.2.1 M.2.2.2.2.2.2.2.2.2.2.2.2.2.2.2.2.2.2.2.2.2 q eq) B hK hDD hA hW hP hdis hS rfl rfl (va_recv (s := s) hK hP (ci := 7) (q0 := 0) rfl rfl) k_X6_least q_29_20 rfl ⟨Nat.le_of_ble_eq_true rfl, Nat.le_of_ble_eq_true rfl⟩ ⟨by show _ ≤ 600000; omega, by show _ ≤ 7302250; omega⟩ hl.1 rfl (Nat.le_of_ble_eq_true rfl) dL_law_594 (fun H1 locs1 hW hP hdis hS => ?_)
        refine lv_icmp_eq (tgt := 866) hx hb dL_law_597 (by decide) (fun _ => ?_) (fun cq => absurd er.symm cq)
        exact hend h1 _ d0 H1 locs1 ls _ _ hd0 hrel1 hW hP hdis hS (by omega) (by omega) hl
      · skip
        refine lv_aload_n hx hb dL_law_543 rfl (lv_at hl 1 rfl) ?_
        refine lv_aload_n hx hb dL_law_544 rfl (lv_at hl 0 rfl) ?_
        refine lv_iload_n hx hb dL_law_545 rfl (lv_at hl 3 rfl) ?_
        refine lv_iconst (v := (1 : Int32)) hx hb dL_law_546 (by decide) ?_
        refine lv_iadd hx hb dL_law_547 ?_
        refine va_sld (s := s.setDrawn d0) hx hb hX hbl hbA hS i1 dL_law_548 ?_
        refine lv_aload_n hx hb dL_law_549 rfl (lv_at hl 0 rfl) ?_
        refine lv_iload_n hx hb dL_law_550 rfl (lv_at hl 3 rfl) ?_
        refine lv_iconst (v := (2 : Int32)) hx hb dL_law_551 (by decide) ?_
        refine lv_iadd hx hb dL_law_552 ?_
        refine va_sld (s := s.setDrawn d0) hx hb hX hbl hbA hS i2 dL_law_553 ?_
        refine lv_if_eq (tgt := 561) hx hb dL_law_554 (by decide) (fun cz => absurd cz z) (fun _ => ?_)
        refine lv_iconst (v := (1 : Int32)) hx hb dL_law_557 (by decide) ?_
        refine lv_goto (tgt := 562) hx hb dL_law_558 (by decide) ?_
        refine lv_aload_n hx hb dL_law_562 rfl (lv_at hl 0 rfl) ?_
        refine lv_iload_n hx hb dL_law_563 rfl (lv_at hl 3 rfl) ?_
        refine lv_iconst (v := (3 : Int32)) hx hb dL_law_564 (by decide) ?_
        refine lv_iadd hx hb dL_law_565 ?_
        refine va_sld (s := s.setDrawn d0) hx hb hX hbl hbA hS i3 dL_law_566 ?_
        refine lawx (s := s.setDrawn d0) (As := [.int (xs (x3 + (1 : Int32)).toNatClampNeg), .int (1 : Int32), .int (xs (x3 + (3 : Int32)).toNatClampNeg)]) (rest := []) (ci := 6) (cg_X5_least l D ct a0 ax (xs (x3 + (1 : Int32)).toNatClampNeg) (1 : Int32) (xs (x3 + (3 : Int32)).toNatClampNeg) h _ (s_least j (by omega) ax h M (xs (x3 + (1 : Int32)).toNatClampNeg) (1 : Int32) (xs (x3 + (3 : Int32)).toNatClampNeg) hrel)) B hK hN hZ hA hW hP hdis hS ho rfl k_X5_least q_29_4 rfl ⟨Nat.le_of_ble_eq_true rfl, Nat.le_of_ble_eq_true rfl⟩ ⟨by show _ ≤ 600000; omega, by show _ ≤ 7302250; omega⟩ hl.1 rfl (Nat.le_of_ble_eq_true rfl) dL_law_567 (fun r h1 H1 locs1 hq hW hP hdis hS => ?_)
        obtain ⟨q, eq, er, hrel1⟩ := hq
        refine lv_aload_n hx hb dL_law_570 rfl (lv_at hl 2 rfl) ?_
        refine lv_aload_n hx hb dL_law_571 rfl (lv_at hl 0 rfl) ?_
        refine lv_iload_n hx hb dL_law_572 rfl (lv_at hl 3 rfl) ?_
        refine lv_iconst (v := (1 : Int32)) hx hb dL_law_573 (by decide) ?_
        refine lv_iadd hx hb dL_law_574 ?_
        refine va_sld (s := s.setDrawn d0) hx hb hX hbl hbA hS i1 dL_law_575 ?_
        refine lv_aload_n hx hb dL_law_576 rfl (lv_at hl 0 rfl) ?_
        refine lv_iload_n hx hb dL_law_577 rfl (lv_at hl 3 rfl) ?_
        refine lv_iconst (v := (2 : Int32)) hx hb dL_law_578 (by decide) ?_
        refine lv_iadd hx hb dL_law_579 ?_
        refine va_sld (s := s.setDrawn d0) hx hb hX hbl hbA hS i2 dL_law_580 ?_
        refine lv_if_eq (tgt := 588) hx hb dL_law_581 (by decide) (fun cz => absurd cz z) (fun _ => ?_)
        refine lv_iconst (v := (1 : Int32)) hx hb dL_law_584 (by decide) ?_
        refine lv_goto (tgt := 589) hx hb dL_law_585 (by decide) ?_
        refine lv_aload_n hx hb dL_law_589 rfl (lv_at hl 0 rfl) ?_
        refine lv_iload_n hx hb dL_law_590 rfl (lv_at hl 3 rfl) ?_
        refine lv_iconst (v := (3 : Int32)) hx hb dL_law_591 (by decide) ?_
        refine lv_iadd hx hb dL_law_592 ?_
        refine va_sld (s := s.setDrawn d0) hx hb hX hbl hbA hS i3 dL_law_593 ?_
        refine lawm (s := s.setDrawn d0) (As := [.int (xs (x3 + (1 : Int32)).toNatClampNeg), .int (1 : Int32), .int (xs (x3 + (3 : Int32)).toNatClampNeg)]) (rest := [.int r]) (c_X6_least l D o (ct 0) (ct 1) (xs (x3 + (1 : Int32)).toNatClampNeg) (1 : Int32) (xs (x3 + (3 : Int32)).toNatClampNeg) M.1 M.2.1 M.2.2.1 M.2.2.2.1 M.2.2.2.2.1 M.2.2.2.2.2.1 M.2.2.2.2.2.2.1 M.2.2.2.2.2.2.2.1 M.2.2.2.2.2.2.2.2.1 M.2.2.2.2.2.2.2.2.2.1 M.2.2.2.2.2.2.2.2.2.2.1 M.2.2.2.2.2.2.2.2.2.2.2.1 M.2.2.2.2.2.2.2.2.2.2.2.2.1 M.2.2.2.2.2.2.2.2.2.2.2.2.2.1 M.2.2.2.2.2.2.2.2.2.2.2.2.2.2.1 M.2.2.2.2.2.2.2.2.2.2.2.2.2.2.2.1 M.2.2.2.2.2.2.2.2.2.2.2.2.2.2.2.2.1 M.2.2.2.2.2.2.2.2.2.2.2.2.2.2.2.2.2.1 M.2.2.2.2.2.2.2.2.2.2.2.2.2.2.2.2.2.2.1 M.2.2.2.2.2.2.2.2.2.2.2.2.2.2.2.2.2.2.2.1 M.2.2.2.2.2.2.2.2.2.2.2.2.2.2.2.2.2.2.2.2.1 M.2.2.2.2.2.2.2.2.2.2.2.2.2.2.2.2.2.2.2.2.2 q eq) B hK hDD hA hW hP hdis hS rfl rfl (va_recv (s := s) hK hP (ci := 7) (q0 := 0) rfl rfl) k_X6_least q_29_20 rfl ⟨Nat.le_of_ble_eq_true rfl, Nat.le_of_ble_eq_true rfl⟩ ⟨by show _ ≤ 600000; omega, by show _ ≤ 7302250; omega⟩ hl.1 rfl (Nat.le_of_ble_eq_true rfl) dL_law_594 (fun H1 locs1 hW hP hdis hS => ?_)
        refine lv_icmp_eq (tgt := 866) hx hb dL_law_597 (by decide) (fun _ => ?_) (fun cq => absurd er.symm cq)
        exact hend h1 _ d0 H1 locs1 ls _ _ hd0 hrel1 hW hP hdis hS (by omega) (by omega) hl
    by_cases c16 : op = (16 : Int32)
    · refine lv_tableIn (off := 570) (tgt := 602) hx hb dL_law_32 (by rw [c16]; decide) (by rw [c16]; decide) (by rw [c16]; rfl) (by decide) ?_
      by_cases z : (xs (x3 + (2 : Int32)).toNatClampNeg) = 0
      · skip
        refine lv_aload_n hx hb dL_law_602 rfl (lv_at hl 1 rfl) ?_
        refine lv_aload_n hx hb dL_law_603 rfl (lv_at hl 0 rfl) ?_
        refine lv_iload_n hx hb dL_law_604 rfl (lv_at hl 3 rfl) ?_
        refine lv_iconst (v := (1 : Int32)) hx hb dL_law_605 (by decide) ?_
        refine lv_iadd hx hb dL_law_606 ?_
        refine va_sld (s := s.setDrawn d0) hx hb hX hbl hbA hS i1 dL_law_607 ?_
        refine lv_aload_n hx hb dL_law_608 rfl (lv_at hl 0 rfl) ?_
        refine lv_iload_n hx hb dL_law_609 rfl (lv_at hl 3 rfl) ?_
        refine lv_iconst (v := (2 : Int32)) hx hb dL_law_610 (by decide) ?_
        refine lv_iadd hx hb dL_law_611 ?_
        refine va_sld (s := s.setDrawn d0) hx hb hX hbl hbA hS i2 dL_law_612 ?_
        refine lv_if_eq (tgt := 620) hx hb dL_law_613 (by decide) (fun _ => ?_) (fun cz => absurd z cz)
        refine lv_iconst (v := (0 : Int32)) hx hb dL_law_620 (by decide) ?_
        refine lv_aload_n hx hb dL_law_621 rfl (lv_at hl 0 rfl) ?_
        refine lv_iload_n hx hb dL_law_622 rfl (lv_at hl 3 rfl) ?_
        refine lv_iconst (v := (3 : Int32)) hx hb dL_law_623 (by decide) ?_
        refine lv_iadd hx hb dL_law_624 ?_
        refine va_sld (s := s.setDrawn d0) hx hb hX hbl hbA hS i3 dL_law_625 ?_
        refine lawx (s := s.setDrawn d0) (As := [.int (xs (x3 + (1 : Int32)).toNatClampNeg), .int (0 : Int32), .int (xs (x3 + (3 : Int32)).toNatClampNeg)]) (rest := []) (ci := 6) (cg_X5_best l D ct a0 ax (xs (x3 + (1 : Int32)).toNatClampNeg) (0 : Int32) (xs (x3 + (3 : Int32)).toNatClampNeg) h _ (s_best j (by omega) ax h M (xs (x3 + (1 : Int32)).toNatClampNeg) (0 : Int32) (xs (x3 + (3 : Int32)).toNatClampNeg) hrel)) B hK hN hZ hA hW hP hdis hS ho rfl k_X5_best q_30_4 rfl ⟨Nat.le_of_ble_eq_true rfl, Nat.le_of_ble_eq_true rfl⟩ ⟨by show _ ≤ 600000; omega, by show _ ≤ 7302250; omega⟩ hl.1 rfl (Nat.le_of_ble_eq_true rfl) dL_law_626 (fun r h1 H1 locs1 hq hW hP hdis hS => ?_)
        obtain ⟨q, eq, er, hrel1⟩ := hq
        refine lv_aload_n hx hb dL_law_629 rfl (lv_at hl 2 rfl) ?_
        refine lv_aload_n hx hb dL_law_630 rfl (lv_at hl 0 rfl) ?_
        refine lv_iload_n hx hb dL_law_631 rfl (lv_at hl 3 rfl) ?_
        refine lv_iconst (v := (1 : Int32)) hx hb dL_law_632 (by decide) ?_
        refine lv_iadd hx hb dL_law_633 ?_
        refine va_sld (s := s.setDrawn d0) hx hb hX hbl hbA hS i1 dL_law_634 ?_
        refine lv_aload_n hx hb dL_law_635 rfl (lv_at hl 0 rfl) ?_
        refine lv_iload_n hx hb dL_law_636 rfl (lv_at hl 3 rfl) ?_
        refine lv_iconst (v := (2 : Int32)) hx hb dL_law_637 (by decide) ?_
        refine lv_iadd hx hb dL_law_638 ?_
        refine va_sld (s := s.setDrawn d0) hx hb hX hbl hbA hS i2 dL_law_639 ?_
        refine lv_if_eq (tgt := 647) hx hb dL_law_640 (by decide) (fun _ => ?_) (fun cz => absurd z cz)
        refine lv_iconst (v := (0 : Int32)) hx hb dL_law_647 (by decide) ?_
        refine lv_aload_n hx hb dL_law_648 rfl (lv_at hl 0 rfl) ?_
        refine lv_iload_n hx hb dL_law_649 rfl (lv_at hl 3 rfl) ?_
        refine lv_iconst (v := (3 : Int32)) hx hb dL_law_650 (by decide) ?_
        refine lv_iadd hx hb dL_law_651 ?_
        refine va_sld (s := s.setDrawn d0) hx hb hX hbl hbA hS i3 dL_law_652 ?_
        refine lawm (s := s.setDrawn d0) (As := [.int (xs (x3 + (1 : Int32)).toNatClampNeg), .int (0 : Int32), .int (xs (x3 + (3 : Int32)).toNatClampNeg)]) (rest := [.int r]) (c_X6_best l D o (ct 0) (ct 1) (xs (x3 + (1 : Int32)).toNatClampNeg) (0 : Int32) (xs (x3 + (3 : Int32)).toNatClampNeg) M.1 M.2.1 M.2.2.1 M.2.2.2.1 M.2.2.2.2.1 M.2.2.2.2.2.1 M.2.2.2.2.2.2.1 M.2.2.2.2.2.2.2.1 M.2.2.2.2.2.2.2.2.1 M.2.2.2.2.2.2.2.2.2.1 M.2.2.2.2.2.2.2.2.2.2.1 M.2.2.2.2.2.2.2.2.2.2.2.1 M.2.2.2.2.2.2.2.2.2.2.2.2.1 M.2.2.2.2.2.2.2.2.2.2.2.2.2.1 M.2.2.2.2.2.2.2.2.2.2.2.2.2.2.1 M.2.2.2.2.2.2.2.2.2.2.2.2.2.2.2.1 M.2.2.2.2.2.2.2.2.2.2.2.2.2.2.2.2.1 M.2.2.2.2.2.2.2.2.2.2.2.2.2.2.2.2.2.1 M.2.2.2.2.2.2.2.2.2.2.2.2.2.2.2.2.2.2.1 M.2.2.2.2.2.2.2.2.2.2.2.2.2.2.2.2.2.2.2.1 M.2.2.2.2.2.2.2.2.2.2.2.2.2.2.2.2.2.2.2.2.1 M.2.2.2.2.2.2.2.2.2.2.2.2.2.2.2.2.2.2.2.2.2 q eq) B hK hDD hA hW hP hdis hS rfl rfl (va_recv (s := s) hK hP (ci := 7) (q0 := 0) rfl rfl) k_X6_best q_30_9 rfl ⟨Nat.le_of_ble_eq_true rfl, Nat.le_of_ble_eq_true rfl⟩ ⟨by show _ ≤ 600000; omega, by show _ ≤ 7302250; omega⟩ hl.1 rfl (Nat.le_of_ble_eq_true rfl) dL_law_653 (fun H1 locs1 hW hP hdis hS => ?_)
        refine lv_icmp_eq (tgt := 866) hx hb dL_law_656 (by decide) (fun _ => ?_) (fun cq => absurd er.symm cq)
        exact hend h1 _ d0 H1 locs1 ls _ _ hd0 hrel1 hW hP hdis hS (by omega) (by omega) hl
      · skip
        refine lv_aload_n hx hb dL_law_602 rfl (lv_at hl 1 rfl) ?_
        refine lv_aload_n hx hb dL_law_603 rfl (lv_at hl 0 rfl) ?_
        refine lv_iload_n hx hb dL_law_604 rfl (lv_at hl 3 rfl) ?_
        refine lv_iconst (v := (1 : Int32)) hx hb dL_law_605 (by decide) ?_
        refine lv_iadd hx hb dL_law_606 ?_
        refine va_sld (s := s.setDrawn d0) hx hb hX hbl hbA hS i1 dL_law_607 ?_
        refine lv_aload_n hx hb dL_law_608 rfl (lv_at hl 0 rfl) ?_
        refine lv_iload_n hx hb dL_law_609 rfl (lv_at hl 3 rfl) ?_
        refine lv_iconst (v := (2 : Int32)) hx hb dL_law_610 (by decide) ?_
        refine lv_iadd hx hb dL_law_611 ?_
        refine va_sld (s := s.setDrawn d0) hx hb hX hbl hbA hS i2 dL_law_612 ?_
        refine lv_if_eq (tgt := 620) hx hb dL_law_613 (by decide) (fun cz => absurd cz z) (fun _ => ?_)
        refine lv_iconst (v := (1 : Int32)) hx hb dL_law_616 (by decide) ?_
        refine lv_goto (tgt := 621) hx hb dL_law_617 (by decide) ?_
        refine lv_aload_n hx hb dL_law_621 rfl (lv_at hl 0 rfl) ?_
        refine lv_iload_n hx hb dL_law_622 rfl (lv_at hl 3 rfl) ?_
        refine lv_iconst (v := (3 : Int32)) hx hb dL_law_623 (by decide) ?_
        refine lv_iadd hx hb dL_law_624 ?_
        refine va_sld (s := s.setDrawn d0) hx hb hX hbl hbA hS i3 dL_law_625 ?_
        refine lawx (s := s.setDrawn d0) (As := [.int (xs (x3 + (1 : Int32)).toNatClampNeg), .int (1 : Int32), .int (xs (x3 + (3 : Int32)).toNatClampNeg)]) (rest := []) (ci := 6) (cg_X5_best l D ct a0 ax (xs (x3 + (1 : Int32)).toNatClampNeg) (1 : Int32) (xs (x3 + (3 : Int32)).toNatClampNeg) h _ (s_best j (by omega) ax h M (xs (x3 + (1 : Int32)).toNatClampNeg) (1 : Int32) (xs (x3 + (3 : Int32)).toNatClampNeg) hrel)) B hK hN hZ hA hW hP hdis hS ho rfl k_X5_best q_30_4 rfl ⟨Nat.le_of_ble_eq_true rfl, Nat.le_of_ble_eq_true rfl⟩ ⟨by show _ ≤ 600000; omega, by show _ ≤ 7302250; omega⟩ hl.1 rfl (Nat.le_of_ble_eq_true rfl) dL_law_626 (fun r h1 H1 locs1 hq hW hP hdis hS => ?_)
        obtain ⟨q, eq, er, hrel1⟩ := hq
        refine lv_aload_n hx hb dL_law_629 rfl (lv_at hl 2 rfl) ?_
        refine lv_aload_n hx hb dL_law_630 rfl (lv_at hl 0 rfl) ?_
        refine lv_iload_n hx hb dL_law_631 rfl (lv_at hl 3 rfl) ?_
        refine lv_iconst (v := (1 : Int32)) hx hb dL_law_632 (by decide) ?_
        refine lv_iadd hx hb dL_law_633 ?_
        refine va_sld (s := s.setDrawn d0) hx hb hX hbl hbA hS i1 dL_law_634 ?_
        refine lv_aload_n hx hb dL_law_635 rfl (lv_at hl 0 rfl) ?_
        refine lv_iload_n hx hb dL_law_636 rfl (lv_at hl 3 rfl) ?_
        refine lv_iconst (v := (2 : Int32)) hx hb dL_law_637 (by decide) ?_
        refine lv_iadd hx hb dL_law_638 ?_
        refine va_sld (s := s.setDrawn d0) hx hb hX hbl hbA hS i2 dL_law_639 ?_
        refine lv_if_eq (tgt := 647) hx hb dL_law_640 (by decide) (fun cz => absurd cz z) (fun _ => ?_)
        refine lv_iconst (v := (1 : Int32)) hx hb dL_law_643 (by decide) ?_
        refine lv_goto (tgt := 648) hx hb dL_law_644 (by decide) ?_
        refine lv_aload_n hx hb dL_law_648 rfl (lv_at hl 0 rfl) ?_
        refine lv_iload_n hx hb dL_law_649 rfl (lv_at hl 3 rfl) ?_
        refine lv_iconst (v := (3 : Int32)) hx hb dL_law_650 (by decide) ?_
        refine lv_iadd hx hb dL_law_651 ?_
        refine va_sld (s := s.setDrawn d0) hx hb hX hbl hbA hS i3 dL_law_652 ?_
        refine lawm (s := s.setDrawn d0) (As := [.int (xs (x3 + (1 : Int32)).toNatClampNeg), .int (1 : Int32), .int (xs (x3 + (3 : Int32)).toNatClampNeg)]) (rest := [.int r]) (c_X6_best l D o (ct 0) (ct 1) (xs (x3 + (1 : Int32)).toNatClampNeg) (1 : Int32) (xs (x3 + (3 : Int32)).toNatClampNeg) M.1 M.2.1 M.2.2.1 M.2.2.2.1 M.2.2.2.2.1 M.2.2.2.2.2.1 M.2.2.2.2.2.2.1 M.2.2.2.2.2.2.2.1 M.2.2.2.2.2.2.2.2.1 M.2.2.2.2.2.2.2.2.2.1 M.2.2.2.2.2.2.2.2.2.2.1 M.2.2.2.2.2.2.2.2.2.2.2.1 M.2.2.2.2.2.2.2.2.2.2.2.2.1 M.2.2.2.2.2.2.2.2.2.2.2.2.2.1 M.2.2.2.2.2.2.2.2.2.2.2.2.2.2.1 M.2.2.2.2.2.2.2.2.2.2.2.2.2.2.2.1 M.2.2.2.2.2.2.2.2.2.2.2.2.2.2.2.2.1 M.2.2.2.2.2.2.2.2.2.2.2.2.2.2.2.2.2.1 M.2.2.2.2.2.2.2.2.2.2.2.2.2.2.2.2.2.2.1 M.2.2.2.2.2.2.2.2.2.2.2.2.2.2.2.2.2.2.2.1 M.2.2.2.2.2.2.2.2.2.2.2.2.2.2.2.2.2.2.2.2.1 M.2.2.2.2.2.2.2.2.2.2.2.2.2.2.2.2.2.2.2.2.2 q eq) B hK hDD hA hW hP hdis hS rfl rfl (va_recv (s := s) hK hP (ci := 7) (q0 := 0) rfl rfl) k_X6_best q_30_9 rfl ⟨Nat.le_of_ble_eq_true rfl, Nat.le_of_ble_eq_true rfl⟩ ⟨by show _ ≤ 600000; omega, by show _ ≤ 7302250; omega⟩ hl.1 rfl (Nat.le_of_ble_eq_true rfl) dL_law_653 (fun H1 locs1 hW hP hdis hS => ?_)
        refine lv_icmp_eq (tgt := 866) hx hb dL_law_656 (by decide) (fun _ => ?_) (fun cq => absurd er.symm cq)
        exact hend h1 _ d0 H1 locs1 ls _ _ hd0 hrel1 hW hP hdis hS (by omega) (by omega) hl
    by_cases c17 : op = (17 : Int32)
    · refine lv_tableIn (off := 629) (tgt := 661) hx hb dL_law_32 (by rw [c17]; decide) (by rw [c17]; decide) (by rw [c17]; rfl) (by decide) ?_
      refine lv_aload_n hx hb dL_law_661 rfl (lv_at hl 1 rfl) ?_
      refine lv_aload_n hx hb dL_law_662 rfl (lv_at hl 0 rfl) ?_
      refine lv_iload_n hx hb dL_law_663 rfl (lv_at hl 3 rfl) ?_
      refine lv_iconst (v := (1 : Int32)) hx hb dL_law_664 (by decide) ?_
      refine lv_iadd hx hb dL_law_665 ?_
      refine va_sld (s := s.setDrawn d0) hx hb hX hbl hbA hS i1 dL_law_666 ?_
      refine lv_aload_n hx hb dL_law_667 rfl (lv_at hl 0 rfl) ?_
      refine lv_iload_n hx hb dL_law_668 rfl (lv_at hl 3 rfl) ?_
      refine lv_iconst (v := (2 : Int32)) hx hb dL_law_669 (by decide) ?_
      refine lv_iadd hx hb dL_law_670 ?_
      refine va_sld (s := s.setDrawn d0) hx hb hX hbl hbA hS i2 dL_law_671 ?_
      refine lawx (s := s.setDrawn d0) (As := [.int (xs (x3 + (1 : Int32)).toNatClampNeg), .int (xs (x3 + (2 : Int32)).toNatClampNeg)]) (rest := []) (ci := 6) (cg_X5_plan l D ct a0 ax (xs (x3 + (1 : Int32)).toNatClampNeg) (xs (x3 + (2 : Int32)).toNatClampNeg) h _ (s_plan j (by omega) ax h M (xs (x3 + (1 : Int32)).toNatClampNeg) (xs (x3 + (2 : Int32)).toNatClampNeg) hrel)) B hK hN hZ hA hW hP hdis hS ho rfl k_X5_plan q_30_13 rfl ⟨Nat.le_of_ble_eq_true rfl, Nat.le_of_ble_eq_true rfl⟩ ⟨by show _ ≤ 600000; omega, by show _ ≤ 7302250; omega⟩ hl.1 rfl (Nat.le_of_ble_eq_true rfl) dL_law_672 (fun r h1 H1 locs1 hq hW hP hdis hS => ?_)
      obtain ⟨q, eq, er, hrel1⟩ := hq
      refine lv_aload_n hx hb dL_law_675 rfl (lv_at hl 2 rfl) ?_
      refine lv_aload_n hx hb dL_law_676 rfl (lv_at hl 0 rfl) ?_
      refine lv_iload_n hx hb dL_law_677 rfl (lv_at hl 3 rfl) ?_
      refine lv_iconst (v := (1 : Int32)) hx hb dL_law_678 (by decide) ?_
      refine lv_iadd hx hb dL_law_679 ?_
      refine va_sld (s := s.setDrawn d0) hx hb hX hbl hbA hS i1 dL_law_680 ?_
      refine lv_aload_n hx hb dL_law_681 rfl (lv_at hl 0 rfl) ?_
      refine lv_iload_n hx hb dL_law_682 rfl (lv_at hl 3 rfl) ?_
      refine lv_iconst (v := (2 : Int32)) hx hb dL_law_683 (by decide) ?_
      refine lv_iadd hx hb dL_law_684 ?_
      refine va_sld (s := s.setDrawn d0) hx hb hX hbl hbA hS i2 dL_law_685 ?_
      refine lawm (s := s.setDrawn d0) (As := [.int (xs (x3 + (1 : Int32)).toNatClampNeg), .int (xs (x3 + (2 : Int32)).toNatClampNeg)]) (rest := [.int r]) (c_X6_plan l D o (ct 0) (ct 1) (xs (x3 + (1 : Int32)).toNatClampNeg) (xs (x3 + (2 : Int32)).toNatClampNeg) M.1 M.2.1 M.2.2.1 M.2.2.2.1 M.2.2.2.2.1 M.2.2.2.2.2.1 M.2.2.2.2.2.2.1 M.2.2.2.2.2.2.2.1 M.2.2.2.2.2.2.2.2.1 M.2.2.2.2.2.2.2.2.2.1 M.2.2.2.2.2.2.2.2.2.2.1 M.2.2.2.2.2.2.2.2.2.2.2.1 M.2.2.2.2.2.2.2.2.2.2.2.2.1 M.2.2.2.2.2.2.2.2.2.2.2.2.2.1 M.2.2.2.2.2.2.2.2.2.2.2.2.2.2.1 M.2.2.2.2.2.2.2.2.2.2.2.2.2.2.2.1 M.2.2.2.2.2.2.2.2.2.2.2.2.2.2.2.2.1 M.2.2.2.2.2.2.2.2.2.2.2.2.2.2.2.2.2.1 M.2.2.2.2.2.2.2.2.2.2.2.2.2.2.2.2.2.2.1 M.2.2.2.2.2.2.2.2.2.2.2.2.2.2.2.2.2.2.2.1 M.2.2.2.2.2.2.2.2.2.2.2.2.2.2.2.2.2.2.2.2.1 M.2.2.2.2.2.2.2.2.2.2.2.2.2.2.2.2.2.2.2.2.2 q eq) B hK hDD hA hW hP hdis hS rfl rfl (va_recv (s := s) hK hP (ci := 7) (q0 := 0) rfl rfl) k_X6_plan q_31_0 rfl ⟨Nat.le_of_ble_eq_true rfl, Nat.le_of_ble_eq_true rfl⟩ ⟨by show _ ≤ 600000; omega, by show _ ≤ 7302250; omega⟩ hl.1 rfl (Nat.le_of_ble_eq_true rfl) dL_law_686 (fun H1 locs1 hW hP hdis hS => ?_)
      refine lv_icmp_eq (tgt := 866) hx hb dL_law_689 (by decide) (fun _ => ?_) (fun cq => absurd er.symm cq)
      exact hend h1 _ d0 H1 locs1 ls _ _ hd0 hrel1 hW hP hdis hS (by omega) (by omega) hl
    by_cases c18 : op = (18 : Int32)
    · refine lv_tableIn (off := 662) (tgt := 694) hx hb dL_law_32 (by rw [c18]; decide) (by rw [c18]; decide) (by rw [c18]; rfl) (by decide) ?_
      refine lv_aload_n hx hb dL_law_694 rfl (lv_at hl 1 rfl) ?_
      refine lv_aload_n hx hb dL_law_695 rfl (lv_at hl 0 rfl) ?_
      refine lv_iload_n hx hb dL_law_696 rfl (lv_at hl 3 rfl) ?_
      refine lv_iconst (v := (1 : Int32)) hx hb dL_law_697 (by decide) ?_
      refine lv_iadd hx hb dL_law_698 ?_
      refine va_sld (s := s.setDrawn d0) hx hb hX hbl hbA hS i1 dL_law_699 ?_
      refine lawx (s := s.setDrawn d0) (As := [.int (xs (x3 + (1 : Int32)).toNatClampNeg)]) (rest := []) (ci := 6) (cg_X5_counted l D ct a0 ax (xs (x3 + (1 : Int32)).toNatClampNeg) h _ (s_counted j (by omega) ax h M (xs (x3 + (1 : Int32)).toNatClampNeg) hrel)) B hK hN hZ hA hW hP hdis hS ho rfl k_X5_counted q_31_12 rfl ⟨Nat.le_of_ble_eq_true rfl, Nat.le_of_ble_eq_true rfl⟩ ⟨by show _ ≤ 600000; omega, by show _ ≤ 7302250; omega⟩ hl.1 rfl (Nat.le_of_ble_eq_true rfl) dL_law_700 (fun r h1 H1 locs1 hq hW hP hdis hS => ?_)
      obtain ⟨q, eq, er, hrel1⟩ := hq
      refine lv_aload_n hx hb dL_law_703 rfl (lv_at hl 2 rfl) ?_
      refine lv_aload_n hx hb dL_law_704 rfl (lv_at hl 0 rfl) ?_
      refine lv_iload_n hx hb dL_law_705 rfl (lv_at hl 3 rfl) ?_
      refine lv_iconst (v := (1 : Int32)) hx hb dL_law_706 (by decide) ?_
      refine lv_iadd hx hb dL_law_707 ?_
      refine va_sld (s := s.setDrawn d0) hx hb hX hbl hbA hS i1 dL_law_708 ?_
      refine lawm (s := s.setDrawn d0) (As := [.int (xs (x3 + (1 : Int32)).toNatClampNeg)]) (rest := [.int r]) (c_X6_counted l D o (ct 0) (ct 1) (xs (x3 + (1 : Int32)).toNatClampNeg) M.1 M.2.1 M.2.2.1 M.2.2.2.1 M.2.2.2.2.1 M.2.2.2.2.2.1 M.2.2.2.2.2.2.1 M.2.2.2.2.2.2.2.1 M.2.2.2.2.2.2.2.2.1 M.2.2.2.2.2.2.2.2.2.1 M.2.2.2.2.2.2.2.2.2.2.1 M.2.2.2.2.2.2.2.2.2.2.2.1 M.2.2.2.2.2.2.2.2.2.2.2.2.1 M.2.2.2.2.2.2.2.2.2.2.2.2.2.1 M.2.2.2.2.2.2.2.2.2.2.2.2.2.2.1 M.2.2.2.2.2.2.2.2.2.2.2.2.2.2.2.1 M.2.2.2.2.2.2.2.2.2.2.2.2.2.2.2.2.1 M.2.2.2.2.2.2.2.2.2.2.2.2.2.2.2.2.2.1 M.2.2.2.2.2.2.2.2.2.2.2.2.2.2.2.2.2.2.1 M.2.2.2.2.2.2.2.2.2.2.2.2.2.2.2.2.2.2.2.1 M.2.2.2.2.2.2.2.2.2.2.2.2.2.2.2.2.2.2.2.2.1 M.2.2.2.2.2.2.2.2.2.2.2.2.2.2.2.2.2.2.2.2.2 q eq) B hK hDD hA hW hP hdis hS rfl rfl (va_recv (s := s) hK hP (ci := 7) (q0 := 0) rfl rfl) k_X6_counted q_32_3 rfl ⟨Nat.le_of_ble_eq_true rfl, Nat.le_of_ble_eq_true rfl⟩ ⟨by show _ ≤ 600000; omega, by show _ ≤ 7302250; omega⟩ hl.1 rfl (Nat.le_of_ble_eq_true rfl) dL_law_709 (fun H1 locs1 hW hP hdis hS => ?_)
      refine lv_icmp_eq (tgt := 866) hx hb dL_law_712 (by decide) (fun _ => ?_) (fun cq => absurd er.symm cq)
      exact hend h1 _ d0 H1 locs1 ls _ _ hd0 hrel1 hW hP hdis hS (by omega) (by omega) hl
    by_cases c19 : op = (19 : Int32)
    · refine lv_tableIn (off := 685) (tgt := 717) hx hb dL_law_32 (by rw [c19]; decide) (by rw [c19]; decide) (by rw [c19]; rfl) (by decide) ?_
      refine lv_aload_n hx hb dL_law_717 rfl (lv_at hl 1 rfl) ?_
      refine lawxD (s := s) hd0 (As := []) (rest := []) (ci := 6) (cg_X5_fitness l D ct a0 ax h _ (s_fitness j (by omega) ax h M hrel)) B hK hN hZ hA hW hP hdis hS ho rfl k_X5_fitness q_32_15 rfl ⟨Nat.le_of_ble_eq_true rfl, Nat.le_of_ble_eq_true rfl⟩ ⟨by show _ ≤ 600000; omega, by show _ ≤ 7302250; omega⟩ hl.1 rfl (Nat.le_of_ble_eq_true rfl) dL_law_718 (fun r1 v h1 H1 locs1 d1 hd1 hv1 hq hW hP hdis hS => ?_)
      obtain ⟨q, eq, er, hrel1⟩ := hq
      refine lv_dstore (lv' := [(4, .double r1), (0, .ref b), (1, .ref ax), (2, .ref (o 0)), (3, .int x3)]) hx hb dL_law_721 hl (by decide) rfl (fun ls hl => ?_)
      refine lv_aload_n hx hb dL_law_723 rfl (lv_at hl 3 rfl) ?_
      have B1 : BX p (s.setDrawn d1) m #[Value.ref b] c cL_law 8 RL := ⟨hx, hb, hml, hown, fun w hw => dr_words hts0 d1 w (wsL_law_in w hw)⟩
      refine lawmD (s := s) hd1 (As := []) (rest := []) (c_X6_fitness l D o (ct 0) (ct 1) M.1 M.2.1 M.2.2.1 M.2.2.2.1 M.2.2.2.2.1 M.2.2.2.2.2.1 M.2.2.2.2.2.2.1 M.2.2.2.2.2.2.2.1 M.2.2.2.2.2.2.2.2.1 M.2.2.2.2.2.2.2.2.2.1 M.2.2.2.2.2.2.2.2.2.2.1 M.2.2.2.2.2.2.2.2.2.2.2.1 M.2.2.2.2.2.2.2.2.2.2.2.2.1 M.2.2.2.2.2.2.2.2.2.2.2.2.2.1 M.2.2.2.2.2.2.2.2.2.2.2.2.2.2.1 M.2.2.2.2.2.2.2.2.2.2.2.2.2.2.2.1 M.2.2.2.2.2.2.2.2.2.2.2.2.2.2.2.2.1 M.2.2.2.2.2.2.2.2.2.2.2.2.2.2.2.2.2.1 M.2.2.2.2.2.2.2.2.2.2.2.2.2.2.2.2.2.2.1 M.2.2.2.2.2.2.2.2.2.2.2.2.2.2.2.2.2.2.2.1 M.2.2.2.2.2.2.2.2.2.2.2.2.2.2.2.2.2.2.2.2.1 M.2.2.2.2.2.2.2.2.2.2.2.2.2.2.2.2.2.2.2.2.2 q eq) B1 hK hDD hA hW hP hdis hS rfl rfl (va_recv (s := s) hK hP (ci := 7) (q0 := 0) rfl rfl) k_X6_fitness q_32_20 rfl ⟨Nat.le_of_ble_eq_true rfl, Nat.le_of_ble_eq_true rfl⟩ ⟨by show _ ≤ 600000; omega, by show _ ≤ 7302250; omega⟩ hl.1 rfl (Nat.le_of_ble_eq_true rfl) dL_law_724 (fun r2 H1 locs1 d2 hd2 hv2 hW hP hdis hS => ?_)
      refine lv_dstore (lv' := [(6, .double r2), (4, .double r1), (0, .ref b), (1, .ref ax), (2, .ref (o 0)), (3, .int x3)]) hx hb dL_law_727 hl (by decide) rfl (fun ls hl => ?_)
      refine lv_dload hx hb dL_law_729 (lv_at hl 1 rfl) ?_
      refine lv_dload hx hb dL_law_731 (lv_at hl 0 rfl) ?_
      refine lv_dcmp hx hb dL_law_733 ?_
      have hfin := hend h1 _ d2 H1 locs1 ls _ _ hd2 hrel1 hW hP hdis hS (Nat.le_refl _) (Nat.le_refl _) (lv_sub hl [2, 3, 4, 5] rfl)
      exact fit_end hx hb hd2 hl (by rw [← er] at hv1; exact hv1) hv2 (W.widen (by omega) (by omega) hfin)
    by_cases c20 : op = (20 : Int32)
    · refine lv_tableIn (off := 726) (tgt := 758) hx hb dL_law_32 (by rw [c20]; decide) (by rw [c20]; decide) (by rw [c20]; rfl) (by decide) ?_
      refine lv_aload_n hx hb dL_law_758 rfl (lv_at hl 1 rfl) ?_
      refine lv_aload_n hx hb dL_law_759 rfl (lv_at hl 0 rfl) ?_
      refine lv_iload_n hx hb dL_law_760 rfl (lv_at hl 3 rfl) ?_
      refine lv_iconst (v := (1 : Int32)) hx hb dL_law_761 (by decide) ?_
      refine lv_iadd hx hb dL_law_762 ?_
      refine va_sld (s := s.setDrawn d0) hx hb hX hbl hbA hS i1 dL_law_763 ?_
      refine lv_aload_n hx hb dL_law_764 rfl (lv_at hl 0 rfl) ?_
      refine lv_iload_n hx hb dL_law_765 rfl (lv_at hl 3 rfl) ?_
      refine lv_iconst (v := (2 : Int32)) hx hb dL_law_766 (by decide) ?_
      refine lv_iadd hx hb dL_law_767 ?_
      refine va_sld (s := s.setDrawn d0) hx hb hX hbl hbA hS i2 dL_law_768 ?_
      refine lawx (s := s.setDrawn d0) (As := [.int (xs (x3 + (1 : Int32)).toNatClampNeg), .int (xs (x3 + (2 : Int32)).toNatClampNeg)]) (rest := []) (ci := 6) (cg_X5_ifCounted l D ct a0 ax (xs (x3 + (1 : Int32)).toNatClampNeg) (xs (x3 + (2 : Int32)).toNatClampNeg) h _ (s_ifCounted j (by omega) ax h M (xs (x3 + (1 : Int32)).toNatClampNeg) (xs (x3 + (2 : Int32)).toNatClampNeg) hrel)) B hK hN hZ hA hW hP hdis hS ho rfl k_X5_ifCounted q_33_0 rfl ⟨Nat.le_of_ble_eq_true rfl, Nat.le_of_ble_eq_true rfl⟩ ⟨by show _ ≤ 600000; omega, by show _ ≤ 7302250; omega⟩ hl.1 rfl (Nat.le_of_ble_eq_true rfl) dL_law_769 (fun r h1 H1 locs1 hq hW hP hdis hS => ?_)
      obtain ⟨q, eq, er, hrel1⟩ := hq
      refine lv_aload_n hx hb dL_law_772 rfl (lv_at hl 2 rfl) ?_
      refine lv_aload_n hx hb dL_law_773 rfl (lv_at hl 0 rfl) ?_
      refine lv_iload_n hx hb dL_law_774 rfl (lv_at hl 3 rfl) ?_
      refine lv_iconst (v := (1 : Int32)) hx hb dL_law_775 (by decide) ?_
      refine lv_iadd hx hb dL_law_776 ?_
      refine va_sld (s := s.setDrawn d0) hx hb hX hbl hbA hS i1 dL_law_777 ?_
      refine lv_aload_n hx hb dL_law_778 rfl (lv_at hl 0 rfl) ?_
      refine lv_iload_n hx hb dL_law_779 rfl (lv_at hl 3 rfl) ?_
      refine lv_iconst (v := (2 : Int32)) hx hb dL_law_780 (by decide) ?_
      refine lv_iadd hx hb dL_law_781 ?_
      refine va_sld (s := s.setDrawn d0) hx hb hX hbl hbA hS i2 dL_law_782 ?_
      refine lawm (s := s.setDrawn d0) (As := [.int (xs (x3 + (1 : Int32)).toNatClampNeg), .int (xs (x3 + (2 : Int32)).toNatClampNeg)]) (rest := [.int r]) (c_X6_ifCounted l D o (ct 0) (ct 1) (xs (x3 + (1 : Int32)).toNatClampNeg) (xs (x3 + (2 : Int32)).toNatClampNeg) M.1 M.2.1 M.2.2.1 M.2.2.2.1 M.2.2.2.2.1 M.2.2.2.2.2.1 M.2.2.2.2.2.2.1 M.2.2.2.2.2.2.2.1 M.2.2.2.2.2.2.2.2.1 M.2.2.2.2.2.2.2.2.2.1 M.2.2.2.2.2.2.2.2.2.2.1 M.2.2.2.2.2.2.2.2.2.2.2.1 M.2.2.2.2.2.2.2.2.2.2.2.2.1 M.2.2.2.2.2.2.2.2.2.2.2.2.2.1 M.2.2.2.2.2.2.2.2.2.2.2.2.2.2.1 M.2.2.2.2.2.2.2.2.2.2.2.2.2.2.2.1 M.2.2.2.2.2.2.2.2.2.2.2.2.2.2.2.2.1 M.2.2.2.2.2.2.2.2.2.2.2.2.2.2.2.2.2.1 M.2.2.2.2.2.2.2.2.2.2.2.2.2.2.2.2.2.2.1 M.2.2.2.2.2.2.2.2.2.2.2.2.2.2.2.2.2.2.2.1 M.2.2.2.2.2.2.2.2.2.2.2.2.2.2.2.2.2.2.2.2.1 M.2.2.2.2.2.2.2.2.2.2.2.2.2.2.2.2.2.2.2.2.2 q eq) B hK hDD hA hW hP hdis hS rfl rfl (va_recv (s := s) hK hP (ci := 7) (q0 := 0) rfl rfl) k_X6_ifCounted q_33_4 rfl ⟨Nat.le_of_ble_eq_true rfl, Nat.le_of_ble_eq_true rfl⟩ ⟨by show _ ≤ 600000; omega, by show _ ≤ 7302250; omega⟩ hl.1 rfl (Nat.le_of_ble_eq_true rfl) dL_law_783 (fun H1 locs1 hW hP hdis hS => ?_)
      refine lv_icmp_eq (tgt := 866) hx hb dL_law_786 (by decide) (fun _ => ?_) (fun cq => absurd er.symm cq)
      exact hend h1 _ d0 H1 locs1 ls _ _ hd0 hrel1 hW hP hdis hS (by omega) (by omega) hl
    by_cases c21 : op = (21 : Int32)
    · refine lv_tableIn (off := 759) (tgt := 791) hx hb dL_law_32 (by rw [c21]; decide) (by rw [c21]; decide) (by rw [c21]; rfl) (by decide) ?_
      refine lv_aload_n hx hb dL_law_791 rfl (lv_at hl 1 rfl) ?_
      refine lv_aload_n hx hb dL_law_792 rfl (lv_at hl 0 rfl) ?_
      refine lv_iload_n hx hb dL_law_793 rfl (lv_at hl 3 rfl) ?_
      refine lv_iconst (v := (1 : Int32)) hx hb dL_law_794 (by decide) ?_
      refine lv_iadd hx hb dL_law_795 ?_
      refine va_sld (s := s.setDrawn d0) hx hb hX hbl hbA hS i1 dL_law_796 ?_
      refine lawx (s := s.setDrawn d0) (As := [.int (xs (x3 + (1 : Int32)).toNatClampNeg)]) (rest := []) (ci := 6) (cg_X5_ifRun l D ct a0 ax (xs (x3 + (1 : Int32)).toNatClampNeg) h _ (s_ifRun j (by omega) ax h M (xs (x3 + (1 : Int32)).toNatClampNeg) hrel)) B hK hN hZ hA hW hP hdis hS ho rfl k_X5_ifRun q_33_20 rfl ⟨Nat.le_of_ble_eq_true rfl, Nat.le_of_ble_eq_true rfl⟩ ⟨by show _ ≤ 600000; omega, by show _ ≤ 7302250; omega⟩ hl.1 rfl (Nat.le_of_ble_eq_true rfl) dL_law_797 (fun r h1 H1 locs1 hq hW hP hdis hS => ?_)
      obtain ⟨q, eq, er, hrel1⟩ := hq
      refine lv_aload_n hx hb dL_law_800 rfl (lv_at hl 2 rfl) ?_
      refine lv_aload_n hx hb dL_law_801 rfl (lv_at hl 0 rfl) ?_
      refine lv_iload_n hx hb dL_law_802 rfl (lv_at hl 3 rfl) ?_
      refine lv_iconst (v := (1 : Int32)) hx hb dL_law_803 (by decide) ?_
      refine lv_iadd hx hb dL_law_804 ?_
      refine va_sld (s := s.setDrawn d0) hx hb hX hbl hbA hS i1 dL_law_805 ?_
      refine lawm (s := s.setDrawn d0) (As := [.int (xs (x3 + (1 : Int32)).toNatClampNeg)]) (rest := [.int r]) (c_X6_ifRun l D o (ct 0) (ct 1) (xs (x3 + (1 : Int32)).toNatClampNeg) M.1 M.2.1 M.2.2.1 M.2.2.2.1 M.2.2.2.2.1 M.2.2.2.2.2.1 M.2.2.2.2.2.2.1 M.2.2.2.2.2.2.2.1 M.2.2.2.2.2.2.2.2.1 M.2.2.2.2.2.2.2.2.2.1 M.2.2.2.2.2.2.2.2.2.2.1 M.2.2.2.2.2.2.2.2.2.2.2.1 M.2.2.2.2.2.2.2.2.2.2.2.2.1 M.2.2.2.2.2.2.2.2.2.2.2.2.2.1 M.2.2.2.2.2.2.2.2.2.2.2.2.2.2.1 M.2.2.2.2.2.2.2.2.2.2.2.2.2.2.2.1 M.2.2.2.2.2.2.2.2.2.2.2.2.2.2.2.2.1 M.2.2.2.2.2.2.2.2.2.2.2.2.2.2.2.2.2.1 M.2.2.2.2.2.2.2.2.2.2.2.2.2.2.2.2.2.2.1 M.2.2.2.2.2.2.2.2.2.2.2.2.2.2.2.2.2.2.2.1 M.2.2.2.2.2.2.2.2.2.2.2.2.2.2.2.2.2.2.2.2.1 M.2.2.2.2.2.2.2.2.2.2.2.2.2.2.2.2.2.2.2.2.2 q eq) B hK hDD hA hW hP hdis hS rfl rfl (va_recv (s := s) hK hP (ci := 7) (q0 := 0) rfl rfl) k_X6_ifRun q_34_0 rfl ⟨Nat.le_of_ble_eq_true rfl, Nat.le_of_ble_eq_true rfl⟩ ⟨by show _ ≤ 600000; omega, by show _ ≤ 7302250; omega⟩ hl.1 rfl (Nat.le_of_ble_eq_true rfl) dL_law_806 (fun H1 locs1 hW hP hdis hS => ?_)
      refine lv_icmp_eq (tgt := 866) hx hb dL_law_809 (by decide) (fun _ => ?_) (fun cq => absurd er.symm cq)
      exact hend h1 _ d0 H1 locs1 ls _ _ hd0 hrel1 hW hP hdis hS (by omega) (by omega) hl
    by_cases c22 : op = (22 : Int32)
    · refine lv_tableIn (off := 782) (tgt := 814) hx hb dL_law_32 (by rw [c22]; decide) (by rw [c22]; decide) (by rw [c22]; rfl) (by decide) ?_
      refine lv_aload_n hx hb dL_law_814 rfl (lv_at hl 1 rfl) ?_
      refine lawx (s := s.setDrawn d0) (As := []) (rest := []) (ci := 6) (cg_X5_leastDrift l D ct a0 ax  h _ (s_leastDrift j (by omega) ax h M  hrel)) B hK hN hZ hA hW hP hdis hS ho rfl k_X5_leastDrift q_34_4 rfl ⟨Nat.le_of_ble_eq_true rfl, Nat.le_of_ble_eq_true rfl⟩ ⟨by show _ ≤ 600000; omega, by show _ ≤ 7302250; omega⟩ hl.1 rfl (Nat.le_of_ble_eq_true rfl) dL_law_815 (fun r h1 H1 locs1 hq hW hP hdis hS => ?_)
      obtain ⟨q, eq, er, hrel1⟩ := hq
      refine lv_aload_n hx hb dL_law_818 rfl (lv_at hl 2 rfl) ?_
      refine lawm (s := s.setDrawn d0) (As := []) (rest := [.int r]) (c_X6_leastDrift l D o (ct 0) (ct 1)  M.1 M.2.1 M.2.2.1 M.2.2.2.1 M.2.2.2.2.1 M.2.2.2.2.2.1 M.2.2.2.2.2.2.1 M.2.2.2.2.2.2.2.1 M.2.2.2.2.2.2.2.2.1 M.2.2.2.2.2.2.2.2.2.1 M.2.2.2.2.2.2.2.2.2.2.1 M.2.2.2.2.2.2.2.2.2.2.2.1 M.2.2.2.2.2.2.2.2.2.2.2.2.1 M.2.2.2.2.2.2.2.2.2.2.2.2.2.1 M.2.2.2.2.2.2.2.2.2.2.2.2.2.2.1 M.2.2.2.2.2.2.2.2.2.2.2.2.2.2.2.1 M.2.2.2.2.2.2.2.2.2.2.2.2.2.2.2.2.1 M.2.2.2.2.2.2.2.2.2.2.2.2.2.2.2.2.2.1 M.2.2.2.2.2.2.2.2.2.2.2.2.2.2.2.2.2.2.1 M.2.2.2.2.2.2.2.2.2.2.2.2.2.2.2.2.2.2.2.1 M.2.2.2.2.2.2.2.2.2.2.2.2.2.2.2.2.2.2.2.2.1 M.2.2.2.2.2.2.2.2.2.2.2.2.2.2.2.2.2.2.2.2.2 q eq) B hK hDD hA hW hP hdis hS rfl rfl (va_recv (s := s) hK hP (ci := 7) (q0 := 0) rfl rfl) k_X6_leastDrift q_34_14 rfl ⟨Nat.le_of_ble_eq_true rfl, Nat.le_of_ble_eq_true rfl⟩ ⟨by show _ ≤ 600000; omega, by show _ ≤ 7302250; omega⟩ hl.1 rfl (Nat.le_of_ble_eq_true rfl) dL_law_819 (fun H1 locs1 hW hP hdis hS => ?_)
      refine lv_icmp_eq (tgt := 866) hx hb dL_law_822 (by decide) (fun _ => ?_) (fun cq => absurd er.symm cq)
      exact hend h1 _ d0 H1 locs1 ls _ _ hd0 hrel1 hW hP hdis hS (by omega) (by omega) hl
    by_cases c23 : op = (23 : Int32)
    · refine lv_tableIn (off := 795) (tgt := 827) hx hb dL_law_32 (by rw [c23]; decide) (by rw [c23]; decide) (by rw [c23]; rfl) (by decide) ?_
      refine lv_aload_n hx hb dL_law_827 rfl (lv_at hl 1 rfl) ?_
      refine lawx (s := s.setDrawn d0) (As := []) (rest := []) (ci := 6) (cg_X5_undo l D ct a0 ax  h _ (s_undo j (by omega) ax h M  hrel)) B hK hN hZ hA hW hP hdis hS ho rfl k_X5_undo q_34_18 rfl ⟨Nat.le_of_ble_eq_true rfl, Nat.le_of_ble_eq_true rfl⟩ ⟨by show _ ≤ 600000; omega, by show _ ≤ 7302250; omega⟩ hl.1 rfl (Nat.le_of_ble_eq_true rfl) dL_law_828 (fun r h1 H1 locs1 hq hW hP hdis hS => ?_)
      obtain ⟨q, eq, er, hrel1⟩ := hq
      refine lv_aload_n hx hb dL_law_831 rfl (lv_at hl 2 rfl) ?_
      refine lawm (s := s.setDrawn d0) (As := []) (rest := [.int r]) (c_X6_undo l D o (ct 0) (ct 1)  M.1 M.2.1 M.2.2.1 M.2.2.2.1 M.2.2.2.2.1 M.2.2.2.2.2.1 M.2.2.2.2.2.2.1 M.2.2.2.2.2.2.2.1 M.2.2.2.2.2.2.2.2.1 M.2.2.2.2.2.2.2.2.2.1 M.2.2.2.2.2.2.2.2.2.2.1 M.2.2.2.2.2.2.2.2.2.2.2.1 M.2.2.2.2.2.2.2.2.2.2.2.2.1 M.2.2.2.2.2.2.2.2.2.2.2.2.2.1 M.2.2.2.2.2.2.2.2.2.2.2.2.2.2.1 M.2.2.2.2.2.2.2.2.2.2.2.2.2.2.2.1 M.2.2.2.2.2.2.2.2.2.2.2.2.2.2.2.2.1 M.2.2.2.2.2.2.2.2.2.2.2.2.2.2.2.2.2.1 M.2.2.2.2.2.2.2.2.2.2.2.2.2.2.2.2.2.2.1 M.2.2.2.2.2.2.2.2.2.2.2.2.2.2.2.2.2.2.2.1 M.2.2.2.2.2.2.2.2.2.2.2.2.2.2.2.2.2.2.2.2.1 M.2.2.2.2.2.2.2.2.2.2.2.2.2.2.2.2.2.2.2.2.2 q eq) B hK hDD hA hW hP hdis hS rfl rfl (va_recv (s := s) hK hP (ci := 7) (q0 := 0) rfl rfl) k_X6_undo q_34_23 rfl ⟨Nat.le_of_ble_eq_true rfl, Nat.le_of_ble_eq_true rfl⟩ ⟨by show _ ≤ 600000; omega, by show _ ≤ 7302250; omega⟩ hl.1 rfl (Nat.le_of_ble_eq_true rfl) dL_law_832 (fun H1 locs1 hW hP hdis hS => ?_)
      refine lv_icmp_eq (tgt := 866) hx hb dL_law_835 (by decide) (fun _ => ?_) (fun cq => absurd er.symm cq)
      exact hend h1 _ d0 H1 locs1 ls _ _ hd0 hrel1 hW hP hdis hS (by omega) (by omega) hl
    by_cases c24 : op = (24 : Int32)
    · refine lv_tableIn (off := 808) (tgt := 840) hx hb dL_law_32 (by rw [c24]; decide) (by rw [c24]; decide) (by rw [c24]; rfl) (by decide) ?_
      refine lv_aload_n hx hb dL_law_840 rfl (lv_at hl 1 rfl) ?_
      refine lawx (s := s.setDrawn d0) (As := []) (rest := []) (ci := 6) (cg_X5_save l D ct a0 ax  h _ (s_save j (by omega) ax h M  hrel)) B hK hN hZ hA hW hP hdis hS ho rfl k_X5_save q_35_3 rfl ⟨Nat.le_of_ble_eq_true rfl, Nat.le_of_ble_eq_true rfl⟩ ⟨by show _ ≤ 600000; omega, by show _ ≤ 7302250; omega⟩ hl.1 rfl (Nat.le_of_ble_eq_true rfl) dL_law_841 (fun r h1 H1 locs1 hq hW hP hdis hS => ?_)
      obtain ⟨q, eq, er, hrel1⟩ := hq
      refine lv_aload_n hx hb dL_law_844 rfl (lv_at hl 2 rfl) ?_
      refine lawm (s := s.setDrawn d0) (As := []) (rest := [.int r]) (c_X6_save l D o (ct 0) (ct 1)  M.1 M.2.1 M.2.2.1 M.2.2.2.1 M.2.2.2.2.1 M.2.2.2.2.2.1 M.2.2.2.2.2.2.1 M.2.2.2.2.2.2.2.1 M.2.2.2.2.2.2.2.2.1 M.2.2.2.2.2.2.2.2.2.1 M.2.2.2.2.2.2.2.2.2.2.1 M.2.2.2.2.2.2.2.2.2.2.2.1 M.2.2.2.2.2.2.2.2.2.2.2.2.1 M.2.2.2.2.2.2.2.2.2.2.2.2.2.1 M.2.2.2.2.2.2.2.2.2.2.2.2.2.2.1 M.2.2.2.2.2.2.2.2.2.2.2.2.2.2.2.1 M.2.2.2.2.2.2.2.2.2.2.2.2.2.2.2.2.1 M.2.2.2.2.2.2.2.2.2.2.2.2.2.2.2.2.2.1 M.2.2.2.2.2.2.2.2.2.2.2.2.2.2.2.2.2.2.1 M.2.2.2.2.2.2.2.2.2.2.2.2.2.2.2.2.2.2.2.1 M.2.2.2.2.2.2.2.2.2.2.2.2.2.2.2.2.2.2.2.2.1 M.2.2.2.2.2.2.2.2.2.2.2.2.2.2.2.2.2.2.2.2.2 q eq) B hK hDD hA hW hP hdis hS rfl rfl (va_recv (s := s) hK hP (ci := 7) (q0 := 0) rfl rfl) k_X6_save q_35_7 rfl ⟨Nat.le_of_ble_eq_true rfl, Nat.le_of_ble_eq_true rfl⟩ ⟨by show _ ≤ 600000; omega, by show _ ≤ 7302250; omega⟩ hl.1 rfl (Nat.le_of_ble_eq_true rfl) dL_law_845 (fun H1 locs1 hW hP hdis hS => ?_)
      refine lv_icmp_eq (tgt := 866) hx hb dL_law_848 (by decide) (fun _ => ?_) (fun cq => absurd er.symm cq)
      exact hend h1 _ d0 H1 locs1 ls _ _ hd0 hrel1 hW hP hdis hS (by omega) (by omega) hl
    by_cases c25 : op = (25 : Int32)
    · refine lv_tableIn (off := 821) (tgt := 853) hx hb dL_law_32 (by rw [c25]; decide) (by rw [c25]; decide) (by rw [c25]; rfl) (by decide) ?_
      refine lv_aload_n hx hb dL_law_853 rfl (lv_at hl 1 rfl) ?_
      refine lawx (s := s.setDrawn d0) (As := []) (rest := []) (ci := 6) (cg_X5_restore l D ct a0 ax  h _ (s_restore j (by omega) ax h M  hrel)) B hK hN hZ hA hW hP hdis hS ho rfl k_X5_restore q_35_12 rfl ⟨Nat.le_of_ble_eq_true rfl, Nat.le_of_ble_eq_true rfl⟩ ⟨by show _ ≤ 600000; omega, by show _ ≤ 7302250; omega⟩ hl.1 rfl (Nat.le_of_ble_eq_true rfl) dL_law_854 (fun r h1 H1 locs1 hq hW hP hdis hS => ?_)
      obtain ⟨q, eq, er, hrel1⟩ := hq
      refine lv_aload_n hx hb dL_law_857 rfl (lv_at hl 2 rfl) ?_
      refine lawm (s := s.setDrawn d0) (As := []) (rest := [.int r]) (c_X6_restore l D o (ct 0) (ct 1)  M.1 M.2.1 M.2.2.1 M.2.2.2.1 M.2.2.2.2.1 M.2.2.2.2.2.1 M.2.2.2.2.2.2.1 M.2.2.2.2.2.2.2.1 M.2.2.2.2.2.2.2.2.1 M.2.2.2.2.2.2.2.2.2.1 M.2.2.2.2.2.2.2.2.2.2.1 M.2.2.2.2.2.2.2.2.2.2.2.1 M.2.2.2.2.2.2.2.2.2.2.2.2.1 M.2.2.2.2.2.2.2.2.2.2.2.2.2.1 M.2.2.2.2.2.2.2.2.2.2.2.2.2.2.1 M.2.2.2.2.2.2.2.2.2.2.2.2.2.2.2.1 M.2.2.2.2.2.2.2.2.2.2.2.2.2.2.2.2.1 M.2.2.2.2.2.2.2.2.2.2.2.2.2.2.2.2.2.1 M.2.2.2.2.2.2.2.2.2.2.2.2.2.2.2.2.2.2.1 M.2.2.2.2.2.2.2.2.2.2.2.2.2.2.2.2.2.2.2.1 M.2.2.2.2.2.2.2.2.2.2.2.2.2.2.2.2.2.2.2.2.1 M.2.2.2.2.2.2.2.2.2.2.2.2.2.2.2.2.2.2.2.2.2 q eq) B hK hDD hA hW hP hdis hS rfl rfl (va_recv (s := s) hK hP (ci := 7) (q0 := 0) rfl rfl) k_X6_restore q_35_16 rfl ⟨Nat.le_of_ble_eq_true rfl, Nat.le_of_ble_eq_true rfl⟩ ⟨by show _ ≤ 600000; omega, by show _ ≤ 7302250; omega⟩ hl.1 rfl (Nat.le_of_ble_eq_true rfl) dL_law_858 (fun H1 locs1 hW hP hdis hS => ?_)
      refine lv_icmp_eq (tgt := 866) hx hb dL_law_861 (by decide) (fun _ => ?_) (fun cq => absurd er.symm cq)
      exact hend h1 _ d0 H1 locs1 ls _ _ hd0 hrel1 hW hP hdis hS (by omega) (by omega) hl
    have nn : op.toInt < 0 ∨ (25 : Int) < op.toInt := by
      have n0 := lv_neT (k := (0 : Int32)) (a := 0) c0 (by decide)
      have n1 := lv_neT (k := (1 : Int32)) (a := 1) c1 (by decide)
      have n2 := lv_neT (k := (2 : Int32)) (a := 2) c2 (by decide)
      have n3 := lv_neT (k := (3 : Int32)) (a := 3) c3 (by decide)
      have n4 := lv_neT (k := (4 : Int32)) (a := 4) c4 (by decide)
      have n5 := lv_neT (k := (5 : Int32)) (a := 5) c5 (by decide)
      have n6 := lv_neT (k := (6 : Int32)) (a := 6) c6 (by decide)
      have n7 := lv_neT (k := (7 : Int32)) (a := 7) c7 (by decide)
      have n8 := lv_neT (k := (8 : Int32)) (a := 8) c8 (by decide)
      have n9 := lv_neT (k := (9 : Int32)) (a := 9) c9 (by decide)
      have n10 := lv_neT (k := (10 : Int32)) (a := 10) c10 (by decide)
      have n11 := lv_neT (k := (11 : Int32)) (a := 11) c11 (by decide)
      have n12 := lv_neT (k := (12 : Int32)) (a := 12) c12 (by decide)
      have n13 := lv_neT (k := (13 : Int32)) (a := 13) c13 (by decide)
      have n14 := lv_neT (k := (14 : Int32)) (a := 14) c14 (by decide)
      have n15 := lv_neT (k := (15 : Int32)) (a := 15) c15 (by decide)
      have n16 := lv_neT (k := (16 : Int32)) (a := 16) c16 (by decide)
      have n17 := lv_neT (k := (17 : Int32)) (a := 17) c17 (by decide)
      have n18 := lv_neT (k := (18 : Int32)) (a := 18) c18 (by decide)
      have n19 := lv_neT (k := (19 : Int32)) (a := 19) c19 (by decide)
      have n20 := lv_neT (k := (20 : Int32)) (a := 20) c20 (by decide)
      have n21 := lv_neT (k := (21 : Int32)) (a := 21) c21 (by decide)
      have n22 := lv_neT (k := (22 : Int32)) (a := 22) c22 (by decide)
      have n23 := lv_neT (k := (23 : Int32)) (a := 23) c23 (by decide)
      have n24 := lv_neT (k := (24 : Int32)) (a := 24) c24 (by decide)
      have n25 := lv_neT (k := (25 : Int32)) (a := 25) c25 (by decide)
      omega
    refine lv_tableOut (tgt := 866) hx hb dL_law_32 nn (by decide) ?_
    exact hend h M d0 H locs ls _ _ hd0 hmono hW hP hdis hS (by omega) (by omega) hl
