/-! THE CLAIM OUT OF ONE WALK OF THE LAW'S BODY. Your part is whole_start (and what it stands on); all else here is the same for every law, but numbers. -/
def R_law : String := "DriftPlansLaw"
def lw_P (b : Addr) (xs : List Int32) (args : Array Value) (s : State) : Prop := args = #[.ref b] ∧ s.IntsAt b xs ∧ xs.length ≤ 260 ∧ (Jvm.Cond.and given_1 narrow_1).before args s = true
/-- what a walk over the start with the record d0 says of its end, said of the start itself -/
theorem lw_closed {s t : State} {o : Outcome} {d0 : Drawn} {L : List Loc} {k n : Nat} (hd0 : s.drawn.sameBut d0 lw_cs) (hv : ∃ v, o = .returned v) (hW : (s.setDrawn d0).WarmedH t.vm) (hs : (s.setDrawn d0).sameButNew ({ t with vm := s.vm } : State) L k n) : State.butDraws s t lw_cs (fun t1 => Framed s o t1 L k n) := by
  have h2 : t.drawn = d0 := congrArg State.drawn hs.1
  refine ⟨⟨hv, hW, State.sameButNew.setDrawn hs s.drawn⟩, ?_, by decide⟩
  rw [h2]
  exact hd0
def lw_Q (_ : Array Value) (s : State) (o : Outcome) (t : State) : Prop := o = .returned (some (.int 1)) ∧ State.butDraws s t lw_cs (fun t1 => Framed s o t1 [] 600000 7302250)
def lw_Z (below : List Frame) (a : Array Value) (s : State) : State → Prop := fun t => ∃ o, t.status = .running ∧ Ended t below o ∧ lw_Q a s o t
/-- the law's own end, with 1 on the stack, nothing written that was there before, its room as the claim has it; d0: the record of draws at this point (at the entry s.drawn: begin with 'refine W.base ?_' and 'have hd0 := Drawn.sameBut.refl s.drawn lw_cs') -/
theorem lw_ret {p : Program} {l : Launch} {e : Env} {s : State} {m : MethodId} {below : List Frame} {meth : Method} {c : Code} {b : Nat} {d0 : Drawn} (hd0 : s.drawn.sameBut d0 lw_cs) (hx : p.tables.exec = Jvm.exec) (hb : c.code = code) (hr : meth.sig.returnType = ret) (hlocks : meth.locks = false) {pc : Nat} {H : Heap} {ls : Array Slot} (hdg : decode code pc = .ok (.ireturn, 1)) : W p l e room_1 (s.setDrawn d0) m #[Value.ref b] below meth c H [] 600000 7302250 (lw_Z below #[Value.ref b] s) (F0 m pc ls [.int 1]) := by
  intro T hT X
  obtain ⟨fs, hret, hrun, hended, hW, hframe⟩ := X.leave (v := some (.int 1)) (hlocks := hlocks) (fun h => by rw [hr] at h; cases h)
  have hmeth' : T.vm.method? m = some meth := X.method'
  refine ⟨T.setFrames fs, ?_, .returned (some (.int 1)), hrun, hended, rfl, lw_closed hd0 ⟨_, rfl⟩ hW hframe⟩
  jvm_step X.here [X.here.top, hx, hb, hdg, hmeth', hr, ret, narrow_b1]
  (try refine ⟨rfl, ?_⟩); (try refine ⟨rfl, ?_⟩)
  first | (intro acts; rw [hret _ acts rfl rfl rfl]) | rw [hret _ _ rfl rfl rfl]
  exact Steps.refl _
/-- what holds at the law's entry: the machine, the code, the tables' words (any of lw_tbl by 'hts w (by decide +kernel)'), the script of L ints xs at the cell b, what the Statement gives of the start (any of its parts by flat_of_before) -/
def lw_At (p : Program) (s : State) (m : MethodId) (meth : Method) (c : Code) (b L : Nat) (xs : Nat → Int32) : Prop :=
  p.tables.exec = Jvm.exec ∧ c.code = code ∧ meth.sig.returnType = ret ∧ c.maxLocals = 9 ∧ s.vm.findClass R_law = some m.cls ∧ (∀ w ∈ lw_tbl, w.before #[Value.ref b] s = true) ∧ va_X b L xs s s.heap ∧ b < s.heap.size ∧ meth.locks = false ∧ (Jvm.Cond.and given_1 narrow_1).before #[Value.ref b] s = true
/-! what the tables and the Statement give; the script's cells -/
theorem arr_of {U : State} {c : ClassId} {k : Class} {comp : ClassId} {ty : FieldType} (h1 : U.vm.classes[c]? = some k) (h2 : k.kind = .array comp ty) : ArrOfT U c ty := fun _ _ => ⟨(fun q hq => by cases hq), k, h1, comp, h2⟩
theorem tab_arr {s : State} {args : Array Value} (hts0 : ∀ w ∈ lw_tbl, w.before args s = true) : ∃ ct : Nat → ClassId, (∀ (k : Nat) (q : ClassId × FieldType), (tysK ct)[k]? = some q → ArrOfT s q.1 q.2 ∧ va_RA s q.1 q.2) ∧ va_AO "java/lang/Object" s ∧ va_AOA .int s := by
  have wI := hts0 (.arrayClass .int) (wsL_law_in _ q_1_3)
  have wJ := hts0 (.arrayClass .long) (wsL_law_in _ q_1_4)
  have wC := hts0 (.arrayClass .char) (wsL_law_in _ q_3_20)
  have wO := hts0 (.arrayOver (.object "java/lang/Object")) (wt_ (List.mem_of_getElem? (i := 438) (by decide +kernel)))
  have wG := hts0 (.arrayOver (.array .int)) (wt_ (List.mem_of_getElem? (i := 31) (by decide +kernel)))
  obtain ⟨c0, k0, p0, f0, g0, e0⟩ := Cond.arrayClass_spec wI
  obtain ⟨c1, k1, p1, f1, g1, e1⟩ := Cond.arrayClass_spec wJ
  obtain ⟨c2, k2, p2, f2, g2, e2⟩ := Cond.arrayClass_spec wC
  obtain ⟨p3, c3, k3, u3, i3, g3, e3, f3⟩ := Cond.arrayOver_spec wO
  obtain ⟨p4, c4, k4, u4, g4, e4, f4⟩ := Jvm.Cond.arrayOver_specA wG
  refine ⟨fun i => if i = 0 then c0 else if i = 1 then c1 else if i = 2 then c2 else if i = 3 then c3 else c4, ?_, va_AO.of wO, wG⟩
  intro k q hq
  match k, hq with
  | 0, hq => cases hq; exact ⟨arr_of g0 e0, f0⟩
  | 1, hq => cases hq; exact ⟨arr_of g1 e1, f1⟩
  | 2, hq => cases hq; exact ⟨arr_of g2 e2, f2⟩
  | 3, hq => cases hq; exact ⟨arr_of g3 e3, ⟨k3, p3, g3, e3, u3, f3⟩⟩
  | 4, hq => cases hq; exact ⟨arr_of g4 e4, f4⟩
  | k + 5, hq => simp [tysK] at hq
theorem tab_cls {s : State} {args : Array Value} (hts0 : ∀ w ∈ lw_tbl, w.before args s = true) : ∃ (dC : Nat → ClassId) (dI : Nat → Nat → Nat), ∀ (k : Nat) (q : vw_C), vwCl[k]? = some q → u_Kn s q.1 q.2.1 q.2.2 (dC k) (dI k) := by
  have hts : ∀ w ∈ wsL_law, w.before args s = true := fun w hw => hts0 w (wsL_law_in w hw)
  obtain ⟨c0, i0, h0⟩ := u_known (C := RJx4a65c) (T := TJx4a65c) (N := 3) (n := 3) hts inlJx4a65c (hts (.instantiable RJx4a65c 3) q_1_18)
  obtain ⟨c1, i1, h1⟩ := u_known (C := RX0) (T := TX0) (N := 5) (n := 5) hts inlX0 (hts (.instantiable RX0 5) q_13_5)
  obtain ⟨c2, i2, h2⟩ := u_known (C := RX1) (T := TX1) (N := 2) (n := 2) hts inlX1 (hts (.instantiable RX1 2) q_2_2)
  obtain ⟨c3, i3, h3⟩ := u_known (C := RX0) (T := TX0) (N := 5) (n := 5) hts inlX0 (hts (.instantiable RX0 5) q_13_5)
  obtain ⟨c4, i4, h4⟩ := u_known (C := RX3) (T := TX3) (N := 3) (n := 3) hts inlX3 (hts (.instantiable RX3 3) q_1_22)
  obtain ⟨c5, i5, h5⟩ := u_known (C := RX4) (T := TX4) (N := 14) (n := 14) hts inlX4 (hts (.instantiable RX4 14) q_1_13)
  obtain ⟨c6, i6, h6⟩ := u_known (C := RX5) (T := TX5) (N := 7) (n := 7) hts inlX5 (hts (.instantiable RX5 7) q_1_1)
  refine ⟨fun k => if k = 0 then c0 else if k = 1 then c1 else if k = 2 then c2 else if k = 3 then c3 else if k = 4 then c4 else if k = 5 then c5 else c6, fun k => if k = 0 then i0 else if k = 1 then i1 else if k = 2 then i2 else if k = 3 then i3 else if k = 4 then i4 else if k = 5 then i5 else i6, ?_⟩
  intro k q hq
  match k, hq with
  | 0, hq => cases hq; exact h0
  | 1, hq => cases hq; exact h1
  | 2, hq => cases hq; exact h2
  | 3, hq => cases hq; exact h3
  | 4, hq => cases hq; exact h4
  | 5, hq => cases hq; exact h5
  | 6, hq => cases hq; exact h6
  | k + 7, hq => simp [vwCl] at hq
theorem tab_NE {s : State} {args : Array Value} (hts0 : ∀ w ∈ lw_tbl, w.before args s = true) : NE s := by
  refine ⟨?_, ?_⟩
  · show ∀ q ∈ [("DriftPlans", 35, yX1_init, "DriftPlans"), ("DriftPlans", 35, yX1_init, "DriftPlans"), ("DriftPlans", 35, yX1_init, "DriftPlans"), ("DriftPlans$Reckoner", 22, yX5_bit, "DriftPlans"), ("DriftPlans$Reckoner", 26, yX5_has, "DriftPlans"), ("DriftPlans$Reckoner", 40, yX5_longerOrder, "DriftPlans"), ("DriftPlans$Reckoner", 44, yX5_isSet, "DriftPlans"), ("DriftPlans$Reckoner", 70, yX5_tableAt, "DriftPlans"), ("DriftPlans$State", 113, yX5_has, "DriftPlans"), ("DriftPlans", 35, yX1_init, "DriftPlans"), ("DriftPlans$State", 79, yX5_hasAll, "DriftPlans")], va_Nw (.methodLinkNest q.1 q.2.1 q.2.2.1 q.2.2.2) s
    exact List.forall_mem_cons.mpr ⟨va_Nw.of rfl (hts0 _ (wt_ (List.mem_of_getElem? (i := 137) (by decide +kernel)))), List.forall_mem_cons.mpr ⟨va_Nw.of rfl (hts0 _ (wt_ (List.mem_of_getElem? (i := 137) (by decide +kernel)))), List.forall_mem_cons.mpr ⟨va_Nw.of rfl (hts0 _ (wt_ (List.mem_of_getElem? (i := 137) (by decide +kernel)))), List.forall_mem_cons.mpr ⟨va_Nw.of rfl (hts0 _ (wt_ (List.mem_of_getElem? (i := 230) (by decide +kernel)))), List.forall_mem_cons.mpr ⟨va_Nw.of rfl (hts0 _ (wt_ (List.mem_of_getElem? (i := 233) (by decide +kernel)))), List.forall_mem_cons.mpr ⟨va_Nw.of rfl (hts0 _ (wt_ (List.mem_of_getElem? (i := 242) (by decide +kernel)))), List.forall_mem_cons.mpr ⟨va_Nw.of rfl (hts0 _ (wt_ (List.mem_of_getElem? (i := 245) (by decide +kernel)))), List.forall_mem_cons.mpr ⟨va_Nw.of rfl (hts0 _ (wt_ (List.mem_of_getElem? (i := 259) (by decide +kernel)))), List.forall_mem_cons.mpr ⟨va_Nw.of rfl (hts0 _ (wt_ (List.mem_of_getElem? (i := 286) (by decide +kernel)))), List.forall_mem_cons.mpr ⟨va_Nw.of rfl (hts0 _ (wt_ (List.mem_of_getElem? (i := 137) (by decide +kernel)))), List.forall_mem_cons.mpr ⟨va_Nw.of rfl (hts0 _ (wt_ (List.mem_of_getElem? (i := 336) (by decide +kernel)))), (fun _ h => absurd h List.not_mem_nil)⟩⟩⟩⟩⟩⟩⟩⟩⟩⟩⟩
  · show ∀ q ∈ [("DriftPlans$Kept", "java/lang/Object"), ("DriftPlans$State", "java/lang/Object"), ("[I", "java/lang/Object"), ("[I", "java/lang/Cloneable"), ("[Ljava/lang/Object;", "java/lang/Object")], va_Nw (.castable q.1 q.2) s
    exact List.forall_mem_cons.mpr ⟨va_Nw.of rfl (hts0 _ (wt_ (List.mem_of_getElem? (i := 585) (by decide +kernel)))), List.forall_mem_cons.mpr ⟨va_Nw.of rfl (hts0 _ (wt_ (List.mem_of_getElem? (i := 581) (by decide +kernel)))), List.forall_mem_cons.mpr ⟨va_Nw.of rfl (hts0 _ (wt_ (List.mem_of_getElem? (i := 590) (by decide +kernel)))), List.forall_mem_cons.mpr ⟨va_Nw.of rfl (hts0 _ (wt_ (List.mem_of_getElem? (i := 553) (by decide +kernel)))), List.forall_mem_cons.mpr ⟨va_Nw.of rfl (hts0 _ (wt_ (List.mem_of_getElem? (i := 593) (by decide +kernel)))), (fun _ h => absurd h List.not_mem_nil)⟩⟩⟩⟩⟩
theorem tab_SE {s : State} {args : Array Value} {A : Nat → Prop} (hts0 : ∀ w ∈ lw_tbl, w.before args s = true) (hgv : (Jvm.Cond.and given_1 narrow_1).before args s = true) (hA : ∀ a : Nat, a < s.heap.size → ¬ A a) : ∃ a0 : Nat, SE a0 A s s.heap := by
  have hf := flat_of_before _ hgv
  have h1 : (Cond.arrayOf (.static "java/util/ArrayList" "DEFAULTCAPACITY_EMPTY_ELEMENTDATA" "[Ljava/lang/Object;") (.object "java/lang/Object")).before args s = true := hf _ (by decide +kernel)
  have h2 : (Cond.eq (.length (.static "java/util/ArrayList" "DEFAULTCAPACITY_EMPTY_ELEMENTDATA" "[Ljava/lang/Object;")) (.int 0)).before args s = true := hf _ (by decide +kernel)
  have h3 : (Cond.eq (.length (.static "java/util/ArrayList" "DEFAULTCAPACITY_EMPTY_ELEMENTDATA" "[Ljava/lang/Object;")) (.int 0)).value args s none s [] = some true := by
    simpa [Cond.before, Cond.holds] using h2
  have hlen := Jvm.RoadKit.eqv_i (y := 0) rfl h3
  obtain ⟨t, ht, hT⟩ := va_Tof (N := 0) (f := fun _ => .null) (A := A) (by decide) h1 hlen (fun j hj => absurd hj (Nat.not_lt_zero j)) hA
  exact ⟨t, va_Zref (hts0 _ (wt_ (List.mem_of_getElem? (i := 45) (by decide +kernel)))) (hts0 _ (wsL_law_in _ q_1_19)) ht hA, hT⟩
theorem k_L_cell : SOk yL_cell cL_cell 2 (some .int) 2 := ⟨q_4_2, q_4_0, q_4_1, by decide +kernel⟩
section KCE
variable {p : Program} {l : Launch} {e : Env} {R : Room} {s : State} {m : MethodId} {args : Array Value} {below : List Frame} {meth : Method} {c : Code} {H : Heap} {locs : List Loc} {cells slots : Nat} {Q : State → Prop}
variable {pc : Nat} {ls : Array Slot} {rest st0 : List Value} {cc : ByteArray} {nL idx : Nat} {own : String} {A : Nat → Prop}
theorem kcell_call {b L : Nat} {xs : Nat → Int32} {k : Int32} (hX : va_X b L xs s s.heap) (hbl : b < s.heap.size) (hbA : ¬ A b) (h0 : ¬ k < 0) (hL : L < 2 ^ 31) (B : BX p s m args c cc nL own) (hS : va_S A s.heap H locs) (hlink : Cond.methodLink own idx yL_cell ∈ wsL_law) (hR : 0 + 1 ≤ R.frames ∧ 8 + (2 + 11) + 40 * 0 ≤ R.locals) (hC : cells ≤ R.cells ∧ slots ≤ R.slots) (hsz : ls.size = nL) (hst : st0 = .int k :: .ref b :: rest) (hWd : (rest.map fun v => v.category).sum ≤ 8) (hdg : decode cc pc = .ok (.invokestatic idx, 3))
    (kk : W p l e R s m args below meth c H locs cells slots Q (F0 m (pc + 3) ls (.int (cel L xs k) :: rest))) : W p l e R s m args below meth c H locs cells slots Q (F0 m pc ls st0) := by
  obtain ⟨hx, hb, hml, hown, hts⟩ := B
  obtain ⟨o1, o2, o3, o4⟩ := k_L_cell
  refine s_run (v := some (.int (cel L xs k))) (va_runS (As := [.ref b, .int k]) (rest := rest) (Ts := wsL_law) (n := 2) ⟨hx, hb, hml, hown, hts⟩ (c_cell l (b := b) (L := L) (xs := xs) (k := k) h0 hL) ⟨callB_of 2 hts (good_WSy o1) rfl rfl rfl (hts _ o3) (hts _ hlink) o4 hR, hts _ o2⟩ ⟨fun a U g mk q => ?_, fun U hU hW => ⟨rfl, ?_, ?_⟩⟩ rfl rfl hsz hst (lv_room hWd) hdg hC) kk
  · obtain ⟨h1, h2, h3⟩ := q
    exact ⟨h1, va_X.moved (u := U) (U := U.calling g mk a) (Vm.Alike.refl U.vm) h2, h3⟩
  · rw [hU]
    exact va_X.moved hW.alike (hX.kept (hS.2.1 b hbl hbA))
  · rw [hU]
    exact Nat.lt_of_lt_of_le hbl hS.1
end KCE
theorem and31 (x : Int32) : ∃ n, n < 2 ^ 31 ∧ (x &&& (2147483647 : Int32)) = nI n := by
  refine ⟨(x &&& (2147483647 : Int32)).toUInt32.toNat, ?_, (nI_all _).symm⟩
  rw [Int32.toUInt32_and, UInt32.toNat_and]
  exact Nat.and_lt_two_pow _ (by decide)
