/-! the quotient of two longs is a number -/
theorem nan_of {r : UInt64} (h : isNaN64 r = true) : Jvm.FP.Core.val64 r = .nan := by
  refine (Jvm.FP.Core.dIsNaN_iff r).mp ((Jvm.FP.Core.isNaN_bits r).mpr ?_)
  unfold isNaN64 at h
  have h1 : (0x7ff0000000000000 : UInt64) < r &&& 0x7fffffffffffffff := of_decide_eq_true h
  have h2 := UInt64.lt_iff_toNat_lt.mp h1
  rw [UInt64.toNat_and] at h2
  have h3 : (0x7fffffffffffffff : UInt64).toNat = 2 ^ 63 - 1 := by decide
  rw [h3, Nat.and_two_pow_sub_one_eq_mod] at h2
  exact h2
theorem quo_num {x y : Int64} (h : ¬ y = 0) : Jvm.FP.Core.val64 (FP.ddiv (FP.l2d x) (FP.l2d y)) ≠ .nan := by
  intro hn
  have h1 : Jvm.FP.Core.dIsNaN (Jvm.FP.Core.ddiv (Jvm.FP.Core.l2d x) (Jvm.FP.Core.l2d y)) = false := by
    refine Jvm.FP.Core.ddiv_out ?_ (Jvm.FP.Core.l2d_fin y) (fun z => Jvm.FP.Core.l2d_ne_zero h ((Jvm.FP.Core.zero_bits2 _).mp z))
    cases q : Jvm.FP.Core.dIsNaN (Jvm.FP.Core.l2d x) with
    | false => rfl
    | true =>
      obtain ⟨a, b, c, e⟩ := Jvm.FP.Core.l2d_fin x
      rw [(Jvm.FP.Core.dIsNaN_iff _).mp q] at e
      cases e
  have h2 := (Jvm.FP.Core.dIsNaN_iff _).mpr hn
  have h3 : (true : Bool) = false := h2.symm.trans h1
  cases h3
theorem quo_n64 {x y : Int64} (h : ¬ y = 0) : isNaN64 (FP.ddiv (FP.l2d x) (FP.l2d y)) = false := by
  cases q : isNaN64 (FP.ddiv (FP.l2d x) (FP.l2d y)) with
  | false => rfl
  | true => exact absurd (nan_of q) (quo_num h)
theorem quo_v {x y : Int64} (h : ¬ y = 0) : vf_n64 (FP.ddiv (FP.l2d x) (FP.l2d y)) := by
  have h1 := quo_n64 (x := x) h
  unfold isNaN64 at h1
  have h2 := of_decide_eq_false h1
  unfold vf_n64
  rw [UInt64.le_iff_toNat_le]
  have h3 : ¬ (0x7ff0000000000000 : UInt64) < (FP.ddiv (FP.l2d x) (FP.l2d y)) &&& 0x7fffffffffffffff := h2
  rw [UInt64.lt_iff_toNat_lt] at h3
  omega
theorem quo_alike {x y : Int64} {r : UInt64} (h : ¬ y = 0) (ha : alike64 r (FP.ddiv (FP.l2d x) (FP.l2d y)) = true) : r = FP.ddiv (FP.l2d x) (FP.l2d y) := by
  simp only [alike64, Bool.or_eq_true, Bool.and_eq_true, decide_eq_true_eq] at ha
  rcases ha with ha | ha
  · exact ha
  · rw [quo_n64 h] at ha; cases ha.2
def fitQ (ct : Nat → ClassId) (a0 : Nat) (o : Nat) (x6 x8 : Int64) (Post : Int32 → KH → Prop) (h : KH) : Prop := frC h o (fun hc P => g_X5_fitness ct a0 o hc P) (fun (v : DR) h1 => v = (if x8 = 0 then none else some (FP.l2d x6, FP.l2d x8)) ∧ Post 1 h1)
set_option maxRecDepth 100000 in
set_option maxHeartbeats 4000000 in
theorem CKI.mk {l : Launch} {D : va_G} {ct : Nat → ClassId} {a0 : Nat} {h : KH} {o : Nat} {As : List Value} {Post : Int32 → KH → Prop} (hy : plainName yL_arePlans.cls = true) (hn : (lg_sl (.ref o :: As)).length ≤ 18)
    (body : ∀ (p : Program) (e : Env) (s : State) (m : MethodId) (below : List Frame) (meth : Method) (c : Code) (Q : State → Prop) (A : Nat → Prop), KX p s m (Value.ref o :: As).toArray meth c cL_arePlans 18 yL_arePlans D ct a0 A →
      (∀ (H : Heap) (locs : List Loc) (pc : Nat) (ls : Array Slot) (r : Int32) (h1 : KH), narrow .boolean (.int r) = .int r → decode cL_arePlans pc = .ok (.ireturn, 1) → Post r h1 → KW D A h1 H → va_S A s.heap H locs → W p l e (rmF 5 0 0) s m (Value.ref o :: As).toArray below meth c H locs 0 0 Q (F0 m pc ls [.int r])) →
      (∀ (H : Heap) (locs : List Loc) (ls : Array Slot) (x6 x8 : Int64) (h1 : KH), fitQ ct a0 o x6 x8 Post h1 → KW D A h1 H → va_S A s.heap H locs → lv_has ls 18 [(8, .long x8), (6, .long x6)] → W p l e (rmF 5 0 0) s m (Value.ref o :: As).toArray below meth c H locs 0 0 Q (F0 m 337 ls [.ref o])) →
      KW D A h s.heap → va_S A s.heap s.heap [] → ∀ ls : Array Slot, lv_has ls 18 (lv_args 0 (.ref o :: As)) → W p l e (rmF 5 0 0) s m (Value.ref o :: As).toArray below meth c s.heap [] 0 0 Q (F0 m 0 ls [])) : CKI l yL_arePlans cL_arePlans 18 5 0 0 (some .boolean) D ct a0 (.ref o :: As) vI h Post := by
  intro sz
  refine MetD.ofW (cc := cL_arePlans) (maxL := 18) (ret := some .boolean) hy rfl ?_
  intro p e s m args below meth c s₁ B hml hv hd0
  obtain ⟨rfl, hsz, hP, hK, hN, hZ⟩ := hv
  subst hsz
  rw [lg_entry_eq]
  have hlocks := B.notSynchronized
  have hx := B.exec
  have hb := B.bytes
  have hr := B.returns
  have hts : ∀ w ∈ wsL_law, w.before (Value.ref o :: As).toArray s = true := fun w hw => atoms_spec (ws := WSy yL_arePlans cL_arePlans 18 (some .boolean)) B.pre w (List.mem_cons_of_mem _ hw)
  have hown : s.vm.findClass yL_arePlans.cls = some m.cls := findClass_of_methodNamed B.named
  have hA : ∀ q : Nat, s.heap.size ≤ q → KA h s.heap.size q := fun q h => Or.inr h
  refine body p e s m below meth c (MQD lw_cs below (kQ D vI Post (KA h s.heap.size)) (Value.ref o :: As).toArray s 0 0 (KA h s.heap.size)) (KA h s.heap.size) ⟨⟨hx, hb, hml, hown, hts⟩, (name_of_methodNamed B.named B.method).1, hK, hN, hZ, hA⟩
    (fun H locs pc ls r h1 hnar hd hp hW' hS' => ?_) (fun H locs ls x6 x8 h1 hq hW' hS' hl => ?_) hP va_S.rf _ (lv_entry (.ref o :: As) hn)
  · refine W.base ?_
    refine W.endD hd0 ?_
    exact W.zret hx hb hr hnar (fun t ht hw => ⟨⟨r, h1, rfl, hp, by rw [ht]; exact hW'⟩, hS'.F ht⟩) hS'.2.2 hd hlocks
  · refine W.base ?_
    have hq : frC h1 o (fun hc P => g_X5_fitness ct a0 o hc P) (fun (v : DR) h1 => v = (if x8 = 0 then none else some (FP.l2d x6, FP.l2d x8)) ∧ Post 1 h1) := hq
    have B9 : BX p (s.setDrawn s.drawn) m (Value.ref o :: As).toArray c cL_arePlans 18 RL := ⟨hx, hb, hml, hown, dr_words hts s.drawn⟩
    refine kxD_call (s := s) (As := []) (rest := []) hd0 hq (fun hc P hq9 => cg_X5_fitness l D ct a0 o hc P hq9) B9 hK hN hZ hA hW' hS' rfl k_X5_fitness q_19_7 rfl ⟨Nat.le_of_ble_eq_true rfl, Nat.le_of_ble_eq_true rfl⟩ ⟨Nat.le_refl _, Nat.le_refl _⟩ hl.1 rfl (Nat.le_of_ble_eq_true rfl) dL_arePlans_337 (fun r v h2 H1 locs1 d1 hd1 hv1 hq1 hW1 hS1 => ?_)
    obtain ⟨ev, hp⟩ := hq1
    refine lv_lload hx hb dL_arePlans_340 (lv_at hl 0 rfl) ?_
    refine lv_lconst (v := (0 : Int64)) hx hb dL_arePlans_342 (by decide) ?_
    refine W.lcmp hx hb dL_arePlans_343 ?_
    have fin : ∀ (z : UInt64), Jvm.FP.Core.val64 z ≠ .nan → r = z → W p l e (rmF 5 0 0) (s.setDrawn d1) m (Value.ref o :: As).toArray below meth c H1 locs1 (0 + 0) (0 + 0) (MQD lw_cs below (kQ D vI Post (KA h s.heap.size)) (Value.ref o :: As).toArray s 0 0 (KA h s.heap.size)) (F0 m 358 ls [.double z, .double r]) := fun z hz er => by
      refine lv_dcmp hx hb dL_arePlans_358 ?_
      have ez : Op.cmpValue (FP.dcmp r z) CmpOp.l = 0 := by
        have e9 : FP.dcmp r z = some .eq := by rw [er]; exact Jvm.FP.Core.dcmp_self hz
        rw [e9]; decide
      refine lv_if_ne (tgt := 366) hx hb dL_arePlans_359 (by decide) (fun c1 => absurd ez c1) (fun _ => ?_)
      refine lv_iconst (v := (1 : Int32)) hx hb dL_arePlans_362 (by decide) ?_
      refine lv_goto (tgt := 367) hx hb dL_arePlans_363 (by decide) ?_
      refine W.endD hd1 ?_
      exact W.zret hx hb hr nb1 (fun t ht hw => ⟨⟨1, h2, rfl, hp, by rw [ht]; exact hW1⟩, hS1.F ht⟩) hS1.2.2 dL_arePlans_367 hlocks
    refine lv_if_ne (tgt := 351) hx hb dL_arePlans_344 (by decide) (fun c1 => ?_) (fun c1 => ?_)
    · have h8 : ¬ x8 = 0 := fun z => c1 ((lg_cmp_eq x8 0).mpr z)
      rw [if_neg h8] at ev
      subst ev
      refine lv_lload hx hb dL_arePlans_351 (lv_at hl 1 rfl) ?_
      refine lv_l2d hx hb dL_arePlans_353 ?_
      refine lv_lload hx hb dL_arePlans_354 (lv_at hl 0 rfl) ?_
      refine lv_l2d hx hb dL_arePlans_356 ?_
      refine lv_ddiv hx hb dL_arePlans_357 (quo_v h8) ?_
      exact fin _ (quo_num h8) (quo_alike h8 hv1)
    · have h8 : x8 = 0 := (lg_cmp_eq x8 0).mp c1
      rw [if_pos h8] at ev
      subst ev
      refine lv_dconst1 hx hb dL_arePlans_347 ?_
      refine lv_goto (tgt := 358) hx hb dL_arePlans_348 (by decide) ?_
      exact fin _ (by decide +kernel) hv1
/-- the script's cells, beyond its end numbers of their own -/
def cel (L : Nat) (xs : Nat → Int32) (k : Int32) : Int32 := if Int32.ofNat L ≤ k then (40503 : Int32) * (k + 3) else xs k.toNatClampNeg
theorem c_cell (l : Launch) {b L : Nat} {xs : Nat → Int32} {k : Int32} (h0 : ¬ k < 0) (hL : L < 2 ^ 31) : Met l yL_cell (WSy yL_cell cL_cell 2 (some .int)) (rmF 0 0 0) (va_Pc [.ref b, .int k] (fun U => va_X b L xs U U.heap ∧ b < U.heap.size)) (sQ (some (.int (cel L xs k)))) 0 0 (fun _ => False) := by
  refine Met.ofW (cc := cL_cell) (maxL := 2) (ret := some .int) (by decide) rfl ?_
  intro p e s m args below meth c s₁ B hml hv
  obtain ⟨rfl, hX, hbl⟩ := hv
  have hx := B.exec
  have hb := B.bytes
  have hts : ∀ w ∈ wsL_law, w.before #[Value.ref b, Value.int k] s = true := fun w hw => atoms_spec (ws := WSy yL_cell cL_cell 2 (some .int)) B.pre w (List.mem_cons_of_mem _ hw)
  have hown : s.vm.findClass yL_cell.cls = some m.cls := findClass_of_methodNamed B.named
  have hS : va_S (fun _ => False) s.heap s.heap [] := va_S.rf
  have hend : ∀ (pc : Nat) (ls : Array Slot), decode cL_cell pc = .ok (.ireturn, 1) → W p l e (rmF 0 0 0) s m #[Value.ref b, Value.int k] below meth c s.heap [] 0 0 (MQ below (sQ (some (.int (cel L xs k)))) #[Value.ref b, Value.int k] s 0 0 (fun _ => False)) (F0 m pc ls [.int (cel L xs k)]) := fun pc ls hd => W.zret hx hb B.returns (vp_nar_int _) (fun t ht hW => ⟨rfl, ht⟩) (fun q h => by cases h) hd B.notSynchronized
  have hl := lv_entry ([.ref b, .int k]) (n := 2) (Nat.le_of_ble_eq_true rfl)
  rw [lg_entry_eq]
  generalize (lg_sl ([.ref b, .int k]) ++ List.replicate (2 - (lg_sl ([.ref b, .int k])).length) Slot.unset).toArray = ls at hl ⊢
  have hl : lv_has ls 2 [(0, .ref b), (1, .int k)] := hl
  refine lv_iload_n hx hb dL_cell_0 rfl (lv_at hl 1 rfl) ?_
  refine lv_aload_n hx hb dL_cell_1 rfl (lv_at hl 0 rfl) ?_
  refine va_slen hx hb hX hbl (fun z => z) hS dL_cell_2 ?_
  refine lv_icmp_ge (tgt := 12) hx hb dL_cell_3 (by decide) (fun c0 => ?_) (fun c0 => ?_)
  · refine lv_ldc (v := (40503 : Int32)) hx hb hown (hts _ q_4_3) dL_cell_12 ?_
    refine lv_iload_n hx hb dL_cell_14 rfl (lv_at hl 1 rfl) ?_
    refine lv_iconst (v := (3 : Int32)) hx hb dL_cell_15 (by decide) ?_
    refine lv_iadd hx hb dL_cell_16 ?_
    refine lv_imul hx hb dL_cell_17 ?_
    have e : cel L xs k = (40503 : Int32) * (k + 3) := if_pos c0
    rw [← e]
    exact hend 18 ls dL_cell_18
  · refine lv_aload_n hx hb dL_cell_6 rfl (lv_at hl 0 rfl) ?_
    refine lv_iload_n hx hb dL_cell_7 rfl (lv_at hl 1 rfl) ?_
    have hin : vp_in k L := by
      intro z
      rcases z with z | z
      · exact h0 z
      · refine c0 (Int32.le_iff_toInt_le.mpr ?_)
        have hk0 : (0 : Int) ≤ k.toInt := Int.not_lt.mp (fun y => h0 (Int32.lt_iff_toInt_lt.mpr y))
        have e1 : (Int32.ofNat L).toInt = (L : Int) := nI_toInt (by omega)
        have e2 : k.toNatClampNeg = k.toInt.toNat := rfl
        rw [e1]
        omega
    refine va_sld hx hb hX hbl (fun z => z) hS hin dL_cell_8 ?_
    refine lv_goto (tgt := 18) hx hb dL_cell_9 (by decide) ?_
    have e : cel L xs k = xs k.toNatClampNeg := if_neg c0
    rw [← e]
    exact hend 18 ls dL_cell_18
