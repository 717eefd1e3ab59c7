/-! the law's start: what the tables and the Statement give; two objects made; then the loop -/
theorem arr_of {U : State} {c : ClassId} {k : Class} {comp : ClassId} {ty : FieldType} (h1 : U.vm.classes[c]? = some k) (h2 : k.kind = .array comp ty) : ArrOfT U c ty := fun _ _ => ⟨(fun q hq => by cases hq), k, h1, comp, h2⟩
def StartOK (ct : Nat → ClassId) (a0 : Nat) (Rel : Nat → Nat → KH → MT → Prop) : Prop := ∀ ax : Nat, g_X5_init ct a0 ax (hup (fun _ => none) ax (.inr (6, [.null, .null, .null, .null, .null, .int 0, .int 0]))) (fun _ h1 => ∀ (am : Nat) (h2 : KH), h1 am = none → h2 = hup h1 am (.inr (7, [.null, .null, .null, .null, .null, .null, .null, .null, .int 0, .int 0, .int 0, .null, .int 0, .int 0, .null, .null, .null, .int 0, .null, .int 0, .int 0, .null])) → g_X6_init ct a0 am h2 (fun _ h3 => ∃ (o : Nat → Nat) (M : MT), o 0 = am ∧ inW h3 (MTw o (ct 0) (ct 1) M) ∧ Rel 0 ax (fun q => if q ∈ mad o then none else h3 q) M))
theorem tab_arr {s : State} {args : Array Value} (hts0 : ∀ w ∈ lw_tbl, w.before args s = true) : ∃ ct : Nat → ClassId, (∀ (k : Nat) (q : ClassId × FieldType), (tysK ct)[k]? = some q → ArrOfT s q.1 q.2 ∧ va_RA s q.1 q.2) ∧ va_AO "java/lang/Object" s ∧ va_AOA .int s := by
  have wI := hts0 (.arrayClass .int) (wsL_law_in _ q_2_11)
  have wJ := hts0 (.arrayClass .long) (wsL_law_in _ q_3_15)
  have wC := hts0 (.arrayClass .char) (wsL_law_in _ q_3_22)
  have wO := hts0 (.arrayOver (.object "java/lang/Object")) (wt_ (List.mem_of_getElem? (i := 253) (by decide +kernel)))
  have wG := hts0 (.arrayOver (.array .int)) (wt_ (List.mem_of_getElem? (i := 33) (by decide +kernel)))
  obtain ⟨c0, k0, p0, f0, g0, e0⟩ := Cond.arrayClass_spec wI
  obtain ⟨c1, k1, p1, f1, g1, e1⟩ := Cond.arrayClass_spec wJ
  obtain ⟨c2, k2, p2, f2, g2, e2⟩ := Cond.arrayClass_spec wC
  obtain ⟨p3, c3, k3, u3, i3, g3, e3, f3⟩ := Cond.arrayOver_spec wO
  obtain ⟨p4, c4, k4, u4, g4, e4, f4⟩ := Jvm.Cond.arrayOver_specA wG
  refine ⟨fun i => if i = 0 then c0 else if i = 1 then c1 else if i = 2 then c2 else if i = 3 then c3 else c4, ?_, va_AO.of wO, wG⟩
  intro k q hq
  match k, hq with
  | 0, hq => cases hq; exact ⟨arr_of g0 e0, f0⟩
  | 1, hq => cases hq; exact ⟨arr_of g1 e1, f1⟩
  | 2, hq => cases hq; exact ⟨arr_of g2 e2, f2⟩
  | 3, hq => cases hq; exact ⟨arr_of g3 e3, ⟨k3, p3, g3, e3, u3, f3⟩⟩
  | 4, hq => cases hq; exact ⟨arr_of g4 e4, f4⟩
  | k + 5, hq => simp [tysK] at hq
theorem tab_cls {s : State} {args : Array Value} (hts0 : ∀ w ∈ lw_tbl, w.before args s = true) : ∃ (dC : Nat → ClassId) (dI : Nat → Nat → Nat), ∀ (k : Nat) (q : vw_C), vwCl[k]? = some q → u_Kn s q.1 q.2.1 q.2.2 (dC k) (dI k) := by
  have hts : ∀ w ∈ wsL_law, w.before args s = true := fun w hw => hts0 w (wsL_law_in w hw)
  obtain ⟨c0, i0, h0⟩ := u_known (C := RJx4a65c) (T := TJx4a65c) (N := 3) (n := 3) hts inlJx4a65c (hts (.instantiable RJx4a65c 3) q_1_18)
  obtain ⟨c1, i1, h1⟩ := u_known (C := RX0) (T := TX0) (N := 5) (n := 5) hts inlX0 (hts (.instantiable RX0 5) q_14_1)
  obtain ⟨c2, i2, h2⟩ := u_known (C := RX1) (T := TX1) (N := 2) (n := 2) hts inlX1 (hts (.instantiable RX1 2) q_2_2)
  obtain ⟨c3, i3, h3⟩ := u_known (C := RX2) (T := TX2) (N := 7) (n := 7) hts inlX2 (hts (.instantiable RX2 7) q_22_15)
  obtain ⟨c4, i4, h4⟩ := u_known (C := RX3) (T := TX3) (N := 3) (n := 3) hts inlX3 (hts (.instantiable RX3 3) q_1_22)
  obtain ⟨c5, i5, h5⟩ := u_known (C := RX4) (T := TX4) (N := 14) (n := 14) hts inlX4 (hts (.instantiable RX4 14) q_1_13)
  obtain ⟨c6, i6, h6⟩ := u_known (C := RX5) (T := TX5) (N := 7) (n := 7) hts inlX5 (hts (.instantiable RX5 7) q_1_1)
  obtain ⟨c7, i7, h7⟩ := u_known (C := RX6) (T := TX6) (N := 22) (n := 22) hts inlX6 (hts (.instantiable RX6 22) q_1_4)
  refine ⟨fun k => if k = 0 then c0 else if k = 1 then c1 else if k = 2 then c2 else if k = 3 then c3 else if k = 4 then c4 else if k = 5 then c5 else if k = 6 then c6 else c7, fun k => if k = 0 then i0 else if k = 1 then i1 else if k = 2 then i2 else if k = 3 then i3 else if k = 4 then i4 else if k = 5 then i5 else if k = 6 then i6 else i7, ?_⟩
  intro k q hq
  match k, hq with
  | 0, hq => cases hq; exact h0
  | 1, hq => cases hq; exact h1
  | 2, hq => cases hq; exact h2
  | 3, hq => cases hq; exact h3
  | 4, hq => cases hq; exact h4
  | 5, hq => cases hq; exact h5
  | 6, hq => cases hq; exact h6
  | 7, hq => cases hq; exact h7
  | k + 8, hq => simp [vwCl] at hq
theorem tab_NE {s : State} {args : Array Value} (hts0 : ∀ w ∈ lw_tbl, w.before args s = true) : NE s := by
  refine ⟨?_, ?_⟩
  · show ∀ q ∈ [("DriftPlans", 35, yX1_init, "DriftPlans"), ("DriftPlans$Reader", 65, yX5_isTable, "DriftPlans"), ("DriftPlans$Reader", 69, yX5_bit, "DriftPlans"), ("DriftPlans$Reckoner", 22, yX5_bit, "DriftPlans"), ("DriftPlans$Reckoner", 26, yX5_has, "DriftPlans"), ("DriftPlans$Reckoner", 40, yX5_longerOrder, "DriftPlans"), ("DriftPlans$Reckoner", 44, yX5_isSet, "DriftPlans"), ("DriftPlans$Reckoner", 70, yX5_tableAt, "DriftPlans"), ("DriftPlans$State", 113, yX5_has, "DriftPlans"), ("DriftPlans$State", 132, yX5_driftUp, "DriftPlans"), ("DriftPlans$State", 79, yX5_hasAll, "DriftPlans")], va_Nw (.methodLinkNest q.1 q.2.1 q.2.2.1 q.2.2.2) s
    exact List.forall_mem_cons.mpr ⟨va_Nw.of rfl (hts0 _ (wt_ (List.mem_of_getElem? (i := 139) (by decide +kernel)))), List.forall_mem_cons.mpr ⟨va_Nw.of rfl (hts0 _ (wt_ (List.mem_of_getElem? (i := 529) (by decide +kernel)))), List.forall_mem_cons.mpr ⟨va_Nw.of rfl (hts0 _ (wt_ (List.mem_of_getElem? (i := 530) (by decide +kernel)))), List.forall_mem_cons.mpr ⟨va_Nw.of rfl (hts0 _ (wt_ (List.mem_of_getElem? (i := 372) (by decide +kernel)))), List.forall_mem_cons.mpr ⟨va_Nw.of rfl (hts0 _ (wt_ (List.mem_of_getElem? (i := 373) (by decide +kernel)))), List.forall_mem_cons.mpr ⟨va_Nw.of rfl (hts0 _ (wt_ (List.mem_of_getElem? (i := 380) (by decide +kernel)))), List.forall_mem_cons.mpr ⟨va_Nw.of rfl (hts0 _ (wt_ (List.mem_of_getElem? (i := 383) (by decide +kernel)))), List.forall_mem_cons.mpr ⟨va_Nw.of rfl (hts0 _ (wt_ (List.mem_of_getElem? (i := 421) (by decide +kernel)))), List.forall_mem_cons.mpr ⟨va_Nw.of rfl (hts0 _ (wt_ (List.mem_of_getElem? (i := 300) (by decide +kernel)))), List.forall_mem_cons.mpr ⟨va_Nw.of rfl (hts0 _ (wt_ (List.mem_of_getElem? (i := 635) (by decide +kernel)))), List.forall_mem_cons.mpr ⟨va_Nw.of rfl (hts0 _ (wt_ (List.mem_of_getElem? (i := 288) (by decide +kernel)))), (fun _ h => absurd h List.not_mem_nil)⟩⟩⟩⟩⟩⟩⟩⟩⟩⟩⟩
  · show ∀ q ∈ [("DriftPlans$Kept", "java/lang/Object"), ("DriftPlans$State", "java/lang/Object"), ("[I", "java/lang/Object"), ("[I", "java/lang/Cloneable"), ("[Ljava/lang/Object;", "java/lang/Object")], va_Nw (.castable q.1 q.2) s
    exact List.forall_mem_cons.mpr ⟨va_Nw.of rfl (hts0 _ (wt_ (List.mem_of_getElem? (i := 998) (by decide +kernel)))), List.forall_mem_cons.mpr ⟨va_Nw.of rfl (hts0 _ (wt_ (List.mem_of_getElem? (i := 993) (by decide +kernel)))), List.forall_mem_cons.mpr ⟨va_Nw.of rfl (hts0 _ (wt_ (List.mem_of_getElem? (i := 1004) (by decide +kernel)))), List.forall_mem_cons.mpr ⟨va_Nw.of rfl (hts0 _ (wt_ (List.mem_of_getElem? (i := 414) (by decide +kernel)))), List.forall_mem_cons.mpr ⟨va_Nw.of rfl (hts0 _ (wt_ (List.mem_of_getElem? (i := 1007) (by decide +kernel)))), (fun _ h => absurd h List.not_mem_nil)⟩⟩⟩⟩⟩
theorem tab_SE {s : State} {args : Array Value} {A : Nat → Prop} (hts0 : ∀ w ∈ lw_tbl, w.before args s = true) (hgv : (Jvm.Cond.and given_1 narrow_1).before args s = true) (hA : ∀ a : Nat, a < s.heap.size → ¬ A a) : ∃ a0 : Nat, SE a0 A s s.heap := by
  have hf := flat_of_before _ hgv
  have h1 : (Cond.arrayOf (.static "java/util/ArrayList" "DEFAULTCAPACITY_EMPTY_ELEMENTDATA" "[Ljava/lang/Object;") (.object "java/lang/Object")).before args s = true := hf _ (by decide +kernel)
  have h2 : (Cond.eq (.length (.static "java/util/ArrayList" "DEFAULTCAPACITY_EMPTY_ELEMENTDATA" "[Ljava/lang/Object;")) (.int 0)).before args s = true := hf _ (by decide +kernel)
  have h3 : (Cond.eq (.length (.static "java/util/ArrayList" "DEFAULTCAPACITY_EMPTY_ELEMENTDATA" "[Ljava/lang/Object;")) (.int 0)).value args s none s [] = some true := by
    simpa [Cond.before, Cond.holds] using h2
  have hlen := Jvm.RoadKit.eqv_i (y := 0) rfl h3
  obtain ⟨t, ht, hT⟩ := va_Tof (N := 0) (f := fun _ => .null) (A := A) (by decide) h1 hlen (fun j hj => absurd hj (Nat.not_lt_zero j)) hA
  exact ⟨t, va_Zref (hts0 _ (wt_ (List.mem_of_getElem? (i := 47) (by decide +kernel)))) (hts0 _ (wsL_law_in _ q_1_19)) ht hA, hT⟩
set_option maxRecDepth 100000 in
set_option maxHeartbeats 8000000 in
theorem start_of (hall : ∀ (ct : Nat → ClassId) (a0 : Nat), ∃ Rel : Nat → Nat → KH → MT → Prop, StartOK ct a0 Rel ∧ StepsOK ct a0 Rel) {p : Program} {e : Env} {s : State} {m : MethodId} {below : List Frame} {meth : Method} {c : Code} (l : Launch) {b L : Nat} {xs : Nat → Int32} (hL : L ≤ 2048) (C0 : lw_At p s m meth c b L xs) : W p l e room_1 s m #[Value.ref b] below meth c s.heap [] 0 0 (lw_Z below #[Value.ref b] s) (entryFrame m ([Value.ref b] : List Value).toArray 8) := by
  obtain ⟨hx, hb, hr, hml, hown, hts0, hX, hbl, hlocks, hgv⟩ := id C0
  have hA : ∀ q : Nat, s.heap.size ≤ q → (fun q : Nat => s.heap.size ≤ q) q := fun _ h => h
  have hAn : ∀ a : Nat, a < s.heap.size → ¬ (fun q : Nat => s.heap.size ≤ q) a := fun a h => Nat.not_le.mpr h
  obtain ⟨ct, hKt, hAO, hAOA⟩ := tab_arr hts0
  obtain ⟨dC, dI, hKc⟩ := tab_cls hts0
  obtain ⟨a0, hZ⟩ := tab_SE (A := fun q : Nat => s.heap.size ≤ q) hts0 hgv hAn
  have hK : va_K (dC, dI) vwCl (tysK ct) s := ⟨hKc, hKt⟩
  have hN : NK s := ⟨tab_NE hts0, hAO, hAOA⟩
  obtain ⟨Rel, hst, hs⟩ := hall ct a0
  have hd0 := Drawn.sameBut.refl s.drawn lw_cs
  have hts : ∀ w ∈ wsL_law, w.before #[Value.ref b] s = true := fun w hw => hts0 w (wsL_law_in w hw)
  have B : BX p s m #[Value.ref b] c cL_law 8 RL := ⟨hx, hb, hml, hown, hts⟩
  have hS : va_S (fun q : Nat => s.heap.size ≤ q) s.heap s.heap [] := va_S.rf
  have hW : KW (dC, dI) (fun q : Nat => s.heap.size ≤ q) (fun _ => none) s.heap := ⟨[], fun a e => ⟨fun h => absurd h List.not_mem_nil, fun h => by cases h⟩, fun k q h => by simp at h, ⟨fun i j p q h => by simp at h, fun k q h => by simp at h⟩⟩
  have hl := lv_entry ([.ref b]) (n := 8) (Nat.le_of_ble_eq_true rfl)
  rw [lg_entry_eq]
  generalize (lg_sl ([.ref b]) ++ List.replicate (8 - (lg_sl ([.ref b])).length) Slot.unset).toArray = ls at hl ⊢
  have hl : lv_has ls 8 [(0, .ref b)] := hl
  refine kw_new (ci := 6) (fs := [.null, .null, .null, .null, .null, .int 0, .int 0]) (C := RX5) (T := TX5) (N := 7) hx hb hts inlX5 tyX5 tyX5_ok hown (hts _ q_1_0) (hts _ q_1_1) (hts _ q_1_2) hK hW hS hA rfl (fun j hj => by rcases (show j = 0 ∨ j = 1 ∨ j = 2 ∨ j = 3 ∨ j = 4 ∨ j = 5 ∨ j = 6 by omega) with rfl | rfl | rfl | rfl | rfl | rfl | rfl <;> rfl) (Nat.le_of_ble_eq_true rfl) (Nat.le_of_ble_eq_true rfl) dL_law_0 (fun ax H h1 n1 eh1 hW hS => ?_)
  have hw := hst ax
  rw [← eh1] at hw
  refine lv_dup hx hb dL_law_3 rfl ?_
  refine ki_call (As := []) (rest := [.ref ax]) (cg_X5_init l (dC, dI) ct a0 ax h1 _ hw) B hK hN hZ hA hW hS k_X5_init q_1_6 rfl ⟨Nat.le_of_ble_eq_true rfl, Nat.le_of_ble_eq_true rfl⟩ ⟨Nat.le_of_ble_eq_true rfl, Nat.le_of_ble_eq_true rfl⟩ hl.1 rfl (Nat.le_of_ble_eq_true rfl) dL_law_4 (fun _ h2 H locs hw hW hS => ?_)
  refine lv_astore_n (lv' := [(1, .ref ax), (0, .ref b)]) hx hb dL_law_7 rfl hl (by decide) rfl (fun ls hl => ?_)
  refine kw_new (ci := 7) (fs := [.null, .null, .null, .null, .null, .null, .null, .null, .int 0, .int 0, .int 0, .null, .int 0, .int 0, .null, .null, .null, .int 0, .null, .int 0, .int 0, .null]) (C := RX6) (T := TX6) (N := 22) hx hb hts inlX6 tyX6 tyX6_ok hown (hts _ q_1_3) (hts _ q_1_4) (hts _ q_1_5) hK hW hS hA rfl (fun j hj => by rcases (show j = 0 ∨ j = 1 ∨ j = 2 ∨ j = 3 ∨ j = 4 ∨ j = 5 ∨ j = 6 ∨ j = 7 ∨ j = 8 ∨ j = 9 ∨ j = 10 ∨ j = 11 ∨ j = 12 ∨ j = 13 ∨ j = 14 ∨ j = 15 ∨ j = 16 ∨ j = 17 ∨ j = 18 ∨ j = 19 ∨ j = 20 ∨ j = 21 by omega) with rfl | rfl | rfl | rfl | rfl | rfl | rfl | rfl | rfl | rfl | rfl | rfl | rfl | rfl | rfl | rfl | rfl | rfl | rfl | rfl | rfl | rfl <;> rfl) (Nat.le_of_ble_eq_true rfl) (Nat.le_of_ble_eq_true rfl) dL_law_8 (fun am H h3 n3 eh3 hW hS => ?_)
  have hw := hw am h3 n3 eh3
  refine lv_dup hx hb dL_law_11 rfl ?_
  refine ki_call (As := []) (rest := [.ref am]) (cg_X6_init l (dC, dI) ct a0 am h3 _ hw) B hK hN hZ hA hW hS k_X6_init q_4_1 rfl ⟨Nat.le_of_ble_eq_true rfl, Nat.le_of_ble_eq_true rfl⟩ ⟨Nat.le_of_ble_eq_true rfl, Nat.le_of_ble_eq_true rfl⟩ hl.1 rfl (Nat.le_of_ble_eq_true rfl) dL_law_12 (fun _ h4 H locs hw hW hS => ?_)
  obtain ⟨o, M, eo, iw, hrel⟩ := hw
  obtain ⟨hW5, hP5, hD5⟩ := hW.part iw
  refine lv_astore_n (lv' := [(2, .ref am), (1, .ref ax), (0, .ref b)]) hx hb dL_law_15 rfl hl (by decide) rfl (fun ls hl => ?_)
  refine lv_iconst (v := (0 : Int32)) hx hb dL_law_16 (by decide) ?_
  refine lv_istore_n (lv' := [(3, .int (0 : Int32)), (2, .ref am), (1, .ref ax), (0, .ref b)]) hx hb dL_law_17 rfl hl (by decide) rfl (fun ls hl => ?_)
  refine W.base ?_
  refine W.widen (k := 33 + 204 * 0) (n := 1192 + 1381 * 0) (Nat.le_of_ble_eq_true rfl) (Nat.le_of_ble_eq_true rfl) ?_
  refine law_loop (D := (dC, dI)) (o := o) hL C0 hK hN hZ hs (fun w2 h9 => va_D.same (w := MTw o (ct 0) (ct 1) M) h9 hD5) 513 0 rfl (0 : Int32) rfl (by omega) _ M s.drawn hd0 hrel H _ hW5 hP5 (fun x hx9 => ?_) hS ls (by rw [eo]; exact lv_sub hl [3, 2, 1, 0] rfl)
  exact if_pos (show x.1 ∈ mad o from List.mem_map.mpr ⟨x, hx9, rfl⟩)
