/-! what the tables say beside the words: calls of a nest mate's private methods, casts; contracts that need it -/
def nestL : List (String × Nat × MethodName × String) := [("DriftPlans", 35, yX1_init, "DriftPlans"), ("DriftPlans", 35, yX1_init, "DriftPlans"), ("DriftPlans", 35, yX1_init, "DriftPlans"), ("DriftPlans$Reckoner", 22, yX5_bit, "DriftPlans"), ("DriftPlans$Reckoner", 26, yX5_has, "DriftPlans"), ("DriftPlans$Reckoner", 40, yX5_longerOrder, "DriftPlans"), ("DriftPlans$Reckoner", 44, yX5_isSet, "DriftPlans"), ("DriftPlans$Reckoner", 70, yX5_tableAt, "DriftPlans"), ("DriftPlans$State", 113, yX5_has, "DriftPlans"), ("DriftPlans", 35, yX1_init, "DriftPlans"), ("DriftPlans$State", 79, yX5_hasAll, "DriftPlans")]
def castL : List (String × String) := [("DriftPlans$Kept", "java/lang/Object"), ("DriftPlans$State", "java/lang/Object"), ("[I", "java/lang/Object"), ("[I", "java/lang/Cloneable"), ("[Ljava/lang/Object;", "java/lang/Object")]
def NE (U : State) : Prop := (∀ q ∈ nestL, va_Nw (.methodLinkNest q.1 q.2.1 q.2.2.1 q.2.2.2) U) ∧ ∀ q ∈ castL, va_Nw (.castable q.1 q.2) U
theorem NE.warm {s U : State} (hW : s.WarmedH U.vm) (h : NE s) : NE U := ⟨fun q hq => va_Nw.warmM hW (h.1 q hq), fun q hq => va_Nw.warmC hW (h.2 q hq)⟩
theorem NE.same {s U : State} (hv : s.vm = U.vm) (h : NE s) : NE U := ⟨fun q hq => va_Nw.same rfl hv (h.1 q hq), fun q hq => va_Nw.same rfl hv (h.2 q hq)⟩
def FPreN (D : va_G) (tys : List (ClassId × FieldType)) (w : va_W) (sz : Nat) : State → Prop := fun U => FPre D tys w sz U ∧ NE U
theorem FPreN.blind {D : va_G} {tys : List (ClassId × FieldType)} {w : va_W} {sz : Nat} {As : List Value} : FrameBlind (va_Pc As (FPreN D tys w sz)) := fun a U g mk q => by
  obtain ⟨h0, ⟨h1, h2, h3, h4⟩, h5⟩ := q
  exact ⟨h0, ⟨h1, h2, va_K.moved (u := U) (U := U.calling g mk a) (Vm.Alike.refl U.vm) h3, h4⟩, h5.same rfl⟩
theorem NE.blind {As : List Value} : FrameBlind (va_Pc As NE) := fun a U g mk q => ⟨q.1, q.2.same rfl⟩
/-- a method over the cells w that needs the tables' further words -/
abbrev CG (l : Launch) (y : MethodName) (cc : ByteArray) (n d : Nat) (ret : Option FieldType) (D : va_G) (tys : List (ClassId × FieldType)) (As : List Value) (v : Option Value) (w w' : va_W) : Prop := ∀ sz : Nat, Met l y (WSy y cc n ret) (rmF d 0 0) (va_Pc As (FPreN D tys w sz)) (fQ D v w' (va_A w sz)) 0 0 (va_A w sz)
section MK2
variable {l : Launch} {y : MethodName} {cc : ByteArray} {n d : Nat} {As : List Value}
variable {D : va_G} {tys : List (ClassId × FieldType)} {w w' : va_W}
theorem CG.mkI {ret : FieldType} {r : Int32} (hy : plainName y.cls = true) (hn : (lg_sl As).length ≤ n)
    (body : ∀ (p : Program) (e : Env) (s : State) (m : MethodId) (below : List Frame) (meth : Method) (c : Code) (Q : State → Prop) (A : Nat → Prop), BX p s m As.toArray c cc n y.cls → va_K D vwCl tys s → NE s → (∀ w2 : va_W, w2.map Prod.fst = w.map Prod.fst → va_D A w2) → (∀ q : Nat, s.heap.size ≤ q → A q) →
      (∀ (H : Heap) (locs : List Loc) (pc : Nat) (ls : Array Slot), narrow ret (.int r) = .int r → decode cc pc = .ok (.ireturn, 1) → va_P D vwCl w' H → va_S A s.heap H locs → W p l e (rmF d 0 0) s m As.toArray below meth c H locs 0 0 Q (F0 m pc ls [.int r])) →
      va_P D vwCl w s.heap → va_S A s.heap s.heap [] → ∀ ls : Array Slot, lv_has ls n (lv_args 0 As) → W p l e (rmF d 0 0) s m As.toArray below meth c s.heap [] 0 0 Q (F0 m 0 ls [])) : CG l y cc n d (some ret) D tys As (some (.int r)) w w' := by
  intro sz
  refine Met.ofW (cc := cc) (maxL := n) (ret := some ret) hy rfl ?_
  intro p e s m args below meth c s₁ B hml hv
  obtain ⟨rfl, ⟨hsz, hP, hK, hD0⟩, hN⟩ := hv
  subst hsz
  rw [lg_entry_eq]
  exact body p e s m below meth c _ (va_A w s.heap.size) ⟨B.exec, B.bytes, hml, findClass_of_methodNamed B.named, fun w hw => atoms_spec (ws := WSy y cc n (some ret)) B.pre w (List.mem_cons_of_mem _ hw)⟩ hK hN (fun w2 h2 => va_D.same h2 (hD0.self)) (fun q h => Or.inr h)
    (fun H locs pc ls hnar hd hP' hS' => W.zret B.exec B.bytes B.returns hnar (fun t ht hW => ⟨rfl, by rw [ht]; exact hP', hS'.F ht⟩) hS'.2.2 hd B.notSynchronized) hP va_S.rf _ (lv_entry As hn)
theorem CG.mkL {r : Int64} (hy : plainName y.cls = true) (hn : (lg_sl As).length ≤ n)
    (body : ∀ (p : Program) (e : Env) (s : State) (m : MethodId) (below : List Frame) (meth : Method) (c : Code) (Q : State → Prop) (A : Nat → Prop), BX p s m As.toArray c cc n y.cls → va_K D vwCl tys s → NE s → (∀ w2 : va_W, w2.map Prod.fst = w.map Prod.fst → va_D A w2) → (∀ q : Nat, s.heap.size ≤ q → A q) →
      (∀ (H : Heap) (locs : List Loc) (pc : Nat) (ls : Array Slot), decode cc pc = .ok (.lreturn, 1) → va_P D vwCl w' H → va_S A s.heap H locs → W p l e (rmF d 0 0) s m As.toArray below meth c H locs 0 0 Q (F0 m pc ls [.long r])) →
      va_P D vwCl w s.heap → va_S A s.heap s.heap [] → ∀ ls : Array Slot, lv_has ls n (lv_args 0 As) → W p l e (rmF d 0 0) s m As.toArray below meth c s.heap [] 0 0 Q (F0 m 0 ls [])) : CG l y cc n d (some .long) D tys As (some (.long r)) w w' := by
  intro sz
  refine Met.ofW (cc := cc) (maxL := n) (ret := some .long) hy rfl ?_
  intro p e s m args below meth c s₁ B hml hv
  obtain ⟨rfl, ⟨hsz, hP, hK, hD0⟩, hN⟩ := hv
  subst hsz
  rw [lg_entry_eq]
  exact body p e s m below meth c _ (va_A w s.heap.size) ⟨B.exec, B.bytes, hml, findClass_of_methodNamed B.named, fun w hw => atoms_spec (ws := WSy y cc n (some .long)) B.pre w (List.mem_cons_of_mem _ hw)⟩ hK hN (fun w2 h2 => va_D.same h2 (hD0.self)) (fun q h => Or.inr h)
    (fun H locs pc ls hd hP' hS' => W.lret B.exec B.bytes B.returns (fun t ht hW => ⟨rfl, by rw [ht]; exact hP', hS'.F ht⟩) hS'.2.2 hd B.notSynchronized) hP va_S.rf _ (lv_entry As hn)
theorem CG.mkV (hy : plainName y.cls = true) (hn : (lg_sl As).length ≤ n)
    (body : ∀ (p : Program) (e : Env) (s : State) (m : MethodId) (below : List Frame) (meth : Method) (c : Code) (Q : State → Prop) (A : Nat → Prop), BX p s m As.toArray c cc n y.cls → va_K D vwCl tys s → NE s → (∀ w2 : va_W, w2.map Prod.fst = w.map Prod.fst → va_D A w2) → (∀ q : Nat, s.heap.size ≤ q → A q) →
      (∀ (H : Heap) (locs : List Loc) (pc : Nat) (ls : Array Slot), decode cc pc = .ok (.return_, 1) → va_P D vwCl w' H → va_S A s.heap H locs → W p l e (rmF d 0 0) s m As.toArray below meth c H locs 0 0 Q (F0 m pc ls [])) →
      va_P D vwCl w s.heap → va_S A s.heap s.heap [] → ∀ ls : Array Slot, lv_has ls n (lv_args 0 As) → W p l e (rmF d 0 0) s m As.toArray below meth c s.heap [] 0 0 Q (F0 m 0 ls [])) : CG l y cc n d none D tys As none w w' := by
  intro sz
  refine Met.ofW (cc := cc) (maxL := n) (ret := none) hy rfl ?_
  intro p e s m args below meth c s₁ B hml hv
  obtain ⟨rfl, ⟨hsz, hP, hK, hD0⟩, hN⟩ := hv
  subst hsz
  rw [lg_entry_eq]
  exact body p e s m below meth c _ (va_A w s.heap.size) ⟨B.exec, B.bytes, hml, findClass_of_methodNamed B.named, fun w hw => atoms_spec (ws := WSy y cc n none) B.pre w (List.mem_cons_of_mem _ hw)⟩ hK hN (fun w2 h2 => va_D.same h2 (hD0.self)) (fun q h => Or.inr h)
    (fun H locs pc ls hd hP' hS' => W.vret B.exec B.bytes B.returns (fun t ht hW => ⟨rfl, by rw [ht]; exact hP', hS'.F ht⟩) hS'.2.2 hd B.notSynchronized) hP va_S.rf _ (lv_entry As hn)
end MK2
section CALLS2
variable {p : Program} {l : Launch} {e : Env} {R : Room} {s : State} {m : MethodId} {args : Array Value} {below : List Frame} {meth : Method} {c : Code} {H : Heap} {locs : List Loc} {cells slots : Nat} {Q : State → Prop}
variable {pc : Nat} {ls : Array Slot} {rest st0 : List Value} {a : Array Value} {cc : ByteArray} {nL : Nat} {own : String}
variable {y : MethodName} {yc : ByteArray} {ny d k idx : Nat} {ret : Option FieldType} {As : List Value} {v : Option Value} {host : String}
/-- a static call of a nest mate's private method -/
theorem n_call (hM : CS l y yc ny d ret As v) (B : BX p s m args c cc nL own) (hN : NE s) (hO : SOk y yc ny ret k) (hlink : (own, idx, y, host) ∈ nestL) (hk : As.length = k) (hR : d + 1 ≤ R.frames ∧ 8 + (ny + 11) + 40 * d ≤ R.locals) (hC : cells ≤ R.cells ∧ slots ≤ R.slots) (hsz : ls.size = nL) (hst : st0 = As.reverse ++ rest) (hW : (rest.map fun v => v.category).sum ≤ 8) (hdg : decode cc pc = .ok (.invokestatic idx, 3))
    (kk : W p l e R s m args below meth c H locs cells slots Q (F0 m (pc + 3) ls (v.toList ++ rest))) : W p l e R s m args below meth c H locs cells slots Q (F0 m pc ls st0) := by
  obtain ⟨hx, hb, hml, hown, hts⟩ := B
  obtain ⟨o1, o2, o3, o4⟩ := hO
  exact s_run (va_runSN (As := As) (rest := rest) (Ts := wsL_law) (n := k) ⟨hx, hb, hml, hown, hts⟩ hM ⟨va_cnB k hts (good_WSy o1) rfl rfl rfl (hN.1 _ hlink) (hts _ o3) o4 hR, hts _ o2, trivial⟩ ⟨fun a U g mk q => q, fun U hU hW => ⟨rfl, trivial⟩⟩ rfl hk hsz hst (lv_room hW) hdg hC) kk
/-- a call over the fixed cells, with the further words -/
theorem g_call {D : va_G} {tys : List (ClassId × FieldType)} {w w' : va_W} {A : Nat → Prop} {ad : List Nat} {r0 : Nat} (hM : CG l y yc ny d ret D tys (.ref r0 :: As) v w w') (B : BX p s m args c cc nL own) (hN : NE s) (hK : va_K D vwCl tys s) (hDD : ∀ w2 : va_W, w2.map Prod.fst = ad → va_D A w2) (hA : ∀ q : Nat, s.heap.size ≤ q → A q) (hP : va_P D vwCl w H) (hS : va_S A s.heap H locs) (hw : w.map Prod.fst = ad)
    (hrecv : ∃ cell : Cell, H[r0]? = some cell ∧ cell.vm.isStatics = false ∧ s.vm.findClass y.cls = some cell.cls) (hO : VOk y yc ny ret k) (hlink : Cond.methodLink own idx y ∈ wsL_law) (hk : As.length = k) (hR : d + 1 ≤ R.frames ∧ 8 + (ny + 11) + 40 * d ≤ R.locals) (hC : cells ≤ R.cells ∧ slots ≤ R.slots) (hsz : ls.size = nL) (hst : st0 = As.reverse ++ .ref r0 :: rest) (hW : (rest.map fun v => v.category).sum ≤ 8) (hdg : decode cc pc = .ok (.invokevirtual idx, 3))
    (kk : ∀ (H1 : Heap) (locs1 : List Loc), va_P D vwCl w' H1 → va_S A s.heap H1 locs1 → W p l e R s m args below meth c H1 locs1 cells slots Q (F0 m (pc + 3) ls (v.toList ++ rest))) : W p l e R s m args below meth c H locs cells slots Q (F0 m pc ls st0) := by
  obtain ⟨hx, hb, hml, hown, hts⟩ := B
  obtain ⟨o1, o2, o3, o4, o5⟩ := hO
  have hsub : ∀ q, va_A w H.size q → A q := by
    intro q hq
    rcases hq with ⟨i, e9, h9⟩ | h9
    · exact (hDD w hw).2 i (q, e9) h9
    · exact hA q (Nat.le_trans hS.1 h9)
  exact f_run (va_runV (C := y.cls) (As := As) (rest := rest) (Ts := wsL_law) (n := k) ⟨hx, hb, hml, hown, hts⟩ (hM H.size) ⟨callB_of k hts (good_WSy o1) rfl rfl rfl (hts _ o4) (hts _ hlink) o5 hR, hts _ o2, hts _ o3⟩ ⟨FPreN.blind, hrecv, fun U hU hW => ⟨rfl, ⟨by rw [hU], by rw [hU]; exact hP, va_K.moved hW.alike hK, (hDD w hw).weaken (fun _ _ _ _ => trivial)⟩, hN.warm hW⟩⟩ rfl hk hsz hst (lv_room hW) hdg hC) hS hsub kk
/-- the same, of a static method -/
theorem gs_call {D : va_G} {tys : List (ClassId × FieldType)} {w w' : va_W} {A : Nat → Prop} {ad : List Nat} (hM : CG l y yc ny d ret D tys As v w w') (B : BX p s m args c cc nL own) (hN : NE s) (hK : va_K D vwCl tys s) (hDD : ∀ w2 : va_W, w2.map Prod.fst = ad → va_D A w2) (hA : ∀ q : Nat, s.heap.size ≤ q → A q) (hP : va_P D vwCl w H) (hS : va_S A s.heap H locs) (hw : w.map Prod.fst = ad)
    (hO : SOk y yc ny ret k) (hlink : Cond.methodLink own idx y ∈ wsL_law) (hk : As.length = k) (hR : d + 1 ≤ R.frames ∧ 8 + (ny + 11) + 40 * d ≤ R.locals) (hC : cells ≤ R.cells ∧ slots ≤ R.slots) (hsz : ls.size = nL) (hst : st0 = As.reverse ++ rest) (hW : (rest.map fun v => v.category).sum ≤ 8) (hdg : decode cc pc = .ok (.invokestatic idx, 3))
    (kk : ∀ (H1 : Heap) (locs1 : List Loc), va_P D vwCl w' H1 → va_S A s.heap H1 locs1 → W p l e R s m args below meth c H1 locs1 cells slots Q (F0 m (pc + 3) ls (v.toList ++ rest))) : W p l e R s m args below meth c H locs cells slots Q (F0 m pc ls st0) := by
  obtain ⟨hx, hb, hml, hown, hts⟩ := B
  obtain ⟨o1, o2, o3, o4⟩ := hO
  have hsub : ∀ q, va_A w H.size q → A q := by
    intro q hq
    rcases hq with ⟨i, e9, h9⟩ | h9
    · exact (hDD w hw).2 i (q, e9) h9
    · exact hA q (Nat.le_trans hS.1 h9)
  exact f_run (va_runS (As := As) (rest := rest) (Ts := wsL_law) (n := k) ⟨hx, hb, hml, hown, hts⟩ (hM H.size) ⟨callB_of k hts (good_WSy o1) rfl rfl rfl (hts _ o3) (hts _ hlink) o4 hR, hts _ o2⟩ ⟨FPreN.blind, fun U hU hW => ⟨rfl, ⟨by rw [hU], by rw [hU]; exact hP, va_K.moved hW.alike hK, (hDD w hw).weaken (fun _ _ _ _ => trivial)⟩, hN.warm hW⟩⟩ rfl hk hsz hst (lv_room hW) hdg hC) hS hsub kk
end CALLS2
