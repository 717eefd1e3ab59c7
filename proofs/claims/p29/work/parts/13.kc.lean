/-! contracts over the known heap, calls, and the rows that are wanting: grids, clone, copies, casts, the list's own empty array -/
def NK (U : State) : Prop := NE U ∧ va_AO "java/lang/Object" U ∧ va_AOA .int U
theorem NK.warm {s U : State} (hW : s.WarmedH U.vm) (h : NK s) : NK U := ⟨h.1.warm hW, va_AO.moved hW.alike h.2.1, va_AOA.moved hW.alike h.2.2⟩
theorem NK.same {s U : State} (hv : s.vm = U.vm) (h : NK s) : NK U := ⟨h.1.same hv, va_AO.moved (hv ▸ Vm.Alike.refl s.vm) h.2.1, va_AOA.moved (hv ▸ Vm.Alike.refl s.vm) h.2.2⟩
def SE (a0 : Nat) (A : Nat → Prop) (U : State) (H : Heap) : Prop := va_Z "java/util/ArrayList" "DEFAULTCAPACITY_EMPTY_ELEMENTDATA" "[Ljava/lang/Object;" (.ref a0) A U H ∧ va_T (.object "java/lang/Object") a0 0 (fun _ => .null) A U H
theorem SE.moved {a0 : Nat} {A : Nat → Prop} {u U : State} {H : Heap} (hvm : u.vm.Alike U.vm) (h : SE a0 A u H) : SE a0 A U H := ⟨h.1.moved hvm, h.2.moved hvm⟩
theorem SE.kept {a0 : Nat} {A : Nat → Prop} {U : State} {H H1 : Heap} (h : SE a0 A U H) (hq : ∀ a : Nat, a < H.size → ¬ A a → H1[a]? = H[a]?) : SE a0 A U H1 := ⟨h.1.kept hq, h.2.kept hq⟩
theorem SE.narrow {a0 : Nat} {A B : Nat → Prop} {U : State} {H : Heap} (h : SE a0 A U H) (hAB : ∀ q, B q → A q) : SE a0 B U H := ⟨h.1.narrow hAB, h.2.narrow hAB⟩
theorem SE.out {a0 : Nat} {A : Nat → Prop} {U : State} {H : Heap} (h : SE a0 A U H) : ¬ A a0 := h.2.out
def KPre (D : va_G) (ct : Nat → ClassId) (a0 : Nat) (h : KH) (sz : Nat) : State → Prop := fun U => U.heap.size = sz ∧ KW D (KA h sz) h U.heap ∧ va_K D vwCl (tysK ct) U ∧ NK U ∧ SE a0 (KA h sz) U U.heap
theorem KPre.blind {D : va_G} {ct : Nat → ClassId} {a0 : Nat} {h : KH} {sz : Nat} {As : List Value} : FrameBlind (va_Pc As (KPre D ct a0 h sz)) := fun a U g mk q => by
  obtain ⟨h0, h1, h2, h3, h4, h5⟩ := q
  exact ⟨h0, h1, h2, va_K.moved (u := U) (U := U.calling g mk a) (Vm.Alike.refl U.vm) h3, h4.same rfl, h5.moved (U := U.calling g mk a) (Vm.Alike.refl U.vm)⟩
def kQ {ρ : Type} (D : va_G) (vf : ρ → Option Value) (Post : ρ → KH → Prop) (A : Nat → Prop) : Array Value → State → Outcome → State → Prop := fun _ st o t => (∃ (r : ρ) (h1 : KH), o = .returned (vf r) ∧ Post r h1 ∧ KW D A h1 t.heap) ∧ va_F A st t
abbrev vI : Int32 → Option Value := fun r => some (.int r)
abbrev vL : Int64 → Option Value := fun r => some (.long r)
abbrev vR : Nat → Option Value := fun r => some (.ref r)
abbrev vV : Unit → Option Value := fun _ => none
/-- a method over the known heap: what Post says of its answer and of the heap behind it -/
abbrev CK {ρ : Type} (l : Launch) (y : MethodName) (cc : ByteArray) (n d mc ms : Nat) (ret : Option FieldType) (D : va_G) (ct : Nat → ClassId) (a0 : Nat) (As : List Value) (vf : ρ → Option Value) (h : KH) (Post : ρ → KH → Prop) : Prop := ∀ sz : Nat, Met l y (WSy y cc n ret) (rmF d mc ms) (va_Pc As (KPre D ct a0 h sz)) (kQ D vf Post (KA h sz)) mc ms (KA h sz)
section MK3
variable {l : Launch} {y : MethodName} {cc : ByteArray} {n d mc ms : Nat} {As : List Value} {D : va_G} {ct : Nat → ClassId} {a0 : Nat} {h : KH}
/-- what a body over the known heap stands on -/
def KX (p : Program) (s : State) (m : MethodId) (args : Array Value) (meth : Method) (c : Code) (cc : ByteArray) (n : Nat) (y : MethodName) (D : va_G) (ct : Nat → ClassId) (a0 : Nat) (A : Nat → Prop) : Prop := BX p s m args c cc n y.cls ∧ meth.name = y.name ∧ va_K D vwCl (tysK ct) s ∧ NK s ∧ SE a0 A s s.heap ∧ ∀ q : Nat, s.heap.size ≤ q → A q
theorem CK.mkI {ret : FieldType} {Post : Int32 → KH → Prop} (hy : plainName y.cls = true) (hn : (lg_sl As).length ≤ n)
    (body : ∀ (p : Program) (e : Env) (s : State) (m : MethodId) (below : List Frame) (meth : Method) (c : Code) (Q : State → Prop) (A : Nat → Prop), KX p s m As.toArray meth c cc n y D ct a0 A →
      (∀ (H : Heap) (locs : List Loc) (pc : Nat) (ls : Array Slot) (r : Int32) (h1 : KH), narrow ret (.int r) = .int r → decode cc pc = .ok (.ireturn, 1) → Post r h1 → KW D A h1 H → va_S A s.heap H locs → W p l e (rmF d mc ms) s m As.toArray below meth c H locs mc ms Q (F0 m pc ls [.int r])) →
      KW D A h s.heap → va_S A s.heap s.heap [] → ∀ ls : Array Slot, lv_has ls n (lv_args 0 As) → W p l e (rmF d mc ms) s m As.toArray below meth c s.heap [] 0 0 Q (F0 m 0 ls [])) : CK l y cc n d mc ms (some ret) D ct a0 As vI h Post := by
  intro sz
  refine Met.ofW (cc := cc) (maxL := n) (ret := some ret) hy rfl ?_
  intro p e s m args below meth c s₁ B hml hv
  obtain ⟨rfl, hsz, hP, hK, hN, hZ⟩ := hv
  subst hsz
  rw [lg_entry_eq]
  exact body p e s m below meth c _ (KA h s.heap.size) ⟨⟨B.exec, B.bytes, hml, findClass_of_methodNamed B.named, fun w hw => atoms_spec (ws := WSy y cc n (some ret)) B.pre w (List.mem_cons_of_mem _ hw)⟩, (name_of_methodNamed B.named B.method).1, hK, hN, hZ, fun q h => Or.inr h⟩
    (fun H locs pc ls r h1 hnar hd hp hP' hS' => W.zret B.exec B.bytes B.returns hnar (fun t ht hW => ⟨⟨r, h1, rfl, hp, by rw [ht]; exact hP'⟩, hS'.F ht⟩) hS'.2.2 hd B.notSynchronized) hP va_S.rf _ (lv_entry As hn)
theorem CK.mkL {Post : Int64 → KH → Prop} (hy : plainName y.cls = true) (hn : (lg_sl As).length ≤ n)
    (body : ∀ (p : Program) (e : Env) (s : State) (m : MethodId) (below : List Frame) (meth : Method) (c : Code) (Q : State → Prop) (A : Nat → Prop), KX p s m As.toArray meth c cc n y D ct a0 A →
      (∀ (H : Heap) (locs : List Loc) (pc : Nat) (ls : Array Slot) (r : Int64) (h1 : KH), decode cc pc = .ok (.lreturn, 1) → Post r h1 → KW D A h1 H → va_S A s.heap H locs → W p l e (rmF d mc ms) s m As.toArray below meth c H locs mc ms Q (F0 m pc ls [.long r])) →
      KW D A h s.heap → va_S A s.heap s.heap [] → ∀ ls : Array Slot, lv_has ls n (lv_args 0 As) → W p l e (rmF d mc ms) s m As.toArray below meth c s.heap [] 0 0 Q (F0 m 0 ls [])) : CK l y cc n d mc ms (some .long) D ct a0 As vL h Post := by
  intro sz
  refine Met.ofW (cc := cc) (maxL := n) (ret := some .long) hy rfl ?_
  intro p e s m args below meth c s₁ B hml hv
  obtain ⟨rfl, hsz, hP, hK, hN, hZ⟩ := hv
  subst hsz
  rw [lg_entry_eq]
  exact body p e s m below meth c _ (KA h s.heap.size) ⟨⟨B.exec, B.bytes, hml, findClass_of_methodNamed B.named, fun w hw => atoms_spec (ws := WSy y cc n (some .long)) B.pre w (List.mem_cons_of_mem _ hw)⟩, (name_of_methodNamed B.named B.method).1, hK, hN, hZ, fun q h => Or.inr h⟩
    (fun H locs pc ls r h1 hd hp hP' hS' => W.lret B.exec B.bytes B.returns (fun t ht hW => ⟨⟨r, h1, rfl, hp, by rw [ht]; exact hP'⟩, hS'.F ht⟩) hS'.2.2 hd B.notSynchronized) hP va_S.rf _ (lv_entry As hn)
theorem CK.mkV {Post : Unit → KH → Prop} (hy : plainName y.cls = true) (hn : (lg_sl As).length ≤ n)
    (body : ∀ (p : Program) (e : Env) (s : State) (m : MethodId) (below : List Frame) (meth : Method) (c : Code) (Q : State → Prop) (A : Nat → Prop), KX p s m As.toArray meth c cc n y D ct a0 A →
      (∀ (H : Heap) (locs : List Loc) (pc : Nat) (ls : Array Slot) (h1 : KH), decode cc pc = .ok (.return_, 1) → Post () h1 → KW D A h1 H → va_S A s.heap H locs → W p l e (rmF d mc ms) s m As.toArray below meth c H locs mc ms Q (F0 m pc ls [])) →
      KW D A h s.heap → va_S A s.heap s.heap [] → ∀ ls : Array Slot, lv_has ls n (lv_args 0 As) → W p l e (rmF d mc ms) s m As.toArray below meth c s.heap [] 0 0 Q (F0 m 0 ls [])) : CK l y cc n d mc ms none D ct a0 As vV h Post := by
  intro sz
  refine Met.ofW (cc := cc) (maxL := n) (ret := none) hy rfl ?_
  intro p e s m args below meth c s₁ B hml hv
  obtain ⟨rfl, hsz, hP, hK, hN, hZ⟩ := hv
  subst hsz
  rw [lg_entry_eq]
  exact body p e s m below meth c _ (KA h s.heap.size) ⟨⟨B.exec, B.bytes, hml, findClass_of_methodNamed B.named, fun w hw => atoms_spec (ws := WSy y cc n none) B.pre w (List.mem_cons_of_mem _ hw)⟩, (name_of_methodNamed B.named B.method).1, hK, hN, hZ, fun q h => Or.inr h⟩
    (fun H locs pc ls h1 hd hp hP' hS' => W.vret B.exec B.bytes B.returns (fun t ht hW => ⟨⟨(), h1, rfl, hp, by rw [ht]; exact hP'⟩, hS'.F ht⟩) hS'.2.2 hd B.notSynchronized) hP va_S.rf _ (lv_entry As hn)
theorem CK.mkR {ret : FieldType} {Post : Nat → KH → Prop} (hy : plainName y.cls = true) (hn : (lg_sl As).length ≤ n) (hrt : (∃ n, ret = .object n) ∨ ∃ t, ret = .array t)
    (body : ∀ (p : Program) (e : Env) (s : State) (m : MethodId) (below : List Frame) (meth : Method) (c : Code) (Q : State → Prop) (A : Nat → Prop), KX p s m As.toArray meth c cc n y D ct a0 A →
      (∀ (H : Heap) (locs : List Loc) (pc : Nat) (ls : Array Slot) (r : Nat) (h1 : KH), decode cc pc = .ok (.areturn, 1) → Post r h1 → KW D A h1 H → va_S A s.heap H locs → W p l e (rmF d mc ms) s m As.toArray below meth c H locs mc ms Q (F0 m pc ls [.ref r])) →
      KW D A h s.heap → va_S A s.heap s.heap [] → ∀ ls : Array Slot, lv_has ls n (lv_args 0 As) → W p l e (rmF d mc ms) s m As.toArray below meth c s.heap [] 0 0 Q (F0 m 0 ls [])) : CK l y cc n d mc ms (some ret) D ct a0 As vR h Post := by
  intro sz
  refine Met.ofW (cc := cc) (maxL := n) (ret := some ret) hy rfl ?_
  intro p e s m args below meth c s₁ B hml hv
  obtain ⟨rfl, hsz, hP, hK, hN, hZ⟩ := hv
  subst hsz
  rw [lg_entry_eq]
  exact body p e s m below meth c _ (KA h s.heap.size) ⟨⟨B.exec, B.bytes, hml, findClass_of_methodNamed B.named, fun w hw => atoms_spec (ws := WSy y cc n (some ret)) B.pre w (List.mem_cons_of_mem _ hw)⟩, (name_of_methodNamed B.named B.method).1, hK, hN, hZ, fun q h => Or.inr h⟩
    (fun H locs pc ls r h1 hd hp hP' hS' => W.aret B.exec B.bytes B.returns hrt (Or.inr ⟨r, rfl⟩) (fun t ht hW => ⟨⟨r, h1, rfl, hp, by rw [ht]; exact hP'⟩, hS'.F ht⟩) hS'.2.2 hd B.notSynchronized) hP va_S.rf _ (lv_entry As hn)
end MK3
def lkw : va_W → Nat → Option va_E
  | [], _ => none
  | x :: l, a => if x.1 = a then some x.2 else lkw l a
theorem lkw_mem : ∀ {l : va_W} {a : Nat} {e : va_E}, lkw l a = some e → (a, e) ∈ l
  | [], a, e, h => by cases h
  | x :: l, a, e, h => by
    unfold lkw at h
    split at h
    · rename_i h1
      cases h
      subst h1
      exact List.mem_cons_self
    · exact List.mem_cons_of_mem _ (lkw_mem h)
theorem lkw_none : ∀ {l : va_W} {a : Nat}, lkw l a = none → a ∉ l.map Prod.fst
  | [], a, h => List.not_mem_nil
  | x :: l, a, h => by
    unfold lkw at h
    split at h
    · cases h
    · rename_i h1
      intro hm
      rcases List.mem_cons.mp hm with e | e
      · exact h1 e.symm
      · exact lkw_none h e
/-- the heap with the cells of w in it -/
def hupw (h : KH) (w : va_W) : KH := fun a => match lkw w a with
  | some e => some e
  | none => h a
def inW (h : KH) (w : va_W) : Prop := (∀ (a : Nat) (e : va_E), (a, e) ∈ w → h a = some e) ∧ (w.map Prod.fst).Nodup
theorem nodup_D {w : va_W} (h : (w.map Prod.fst).Nodup) : va_D (fun _ => True) w := by
  refine ⟨fun i j p q hi hj hpq => ?_, fun _ _ _ => trivial⟩
  have h1 : (w.map Prod.fst)[i]? = some p.1 := by rw [List.getElem?_map, hi]; rfl
  have h2 : (w.map Prod.fst)[j]? = some p.1 := by rw [List.getElem?_map, hj, hpq]; rfl
  have l1 := (List.getElem?_eq_some_iff.mp h1).1
  exact (List.getElem?_inj l1 h).mp (h1.trans h2.symm)
section KCALLS
variable {p : Program} {l : Launch} {e : Env} {R : Room} {s : State} {m : MethodId} {args : Array Value} {below : List Frame} {meth : Method} {c : Code} {H : Heap} {locs : List Loc} {cells slots : Nat} {Q : State → Prop}
variable {pc : Nat} {ls : Array Slot} {rest st0 : List Value} {a : Array Value} {cc : ByteArray} {nL : Nat} {own : String} {D : va_G} {ct : Nat → ClassId} {a0 : Nat} {A : Nat → Prop} {h : KH}
theorem KA.sub {sz : Nat} (hW : KW D A h H) (hS : va_S A s.heap H locs) (hA : ∀ q : Nat, s.heap.size ≤ q → A q) : ∀ q, KA h H.size q → A q := fun q hq => by
  rcases hq with ⟨e, he⟩ | hq
  · exact hW.in he
  · exact hA q (Nat.le_trans hS.1 hq)
theorem k_run {ρ : Type} {vf : ρ → Option Value} {Post : ρ → KH → Prop} {mc ms : Nat} {A1 : Nat → Prop} (hr : va_Run p l e R s m args below meth c H locs cells slots mc ms (F0 m pc ls st0) rest (kQ D vf Post A1 a) A1) (hS : va_S A s.heap H locs) (hsub : ∀ q, A1 q → A q)
    (kk : ∀ (r : ρ) (h1 : KH) (H1 : Heap) (locs1 : List Loc), Post r h1 → KW D A h1 H1 → va_S A s.heap H1 locs1 → W p l e R s m args below meth c H1 locs1 (cells + mc) (slots + ms) Q (F0 m (pc + 3) ls ((vf r).toList ++ rest))) : W p l e R s m args below meth c H locs cells slots Q (F0 m pc ls st0) := by
  intro T hT X
  obtain ⟨v1, st₀, t, T', L, h0, X', hL, e1, e2, ⟨⟨r, h1, hv, hp, hw⟩, hz, hk⟩, st⟩ := hr T hT X
  cases hv
  rw [h0] at hz hk
  obtain ⟨t2, a1, b1⟩ := kk r h1 T'.heap (locs ++ L) hp (by rw [e1]; exact hw.weaken (fun q _ hq => hsub q hq))
    ⟨Nat.le_trans hS.1 (by rw [e1]; exact hz), fun q h1 h2 => by rw [e1, hk q (Nat.lt_of_lt_of_le h1 hS.1) (fun z => h2 (hsub q z))]; exact hS.2.1 q h1 h2, fun q hq => by
      rcases List.mem_append.mp hq with h | h
      · exact hS.2.2 q h
      · exact hsub _ (hL q h)⟩ T' rfl X'
  exact ⟨t2, st t2 a1, b1⟩
theorem KPre.here (hK : va_K D vwCl (tysK ct) s) (hN : NK s) (hZ : SE a0 A s s.heap) (hA : ∀ q : Nat, s.heap.size ≤ q → A q) (hW : KW D A h H) (hS : va_S A s.heap H locs) {U : State} (hU : U.heap = H) (hw : s.WarmedH U.vm) : KPre D ct a0 h H.size U :=
  ⟨by rw [hU], by rw [hU]; exact hW.weaken (fun q hq _ => Or.inl hq), va_K.moved hw.alike hK, hN.warm hw, by
    rw [hU]
    exact ((hZ.kept (H1 := H) (fun q h1 h2 => hS.2.1 q h1 h2)).moved hw.alike).narrow (KA.sub (sz := 0) hW hS hA)⟩
variable {y : MethodName} {yc : ByteArray} {ny d k idx mc ms : Nat} {ret : Option FieldType} {As : List Value} {host : String}
/-- a call over the known heap -/
theorem k_call {ρ : Type} {vf : ρ → Option Value} {Post : ρ → KH → Prop} {r0 ci : Nat} {T0 : u_T} {N0 : Nat} {fs : List Value} (hM : CK l y yc ny d mc ms ret D ct a0 (.ref r0 :: As) vf h Post) (B : BX p s m args c cc nL own) (hK : va_K D vwCl (tysK ct) s) (hN : NK s) (hZ : SE a0 A s s.heap) (hA : ∀ q : Nat, s.heap.size ≤ q → A q) (hW : KW D A h H) (hS : va_S A s.heap H locs)
    (hrecv : h r0 = some (.inr (ci, fs))) (hc : vwCl[ci]? = some (y.cls, T0, N0)) (hO : VOk y yc ny ret k) (hlink : Cond.methodLink own idx y ∈ wsL_law) (hk : As.length = k) (hR : d + 1 ≤ R.frames ∧ 8 + (ny + 11) + 40 * d ≤ R.locals) (hC : cells + mc ≤ R.cells ∧ slots + ms ≤ R.slots) (hsz : ls.size = nL) (hst : st0 = As.reverse ++ .ref r0 :: rest) (hWd : (rest.map fun v => v.category).sum ≤ 8) (hdg : decode cc pc = .ok (.invokevirtual idx, 3))
    (kk : ∀ (r : ρ) (h1 : KH) (H1 : Heap) (locs1 : List Loc), Post r h1 → KW D A h1 H1 → va_S A s.heap H1 locs1 → W p l e R s m args below meth c H1 locs1 (cells + mc) (slots + ms) Q (F0 m (pc + 3) ls ((vf r).toList ++ rest))) : W p l e R s m args below meth c H locs cells slots Q (F0 m pc ls st0) := by
  obtain ⟨hx, hb, hml, hown, hts⟩ := B
  obtain ⟨o1, o2, o3, o4, o5⟩ := hO
  exact k_run (va_runV (C := y.cls) (As := As) (rest := rest) (Ts := wsL_law) (n := k) ⟨hx, hb, hml, hown, hts⟩ (hM H.size) ⟨callB_of k hts (good_WSy o1) rfl rfl rfl (hts _ o4) (hts _ hlink) o5 hR, hts _ o2, hts _ o3⟩ ⟨KPre.blind, va_recv hK (hW.at hrecv) (ci := ci) (q0 := 0) hc rfl, fun U hU hw => ⟨rfl, KPre.here hK hN hZ hA hW hS hU hw⟩⟩ rfl hk hsz hst (lv_room hWd) hdg hC) hS (KA.sub (sz := 0) hW hS hA) kk
/-- a constructor's call -/
theorem ki_call {ρ : Type} {vf : ρ → Option Value} {Post : ρ → KH → Prop} {r0 : Nat} (hM : CK l y yc ny d mc ms none D ct a0 (.ref r0 :: As) vf h Post) (B : BX p s m args c cc nL own) (hK : va_K D vwCl (tysK ct) s) (hN : NK s) (hZ : SE a0 A s s.heap) (hA : ∀ q : Nat, s.heap.size ≤ q → A q) (hW : KW D A h H) (hS : va_S A s.heap H locs)
    (hO : Cond.code y yc ny none ∈ wsL_law ∧ Cond.instanceMethod y ∈ wsL_law ∧ Cond.initialized y.cls ∈ wsL_law ∧ y.name = "<init>" ∧ (y.cls ≠ "java/lang/invoke/MethodHandle" ∧ y.cls ≠ "java/lang/invoke/VarHandle" ∧ (parseMethodDescriptor y.desc).map (fun d => d.parameters.length) = some k)) (hlink : Cond.methodLink own idx y ∈ wsL_law) (hk : As.length = k) (hR : d + 1 ≤ R.frames ∧ 8 + (ny + 11) + 40 * d ≤ R.locals) (hC : cells + mc ≤ R.cells ∧ slots + ms ≤ R.slots) (hsz : ls.size = nL) (hst : st0 = As.reverse ++ .ref r0 :: rest) (hWd : (rest.map fun v => v.category).sum ≤ 8) (hdg : decode cc pc = .ok (.invokespecial idx, 3))
    (kk : ∀ (r : ρ) (h1 : KH) (H1 : Heap) (locs1 : List Loc), Post r h1 → KW D A h1 H1 → va_S A s.heap H1 locs1 → W p l e R s m args below meth c H1 locs1 (cells + mc) (slots + ms) Q (F0 m (pc + 3) ls ((vf r).toList ++ rest))) : W p l e R s m args below meth c H locs cells slots Q (F0 m pc ls st0) := by
  obtain ⟨hx, hb, hml, hown, hts⟩ := B
  obtain ⟨o1, o2, o4, o6, o5⟩ := hO
  exact k_run (va_runI (As := As) (rest := rest) (Ts := wsL_law) (n := k) (b := r0) ⟨hx, hb, hml, hown, hts⟩ (hM H.size) ⟨callB_of k hts (good_WSy o1) rfl rfl rfl (hts _ o4) (hts _ hlink) o5 hR, o6, hts _ o2⟩ ⟨KPre.blind, fun U hU hw => ⟨rfl, KPre.here hK hN hZ hA hW hS hU hw⟩⟩ rfl hk hsz hst (lv_room hWd) hdg hC) hS (KA.sub (sz := 0) hW hS hA) kk
/-- a nest mate's private constructor -/
theorem kn_call {ρ : Type} {vf : ρ → Option Value} {Post : ρ → KH → Prop} {r0 : Nat} (hM : CK l y yc ny d mc ms none D ct a0 (.ref r0 :: As) vf h Post) (B : BX p s m args c cc nL own) (hK : va_K D vwCl (tysK ct) s) (hN : NK s) (hZ : SE a0 A s s.heap) (hA : ∀ q : Nat, s.heap.size ≤ q → A q) (hW : KW D A h H) (hS : va_S A s.heap H locs)
    (hO : Cond.code y yc ny none ∈ wsL_law ∧ Cond.instanceMethod y ∈ wsL_law ∧ Cond.initialized y.cls ∈ wsL_law ∧ y.name = "<init>" ∧ (y.cls ≠ "java/lang/invoke/MethodHandle" ∧ y.cls ≠ "java/lang/invoke/VarHandle" ∧ (parseMethodDescriptor y.desc).map (fun d => d.parameters.length) = some k)) (hlink : (own, idx, y, host) ∈ nestL) (hk : As.length = k) (hR : d + 1 ≤ R.frames ∧ 8 + (ny + 11) + 40 * d ≤ R.locals) (hC : cells + mc ≤ R.cells ∧ slots + ms ≤ R.slots) (hsz : ls.size = nL) (hst : st0 = As.reverse ++ .ref r0 :: rest) (hWd : (rest.map fun v => v.category).sum ≤ 8) (hdg : decode cc pc = .ok (.invokespecial idx, 3))
    (kk : ∀ (r : ρ) (h1 : KH) (H1 : Heap) (locs1 : List Loc), Post r h1 → KW D A h1 H1 → va_S A s.heap H1 locs1 → W p l e R s m args below meth c H1 locs1 (cells + mc) (slots + ms) Q (F0 m (pc + 3) ls ((vf r).toList ++ rest))) : W p l e R s m args below meth c H locs cells slots Q (F0 m pc ls st0) := by
  obtain ⟨hx, hb, hml, hown, hts⟩ := B
  obtain ⟨o1, o2, o4, o6, o5⟩ := hO
  exact k_run (va_runIN (As := As) (rest := rest) (Ts := wsL_law) (n := k) (b := r0) ⟨hx, hb, hml, hown, hts⟩ (hM H.size) ⟨va_cnB k hts (good_WSy o1) rfl rfl rfl (hN.1.1 _ hlink) (hts _ o4) o5 hR, o6, hts _ o2⟩ ⟨KPre.blind, fun U hU hw => ⟨rfl, KPre.here hK hN hZ hA hW hS hU hw⟩⟩ rfl hk hsz hst (lv_room hWd) hdg hC) hS (KA.sub (sz := 0) hW hS hA) kk
theorem KW.fixed (hW : KW D A h H) {w : va_W} (hw : inW h w) : va_P D vwCl w H := fun k q hk => (hW.at (hw.1 q.1 q.2 (List.mem_of_getElem? hk))) 0 q rfl
theorem KW.back {A1 : Nat → Prop} {H1 : Heap} (hW : KW D A h H) {w w' : va_W} (hw : inW h w) (hs : w'.map Prod.fst = w.map Prod.fst) (hP : va_P D vwCl w' H1) (hk : ∀ q : Nat, q < H.size → ¬ va_A w H.size q → H1[q]? = H[q]?) : KW D A (hupw h w') H1 := by
  obtain ⟨ws, hl, hP0, hD⟩ := hW
  have hmem : ∀ {a : Nat} {e : va_E}, lkw w' a = some e → ∃ e0, (a, e0) ∈ ws := by
    intro a e he
    have h1 : a ∈ w.map Prod.fst := by rw [← hs]; exact List.mem_map.mpr ⟨(a, e), lkw_mem he, rfl⟩
    obtain ⟨x, hx, rfl⟩ := List.mem_map.mp h1
    exact ⟨x.2, (hl x.1 x.2).mpr (hw.1 x.1 x.2 hx)⟩
  refine ⟨ws.map (fun x => match lkw w' x.1 with | some e => (x.1, e) | none => x), fun b e1 => ?_, fun k q hq => ?_, va_D.same ?_ hD⟩
  · unfold hupw
    constructor
    · intro hm
      obtain ⟨x, hx, he⟩ := List.mem_map.mp hm
      cases hlk : lkw w' x.1 with
      | none =>
        rw [hlk] at he
        simp only at he
        subst he
        rw [hlk]
        exact (hl b e1).mp hx
      | some e9 =>
        rw [hlk] at he
        simp only [Prod.mk.injEq] at he
        obtain ⟨rfl, rfl⟩ := he
        rw [hlk]
    · intro hh
      cases hlk : lkw w' b with
      | none =>
        rw [hlk] at hh
        exact List.mem_map.mpr ⟨(b, e1), (hl b e1).mpr hh, by simp only [hlk]⟩
      | some e9 =>
        rw [hlk] at hh
        cases hh
        obtain ⟨e0, he0⟩ := hmem hlk
        exact List.mem_map.mpr ⟨(b, e0), he0, by simp only [hlk]⟩
  · rw [List.getElem?_map] at hq
    cases hx : ws[k]? with
    | none => rw [hx] at hq; cases hq
    | some x =>
      rw [hx] at hq
      simp only [Option.map_some, Option.some.injEq] at hq
      cases hlk : lkw w' x.1 with
      | none =>
        rw [hlk] at hq
        simp only at hq
        subst hq
        have hat := hP0 k x hx
        refine hat.kept (hk x.1 hat.lt (fun hz => ?_))
        rcases hz with ⟨i, e9, h9⟩ | h9
        · exact lkw_none hlk (by rw [hs]; exact List.mem_map.mpr ⟨(x.1, e9), List.mem_of_getElem? h9, rfl⟩)
        · have := hat.lt
          omega
      | some e9 =>
        rw [hlk] at hq
        simp only at hq
        subst hq
        obtain ⟨i, hi⟩ := List.getElem?_of_mem (lkw_mem hlk)
        exact hP i _ hi
  · rw [List.map_map]
    apply List.map_congr_left
    intro x _
    show (match lkw w' x.1 with | some e => (x.1, e) | none => x).1 = x.1
    cases lkw w' x.1 <;> rfl
theorem kf_run {v : Option Value} {w w' : va_W} (hr : va_Run p l e R s m args below meth c H locs cells slots 0 0 (F0 m pc ls st0) rest (fQ D v w' (va_A w H.size) a) (va_A w H.size)) (hS : va_S A s.heap H locs) (hA : ∀ q : Nat, s.heap.size ≤ q → A q) (hW : KW D A h H) (hw : inW h w) (hs : w'.map Prod.fst = w.map Prod.fst)
    (kk : ∀ (h1 : KH) (H1 : Heap) (locs1 : List Loc), h1 = hupw h w' → KW D A h1 H1 → va_S A s.heap H1 locs1 → W p l e R s m args below meth c H1 locs1 cells slots Q (F0 m (pc + 3) ls (v.toList ++ rest))) : W p l e R s m args below meth c H locs cells slots Q (F0 m pc ls st0) := by
  have hsub : ∀ q, va_A w H.size q → A q := by
    intro q hq
    rcases hq with ⟨i, e9, h9⟩ | h9
    · exact hW.in (hw.1 q e9 (List.mem_of_getElem? h9))
    · exact hA q (Nat.le_trans hS.1 h9)
  intro T hT X
  obtain ⟨v1, st₀, t, T', L, h0, X', hL, e1, e2, ⟨hv, hp, hz, hk⟩, st⟩ := hr T hT X
  cases hv
  rw [h0] at hz hk
  obtain ⟨t2, a1, b1⟩ := kk _ T'.heap (locs ++ L) rfl (by rw [e1]; exact hW.back (A1 := A) hw hs hp hk)
    ⟨Nat.le_trans hS.1 (by rw [e1]; exact hz), fun q h1 h2 => by rw [e1, hk q (Nat.lt_of_lt_of_le h1 hS.1) (fun z => h2 (hsub q z))]; exact hS.2.1 q h1 h2, fun q hq => by
      rcases List.mem_append.mp hq with h | h
      · exact hS.2.2 q h
      · exact hsub _ (hL q h)⟩ T' rfl X'
  exact ⟨t2, st t2 a1, b1⟩
/-- a call over fixed cells, out of the known heap -/
theorem kf_call {v : Option Value} {w w' : va_W} {r0 ci : Nat} {T0 : u_T} {N0 : Nat} {fs : List Value} (hM : CG l y yc ny d ret D (tysK ct) (.ref r0 :: As) v w w') (B : BX p s m args c cc nL own) (hK : va_K D vwCl (tysK ct) s) (hN : NK s) (hA : ∀ q : Nat, s.heap.size ≤ q → A q) (hW : KW D A h H) (hS : va_S A s.heap H locs) (hw : inW h w) (hs : w'.map Prod.fst = w.map Prod.fst)
    (hrecv : h r0 = some (.inr (ci, fs))) (hc : vwCl[ci]? = some (y.cls, T0, N0)) (hO : VOk y yc ny ret k) (hlink : Cond.methodLink own idx y ∈ wsL_law) (hk : As.length = k) (hR : d + 1 ≤ R.frames ∧ 8 + (ny + 11) + 40 * d ≤ R.locals) (hC : cells ≤ R.cells ∧ slots ≤ R.slots) (hsz : ls.size = nL) (hst : st0 = As.reverse ++ .ref r0 :: rest) (hWd : (rest.map fun v => v.category).sum ≤ 8) (hdg : decode cc pc = .ok (.invokevirtual idx, 3))
    (kk : ∀ (h1 : KH) (H1 : Heap) (locs1 : List Loc), h1 = hupw h w' → KW D A h1 H1 → va_S A s.heap H1 locs1 → W p l e R s m args below meth c H1 locs1 cells slots Q (F0 m (pc + 3) ls (v.toList ++ rest))) : W p l e R s m args below meth c H locs cells slots Q (F0 m pc ls st0) := by
  obtain ⟨hx, hb, hml, hown, hts⟩ := B
  obtain ⟨o1, o2, o3, o4, o5⟩ := hO
  exact kf_run (va_runV (C := y.cls) (As := As) (rest := rest) (Ts := wsL_law) (n := k) ⟨hx, hb, hml, hown, hts⟩ (hM H.size) ⟨callB_of k hts (good_WSy o1) rfl rfl rfl (hts _ o4) (hts _ hlink) o5 hR, hts _ o2, hts _ o3⟩ ⟨FPreN.blind, va_recv hK (hW.at hrecv) (ci := ci) (q0 := 0) hc rfl, fun U hU hw' => ⟨rfl, ⟨by rw [hU], by rw [hU]; exact hW.fixed hw, va_K.moved hw'.alike hK, nodup_D hw.2⟩, hN.1.warm hw'⟩⟩ rfl hk hsz hst (lv_room hWd) hdg hC) hS hA hW hw hs kk
end KCALLS
