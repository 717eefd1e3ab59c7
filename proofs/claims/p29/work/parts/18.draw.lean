/-! methods that answer a quotient of doubles: what is divided (none: 1.0), for the quotient may be any NaN -/
abbrev DR : Type := Option (UInt64 × UInt64)
def dOK (v : DR) (r : UInt64) : Prop := match v with
  | none => r = FP.dconst1
  | some q => alike64 r (FP.ddiv q.1 q.2) = true
def kQD (D : va_G) (Post : DR → KH → Prop) (A : Nat → Prop) : Array Value → State → Outcome → State → Prop := fun _ st o t => (∃ (r : UInt64) (v : DR) (h1 : KH), o = .returned (some (.double r)) ∧ dOK v r ∧ Post v h1 ∧ KW D A h1 t.heap) ∧ va_F A st t
def fQD (D : va_G) (v : DR) (w' : va_W) (A : Nat → Prop) : Array Value → State → Outcome → State → Prop := fun _ st o t => (∃ r : UInt64, o = .returned (some (.double r)) ∧ dOK v r) ∧ va_P D vwCl w' t.heap ∧ va_F A st t
abbrev CKD (l : Launch) (y : MethodName) (cc : ByteArray) (n d mc ms : Nat) (D : va_G) (ct : Nat → ClassId) (a0 : Nat) (As : List Value) (h : KH) (Post : DR → KH → Prop) : Prop := ∀ sz : Nat, MetD lw_cs l y (WSy y cc n (some .double)) (rmF d mc ms) (va_Pc As (KPre D ct a0 h sz)) (kQD D Post (KA h sz)) mc ms (KA h sz)
abbrev CFD (l : Launch) (y : MethodName) (cc : ByteArray) (n d : Nat) (D : va_G) (tys : List (ClassId × FieldType)) (As : List Value) (v : DR) (w w' : va_W) : Prop := ∀ sz : Nat, MetD lw_cs l y (WSy y cc n (some .double)) (rmF d 0 0) (va_Pc As (FPre D tys w sz)) (fQD D v w' (va_A w sz)) 0 0 (va_A w sz)
section MK4
variable {l : Launch} {y : MethodName} {cc : ByteArray} {n d mc ms : Nat} {As : List Value} {D : va_G}
theorem CKD.mk {ct : Nat → ClassId} {a0 : Nat} {h : KH} {Post : DR → KH → Prop} (hy : plainName y.cls = true) (hn : (lg_sl As).length ≤ n) (pd pt : Nat) {off : Int} (hd1 : decode cc pd = .ok (.ddiv, 1)) (hd2 : decode cc (pd + 1) = .ok (.goto off, 3)) (ht : ((pd + 1 : Nat) : Int) + off = (pt : Int)) (hd3 : decode cc pt = .ok (.dreturn, 1))
    (body : ∀ (p : Program) (e : Env) (s : State) (m : MethodId) (below : List Frame) (meth : Method) (c : Code) (Q : State → Prop) (A : Nat → Prop), KX p s m As.toArray meth c cc n y D ct a0 A →
      (∀ (H : Heap) (locs : List Loc) (ls : Array Slot) (x z : UInt64) (h1 : KH), Post (some (x, z)) h1 → KW D A h1 H → va_S A s.heap H locs → W p l e (rmF d mc ms) s m As.toArray below meth c H locs mc ms Q (F0 m pd ls [.double z, .double x])) →
      (∀ (H : Heap) (locs : List Loc) (ls : Array Slot) (h1 : KH), Post none h1 → KW D A h1 H → va_S A s.heap H locs → W p l e (rmF d mc ms) s m As.toArray below meth c H locs mc ms Q (F0 m pt ls [.double FP.dconst1])) →
      KW D A h s.heap → va_S A s.heap s.heap [] → ∀ ls : Array Slot, lv_has ls n (lv_args 0 As) → W p l e (rmF d mc ms) s m As.toArray below meth c s.heap [] 0 0 Q (F0 m 0 ls [])) : CKD l y cc n d mc ms D ct a0 As h Post := by
  intro sz
  refine MetD.ofW (cc := cc) (maxL := n) (ret := some .double) hy rfl ?_
  intro p e s m args below meth c s₁ B hml hv hd0
  obtain ⟨rfl, hsz, hP, hK, hN, hZ⟩ := hv
  subst hsz
  rw [lg_entry_eq]
  have hlocks := B.notSynchronized
  refine body p e s m below meth c (MQD lw_cs below (kQD D Post (KA h s.heap.size)) As.toArray s mc ms (KA h s.heap.size)) (KA h s.heap.size) ⟨⟨B.exec, B.bytes, hml, findClass_of_methodNamed B.named, fun w hw => atoms_spec (ws := WSy y cc n (some .double)) B.pre w (List.mem_cons_of_mem _ hw)⟩, (name_of_methodNamed B.named B.method).1, hK, hN, hZ, fun q h => Or.inr h⟩
    (fun H locs ls x z h1 hp hW' hS' => ?_) (fun H locs ls h1 hp hW' hS' => ?_) hP va_S.rf _ (lv_entry As hn)
  · refine W.base ?_
    refine lv_ddiv_any hd0 lw_bits B.exec B.bytes hd1 (fun r d1 hal hd9 => ?_)
    refine lv_goto (tgt := pt) B.exec B.bytes hd2 ht ?_
    refine W.endD hd9 ?_
    exact W.dret B.exec B.bytes B.returns (fun t ht hw => ⟨⟨r, some (x, z), h1, rfl, hal, hp, by rw [ht]; exact hW'⟩, hS'.F ht⟩) hS'.2.2 hd3
  · refine W.base ?_
    refine W.endD hd0 ?_
    exact W.dret B.exec B.bytes B.returns (fun t ht hw => ⟨⟨FP.dconst1, none, h1, rfl, rfl, hp, by rw [ht]; exact hW'⟩, hS'.F ht⟩) hS'.2.2 hd3
theorem CFD.mk {tys : List (ClassId × FieldType)} {w w' : va_W} {v : DR} (hy : plainName y.cls = true) (hn : (lg_sl As).length ≤ n) (pd : Nat) (hd1 : decode cc pd = .ok (.ddiv, 1)) (hd3 : decode cc (pd + 1) = .ok (.dreturn, 1))
    (body : ∀ (p : Program) (e : Env) (s : State) (m : MethodId) (below : List Frame) (meth : Method) (c : Code) (Q : State → Prop) (A : Nat → Prop), BX p s m As.toArray c cc n y.cls → va_K D vwCl tys s → (∀ w2 : va_W, w2.map Prod.fst = w.map Prod.fst → va_D A w2) → (∀ q : Nat, s.heap.size ≤ q → A q) →
      (∀ (H : Heap) (locs : List Loc) (ls : Array Slot) (x z : UInt64), v = some (x, z) → va_P D vwCl w' H → va_S A s.heap H locs → W p l e (rmF d 0 0) s m As.toArray below meth c H locs 0 0 Q (F0 m pd ls [.double z, .double x])) →
      (∀ (H : Heap) (locs : List Loc) (ls : Array Slot), v = none → va_P D vwCl w' H → va_S A s.heap H locs → W p l e (rmF d 0 0) s m As.toArray below meth c H locs 0 0 Q (F0 m (pd + 1) ls [.double FP.dconst1])) →
      va_P D vwCl w s.heap → va_S A s.heap s.heap [] → ∀ ls : Array Slot, lv_has ls n (lv_args 0 As) → W p l e (rmF d 0 0) s m As.toArray below meth c s.heap [] 0 0 Q (F0 m 0 ls [])) : CFD l y cc n d D tys As v w w' := by
  intro sz
  refine MetD.ofW (cc := cc) (maxL := n) (ret := some .double) hy rfl ?_
  intro p e s m args below meth c s₁ B hml hv hd0
  obtain ⟨rfl, hsz, hP, hK, hD0⟩ := hv
  subst hsz
  rw [lg_entry_eq]
  have hlocks := B.notSynchronized
  refine body p e s m below meth c (MQD lw_cs below (fQD D v w' (va_A w s.heap.size)) As.toArray s 0 0 (va_A w s.heap.size)) (va_A w s.heap.size) ⟨B.exec, B.bytes, hml, findClass_of_methodNamed B.named, fun w hw => atoms_spec (ws := WSy y cc n (some .double)) B.pre w (List.mem_cons_of_mem _ hw)⟩ hK (fun w2 h2 => va_D.same h2 (hD0.self)) (fun q h => Or.inr h)
    (fun H locs ls x z hv hP' hS' => ?_) (fun H locs ls hv hP' hS' => ?_) hP va_S.rf _ (lv_entry As hn)
  · refine W.base ?_
    refine lv_ddiv_any hd0 lw_bits B.exec B.bytes hd1 (fun r d1 hal hd9 => ?_)
    refine W.endD hd9 ?_
    exact W.dret B.exec B.bytes B.returns (fun t ht hw => ⟨⟨r, rfl, by rw [hv]; exact hal⟩, by rw [ht]; exact hP', hS'.F ht⟩) hS'.2.2 hd3
  · refine W.base ?_
    refine W.endD hd0 ?_
    exact W.dret B.exec B.bytes B.returns (fun t ht hw => ⟨⟨FP.dconst1, rfl, by rw [hv]; rfl⟩, by rw [ht]; exact hP', hS'.F ht⟩) hS'.2.2 hd3
end MK4
