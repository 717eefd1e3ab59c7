/-! words of all methods in one list; calls with it; pure guards; contracts of statics and of methods over a world of fixed cells -/
theorem goodIn_sub {big ws : List Cond} (hm : ∀ w ∈ ws, w ∈ big) (h : ws.all goodWord = true) : GoodIn big ws := fun w hw => ⟨hm w hw, good_of_word (List.all_eq_true.mp h w hw)⟩
abbrev vwCl : List vw_C := [(RJx4a65c, TJx4a65c, 3), (RX0, TX0, 5), (RX1, TX1, 2), (RX0, TX0, 5), (RX3, TX3, 3), (RX4, TX4, 14), (RX5, TX5, 7)]
theorem wsL_good : GoodIn wsL_law wsL_law := goodIn_sub (fun _ h => h) (by decide +kernel)
abbrev WSy (y : MethodName) (cc : ByteArray) (n : Nat) (ret : Option FieldType) : List Cond := .code y cc n ret :: wsL_law
abbrev rmF (d mc ms : Nat) : Room := { frames := d, cells := mc, slots := ms, locals := 40 * d }
theorem good_WSy {y : MethodName} {cc : ByteArray} {n : Nat} {ret : Option FieldType} (h : Cond.code y cc n ret ∈ wsL_law) : GoodIn wsL_law (WSy y cc n ret) := fun w hw => by
  rcases List.mem_cons.mp hw with e | e
  · subst e; exact wsL_good _ h
  · exact wsL_good _ e
def inb (i : Int32) (n : Nat) : Bool := decide (¬ (i < 0 ∨ n ≤ i.toNatClampNeg))
theorem inb_in {i : Int32} {n : Nat} (h : inb i n = true) : vp_in i n := of_decide_eq_true (p := ¬ (i < 0 ∨ n ≤ i.toNatClampNeg)) h
def grd {α : Type} (b : Bool) (x : Option α) : Option α := if b = true then x else none
theorem grd_some {α : Type} {b : Bool} {x : Option α} {r : α} (h : grd b x = some r) : b = true ∧ x = some r := by
  unfold grd at h
  split at h
  · exact ⟨by assumption, h⟩
  · cases h
theorem grd_t {α : Type} {b : Bool} {x : Option α} (h : b = true) : grd b x = x := if_pos h
def bnd {α β : Type} (x : Option α) (f : α → Option β) : Option β := match x with
  | none => none
  | some a => f a
theorem bnd_some {α β : Type} {x : Option α} {f : α → Option β} {r : β} (h : bnd x f = some r) : ∃ a, x = some a ∧ f a = some r := by
  cases x with
  | none => cases h
  | some a => exact ⟨a, rfl, h⟩
theorem bnd_t {α β : Type} {x : Option α} {f : α → Option β} {a : α} (h : x = some a) : bnd x f = f a := by subst h; rfl
theorem ift {α : Type} {c : Prop} [Decidable c] {x y r : α} (hc : c) (h : (if c then x else y) = r) : x = r := (if_pos hc).symm.trans h
theorem ifn {α : Type} {c : Prop} [Decidable c] {x y r : α} (hc : ¬ c) (h : (if c then x else y) = r) : y = r := (if_neg hc).symm.trans h
def isB (r : Int32) : Bool := r == 0 || r == 1
theorem isB_nar {r : Int32} (h : isB r = true) : narrow .boolean (.int r) = .int r := by
  unfold isB at h
  rcases (Bool.or_eq_true _ _).mp h with h | h
  · rw [eq_of_beq h]; rfl
  · rw [eq_of_beq h]; rfl
theorem isB_fit {r : Int32} (h : isB r = true) : fits .boolean (.int r) = true := by
  unfold isB at h
  rcases (Bool.or_eq_true _ _).mp h with h | h
  · rw [eq_of_beq h]; rfl
  · rw [eq_of_beq h]; rfl
/-- a method of the tables: its code, its kind, its class ready, its arguments counted -/
def SOk (y : MethodName) (cc : ByteArray) (n : Nat) (ret : Option FieldType) (k : Nat) : Prop := Cond.code y cc n ret ∈ wsL_law ∧ Cond.static y ∈ wsL_law ∧ Cond.initialized y.cls ∈ wsL_law ∧ (y.cls ≠ "java/lang/invoke/MethodHandle" ∧ y.cls ≠ "java/lang/invoke/VarHandle" ∧ (parseMethodDescriptor y.desc).map (fun d => d.parameters.length) = some k)
def VOk (y : MethodName) (cc : ByteArray) (n : Nat) (ret : Option FieldType) (k : Nat) : Prop := Cond.code y cc n ret ∈ wsL_law ∧ Cond.instanceMethod y ∈ wsL_law ∧ Cond.selects y.cls y y ∈ wsL_law ∧ Cond.initialized y.cls ∈ wsL_law ∧ (y.cls ≠ "java/lang/invoke/MethodHandle" ∧ y.cls ≠ "java/lang/invoke/VarHandle" ∧ (parseMethodDescriptor y.desc).map (fun d => d.parameters.length) = some k)
/-- what a body stands on -/
def BX (p : Program) (s : State) (m : MethodId) (args : Array Value) (c : Code) (cc : ByteArray) (n : Nat) (own : String) : Prop :=
  p.tables.exec = Jvm.exec ∧ c.code = cc ∧ c.maxLocals = n ∧ s.vm.findClass own = some m.cls ∧ ∀ w ∈ wsL_law, w.before args s = true
def sQ (v : Option Value) : Array Value → State → Outcome → State → Prop := fun _ st o t => o = .returned v ∧ t.heap = st.heap
def fQ (D : va_G) (v : Option Value) (w' : va_W) (A : Nat → Prop) : Array Value → State → Outcome → State → Prop := fun _ st o t => o = .returned v ∧ va_P D vwCl w' t.heap ∧ va_F A st t
def FPre (D : va_G) (tys : List (ClassId × FieldType)) (w : va_W) (sz : Nat) : State → Prop := fun U => U.heap.size = sz ∧ va_P D vwCl w U.heap ∧ va_K D vwCl tys U ∧ va_D (fun _ => True) w
theorem FPre.blind {D : va_G} {tys : List (ClassId × FieldType)} {w : va_W} {sz : Nat} {As : List Value} : FrameBlind (va_Pc As (FPre D tys w sz)) := fun a U g mk q => by
  obtain ⟨h0, h1, h2, h3, h4⟩ := q
  exact ⟨h0, h1, h2, va_K.moved (u := U) (U := U.calling g mk a) (Vm.Alike.refl U.vm) h3, h4⟩
/-- a static method's contract: height d, answer v -/
abbrev CS (l : Launch) (y : MethodName) (cc : ByteArray) (n d : Nat) (ret : Option FieldType) (As : List Value) (v : Option Value) : Prop := Met l y (WSy y cc n ret) (rmF d 0 0) (va_Pc As (fun _ => True)) (sQ v) 0 0 (fun _ => False)
/-- a method over the cells w: answer v, the cells w' behind it -/
abbrev CF (l : Launch) (y : MethodName) (cc : ByteArray) (n d : Nat) (ret : Option FieldType) (D : va_G) (tys : List (ClassId × FieldType)) (As : List Value) (v : Option Value) (w w' : va_W) : Prop := ∀ sz : Nat, Met l y (WSy y cc n ret) (rmF d 0 0) (va_Pc As (FPre D tys w sz)) (fQ D v w' (va_A w sz)) 0 0 (va_A w sz)
theorem va_D.same {A : Nat → Prop} {w w2 : va_W} (h : w2.map Prod.fst = w.map Prod.fst) (hD : va_D A w) : va_D A w2 := by
  have key : ∀ (k : Nat) (q : Nat × va_E), w2[k]? = some q → ∃ q0, w[k]? = some q0 ∧ q0.1 = q.1 := by
    intro k q hk
    have h1 : (w2.map Prod.fst)[k]? = some q.1 := by rw [List.getElem?_map, hk]; rfl
    rw [h, List.getElem?_map] at h1
    cases hw : w[k]? with
    | none => rw [hw] at h1; cases h1
    | some q0 => rw [hw] at h1; exact ⟨q0, rfl, Option.some.inj h1⟩
  refine ⟨fun i j x y hi hj hxy => ?_, fun k q hk => ?_⟩
  · obtain ⟨x0, h1, h2⟩ := key i x hi
    obtain ⟨y0, h3, h4⟩ := key j y hj
    exact hD.1 i j x0 y0 h1 h3 (h2.trans (hxy.trans h4.symm))
  · obtain ⟨q0, h1, h2⟩ := key k q hk
    rw [← h2]
    exact hD.2 k q0 h1
section MK
variable {l : Launch} {y : MethodName} {cc : ByteArray} {n d : Nat} {As : List Value}
theorem CS.mkI {ret : FieldType} {r : Int32} (hy : plainName y.cls = true) (hn : (lg_sl As).length ≤ n)
    (body : ∀ (p : Program) (e : Env) (s : State) (m : MethodId) (below : List Frame) (meth : Method) (c : Code) (Q : State → Prop), BX p s m As.toArray c cc n y.cls →
      (∀ (pc : Nat) (ls : Array Slot), narrow ret (.int r) = .int r → decode cc pc = .ok (.ireturn, 1) → W p l e (rmF d 0 0) s m As.toArray below meth c s.heap [] 0 0 Q (F0 m pc ls [.int r])) →
      ∀ ls : Array Slot, lv_has ls n (lv_args 0 As) → W p l e (rmF d 0 0) s m As.toArray below meth c s.heap [] 0 0 Q (F0 m 0 ls [])) : CS l y cc n d (some ret) As (some (.int r)) := by
  refine Met.ofW (cc := cc) (maxL := n) (ret := some ret) hy rfl ?_
  intro p e s m args below meth c s₁ B hml hv
  obtain ⟨rfl, -⟩ := hv
  rw [lg_entry_eq]
  exact body p e s m below meth c _ ⟨B.exec, B.bytes, hml, findClass_of_methodNamed B.named, fun w hw => atoms_spec (ws := WSy y cc n (some ret)) B.pre w (List.mem_cons_of_mem _ hw)⟩ (fun pc ls hnar hd => W.zret B.exec B.bytes B.returns hnar (fun t ht hW => ⟨rfl, ht⟩) (fun q h => by cases h) hd B.notSynchronized) _ (lv_entry As hn)
theorem CS.mkL {r : Int64} (hy : plainName y.cls = true) (hn : (lg_sl As).length ≤ n)
    (body : ∀ (p : Program) (e : Env) (s : State) (m : MethodId) (below : List Frame) (meth : Method) (c : Code) (Q : State → Prop), BX p s m As.toArray c cc n y.cls →
      (∀ (pc : Nat) (ls : Array Slot), decode cc pc = .ok (.lreturn, 1) → W p l e (rmF d 0 0) s m As.toArray below meth c s.heap [] 0 0 Q (F0 m pc ls [.long r])) →
      ∀ ls : Array Slot, lv_has ls n (lv_args 0 As) → W p l e (rmF d 0 0) s m As.toArray below meth c s.heap [] 0 0 Q (F0 m 0 ls [])) : CS l y cc n d (some .long) As (some (.long r)) := by
  refine Met.ofW (cc := cc) (maxL := n) (ret := some .long) hy rfl ?_
  intro p e s m args below meth c s₁ B hml hv
  obtain ⟨rfl, -⟩ := hv
  rw [lg_entry_eq]
  exact body p e s m below meth c _ ⟨B.exec, B.bytes, hml, findClass_of_methodNamed B.named, fun w hw => atoms_spec (ws := WSy y cc n (some .long)) B.pre w (List.mem_cons_of_mem _ hw)⟩ (fun pc ls hd => W.lret B.exec B.bytes B.returns (fun t ht hW => ⟨rfl, ht⟩) (fun q h => by cases h) hd B.notSynchronized) _ (lv_entry As hn)
variable {D : va_G} {tys : List (ClassId × FieldType)} {w w' : va_W}
theorem CF.mkI {ret : FieldType} {r : Int32} (hy : plainName y.cls = true) (hn : (lg_sl As).length ≤ n)
    (body : ∀ (p : Program) (e : Env) (s : State) (m : MethodId) (below : List Frame) (meth : Method) (c : Code) (Q : State → Prop) (A : Nat → Prop), BX p s m As.toArray c cc n y.cls → va_K D vwCl tys s → (∀ w2 : va_W, w2.map Prod.fst = w.map Prod.fst → va_D A w2) → (∀ q : Nat, s.heap.size ≤ q → A q) →
      (∀ (H : Heap) (locs : List Loc) (pc : Nat) (ls : Array Slot), narrow ret (.int r) = .int r → decode cc pc = .ok (.ireturn, 1) → va_P D vwCl w' H → va_S A s.heap H locs → W p l e (rmF d 0 0) s m As.toArray below meth c H locs 0 0 Q (F0 m pc ls [.int r])) →
      va_P D vwCl w s.heap → va_S A s.heap s.heap [] → ∀ ls : Array Slot, lv_has ls n (lv_args 0 As) → W p l e (rmF d 0 0) s m As.toArray below meth c s.heap [] 0 0 Q (F0 m 0 ls [])) : CF l y cc n d (some ret) D tys As (some (.int r)) w w' := by
  intro sz
  refine Met.ofW (cc := cc) (maxL := n) (ret := some ret) hy rfl ?_
  intro p e s m args below meth c s₁ B hml hv
  obtain ⟨rfl, hsz, hP, hK, hD0⟩ := hv
  subst hsz
  rw [lg_entry_eq]
  exact body p e s m below meth c _ (va_A w s.heap.size) ⟨B.exec, B.bytes, hml, findClass_of_methodNamed B.named, fun w hw => atoms_spec (ws := WSy y cc n (some ret)) B.pre w (List.mem_cons_of_mem _ hw)⟩ hK (fun w2 h2 => va_D.same h2 (hD0.self)) (fun q h => Or.inr h)
    (fun H locs pc ls hnar hd hP' hS' => W.zret B.exec B.bytes B.returns hnar (fun t ht hW => ⟨rfl, by rw [ht]; exact hP', hS'.F ht⟩) hS'.2.2 hd B.notSynchronized) hP va_S.rf _ (lv_entry As hn)
theorem CF.mkL {r : Int64} (hy : plainName y.cls = true) (hn : (lg_sl As).length ≤ n)
    (body : ∀ (p : Program) (e : Env) (s : State) (m : MethodId) (below : List Frame) (meth : Method) (c : Code) (Q : State → Prop) (A : Nat → Prop), BX p s m As.toArray c cc n y.cls → va_K D vwCl tys s → (∀ w2 : va_W, w2.map Prod.fst = w.map Prod.fst → va_D A w2) → (∀ q : Nat, s.heap.size ≤ q → A q) →
      (∀ (H : Heap) (locs : List Loc) (pc : Nat) (ls : Array Slot), decode cc pc = .ok (.lreturn, 1) → va_P D vwCl w' H → va_S A s.heap H locs → W p l e (rmF d 0 0) s m As.toArray below meth c H locs 0 0 Q (F0 m pc ls [.long r])) →
      va_P D vwCl w s.heap → va_S A s.heap s.heap [] → ∀ ls : Array Slot, lv_has ls n (lv_args 0 As) → W p l e (rmF d 0 0) s m As.toArray below meth c s.heap [] 0 0 Q (F0 m 0 ls [])) : CF l y cc n d (some .long) D tys As (some (.long r)) w w' := by
  intro sz
  refine Met.ofW (cc := cc) (maxL := n) (ret := some .long) hy rfl ?_
  intro p e s m args below meth c s₁ B hml hv
  obtain ⟨rfl, hsz, hP, hK, hD0⟩ := hv
  subst hsz
  rw [lg_entry_eq]
  exact body p e s m below meth c _ (va_A w s.heap.size) ⟨B.exec, B.bytes, hml, findClass_of_methodNamed B.named, fun w hw => atoms_spec (ws := WSy y cc n (some .long)) B.pre w (List.mem_cons_of_mem _ hw)⟩ hK (fun w2 h2 => va_D.same h2 (hD0.self)) (fun q h => Or.inr h)
    (fun H locs pc ls hd hP' hS' => W.lret B.exec B.bytes B.returns (fun t ht hW => ⟨rfl, by rw [ht]; exact hP', hS'.F ht⟩) hS'.2.2 hd B.notSynchronized) hP va_S.rf _ (lv_entry As hn)
theorem CF.mkV (hy : plainName y.cls = true) (hn : (lg_sl As).length ≤ n)
    (body : ∀ (p : Program) (e : Env) (s : State) (m : MethodId) (below : List Frame) (meth : Method) (c : Code) (Q : State → Prop) (A : Nat → Prop), BX p s m As.toArray c cc n y.cls → va_K D vwCl tys s → (∀ w2 : va_W, w2.map Prod.fst = w.map Prod.fst → va_D A w2) → (∀ q : Nat, s.heap.size ≤ q → A q) →
      (∀ (H : Heap) (locs : List Loc) (pc : Nat) (ls : Array Slot), decode cc pc = .ok (.return_, 1) → va_P D vwCl w' H → va_S A s.heap H locs → W p l e (rmF d 0 0) s m As.toArray below meth c H locs 0 0 Q (F0 m pc ls [])) →
      va_P D vwCl w s.heap → va_S A s.heap s.heap [] → ∀ ls : Array Slot, lv_has ls n (lv_args 0 As) → W p l e (rmF d 0 0) s m As.toArray below meth c s.heap [] 0 0 Q (F0 m 0 ls [])) : CF l y cc n d none D tys As none w w' := by
  intro sz
  refine Met.ofW (cc := cc) (maxL := n) (ret := none) hy rfl ?_
  intro p e s m args below meth c s₁ B hml hv
  obtain ⟨rfl, hsz, hP, hK, hD0⟩ := hv
  subst hsz
  rw [lg_entry_eq]
  exact body p e s m below meth c _ (va_A w s.heap.size) ⟨B.exec, B.bytes, hml, findClass_of_methodNamed B.named, fun w hw => atoms_spec (ws := WSy y cc n none) B.pre w (List.mem_cons_of_mem _ hw)⟩ hK (fun w2 h2 => va_D.same h2 (hD0.self)) (fun q h => Or.inr h)
    (fun H locs pc ls hd hP' hS' => W.vret B.exec B.bytes B.returns (fun t ht hW => ⟨rfl, by rw [ht]; exact hP', hS'.F ht⟩) hS'.2.2 hd B.notSynchronized) hP va_S.rf _ (lv_entry As hn)
end MK
section CALLS
variable {p : Program} {l : Launch} {e : Env} {R : Room} {s : State} {m : MethodId} {args : Array Value} {below : List Frame} {meth : Method} {c : Code} {H : Heap} {locs : List Loc} {cells slots : Nat} {Q : State → Prop}
variable {pc : Nat} {ls : Array Slot} {rest st0 : List Value} {a : Array Value} {cc : ByteArray} {nL : Nat} {own : String}
theorem s_run {v : Option Value} (hr : va_Run p l e R s m args below meth c H locs cells slots 0 0 (F0 m pc ls st0) rest (sQ v a) (fun _ => False))
    (kk : W p l e R s m args below meth c H locs cells slots Q (F0 m (pc + 3) ls (v.toList ++ rest))) : W p l e R s m args below meth c H locs cells slots Q (F0 m pc ls st0) := by
  intro T hT X
  obtain ⟨v1, st₀, t, T', L, h0, X', hL, e1, e2, ⟨hv, hb⟩, st⟩ := hr T hT X
  cases hv
  have hL0 : L = [] := by
    cases L with
    | nil => rfl
    | cons q L => exact (hL q List.mem_cons_self).elim
  subst hL0
  rw [List.append_nil] at X'
  obtain ⟨t2, a1, b1⟩ := kk T' (by rw [e1, hb, h0]) X'
  exact ⟨t2, st t2 a1, b1⟩
theorem f_run {v : Option Value} {D : va_G} {w' : va_W} {A A1 : Nat → Prop} (hr : va_Run p l e R s m args below meth c H locs cells slots 0 0 (F0 m pc ls st0) rest (fQ D v w' A1 a) A1) (hS : va_S A s.heap H locs) (hsub : ∀ q, A1 q → A q)
    (kk : ∀ (H1 : Heap) (locs1 : List Loc), va_P D vwCl w' H1 → va_S A s.heap H1 locs1 → W p l e R s m args below meth c H1 locs1 cells slots Q (F0 m (pc + 3) ls (v.toList ++ rest))) : W p l e R s m args below meth c H locs cells slots Q (F0 m pc ls st0) := by
  intro T hT X
  obtain ⟨v1, st₀, t, T', L, h0, X', hL, e1, e2, ⟨hv, hp, hz, hk⟩, st⟩ := hr T hT X
  cases hv
  rw [h0] at hz hk
  obtain ⟨t2, a1, b1⟩ := kk T'.heap (locs ++ L) (by rw [e1]; exact hp)
    ⟨Nat.le_trans hS.1 (by rw [e1]; exact hz), fun q h1 h2 => by rw [e1, hk q (Nat.lt_of_lt_of_le h1 hS.1) (fun z => h2 (hsub q z))]; exact hS.2.1 q h1 h2, fun q hq => by
      rcases List.mem_append.mp hq with h | h
      · exact hS.2.2 q h
      · exact hsub _ (hL q h)⟩ T' rfl X'
  exact ⟨t2, st t2 a1, b1⟩
variable {y : MethodName} {yc : ByteArray} {ny d k idx : Nat} {ret : Option FieldType} {As : List Value} {v : Option Value}
/-- a static call -/
theorem s_call (hM : CS l y yc ny d ret As v) (B : BX p s m args c cc nL own) (hO : SOk y yc ny ret k) (hlink : Cond.methodLink own idx y ∈ wsL_law) (hk : As.length = k) (hR : d + 1 ≤ R.frames ∧ 8 + (ny + 11) + 40 * d ≤ R.locals) (hC : cells ≤ R.cells ∧ slots ≤ R.slots) (hsz : ls.size = nL) (hst : st0 = As.reverse ++ rest) (hW : (rest.map fun v => v.category).sum ≤ 8) (hdg : decode cc pc = .ok (.invokestatic idx, 3))
    (kk : W p l e R s m args below meth c H locs cells slots Q (F0 m (pc + 3) ls (v.toList ++ rest))) : W p l e R s m args below meth c H locs cells slots Q (F0 m pc ls st0) := by
  obtain ⟨hx, hb, hml, hown, hts⟩ := B
  obtain ⟨o1, o2, o3, o4⟩ := hO
  exact s_run (va_runS (As := As) (rest := rest) (Ts := wsL_law) (n := k) ⟨hx, hb, hml, hown, hts⟩ hM ⟨callB_of k hts (good_WSy o1) rfl rfl rfl (hts _ o3) (hts _ hlink) o4 hR, hts _ o2⟩ ⟨fun a U g mk q => q, fun U hU hW => ⟨rfl, trivial⟩⟩ rfl hk hsz hst (lv_room hW) hdg hC) kk
/-- a call over the fixed cells -/
theorem f_call {D : va_G} {tys : List (ClassId × FieldType)} {w w' : va_W} {A : Nat → Prop} {ad : List Nat} {r0 : Nat} (hM : CF l y yc ny d ret D tys (.ref r0 :: As) v w w') (B : BX p s m args c cc nL own) (hK : va_K D vwCl tys s) (hDD : ∀ w2 : va_W, w2.map Prod.fst = ad → va_D A w2) (hA : ∀ q : Nat, s.heap.size ≤ q → A q) (hP : va_P D vwCl w H) (hS : va_S A s.heap H locs) (hw : w.map Prod.fst = ad)
    (hrecv : ∃ cell : Cell, H[r0]? = some cell ∧ cell.vm.isStatics = false ∧ s.vm.findClass y.cls = some cell.cls) (hO : VOk y yc ny ret k) (hlink : Cond.methodLink own idx y ∈ wsL_law) (hk : As.length = k) (hR : d + 1 ≤ R.frames ∧ 8 + (ny + 11) + 40 * d ≤ R.locals) (hC : cells ≤ R.cells ∧ slots ≤ R.slots) (hsz : ls.size = nL) (hst : st0 = As.reverse ++ .ref r0 :: rest) (hW : (rest.map fun v => v.category).sum ≤ 8) (hdg : decode cc pc = .ok (.invokevirtual idx, 3))
    (kk : ∀ (H1 : Heap) (locs1 : List Loc), va_P D vwCl w' H1 → va_S A s.heap H1 locs1 → W p l e R s m args below meth c H1 locs1 cells slots Q (F0 m (pc + 3) ls (v.toList ++ rest))) : W p l e R s m args below meth c H locs cells slots Q (F0 m pc ls st0) := by
  obtain ⟨hx, hb, hml, hown, hts⟩ := B
  obtain ⟨o1, o2, o3, o4, o5⟩ := hO
  have hsub : ∀ q, va_A w H.size q → A q := by
    intro q hq
    rcases hq with ⟨i, e9, h9⟩ | h9
    · exact (hDD w hw).2 i (q, e9) h9
    · exact hA q (Nat.le_trans hS.1 h9)
  exact f_run (va_runV (C := y.cls) (As := As) (rest := rest) (Ts := wsL_law) (n := k) ⟨hx, hb, hml, hown, hts⟩ (hM H.size) ⟨callB_of k hts (good_WSy o1) rfl rfl rfl (hts _ o4) (hts _ hlink) o5 hR, hts _ o2, hts _ o3⟩ ⟨FPre.blind, hrecv, fun U hU hW => ⟨rfl, by rw [hU], by rw [hU]; exact hP, va_K.moved hW.alike hK, (hDD w hw).weaken (fun _ _ _ _ => trivial)⟩⟩ rfl hk hsz hst (lv_room hW) hdg hC) hS hsub kk
end CALLS
