/-! rows over the known heap: grids, clone, copies, casts, the list's own empty array -/
section KROWS2
variable {p : Program} {l : Launch} {e : Env} {R : Room} {s : State} {m : MethodId} {args : Array Value} {below : List Frame} {meth : Method} {c : Code} {H : Heap} {locs : List Loc} {cells slots : Nat} {Q : State → Prop}
variable {cc : ByteArray} {pc : Nat} {ls : Array Slot} {rest : List Value} {D : va_G} {A : Nat → Prop} {a : Nat} {ct : Nat → ClassId} {h : KH} {a0 : Nat}
theorem kw_mna (hexec : p.tables.exec = Jvm.exec) (hb : c.code = cc) {own : String} {index : Nat} (hown : s.vm.findClass own = some m.cls) (hclink : (Cond.classLink own index ("[" ++ (FieldType.array .int).toString)).before args s = true) (hN : NK s) (harr : (Cond.arrayClass .int).before args s = true)
    (hK : va_K D vwCl (tysK ct) s) (hW : KW D A h H) (hS : va_S A s.heap H locs) (hA : ∀ q, s.heap.size ≤ q → A q) (hcells : cells + 6 ≤ R.cells) (hslots : slots + 30 ≤ R.slots) (hdg : decode cc pc = .ok (.multianewarray index 2, 4))
    (kk : ∀ (q : Nat) (r : Nat → Nat) (h1 : KH) (H1 : Heap), h q = none → (∀ i, i < 5 → h (r i) = none) → (∀ i, i < 5 → r i ≠ q) → (∀ i j, i < 5 → j < 5 → r i = r j → i = j) →
      h1 = hups (hup h q (.inl (ct 4, 5, .inr (.inr (.inr (.inr (fun i => if i < 5 then some (r i) else none))))))) ((List.range 5).map fun i => (r i, .inl (ct 0, 5, .inl (fun _ => 0)))) → KW D A h1 H1 → va_S A s.heap H1 locs →
      W p l e R s m args below meth c H1 locs (cells + 6) (slots + 30) Q (F0 m (pc + 4) ls (.ref q :: rest))) : W p l e R s m args below meth c H locs cells slots Q (F0 m pc ls (.int 5 :: .int 5 :: rest)) := by
  obtain ⟨ws, hlk, hP, hD⟩ := hW
  have hcy : s.vm.findClass (FieldType.array .int).toString = some (ct 0) := (hK.2 0 (ct 0, .int) rfl).2
  refine va_mna (X := ws) (L := []) (f := fun _ => .inr (0, [])) (ty := .int) (z := (5, .inl (fun _ => 0))) hexec hb hown hclink hN.2.2 harr hcy hK (by simpa [va_pl] using hP) (by simpa [va_pl] using hD) hS hA (n := 5) (k := 5) (N' := 5) (K' := 5) (by decide) (by decide) (by decide) (by decide) (by decide) (by decide) (by decide) rfl rfl (by omega) (by omega) (fun c9 => by
    show ({ cls := c9, slots := Array.replicate 5 (.int 0), vm := .none } : Cell) = _
    rw [arrV_new]
    rfl) hdg (fun q r cA H1 hinj hnew hK1 hP1 hD1 hS1 => ?_)
  have hlast : (tysK ct ++ [(cA, FieldType.array .int)])[5]? = some (cA, .array .int) := rfl
  have hcc : cA = ct 4 := va_RA.uni (hK1.2 5 (cA, .array .int) hlast).2 (hK.2 4 (ct 4, .array .int) rfl).2
  subst hcc
  have hrows : va_pl ([] ++ (List.range 5).map r) (vr_up (fun _ => .inr (0, [])) ((List.range 5).map r) (.inl (ct 0, 5, .inl (fun _ => 0)))) = ((List.range 5).map fun i => ((r i, .inl (ct 0, 5, .inl (fun _ => 0))) : Nat × va_E)) := by
    unfold va_pl
    rw [List.nil_append, List.map_map]
    apply List.map_congr_left
    intro i hi
    show (r i, vr_up _ _ _ (r i)) = _
    rw [vr_up_in (List.mem_map.mpr ⟨i, hi, rfl⟩)]
  rw [hrows] at hP1 hD1
  have hq : h q = none := hlk.fresh (va_D.front hD1)
  have hl1 := hlk.push (e := .inl (ct 4, 5, .inr (.inr (.inr (.inr (fun i => if i < 5 then some (r i) else none)))))) hq
  have hl2 := lkOK.pushs _ hl1 hD1
  have hrow : ∀ i, i < 5 → ((ws ++ [(q, .inl (ct 4, 5, .inr (.inr (.inr (.inr (fun i => if i < 5 then some (r i) else none))))))]) ++ ((List.range 5).map fun i => ((r i, .inl (ct 0, 5, .inl (fun _ => 0))) : Nat × va_E)))[ws.length + 1 + i]? = some (r i, .inl (ct 0, 5, .inl (fun _ => 0))) := by
    intro i hi
    rw [List.getElem?_append_right (by simp), List.getElem?_map]
    have : ws.length + 1 + i - (ws ++ [(q, .inl (ct 4, 5, .inr (.inr (.inr (.inr (fun i => if i < 5 then some (r i) else none))))))] : va_W).length = i := by simp
    rw [this, List.getElem?_range hi]
    rfl
  have hqi : ((ws ++ [(q, .inl (ct 4, 5, .inr (.inr (.inr (.inr (fun i => if i < 5 then some (r i) else none))))))]) ++ ((List.range 5).map fun i => ((r i, .inl (ct 0, 5, .inl (fun _ => 0))) : Nat × va_E)))[ws.length]? = some (q, .inl (ct 4, 5, .inr (.inr (.inr (.inr (fun i => if i < 5 then some (r i) else none)))))) := by
    rw [List.getElem?_append_left (by simp), List.getElem?_append_right (Nat.le_refl _), Nat.sub_self]
    rfl
  refine W.widen (k := cells + 6) (n := slots + 30) (by omega) (by omega) (kk q r _ H1 hq (fun i hi => ?_) (fun i hi z => ?_) hinj rfl ⟨_, hl2, hP1, hD1⟩ hS1)
  · cases hh : h (r i) with
    | none => rfl
    | some e1 =>
      obtain ⟨j, hj⟩ := List.getElem?_of_mem ((hlk (r i) e1).mpr hh)
      have hlt := (List.getElem?_eq_some_iff.mp hj).1
      have h9 : ((ws ++ [(q, .inl (ct 4, 5, .inr (.inr (.inr (.inr (fun i => if i < 5 then some (r i) else none))))))]) ++ ((List.range 5).map fun i => ((r i, .inl (ct 0, 5, .inl (fun _ => 0))) : Nat × va_E)))[j]? = some (r i, e1) := by
        rw [List.getElem?_append_left (by simp; omega), List.getElem?_append_left hlt]
        exact hj
      have := hD1.1 j _ _ _ h9 (hrow i hi) rfl
      omega
  · have := hD1.1 _ _ _ _ (hrow i hi) hqi z
    omega
theorem kw_clone (hexec : p.tables.exec = Jvm.exec) (hb : c.code = cc) (hml : c.maxLocals = ls.size) {own : String} {index : Nat} (hown : s.vm.findClass own = some m.cls)
    (hlink : (Cond.methodLink own index ⟨"[I", "clone", "()Ljava/lang/Object;"⟩).before args s = true) (hsame : (Cond.sameMethod "[I" "java/lang/Object" "clone" "()Ljava/lang/Object;").before args s = true)
    (hnat : (Cond.native ⟨"java/lang/Object", "clone", "()Ljava/lang/Object;"⟩).before args s = true) (hinst : (Cond.instanceMethod ⟨"java/lang/Object", "clone", "()Ljava/lang/Object;"⟩).before args s = true)
    (hsel : (Cond.selects "[I" ⟨"[I", "clone", "()Ljava/lang/Object;"⟩ ⟨"java/lang/Object", "clone", "()Ljava/lang/Object;"⟩).before args s = true) (hN : NK s)
    (hK : va_K D vwCl (tysK ct) s) (hW : KW D A h H) (hS : va_S A s.heap H locs) (hA : ∀ q, s.heap.size ≤ q → A q) {f : Nat → Int32} (hh : h a = some (.inl (ct 0, 5, .inl f)))
    (hframes : 1 ≤ R.frames) (hlocals : (rest.map fun v => v.category).sum + 14 ≤ R.locals) (hcells : cells + 1 ≤ R.cells) (hslots : slots + 5 ≤ R.slots) (hdg : decode cc pc = .ok (.invokevirtual index, 3))
    (kk : ∀ (q : Nat) (H1 : Heap) (h1 : KH), h q = none → h1 = hup h q (.inl (ct 0, 5, .inl f)) → KW D A h1 H1 → va_S A s.heap H1 locs →
      W p l e R s m args below meth c H1 locs (cells + 1) (slots + 5) Q (F0 m (pc + 3) ls (.ref q :: rest))) : W p l e R s m args below meth c H locs cells slots Q (F0 m pc ls (.ref a :: rest)) := by
  obtain ⟨ws, hlk, hP, hD⟩ := hW
  obtain ⟨q0, hq⟩ := List.getElem?_of_mem ((hlk a _).mpr hh)
  refine va_clone (x := (5, .inl f)) (ty := .int) hexec hb hml hown hlink hsame hnat hinst hsel (hN.1.2 ("[I", "java/lang/Cloneable") (List.mem_of_getElem? (i := 3) rfl)) hK hP hD hS hA q0 0 hq rfl (hK.2 0 (ct 0, .int) rfl).2 (fun i v hv => ?_) hframes hlocals hcells hslots hdg (fun q H1 _ hP1 hD1 hS1 => kk q H1 _ (hlk.fresh hD1) rfl ⟨_, hlk.push (hlk.fresh hD1), hP1, hD1⟩ hS1)
  rw [vp_cell_i] at hv
  have hlt : i < 5 := by
    have := (Array.getElem?_eq_some_iff.mp hv).1
    rwa [arrV_size] at this
  rw [arrV_read _ _ hlt] at hv
  cases hv
  rfl
theorem kw_copy (hexec : p.tables.exec = Jvm.exec) (hb : c.code = cc) (hml : c.maxLocals = ls.size) {own : String} {index : Nat} (hown : s.vm.findClass own = some m.cls) (hlink : (Cond.methodLink own index arraycopyName).before args s = true) (hnat : (Cond.native arraycopyName).before args s = true) (hstat : (Cond.static arraycopyName).before args s = true) (hini : (Cond.initialized "java/lang/System").before args s = true)
    (hK : va_K D vwCl (tysK ct) s) (hN : NK s) (hW : KW D A h H) (hS : va_S A s.heap H locs) {N ci : Nat} {f : Nat → Option Nat} {sp dp n : Int32} (hh : h a = some (.inl (ct 3, N, .inr (.inr (.inr (.inr f))))))
    (h1 : ¬ sp < 0) (h2 : ¬ dp < 0) (h3 : ¬ n < 0) (h4 : sp.toNatClampNeg + n.toNatClampNeg ≤ N) (h5 : dp.toNatClampNeg + n.toNatClampNeg ≤ N) (hci : okc ci) (hel : ∀ i : Nat, i < n.toNatClampNeg → ∀ y : Nat, f (sp.toNatClampNeg + i) = some y → ∃ vs, h y = some (.inr (ci, vs)))
    (hframes : 1 ≤ R.frames) (hlocals : (rest.map fun v => v.category).sum + (nativeFrameWords "java/lang/System" "arraycopy" 5 + 11) ≤ R.locals) (hdg : decode cc pc = .ok (.invokestatic index, 3))
    (kk : ∀ (H1 : Heap) (locs1 : List Loc) (h1 : KH), h1 = hup h a (.inl (ct 3, N, .inr (.inr (.inr (.inr (va_cpy f f sp.toNatClampNeg dp.toNatClampNeg n.toNatClampNeg)))))) → KW D A h1 H1 → va_S A s.heap H1 locs1 → W p l e R s m args below meth c H1 locs1 cells slots Q (F0 m (pc + 3) ls rest)) : W p l e R s m args below meth c H locs cells slots Q (F0 m pc ls (.int n :: .int dp :: .ref a :: .int sp :: .ref a :: rest)) := by
  obtain ⟨r, hr, hca⟩ := hci.cast hN.1
  have hel2 : ∀ i : Nat, i < n.toNatClampNeg → ∀ y : Nat, f (sp.toNatClampNeg + i) = some y → ∃ cellV : Cell, H[y]? = some cellV ∧ cellV.vm.isStatics = false ∧ s.vm.findClass r.1 = some cellV.cls := fun i hi y hy => by
    obtain ⟨vs, hv⟩ := hel i hi y hy
    exact va_recv hK (hW.at hv) (ci := ci) (q0 := 0) hr rfl
  obtain ⟨ws, hlk, hP, hD⟩ := hW
  obtain ⟨q0, hq⟩ := List.getElem?_of_mem ((hlk a _).mpr hh)
  refine va_copyq (C := r.1) hexec hb hml hown hlink hnat hstat hini hK hP hD hS q0 q0 3 3 hq hq rfl rfl h1 h2 h3 h4 h5 hel2 (fun comp c0 e1 e2 => ?_) hframes hlocals hdg (fun H1 locs1 hP1 hD1 hS1 => kk H1 locs1 _ rfl ⟨_, hlk.set hD hq, hP1, hD1⟩ hS1)
  obtain ⟨x0, t0, f1, f2, f3⟩ := Cond.castable_spec (va_Nw.use (A := args) rfl hca)
  cases f1.symm.trans e2
  cases f2.symm.trans e1
  exact f3
theorem kw_castO (hexec : p.tables.exec = Jvm.exec) (hb : c.code = cc) {own nm : String} {index ci N0 : Nat} {T0 : u_T} {fs : List Value} (hown : s.vm.findClass own = some m.cls) (hlink : (Cond.classLink own index nm).before args s = true) (hK : va_K D vwCl (tysK ct) s) (hW : KW D A h H) (hh : h a = some (.inr (ci, fs))) (hc : vwCl[ci]? = some (nm, T0, N0)) (hdg : decode cc pc = .ok (.checkcast index, 3))
    (k : W p l e R s m args below meth c H locs cells slots Q (F0 m (pc + 3) ls (.ref a :: rest))) : W p l e R s m args below meth c H locs cells slots Q (F0 m pc ls (.ref a :: rest)) :=
  va_castS hexec hb hown hlink (hK.1 ci _ hc).2 (va_recv hK (hW.at hh) (ci := ci) (q0 := 0) hc rfl) hdg k
theorem kw_castA (hexec : p.tables.exec = Jvm.exec) (hb : c.code = cc) {own : String} {index : Nat} {x : vp_A} (hown : s.vm.findClass own = some m.cls) (hlink : (Cond.classLink own index "[I").before args s = true) (hK : va_K D vwCl (tysK ct) s) (hW : KW D A h H) (hh : h a = some (.inl (ct 0, x))) (hdg : decode cc pc = .ok (.checkcast index, 3))
    (k : W p l e R s m args below meth c H locs cells slots Q (F0 m (pc + 3) ls (.ref a :: rest))) : W p l e R s m args below meth c H locs cells slots Q (F0 m pc ls (.ref a :: rest)) :=
  va_castA hexec hb hown hlink (hW.at hh) 0 rfl (hK.2 0 (ct 0, .int) rfl).2 hdg k
theorem kw_gets (hexec : p.tables.exec = Jvm.exec) (hb : c.code = cc) {own : String} {index : Nat} (hZ : SE a0 A s s.heap) (hS : va_S A s.heap H locs) (hown : s.vm.findClass own = some m.cls) (hlink : (Cond.fieldLink own index "java/util/ArrayList" "DEFAULTCAPACITY_EMPTY_ELEMENTDATA" "[Ljava/lang/Object;").before args s = true) (hdg : decode cc pc = .ok (.getstatic index, 3))
    (kk : W p l e R s m args below meth c H locs cells slots Q (F0 m (pc + 3) ls (.ref a0 :: rest))) : W p l e R s m args below meth c H locs cells slots Q (F0 m pc ls rest) :=
  va_gets hexec hb hZ.1 hS hown hlink (fun _ h9 => h9) hdg kk
theorem kw_alen0 (hexec : p.tables.exec = Jvm.exec) (hb : c.code = cc) (hZ : SE a0 A s s.heap) (hS : va_S A s.heap H locs) (hdg : decode cc pc = .ok (.arraylength, 1))
    (kk : W p l e R s m args below meth c H locs cells slots Q (F0 m (pc + 1) ls (.int 0 :: rest))) : W p l e R s m args below meth c H locs cells slots Q (F0 m pc ls (.ref a0 :: rest)) :=
  va_tlen hexec hb hZ.2 hS rfl hdg kk
end KROWS2
