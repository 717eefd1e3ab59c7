/-! the known heap: what is known of the cells by their addresses; rows over it; steps as predicates (rd.. reads, wr.. st.. writes, nw.. makes) -/
abbrev KH : Type := Nat → Option va_E
def hup (h : KH) (a : Nat) (e : va_E) : KH := fun q => if q = a then some e else h q
def hups (h : KH) (l : va_W) : KH := l.foldl (fun h x => hup h x.1 x.2) h
def lkOK (ws : va_W) (h : KH) : Prop := ∀ (a : Nat) (e : va_E), (a, e) ∈ ws ↔ h a = some e
def KW (D : va_G) (A : Nat → Prop) (h : KH) (H : Heap) : Prop := ∃ ws : va_W, lkOK ws h ∧ va_P D vwCl ws H ∧ va_D A ws
def KA (h : KH) (sz : Nat) : Nat → Prop := fun q => (∃ e, h q = some e) ∨ sz ≤ q
theorem lkOK.set {A : Nat → Prop} {ws : va_W} {h : KH} {q0 a : Nat} {e0 e : va_E} (hl : lkOK ws h) (hD : va_D A ws) (hq : ws[q0]? = some (a, e0)) : lkOK (ws.set q0 (a, e)) (hup h a e) := by
  intro b e1
  have hlt := (List.getElem?_eq_some_iff.mp hq).1
  unfold hup
  constructor
  · intro hm
    obtain ⟨i, hi⟩ := List.getElem?_of_mem hm
    by_cases hi0 : i = q0
    · subst hi0
      rw [List.getElem?_set_self hlt] at hi
      cases hi
      rw [if_pos rfl]
    · rw [List.getElem?_set_ne (Ne.symm hi0)] at hi
      have hb : b ≠ a := fun z => hi0 (hD.1 i q0 (b, e1) (a, e0) hi hq z)
      rw [if_neg hb]
      exact (hl b e1).mp (List.mem_of_getElem? hi)
  · intro hh
    by_cases hb : b = a
    · subst hb
      rw [if_pos rfl] at hh
      cases hh
      exact List.mem_of_getElem? (List.getElem?_set_self hlt)
    · rw [if_neg hb] at hh
      obtain ⟨i, hi⟩ := List.getElem?_of_mem ((hl b e1).mpr hh)
      have hi0 : i ≠ q0 := fun z => by subst z; rw [hq] at hi; cases hi; exact hb rfl
      exact List.mem_of_getElem? ((List.getElem?_set_ne (Ne.symm hi0)).trans hi)
theorem lkOK.fresh {A : Nat → Prop} {ws : va_W} {h : KH} {q : Nat} {e : va_E} (hl : lkOK ws h) (hD : va_D A (ws ++ [(q, e)])) : h q = none := by
  cases hh : h q with
  | none => rfl
  | some e1 =>
    obtain ⟨i, hi⟩ := List.getElem?_of_mem ((hl q e1).mpr hh)
    have hlt := (List.getElem?_eq_some_iff.mp hi).1
    have h1 : (ws ++ [(q, e)])[i]? = some (q, e1) := by rw [List.getElem?_append_left hlt]; exact hi
    have h2 : (ws ++ [(q, e)])[ws.length]? = some (q, e) := by rw [List.getElem?_append_right (Nat.le_refl _), Nat.sub_self]; rfl
    have := hD.1 i ws.length _ _ h1 h2 rfl
    omega
theorem lkOK.push {ws : va_W} {h : KH} {q : Nat} {e : va_E} (hl : lkOK ws h) (hq : h q = none) : lkOK (ws ++ [(q, e)]) (hup h q e) := by
  intro b e1
  unfold hup
  constructor
  · intro hm
    rcases List.mem_append.mp hm with hm | hm
    · have h1 := (hl b e1).mp hm
      have hb : b ≠ q := fun z => by subst z; rw [hq] at h1; cases h1
      rw [if_neg hb]; exact h1
    · rcases List.mem_singleton.mp hm with hm
      cases hm
      rw [if_pos rfl]
  · intro hh
    by_cases hb : b = q
    · subst hb
      rw [if_pos rfl] at hh
      cases hh
      exact List.mem_append_right _ (List.mem_singleton.mpr rfl)
    · rw [if_neg hb] at hh
      exact List.mem_append_left _ ((hl b e1).mpr hh)
theorem va_D.front {A : Nat → Prop} {w1 w2 : va_W} (h : va_D A (w1 ++ w2)) : va_D A w1 := by
  refine ⟨fun i j p q hi hj hpq => ?_, fun k q hk => ?_⟩
  · exact h.1 i j p q (by rw [List.getElem?_append_left (List.getElem?_eq_some_iff.mp hi).1]; exact hi) (by rw [List.getElem?_append_left (List.getElem?_eq_some_iff.mp hj).1]; exact hj) hpq
  · exact h.2 k q (by rw [List.getElem?_append_left (List.getElem?_eq_some_iff.mp hk).1]; exact hk)
theorem lkOK.pushs {A : Nat → Prop} : ∀ (l : va_W) {ws : va_W} {h : KH}, lkOK ws h → va_D A (ws ++ l) → lkOK (ws ++ l) (hups h l)
  | [], ws, h, hl, _ => by rw [List.append_nil]; exact hl
  | x :: l, ws, h, hl, hD => by
    have e : ws ++ x :: l = (ws ++ [x]) ++ l := by rw [List.append_assoc]; rfl
    rw [e] at hD ⊢
    exact lkOK.pushs l (lkOK.push hl (lkOK.fresh hl hD.front)) hD
theorem KW.at {D : va_G} {A : Nat → Prop} {h : KH} {H : Heap} {a : Nat} {e : va_E} (hW : KW D A h H) (hh : h a = some e) : va_P D vwCl [(a, e)] H := by
  obtain ⟨ws, hl, hP, hD⟩ := hW
  obtain ⟨q0, hq⟩ := List.getElem?_of_mem ((hl a e).mpr hh)
  exact hP.sub [q0] (by simp [hq])
theorem KW.weaken {D : va_G} {A B : Nat → Prop} {h : KH} {H : Heap} (hW : KW D A h H) (hAB : ∀ q, (∃ e, h q = some e) → A q → B q) : KW D B h H := by
  obtain ⟨ws, hl, hP, hD⟩ := hW
  exact ⟨ws, hl, hP, hD.weaken (fun k q hk => hAB q.1 ⟨q.2, (hl q.1 q.2).mp (List.mem_of_getElem? hk)⟩)⟩
theorem KW.in {D : va_G} {A : Nat → Prop} {h : KH} {H : Heap} {a : Nat} {e : va_E} (hW : KW D A h H) (hh : h a = some e) : A a := by
  obtain ⟨ws, hl, hP, hD⟩ := hW
  obtain ⟨q0, hq⟩ := List.getElem?_of_mem ((hl a e).mpr hh)
  exact hD.2 q0 _ hq
-- the steps
def rdI (h : KH) (a ci k : Nat) (K : Int32 → Prop) : Prop := ∃ (fs : List Value) (x : Int32), h a = some (.inr (ci, fs)) ∧ fs[k]? = some (.int x) ∧ K x
def rdL (h : KH) (a ci k : Nat) (K : Int64 → Prop) : Prop := ∃ (fs : List Value) (x : Int64), h a = some (.inr (ci, fs)) ∧ fs[k]? = some (.long x) ∧ K x
def rdR (h : KH) (a ci k : Nat) (K : Nat → Prop) : Prop := ∃ (fs : List Value) (x : Nat), h a = some (.inr (ci, fs)) ∧ fs[k]? = some (.ref x) ∧ K x
def rdN (h : KH) (a ci k : Nat) (K : Option Nat → Prop) : Prop := ∃ (fs : List Value) (r : Option Nat), h a = some (.inr (ci, fs)) ∧ fs[k]? = some (va_rf r) ∧ K r
def wrF (h : KH) (a ci k : Nat) (v : Value) (K : KH → Prop) : Prop := ∃ fs : List Value, h a = some (.inr (ci, fs)) ∧ k < fs.length ∧ ∀ h1 : KH, h1 = hup h a (.inr (ci, fs.set k v)) → K h1
def ldI (h : KH) (a : Nat) (i : Int32) (cA : ClassId) (K : Int32 → Prop) : Prop := ∃ (n : Nat) (f : Nat → Int32) (v : Int32), h a = some (.inl (cA, n, .inl f)) ∧ inb i n = true ∧ f i.toNatClampNeg = v ∧ K v
def ldL (h : KH) (a : Nat) (i : Int32) (cA : ClassId) (K : Int64 → Prop) : Prop := ∃ (n : Nat) (f : Nat → Int64) (v : Int64), h a = some (.inl (cA, n, .inr (.inl f))) ∧ inb i n = true ∧ f i.toNatClampNeg = v ∧ K v
def ldR (h : KH) (a : Nat) (i : Int32) (cA : ClassId) (K : Nat → Prop) : Prop := ∃ (n : Nat) (f : Nat → Option Nat) (x : Nat), h a = some (.inl (cA, n, .inr (.inr (.inr (.inr f))))) ∧ inb i n = true ∧ f i.toNatClampNeg = some x ∧ K x
def stI (h : KH) (a : Nat) (i : Int32) (cA : ClassId) (x : Int32) (K : KH → Prop) : Prop := ∃ (n : Nat) (f : Nat → Int32), h a = some (.inl (cA, n, .inl f)) ∧ inb i n = true ∧ ∀ h1 : KH, h1 = hup h a (.inl (cA, n, .inl (upd f i.toNatClampNeg x))) → K h1
def stL (h : KH) (a : Nat) (i : Int32) (cA : ClassId) (x : Int64) (K : KH → Prop) : Prop := ∃ (n : Nat) (f : Nat → Int64), h a = some (.inl (cA, n, .inr (.inl f))) ∧ inb i n = true ∧ ∀ h1 : KH, h1 = hup h a (.inl (cA, n, .inr (.inl (vp_updL f i.toNatClampNeg x)))) → K h1
def okc (ci : Nat) : Prop := ci = 1 ∨ ci = 5
def stQ (h : KH) (a : Nat) (i : Int32) (cA : ClassId) (x : Nat) (K : KH → Prop) : Prop := ∃ (n : Nat) (f : Nat → Option Nat) (ci : Nat) (vs : List Value), h a = some (.inl (cA, n, .inr (.inr (.inr (.inr f))))) ∧ inb i n = true ∧ h x = some (.inr (ci, vs)) ∧ okc ci ∧ ∀ h1 : KH, h1 = hup h a (.inl (cA, n, .inr (.inr (.inr (.inr (va_up f i.toNatClampNeg (some x))))))) → K h1
def stN (h : KH) (a : Nat) (i : Int32) (cA : ClassId) (K : KH → Prop) : Prop := ∃ (n : Nat) (f : Nat → Option Nat), h a = some (.inl (cA, n, .inr (.inr (.inr (.inr f))))) ∧ inb i n = true ∧ ∀ h1 : KH, h1 = hup h a (.inl (cA, n, .inr (.inr (.inr (.inr (va_up f i.toNatClampNeg none)))))) → K h1
def aln (h : KH) (a : Nat) (cA : ClassId) (K : Int32 → Prop) : Prop := ∃ (x : vp_A) (v : Int32), h a = some (.inl (cA, x)) ∧ Int32.ofNat x.1 = v ∧ K v
def alnE (a0 : Nat) (h : KH) (a : Nat) (cA : ClassId) (K : Int32 → Prop) : Prop := (a = a0 → K 0) ∧ (a ≠ a0 → aln h a cA K)
def nwC (h : KH) (e : va_E) (K : Nat → KH → Prop) : Prop := ∀ (q : Nat) (h1 : KH), h q = none → h1 = hup h q e → K q h1
def nwQ (a0 : Nat) (h : KH) (e : va_E) (K : Nat → KH → Prop) : Prop := ∀ (q : Nat) (h1 : KH), h q = none → q ≠ a0 → h1 = hup h q e → K q h1
def nwG (h : KH) (ct : Nat → ClassId) (K : Nat → KH → Prop) : Prop := ∀ (q : Nat) (r : Nat → Nat) (h1 : KH), h q = none → (∀ i, i < 5 → h (r i) = none) → (∀ i, i < 5 → r i ≠ q) → (∀ i j, i < 5 → j < 5 → r i = r j → i = j) →
  h1 = hups (hup h q (.inl (ct 4, 5, .inr (.inr (.inr (.inr (fun i => if i < 5 then some (r i) else none))))))) ((List.range 5).map fun i => (r i, .inl (ct 0, 5, .inl (fun _ => 0)))) → K q h1
def isO (h : KH) (a ci : Nat) (K : Prop) : Prop := (∃ fs, h a = some (.inr (ci, fs))) ∧ K
def isA (h : KH) (a : Nat) (cA : ClassId) (K : Prop) : Prop := (∃ x, h a = some (.inl (cA, x))) ∧ K
def cpQ (h : KH) (a : Nat) (cA : ClassId) (sp dp n : Int32) (K : KH → Prop) : Prop := ∃ (N ci : Nat) (f : Nat → Option Nat), h a = some (.inl (cA, N, .inr (.inr (.inr (.inr f))))) ∧ ¬ sp < 0 ∧ ¬ dp < 0 ∧ ¬ n < 0 ∧ sp.toNatClampNeg + n.toNatClampNeg ≤ N ∧ dp.toNatClampNeg + n.toNatClampNeg ≤ N ∧ okc ci ∧ (∀ i : Nat, i < n.toNatClampNeg → ∀ y : Nat, f (sp.toNatClampNeg + i) = some y → ∃ vs, h y = some (.inr (ci, vs))) ∧
  ∀ h1 : KH, h1 = hup h a (.inl (cA, N, .inr (.inr (.inr (.inr (va_cpy f f sp.toNatClampNeg dp.toNatClampNeg n.toNatClampNeg)))))) → K h1
def clI (h : KH) (a : Nat) (cA : ClassId) (K : Nat → KH → Prop) : Prop := ∃ f : Nat → Int32, h a = some (.inl (cA, 5, .inl f)) ∧ nwC h (.inl (cA, 5, .inl f)) K
theorem itp {c A B : Prop} [Decidable c] (hc : c) (h : if c then A else B) : A := by rw [if_pos hc] at h; exact h
theorem itn {c A B : Prop} [Decidable c] (hc : ¬ c) (h : if c then A else B) : B := by rw [if_neg hc] at h; exact h
theorem okc.cast {s : State} {ci : Nat} (hN : NE s) (h : okc ci) : ∃ r : vw_C, vwCl[ci]? = some r ∧ va_Nw (.castable r.1 "java/lang/Object") s := by
  rcases h with rfl | rfl
  · exact ⟨_, rfl, hN.2 ("DriftPlans$Kept", "java/lang/Object") (List.mem_of_getElem? (i := 0) rfl)⟩
  · exact ⟨_, rfl, hN.2 ("DriftPlans$State", "java/lang/Object") (List.mem_of_getElem? (i := 1) rfl)⟩
section KROWS
variable {p : Program} {l : Launch} {e : Env} {R : Room} {s : State} {m : MethodId} {args : Array Value} {below : List Frame} {meth : Method} {c : Code} {H : Heap} {locs : List Loc} {cells slots : Nat} {Q : State → Prop}
variable {cc : ByteArray} {pc : Nat} {ls : Array Slot} {rest : List Value} {D : va_G} {A : Nat → Prop} {a : Nat} {tys : List (ClassId × FieldType)} {h : KH} {H0 : Heap}
theorem kw_get (hexec : p.tables.exec = Jvm.exec) (hb : c.code = cc) {own ref C : String} {T : u_T} {N ci index : Nat} {Ts : List Cond} (hts : ∀ w ∈ Ts, w.before args s = true) (hin : ∀ w ∈ u_ws C T N, w ∈ Ts) (hown : s.vm.findClass own = some m.cls) (hK : va_K D vwCl tys s) (hW : KW D A h H) {fs : List Value} (hh : h a = some (.inr (ci, fs))) (hc : vwCl[ci]? = some (C, T, N)) (k : Nat) (hk : k < N) (hlink : (Cond.fieldLink own index ref (T k).2.1 (T k).2.2.1).before args s = true) (hsame : ∀ x, s.fieldFound? (T k).1 (T k).2.1 (T k).2.2.1 = some x → s.fieldFound? ref (T k).2.1 (T k).2.2.1 = some x) {v : Value} (hv : fs[k]? = some v) (hdg : decode cc pc = .ok (.getfield index, 3))
    (kk : W p l e R s m args below meth c H locs cells slots Q (F0 m (pc + 3) ls (v :: rest))) : W p l e R s m args below meth c H locs cells slots Q (F0 m pc ls (.ref a :: rest)) :=
  va_get hexec hb hts hin hown hK (hW.at hh) 0 rfl hc k hk hlink hsame hv hdg kk
theorem kw_put (hexec : p.tables.exec = Jvm.exec) (hb : c.code = cc) {own ref C : String} {T : u_T} {N ci index : Nat} {Ts : List Cond} (hts : ∀ w ∈ Ts, w.before args s = true) (hin : ∀ w ∈ u_ws C T N, w ∈ Ts) (ty0 : Nat → FieldType) (hty : ∀ k, k < N → parseFieldDescriptor (T k).2.2.1 = some (ty0 k)) (hnm : ∀ a, a < N → ∀ b, b < N → a ≠ b → (T a).2.1 ≠ (T b).2.1) (hown : s.vm.findClass own = some m.cls) (hK : va_K D vwCl tys s) (hW : KW D A h H) (hS : va_S A H0 H locs) {fs : List Value} (hh : h a = some (.inr (ci, fs))) (hc : vwCl[ci]? = some (C, T, N)) (k : Nat) (hk : k < N) (hlink : (Cond.fieldLink own index ref (T k).2.1 (T k).2.2.1).before args s = true) (hsame : ∀ x, s.fieldFound? (T k).1 (T k).2.1 (T k).2.2.1 = some x → s.fieldFound? ref (T k).2.1 (T k).2.2.1 = some x) (hfin : (T k).2.2.2 = false) {ty : FieldType} {v : Value} (hd : parseFieldDescriptor (T k).2.2.1 = some ty) (hn : narrow ty v = v) (hfit : fits ty v = true) (hl : k < fs.length)
    (hdg : decode cc pc = .ok (.putfield index, 3)) (kk : ∀ (H1 : Heap) (locs1 : List Loc) (h1 : KH), h1 = hup h a (.inr (ci, fs.set k v)) → KW D A h1 H1 → va_S A H0 H1 locs1 → W p l e R s m args below meth c H1 locs1 cells slots Q (F0 m (pc + 3) ls rest)) : W p l e R s m args below meth c H locs cells slots Q (F0 m pc ls (v :: .ref a :: rest)) := by
  obtain ⟨ws, hlk, hP, hD⟩ := hW
  obtain ⟨q0, hq⟩ := List.getElem?_of_mem ((hlk a _).mpr hh)
  exact va_put hexec hb hts hin ty0 hty hnm hown hK hP hD hS q0 hq hc k hk hlink hsame hfin hd hn hfit hl hdg (fun H1 locs1 hP1 hD1 hS1 => kk H1 locs1 _ rfl ⟨_, hlk.set hD hq, hP1, hD1⟩ hS1)
theorem kw_putF (hexec : p.tables.exec = Jvm.exec) (hb : c.code = cc) {own ref C : String} {T : u_T} {N ci index : Nat} {Ts : List Cond} (hts : ∀ w ∈ Ts, w.before args s = true) (hin : ∀ w ∈ u_ws C T N, w ∈ Ts) (ty0 : Nat → FieldType) (hty : ∀ k, k < N → parseFieldDescriptor (T k).2.2.1 = some (ty0 k)) (hnm : ∀ a, a < N → ∀ b, b < N → a ≠ b → (T a).2.1 ≠ (T b).2.1) (hown : s.vm.findClass own = some m.cls) (hK : va_K D vwCl tys s) (hW : KW D A h H) (hS : va_S A H0 H locs) {fs : List Value} (hh : h a = some (.inr (ci, fs))) (hc : vwCl[ci]? = some (C, T, N)) (k : Nat) (hk : k < N) (hlink : (Cond.fieldLink own index ref (T k).2.1 (T k).2.2.1).before args s = true) (hsame : ∀ x, s.fieldFound? (T k).1 (T k).2.1 (T k).2.2.1 = some x → s.fieldFound? ref (T k).2.1 (T k).2.2.1 = some x) (hfin : (T k).2.2.2 = true) (hin2 : meth.name = "<init>") (hdecl : (T k).1 = own) {ty : FieldType} {v : Value} (hd : parseFieldDescriptor (T k).2.2.1 = some ty) (hn : narrow ty v = v) (hfit : fits ty v = true) (hl : k < fs.length)
    (hdg : decode cc pc = .ok (.putfield index, 3)) (kk : ∀ (H1 : Heap) (locs1 : List Loc) (h1 : KH), h1 = hup h a (.inr (ci, fs.set k v)) → KW D A h1 H1 → va_S A H0 H1 locs1 → W p l e R s m args below meth c H1 locs1 cells slots Q (F0 m (pc + 3) ls rest)) : W p l e R s m args below meth c H locs cells slots Q (F0 m pc ls (v :: .ref a :: rest)) := by
  obtain ⟨ws, hlk, hP, hD⟩ := hW
  obtain ⟨q0, hq⟩ := List.getElem?_of_mem ((hlk a _).mpr hh)
  exact va_putF hexec hb hts hin ty0 hty hnm hown hK hP hD hS q0 hq hc k hk hlink hsame hfin hin2 hdecl hd hn hfit hl hdg (fun H1 locs1 hP1 hD1 hS1 => kk H1 locs1 _ rfl ⟨_, hlk.set hD hq, hP1, hD1⟩ hS1)
theorem kw_iald (hexec : p.tables.exec = Jvm.exec) (hb : c.code = cc) (hK : va_K D vwCl tys s) (hW : KW D A h H) (t0 : Nat) {cA : ClassId} {n : Nat} {f : Nat → Int32} (hh : h a = some (.inl (cA, n, .inl f))) (ht : tys[t0]? = some (cA, .int)) {i v : Int32} (hin : inb i n = true) (hv : f i.toNatClampNeg = v) (hdg : decode cc pc = .ok (.iaload, 1))
    (kk : W p l e R s m args below meth c H locs cells slots Q (F0 m (pc + 1) ls (.int v :: rest))) : W p l e R s m args below meth c H locs cells slots Q (F0 m pc ls (.int i :: .ref a :: rest)) :=
  va_iald hexec hb hK (hW.at hh) 0 t0 rfl ht (inb_in hin) hdg (by rw [hv]; exact kk)
theorem kw_aald (hexec : p.tables.exec = Jvm.exec) (hb : c.code = cc) (hK : va_K D vwCl tys s) (hW : KW D A h H) (t0 : Nat) {cA : ClassId} {n r : Nat} {f : Nat → Option Nat} (hh : h a = some (.inl (cA, n, .inr (.inr (.inr (.inr f)))))) {C : String} (ht : tys[t0]? = some (cA, .object C)) {i : Int32} (hin : inb i n = true) (hf : f i.toNatClampNeg = some r) (hdg : decode cc pc = .ok (.aaload, 1))
    (kk : W p l e R s m args below meth c H locs cells slots Q (F0 m (pc + 1) ls (.ref r :: rest))) : W p l e R s m args below meth c H locs cells slots Q (F0 m pc ls (.int i :: .ref a :: rest)) :=
  va_aldq hexec hb hK (hW.at hh) 0 t0 rfl ht (inb_in hin) hdg (by rw [hf]; exact kk)
theorem kw_gald (hexec : p.tables.exec = Jvm.exec) (hb : c.code = cc) (hK : va_K D vwCl tys s) (hW : KW D A h H) (t0 : Nat) {cA : ClassId} {n r : Nat} {f : Nat → Option Nat} (hh : h a = some (.inl (cA, n, .inr (.inr (.inr (.inr f)))))) (ht : tys[t0]? = some (cA, .array .int)) {i : Int32} (hin : inb i n = true) (hf : f i.toNatClampNeg = some r) (hdg : decode cc pc = .ok (.aaload, 1))
    (kk : W p l e R s m args below meth c H locs cells slots Q (F0 m (pc + 1) ls (.ref r :: rest))) : W p l e R s m args below meth c H locs cells slots Q (F0 m pc ls (.int i :: .ref a :: rest)) :=
  kg_aald hexec hb hK (hW.at hh) 0 t0 rfl ht (inb_in hin) hf hdg kk
theorem kw_iast (hexec : p.tables.exec = Jvm.exec) (hb : c.code = cc) (hK : va_K D vwCl tys s) (hW : KW D A h H) (hS : va_S A H0 H locs) (t0 : Nat) {cA : ClassId} {n : Nat} {f : Nat → Int32} (hh : h a = some (.inl (cA, n, .inl f))) (ht : tys[t0]? = some (cA, .int)) {i : Int32} {x : Int32} (hin : inb i n = true) (hdg : decode cc pc = .ok (.iastore, 1))
    (kk : ∀ (H1 : Heap) (locs1 : List Loc) (h1 : KH), h1 = hup h a (.inl (cA, n, .inl (upd f i.toNatClampNeg x))) → KW D A h1 H1 → va_S A H0 H1 locs1 → W p l e R s m args below meth c H1 locs1 cells slots Q (F0 m (pc + 1) ls rest)) : W p l e R s m args below meth c H locs cells slots Q (F0 m pc ls (.int x :: .int i :: .ref a :: rest)) := by
  obtain ⟨ws, hlk, hP, hD⟩ := hW
  obtain ⟨q0, hq⟩ := List.getElem?_of_mem ((hlk a _).mpr hh)
  exact va_iast hexec hb hK hP hD hS q0 t0 hq ht (inb_in hin) hdg (fun H1 locs1 hP1 hD1 hS1 => kk H1 locs1 _ rfl ⟨_, hlk.set hD hq, hP1, hD1⟩ hS1)
theorem kw_last (hexec : p.tables.exec = Jvm.exec) (hb : c.code = cc) (hK : va_K D vwCl tys s) (hW : KW D A h H) (hS : va_S A H0 H locs) (t0 : Nat) {cA : ClassId} {n : Nat} {f : Nat → Int64} (hh : h a = some (.inl (cA, n, .inr (.inl f)))) (ht : tys[t0]? = some (cA, .long)) {i : Int32} {x : Int64} (hin : inb i n = true) (hdg : decode cc pc = .ok (.lastore, 1))
    (kk : ∀ (H1 : Heap) (locs1 : List Loc) (h1 : KH), h1 = hup h a (.inl (cA, n, .inr (.inl (vp_updL f i.toNatClampNeg x)))) → KW D A h1 H1 → va_S A H0 H1 locs1 → W p l e R s m args below meth c H1 locs1 cells slots Q (F0 m (pc + 1) ls rest)) : W p l e R s m args below meth c H locs cells slots Q (F0 m pc ls (.long x :: .int i :: .ref a :: rest)) := by
  obtain ⟨ws, hlk, hP, hD⟩ := hW
  obtain ⟨q0, hq⟩ := List.getElem?_of_mem ((hlk a _).mpr hh)
  exact va_last hexec hb hK hP hD hS q0 t0 hq ht (inb_in hin) hdg (fun H1 locs1 hP1 hD1 hS1 => kk H1 locs1 _ rfl ⟨_, hlk.set hD hq, hP1, hD1⟩ hS1)
theorem kw_aastN (hexec : p.tables.exec = Jvm.exec) (hb : c.code = cc) (hK : va_K D vwCl tys s) (hW : KW D A h H) (hS : va_S A H0 H locs) (t0 : Nat) {cA : ClassId} {n : Nat} {f : Nat → Option Nat} (hh : h a = some (.inl (cA, n, .inr (.inr (.inr (.inr f)))))) {C : String} (ht : tys[t0]? = some (cA, .object C)) {i : Int32} (hin : inb i n = true) (hdg : decode cc pc = .ok (.aastore, 1))
    (kk : ∀ (H1 : Heap) (locs1 : List Loc) (h1 : KH), h1 = hup h a (.inl (cA, n, .inr (.inr (.inr (.inr (va_up f i.toNatClampNeg none)))))) → KW D A h1 H1 → va_S A H0 H1 locs1 → W p l e R s m args below meth c H1 locs1 cells slots Q (F0 m (pc + 1) ls rest)) : W p l e R s m args below meth c H locs cells slots Q (F0 m pc ls (.null :: .int i :: .ref a :: rest)) := by
  obtain ⟨ws, hlk, hP, hD⟩ := hW
  obtain ⟨q0, hq⟩ := List.getElem?_of_mem ((hlk a _).mpr hh)
  exact va_astqN hexec hb hK hP hD hS q0 t0 hq ht (inb_in hin) hdg (fun H1 locs1 hP1 hD1 hS1 => kk H1 locs1 _ rfl ⟨_, hlk.set hD hq, hP1, hD1⟩ hS1)
theorem kw_aastQ (hexec : p.tables.exec = Jvm.exec) (hb : c.code = cc) (hK : va_K D vwCl tys s) (hN : NE s) (hW : KW D A h H) (hS : va_S A H0 H locs) (t0 : Nat) {cA : ClassId} {n x ci : Nat} {vs : List Value} {f : Nat → Option Nat} (hh : h a = some (.inl (cA, n, .inr (.inr (.inr (.inr f)))))) (ht : tys[t0]? = some (cA, .object "java/lang/Object")) {i : Int32} (hin : inb i n = true) (hx : h x = some (.inr (ci, vs))) (hci : okc ci) (hdg : decode cc pc = .ok (.aastore, 1))
    (kk : ∀ (H1 : Heap) (locs1 : List Loc) (h1 : KH), h1 = hup h a (.inl (cA, n, .inr (.inr (.inr (.inr (va_up f i.toNatClampNeg (some x))))))) → KW D A h1 H1 → va_S A H0 H1 locs1 → W p l e R s m args below meth c H1 locs1 cells slots Q (F0 m (pc + 1) ls rest)) : W p l e R s m args below meth c H locs cells slots Q (F0 m pc ls (.ref x :: .int i :: .ref a :: rest)) := by
  obtain ⟨ws, hlk, hP, hD⟩ := hW
  obtain ⟨q0, hq⟩ := List.getElem?_of_mem ((hlk a _).mpr hh)
  obtain ⟨qk, hqk⟩ := List.getElem?_of_mem ((hlk x _).mpr hx)
  obtain ⟨r, hr, hca⟩ := hci.cast hN
  exact va_astqO hexec hb hK hP hD hS q0 t0 qk ci hq ht hca hqk hr (inb_in hin) hdg (fun H1 locs1 hP1 hD1 hS1 => kk H1 locs1 _ rfl ⟨_, hlk.set hD hq, hP1, hD1⟩ hS1)
theorem kw_alen (hexec : p.tables.exec = Jvm.exec) (hb : c.code = cc) (hK : va_K D vwCl tys s) (hW : KW D A h H) (t0 : Nat) {cA : ClassId} {x : vp_A} (hh : h a = some (.inl (cA, x))) {ty : FieldType} (ht : tys[t0]? = some (cA, ty)) {v : Int32} (hv : Int32.ofNat x.1 = v) (hdg : decode cc pc = .ok (.arraylength, 1))
    (kk : W p l e R s m args below meth c H locs cells slots Q (F0 m (pc + 1) ls (.int v :: rest))) : W p l e R s m args below meth c H locs cells slots Q (F0 m pc ls (.ref a :: rest)) :=
  va_alen hexec hb hK (hW.at hh) 0 t0 rfl ht hv hdg kk
theorem kw_new {c0 : Code} (hexec : p.tables.exec = Jvm.exec) (hb : c0.code = cc) {own C : String} {T : u_T} {N ci index : Nat} {Ts : List Cond} (hts : ∀ w ∈ Ts, w.before args s = true) (hin : ∀ w ∈ u_ws C T N, w ∈ Ts) (ty : Nat → FieldType) (hty : ∀ k, k < N → parseFieldDescriptor (T k).2.2.1 = some (ty k)) (hown : s.vm.findClass own = some m.cls) (hcl : (Cond.classLink own index C).before args s = true) (hinst : (Cond.instantiable C N).before args s = true) (hini : (Cond.initialized C).before args s = true)
    (hK : va_K D vwCl tys s) (hW : KW D A h H) (hS : va_S A H0 H locs) (hA : ∀ q, H0.size ≤ q → A q) (hc : vwCl[ci]? = some (C, T, N)) {fs : List Value} (hfs : ∀ j, j < N → defaultValue (ty j) = vp_V fs j) (hcells : cells + 1 ≤ R.cells) (hslots : slots + N ≤ R.slots) (hdg : decode cc pc = .ok (.new index, 3))
    (kk : ∀ (q : Nat) (H1 : Heap) (h1 : KH), h q = none → h1 = hup h q (.inr (ci, fs)) → KW D A h1 H1 → va_S A H0 H1 locs →
      W p l e R s m args below meth c0 H1 locs (cells + 1) (slots + N) Q (F0 m (pc + 3) ls (.ref q :: rest))) : W p l e R s m args below meth c0 H locs cells slots Q (F0 m pc ls rest) := by
  obtain ⟨ws, hlk, hP, hD⟩ := hW
  exact va_new hexec hb hts hin ty hty hown hcl hinst hini hK hP hD hS hA hc hfs hcells hslots hdg (fun q H1 hP1 hD1 hS1 => kk q H1 _ (hlk.fresh hD1) rfl ⟨_, hlk.push (hlk.fresh hD1), hP1, hD1⟩ hS1)
theorem va_RA.uni {U : State} {c1 c2 : ClassId} {ty : FieldType} (h1 : va_RA U c1 ty) (h2 : va_RA U c2 ty) : c1 = c2 := by
  cases ty with
  | object C =>
    obtain ⟨_, _, -, -, -, e1⟩ := h1
    obtain ⟨_, _, -, -, -, e2⟩ := h2
    exact Option.some.inj (e1.symm.trans e2)
  | _ => exact Option.some.inj (Eq.trans (Eq.symm h1) h2)
theorem kw_newa (hexec : p.tables.exec = Jvm.exec) (hb : c.code = cc) {atype : ArrayType} (harr : (Cond.arrayClass (newarray.typeOf atype)).before args s = true) {ty : FieldType} (hty : newarray.typeOf atype = ty) (hK : va_K D vwCl tys s) (t0 : Nat) {cA : ClassId} (ht : tys[t0]? = some (cA, ty)) (hW : KW D A h H) (hS : va_S A H0 H locs) (hA : ∀ q, H0.size ≤ q → A q)
    {n : Int32} {N' : Nat} {a0 : vp_A} (ha : ∀ cA : ClassId, vp_cell cA a0 = arrV cA N' (fun _ => defaultValue ty)) (hn : ¬ n < 0) (hN : n.toNatClampNeg = N') (hbytes : N' * componentBytes ty ≤ 536870912) (hcells : cells + 1 ≤ R.cells) (hslots : slots + N' ≤ R.slots) (hdg : decode cc pc = .ok (.newarray atype, 2))
    (kk : ∀ (q : Nat) (H1 : Heap) (h1 : KH), h q = none → h1 = hup h q (.inl (cA, a0)) → KW D A h1 H1 → va_S A H0 H1 locs →
      W p l e R s m args below meth c H1 locs (cells + 1) (slots + N') Q (F0 m (pc + 2) ls (.ref q :: rest))) : W p l e R s m args below meth c H locs cells slots Q (F0 m pc ls (.int n :: rest)) := by
  obtain ⟨ws, hlk, hP, hD⟩ := hW
  refine va_newa (atype := atype) hexec hb harr hty hK hP hD hS hA ha hn hN hbytes hcells hslots hdg (fun q cB H1 hK1 hP1 hD1 hS1 => ?_)
  have hlast : (tys ++ [(cB, ty)])[tys.length]? = some (cB, ty) := by rw [List.getElem?_append_right (Nat.le_refl _), Nat.sub_self]; rfl
  have hcc : cB = cA := va_RA.uni (hK1.2 tys.length (cB, ty) hlast).2 (hK.2 t0 (cA, ty) ht).2
  subst hcc
  exact kk q H1 _ (hlk.fresh hD1) rfl ⟨_, hlk.push (hlk.fresh hD1), hP1, hD1⟩ hS1
theorem kw_newq (hexec : p.tables.exec = Jvm.exec) (hb : c.code = cc) {own C : String} {index : Nat} (hown : s.vm.findClass own = some m.cls) (hclink : (Cond.classLink own index C).before args s = true) (hover : va_AO C s) (hK : va_K D vwCl tys s) (t0 : Nat) {cA : ClassId} (ht : tys[t0]? = some (cA, .object C)) (hW : KW D A h H) (hS : va_S A H0 H locs) (hA : ∀ q, H0.size ≤ q → A q)
    {n : Int32} {N' : Nat} (hn : ¬ n < 0) (hN : n.toNatClampNeg = N') (hbytes : N' * 4 ≤ 536870912) (hcells : cells + 1 ≤ R.cells) (hslots : slots + N' ≤ R.slots) (hdg : decode cc pc = .ok (.anewarray index, 3))
    (kk : ∀ (q : Nat) (H1 : Heap) (h1 : KH), h q = none → h1 = hup h q (.inl (cA, N', .inr (.inr (.inr (.inr (fun _ => none)))))) → KW D A h1 H1 → va_S A H0 H1 locs →
      W p l e R s m args below meth c H1 locs (cells + 1) (slots + N') Q (F0 m (pc + 3) ls (.ref q :: rest))) : W p l e R s m args below meth c H locs cells slots Q (F0 m pc ls (.int n :: rest)) := by
  obtain ⟨ws, hlk, hP, hD⟩ := hW
  refine va_newq hexec hb hown hclink hover hK hP hD hS hA hn hN hbytes hcells hslots hdg (fun q cB H1 hK1 hP1 hD1 hS1 => ?_)
  have hlast : (tys ++ [(cB, .object C)])[tys.length]? = some (cB, .object C) := by rw [List.getElem?_append_right (Nat.le_refl _), Nat.sub_self]; rfl
  have hcc : cB = cA := va_RA.uni (hK1.2 tys.length (cB, .object C) hlast).2 (hK.2 t0 (cA, .object C) ht).2
  subst hcc
  exact kk q H1 _ (hlk.fresh hD1) rfl ⟨_, hlk.push (hlk.fresh hD1), hP1, hD1⟩ hS1
theorem kw_acmp_eq (hexec : p.tables.exec = Jvm.exec) (hb : c.code = cc) {x y : Nat} {off : Int} {tgt : Nat} (hdg : decode cc pc = .ok (.if_acmp .eq off, 3)) (ht : (pc : Int) + off = (tgt : Int))
    (kt : x = y → W p l e R s m args below meth c H locs cells slots Q (F0 m tgt ls rest)) (kf : ¬ x = y → W p l e R s m args below meth c H locs cells slots Q (F0 m (pc + 3) ls rest)) : W p l e R s m args below meth c H locs cells slots Q (F0 m pc ls (.ref y :: .ref x :: rest)) :=
  lv_acmp_eq (rx := some x) (ry := some y) hexec hb hdg ht (fun q => kt (Option.some.inj q)) (fun q => kf (fun z => q (congrArg some z)))
end KROWS
