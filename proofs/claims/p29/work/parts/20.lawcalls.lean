/-! calls out of the law: the class over its own known heap, the law's arrays beside it -/
theorem lkw_in {w : va_W} {a : Nat} {e : va_E} : (w.map Prod.fst).Nodup → (a, e) ∈ w → lkw w a = some e := by
  induction w with
  | nil => intro _ h; cases h
  | cons x l ih =>
    intro hn hm
    obtain ⟨h1, h2⟩ := List.nodup_cons.mp hn
    unfold lkw
    rcases List.mem_cons.mp hm with hm | hm
    · rw [← hm]; exact if_pos rfl
    · rw [if_neg (fun z => h1 (by rw [z]; exact List.mem_map.mpr ⟨_, hm, rfl⟩))]
      exact ih h2 hm
theorem lkw_out {w : va_W} {a : Nat} : a ∉ w.map Prod.fst → lkw w a = none := by
  induction w with
  | nil => intro _; rfl
  | cons x l ih =>
    intro hm
    unfold lkw
    rw [if_neg (fun z => hm (by rw [List.map_cons, z]; exact List.mem_cons_self))]
    exact ih (fun z => hm (by rw [List.map_cons]; exact List.mem_cons_of_mem _ z))
theorem hupw_in {h : KH} {w : va_W} {a : Nat} {e : va_E} (hn : (w.map Prod.fst).Nodup) (hm : (a, e) ∈ w) : hupw h w a = some e := by
  unfold hupw
  rw [lkw_in hn hm]
theorem hupw_out {h : KH} {w : va_W} {a : Nat} (hm : a ∉ w.map Prod.fst) : hupw h w a = h a := by
  unfold hupw
  rw [lkw_out hm]
section LAWC
variable {p : Program} {l : Launch} {e : Env} {R : Room} {s : State} {m : MethodId} {args : Array Value} {below : List Frame} {meth : Method} {c : Code} {H : Heap} {locs : List Loc} {cells slots : Nat} {Q : State → Prop}
variable {pc : Nat} {ls : Array Slot} {rest st0 : List Value} {cc : ByteArray} {nL : Nat} {own : String} {D : va_G} {ct : Nat → ClassId} {a0 : Nat} {A : Nat → Prop} {h : KH} {w : va_W}
variable {y : MethodName} {yc : ByteArray} {ny d k idx mc ms : Nat} {ret : Option FieldType} {As : List Value}
theorem w_apart (hP : va_P D vwCl w H) (hdis : ∀ x ∈ w, h x.1 = none) {H1 : Heap} (hk : ∀ q : Nat, q < H.size → ¬ KA h H.size q → H1[q]? = H[q]?) : va_P D vwCl w H1 := fun i q hq => by
  have hat := hP i q hq
  refine hat.kept (hk q.1 hat.lt (fun hz => ?_))
  rcases hz with ⟨e1, he⟩ | hz
  · rw [hdis q (List.mem_of_getElem? hq)] at he; cases he
  · have := hat.lt; omega
theorem w_apart2 (hP : va_P D vwCl w H) (hdis : ∀ x ∈ w, h x.1 = none) {h1 : KH} {H1 : Heap} (hW : KW D (KA h H.size) h1 H1) : ∀ x ∈ w, h1 x.1 = none := fun x hx => by
  obtain ⟨i, hi⟩ := List.getElem?_of_mem hx
  have hlt := (hP i x hi).lt
  cases hh : h1 x.1 with
  | none => rfl
  | some e1 =>
    rcases hW.in hh with ⟨e2, he⟩ | hz
    · rw [hdis x hx] at he; cases he
    · omega
theorem lawx {ρ : Type} {vf : ρ → Option Value} {Post : ρ → KH → Prop} {r0 ci : Nat} {T0 : u_T} {N0 : Nat} {fs : List Value} (hM : CK l y yc ny d mc ms ret D ct a0 (.ref r0 :: As) vf h Post) (B : BX p s m args c cc nL own) (hK : va_K D vwCl (tysK ct) s) (hN : NK s) (hZ : SE a0 A s s.heap) (hA : ∀ q : Nat, s.heap.size ≤ q → A q) (hW : KW D A h H) (hP : va_P D vwCl w H) (hdis : ∀ x ∈ w, h x.1 = none) (hS : va_S A s.heap H locs)
    (hrecv : h r0 = some (.inr (ci, fs))) (hc : vwCl[ci]? = some (y.cls, T0, N0)) (hO : VOk y yc ny ret k) (hlink : Cond.methodLink own idx y ∈ wsL_law) (hk : As.length = k) (hR : d + 1 ≤ R.frames ∧ 8 + (ny + 11) + 40 * d ≤ R.locals) (hC : cells + mc ≤ R.cells ∧ slots + ms ≤ R.slots) (hsz : ls.size = nL) (hst : st0 = As.reverse ++ .ref r0 :: rest) (hWd : (rest.map fun v => v.category).sum ≤ 8) (hdg : decode cc pc = .ok (.invokevirtual idx, 3))
    (kk : ∀ (r : ρ) (h1 : KH) (H1 : Heap) (locs1 : List Loc), Post r h1 → KW D A h1 H1 → va_P D vwCl w H1 → (∀ x ∈ w, h1 x.1 = none) → va_S A s.heap H1 locs1 → W p l e R s m args below meth c H1 locs1 (cells + mc) (slots + ms) Q (F0 m (pc + 3) ls ((vf r).toList ++ rest))) : W p l e R s m args below meth c H locs cells slots Q (F0 m pc ls st0) := by
  obtain ⟨hx, hb, hml, hown, hts⟩ := B
  obtain ⟨o1, o2, o3, o4, o5⟩ := hO
  have hsub := KA.sub (sz := 0) hW hS hA
  have hr : va_Run p l e R s m args below meth c H locs cells slots mc ms (F0 m pc ls st0) rest (kQ D vf Post (KA h H.size) (Value.ref r0 :: As).toArray) (KA h H.size) := va_runV (C := y.cls) (As := As) (rest := rest) (Ts := wsL_law) (n := k) (g := F0 m pc ls st0) ⟨hx, hb, hml, hown, hts⟩ (hM H.size) ⟨callB_of k hts (good_WSy o1) rfl rfl rfl (hts _ o4) (hts _ hlink) o5 hR, hts _ o2, hts _ o3⟩ ⟨KPre.blind, va_recv hK (hW.at hrecv) (ci := ci) (q0 := 0) hc rfl, fun U hU hw => ⟨rfl, KPre.here hK hN hZ hA hW hS hU hw⟩⟩ rfl hk hsz hst (lv_room hWd) hdg hC
  intro T hT X
  obtain ⟨v1, st₀, t, T', L, h0, X', hL, e1, e2, ⟨⟨r, h1, hv, hp, hw⟩, hz, hkp⟩, st⟩ := hr T hT X
  cases hv
  rw [h0] at hz hkp
  obtain ⟨t2, a1, b1⟩ := kk r h1 T'.heap (locs ++ L) hp (by rw [e1]; exact hw.weaken (fun q _ hq => hsub q hq)) (by rw [e1]; exact w_apart hP hdis hkp) (w_apart2 hP hdis hw)
    ⟨Nat.le_trans hS.1 (by rw [e1]; exact hz), fun q h1 h2 => by rw [e1, hkp q (Nat.lt_of_lt_of_le h1 hS.1) (fun z => h2 (hsub q z))]; exact hS.2.1 q h1 h2, fun q hq => by
      rcases List.mem_append.mp hq with h | h
      · exact hS.2.2 q h
      · exact hsub _ (hL q h)⟩ T' rfl X'
  exact ⟨t2, st t2 a1, b1⟩
/-- the heap of both, parted: the model's cells w, and the rest -/
theorem KW.part (hW : KW D A h H) {w : va_W} (hw : inW h w) : KW D A (fun q => if q ∈ w.map Prod.fst then none else h q) H ∧ va_P D vwCl w H ∧ va_D A w := by
  have hP := hW.fixed hw
  have hin : ∀ x ∈ w, A x.1 := fun x hx => hW.in (hw.1 x.1 x.2 hx)
  obtain ⟨ws, hl, hP0, hD⟩ := hW
  refine ⟨⟨ws.filter (fun x => decide (x.1 ∉ w.map Prod.fst)), fun a e1 => ?_, fun i q hq => ?_, ?_⟩, hP, ⟨(nodup_D hw.2).1, fun i q hq => hin q (List.mem_of_getElem? hq)⟩⟩
  · rw [List.mem_filter, hl a e1]
    show _ ∧ decide (a ∉ w.map Prod.fst) = true ↔ (if a ∈ w.map Prod.fst then none else h a) = some e1
    rw [decide_eq_true_eq]
    by_cases hm : a ∈ w.map Prod.fst
    · rw [if_pos hm]
      exact ⟨fun z => absurd hm z.2, fun z => by cases z⟩
    · rw [if_neg hm]
      exact ⟨fun z => z.1, fun z => ⟨z, hm⟩⟩
  · have hm := (List.mem_filter.mp (List.mem_of_getElem? hq)).1
    obtain ⟨j, hj⟩ := List.getElem?_of_mem hm
    exact hP0 j q hj
  · have hnd : (ws.map Prod.fst).Nodup := by
      refine List.pairwise_iff_getElem.mpr (fun i j hi hj hij he => ?_)
      rw [List.length_map] at hi hj
      rw [List.getElem_map, List.getElem_map] at he
      have := hD.1 i j _ _ (List.getElem?_eq_getElem hi) (List.getElem?_eq_getElem hj) he
      omega
    have hnd2 : ((ws.filter (fun x => decide (x.1 ∉ w.map Prod.fst))).map Prod.fst).Nodup := List.Nodup.sublist (List.Sublist.map _ List.filter_sublist) hnd
    exact ⟨(nodup_D hnd2).1, fun i q hq => by
      obtain ⟨j, hj⟩ := List.getElem?_of_mem (List.mem_filter.mp (List.mem_of_getElem? hq)).1
      exact hD.2 j q hj⟩
theorem lawxD {Post : DR → KH → Prop} {r0 ci : Nat} {T0 : u_T} {N0 : Nat} {fs : List Value} {d0 : Drawn} (hd0 : s.drawn.sameBut d0 lw_cs) (hM : CKD l y yc ny d mc ms D ct a0 (.ref r0 :: As) h Post) (B : BX p (s.setDrawn d0) m args c cc nL own) (hK : va_K D vwCl (tysK ct) s) (hN : NK s) (hZ : SE a0 A s s.heap) (hA : ∀ q : Nat, s.heap.size ≤ q → A q) (hW : KW D A h H) (hP : va_P D vwCl w H) (hdis : ∀ x ∈ w, h x.1 = none) (hS : va_S A s.heap H locs)
    (hrecv : h r0 = some (.inr (ci, fs))) (hc : vwCl[ci]? = some (y.cls, T0, N0)) (hO : VOk y yc ny (some .double) k) (hlink : Cond.methodLink own idx y ∈ wsL_law) (hk : As.length = k) (hR : d + 1 ≤ R.frames ∧ 8 + (ny + 11) + 40 * d ≤ R.locals) (hC : cells + mc ≤ R.cells ∧ slots + ms ≤ R.slots) (hsz : ls.size = nL) (hst : st0 = As.reverse ++ .ref r0 :: rest) (hWd : (rest.map fun v => v.category).sum ≤ 8) (hdg : decode cc pc = .ok (.invokevirtual idx, 3))
    (kk : ∀ (r : UInt64) (v : DR) (h1 : KH) (H1 : Heap) (locs1 : List Loc) (d1 : Drawn), s.drawn.sameBut d1 lw_cs → dOK v r → Post v h1 → KW D A h1 H1 → va_P D vwCl w H1 → (∀ x ∈ w, h1 x.1 = none) → va_S A s.heap H1 locs1 → W p l e R (s.setDrawn d1) m args below meth c H1 locs1 (cells + mc) (slots + ms) Q (F0 m (pc + 3) ls (.double r :: rest))) : W p l e R (s.setDrawn d0) m args below meth c H locs cells slots Q (F0 m pc ls st0) := by
  obtain ⟨hx, hb, hml, hown, hts⟩ := B
  obtain ⟨o1, o2, o3, o4, o5⟩ := hO
  have hsub := KA.sub (sz := 0) hW hS hA
  have hr : va_RunD lw_cs p l e R (s.setDrawn d0) m args below meth c H locs cells slots mc ms (F0 m pc ls st0) rest (kQD D Post (KA h H.size) (Value.ref r0 :: As).toArray) (KA h H.size) := va_runV_D (s := s.setDrawn d0) (C := y.cls) (As := As) (rest := rest) (Ts := wsL_law) (n := k) (g := F0 m pc ls st0) ⟨hx, hb, hml, hown, hts⟩ (hM H.size) ⟨callB_of k hts (good_WSy o1) rfl rfl rfl (hts _ o4) (hts _ hlink) o5 hR, hts _ o2, hts _ o3⟩ ⟨KPre.blind, va_recv (s := s) hK (hW.at hrecv) (ci := ci) (q0 := 0) hc rfl, fun U hU hw => ⟨rfl, KPre.here (s := s.setDrawn d0) hK hN hZ hA hW hS hU hw⟩⟩ rfl hk hsz hst (lv_room hWd) hdg hC
  intro T hT X
  obtain ⟨v1, st₀, t, T', L, d1, hd1, h0, X', hL, e1, e2, ⟨⟨r, v, h1, hv, hok, hp, hw⟩, hz, hkp⟩, st⟩ := hr T hT X
  cases hv
  rw [h0] at hz hkp
  obtain ⟨t2, a1, b1⟩ := kk r v h1 T'.heap (locs ++ L) d1 (hd0.trans hd1) hok hp (by rw [e1]; exact hw.weaken (fun q _ hq => hsub q hq)) (by rw [e1]; exact w_apart hP hdis hkp) (w_apart2 hP hdis hw)
    ⟨Nat.le_trans hS.1 (by rw [e1]; exact hz), fun q h1 h2 => by rw [e1, hkp q (Nat.lt_of_lt_of_le h1 hS.1) (fun z => h2 (hsub q z))]; exact hS.2.1 q h1 h2, fun q hq => by
      rcases List.mem_append.mp hq with h | h
      · exact hS.2.2 q h
      · exact hsub _ (hL q h)⟩ T' rfl X'
  exact ⟨t2, st t2 a1, b1⟩
theorem va_D.nd {A : Nat → Prop} {w : va_W} (hD : va_D A w) : (w.map Prod.fst).Nodup := by
  refine List.pairwise_iff_getElem.mpr (fun i j hi hj hij he => ?_)
  rw [List.length_map] at hi hj
  rw [List.getElem_map, List.getElem_map] at he
  have := hD.1 i j _ _ (List.getElem?_eq_getElem hi) (List.getElem?_eq_getElem hj) he
  omega
/-- two heaps put together -/
theorem KW.join {h1 : KH} (hW : KW D A h1 H) (hP : va_P D vwCl w H) (hDA : va_D A w) (hdis : ∀ x ∈ w, h1 x.1 = none) : KW D A (hupw h1 w) H := by
  obtain ⟨ws, hl, hP0, hD0⟩ := hW
  have nw := hDA.nd
  have nws := hD0.nd
  refine ⟨ws ++ w, fun a e => ?_, fun i q hq => ?_, ?_⟩
  · rw [List.mem_append]
    unfold hupw
    cases hk : lkw w a with
    | some e1 =>
      refine ⟨fun z => ?_, fun z => ?_⟩
      · rcases z with z | z
        · have z1 := (hl a e).mp z
          rw [hdis (a, e1) (lkw_mem hk)] at z1; cases z1
        · rw [lkw_in nw z] at hk
          rw [← Option.some.inj hk]
      · cases z; exact Or.inr (lkw_mem hk)
    | none =>
      refine ⟨fun z => ?_, fun z => Or.inl ((hl a e).mpr z)⟩
      rcases z with z | z
      · exact (hl a e).mp z
      · rw [lkw_in nw z] at hk; cases hk
  · rcases Nat.lt_or_ge i ws.length with hi | hi
    · rw [List.getElem?_append_left hi] at hq; exact hP0 i q hq
    · rw [List.getElem?_append_right hi] at hq; exact hP _ q hq
  · have hnd : ((ws ++ w).map Prod.fst).Nodup := by
      rw [List.map_append]
      refine List.nodup_append.mpr ⟨nws, nw, fun a ha b hb z => ?_⟩
      obtain ⟨x, hx, ex⟩ := List.mem_map.mp ha
      obtain ⟨y, hy, ey⟩ := List.mem_map.mp hb
      have h1x := (hl x.1 x.2).mp hx
      have h2y := hdis y hy
      rw [ex] at h1x
      rw [ey, ← z] at h2y
      rw [h1x] at h2y; cases h2y
    exact ⟨(nodup_D hnd).1, fun k q hk => by
      rcases List.mem_append.mp (List.mem_of_getElem? hk) with m | m
      · obtain ⟨j, hj⟩ := List.getElem?_of_mem m
        exact hD0.2 j q hj
      · obtain ⟨j, hj⟩ := List.getElem?_of_mem m
        exact hDA.2 j q hj⟩
/-- h is hc with the cells w beside it -/
def SPL (h hc : KH) (w : va_W) : Prop := h = hupw hc w ∧ (∀ x ∈ w, hc x.1 = none) ∧ (w.map Prod.fst).Nodup
theorem SPL.out {hc : KH} (sp : SPL h hc w) (hW : KW D A h H) : KW D A hc H ∧ va_P D vwCl w H ∧ va_D A w := by
  obtain ⟨e, hd, hn⟩ := sp
  have hw : inW h w := ⟨fun a e1 hm => by rw [e]; exact hupw_in hn hm, hn⟩
  have h9 := hW.part hw
  have e2 : (fun q => if q ∈ w.map Prod.fst then none else h q) = hc := by
    funext q
    by_cases m : q ∈ w.map Prod.fst
    · rw [if_pos m]
      obtain ⟨x, hx, ex⟩ := List.mem_map.mp m
      rw [← ex]; exact (hd x hx).symm
    · rw [if_neg m, e]; exact hupw_out m
  rw [e2] at h9
  exact h9
/-- what a call says that knows the heap hc alone, the cells w beside it -/
def frC {ρ : Type} (h : KH) (r0 : Nat) (g : KH → (ρ → KH → Prop) → Prop) (K : ρ → KH → Prop) : Prop := ∃ (hc : KH) (w : va_W), SPL h hc w ∧ (∃ fs, hc r0 = some (.inr (6, fs))) ∧ g hc (fun v h1 => (∀ x ∈ w, h1 x.1 = none) → K v (hupw h1 w))
theorem kx_call {ρ : Type} {vf : ρ → Option Value} {g : KH → (ρ → KH → Prop) → Prop} {K : ρ → KH → Prop} {r0 : Nat} {T0 : u_T} {N0 : Nat} (hf : frC h r0 g K) (hM : ∀ (hc : KH) (P : ρ → KH → Prop), g hc P → CK l y yc ny d mc ms ret D ct a0 (.ref r0 :: As) vf hc P) (B : BX p s m args c cc nL own) (hK : va_K D vwCl (tysK ct) s) (hN : NK s) (hZ : SE a0 A s s.heap) (hA : ∀ q : Nat, s.heap.size ≤ q → A q) (hW : KW D A h H) (hS : va_S A s.heap H locs)
    (hcl : vwCl[6]? = some (y.cls, T0, N0)) (hO : VOk y yc ny ret k) (hlink : Cond.methodLink own idx y ∈ wsL_law) (hk : As.length = k) (hR : d + 1 ≤ R.frames ∧ 8 + (ny + 11) + 40 * d ≤ R.locals) (hC : cells + mc ≤ R.cells ∧ slots + ms ≤ R.slots) (hsz : ls.size = nL) (hst : st0 = As.reverse ++ .ref r0 :: rest) (hWd : (rest.map fun v => v.category).sum ≤ 8) (hdg : decode cc pc = .ok (.invokevirtual idx, 3))
    (kk : ∀ (r : ρ) (h2 : KH) (H1 : Heap) (locs1 : List Loc), K r h2 → KW D A h2 H1 → va_S A s.heap H1 locs1 → W p l e R s m args below meth c H1 locs1 (cells + mc) (slots + ms) Q (F0 m (pc + 3) ls ((vf r).toList ++ rest))) : W p l e R s m args below meth c H locs cells slots Q (F0 m pc ls st0) := by
  obtain ⟨hc, w, sp, ⟨fs, hrecv⟩, hq0⟩ := hf
  obtain ⟨hW1, hP1, hD1⟩ := sp.out hW
  exact lawx (hM hc _ hq0) B hK hN hZ hA hW1 hP1 sp.2.1 hS hrecv hcl hO hlink hk hR hC hsz hst hWd hdg (fun r h1 H1 locs1 hq hW2 hP2 hdis2 hS2 => kk r _ H1 locs1 (hq hdis2) (hW2.join hP2 hD1 hdis2) hS2)
theorem kxD_call {g : KH → (DR → KH → Prop) → Prop} {K : DR → KH → Prop} {r0 : Nat} {T0 : u_T} {N0 : Nat} {d0 : Drawn} (hd0 : s.drawn.sameBut d0 lw_cs) (hf : frC h r0 g K) (hM : ∀ (hc : KH) (P : DR → KH → Prop), g hc P → CKD l y yc ny d mc ms D ct a0 (.ref r0 :: As) hc P) (B : BX p (s.setDrawn d0) m args c cc nL own) (hK : va_K D vwCl (tysK ct) s) (hN : NK s) (hZ : SE a0 A s s.heap) (hA : ∀ q : Nat, s.heap.size ≤ q → A q) (hW : KW D A h H) (hS : va_S A s.heap H locs)
    (hcl : vwCl[6]? = some (y.cls, T0, N0)) (hO : VOk y yc ny (some .double) k) (hlink : Cond.methodLink own idx y ∈ wsL_law) (hk : As.length = k) (hR : d + 1 ≤ R.frames ∧ 8 + (ny + 11) + 40 * d ≤ R.locals) (hC : cells + mc ≤ R.cells ∧ slots + ms ≤ R.slots) (hsz : ls.size = nL) (hst : st0 = As.reverse ++ .ref r0 :: rest) (hWd : (rest.map fun v => v.category).sum ≤ 8) (hdg : decode cc pc = .ok (.invokevirtual idx, 3))
    (kk : ∀ (r : UInt64) (v : DR) (h2 : KH) (H1 : Heap) (locs1 : List Loc) (d1 : Drawn), s.drawn.sameBut d1 lw_cs → dOK v r → K v h2 → KW D A h2 H1 → va_S A s.heap H1 locs1 → W p l e R (s.setDrawn d1) m args below meth c H1 locs1 (cells + mc) (slots + ms) Q (F0 m (pc + 3) ls (.double r :: rest))) : W p l e R (s.setDrawn d0) m args below meth c H locs cells slots Q (F0 m pc ls st0) := by
  obtain ⟨hc, w, sp, ⟨fs, hrecv⟩, hq0⟩ := hf
  obtain ⟨hW1, hP1, hD1⟩ := sp.out hW
  exact lawxD hd0 (hM hc _ hq0) B hK hN hZ hA hW1 hP1 sp.2.1 hS hrecv hcl hO hlink hk hR hC hsz hst hWd hdg (fun r v h1 H1 locs1 d1 hd1 hv hq hW2 hP2 hdis2 hS2 => kk r v _ H1 locs1 d1 hd1 hv (hq hdis2) (hW2.join hP2 hD1 hdis2) hS2)
/-- a static call over the known heap -/
theorem ks_call {ρ : Type} {vf : ρ → Option Value} {Post : ρ → KH → Prop} (hM : CK l y yc ny d mc ms ret D ct a0 As vf h Post) (B : BX p s m args c cc nL own) (hK : va_K D vwCl (tysK ct) s) (hN : NK s) (hZ : SE a0 A s s.heap) (hA : ∀ q : Nat, s.heap.size ≤ q → A q) (hW : KW D A h H) (hS : va_S A s.heap H locs)
    (hO : SOk y yc ny ret k) (hlink : Cond.methodLink own idx y ∈ wsL_law) (hk : As.length = k) (hR : d + 1 ≤ R.frames ∧ 8 + (ny + 11) + 40 * d ≤ R.locals) (hC : cells + mc ≤ R.cells ∧ slots + ms ≤ R.slots) (hsz : ls.size = nL) (hst : st0 = As.reverse ++ rest) (hWd : (rest.map fun v => v.category).sum ≤ 8) (hdg : decode cc pc = .ok (.invokestatic idx, 3))
    (kk : ∀ (r : ρ) (h1 : KH) (H1 : Heap) (locs1 : List Loc), Post r h1 → KW D A h1 H1 → va_S A s.heap H1 locs1 → W p l e R s m args below meth c H1 locs1 (cells + mc) (slots + ms) Q (F0 m (pc + 3) ls ((vf r).toList ++ rest))) : W p l e R s m args below meth c H locs cells slots Q (F0 m pc ls st0) := by
  obtain ⟨hx, hb, hml, hown, hts⟩ := B
  obtain ⟨o1, o2, o3, o4⟩ := hO
  exact k_run (va_runS (As := As) (rest := rest) (Ts := wsL_law) (n := k) ⟨hx, hb, hml, hown, hts⟩ (hM H.size) ⟨callB_of k hts (good_WSy o1) rfl rfl rfl (hts _ o3) (hts _ hlink) o4 hR, hts _ o2⟩ ⟨KPre.blind, fun U hU hw => ⟨rfl, KPre.here hK hN hZ hA hW hS hU hw⟩⟩ rfl hk hsz hst (lv_room hWd) hdg hC) hS (KA.sub (sz := 0) hW hS hA) kk
/-- a method over the known heap that may draw -/
abbrev CKI {ρ : Type} (l : Launch) (y : MethodName) (cc : ByteArray) (n d mc ms : Nat) (ret : Option FieldType) (D : va_G) (ct : Nat → ClassId) (a0 : Nat) (As : List Value) (vf : ρ → Option Value) (h : KH) (Post : ρ → KH → Prop) : Prop := ∀ sz : Nat, MetD lw_cs l y (WSy y cc n ret) (rmF d mc ms) (va_Pc As (KPre D ct a0 h sz)) (kQ D vf Post (KA h sz)) mc ms (KA h sz)
theorem ksD_call {ρ : Type} {vf : ρ → Option Value} {Post : ρ → KH → Prop} {d0 : Drawn} (hd0 : s.drawn.sameBut d0 lw_cs) (hM : CKI l y yc ny d mc ms ret D ct a0 As vf h Post) (B : BX p (s.setDrawn d0) m args c cc nL own) (hK : va_K D vwCl (tysK ct) s) (hN : NK s) (hZ : SE a0 A s s.heap) (hA : ∀ q : Nat, s.heap.size ≤ q → A q) (hW : KW D A h H) (hS : va_S A s.heap H locs)
    (hO : SOk y yc ny ret k) (hlink : Cond.methodLink own idx y ∈ wsL_law) (hk : As.length = k) (hR : d + 1 ≤ R.frames ∧ 8 + (ny + 11) + 40 * d ≤ R.locals) (hC : cells + mc ≤ R.cells ∧ slots + ms ≤ R.slots) (hsz : ls.size = nL) (hst : st0 = As.reverse ++ rest) (hWd : (rest.map fun v => v.category).sum ≤ 8) (hdg : decode cc pc = .ok (.invokestatic idx, 3))
    (kk : ∀ (r : ρ) (h1 : KH) (H1 : Heap) (locs1 : List Loc) (d1 : Drawn), s.drawn.sameBut d1 lw_cs → Post r h1 → KW D A h1 H1 → va_S A s.heap H1 locs1 → W p l e R (s.setDrawn d1) m args below meth c H1 locs1 (cells + mc) (slots + ms) Q (F0 m (pc + 3) ls ((vf r).toList ++ rest))) : W p l e R (s.setDrawn d0) m args below meth c H locs cells slots Q (F0 m pc ls st0) := by
  obtain ⟨hx, hb, hml, hown, hts⟩ := B
  obtain ⟨o1, o2, o3, o4⟩ := hO
  have hsub := KA.sub (sz := 0) hW hS hA
  have hr : va_RunD lw_cs p l e R (s.setDrawn d0) m args below meth c H locs cells slots mc ms (F0 m pc ls st0) rest (kQ D vf Post (KA h H.size) As.toArray) (KA h H.size) := va_runS_D (s := s.setDrawn d0) (As := As) (rest := rest) (Ts := wsL_law) (n := k) (g := F0 m pc ls st0) ⟨hx, hb, hml, hown, hts⟩ (hM H.size) ⟨callB_of k hts (good_WSy o1) rfl rfl rfl (hts _ o3) (hts _ hlink) o4 hR, hts _ o2⟩ ⟨KPre.blind, fun U hU hw => ⟨rfl, KPre.here (s := s.setDrawn d0) hK hN hZ hA hW hS hU hw⟩⟩ rfl hk hsz hst (lv_room hWd) hdg hC
  intro T hT X
  obtain ⟨v1, st₀, t, T', L, d1, hd1, h0, X', hL, e1, e2, ⟨⟨r, h1, hv, hp, hw⟩, hz, hkp⟩, st⟩ := hr T hT X
  cases hv
  rw [h0] at hz hkp
  obtain ⟨t2, a1, b1⟩ := kk r h1 T'.heap (locs ++ L) d1 (hd0.trans hd1) hp (by rw [e1]; exact hw.weaken (fun q _ hq => hsub q hq))
    ⟨Nat.le_trans hS.1 (by rw [e1]; exact hz), fun q h1 h2 => by rw [e1, hkp q (Nat.lt_of_lt_of_le h1 hS.1) (fun z => h2 (hsub q z))]; exact hS.2.1 q h1 h2, fun q hq => by
      rcases List.mem_append.mp hq with h | h
      · exact hS.2.2 q h
      · exact hsub _ (hL q h)⟩ T' rfl X'
  exact ⟨t2, st t2 a1, b1⟩
end LAWC
