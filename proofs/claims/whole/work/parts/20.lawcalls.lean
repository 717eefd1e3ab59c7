/-! calls out of the law: the class over its known heap, the model over its cells, each leaves the other's as they are -/
section LAWC
variable {p : Program} {l : Launch} {e : Env} {R : Room} {s : State} {m : MethodId} {args : Array Value} {below : List Frame} {meth : Method} {c : Code} {H : Heap} {locs : List Loc} {cells slots : Nat} {Q : State → Prop}
variable {pc : Nat} {ls : Array Slot} {rest st0 : List Value} {cc : ByteArray} {nL : Nat} {own : String} {D : va_G} {ct : Nat → ClassId} {a0 : Nat} {A : Nat → Prop} {h : KH} {w : va_W}
variable {y : MethodName} {yc : ByteArray} {ny d k idx mc ms : Nat} {ret : Option FieldType} {As : List Value}
theorem w_apart (hP : va_P D vwCl w H) (hdis : ∀ x ∈ w, h x.1 = none) {H1 : Heap} (hk : ∀ q : Nat, q < H.size → ¬ KA h H.size q → H1[q]? = H[q]?) : va_P D vwCl w H1 := fun i q hq => by
  have hat := hP i q hq
  refine hat.kept (hk q.1 hat.lt (fun hz => ?_))
  rcases hz with ⟨e1, he⟩ | hz
  · rw [hdis q (List.mem_of_getElem? hq)] at he; cases he
  · have := hat.lt; omega
theorem w_apart2 (hP : va_P D vwCl w H) (hdis : ∀ x ∈ w, h x.1 = none) {h1 : KH} {H1 : Heap} (hW : KW D (KA h H.size) h1 H1) : ∀ x ∈ w, h1 x.1 = none := fun x hx => by
  obtain ⟨i, hi⟩ := List.getElem?_of_mem hx
  have hlt := (hP i x hi).lt
  cases hh : h1 x.1 with
  | none => rfl
  | some e1 =>
    rcases hW.in hh with ⟨e2, he⟩ | hz
    · rw [hdis x hx] at he; cases he
    · omega
theorem lawx {ρ : Type} {vf : ρ → Option Value} {Post : ρ → KH → Prop} {r0 ci : Nat} {T0 : u_T} {N0 : Nat} {fs : List Value} (hM : CK l y yc ny d mc ms ret D ct a0 (.ref r0 :: As) vf h Post) (B : BX p s m args c cc nL own) (hK : va_K D vwCl (tysK ct) s) (hN : NK s) (hZ : SE a0 A s s.heap) (hA : ∀ q : Nat, s.heap.size ≤ q → A q) (hW : KW D A h H) (hP : va_P D vwCl w H) (hdis : ∀ x ∈ w, h x.1 = none) (hS : va_S A s.heap H locs)
    (hrecv : h r0 = some (.inr (ci, fs))) (hc : vwCl[ci]? = some (y.cls, T0, N0)) (hO : VOk y yc ny ret k) (hlink : Cond.methodLink own idx y ∈ wsL_law) (hk : As.length = k) (hR : d + 1 ≤ R.frames ∧ 8 + (ny + 11) + 40 * d ≤ R.locals) (hC : cells + mc ≤ R.cells ∧ slots + ms ≤ R.slots) (hsz : ls.size = nL) (hst : st0 = As.reverse ++ .ref r0 :: rest) (hWd : (rest.map fun v => v.category).sum ≤ 8) (hdg : decode cc pc = .ok (.invokevirtual idx, 3))
    (kk : ∀ (r : ρ) (h1 : KH) (H1 : Heap) (locs1 : List Loc), Post r h1 → KW D A h1 H1 → va_P D vwCl w H1 → (∀ x ∈ w, h1 x.1 = none) → va_S A s.heap H1 locs1 → W p l e R s m args below meth c H1 locs1 (cells + mc) (slots + ms) Q (F0 m (pc + 3) ls ((vf r).toList ++ rest))) : W p l e R s m args below meth c H locs cells slots Q (F0 m pc ls st0) := by
  obtain ⟨hx, hb, hml, hown, hts⟩ := B
  obtain ⟨o1, o2, o3, o4, o5⟩ := hO
  have hsub := KA.sub (sz := 0) hW hS hA
  have hr : va_Run p l e R s m args below meth c H locs cells slots mc ms (F0 m pc ls st0) rest (kQ D vf Post (KA h H.size) (Value.ref r0 :: As).toArray) (KA h H.size) := va_runV (C := y.cls) (As := As) (rest := rest) (Ts := wsL_law) (n := k) (g := F0 m pc ls st0) ⟨hx, hb, hml, hown, hts⟩ (hM H.size) ⟨callB_of k hts (good_WSy o1) rfl rfl rfl (hts _ o4) (hts _ hlink) o5 hR, hts _ o2, hts _ o3⟩ ⟨KPre.blind, va_recv hK (hW.at hrecv) (ci := ci) (q0 := 0) hc rfl, fun U hU hw => ⟨rfl, KPre.here hK hN hZ hA hW hS hU hw⟩⟩ rfl hk hsz hst (lv_room hWd) hdg hC
  intro T hT X
  obtain ⟨v1, st₀, t, T', L, h0, X', hL, e1, e2, ⟨⟨r, h1, hv, hp, hw⟩, hz, hkp⟩, st⟩ := hr T hT X
  cases hv
  rw [h0] at hz hkp
  obtain ⟨t2, a1, b1⟩ := kk r h1 T'.heap (locs ++ L) hp (by rw [e1]; exact hw.weaken (fun q _ hq => hsub q hq)) (by rw [e1]; exact w_apart hP hdis hkp) (w_apart2 hP hdis hw)
    ⟨Nat.le_trans hS.1 (by rw [e1]; exact hz), fun q h1 h2 => by rw [e1, hkp q (Nat.lt_of_lt_of_le h1 hS.1) (fun z => h2 (hsub q z))]; exact hS.2.1 q h1 h2, fun q hq => by
      rcases List.mem_append.mp hq with h | h
      · exact hS.2.2 q h
      · exact hsub _ (hL q h)⟩ T' rfl X'
  exact ⟨t2, st t2 a1, b1⟩
theorem KW.kept2 (hW : KW D A h H) {w : va_W} {H1 : Heap} (hdis : ∀ x ∈ w, h x.1 = none) (hk : ∀ q : Nat, q < H.size → ¬ va_A w H.size q → H1[q]? = H[q]?) : KW D A h H1 := by
  obtain ⟨ws, hl, hP, hD⟩ := hW
  refine ⟨ws, hl, fun i q hq => ?_, hD⟩
  have hat := hP i q hq
  refine hat.kept (hk q.1 hat.lt (fun hz => ?_))
  rcases hz with ⟨j, e9, h9⟩ | hz
  · have h1 := (hl q.1 q.2).mp (List.mem_of_getElem? hq)
    have h2 := hdis (q.1, e9) (List.mem_of_getElem? h9)
    rw [h1] at h2; cases h2
  · have := hat.lt; omega
theorem lawm {v : Option Value} {w' : va_W} {ad : List Nat} {r0 : Nat} (hM : CF l y yc ny d ret D (tysMW (ct 0) (ct 1)) (.ref r0 :: As) v w w') (B : BX p s m args c cc nL own) (hK : va_K D vwCl (tysK ct) s) (hDD : ∀ w2 : va_W, w2.map Prod.fst = ad → va_D A w2) (hA : ∀ q : Nat, s.heap.size ≤ q → A q) (hW : KW D A h H) (hP : va_P D vwCl w H) (hdis : ∀ x ∈ w, h x.1 = none) (hS : va_S A s.heap H locs) (hw : w.map Prod.fst = ad) (hw' : w'.map Prod.fst = ad)
    (hrecv : ∃ cell : Cell, H[r0]? = some cell ∧ cell.vm.isStatics = false ∧ s.vm.findClass y.cls = some cell.cls) (hO : VOk y yc ny ret k) (hlink : Cond.methodLink own idx y ∈ wsL_law) (hk : As.length = k) (hR : d + 1 ≤ R.frames ∧ 8 + (ny + 11) + 40 * d ≤ R.locals) (hC : cells ≤ R.cells ∧ slots ≤ R.slots) (hsz : ls.size = nL) (hst : st0 = As.reverse ++ .ref r0 :: rest) (hWd : (rest.map fun v => v.category).sum ≤ 8) (hdg : decode cc pc = .ok (.invokevirtual idx, 3))
    (kk : ∀ (H1 : Heap) (locs1 : List Loc), KW D A h H1 → va_P D vwCl w' H1 → (∀ x ∈ w', h x.1 = none) → va_S A s.heap H1 locs1 → W p l e R s m args below meth c H1 locs1 cells slots Q (F0 m (pc + 3) ls (v.toList ++ rest))) : W p l e R s m args below meth c H locs cells slots Q (F0 m pc ls st0) := by
  obtain ⟨hx, hb, hml, hown, hts⟩ := B
  obtain ⟨o1, o2, o3, o4, o5⟩ := hO
  have hsub : ∀ q, va_A w H.size q → A q := by
    intro q hq
    rcases hq with ⟨i, e9, h9⟩ | h9
    · exact (hDD w hw).2 i (q, e9) h9
    · exact hA q (Nat.le_trans hS.1 h9)
  have hKm : va_K D vwCl (tysMW (ct 0) (ct 1)) s := hK.sub [0, 1] rfl
  have hr : va_Run p l e R s m args below meth c H locs cells slots 0 0 (F0 m pc ls st0) rest (fQ D v w' (va_A w H.size) (Value.ref r0 :: As).toArray) (va_A w H.size) := va_runV (C := y.cls) (As := As) (rest := rest) (Ts := wsL_law) (n := k) (g := F0 m pc ls st0) ⟨hx, hb, hml, hown, hts⟩ (hM H.size) ⟨callB_of k hts (good_WSy o1) rfl rfl rfl (hts _ o4) (hts _ hlink) o5 hR, hts _ o2, hts _ o3⟩ ⟨FPre.blind, hrecv, fun U hU hw9 => ⟨rfl, by rw [hU], by rw [hU]; exact hP, va_K.moved hw9.alike hKm, (hDD w hw).weaken (fun _ _ _ _ => trivial)⟩⟩ rfl hk hsz hst (lv_room hWd) hdg hC
  have hdis' : ∀ x ∈ w', h x.1 = none := fun x hx => by
    have h1 : x.1 ∈ w.map Prod.fst := by rw [hw, ← hw']; exact List.mem_map.mpr ⟨x, hx, rfl⟩
    obtain ⟨z, hz, ez⟩ := List.mem_map.mp h1
    rw [← ez]; exact hdis z hz
  intro T hT X
  obtain ⟨v1, st₀, t, T', L, h0, X', hL, e1, e2, ⟨hv, hp, hz, hkp⟩, st⟩ := hr T hT X
  cases hv
  rw [h0] at hz hkp
  obtain ⟨t2, a1, b1⟩ := kk T'.heap (locs ++ L) (by rw [e1]; exact hW.kept2 hdis hkp) (by rw [e1]; exact hp) hdis'
    ⟨Nat.le_trans hS.1 (by rw [e1]; exact hz), fun q h1 h2 => by rw [e1, hkp q (Nat.lt_of_lt_of_le h1 hS.1) (fun z => h2 (hsub q z))]; exact hS.2.1 q h1 h2, fun q hq => by
      rcases List.mem_append.mp hq with h | h
      · exact hS.2.2 q h
      · exact hsub _ (hL q h)⟩ T' rfl X'
  exact ⟨t2, st t2 a1, b1⟩
theorem lawxD {Post : DR → KH → Prop} {r0 ci : Nat} {T0 : u_T} {N0 : Nat} {fs : List Value} {d0 : Drawn} (hd0 : s.drawn.sameBut d0 lw_cs) (hM : CKD l y yc ny d mc ms D ct a0 (.ref r0 :: As) h Post) (B : BX p (s.setDrawn d0) m args c cc nL own) (hK : va_K D vwCl (tysK ct) s) (hN : NK s) (hZ : SE a0 A s s.heap) (hA : ∀ q : Nat, s.heap.size ≤ q → A q) (hW : KW D A h H) (hP : va_P D vwCl w H) (hdis : ∀ x ∈ w, h x.1 = none) (hS : va_S A s.heap H locs)
    (hrecv : h r0 = some (.inr (ci, fs))) (hc : vwCl[ci]? = some (y.cls, T0, N0)) (hO : VOk y yc ny (some .double) k) (hlink : Cond.methodLink own idx y ∈ wsL_law) (hk : As.length = k) (hR : d + 1 ≤ R.frames ∧ 8 + (ny + 11) + 40 * d ≤ R.locals) (hC : cells + mc ≤ R.cells ∧ slots + ms ≤ R.slots) (hsz : ls.size = nL) (hst : st0 = As.reverse ++ .ref r0 :: rest) (hWd : (rest.map fun v => v.category).sum ≤ 8) (hdg : decode cc pc = .ok (.invokevirtual idx, 3))
    (kk : ∀ (r : UInt64) (v : DR) (h1 : KH) (H1 : Heap) (locs1 : List Loc) (d1 : Drawn), s.drawn.sameBut d1 lw_cs → dOK v r → Post v h1 → KW D A h1 H1 → va_P D vwCl w H1 → (∀ x ∈ w, h1 x.1 = none) → va_S A s.heap H1 locs1 → W p l e R (s.setDrawn d1) m args below meth c H1 locs1 (cells + mc) (slots + ms) Q (F0 m (pc + 3) ls (.double r :: rest))) : W p l e R (s.setDrawn d0) m args below meth c H locs cells slots Q (F0 m pc ls st0) := by
  obtain ⟨hx, hb, hml, hown, hts⟩ := B
  obtain ⟨o1, o2, o3, o4, o5⟩ := hO
  have hsub := KA.sub (sz := 0) hW hS hA
  have hr : va_RunD lw_cs p l e R (s.setDrawn d0) m args below meth c H locs cells slots mc ms (F0 m pc ls st0) rest (kQD D Post (KA h H.size) (Value.ref r0 :: As).toArray) (KA h H.size) := va_runV_D (s := s.setDrawn d0) (C := y.cls) (As := As) (rest := rest) (Ts := wsL_law) (n := k) (g := F0 m pc ls st0) ⟨hx, hb, hml, hown, hts⟩ (hM H.size) ⟨callB_of k hts (good_WSy o1) rfl rfl rfl (hts _ o4) (hts _ hlink) o5 hR, hts _ o2, hts _ o3⟩ ⟨KPre.blind, va_recv (s := s) hK (hW.at hrecv) (ci := ci) (q0 := 0) hc rfl, fun U hU hw => ⟨rfl, KPre.here (s := s.setDrawn d0) hK hN hZ hA hW hS hU hw⟩⟩ rfl hk hsz hst (lv_room hWd) hdg hC
  intro T hT X
  obtain ⟨v1, st₀, t, T', L, d1, hd1, h0, X', hL, e1, e2, ⟨⟨r, v, h1, hv, hok, hp, hw⟩, hz, hkp⟩, st⟩ := hr T hT X
  cases hv
  rw [h0] at hz hkp
  obtain ⟨t2, a1, b1⟩ := kk r v h1 T'.heap (locs ++ L) d1 (hd0.trans hd1) hok hp (by rw [e1]; exact hw.weaken (fun q _ hq => hsub q hq)) (by rw [e1]; exact w_apart hP hdis hkp) (w_apart2 hP hdis hw)
    ⟨Nat.le_trans hS.1 (by rw [e1]; exact hz), fun q h1 h2 => by rw [e1, hkp q (Nat.lt_of_lt_of_le h1 hS.1) (fun z => h2 (hsub q z))]; exact hS.2.1 q h1 h2, fun q hq => by
      rcases List.mem_append.mp hq with h | h
      · exact hS.2.2 q h
      · exact hsub _ (hL q h)⟩ T' rfl X'
  exact ⟨t2, st t2 a1, b1⟩
theorem lawmD {v : DR} {w' : va_W} {ad : List Nat} {r0 : Nat} {d0 : Drawn} (hd0 : s.drawn.sameBut d0 lw_cs) (hM : CFD l y yc ny d D (tysMW (ct 0) (ct 1)) (.ref r0 :: As) v w w') (B : BX p (s.setDrawn d0) m args c cc nL own) (hK : va_K D vwCl (tysK ct) s) (hDD : ∀ w2 : va_W, w2.map Prod.fst = ad → va_D A w2) (hA : ∀ q : Nat, s.heap.size ≤ q → A q) (hW : KW D A h H) (hP : va_P D vwCl w H) (hdis : ∀ x ∈ w, h x.1 = none) (hS : va_S A s.heap H locs) (hw : w.map Prod.fst = ad) (hw' : w'.map Prod.fst = ad)
    (hrecv : ∃ cell : Cell, H[r0]? = some cell ∧ cell.vm.isStatics = false ∧ s.vm.findClass y.cls = some cell.cls) (hO : VOk y yc ny (some .double) k) (hlink : Cond.methodLink own idx y ∈ wsL_law) (hk : As.length = k) (hR : d + 1 ≤ R.frames ∧ 8 + (ny + 11) + 40 * d ≤ R.locals) (hC : cells ≤ R.cells ∧ slots ≤ R.slots) (hsz : ls.size = nL) (hst : st0 = As.reverse ++ .ref r0 :: rest) (hWd : (rest.map fun v => v.category).sum ≤ 8) (hdg : decode cc pc = .ok (.invokevirtual idx, 3))
    (kk : ∀ (r : UInt64) (H1 : Heap) (locs1 : List Loc) (d1 : Drawn), s.drawn.sameBut d1 lw_cs → dOK v r → KW D A h H1 → va_P D vwCl w' H1 → (∀ x ∈ w', h x.1 = none) → va_S A s.heap H1 locs1 → W p l e R (s.setDrawn d1) m args below meth c H1 locs1 cells slots Q (F0 m (pc + 3) ls (.double r :: rest))) : W p l e R (s.setDrawn d0) m args below meth c H locs cells slots Q (F0 m pc ls st0) := by
  obtain ⟨hx, hb, hml, hown, hts⟩ := B
  obtain ⟨o1, o2, o3, o4, o5⟩ := hO
  have hsub : ∀ q, va_A w H.size q → A q := by
    intro q hq
    rcases hq with ⟨i, e9, h9⟩ | h9
    · exact (hDD w hw).2 i (q, e9) h9
    · exact hA q (Nat.le_trans hS.1 h9)
  have hKm : va_K D vwCl (tysMW (ct 0) (ct 1)) (s.setDrawn d0) := va_K.sub (U := s) hK [0, 1] rfl
  have hr : va_RunD lw_cs p l e R (s.setDrawn d0) m args below meth c H locs cells slots 0 0 (F0 m pc ls st0) rest (fQD D v w' (va_A w H.size) (Value.ref r0 :: As).toArray) (va_A w H.size) := va_runV_D (s := s.setDrawn d0) (C := y.cls) (As := As) (rest := rest) (Ts := wsL_law) (n := k) (g := F0 m pc ls st0) ⟨hx, hb, hml, hown, hts⟩ (hM H.size) ⟨callB_of k hts (good_WSy o1) rfl rfl rfl (hts _ o4) (hts _ hlink) o5 hR, hts _ o2, hts _ o3⟩ ⟨FPre.blind, hrecv, fun U hU hw9 => ⟨rfl, by rw [hU], by rw [hU]; exact hP, va_K.moved hw9.alike hKm, (hDD w hw).weaken (fun _ _ _ _ => trivial)⟩⟩ rfl hk hsz hst (lv_room hWd) hdg hC
  have hdis' : ∀ x ∈ w', h x.1 = none := fun x hx => by
    have h1 : x.1 ∈ w.map Prod.fst := by rw [hw, ← hw']; exact List.mem_map.mpr ⟨x, hx, rfl⟩
    obtain ⟨z, hz, ez⟩ := List.mem_map.mp h1
    rw [← ez]; exact hdis z hz
  intro T hT X
  obtain ⟨v1, st₀, t, T', L, d1, hd1, h0, X', hL, e1, e2, ⟨⟨r, hv, hok⟩, hp, hz, hkp⟩, st⟩ := hr T hT X
  cases hv
  rw [h0] at hz hkp
  obtain ⟨t2, a1, b1⟩ := kk r T'.heap (locs ++ L) d1 (hd0.trans hd1) hok (by rw [e1]; exact hW.kept2 hdis hkp) (by rw [e1]; exact hp) hdis'
    ⟨Nat.le_trans hS.1 (by rw [e1]; exact hz), fun q h1 h2 => by rw [e1, hkp q (Nat.lt_of_lt_of_le h1 hS.1) (fun z => h2 (hsub q z))]; exact hS.2.1 q h1 h2, fun q hq => by
      rcases List.mem_append.mp hq with h | h
      · exact hS.2.2 q h
      · exact hsub _ (hL q h)⟩ T' rfl X'
  exact ⟨t2, st t2 a1, b1⟩
/-- the heap of both, parted: the model's cells w, and the rest -/
theorem KW.part (hW : KW D A h H) {w : va_W} (hw : inW h w) : KW D A (fun q => if q ∈ w.map Prod.fst then none else h q) H ∧ va_P D vwCl w H ∧ va_D A w := by
  have hP := hW.fixed hw
  have hin : ∀ x ∈ w, A x.1 := fun x hx => hW.in (hw.1 x.1 x.2 hx)
  obtain ⟨ws, hl, hP0, hD⟩ := hW
  refine ⟨⟨ws.filter (fun x => decide (x.1 ∉ w.map Prod.fst)), fun a e1 => ?_, fun i q hq => ?_, ?_⟩, hP, ⟨(nodup_D hw.2).1, fun i q hq => hin q (List.mem_of_getElem? hq)⟩⟩
  · rw [List.mem_filter, hl a e1]
    show _ ∧ decide (a ∉ w.map Prod.fst) = true ↔ (if a ∈ w.map Prod.fst then none else h a) = some e1
    rw [decide_eq_true_eq]
    by_cases hm : a ∈ w.map Prod.fst
    · rw [if_pos hm]
      exact ⟨fun z => absurd hm z.2, fun z => by cases z⟩
    · rw [if_neg hm]
      exact ⟨fun z => z.1, fun z => ⟨z, hm⟩⟩
  · have hm := (List.mem_filter.mp (List.mem_of_getElem? hq)).1
    obtain ⟨j, hj⟩ := List.getElem?_of_mem hm
    exact hP0 j q hj
  · have hnd : (ws.map Prod.fst).Nodup := by
      refine List.pairwise_iff_getElem.mpr (fun i j hi hj hij he => ?_)
      rw [List.length_map] at hi hj
      rw [List.getElem_map, List.getElem_map] at he
      have := hD.1 i j _ _ (List.getElem?_eq_getElem hi) (List.getElem?_eq_getElem hj) he
      omega
    have hnd2 : ((ws.filter (fun x => decide (x.1 ∉ w.map Prod.fst))).map Prod.fst).Nodup := List.Nodup.sublist (List.Sublist.map _ List.filter_sublist) hnd
    exact ⟨(nodup_D hnd2).1, fun i q hq => by
      obtain ⟨j, hj⟩ := List.getElem?_of_mem (List.mem_filter.mp (List.mem_of_getElem? hq)).1
      exact hD.2 j q hj⟩
end LAWC
