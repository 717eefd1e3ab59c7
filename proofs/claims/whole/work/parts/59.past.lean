/-! undo, save, restore, counted, append, clear -/
section PA
variable {ct : Nat → ClassId} {a0 : Nat} {own own1 : Nat → Nat} {h h1 : KH} {ax nw : Nat} {snO : Option Nat} {hl : Nat} {hks : List (Nat × DS)} {rk b1 b2 b3 pd sg : Nat} {P LC : Nat → Int64} {BO SIG : Nat → Int32} {A : AS}
theorem CX.e10 (hc : CX ct a0 own h ax nw snO hl hks rk b1 b2 b3 pd sg P LC BO SIG A) : A.2.2.1 = hks.map Prod.snd := hc.2.2.2.2.2.2.2.2.2
theorem CX.nsn (hc : CX ct a0 own h ax nw snO hl hks rk b1 b2 b3 pd sg P LC BO SIG A) {q : Nat} (hq : h q = none) : snO ≠ some q := fun z => by
  rcases hc.2.2.2.2.2.1 with ⟨w, -⟩ | ⟨a', d', z1, z2, z3, z4⟩
  · rw [w] at z; cases z
  · rw [z1] at z; cases z
    obtain ⟨_, e⟩ := z3.obj
    rw [e] at hq; cases hq
theorem CX.nhk (hc : CX ct a0 own h ax nw snO hl hks rk b1 b2 b3 pd sg P LC BO SIG A) {q : Nat} (hq : h q = none) : ∀ x ∈ hks, x.1 ≠ q := fun x hx z => by
  obtain ⟨_, e⟩ := (hc.2.2.2.2.2.2.2.1 x hx).1.obj
  rw [z, hq] at e; cases e
theorem CX.nnw (hc : CX ct a0 own h ax nw snO hl hks rk b1 b2 b3 pd sg P LC BO SIG A) {q : Nat} (hq : h q = none) : q ≠ nw := fun z => by
  obtain ⟨_, e⟩ := hc.2.2.2.2.1.obj
  rw [← z, hq] at e; cases e
theorem CX.nax (hc : CX ct a0 own h ax nw snO hl hks rk b1 b2 b3 pd sg P LC BO SIG A) {q : Nat} (hq : h q = none) : q ≠ ax := fun z => by
  have e := hc.1
  rw [← z, hq] at e; cases e
/-- a state is copied to a new place -/
theorem p_fresh (hc : CX ct a0 own h ax nw snO hl hks rk b1 b2 b3 pd sg P LC BO SIG A) {q b : Nat} {d : DS} (hq : h q = none) (hb : isSt ct a0 own h b d) (hZ : ZOK d) (h4 : d.2.2.2.1.length ≤ 4) (e2 : h1 = hup h q stNew) {Post : Unit → KH → Prop}
    (hP : ∀ own3 h3, isSt ct a0 own3 h3 q d → CX ct a0 own3 h3 ax nw snO hl hks rk b1 b2 b3 pd sg P LC BO SIG A → Post () h3) : g_X4_init_ ct a0 q b h1 Post := by
  have f2 : FrG (q + 1) own h (oup own q (2 * q + 2)) h1 := by rw [e2]; exact FrG.new hq
  have hc2 := hc.new hq f2
  have qb : q ≠ b := fun z => by
    obtain ⟨_, e⟩ := hb.obj
    rw [← z, hq] at e; cases e
  refine p_stCopy (b := b) (by rw [e2]; exact hup_same) oup_same (hb.frg f2 (by omega) (by omega)) qb hZ h4 (fun own3 h3 hs3 f3 => hP own3 h3 hs3 ?_)
  exact hc2.fr f3 (by omega) (by have := hc.nax hq; omega) (by have := hc.nnw hq; omega) (fun a ea => by have := hc.nsn hq; intro z; exact this (by rw [ea]; congr 1; omega)) (fun x hx => by have := hc.nhk hq x hx; omega)
theorem CX.snR (hc : CX ct a0 own h ax nw snO hl hks rk b1 b2 b3 pd sg P LC BO SIG A) {K : Option Nat → Prop} (hK : K snO) : rdN h ax 6 1 K := ⟨_, _, hc.1, rfl, hK⟩
theorem sq_save : St_save ct a0 (Rel ct a0) := by
  intro j hj ax h M hr
  obtain ⟨own, A, ⟨nw, snO, hl, hks, rk, b1, b2, b3, pd, sg, P, LC, BO, SIG, hc⟩, ⟨m1, m2, m3, m4, m5, m6⟩, hG⟩ := hr
  obtain ⟨v, E, eM, hR, hkp, hpa⟩ := m1.opn
  have hI := hG.1
  intro q h1 hq e1
  have f2 : FrG (q + 1) own h (oup own q (2 * q + 2)) h1 := by rw [e1]; exact FrG.new hq
  refine (hc.new hq f2).nowR (p_fresh hc hq hc.2.2.2.2.1 hI.2.1 hI.1.2.2.2.2.1 e1 (fun own3 h3 hs3 hc3 => ?_))
  refine ⟨_, hc3.1, (by decide : 1 < 7), fun h4 e4 => ?_⟩
  have hc4 : CX ct a0 own3 h4 ax nw (some q) hl hks rk b1 b2 b3 pd sg P LC BO SIG (A.1, some A.1, A.2.2.1, A.2.2.2.1, A.2.2.2.2.1, A.2.2.2.2.2) := by
    rw [e4]
    exact hc3.obj hc3.2.2.2.2.1 (Or.inr ⟨q, A.1, rfl, rfl, hs3, hc.nnw hq⟩) (fun x hx => ⟨(hc.2.2.2.2.2.2.2.1 x hx).2.1, fun z => hc.nhk hq x hx (Option.some.inj z).symm⟩)
  obtain ⟨r, g, p, l, pr, kas, hs4⟩ := hc4.2.2.2.2.1
  refine hc4.nowR (hs4.sz ?_)
  have hpl : f_X6_plans M.1 = some (nI E.length) := by rw [eM]; exact m_plans hR.1 hR.2.2 (by omega)
  have el : kas.length = E.length := by
    have e := hs4.kpe
    have e5 : A.1.2.2.2.1.length = kas.length := by rw [show A.1.2.2.2.1 = kas.map Prod.snd from e, List.length_map]
    rw [hkp, List.length_map] at e5
    exact e5.symm
  have gg := m_saveL (s := M.1) (paid := M.2.2.2.2.1) (kp := M.2.2.2.2.2.2.1) (z := 1) hpl (kept := M.2.2.1) 1024 0 (by decide) (by decide)
  rw [cpy_0] at gg
  have hsv : StR (200 * (j + 1)) (cpy M.2.2.1 0 M.1 100) 0 (up2 M.2.2.2.2.2.2.1 0 (M.2.2.2.2.1 0) (M.2.2.2.2.1 1)) 0 A.1 := (m1.mono (by omega)).cp (fun i hi => by rw [cpy_in hi, Nat.zero_add]) up2_0 up2_1
  refine ⟨_, gg, by rw [el], own3, _, ⟨_, _, _, _, _, _, _, _, _, _, _, _, _, _, hc4⟩, ⟨m1.mono (by omega), m2.mono (by omega), Or.inr ⟨A.1, rfl, rfl, hsv⟩, m4, m5, m6⟩, hI, (fun d hd => by cases hd; exact hI), hG.2.2⟩
theorem sq_restore : St_restore ct a0 (Rel ct a0) := by
  intro j hj ax h M hr
  have hr1 := hr.up
  obtain ⟨own, A, ⟨nw, snO, hl, hks, rk, b1, b2, b3, pd, sg, P, LC, BO, SIG, hc⟩, ⟨m1, m2, m3, m4, m5, m6⟩, hG⟩ := hr
  obtain ⟨past', pp', ec, hH⟩ := m_changes m1 m2
  have hI := hG.1
  refine hc.snR ⟨fun hn => ?_, fun y2 hy => ?_⟩
  · have hk : M.2.2.2.2.2.2.2.2.1 = 0 := by
      rcases m3 with ⟨-, k⟩ | ⟨d, k1, k2, k3⟩
      · exact k
      · rcases hc.2.2.2.2.2.1 with ⟨w, w2⟩ | ⟨a', d', z1, z2, z3, z4⟩
        · rw [k1] at w2; cases w2
        · rw [hn] at z1; cases z1
    exact ⟨_, by unfold f_X6_restore; rw [hk, if_pos rfl], rfl, hr1⟩
  · refine hc.o (p_remember hc hI.1 hI.2.1 hG.2.2.2 (fun own1 h1 hks1 hc1 => ?_))
    rcases hc1.2.2.2.2.2.1 with ⟨w, w2⟩ | ⟨a', d, z1, z2, z3, z4⟩
    · rw [hy] at w; cases w
    · have z2 : A.2.1 = some d := z2
      rcases m3 with ⟨k1, -⟩ | ⟨d', k1, k2, k3⟩
      · rw [z2] at k1; cases k1
      have ed : d' = d := by rw [z2] at k1; exact (Option.some.inj k1).symm
      subst ed
      have hId := hG.2.1 d' z2
      intro q h2 hq e2
      have f2 : FrG (q + 1) own1 h1 (oup own1 q (2 * q + 2)) h2 := by rw [e2]; exact FrG.new hq
      refine ⟨_, _, (hc1.new hq f2).1, show _ = some (Value.ref a') by rw [z1]; rfl, ?_⟩
      refine p_fresh hc1 hq z3 hId.2.1 hId.1.2.2.2.2.1 e2 (fun own3 h3 hs3 hc3 => ?_)
      refine ⟨_, hc3.1, (by decide : 0 < 7), fun h4 e4 => ?_⟩
      have hc4 : CX ct a0 own3 h4 ax q snO hl hks1 rk b1 b2 b3 pd sg P LC BO SIG (d', A.2.1, pushH A.2.2.1 A.1, A.2.2.2.1, A.2.2.2.2.1, A.2.2.2.2.2) := by
        rw [e4]
        refine hc3.obj hs3 ?_ (fun x hx => ⟨hc1.nhk hq x hx, (hc1.2.2.2.2.2.2.2.1 x hx).2.2⟩)
        rcases hc3.2.2.2.2.2.1 with ⟨w, w2⟩ | ⟨a5, d5, y1, y2, y3, y4⟩
        · exact Or.inl ⟨w, w2⟩
        · exact Or.inr ⟨a5, d5, y1, y2, y3, fun z => hc1.nsn hq (by rw [y1, z])⟩
      obtain ⟨r, g, p, l, pr, kas, hs4⟩ := hc4.2.2.2.2.1
      refine hc4.nowR (hs4.sz ?_)
      have hSt : StR (200 * j) (cpy M.1 0 M.2.2.1 100) 0 (up2 M.2.2.2.2.1 0 (M.2.2.2.2.2.2.1 0) (M.2.2.2.2.2.2.1 1)) 0 d' := k3.cp (fun i hi => by rw [cpy_in hi, Nat.zero_add]) up2_0 up2_1
      obtain ⟨v, E, eM, hR, hkp, hpa⟩ := hSt.opn
      have hpl : f_X6_plans (cpy M.1 0 M.2.2.1 100) = some (nI E.length) := by rw [eM]; exact m_plans hR.1 hR.2.2 (by omega)
      have el : kas.length = E.length := by
        have e := hs4.kpe
        have e5 : d'.2.2.2.1.length = kas.length := by rw [show d'.2.2.2.1 = kas.map Prod.snd from e, List.length_map]
        rw [hkp, List.length_map] at e5
        exact e5.symm
      have gg := m_restL (s := M.1) (past := past') (paid := M.2.2.2.2.1) (pp := pp') (kp := M.2.2.2.2.2.2.1) (z := 1) (rn := 0) hpl (q3 := nI (pushH A.2.2.1 A.1).length) 1024 0 (by decide) (by decide)
      rw [cpy_0] at gg
      refine ⟨(nI E.length, cpy M.1 0 M.2.2.1 100, past', up2 M.2.2.2.2.1 0 (M.2.2.2.2.2.2.1 0) (M.2.2.2.2.2.2.1 1), pp', nI (pushH A.2.2.1 A.1).length), ?_, by rw [el], own3, _, ⟨_, _, _, _, _, _, _, _, _, _, _, _, _, _, hc4⟩, ⟨hSt.mono (by omega), hH.mono (by omega), (Or.inr ⟨d', z2, k2, k3.mono (by omega)⟩), m4, m5, m6⟩, hId, hG.2.1, hG.push, pushH_len hG.2.2.2⟩
      unfold f_X6_restore
      rw [k2, if_neg ne10, m4, ec, bnd_s]
      exact gg
theorem CX.unS (hc : CX ct a0 own h ax nw snO hl hks rk b1 b2 b3 pd sg P LC BO SIG A) {K : Int32 → KH → Prop} (hK : K (nI A.2.2.1.length) h) : rdR h ax 6 2 (fun v1 => isO h v1 0 (g_Jx4a65c_size_8abf5 ct a0 v1 h K)) := by
  have hL := hc.2.2.2.2.2.2.1
  refine hc.hisR ⟨hL.obj, p_size hL ?_⟩
  rw [List.length_map]
  rwa [hc.e10, List.length_map] at hK
theorem sq_undo : St_undo ct a0 (Rel ct a0) := by
  intro j hj ax h M hr
  have hr1 := hr.up
  obtain ⟨own, A, ⟨nw, snO, hl, hks, rk, b1, b2, b3, pd, sg, P, LC, BO, SIG, hc⟩, ⟨m1, m2, m3, m4, m5, m6⟩, hG⟩ := hr
  have hI := hG.1
  have h4 := hG.2.2.2
  have e10 := hc.e10
  refine hc.unS ?_
  obtain ⟨u1, u2, u3⟩ := m2
  rcases snoc_or hks with e | ⟨l, x, e⟩
  · subst e
    rw [e10, if_neg (by decide +kernel)]
    rw [e10] at u1
    exact ⟨(-2, M.1, M.2.2.2.2.1, M.2.2.2.2.2.2.2.2.2.1), by unfold f_X6_undo; rw [if_pos (show M.2.2.2.2.2.2.2.2.2.1 = (0 : Int32) by rw [u1]; rfl)], rfl, hr1⟩
  · subst e
    have el : A.2.2.1.length = l.length + 1 := by rw [e10, List.length_map, List.length_append]; rfl
    rw [el, show nI (l.length + 1) - (1 : Int32) = nI l.length from pk_sub (b := 1) (Nat.le_add_left _ _), if_pos (show (0 : Int32) ≤ nI l.length from nI_le (a := 0) (Nat.zero_le _) (by omega))]
    have hL := hc.2.2.2.2.2.2.1
    have hks8 := hc.2.2.2.2.2.2.2.1
    have hnd := hc.2.2.2.2.2.2.2.2.1
    refine hc.hisR ⟨hL.obj, p_remove (i := l.length) (x := x.1) (ci := 5) hL (by rw [List.getElem?_map, List.getElem?_append_right (Nat.le_refl _), Nat.sub_self]; rfl) (fun k hk => ?_) (Or.inr rfl) (fun h5 hL5 f5 => ?_)⟩
    · obtain ⟨y, hy, rfl⟩ := List.mem_map.mp hk
      exact (hks8 y hy).1.obj
    · have ee : ((l ++ [x]).map Prod.fst).eraseIdx l.length = l.map Prod.fst := by
        rw [map_erase]
        congr 1
        have := erase_mid (A := l) (B := []) (x := x)
        rwa [List.append_nil, List.append_nil] at this
      rw [ee] at hL5
      rw [List.map_append] at hnd
      obtain ⟨nd1, nd2, nd3⟩ := List.nodup_append.mp hnd
      have hc5 := hc.his f5 (hks1 := l) hL5 (fun y hy => Or.inl (List.mem_append_left _ hy)) nd1
      obtain ⟨o1, o2, o3⟩ := hc.ow (f5.g (by omega))
      have hx := o3 x (List.mem_append_right _ List.mem_cons_self)
      refine ⟨hx.1.obj, _, hc5.1, (by decide : 0 < 7), fun h6 e6 => ?_⟩
      have hc6 : CX ct a0 own h6 ax x.1 snO hl l rk b1 b2 b3 pd sg P LC BO SIG (x.2, A.2.1, l.map Prod.snd, A.2.2.2.1, A.2.2.2.2.1, A.2.2.2.2.2) := by
        rw [e6]
        refine hc5.obj hx.1 ?_ (fun y hy => ⟨fun z => nd3 _ (List.mem_map_of_mem hy) x.1 (by simp) z, (hks8 y (List.mem_append_left _ hy)).2.2⟩)
        rcases o2 with ⟨w, w2⟩ | ⟨a5, d5, y1, y2, y3, y4⟩
        · exact Or.inl ⟨w, w2⟩
        · exact Or.inr ⟨a5, d5, y1, y2, y3, fun z => hx.2.2 (by rw [y1, z])⟩
      have hi : A.2.2.1[l.length]? = some x.2 := by rw [e10, List.getElem?_map, List.getElem?_append_right (Nat.le_refl _), Nat.sub_self]; rfl
      have k3 := u3 _ _ hi
      have gg := m_undoL (s := M.1) (past := M.2.1) (paid := M.2.2.2.2.1) (pp := M.2.2.2.2.2.1) (p := l.length) (by omega) 1024 0 (by decide) (by decide)
      rw [cpy_0] at gg
      have hg : ∀ i d, (l.map Prod.snd)[i]? = some d → A.2.2.1[i]? = some d := fun i d hd => by
        rw [List.getElem?_map] at hd
        cases hq : l[i]? with
        | none => rw [hq] at hd; cases hd
        | some y =>
          rw [e10, List.getElem?_map, List.getElem?_append_left (List.getElem?_eq_some_iff.mp hq).1, hq]
          rw [hq] at hd
          exact hd
      have hun : StR (200 * (j + 1)) (cpy M.1 0 (fun k => M.2.1 (100 * l.length + k)) 100) 0 (up2 M.2.2.2.2.1 0 (M.2.2.2.2.2.1 (2 * l.length)) (M.2.2.2.2.2.1 (2 * l.length + 1))) 0 x.2 := (k3.mono (by omega)).cp (fun i hi => by rw [cpy_in hi]) up2_0 up2_1
      refine ⟨_, (by
        unfold f_X6_undo
        rw [u1, el, if_neg (show ¬ nI (l.length + 1) = (0 : Int32) from fun z => absurd ((nI_eq (b := 0) (by omega) (by decide)).mp z) (by omega)), show nI (l.length + 1) - (1 : Int32) = nI l.length from pk_sub (b := 1) (Nat.le_add_left _ _)]
        exact gg), rfl, own, _, ⟨_, _, _, _, _, _, _, _, _, _, _, _, _, _, hc6⟩, ⟨hun, ⟨by rw [List.length_map], by rw [List.length_map]; omega, fun i d hd => (u3 i d (hg i d hd)).mono (by omega)⟩, m3.mono (by omega), m4, m5, m6⟩, hG.2.2.1 _ (List.mem_of_getElem? hi), hG.2.1, (fun d hd => ?_), ?_⟩
      · obtain ⟨i, hi⟩ := List.getElem?_of_mem hd
        exact hG.2.2.1 d (List.mem_of_getElem? (hg i d hi))
      · show (l.map Prod.snd).length ≤ 4
        rw [List.length_map]; omega
end PA
