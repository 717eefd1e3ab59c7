/-! the law's own arrays beside the object's cells -/
theorem SPL.at {h hc : KH} {w : va_W} (sp : SPL h hc w) {a : Nat} {e : va_E} (hm : (a, e) ∈ w) : h a = some e := by
  rw [sp.1]; exact hupw_in sp.2.2 hm
theorem SPL.up {h hc : KH} {w1 w2 : va_W} {a : Nat} {e : va_E} (sp : SPL h hc (w1 ++ (a, e) :: w2)) (e' : va_E) : SPL (hup h a e') hc (w1 ++ (a, e') :: w2) := by
  obtain ⟨eh, hd, hn⟩ := sp
  have em : (w1 ++ (a, e') :: w2).map Prod.fst = (w1 ++ (a, e) :: w2).map Prod.fst := by
    rw [List.map_append, List.map_append, List.map_cons, List.map_cons]
  have hn' : ((w1 ++ (a, e') :: w2).map Prod.fst).Nodup := by rw [em]; exact hn
  refine ⟨?_, fun x hx => ?_, hn'⟩
  · funext q
    show (if q = a then some e' else h q) = _
    by_cases c : q = a
    · rw [if_pos c, c]
      exact (hupw_in hn' (List.mem_append_right _ List.mem_cons_self)).symm
    · rw [if_neg c, eh]
      by_cases m : q ∈ (w1 ++ (a, e) :: w2).map Prod.fst
      · obtain ⟨x, hx, ex⟩ := List.mem_map.mp m
        have hx2 : (q, x.2) ∈ w1 ++ (a, e) :: w2 := by rw [← ex]; exact hx
        have hx3 : (q, x.2) ∈ w1 ++ (a, e') :: w2 := by
          rcases List.mem_append.mp hx2 with y | y
          · exact List.mem_append_left _ y
          · rcases List.mem_cons.mp y with y | y
            · exact absurd (congrArg Prod.fst y) c
            · exact List.mem_append_right _ (List.mem_cons_of_mem _ y)
        rw [hupw_in hn hx2, hupw_in hn' hx3]
      · rw [hupw_out m, hupw_out (by rw [em]; exact m)]
  · have m : x.1 ∈ (w1 ++ (a, e) :: w2).map Prod.fst := by rw [← em]; exact List.mem_map.mpr ⟨x, hx, rfl⟩
    obtain ⟨y, hy, ey⟩ := List.mem_map.mp m
    rw [← ey]; exact hd y hy
theorem SPL.fresh {h hc : KH} {w : va_W} (sp : SPL h hc w) {q : Nat} (hq : h q = none) : q ∉ w.map Prod.fst ∧ hc q = none := by
  have h1 : q ∉ w.map Prod.fst := fun m => by
    obtain ⟨x, hx, ex⟩ := List.mem_map.mp m
    have := sp.at (a := x.1) (e := x.2) hx
    rw [ex, hq] at this; cases this
  refine ⟨h1, ?_⟩
  have h2 := sp.1
  rw [h2, hupw_out h1] at hq
  exact hq
theorem nd_snoc {w : va_W} {q : Nat} {e : va_E} (hn : (w.map Prod.fst).Nodup) (h1 : q ∉ w.map Prod.fst) : ((w ++ [(q, e)]).map Prod.fst).Nodup := by
  rw [List.map_append]
  refine List.nodup_append.mpr ⟨hn, by simp, fun a ha b hb z => ?_⟩
  have hb1 : b = q := by simpa using hb
  exact h1 (by rw [← hb1, ← z]; exact ha)
theorem SPL.new {h hc : KH} {w : va_W} (sp : SPL h hc w) {q : Nat} (hq : h q = none) (e : va_E) : SPL (hup h q e) hc (w ++ [(q, e)]) := by
  obtain ⟨h1, h2⟩ := sp.fresh hq
  obtain ⟨eh, hd, hn⟩ := sp
  have hn' := nd_snoc (e := e) hn h1
  refine ⟨?_, fun x hx => ?_, hn'⟩
  · funext z
    show (if z = q then some e else h z) = _
    by_cases c : z = q
    · rw [if_pos c, c]
      exact (hupw_in hn' (List.mem_append_right _ List.mem_cons_self)).symm
    · rw [if_neg c, eh]
      by_cases m : z ∈ w.map Prod.fst
      · obtain ⟨x, hx, ex⟩ := List.mem_map.mp m
        have hx2 : (z, x.2) ∈ w := by rw [← ex]; exact hx
        rw [hupw_in hn hx2, hupw_in hn' (List.mem_append_left _ hx2)]
      · rw [hupw_out m, hupw_out (by
          rw [List.map_append]
          exact fun y => (List.mem_append.mp y).elim m (fun y => c (by simpa using y)))]
  · rcases List.mem_append.mp hx with hx | hx
    · exact hd x hx
    · rw [List.mem_singleton.mp hx]; exact h2
theorem SPL.drop {h hc : KH} {w : va_W} {q : Nat} {e : va_E} (sp : SPL h hc (w ++ [(q, e)])) : SPL h (hup hc q e) w ∧ hc q = none := by
  obtain ⟨eh, hd, hn⟩ := sp
  have hq : hc q = none := hd (q, e) (List.mem_append_right _ List.mem_cons_self)
  have hn2 := hn
  rw [List.map_append] at hn2
  obtain ⟨n1, -, n3⟩ := List.nodup_append.mp hn2
  have hqw : q ∉ w.map Prod.fst := fun m => n3 q m q (by simp) rfl
  refine ⟨⟨?_, fun x hx => ?_, n1⟩, hq⟩
  · rw [eh]
    funext z
    by_cases m : z ∈ w.map Prod.fst
    · obtain ⟨x, hx, ex⟩ := List.mem_map.mp m
      have hx2 : (z, x.2) ∈ w := by rw [← ex]; exact hx
      rw [hupw_in n1 hx2, hupw_in hn (List.mem_append_left _ hx2)]
    · rw [hupw_out m]
      show _ = if z = q then some e else hc z
      by_cases c : z = q
      · rw [if_pos c, c]
        exact hupw_in hn (List.mem_append_right _ List.mem_cons_self)
      · rw [if_neg c]
        exact hupw_out (by
          rw [List.map_append]
          exact fun y => (List.mem_append.mp y).elim m (fun y => c (by simpa using y)))
  · show (if x.1 = q then some e else hc x.1) = none
    rw [if_neg (fun c => hqw (by rw [← c]; exact List.mem_map.mpr ⟨x, hx, rfl⟩))]
    exact hd x (List.mem_append_left _ hx)
section LHP
variable {ct : Nat → ClassId} {a0 ax : Nat} {d d1 : DS}
theorem OD.new {hc : KH} (h0 : OD ct a0 ax hc d) {q : Nat} (hq : hc q = none) (e : va_E) : OD ct a0 ax (hup hc q e) d := by
  obtain ⟨own, A, ⟨nw, snO, hl, hks, rk, b1, b2, b3, pd, sg, P, LC, BO, SIG, hx⟩, hG, rfl⟩ := h0
  exact ⟨oup own q (2 * q + 2), A, ⟨_, _, _, _, _, _, _, _, _, _, _, _, _, _, hx.new hq (FrG.new hq)⟩, hG, rfl⟩
/-- a call of the class, the law's arrays beside it -/
theorem SPL.frc {ρ : Type} {h hc : KH} {w : va_W} {g : KH → (ρ → KH → Prop) → Prop} {K : ρ → KH → Prop} {v0 : ρ} (sp : SPL h hc w) (h0 : OD ct a0 ax hc d) (hg : ∀ P : ρ → KH → Prop, (∀ h1, OD ct a0 ax h1 d1 → P v0 h1) → g hc P) (hK : ∀ h1 hc1, SPL h1 hc1 w → OD ct a0 ax hc1 d1 → K v0 h1) : frC h ax g K :=
  ⟨hc, w, sp, h0.obj, hg _ (fun h1 hd hdis => hK _ h1 ⟨rfl, hdis, sp.2.2⟩ hd)⟩
/-- the law's arrays -/
def LW (ct : Nat → ClassId) (pa pf pt pl pw : Nat) (A F T : Nat → Int32) (L V : Nat → Int64) : va_W := [(pa, .inl (ct 0, 36, .inl A)), (pf, .inl (ct 0, 56, .inl F)), (pt, .inl (ct 0, 8, .inl T)), (pl, .inl (ct 1, 2, .inr (.inl L))), (pw, .inl (ct 1, 64, .inr (.inl V)))]
def LH (ct : Nat → ClassId) (pa pf pt pl pw : Nat) (hc : KH) (X : va_W) (A F T : Nat → Int32) (L V : Nat → Int64) (h : KH) : Prop := SPL h hc (LW ct pa pf pt pl pw A F T L V ++ X)
variable {pa pf pt pl pw : Nat} {h hc : KH} {X : va_W} {A F T : Nat → Int32} {L V : Nat → Int64}
theorem LH.a (hl : LH ct pa pf pt pl pw hc X A F T L V h) : h pa = some (.inl (ct 0, 36, .inl A)) := SPL.at hl (List.mem_append_left _ (List.mem_of_getElem? (i := 0) rfl))
theorem LH.f (hl : LH ct pa pf pt pl pw hc X A F T L V h) : h pf = some (.inl (ct 0, 56, .inl F)) := SPL.at hl (List.mem_append_left _ (List.mem_of_getElem? (i := 1) rfl))
theorem LH.t (hl : LH ct pa pf pt pl pw hc X A F T L V h) : h pt = some (.inl (ct 0, 8, .inl T)) := SPL.at hl (List.mem_append_left _ (List.mem_of_getElem? (i := 2) rfl))
theorem LH.l (hl : LH ct pa pf pt pl pw hc X A F T L V h) : h pl = some (.inl (ct 1, 2, .inr (.inl L))) := SPL.at hl (List.mem_append_left _ (List.mem_of_getElem? (i := 3) rfl))
theorem LH.w (hl : LH ct pa pf pt pl pw hc X A F T L V h) : h pw = some (.inl (ct 1, 64, .inr (.inl V))) := SPL.at hl (List.mem_append_left _ (List.mem_of_getElem? (i := 4) rfl))
theorem LH.x {q : Nat} {e : va_E} (hl : LH ct pa pf pt pl pw hc [(q, e)] A F T L V h) : h q = some e := SPL.at hl (List.mem_append_right _ List.mem_cons_self)
theorem LH.ua (hl : LH ct pa pf pt pl pw hc X A F T L V h) (A' : Nat → Int32) : LH ct pa pf pt pl pw hc X A' F T L V (hup h pa (.inl (ct 0, 36, .inl A'))) := by
  have hl : SPL h hc ((LW ct pa pf pt pl pw A F T L V).take 0 ++ (pa, .inl (ct 0, 36, .inl A)) :: ((LW ct pa pf pt pl pw A F T L V).drop 1 ++ X)) := hl
  exact hl.up (.inl (ct 0, 36, .inl A'))
theorem LH.uf (hl : LH ct pa pf pt pl pw hc X A F T L V h) (F' : Nat → Int32) : LH ct pa pf pt pl pw hc X A F' T L V (hup h pf (.inl (ct 0, 56, .inl F'))) := by
  have hl : SPL h hc ((LW ct pa pf pt pl pw A F T L V).take 1 ++ (pf, .inl (ct 0, 56, .inl F)) :: ((LW ct pa pf pt pl pw A F T L V).drop 2 ++ X)) := hl
  exact hl.up (.inl (ct 0, 56, .inl F'))
theorem LH.ut (hl : LH ct pa pf pt pl pw hc X A F T L V h) (T' : Nat → Int32) : LH ct pa pf pt pl pw hc X A F T' L V (hup h pt (.inl (ct 0, 8, .inl T'))) := by
  have hl : SPL h hc ((LW ct pa pf pt pl pw A F T L V).take 2 ++ (pt, .inl (ct 0, 8, .inl T)) :: ((LW ct pa pf pt pl pw A F T L V).drop 3 ++ X)) := hl
  exact hl.up (.inl (ct 0, 8, .inl T'))
theorem LH.ul (hl : LH ct pa pf pt pl pw hc X A F T L V h) (L' : Nat → Int64) : LH ct pa pf pt pl pw hc X A F T L' V (hup h pl (.inl (ct 1, 2, .inr (.inl L')))) := by
  have hl : SPL h hc ((LW ct pa pf pt pl pw A F T L V).take 3 ++ (pl, .inl (ct 1, 2, .inr (.inl L))) :: ((LW ct pa pf pt pl pw A F T L V).drop 4 ++ X)) := hl
  exact hl.up (.inl (ct 1, 2, .inr (.inl L')))
theorem LH.uw (hl : LH ct pa pf pt pl pw hc X A F T L V h) (V' : Nat → Int64) : LH ct pa pf pt pl pw hc X A F T L V' (hup h pw (.inl (ct 1, 64, .inr (.inl V')))) := by
  have hl : SPL h hc ((LW ct pa pf pt pl pw A F T L V).take 4 ++ (pw, .inl (ct 1, 64, .inr (.inl V))) :: ((LW ct pa pf pt pl pw A F T L V).drop 5 ++ X)) := hl
  exact hl.up (.inl (ct 1, 64, .inr (.inl V')))
theorem LH.ux {q : Nat} {e : va_E} (hl : LH ct pa pf pt pl pw hc [(q, e)] A F T L V h) (e' : va_E) : LH ct pa pf pt pl pw hc [(q, e')] A F T L V (hup h q e') := SPL.up (w1 := LW ct pa pf pt pl pw A F T L V) (w2 := []) hl _
theorem LH.new (hl : LH ct pa pf pt pl pw hc [] A F T L V h) {q : Nat} (hq : h q = none) (e : va_E) : LH ct pa pf pt pl pw hc [(q, e)] A F T L V (hup h q e) := by
  have h1 : SPL h hc (LW ct pa pf pt pl pw A F T L V) := by
    have h2 : SPL h hc (LW ct pa pf pt pl pw A F T L V ++ []) := hl
    rwa [List.append_nil] at h2
  exact h1.new hq e
theorem LH.drop {q : Nat} {e : va_E} (hl : LH ct pa pf pt pl pw hc [(q, e)] A F T L V h) (h0 : OD ct a0 ax hc d) : LH ct pa pf pt pl pw (hup hc q e) [] A F T L V h ∧ OD ct a0 ax (hup hc q e) d := by
  obtain ⟨h1, h2⟩ := SPL.drop (w := LW ct pa pf pt pl pw A F T L V) hl
  refine ⟨?_, h0.new h2 e⟩
  show SPL h (hup hc q e) (LW ct pa pf pt pl pw A F T L V ++ [])
  rw [List.append_nil]
  exact h1
/-- reads and writes -/
theorem rdA {N : Nat} {p0 k : Nat} {f : Nat → Int32} {i v : Int32} (ha : h p0 = some (.inl (ct 0, N, .inl f))) (ei : i = nI k) (hk : k < N) (hN : N < 2 ^ 31) (hv : f k = v) {K : Int32 → Prop} (hK : K v) : ldI h p0 i (ct 0) K := by
  subst ei
  exact ⟨N, f, v, ha, inb_nI hk hN, by rw [nI_clamp (by omega)]; exact hv, hK⟩
theorem rdV {N : Nat} {p0 k : Nat} {f : Nat → Int64} {i : Int32} {v : Int64} (ha : h p0 = some (.inl (ct 1, N, .inr (.inl f)))) (ei : i = nI k) (hk : k < N) (hN : N < 2 ^ 31) (hv : f k = v) {K : Int64 → Prop} (hK : K v) : ldL h p0 i (ct 1) K := by
  subst ei
  exact ⟨N, f, v, ha, inb_nI hk hN, by rw [nI_clamp (by omega)]; exact hv, hK⟩
theorem wrA {N : Nat} {p0 k : Nat} {f : Nat → Int32} {i v : Int32} (ha : h p0 = some (.inl (ct 0, N, .inl f))) (ei : i = nI k) (hk : k < N) (hN : N < 2 ^ 31) {K : KH → Prop} (hK : K (hup h p0 (.inl (ct 0, N, .inl (upd f k v))))) : stI h p0 i (ct 0) v K := by
  subst ei
  exact ⟨N, f, ha, inb_nI hk hN, fun h1 e1 => by rw [nI_clamp (by omega)] at e1; rw [e1]; exact hK⟩
theorem wrV {N : Nat} {p0 k : Nat} {f : Nat → Int64} {i : Int32} {v : Int64} (ha : h p0 = some (.inl (ct 1, N, .inr (.inl f)))) (ei : i = nI k) (hk : k < N) (hN : N < 2 ^ 31) {K : KH → Prop} (hK : K (hup h p0 (.inl (ct 1, N, .inr (.inl (vp_updL f k v)))))) : stL h p0 i (ct 1) v K := by
  subst ei
  exact ⟨N, f, ha, inb_nI hk hN, fun h1 e1 => by rw [nI_clamp (by omega)] at e1; rw [e1]; exact hK⟩
end LHP
theorem bit1 {s t : Nat} (hs : s < 32) (ht : t < 5) (hb : bi s t = 1) : ((nI s >>> (nI t &&& 31)) &&& (1 : Int32)) = 1 := (bi_int s hs t ht).trans (by rw [hb]; rfl)
theorem bit0 {s t : Nat} (hs : s < 32) (ht : t < 5) (hb : bi s t ≠ 1) : ¬ ((nI s >>> (nI t &&& 31)) &&& (1 : Int32)) = 1 := fun z => hb (by
  have h1 : nI (bi s t) = nI 1 := (bi_int s hs t ht).symm.trans z
  have := bi_lt s t
  exact nI_inj31 (by omega) (by decide) h1)
theorem bit00 {s t : Nat} (hs : s < 32) (ht : t < 5) (hb : bi s t = 0) : ((nI s >>> (nI t &&& 31)) &&& (1 : Int32)) = 0 := (bi_int s hs t ht).trans (by rw [hb]; rfl)
theorem bit01 {s t : Nat} (hs : s < 32) (ht : t < 5) (hb : bi s t = 1) : ¬ ((nI s >>> (nI t &&& 31)) &&& (1 : Int32)) = 0 := fun z => by
  have h1 := (bit1 hs ht hb).symm.trans z
  exact absurd h1 (by decide)
