/-! a query that the law runs, whole -/
theorem FP.run {F : Nat → Int32} {x : PL} (h : FP F 0 x) {y : Int32} (hy : y = nI (x.2.2.2.1 + 1)) : FP (upd F 11 y) 0 (x.1, x.2.1, x.2.2.1, x.2.2.2.1 + 1, x.2.2.2.2) :=
  ⟨(if_neg (by decide)).trans h.1, fun k hk => (if_neg (by omega)).trans (h.2.1 k hk), fun t ht => (if_neg (by omega)).trans (h.2.2.1 t ht), (if_pos rfl).trans hy, (if_neg (by decide)).trans h.2.2.2.2⟩
section LR2
variable {ct : Nat → ClassId} {a0 ax : Nat} {pa pf pt pl pw : Nat} {hc : KH} {A F T : Nat → Int32} {L V : Nat → Int64} {h : KH} {d : DS}
variable {rw gs : Nat → Nat} {pr : Nat → Nat → Nat} {dl : Nat} {l : List PL} {cs : Nat → Nat}
/-- a hit: the plan is taken over -/
theorem l_run26 (h4 : l.length ≤ 4) (hR : RB rw gs pr dl l cs A F T) {i : Nat} {x : PL} (hi : l[i]? = some x) {q : Nat} {sh : Int32} {a5' : Nat} {Post : Int64 → KH → Prop} {x8 : Int64}
    (hk : ∀ F' T' Pn h', LH ct pa pf pt pl pw hc [(q, .inl (ct 0, 14, .inl Pn))] A F' T' L V h' → FP Pn 0 (x.1, x.2.1, x.2.2.1, x.2.2.2.1 + 1, x.2.2.2.2) → RB rw gs pr dl (l.eraseIdx i) (nu cs 0 (cs 0 + 1)) A F' T' → g_L_run_J213 ct a0 pa pf pt pl a5' sh Post q x8 h') : ∀ (n k : Nat) (Pn : Nat → Int32) (h : KH), k ≤ 14 → 14 < n + k → LH ct pa pf pt pl pw hc [(q, .inl (ct 0, 14, .inl Pn))] A F T L V h → (∀ j, j < k → Pn j = F (14 * i + j)) →
    g_L_run_L26 ct a0 pa pf pt pl a5' sh Post n (nI i) q x8 (nI k) h
  | 0, k, Pn, h, h1, h2, hl, e1 => by omega
  | n + 1, k, Pn, h, h1, h2, hl, e1 => by
    show g_L_run_L26b _ _ _ _ _ _ _ _ _ _ _ _ _ _ _
    unfold g_L_run_L26b
    obtain ⟨r1, r2, r3, r4, r5, r6⟩ := hR
    have hil := (List.getElem?_eq_some_iff.mp hi).1
    by_cases he : 14 ≤ k
    · have e0 : k = 14 := by omega
      subst e0
      rw [if_pos (show (14 : Int32) ≤ nI 14 by decide +kernel)]
      have hfp : FP Pn 0 x := (r4 i x hi).congr (fun c hc => by rw [Nat.zero_add]; exact e1 c (by omega))
      refine rdA hl.x (k := 11) rfl (by decide) (by decide) hfp.2.2.2.1 ?_
      refine wrA hl.x (k := 11) rfl (by decide) (by decide) ?_
      refine l_out h4 hil r5 (hl.ux _) (fun F' h' hl' g1 g2 => ?_)
      refine rdA hl'.t (k := 1) rfl (by decide) (by decide) ((if_neg (by decide)).trans r6.1) ?_
      refine wrA hl'.t (k := 1) rfl (by decide) (by decide) ?_
      refine hk F' _ _ _ (hl'.ut _) (hfp.run (nI_s1 _)) ⟨r1, r2, r3, r4.erase hil g1 g2, ?_, (r6.t0 _).u1 (nI_s1 _)⟩
      rw [List.length_eraseIdx_of_lt hil]
      exact (if_neg (by decide)).trans (if_pos rfl)
    · rw [if_neg (show ¬ (14 : Int32) ≤ nI k from nI_ge (b := 14) (by omega) (by decide))]
      refine rdA hl.f (k := 14 * i + k) (ix14 i k) (by omega) (by decide) rfl ?_
      refine wrA hl.x (k := k) rfl (by omega) (by decide) ?_
      rw [nI_s1]
      refine l_run26 h4 ⟨r1, r2, r3, r4, r5, r6⟩ hi hk n (k + 1) _ _ (by omega) (by omega) (hl.ux _) (fun j hj => ?_)
      rcases (show j < k ∨ j = k by omega) with z | z
      · exact (if_neg (by omega)).trans (e1 j z)
      · subst z; exact if_pos rfl
/-- a miss: one without a pin goes out if there is no room -/
theorem l_run165s (h4 : l.length ≤ 4) (hne : l.length ≠ 4) (hT : T 0 = nI l.length) {X : va_W} {q k : Nat} {sh : Int32} {a5' : Nat} {Post : Int64 → KH → Prop} {x8 : Int64} (hl : LH ct pa pf pt pl pw hc X A F T L V h)
    (hk4 : k ≤ 5) (hk : g_L_run_J213 ct a0 pa pf pt pl a5' sh Post q x8 h) (n : Nat) : g_L_run_L165 ct a0 pa pf pt pl a5' sh Post (n + 1) q x8 (nI k) h := by
  show g_L_run_L165b _ _ _ _ _ _ _ _ _ _ _ _ _ _
  unfold g_L_run_L165b
  refine rdA hl.t (k := 0) rfl (by decide) (by decide) hT ?_
  by_cases q1 : l.length ≤ k
  · rw [if_pos (nI_le q1 (by omega))]
    exact hk
  · rw [if_neg (nI_ge (by omega) (by omega))]
    refine rdA hl.t (k := 0) rfl (by decide) (by decide) hT ?_
    rw [if_neg (show ¬ nI l.length = (4 : Int32) from fun z => hne (nI_inj31 (b := 4) (by omega) (by decide) z))]
    exact hk
theorem l_run165 (h4 : l.length ≤ 4) (hR : RB rw gs pr dl l cs A F T) {X : va_W} {q : Nat} {sh : Int32} {a5' : Nat} {Post : Int64 → KH → Prop} {x8 : Int64} (hl : LH ct pa pf pt pl pw hc X A F T L V h) (h44 : l.length = 4) (hok : ∀ x ∈ l, POK x)
    (hk1 : fstL l < l.length → ∀ F' T' h', LH ct pa pf pt pl pw hc X A F' T' L V h' → RB rw gs pr dl (l.eraseIdx (fstL l)) (nu cs 5 (cs 5 + 1)) A F' T' → g_L_run_J213 ct a0 pa pf pt pl a5' sh Post q x8 h')
    (hk2 : ¬ fstL l < l.length → g_L_run_J213 ct a0 pa pf pt pl a5' sh Post q x8 h) : ∀ (n k : Nat), k ≤ 4 → 5 < n + k → (∀ j y, j < k → l[j]? = some y → y.2.2.2.2 ≠ 0) →
    g_L_run_L165 ct a0 pa pf pt pl a5' sh Post n q x8 (nI k) h
  | 0, k, h1, h2, hj => by omega
  | n + 1, k, h1, h2, hj => by
    show g_L_run_L165b _ _ _ _ _ _ _ _ _ _ _ _ _ _
    unfold g_L_run_L165b
    obtain ⟨r1, r2, r3, r4, r5, r6⟩ := hR
    refine rdA hl.t (k := 0) rfl (by decide) (by decide) r5 ?_
    by_cases q1 : l.length ≤ k
    · rw [if_pos (nI_le q1 (by omega))]
      refine hk2 ?_
      rw [fstL_none l (fun y hy => by
        obtain ⟨j, hj2⟩ := List.getElem?_of_mem hy
        exact hj j y (by have := (List.getElem?_eq_some_iff.mp hj2).1; omega) hj2)]
      omega
    · rw [if_neg (nI_ge (by omega) (by omega))]
      refine rdA hl.t (k := 0) rfl (by decide) (by decide) r5 ?_
      rw [if_pos (show nI l.length = (4 : Int32) by rw [h44]; rfl)]
      have hi : l[k]? = some l[k] := List.getElem?_eq_getElem (by omega)
      generalize l[k] = y at hi
      refine rdA hl.f (k := 14 * k + 12) (ix14 k 12) (by omega) (by decide) (r4 k y hi).2.2.2.2 ?_
      have hy2 := (hok y (List.mem_of_getElem? hi)).2.2.2.2
      by_cases q2 : y.2.2.2.2 = 0
      · rw [if_pos (show nI y.2.2.2.2 = (0 : Int32) by rw [q2]; rfl)]
        have hf := fstL_at l k y hi q2 hj
        refine l_out h4 (by omega) r5 hl (fun F' h' hl' g1 g2 => ?_)
        refine rdA hl'.t (k := 4) rfl (by decide) (by decide) ((if_neg (by decide)).trans r6.2.2.2.1) ?_
        refine wrA hl'.t (k := 4) rfl (by decide) (by decide) ?_
        rw [nI_s1]
        have hlt : fstL l < l.length := by omega
        have hlen : (l.eraseIdx (fstL l)).length = 3 := by rw [List.length_eraseIdx_of_lt hlt]; omega
        have hT' : upd (upd T 0 (nI (l.length - 1))) 4 (nI (cs 5) + 1) 0 = nI (l.eraseIdx (fstL l)).length := by
          rw [hlen]
          exact (if_neg (by decide)).trans ((if_pos rfl).trans (by rw [h44]))
        have hl2 := hl'.ut (upd (upd T 0 (nI (l.length - 1))) 4 (nI (cs 5) + 1))
        cases n with
        | zero => omega
        | succ n =>
          refine l_run165s (l := l.eraseIdx (fstL l)) (by omega) (by omega) hT' hl2 (k := k + 1) (by omega) ?_ n
          refine hk1 hlt F' _ _ hl2 ⟨r1, r2, r3, ?_, hT', (r6.t0 _).u4 (nI_s1 _)⟩
          rw [hf]
          exact r4.erase (by omega) g1 g2
      · rw [if_neg (nI_ne0 (by omega) (by omega)), nI_s1]
        refine l_run165 h4 ⟨r1, r2, r3, r4, r5, r6⟩ hl h44 hok hk1 hk2 n (k + 1) (by omega) (by omega) (fun j z hjk hz => ?_)
        rcases (show j < k ∨ j = k by omega) with w | w
        · exact hj j z w hz
        · subst w
          rw [hi] at hz
          cases hz
          exact q2
/-- a miss: the new plan -/
theorem l_run94 {sh : Nat} (hsh : sh < 32) {p : List Nat} (hg : ∀ t, t < 5 → A (5 + t) = nI (gs t)) {q : Nat} {a5' : Nat} {Post : Int64 → KH → Prop} (hT2 : T 2 = nI (cs 1))
    (hk : ∀ Pn h', LH ct pa pf pt pl pw hc [(q, .inl (ct 0, 14, .inl Pn))] A F (upd T 2 (nI (cs 1 + 1))) L V h' → FP Pn 0 (sh, p, gs, 1, 0) → g_L_run_L165 ct a0 pa pf pt pl a5' (nI sh) Post 1024 q (lN (10 * pc sh)) (0 : Int32) h') : ∀ (n m : Nat) (x10 : Int32) (Pn : Nat → Int32) (h : KH), x10 = nI m + (-1 : Int32) → m ≤ 5 → m < n → LH ct pa pf pt pl pw hc [(q, .inl (ct 0, 14, .inl Pn))] A F T L V h → (∀ j, j < m → Pn j = if j < p.length then nI (p.getD j 0) else -4) → (∀ j, m ≤ j → j < 5 → Pn (1 + j) = (if j < p.length then nI (p.getD j 0) else -4) ∧ Pn (6 + j) = nI (gs j)) → Pn 12 = 0 →
    g_L_run_L94 ct a0 pa pf pt pl a5' (nI sh) Post n q x10 h
  | 0, m, x10, Pn, h, e10, h1, h2, hl, e1, e2, e3 => by omega
  | n + 1, m, x10, Pn, h, e10, h1, h2, hl, e1, e2, e3 => by
    show g_L_run_L94b _ _ _ _ _ _ _ _ _ _ _ _ _
    unfold g_L_run_L94b
    by_cases hm0 : m = 0
    · subst hm0
      rw [if_pos (show x10 < (0 : Int32) by rw [e10]; exact m1_lt)]
      refine wrA hl.x (k := 0) rfl (by decide) (by decide) ?_
      have hl1 := hl.ux (.inl (ct 0, 14, .inl (upd Pn 0 (nI sh))))
      refine wrA hl1.x (k := 11) rfl (by decide) (by decide) ?_
      have hl2 := hl1.ux (.inl (ct 0, 14, .inl (upd (upd Pn 0 (nI sh)) 11 1)))
      refine l_tables hsh ?_
      refine rdA hl2.t (k := 2) rfl (by decide) (by decide) hT2 ?_
      refine wrA hl2.t (k := 2) rfl (by decide) (by decide) ?_
      have h5 := pc_le sh hsh
      rw [nI_s1, nI_l (by omega), show (10 : Int64) = lN 10 from rfl, lN_mul]
      refine hk _ _ (hl2.ut _) ⟨(if_neg (by decide)).trans (if_pos rfl), fun k hk => ?_, fun t ht => ?_, if_pos rfl, (if_neg (by decide)).trans ((if_neg (by decide)).trans e3)⟩
      · rw [Nat.zero_add]
        exact (if_neg (by omega)).trans ((if_neg (by omega)).trans (e2 k (Nat.zero_le _) hk).1)
      · rw [Nat.zero_add]
        exact (if_neg (by omega)).trans ((if_neg (by omega)).trans (e2 t (Nat.zero_le _) ht).2)
    · have e6 : x10 = nI (m - 1) := by rw [e10, dec32 m (by omega) hm0]
      generalize hkm : m - 1 = k at e6
      have hmk : m = k + 1 := by omega
      subst hmk
      clear e10
      subst e6
      rw [if_neg (show ¬ nI k < (0 : Int32) from nI_pos (by omega))]
      refine rdA hl.x (k := k) rfl (by omega) (by decide) (e1 k (by omega)) ?_
      refine wrA hl.x (k := 1 + k) (lit_add 1 k) (by omega) (by decide) ?_
      have hl1 := hl.ux (.inl (ct 0, 14, .inl (upd Pn (1 + k) (if k < p.length then nI (p.getD k 0) else -4))))
      refine rdA hl1.a (k := 5 + k) (lit_add 5 k) (by omega) (by decide) (hg k (by omega)) ?_
      refine wrA hl1.x (k := 6 + k) (lit_add 6 k) (by omega) (by decide) ?_
      refine l_run94 hsh hg hT2 hk n k _ _ _ rfl (by omega) (by omega) (hl1.ux _) (fun j hj => (if_neg (by omega)).trans ((if_neg (by omega)).trans (e1 j (by omega)))) (fun j hj hj5 => ?_) ((if_neg (by omega)).trans ((if_neg (by omega)).trans e3))
      rcases (show k + 1 ≤ j ∨ j = k by omega) with z | z
      · exact ⟨(if_neg (by omega)).trans ((if_neg (by omega)).trans (e2 j z hj5).1), (if_neg (by omega)).trans ((if_neg (by omega)).trans (e2 j z hj5).2)⟩
      · subst z
        exact ⟨(if_neg (by omega)).trans (if_pos rfl), if_pos rfl⟩
theorem l_run (hI : IV d) {sh : Nat} (hsh : sh < 32) (h0 : 1 ≤ sh) (hO : OD ct a0 ax hc d) (hl : LH ct pa pf pt pl pw hc [] A F T L V h) (hR : RA d A F T L) {Post : Int64 → KH → Prop}
    (hP : ∀ hc' A' F' T' L' V' h', LH ct pa pf pt pl pw hc' [] A' F' T' L' V' h' → OD ct a0 ax hc' d → RA (runD d sh) A' F' T' L' → Post (lN (runC d sh)) h') : g_L_run ct a0 pa pf pt pl pw (nI sh) h Post := by
  have hS := hI.1
  have h4 := hS.2.2.2.2.1
  have hS2 := runA_S2 hS hsh (by omega : sh ≠ 0)
  obtain ⟨hRB, hL0, hL1⟩ := hR
  have hRB0 := hRB
  obtain ⟨r1, r2, r3, r4, r5, r6⟩ := hRB0
  unfold g_L_run
  refine l_place hl.f hl.t r5 h4 r4 (fun x hx => (hS.2.2.2.1 x hx).2.1) hsh (fun i x hi hx => ?_) (fun hno => ?_)
  · intro q h2 hq e2
    subst e2
    have hl2 := hl.new hq (.inl (ct 0, 14, .inl (fun _ => 0)))
    have hil := (List.getElem?_eq_some_iff.mp hi).1
    have hidx := idxS_some (sh := sh) d.2.2.2.1 i x hI.2.2.1 hi hx
    have hA : runA d sh = (x.2.1, 0, used d i x) := by unfold runA; rw [hidx, hi]
    have hok := hS.2.2.2.1 x (List.mem_of_getElem? hi)
    rw [hA] at hS2
    rw [if_neg (show ¬ nI i < (0 : Int32) from nI_pos (by omega))]
    refine l_run26 h4 hRB hi (fun F' T' Pn h' hl' hPn hR' => ?_) 1024 0 _ _ (by decide) (by decide) hl2 (fun j hj => by omega)
    have hlen : (d.2.2.2.1.eraseIdx i).length ≤ 3 := by rw [List.length_eraseIdx_of_lt hil]; omega
    refine l_run213 hS.1 hS.2.2.1 (by omega) hR' (x := (x.1, x.2.1, x.2.2.1, x.2.2.2.1 + 1, x.2.2.2.2)) hok hPn hl' (fun _ F'' T'' h'' hl'' hR'' => ?_) (fun z => absurd (by omega) z)
    refine l_run280 (d1 := used d i x) (mk := 0) hsh hS2 hl'' ?_ ?_ hR'' (fun A3 F3 T3 L3 h3 hl3 hR3 => ?_)
    · exact hL0.trans (congrArg lN (show nu d.2.2.2.2.2 0 (d.2.2.2.2.2 0 + 1) 2 = d.2.2.2.2.2 2 from nu_n (by decide)).symm)
    · rw [hL1, lN_add]
      exact congrArg lN (show nu d.2.2.2.2.2 0 (d.2.2.2.2.2 0 + 1) 3 = d.2.2.2.2.2 3 from nu_n (by decide)).symm
    · obtain ⟨hl4, hO4⟩ := hl3.drop hO
      have hPP := hP _ A3 F3 T3 L3 _ h3 hl4 hO4
      unfold runD runC at hPP
      rw [hA] at hPP
      rw [Nat.add_comm]
      exact hPP hR3
  · intro q h2 hq e2
    subst e2
    have hl2 := hl.new hq (.inl (ct 0, 14, .inl (fun _ => 0)))
    have hnone := idxS_none (sh := sh) d.2.2.2.1 hno
    have hA : runA d sh = (bestP (szN d.2.1 d.2.2.1) sh, 10 * pc sh, keptNew d (sh, bestP (szN d.2.1 d.2.2.1) sh, d.2.1, 1, 0) (10 * pc sh)) := by unfold runA; rw [hnone]
    have hbp := (bestP_bst (szN d.2.1 d.2.2.1) hsh).1
    have hok : POK (sh, bestP (szN d.2.1 d.2.2.1) sh, d.2.1, 1, 0) := ⟨h0, hsh, hbp, hS.2.1, (by decide : (0 : Nat) < 2)⟩
    rw [hA] at hS2
    rw [if_pos (show (-1 : Int32) < 0 by decide)]
    refine l_best (b := 5) (N := 14) r2 (Nat.le_refl _) hS.2.1 hS.2.2.1 (by decide) (by decide) hsh hl2 (fun Pn V' h3 hl3 hPn => ?_)
    refine l_run94 (cs := d.2.2.2.2.2) (p := bestP (szN d.2.1 d.2.2.1) sh) hsh r2.1 r6.2.1 (fun Pn' h4' hl4 hFP => ?_) 1024 5 (4 : Int32) Pn h3 (by decide +kernel) (Nat.le_refl _) (by decide) hl3 hPn.1 (fun j h1 h2 => by omega) (hPn.2 12 (by decide))
    have fin : ∀ (d1 : DS) (A3 F3 T3 : Nat → Int32) (h5 : KH), d1 = keptNew d (sh, bestP (szN d.2.1 d.2.2.1) sh, d.2.1, 1, 0) (10 * pc sh) → LH ct pa pf pt pl pw hc [(q, .inl (ct 0, 14, .inl Pn'))] A3 F3 T3 L V' h5 → RB d1.1 d1.2.1 d1.2.2.1 d1.2.2.2.2.1 d1.2.2.2.1 d1.2.2.2.2.2 A3 F3 T3 → g_L_run_J280 ct a0 pa pf pt pl pw (nI sh) Post (lN (10 * pc sh)) (lN (costN (szN d.1 d.2.2.1) (bestP (szN d.2.1 d.2.2.1) sh))) h5 := fun d1 A3 F3 T3 h5 ed hl5 hR5 => by
      obtain ⟨k1, k2, k3, k4, k5, k6⟩ := keptNew_e d (sh, bestP (szN d.2.1 d.2.2.1) sh, d.2.1, 1, 0) (10 * pc sh)
      rw [← ed] at hS2 hA k5 k6
      refine l_run280 (d1 := d1) (mk := 10 * pc sh) hsh hS2 hl5 (by rw [k5]; exact hL0) (by rw [k6, hL1, lN_add]) hR5 (fun A6 F6 T6 L6 h6 hl6 hR6 => ?_)
      obtain ⟨hl7, hO7⟩ := hl6.drop hO
      have hPP := hP _ A6 F6 T6 L6 _ h6 hl7 hO7
      unfold runD runC at hPP
      rw [hA] at hPP
      rw [Nat.add_comm]
      exact hPP hR6
    have hR4 : RB d.1 d.2.1 d.2.2.1 d.2.2.2.2.1 d.2.2.2.1 (nu (nu d.2.2.2.2.2 1 (d.2.2.2.2.2 1 + 1)) 3 (d.2.2.2.2.2 3 + 10 * pc sh)) A F (upd T 2 (nI (d.2.2.2.2.2 1 + 1))) := ⟨r1, r2, r3, r4, (if_neg (by decide)).trans r5, (r6.u2 rfl).n3 _⟩
    by_cases q4 : d.2.2.2.1.length = 4
    · refine l_run165 h4 hR4 hl4 q4 hS.2.2.2.1 (fun hlt F5 T5 h5 hl5 hR5 => ?_) (fun hge => ?_) 1024 0 (Nat.zero_le _) (by decide) (fun j y hj => absurd hj (Nat.not_lt_zero _))
      · have hlen : (d.2.2.2.1.eraseIdx (fstL d.2.2.2.1)).length = 3 := by rw [List.length_eraseIdx_of_lt hlt]; omega
        refine l_run213 hS.1 hS.2.2.1 (by omega) hR5 hok hFP hl5 (fun _ F6 T6 h6 hl6 hR6 => ?_) (fun z => absurd (by omega) z)
        refine fin (d.1, d.2.1, d.2.2.1, d.2.2.2.1.eraseIdx (fstL d.2.2.2.1) ++ [(sh, bestP (szN d.2.1 d.2.2.1) sh, d.2.1, 1, 0)], d.2.2.2.2.1, nu (nu (nu d.2.2.2.2.2 1 (d.2.2.2.2.2 1 + 1)) 3 (d.2.2.2.2.2 3 + 10 * pc sh)) 5 ((nu (nu d.2.2.2.2.2 1 (d.2.2.2.2.2 1 + 1)) 3 (d.2.2.2.2.2 3 + 10 * pc sh)) 5 + 1)) A F6 T6 h6 ?_ hl6 hR6
        unfold keptNew
        rw [if_neg (by omega), if_pos hlt, nu_n (by decide), nu_n (by decide)]
      · refine l_run213 hS.1 hS.2.2.1 h4 hR4 hok hFP hl4 (fun z => absurd z (by omega)) (fun _ T6 h6 hl6 hR6 => ?_)
        refine fin (d.1, d.2.1, d.2.2.1, d.2.2.2.1, d.2.2.2.2.1, nu (nu (nu d.2.2.2.2.2 1 (d.2.2.2.2.2 1 + 1)) 3 (d.2.2.2.2.2 3 + 10 * pc sh)) 8 ((nu (nu d.2.2.2.2.2 1 (d.2.2.2.2.2 1 + 1)) 3 (d.2.2.2.2.2 3 + 10 * pc sh)) 8 + 1)) A F T6 h6 ?_ hl6 hR6
        unfold keptNew
        rw [if_neg (by omega), if_neg hge, nu_n (by decide), nu_n (by decide)]
    · refine l_run165s h4 q4 hR4.2.2.2.2.1 hl4 (k := 0) (by decide) ?_ 1023
      refine l_run213 hS.1 hS.2.2.1 h4 hR4 hok hFP hl4 (fun _ F6 T6 h6 hl6 hR6 => ?_) (fun z => absurd (by omega) z)
      refine fin (d.1, d.2.1, d.2.2.1, d.2.2.2.1 ++ [(sh, bestP (szN d.2.1 d.2.2.1) sh, d.2.1, 1, 0)], d.2.2.2.2.1, (nu (nu d.2.2.2.2.2 1 (d.2.2.2.2.2 1 + 1)) 3 (d.2.2.2.2.2 3 + 10 * pc sh))) A F6 T6 h6 ?_ hl6 hR6
      unfold keptNew
      rw [if_pos (by omega)]
end LR2
