/-! what is told, what is best -/
theorem max_if {a b : Nat} : (if a ≤ b then b else a) = max a b := by
  by_cases q : a ≤ b
  · rw [if_pos q, Nat.max_eq_right q]
  · rw [if_neg q, Nat.max_eq_left (by omega)]
section LTL
variable {ct : Nat → ClassId} {a0 ax : Nat} {pa pf pt pl pw : Nat} {A F T : Nat → Int32} {L V : Nat → Int64} {d : DS}
theorem l_told295 (hR : RA d A F T L) {k : Nat} (hk5 : k < 5) {a5' : Nat} {a6 : Int32} {Post : Int32 → KH → Prop} {k137 : Int32 → Int32 → KH → Prop}
    (hk : ∀ hc h, LH ct pa pf pt pl pw hc [] A F T L V h → OD ct a0 ax hc d → k137 (1 : Int32) (nI (k + 1)) h) : ∀ (n j : Nat) (hc h : KH), j ≤ 5 → 5 < n + j → LH ct pa pf pt pl pw hc [] A F T L V h → OD ct a0 ax hc d →
    g_L_areTold_L295 ct a0 ax pa pf pt a5' a6 Post k137 n (1 : Int32) (nI k) (nI j) h
  | 0, j, hc, h, h1, h2, hl, hO => by omega
  | n + 1, j, hc, h, h1, h2, hl, hO => by
    show g_L_areTold_L295b _ _ _ _ _ _ _ _ _ _ _ _ _ _ _
    unfold g_L_areTold_L295b
    obtain ⟨⟨r1, r2, r3, r4, r5, r6⟩, r7, r8⟩ := hR
    by_cases he : 5 ≤ j
    · have e0 : j = 5 := by omega
      subst e0
      rw [if_pos (show (5 : Int32) ≤ nI 5 by decide +kernel), nI_s1]
      exact hk hc h hl hO
    · have hj : j < 5 := by omega
      rw [if_neg (show ¬ (5 : Int32) ≤ nI j from nI_ge (b := 5) (by omega) (by decide)), if_neg (show ¬ (1 : Int32) = 0 by decide)]
      refine SPL.frc hl hO (fun P hP => q_partOf hO hk5 hj hP) (fun h1 hc1 hl1 hO1 => ?_)
      have ih := l_told295 ⟨⟨r1, r2, r3, r4, r5, r6⟩, r7, r8⟩ hk5 (a5' := a5') (a6 := a6) (Post := Post) hk n (j + 1) hc1 h1 (by omega) (by omega) hl1 hO1
      by_cases q : k = j
      · subst q
        rw [if_pos rfl, if_pos (if_pos rfl), nI_s1]
        exact ih
      · rw [if_neg (show ¬ nI j = nI k from fun z => q (nI_inj31 (by omega) (by omega) z).symm)]
        refine rdA (LH.a hl1) (k := 10 + 5 * k + j) (ix1 k j) (by omega) (by decide) (r1.2 k j hk5 hj) ?_
        rw [if_pos (if_neg q), nI_s1]
        exact ih
theorem l_told206 (hR : RA d A F T L) {k : Nat} (hk5 : k < 5) {a5' : Nat} {a6 : Int32} {Post : Int32 → KH → Prop} {k137 : Int32 → Int32 → KH → Prop} {hc h : KH} (hl : LH ct pa pf pt pl pw hc [] A F T L V h) (hO : OD ct a0 ax hc d) {t0 : Int32} (ht0 : t0 = nI (max (d.1 k) (d.2.1 k)))
    (hk : ∀ hc h, LH ct pa pf pt pl pw hc [] A F T L V h → OD ct a0 ax hc d → k137 (1 : Int32) (nI (k + 1)) h) : g_L_areTold_J206 ct a0 ax pa pf pt a5' a6 Post k137 (1 : Int32) (nI k) (nI (sumL (fun x : PL => bi x.1 k) d.2.2.2.1)) t0 h := by
  subst ht0
  have hR0 := hR
  obtain ⟨⟨r1, r2, r3, r4, r5, r6⟩, r7, r8⟩ := hR0
  have hS := hO.I.1
  have n1 := hS.1 k hk5
  have n2 := hS.2.1 k hk5
  have ek := r1.1 k hk5
  rw [Nat.zero_add] at ek
  unfold g_L_areTold_J206
  rw [if_neg (show ¬ (1 : Int32) = 0 by decide)]
  refine SPL.frc hl hO (fun P hP => q_table0 hO hk5 hP) (fun h1 hc1 hl1 hO1 => ?_)
  refine rdA (LH.a hl1) (k := k) rfl (by omega) (by decide) ek ?_
  rw [if_pos rfl]
  refine SPL.frc hl1 hO1 (fun P hP => q_table1 hO1 hk5 hP) (fun h2 hc2 hl2 hO2 => ?_)
  refine rdA (LH.a hl2) (k := 5 + k) (lit_add 5 k) (by omega) (by decide) (r2.1 k hk5) ?_
  rw [if_pos rfl]
  refine SPL.frc hl2 hO2 (fun P hP => q_table2 hO2 hk5 hP) (fun h3 hc3 hl3 hO3 => ?_)
  refine rdA (LH.a hl3) (k := k) rfl (by omega) (by decide) ek ?_
  refine rdA (LH.a hl3) (k := 5 + k) (lit_add 5 k) (by omega) (by decide) (r2.1 k hk5) ?_
  have hmm : max (d.1 k) (d.2.1 k) ≤ d.1 k + d.2.1 k := Nat.max_le.mpr ⟨by omega, by omega⟩
  have hmn : d.1 k + d.2.1 k - max (d.1 k) (d.2.1 k) = min (d.1 k) (d.2.1 k) := by omega
  have hm1 : 1 ≤ min (d.1 k) (d.2.1 k) := Nat.le_min.mpr ⟨n1.1, n2.1⟩
  have hm2 : min (d.1 k) (d.2.1 k) ≤ 500 := Nat.le_trans (Nat.min_le_left _ _) n1.2
  have hm3 : max (d.1 k) (d.2.1 k) ≤ 500 := Nat.max_le.mpr ⟨n1.2, n2.2⟩
  have ed : (nI (d.1 k) + nI (d.2.1 k)) - nI (max (d.1 k) (d.2.1 k)) = nI (min (d.1 k) (d.2.1 k)) := by rw [nI_add, pk_sub hmm, hmn]
  refine ⟨fun z => nI_ne0 (show 0 < min (d.1 k) (d.2.1 k) from hm1) (by omega) (ed.symm.trans z), ?_⟩
  have ev : nI (max (d.1 k) (d.2.1 k) * 100 / min (d.1 k) (d.2.1 k)) = ((100 : Int32) * nI (max (d.1 k) (d.2.1 k))) / ((nI (d.1 k) + nI (d.2.1 k)) - nI (max (d.1 k) (d.2.1 k))) := by
    rw [ed, show (100 : Int32) = nI 100 from rfl, pk_mul, pk_div (by omega) hm1 (by omega), Nat.mul_comm]
  rw [if_pos ev]
  refine SPL.frc hl3 hO3 (fun P hP => q_table3 hO3 hk5 hP) (fun h4 hc4 hl4 hO4 => ?_)
  rw [if_pos rfl]
  exact l_told295 hR hk5 hk 1024 0 hc4 h4 (by decide) (by decide) hl4 hO4
theorem l_told149 (hR : RA d A F T L) {k : Nat} (hk5 : k < 5) {a5' : Nat} {a6 : Int32} {Post : Int32 → KH → Prop} {k137 : Int32 → Int32 → KH → Prop} {hc h : KH} (hl : LH ct pa pf pt pl pw hc [] A F T L V h) (hO : OD ct a0 ax hc d)
    (hk : ∀ hc h, LH ct pa pf pt pl pw hc [] A F T L V h → OD ct a0 ax hc d → k137 (1 : Int32) (nI (k + 1)) h) : ∀ (n i : Nat), i ≤ d.2.2.2.1.length → d.2.2.2.1.length < n + i →
    g_L_areTold_L149 ct a0 ax pa pf pt a5' a6 Post k137 n (1 : Int32) (nI k) (nI (sumL (fun x : PL => bi x.1 k) (d.2.2.2.1.take i))) (nI i) h
  | 0, i, h1, h2 => by omega
  | n + 1, i, h1, h2 => by
    show g_L_areTold_L149b _ _ _ _ _ _ _ _ _ _ _ _ _ _ _ _
    unfold g_L_areTold_L149b
    have hR0 := hR
    obtain ⟨⟨r1, r2, r3, r4, r5, r6⟩, r7, r8⟩ := hR0
    have hS := hO.I.1
    have h4 := hS.2.2.2.2.1
    have n1 := hS.1 k hk5
    have n2 := hS.2.1 k hk5
    have ek := r1.1 k hk5
    rw [Nat.zero_add] at ek
    refine rdA hl.t (k := 0) rfl (by decide) (by decide) r5 ?_
    by_cases q : d.2.2.2.1.length ≤ i
    · have e0 : i = d.2.2.2.1.length := by omega
      subst e0
      rw [if_pos (nI_le q (by omega)), List.take_length]
      refine rdA hl.a (k := k) rfl (by omega) (by decide) ek ?_
      refine rdA hl.a (k := 5 + k) (lit_add 5 k) (by omega) (by decide) (r2.1 k hk5) ?_
      by_cases q2 : d.1 k ≤ d.2.1 k
      · rw [if_pos (nI_le q2 (by omega))]
        refine rdA hl.a (k := 5 + k) (lit_add 5 k) (by omega) (by decide) (r2.1 k hk5) ?_
        exact l_told206 hR hk5 hl hO (by rw [Nat.max_eq_right q2]) hk
      · rw [if_neg (nI_ge (by omega) (by omega))]
        refine rdA hl.a (k := k) rfl (by omega) (by decide) ek ?_
        exact l_told206 hR hk5 hl hO (by rw [Nat.max_eq_left (by omega)]) hk
    · rw [if_neg (nI_ge (by omega) (by omega))]
      have hi : d.2.2.2.1[i]? = some d.2.2.2.1[i] := List.getElem?_eq_getElem (by omega)
      generalize d.2.2.2.1[i] = x at hi
      have hFx := r4 i x hi
      have hok := hS.2.2.2.1 x (List.mem_of_getElem? hi)
      refine rdA hl.f (k := 14 * i) (ix14o i) (by omega) (by decide) hFx.1 ?_
      rw [show ((nI x.1 >>> (nI k &&& 31)) &&& (1 : Int32)) = nI (bi x.1 k) from bi_int _ hok.2.1 k hk5, nI_add, nI_s1, ← sumL_take (fun x : PL => bi x.1 k) hi]
      exact l_told149 hR hk5 hl hO hk n (i + 1) (by omega) (by omega)
theorem l_told137 (hR : RA d A F T L) {s : Nat} (hs : s < 32) (s1 : 1 ≤ s) {a5' : Nat} {Post : Int32 → KH → Prop}
    (hP : ∀ hc h, LH ct pa pf pt pl pw hc [] A F T L V h → OD ct a0 ax hc d → Post 1 h) : ∀ (n k : Nat) (hc h : KH), k ≤ 5 → 5 < n + k → LH ct pa pf pt pl pw hc [] A F T L V h → OD ct a0 ax hc d →
    g_L_areTold_L137 ct a0 ax pa pf pt a5' (nI s) Post n (1 : Int32) (nI k) h
  | 0, k, hc, h, h1, h2, hl, hO => by omega
  | n + 1, k, hc, h, h1, h2, hl, hO => by
    show g_L_areTold_L137b _ _ _ _ _ _ _ _ _ _ _ _ _
    unfold g_L_areTold_L137b
    have hR0 := hR
    obtain ⟨⟨r1, r2, r3, r4, r5, r6⟩, r7, r8⟩ := hR0
    have hS := hO.I.1
    have h4 := hS.2.2.2.2.1
    by_cases he : 5 ≤ k
    · have e0 : k = 5 := by omega
      subst e0
      rw [if_pos (show (5 : Int32) ≤ nI 5 by decide +kernel), if_neg (show ¬ (1 : Int32) = 0 by decide)]
      refine l_place hl.f hl.t r5 h4 r4 (fun x hx => (hS.2.2.2.1 x hx).2.1) hs (fun i x hi hx => ?_) (fun hno => ?_)
      · have hil := (List.getElem?_eq_some_iff.mp hi).1
        rw [if_pos (show (0 : Int32) ≤ nI i from nI_le (a := 0) (Nat.zero_le _) (by omega))]
        exact hP hc h hl hO
      · rw [if_neg (show ¬ (0 : Int32) ≤ -1 by decide)]
        refine SPL.frc hl hO (fun P hP => q_planN hO hs s1 hno hP) (fun h1 hc1 hl1 hO1 => ?_)
        rw [if_pos rfl]
        exact hP hc1 h1 hl1 hO1
    · rw [if_neg (show ¬ (5 : Int32) ≤ nI k from nI_ge (b := 5) (by omega) (by decide))]
      exact l_told149 hR (by omega) hl hO (fun hc1 h1 hl1 hO1 => l_told137 hR hs s1 hP n (k + 1) hc1 h1 (by omega) (by omega) hl1 hO1) 1024 0 (Nat.zero_le _) (by omega)
theorem l_areTold (hR : RA d A F T L) (hCB : CB 1000000000 d) {s : Nat} (hs : s < 32) (s1 : 1 ≤ s) {hc h : KH} (hl : LH ct pa pf pt pl pw hc [] A F T L V h) (hO : OD ct a0 ax hc d) {Post : Int32 → KH → Prop}
    (hP : ∀ hc h, LH ct pa pf pt pl pw hc [] A F T L V h → OD ct a0 ax hc d → Post 1 h) : g_L_areTold ct a0 ax pa pf pt pl (nI s) h Post := by
  have hR0 := hR
  obtain ⟨⟨r1, r2, r3, r4, r5, r6⟩, r7, r8⟩ := hR0
  obtain ⟨t1, t2, t3, t4, t5, t6, t7⟩ := r6
  have hcb := hCB.2
  unfold g_L_areTold
  refine SPL.frc hl hO (fun P hP => q_c2 hO hP) (fun h1 hc1 hl1 hO1 => ?_)
  refine rdA (LH.a hl1) (k := 35) rfl (by decide) (by decide) r3 ?_
  rw [if_pos rfl]
  refine SPL.frc hl1 hO1 (fun P hP => q_c3 hO1 hP) (fun h2 hc2 hl2 hO2 => ?_)
  refine rdA (LH.t hl2) (k := 1) rfl (by decide) (by decide) t1 ?_
  rw [if_pos (tv_sm (hcb 0 (by decide) (by decide)))]
  refine SPL.frc hl2 hO2 (fun P hP => q_c4 hO2 hP) (fun h3 hc3 hl3 hO3 => ?_)
  refine rdA (LH.t hl3) (k := 2) rfl (by decide) (by decide) t2 ?_
  rw [if_pos (tv_sm (hcb 1 (by decide) (by decide)))]
  refine SPL.frc hl3 hO3 (fun P hP => q_c5 hO3 hP) (fun h4 hc4 hl4 hO4 => ?_)
  refine rdV (LH.l hl4) (k := 0) rfl (by decide) (by decide) r7 ?_
  refine l_cut ?_
  rw [if_pos rfl]
  refine SPL.frc hl4 hO4 (fun P hP => q_c6 hO4 hP) (fun h5 hc5 hl5 hO5 => ?_)
  refine rdV (LH.l hl5) (k := 1) rfl (by decide) (by decide) r8 ?_
  refine l_cut ?_
  rw [if_pos rfl]
  refine SPL.frc hl5 hO5 (fun P hP => q_c7 hO5 hP) (fun h6 hc6 hl6 hO6 => ?_)
  refine rdA (LH.t hl6) (k := 3) rfl (by decide) (by decide) t3 ?_
  rw [if_pos (tv_sm (hcb 4 (by decide) (by decide)))]
  refine SPL.frc hl6 hO6 (fun P hP => q_c8 hO6 hP) (fun h7 hc7 hl7 hO7 => ?_)
  refine rdA (LH.t hl7) (k := 4) rfl (by decide) (by decide) t4 ?_
  rw [if_pos (tv_sm (hcb 5 (by decide) (by decide)))]
  refine SPL.frc hl7 hO7 (fun P hP => q_c9 hO7 hP) (fun h8 hc8 hl8 hO8 => ?_)
  refine rdA (LH.t hl8) (k := 5) rfl (by decide) (by decide) t5 ?_
  rw [if_pos (tv_sm (hcb 6 (by decide) (by decide)))]
  refine SPL.frc hl8 hO8 (fun P hP => q_c10 hO8 hP) (fun h9 hc9 hl9 hO9 => ?_)
  refine rdA (LH.t hl9) (k := 6) rfl (by decide) (by decide) t6 ?_
  rw [if_pos (tv_sm (hcb 7 (by decide) (by decide)))]
  refine SPL.frc hl9 hO9 (fun P hP => q_c11 hO9 hP) (fun h10 hc10 hl10 hO10 => ?_)
  refine rdA (LH.t hl10) (k := 7) rfl (by decide) (by decide) t7 ?_
  rw [if_pos (tv_sm (hcb 8 (by decide) (by decide)))]
  exact l_told137 hR hs s1 hP 1024 0 _ _ (by decide) (by decide) hl10 hO10
/-! the best -/
theorem l_best132 {p : List Nat} {q : Nat} {Pn Pn0 : Nat → Int32} (hPn : PnOK Pn Pn0 p 5) {s : Nat} (hs : s < 32) (s1 : 1 ≤ s) {a2 x6 : Int32} (hp : p = bestP (szN (if a2 = 0 then d.2.1 else d.1) d.2.2.1) s) {Post : Int32 → KH → Prop} {k26 : Nat → Int32 → Int32 → KH → Prop}
    (hk : ∀ hc h, LH ct pa pf pt pl pw hc [(q, .inl (ct 0, 5, .inl Pn))] A F T L V h → OD ct a0 ax hc d → k26 q (1 : Int32) (x6 + 5) h) : ∀ (n j : Nat) (hc h : KH), j ≤ 5 → 5 < n + j → LH ct pa pf pt pl pw hc [(q, .inl (ct 0, 5, .inl Pn))] A F T L V h → OD ct a0 ax hc d →
    g_L_areBest_L132 ct a0 ax pa (nI s) pw Post k26 n q (1 : Int32) x6 a2 (nI j) h
  | 0, j, hc, h, h1, h2, hl, hO => by omega
  | n + 1, j, hc, h, h1, h2, hl, hO => by
    show g_L_areBest_L132b _ _ _ _ _ _ _ _ _ _ _ _ _ _ _
    unfold g_L_areBest_L132b
    by_cases he : 5 ≤ j
    · have e0 : j = 5 := by omega
      subst e0
      rw [if_pos (show (5 : Int32) ≤ nI 5 by decide +kernel)]
      exact hk hc h hl hO
    · have hj : j < 5 := by omega
      rw [if_neg (show ¬ (5 : Int32) ≤ nI j from nI_ge (b := 5) (by omega) (by decide)), if_neg (show ¬ (1 : Int32) = 0 by decide)]
      refine SPL.frc hl hO (fun P hP => q_best hO hs s1 a2 hj hP) (fun h1 hc1 hl1 hO1 => ?_)
      refine rdA (LH.x hl1) (k := j) rfl (by omega) (by decide) (hPn.1 j hj) ?_
      have hb := (bestP_bst (szN (if a2 = 0 then d.2.1 else d.1) d.2.2.1) hs).1
      have hbl := perms_len s hs _ hb
      rw [← hp] at hbl
      have ev : (if pc s ≤ j then (-4 : Int32) else nI ((bestP (szN (if a2 = 0 then d.2.1 else d.1) d.2.2.1) s).getD j 0)) = if j < p.length then nI (p.getD j 0) else -4 := by
        rw [← hp]
        by_cases z : pc s ≤ j
        · rw [if_pos z, if_neg (by omega)]
        · rw [if_neg z, if_pos (by omega)]
      rw [if_pos ev, nI_s1]
      exact l_best132 hPn hs s1 hp hk n (j + 1) hc1 h1 (by omega) (by omega) hl1 hO1
theorem l_best58 {b : Nat} {nm : Nat → Nat} (hA : AV A b nm d.2.2.1) (hb5 : b ≤ 5) (hn : NB nm) {a2 : Int32} (hnm : (if a2 = 0 then d.2.1 else d.1) = nm) {s : Nat} (hs : s < 32) (s1 : 1 ≤ s) {q : Nat} {Post : Int32 → KH → Prop} {k26 : Nat → Int32 → Int32 → KH → Prop}
    (hk : ∀ hc Pn V h, LH ct pa pf pt pl pw hc [(q, .inl (ct 0, 5, .inl Pn))] A F T L V h → OD ct a0 ax hc d → k26 q (1 : Int32) (nI b + 5) h) {hc h : KH} {Pn : Nat → Int32} (hl : LH ct pa pf pt pl pw hc [(q, .inl (ct 0, 5, .inl Pn))] A F T L V h) (hO : OD ct a0 ax hc d) :
    g_L_areBest_J58 ct a0 ax pa (nI s) pw Post k26 q (nI b) (lN (minC (szN nm d.2.2.1) s)) a2 h := by
  have hS := hO.I.1
  unfold g_L_areBest_J58
  refine SPL.frc hl hO (fun P hP => q_size hO hs s1 a2 hP) (fun h1 hc1 hl1 hO1 => ?_)
  refine l_size (LH.a hl1) hA hb5 hn hS.2.2.1 hs ?_
  refine l_cut ?_
  rw [hnm, if_pos rfl]
  refine SPL.frc hl1 hO1 (fun P hP => q_least0 hO1 hs s1 a2 hP) (fun h2 hc2 hl2 hO2 => ?_)
  refine l_cut ?_
  rw [hnm, if_pos rfl]
  refine SPL.frc hl2 hO2 (fun P hP => q_least1 hO2 hs s1 a2 hP) (fun h3 hc3 hl3 hO3 => ?_)
  refine l_cut ?_
  rw [hnm, if_pos rfl]
  refine l_best (b := b) (N := 5) hA hb5 hn hS.2.2.1 (Nat.le_refl _) (by decide) hs hl3 (fun Pn' V' h4 hl4 hPn => ?_)
  exact l_best132 hPn hs s1 (by rw [hnm]) (fun hc5 h5 hl5 hO5 => hk hc5 _ _ h5 hl5 hO5) 1024 0 hc3 h4 (by decide) (by decide) hl4 hO3
theorem l_areBest (hR : RA d A F T L) {s : Nat} (hs : s < 32) (s1 : 1 ≤ s) {hc h : KH} (hl : LH ct pa pf pt pl pw hc [] A F T L V h) (hO : OD ct a0 ax hc d) {Post : Int32 → KH → Prop}
    (hP : ∀ hc V h, LH ct pa pf pt pl pw hc [] A F T L V h → OD ct a0 ax hc d → Post 1 h) : g_L_areBest ct a0 ax pa (nI s) pw h Post := by
  obtain ⟨⟨r1, r2, r3, r4, r5, r6⟩, r7, r8⟩ := hR
  have hS := hO.I.1
  intro q h1 hq e1
  subst e1
  have hl1 := hl.new hq (.inl (ct 0, 5, .inl (fun _ => 0)))
  refine SPL.frc hl1 hO (fun P hP => q_bestN hO hs s1 1 hP) (fun h2 hc2 hl2 hO2 => ?_)
  rw [if_pos rfl]
  show g_L_areBest_L26b _ _ _ _ _ _ _ _ _ _ _ _
  unfold g_L_areBest_L26b
  rw [if_neg (show ¬ (6 : Int32) ≤ 0 by decide), if_neg (show ¬ (1 : Int32) = 0 by decide)]
  refine l_least (b := 0) r1 (by decide) hS.1 hS.2.2.1 hs hl2 (fun V3 h3 hl3 => ?_)
  rw [if_pos rfl]
  refine l_best58 (b := 0) (a2 := 1) r1 (by decide) hS.1 (if_neg (by decide)) hs s1 (fun hc4 Pn4 V4 h4 hl4 hO4 => ?_) hl3 hO2
  show g_L_areBest_L26b _ _ _ _ _ _ _ _ _ _ _ _
  unfold g_L_areBest_L26b
  rw [if_neg (show ¬ (6 : Int32) ≤ nI 0 + 5 by decide +kernel), if_neg (show ¬ (1 : Int32) = 0 by decide)]
  refine l_least (b := 5) r2 (by decide) hS.2.1 hS.2.2.1 hs hl4 (fun V5 h5 hl5 => ?_)
  rw [if_neg (show ¬ (nI 0 + 5 : Int32) = 0 by decide +kernel)]
  refine l_best58 (b := 5) (a2 := 0) r2 (by decide) hS.2.1 (if_pos rfl) hs s1 (fun hc6 Pn6 V6 h6 hl6 hO6 => ?_) hl5 hO4
  show g_L_areBest_L26b _ _ _ _ _ _ _ _ _ _ _ _
  unfold g_L_areBest_L26b
  rw [if_pos (show (6 : Int32) ≤ nI 5 + 5 by decide +kernel)]
  obtain ⟨hl7, hO7⟩ := hl6.drop hO6
  exact ⟨by decide +kernel, hP _ _ h6 hl7 hO7⟩
end LTL
