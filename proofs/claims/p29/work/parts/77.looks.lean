/-! the law looks: plans, counts, tables, bests -/
/-- uses and counts stay small -/
def CB (N : Nat) (d : DS) : Prop := (∀ x ∈ d.2.2.2.1, x.2.2.2.1 ≤ N) ∧ ∀ c, c ≠ 2 → c ≠ 3 → d.2.2.2.2.2 c ≤ N
theorem sumL_app {α : Type} (f : α → Nat) (l1 l2 : List α) : sumL f (l1 ++ l2) = sumL f l1 + sumL f l2 := by
  unfold sumL
  rw [List.map_append, List.sum_append]
theorem take_sx {α : Type} {l : List α} {k : Nat} {x : α} (hk : l[k]? = some x) : l.take (k + 1) = l.take k ++ [x] := by
  rw [List.take_succ, hk]; rfl
theorem sumL_take {α : Type} (f : α → Nat) {l : List α} {k : Nat} {x : α} (hk : l[k]? = some x) : sumL f (l.take (k + 1)) = sumL f (l.take k) + f x := by
  rw [take_sx hk, sumL_app, sumL_c]
  rfl
section LLK
variable {ct : Nat → ClassId} {a0 ax : Nat} {pa pf pt pl pw : Nat} {hc : KH} {A F T : Nat → Int32} {L V : Nat → Int64} {h : KH} {d : DS} {i : Nat} {x : PL}
theorem q_p5 (h0 : OD ct a0 ax h d) (hi : d.2.2.2.1[i]? = some x) {Post : Int32 → KH → Prop} (hP : ∀ h1, OD ct a0 ax h1 d → Post (tv (lN (costN (szN d.1 d.2.2.1) x.2.1))) h1) : g_X5_plan ct a0 ax (nI x.1) (nI 5) h Post := q_plan h0 (n := 5) (by decide) hi hP
theorem q_p6 (h0 : OD ct a0 ax h d) (hi : d.2.2.2.1[i]? = some x) {Post : Int32 → KH → Prop} (hP : ∀ h1, OD ct a0 ax h1 d → Post (tv (lN (costN (szN d.2.1 d.2.2.1) x.2.1))) h1) : g_X5_plan ct a0 ax (nI x.1) (nI 6) h Post := q_plan h0 (n := 6) (by decide) hi hP
theorem q_p7 (h0 : OD ct a0 ax h d) (hi : d.2.2.2.1[i]? = some x) {Post : Int32 → KH → Prop} (hP : ∀ h1, OD ct a0 ax h1 d → Post (tv (lN x.2.2.2.1)) h1) : g_X5_plan ct a0 ax (nI x.1) (nI 7) h Post := q_plan h0 (n := 7) (by decide) hi hP
theorem q_p8 (h0 : OD ct a0 ax h d) (hi : d.2.2.2.1[i]? = some x) {Post : Int32 → KH → Prop} (hP : ∀ h1, OD ct a0 ax h1 d → Post (nI x.2.2.2.2) h1) : g_X5_plan ct a0 ax (nI x.1) (nI 8) h Post := q_plan h0 (n := 8) (by decide) hi hP
theorem q_p9 (h0 : OD ct a0 ax h d) (hi : d.2.2.2.1[i]? = some x) {Post : Int32 → KH → Prop} (hP : ∀ h1, OD ct a0 ax h1 d → Post (tv (lN (costN (szN d.1 d.2.2.1) x.2.1 - minC (szN d.1 d.2.2.1) x.1))) h1) : g_X5_plan ct a0 ax (nI x.1) (nI 9) h Post := q_plan h0 (n := 9) (by decide) hi hP
theorem q_p10 (h0 : OD ct a0 ax h d) (hi : d.2.2.2.1[i]? = some x) {Post : Int32 → KH → Prop} (hP : ∀ h1, OD ct a0 ax h1 d → Post (nI (if drB d.2.1 d.2.2.2.2.1 x then 1 else 0)) h1) : g_X5_plan ct a0 ax (nI x.1) (nI 10) h Post := q_plan h0 (n := 10) (by decide) hi hP
theorem q_p11 (h0 : OD ct a0 ax h d) (hi : d.2.2.2.1[i]? = some x) {Post : Int32 → KH → Prop} (hP : ∀ h1, OD ct a0 ax h1 d → Post (nI i) h1) : g_X5_plan ct a0 ax (nI x.1) (nI 11) h Post := q_plan h0 (n := 11) (by decide) hi hP
theorem q_p04 (h0 : OD ct a0 ax h d) (hi : d.2.2.2.1[i]? = some x) {n : Nat} (hn : n < 5) {Post : Int32 → KH → Prop} (hP : ∀ h1, OD ct a0 ax h1 d → Post (if n < x.2.1.length then nI (x.2.1.getD n 0) else -4) h1) : g_X5_plan ct a0 ax (nI x.1) (nI n) h Post := by
  refine q_plan h0 (n := n) (by omega) hi ?_
  rw [if_neg (show ¬ n = 5 by omega), if_neg (show ¬ n = 6 by omega), if_neg (show ¬ n = 7 by omega), if_neg (show ¬ n = 8 by omega), if_neg (show ¬ n = 9 by omega), if_neg (show ¬ n = 10 by omega), if_neg (show ¬ n = 11 by omega)]
  have w2 := h0.I.1.2.2.2.1 x (List.mem_of_getElem? hi)
  have hl := perms_len _ w2.2.1 _ w2.2.2.1
  by_cases q : pc x.1 ≤ n
  · rw [if_pos q]
    rw [if_neg (by omega)] at hP
    exact hP
  · rw [if_neg q]
    rw [if_pos (by omega)] at hP
    exact hP
/-- a plan's order, place by place -/
theorem l_plans87 (hR : RA d A F T L) (hCB : CB 1000000000 d) (hi : d.2.2.2.1[i]? = some x) (hi4 : i < 4) {a5' : Nat} {Post : Int32 → KH → Prop} {k15 : Int32 → Int64 → Int64 → Int32 → Int32 → KH → Prop} {x5 : Int32} {x6 x8 : Int64}
    (hk : ∀ hc h, LH ct pa pf pt pl pw hc [] A F T L V h → OD ct a0 ax hc d → k15 x5 x6 x8 (1 : Int32) (nI (i + 1)) h) : ∀ (n j : Nat) (hc h : KH), j ≤ 5 → 5 < n + j → LH ct pa pf pt pl pw hc [] A F T L V h → OD ct a0 ax hc d →
    g_L_arePlans_L87 ct a0 ax pa pf pt a5' Post k15 n x5 x6 x8 (1 : Int32) (nI i) (nI (14 * i)) (lN (costN (szN d.1 d.2.2.1) x.2.1)) (lN (minC (szN d.1 d.2.2.1) x.1)) (nI j) h
  | 0, j, hc, h, h1, h2, hl, hO => by omega
  | n + 1, j, hc, h, h1, h2, hl, hO => by
    show g_L_arePlans_L87b _ _ _ _ _ _ _ _ _ _ _ _ _ _ _ _ _ _ _ _
    unfold g_L_arePlans_L87b
    obtain ⟨⟨r1, r2, r3, r4, r5, r6⟩, r7, r8⟩ := hR
    have hI := hO.I
    have hS := hI.1
    have hFx := r4 i x hi
    have hok := hS.2.2.2.1 x (List.mem_of_getElem? hi)
    have hus := hCB.1 x (List.mem_of_getElem? hi)
    have rf0 : ∀ {hc h : KH}, LH ct pa pf pt pl pw hc [] A F T L V h → ∀ {K : Int32 → Prop}, K (nI x.1) → ldI h pf (nI (14 * i)) (ct 0) K := fun hl _ hK => rdA hl.f (k := 14 * i) rfl (by omega) (by decide) hFx.1 hK
    by_cases he : 5 ≤ j
    · have e0 : j = 5 := by omega
      subst e0
      rw [if_pos (show (5 : Int32) ≤ nI 5 by decide +kernel), if_neg (show ¬ (1 : Int32) = 0 by decide)]
      refine rf0 hl (SPL.frc hl hO (fun P hP => q_p5 hO hi hP) (fun h1 hc1 hl1 hO1 => ?_))
      refine l_cut ?_
      rw [if_pos rfl]
      refine rf0 hl1 (SPL.frc hl1 hO1 (fun P hP => q_p6 hO1 hi hP) (fun h2 hc2 hl2 hO2 => ?_))
      refine l_cost (b := 5) (at' := 14 * i) (N := 56) (LH.a hl2) r2 (by decide) hS.2.1 hS.2.2.1 (LH.f hl2) (by omega) (by decide) hok.2.1 hok.2.2.1 (fun k hk => hFx.2.1 k hk) ?_
      refine l_cut ?_
      rw [if_pos rfl]
      refine rf0 hl2 (SPL.frc hl2 hO2 (fun P hP => q_p7 hO2 hi hP) (fun h3 hc3 hl3 hO3 => ?_))
      refine rdA (LH.f hl3) (k := 14 * i + 11) (nI_add _ 11) (by omega) (by decide) hFx.2.2.2.1 ?_
      rw [if_pos (tv_sm hus)]
      refine rf0 hl3 (SPL.frc hl3 hO3 (fun P hP => q_p8 hO3 hi hP) (fun h4 hc4 hl4 hO4 => ?_))
      refine rdA (LH.f hl4) (k := 14 * i + 12) (nI_add _ 12) (by omega) (by decide) hFx.2.2.2.2 ?_
      rw [if_pos rfl]
      refine rf0 hl4 (SPL.frc hl4 hO4 (fun P hP => q_p9 hO4 hi hP) (fun h5 hc5 hl5 hO5 => ?_))
      refine l_cut ?_
      rw [lN_sub (minC_le hok.2.1 hok.2.2.1), if_pos rfl]
      refine rf0 hl5 (SPL.frc hl5 hO5 (fun P hP => q_p10 hO5 hi hP) (fun h6 hc6 hl6 hO6 => ?_))
      refine l_drifted (at' := 14 * i) (LH.a hl6) r2.1 r3 (LH.f hl6) (by omega) hFx hok hS.2.1 hS.2.2.2.2.2 ?_
      have fin : ∀ (t0 t1 : Int32), t0 = t1 → g_L_arePlans_J265 ct a0 ax pa pf pt a5' Post k15 x5 x6 x8 (nI i) (nI (14 * i)) t0 t1 h6 := fun t0 t1 et => by
        unfold g_L_arePlans_J265
        rw [if_pos et]
        refine rf0 hl6 (SPL.frc hl6 hO6 (fun P hP => q_p11 hO6 hi hP) (fun h7 hc7 hl7 hO7 => ?_))
        rw [if_pos rfl]
        refine rf0 hl7 (SPL.frc hl7 hO7 (fun P hP => q_plan12 hO7 hok.2.1 hok.1 hP) (fun h8 hc8 hl8 hO8 => ?_))
        rw [if_pos rfl, nI_s1]
        exact hk hc8 h8 hl8 hO8
      cases hd : drB d.2.1 d.2.2.2.2.1 x with
      | true =>
        rw [if_neg (show ¬ nI (if true = true then 1 else 0) = (0 : Int32) by decide +kernel)]
        exact fin _ _ rfl
      | false =>
        rw [if_pos (show nI (if false = true then 1 else 0) = (0 : Int32) by decide +kernel)]
        exact fin _ _ rfl
    · have hj : j < 5 := by omega
      rw [if_neg (show ¬ (5 : Int32) ≤ nI j from nI_ge (b := 5) (by omega) (by decide)), if_neg (show ¬ (1 : Int32) = 0 by decide)]
      refine rf0 hl (SPL.frc hl hO (fun P hP => q_p04 hO hi hj hP) (fun h1 hc1 hl1 hO1 => ?_))
      refine rdA (LH.f hl1) (k := 14 * i + 1 + j) (ixb (14 * i) 1 j) (by omega) (by decide) (hFx.2.1 j hj) ?_
      rw [if_pos rfl, nI_s1]
      exact l_plans87 ⟨⟨r1, r2, r3, r4, r5, r6⟩, r7, r8⟩ hCB hi hi4 hk n (j + 1) hc1 h1 (by omega) (by omega) hl1 hO1
theorem l_plans15 (hR : RA d A F T L) (hCB : CB 1000000000 d) {Post : Int32 → KH → Prop}
    (hP : ∀ hc V h, LH ct pa pf pt pl pw hc [] A F T L V h → OD ct a0 ax hc d → Post 1 h) : ∀ (n k : Nat) (V : Nat → Int64) (hc h : KH), k ≤ d.2.2.2.1.length → d.2.2.2.1.length < n + k → LH ct pa pf pt pl pw hc [] A F T L V h → OD ct a0 ax hc d →
    g_L_arePlans_L15 ct a0 ax pa pf pt pw Post n (nI (sumL (fun x : PL => x.2.2.2.2) (d.2.2.2.1.take k))) (lN (sumL (fun z : PL => minC (szN d.1 d.2.2.1) z.1) (d.2.2.2.1.take k))) (lN (sumL (fun z : PL => costN (szN d.1 d.2.2.1) z.2.1) (d.2.2.2.1.take k))) (1 : Int32) (nI k) h
  | 0, k, V, hc, h, h1, h2, hl, hO => by omega
  | n + 1, k, V, hc, h, h1, h2, hl, hO => by
    show g_L_arePlans_L15b _ _ _ _ _ _ _ _ _ _ _ _ _ _ _
    unfold g_L_arePlans_L15b
    have hR0 := hR
    obtain ⟨⟨r1, r2, r3, r4, r5, r6⟩, r7, r8⟩ := hR0
    have hI := hO.I
    have hS := hI.1
    have h4 := hS.2.2.2.2.1
    have wR := szN_WB hS.1 hS.2.2.1
    refine rdA hl.t (k := 0) rfl (by decide) (by decide) r5 ?_
    by_cases q : d.2.2.2.1.length ≤ k
    · have e0 : k = d.2.2.2.1.length := by omega
      subst e0
      rw [if_pos (nI_le q (by omega)), List.take_length]
      unfold g_L_arePlans_J310
      rw [if_neg (show ¬ (1 : Int32) = 0 by decide)]
      refine SPL.frc hl hO (fun P hP => q_c0 hO hP) (fun h1 hc1 hl1 hO1 => ?_)
      refine rdA (LH.t hl1) (k := 0) rfl (by decide) (by decide) r5 ?_
      rw [if_pos rfl]
      refine SPL.frc hl1 hO1 (fun P hP => q_c1 hO1 hP) (fun h2 hc2 hl2 hO2 => ?_)
      rw [if_pos rfl]
      refine SPL.frc hl2 hO2 (fun P hP => q_fitness hO2 hP) (fun h3 hc3 hl3 hO3 => ?_)
      refine ⟨?_, hP hc3 V h3 hl3 hO3⟩
      unfold drR
      have hb : sumL (fun z : PL => costN (szN d.1 d.2.2.1) z.2.1) d.2.2.2.1 ≤ 5 * 2 ^ 46 * d.2.2.2.1.length := sumL_le _ _ _ (fun z hz => costN_bd wR (hS.2.2.2.1 z hz).2.1 (hS.2.2.2.1 z hz).2.2.1)
      have hb2 : 5 * 2 ^ 46 * d.2.2.2.1.length ≤ 5 * 2 ^ 46 * 4 := Nat.mul_le_mul_left _ h4
      by_cases z : sumL (fun z : PL => costN (szN d.1 d.2.2.1) z.2.1) d.2.2.2.1 = 0
      · rw [if_pos z, if_pos (by rw [z]; rfl)]
      · rw [if_neg z, if_neg (show ¬ lN (sumL (fun z : PL => costN (szN d.1 d.2.2.1) z.2.1) d.2.2.2.1) = (0 : Int64) from fun w => z ((pk_lEQ (b := 0) (by omega) (by decide)).mp w))]
    · rw [if_neg (nI_ge (by omega) (by omega)), if_neg (show ¬ (1 : Int32) = 0 by decide)]
      have hi : d.2.2.2.1[k]? = some d.2.2.2.1[k] := List.getElem?_eq_getElem (by omega)
      generalize d.2.2.2.1[k] = x at hi
      have hFx := r4 k x hi
      have hok := hS.2.2.2.1 x (List.mem_of_getElem? hi)
      rw [ix14o]
      refine l_cost (b := 0) (at' := 14 * k) (N := 56) hl.a r1 (by decide) hS.1 hS.2.2.1 hl.f (by omega) (by decide) hok.2.1 hok.2.2.1 (fun k hk => hFx.2.1 k hk) ?_
      refine rdA hl.f (k := 14 * k) rfl (by omega) (by decide) hFx.1 ?_
      refine l_least (b := 0) r1 (by decide) hS.1 hS.2.2.1 hok.2.1 hl (fun V' h1 hl1 => ?_)
      refine rdA hl1.f (k := 14 * k + 12) (nI_add _ 12) (by omega) (by decide) hFx.2.2.2.2 ?_
      rw [nI_add, lN_add, lN_add, ← sumL_take (fun x : PL => x.2.2.2.2) hi, ← sumL_take (fun z : PL => minC (szN d.1 d.2.2.1) z.1) hi, ← sumL_take (fun z : PL => costN (szN d.1 d.2.2.1) z.2.1) hi]
      exact l_plans87 hR hCB hi (by omega) (fun hc2 h2 hl2 hO2 => l_plans15 hR hCB hP n (k + 1) V' hc2 h2 (by omega) (by omega) hl2 hO2) 1024 0 hc h1 (by decide) (by decide) hl1 hO
theorem l_arePlans (hR : RA d A F T L) (hCB : CB 1000000000 d) (hl : LH ct pa pf pt pl pw hc [] A F T L V h) (hO : OD ct a0 ax hc d) {Post : Int32 → KH → Prop}
    (hP : ∀ hc V h, LH ct pa pf pt pl pw hc [] A F T L V h → OD ct a0 ax hc d → Post 1 h) : g_L_arePlans ct a0 ax pa pf pt pw h Post := l_plans15 hR hCB hP 1024 0 V hc h (Nat.zero_le _) (by have := hO.I.1.2.2.2.2.1; omega) hl hO
end LLK
