/-! what each look of the class answers -/
section QRY
variable {ct : Nat → ClassId} {a0 ax : Nat} {h : KH} {d : DS}
theorem q_table0 (h0 : OD ct a0 ax h d) {t : Nat} (ht : t < 5) {Post : Int32 → KH → Prop} (hP : ∀ h1, OD ct a0 ax h1 d → Post (nI (d.1 t)) h1) : g_X5_table ct a0 ax (nI t) (nI 0) h Post := by
  have h00 := h0
  obtain ⟨own, A, ⟨nw, snO, hl, hks, rk, b1, b2, b3, pd, sg, P, LC, BO, SIG, hc⟩, hG, rfl⟩ := h0
  have hI := hG.1
  have hS := hI.1
  obtain ⟨r, g, p, l, pr, kas, hs⟩ := hc.2.2.2.2.1
  refine ⟨1, tblI t ht, ?_⟩
  rw [if_neg ne10, if_pos (show nI 0 = (0 : Int32) from rfl)]
  exact hc.nowR (hs.rI (hs.rv ht (hP h h00)))
theorem q_table1 (h0 : OD ct a0 ax h d) {t : Nat} (ht : t < 5) {Post : Int32 → KH → Prop} (hP : ∀ h1, OD ct a0 ax h1 d → Post (nI (d.2.1 t)) h1) : g_X5_table ct a0 ax (nI t) (nI 1) h Post := by
  have h00 := h0
  obtain ⟨own, A, ⟨nw, snO, hl, hks, rk, b1, b2, b3, pd, sg, P, LC, BO, SIG, hc⟩, hG, rfl⟩ := h0
  have hI := hG.1
  have hS := hI.1
  obtain ⟨r, g, p, l, pr, kas, hs⟩ := hc.2.2.2.2.1
  refine ⟨1, tblI t ht, ?_⟩
  rw [if_neg ne10, if_neg (show ¬ nI 1 = (0 : Int32) by decide +kernel), if_pos (show nI 1 = (1 : Int32) from rfl)]
  exact hc.nowR (hs.gI (hs.gv ht (hP h h00)))
theorem q_table2 (h0 : OD ct a0 ax h d) {t : Nat} (ht : t < 5) {Post : Int32 → KH → Prop} (hP : ∀ h1, OD ct a0 ax h1 d → Post (nI (max (d.1 t) (d.2.1 t) * 100 / min (d.1 t) (d.2.1 t))) h1) : g_X5_table ct a0 ax (nI t) (nI 2) h Post := by
  have h00 := h0
  obtain ⟨own, A, ⟨nw, snO, hl, hks, rk, b1, b2, b3, pd, sg, P, LC, BO, SIG, hc⟩, hG, rfl⟩ := h0
  have hI := hG.1
  have hS := hI.1
  obtain ⟨r, g, p, l, pr, kas, hs⟩ := hc.2.2.2.2.1
  refine ⟨1, tblI t ht, ?_⟩
  rw [if_neg ne10, if_neg (show ¬ nI 2 = (0 : Int32) by decide +kernel), if_neg (show ¬ nI 2 = (1 : Int32) by decide +kernel), if_pos (show nI 2 = (2 : Int32) from rfl)]
  exact hc.nowR (hs.rI (hs.rv ht (hc.nowR (hs.gI (hs.gv ht ⟨_, c_driftDown (hS.1 t ht) (hS.2.1 t ht), hP h h00⟩)))))
theorem q_table3 (h0 : OD ct a0 ax h d) {t : Nat} (ht : t < 5) {Post : Int32 → KH → Prop} (hP : ∀ h1, OD ct a0 ax h1 d → Post (nI (sumL (fun x : PL => bi x.1 t) d.2.2.2.1)) h1) : g_X5_table ct a0 ax (nI t) (nI 3) h Post := by
  have h00 := h0
  obtain ⟨own, A, ⟨nw, snO, hl, hks, rk, b1, b2, b3, pd, sg, P, LC, BO, SIG, hc⟩, hG, rfl⟩ := h0
  have hI := hG.1
  have hS := hI.1
  obtain ⟨r, g, p, l, pr, kas, hs⟩ := hc.2.2.2.2.1
  refine ⟨1, tblI t ht, ?_⟩
  rw [if_neg ne10, if_neg (show ¬ nI 3 = (0 : Int32) by decide +kernel), if_neg (show ¬ nI 3 = (1 : Int32) by decide +kernel), if_neg (show ¬ nI 3 = (2 : Int32) by decide +kernel), if_pos (show nI 3 = (3 : Int32) from rfl)]
  refine hc.nowR ⟨_, c_bit t ht, hs.o (c_keptWith hc.2.2.2.2.1 hS (pow_lt32 t ht) ?_)⟩
  have e : sumL (fun x : PL => if x.1 &&& 2 ^ t = 2 ^ t then 1 else 0) A.1.2.2.2.1 = sumL (fun x : PL => bi x.1 t) A.1.2.2.2.1 := sumL_congr (fun x hx => and_pow _ (hS.2.2.2.1 x hx).2.1 t ht)
  rw [e]
  exact hP h h00
theorem q_partOf (h0 : OD ct a0 ax h d) {t u : Nat} (ht : t < 5) (hu : u < 5) {Post : Int32 → KH → Prop} (hP : ∀ h1, OD ct a0 ax h1 d → Post (if t = u then -1 else nI (d.2.2.1 t u)) h1) : g_X5_partOf ct a0 ax (nI t) (nI u) h Post := by
  have h00 := h0
  obtain ⟨own, A, ⟨nw, snO, hl, hks, rk, b1, b2, b3, pd, sg, P, LC, BO, SIG, hc⟩, hG, rfl⟩ := h0
  have hI := hG.1
  have hS := hI.1
  obtain ⟨r, g, p, l, pr, kas, hs⟩ := hc.2.2.2.2.1
  refine ⟨_, joinI t ht u hu, ?_⟩
  by_cases q : t = u
  · rw [if_pos q] at hP
    rw [if_pos q, if_pos rfl]
    exact hP h h00
  · rw [if_neg q] at hP
    rw [if_neg q, if_neg ne10]
    exact hc.nowR (hs.pI (hs.parR ht (hs.parV ht hu (hP h h00))))
theorem q_size (h0 : OD ct a0 ax h d) {s : Nat} (hs : s < 32) (s1 : 1 ≤ s) (a2 : Int32) {Post : Int32 → KH → Prop} (hP : ∀ h1, OD ct a0 ax h1 d → Post (tv (lN (szN (if a2 = 0 then d.2.1 else d.1) d.2.2.1 s))) h1) : g_X5_size ct a0 ax (nI s) a2 h Post := by
  have h00 := h0
  obtain ⟨own, A, ⟨nw, snO, hl, hks, rk, b1, b2, b3, pd, sg, P, LC, BO, SIG, hc⟩, hG, rfl⟩ := h0
  have hI := hG.1
  have hS := hI.1
  refine ⟨1, setI s hs s1, ?_⟩
  rw [if_neg ne10]
  exact hc.o (p_reckoned hc hS (fun h1 P' LC' BO' hR hc1 f1 => ⟨_, _, _, _, _, rfl, hc1.2.2.1.qw, c_sizeOf (NB_if hS a2) hS.2.2.1 hR hs (by omega), _, told_tv _, hP h1 ⟨own, A, ⟨_, _, _, _, _, _, _, _, _, _, _, _, _, _, hc1⟩, hG, rfl⟩⟩))
theorem q_least0 (h0 : OD ct a0 ax h d) {s : Nat} (hs : s < 32) (s1 : 1 ≤ s) (a2 : Int32) {Post : Int32 → KH → Prop} (hP : ∀ h1, OD ct a0 ax h1 d → Post (tv (lN (minC (szN (if a2 = 0 then d.2.1 else d.1) d.2.2.1) s))) h1) : g_X5_least ct a0 ax (nI s) a2 (nI 0) h Post := by
  have h00 := h0
  obtain ⟨own, A, ⟨nw, snO, hl, hks, rk, b1, b2, b3, pd, sg, P, LC, BO, SIG, hc⟩, hG, rfl⟩ := h0
  have hI := hG.1
  have hS := hI.1
  refine ⟨1, setI s hs s1, ?_⟩
  rw [if_neg ne10, show ∀ P Q : Prop, (if nI 0 < (0 : Int32) then P else if nI 0 ≤ (1 : Int32) then Q else P) = Q from fun P Q => if_in (Nat.le_refl _) (by decide) (by decide)]
  refine hc.o (p_reckoned hc hS (fun h1 P' LC' BO' hR hc1 f1 => ?_))
  rw [if_pos (show nI 0 = (0 : Int32) from rfl)]
  exact ⟨_, _, _, _, _, rfl, hc1.2.2.1.qw, c_byOrders (NB_if hS a2) hS.2.2.1 hR hs, _, told_tv _, hP h1 ⟨own, A, ⟨_, _, _, _, _, _, _, _, _, _, _, _, _, _, hc1⟩, hG, rfl⟩⟩
theorem q_least1 (h0 : OD ct a0 ax h d) {s : Nat} (hs : s < 32) (s1 : 1 ≤ s) (a2 : Int32) {Post : Int32 → KH → Prop} (hP : ∀ h1, OD ct a0 ax h1 d → Post (tv (lN (minC (szN (if a2 = 0 then d.2.1 else d.1) d.2.2.1) s))) h1) : g_X5_least ct a0 ax (nI s) a2 (nI 1) h Post := by
  have h00 := h0
  obtain ⟨own, A, ⟨nw, snO, hl, hks, rk, b1, b2, b3, pd, sg, P, LC, BO, SIG, hc⟩, hG, rfl⟩ := h0
  have hI := hG.1
  have hS := hI.1
  refine ⟨1, setI s hs s1, ?_⟩
  rw [if_neg ne10, show ∀ P Q : Prop, (if nI 1 < (0 : Int32) then P else if nI 1 ≤ (1 : Int32) then Q else P) = Q from fun P Q => if_in (by decide) (Nat.le_refl _) (by decide)]
  refine hc.o (p_reckoned hc hS (fun h1 P' LC' BO' hR hc1 f1 => ?_))
  rw [if_neg (show ¬ nI 1 = (0 : Int32) by decide +kernel)]
  exact ⟨_, _, _, _, _, rfl, hc1.2.2.1.qw, c_least hR hs (by omega), _, told_tv _, hP h1 ⟨own, A, ⟨_, _, _, _, _, _, _, _, _, _, _, _, _, _, hc1⟩, hG, rfl⟩⟩
theorem q_bestN (h0 : OD ct a0 ax h d) {s : Nat} (hs : s < 32) (s1 : 1 ≤ s) (a2 : Int32) {Post : Int32 → KH → Prop} (hP : ∀ h1, OD ct a0 ax h1 d → Post (-1) h1) : g_X5_best ct a0 ax (nI s) a2 (-1) h Post := by
  refine ⟨1, setI s hs s1, ?_⟩
  rw [if_neg ne10, if_neg (show ¬ (0 : Int32) ≤ -1 by decide +kernel)]
  exact hP h h0
theorem q_best (h0 : OD ct a0 ax h d) {s i : Nat} (hs : s < 32) (s1 : 1 ≤ s) (a2 : Int32) (hi : i < 5) {Post : Int32 → KH → Prop} (hP : ∀ h1, OD ct a0 ax h1 d → Post (if pc s ≤ i then -4 else nI ((bestP (szN (if a2 = 0 then d.2.1 else d.1) d.2.2.1) s).getD i 0)) h1) : g_X5_best ct a0 ax (nI s) a2 (nI i) h Post := by
  have h00 := h0
  obtain ⟨own, A, ⟨nw, snO, hl, hks, rk, b1, b2, b3, pd, sg, P, LC, BO, SIG, hc⟩, hG, rfl⟩ := h0
  have hI := hG.1
  have hS := hI.1
  have h5 := pc_le s hs
  have hb := (bestP_bst (szN (if a2 = 0 then A.1.2.1 else A.1.1) A.1.2.2.1) hs).1
  have hbl := perms_len s hs _ hb
  refine ⟨1, setI s hs s1, ?_⟩
  rw [if_neg ne10, if_pos (show (0 : Int32) ≤ nI i from nI_le (a := 0) (Nat.zero_le _) (by omega))]
  refine ⟨_, c_bitCount s hs, ?_⟩
  by_cases q1 : pc s ≤ i
  · rw [if_pos q1] at hP
    rw [if_pos (nI_le q1 (by omega))]
    exact hP h h00
  · rw [if_neg q1] at hP
    rw [if_neg (nI_ge (by omega) (by omega))]
    refine hc.o (p_reckoned hc hS (fun h1 P' LC' BO' hR hc1 f1 => ⟨_, _, _, _, _, rfl, hc1.2.2.1.qw, c_best hR hs (by omega), _, ?_, hP h1 ⟨own, A, ⟨_, _, _, _, _, _, _, _, _, _, _, _, _, _, hc1⟩, hG, rfl⟩⟩))
    rw [← hbl]
    exact perms_at s hs _ hb i (by omega)
theorem q_fitness (h0 : OD ct a0 ax h d) {Post : DR → KH → Prop} (hP : ∀ h1, OD ct a0 ax h1 d → Post (drR (sumL (fun z : PL => minC (szN d.1 d.2.2.1) z.1) d.2.2.2.1) (sumL (fun z : PL => costN (szN d.1 d.2.2.1) z.2.1) d.2.2.2.1)) h1) : g_X5_fitness ct a0 ax h Post := by
  have h00 := h0
  obtain ⟨own, A, ⟨nw, snO, hl, hks, rk, b1, b2, b3, pd, sg, P, LC, BO, SIG, hc⟩, hG, rfl⟩ := h0
  have hI := hG.1
  have hS := hI.1
  refine hc.o (p_reckoned hc hS (fun h1 P' LC' BO' hRk hc1 f1 => ?_))
  rw [if_neg ne10] at hRk
  obtain ⟨r, g, p, l, pr, kas, hs1⟩ := hc1.2.2.2.2.1
  have hlen := hs1.len
  refine c_fitL hc1 hs1 hS hRk 1024 0 0 0 (Nat.zero_le _) (by omega) (by omega) ?_
  rw [List.drop_zero, ← hs1.kpe, Nat.zero_add, Nat.zero_add]
  exact hP h1 ⟨own, A, ⟨_, _, _, _, _, _, _, _, _, _, _, _, _, _, hc1⟩, hG, rfl⟩
theorem q_plan12 (h0 : OD ct a0 ax h d) {s : Nat} (hs : s < 32) (s1 : 1 ≤ s) {Post : Int32 → KH → Prop} (hP : ∀ h1, OD ct a0 ax h1 d → Post (-1) h1) : g_X5_plan ct a0 ax (nI s) (nI 12) h Post := by
  refine ⟨1, setI s hs s1, ?_⟩
  rw [if_neg ne10, if_neg (show ¬ nI 12 < (0 : Int32) by decide +kernel), if_neg (show ¬ nI 12 ≤ (11 : Int32) by decide +kernel)]
  exact hP h h0
theorem q_planN (h0 : OD ct a0 ax h d) {s : Nat} (hsl : s < 32) (s1 : 1 ≤ s) (hno : ∀ x ∈ d.2.2.2.1, x.1 ≠ s) {Post : Int32 → KH → Prop} (hP : ∀ h1, OD ct a0 ax h1 d → Post (-4) h1) : g_X5_plan ct a0 ax (nI s) (nI 0) h Post := by
  have h00 := h0
  obtain ⟨own, A, ⟨nw, snO, hl, hks, rk, b1, b2, b3, pd, sg, P, LC, BO, SIG, hc⟩, hG, rfl⟩ := h0
  have hI := hG.1
  have hS := hI.1
  refine ⟨1, setI s hsl s1, ?_⟩
  rw [if_neg ne10, show ∀ P Q : Prop, (if nI 0 < (0 : Int32) then P else if nI 0 ≤ (11 : Int32) then Q else P) = Q from fun P Q => if_in (Nat.le_refl _) (by decide) (by decide)]
  obtain ⟨r, g, p, l, pr, kas, hs0⟩ := hc.2.2.2.2.1
  refine hc.nowR (hs0.o (c_placeOf hc.2.2.2.2.1 hS hsl (fun j y hj hy => absurd hy (hno y (List.mem_of_getElem? hj))) (fun _ => ?_)))
  rw [if_pos rfl]
  exact hP h h00
theorem isKp.o {own : Nat → Nat} {h : KH} {k : Nat} {x : PL} (hk : isKp ct own h k x) {K : Prop} (hK : K) : isO h k 1 K := by
  obtain ⟨-, gg, -, e, -⟩ := hk
  exact ⟨⟨_, e⟩, hK⟩
/-- the look at the i-th plan, up to the choice -/
theorem q_plan (h0 : OD ct a0 ax h d) {n i : Nat} {x : PL} (hn : n ≤ 11) (hi : d.2.2.2.1[i]? = some x) {Post : Int32 → KH → Prop} (hP : ∀ h1, OD ct a0 ax h1 d → Post (if n = 5 then tv (lN (costN (szN d.1 d.2.2.1) x.2.1)) else if n = 6 then tv (lN (costN (szN d.2.1 d.2.2.1) x.2.1)) else if n = 7 then tv (lN x.2.2.2.1) else if n = 8 then nI x.2.2.2.2 else if n = 9 then tv (lN (costN (szN d.1 d.2.2.1) x.2.1 - minC (szN d.1 d.2.2.1) x.1)) else if n = 10 then nI (if drB d.2.1 d.2.2.2.2.1 x then 1 else 0) else if n = 11 then nI i else if pc x.1 ≤ n then -4 else nI (x.2.1.getD n 0)) h1) : g_X5_plan ct a0 ax (nI x.1) (nI n) h Post := by
  have h00 := h0
  obtain ⟨own, A, ⟨nw, snO, hl, hks, rk, b1, b2, b3, pd, sg, P, LC, BO, SIG, hc⟩, hG, rfl⟩ := h0
  have hI := hG.1
  have hS := hI.1
  have w2 := hS.2.2.2.1 x (List.mem_of_getElem? hi)
  have hs := w2.2.1
  refine ⟨1, setI _ hs w2.1, ?_⟩
  rw [if_neg ne10, show ∀ P Q : Prop, (if nI n < (0 : Int32) then P else if nI n ≤ (11 : Int32) then Q else P) = Q from fun P Q => if_in (Nat.zero_le _) hn (by decide)]
  obtain ⟨r, g, p, l, pr, kas, hs0⟩ := hc.2.2.2.2.1
  refine hc.nowR (hs0.o (c_placeOf hc.2.2.2.2.1 hS hs (fun j y hj hy => ?_) (fun hno => absurd rfl (hno x (List.mem_of_getElem? hi)))))
  have hij : j = i := by
    have a := idxS_some (sh := x.1) A.1.2.2.2.1 j y hI.2.2.1 hj hy
    have b := idxS_some (sh := x.1) A.1.2.2.2.1 i x hI.2.2.1 hi rfl
    omega
  subst hij
  have hyx : y = x := Option.some.inj (hj.symm.trans hi)
  subst hyx
  have hil := (List.getElem?_eq_some_iff.mp hi).1
  have h4 := hS.2.2.2.2.1
  rw [if_neg (nI_m1 (by omega))]
  obtain ⟨k, hk⟩ := getK hs0 (i := j) (x := y) hi
  have hK := hs0.kp _ (List.mem_of_getElem? hk)
  have hpm := w2.2.2.1
  have hpl := perms_len _ w2.2.1 _ hpm
  have h5 := pc_le _ w2.2.1
  refine hc.nowR (hs0.gt hk ?_)
  rcases (show n = 5 ∨ n = 6 ∨ n = 7 ∨ n = 8 ∨ n = 9 ∨ n = 10 ∨ n = 11 ∨ n ≤ 4 by omega) with rfl | rfl | rfl | rfl | rfl | rfl | rfl | hn4

  · rw [if_pos rfl] at hP
    rw [if_pos (show nI 5 = (5 : Int32) from rfl)]
    refine hc.o (p_reckoned hc hS (fun h1 P' LC' BO' hRk hc1 f1 => ?_))
    rw [if_neg ne10] at hRk
    exact (hK.frg f1 (by omega)).ord ⟨_, _, _, _, _, rfl, hc1.2.2.1.qw, c_cost hS.1 hS.2.2.1 hRk hs hpm, _, told_tv _, hP h1 ⟨own, A, ⟨_, _, _, _, _, _, _, _, _, _, _, _, _, _, hc1⟩, hG, rfl⟩⟩
  · rw [if_neg (show ¬ 6 = 5 by decide), if_pos rfl] at hP
    rw [if_neg (show ¬ nI 6 = (5 : Int32) by decide +kernel), if_pos (show nI 6 = (6 : Int32) from rfl)]
    refine hc.o (p_reckoned hc hS (fun h1 P' LC' BO' hRk hc1 f1 => ?_))
    rw [if_pos rfl] at hRk
    exact (hK.frg f1 (by omega)).ord ⟨_, _, _, _, _, rfl, hc1.2.2.1.qw, c_cost hS.2.1 hS.2.2.1 hRk hs hpm, _, told_tv _, hP h1 ⟨own, A, ⟨_, _, _, _, _, _, _, _, _, _, _, _, _, _, hc1⟩, hG, rfl⟩⟩
  · rw [if_neg (show ¬ 7 = 5 by decide), if_neg (show ¬ 7 = 6 by decide), if_pos rfl] at hP
    rw [if_neg (show ¬ nI 7 = (5 : Int32) by decide +kernel), if_neg (show ¬ nI 7 = (6 : Int32) by decide +kernel), if_pos (show nI 7 = (7 : Int32) from rfl)]
    exact hK.run ⟨_, told_tv _, hP h h00⟩
  · rw [if_neg (show ¬ 8 = 5 by decide), if_neg (show ¬ 8 = 6 by decide), if_neg (show ¬ 8 = 7 by decide), if_pos rfl] at hP
    rw [if_neg (show ¬ nI 8 = (5 : Int32) by decide +kernel), if_neg (show ¬ nI 8 = (6 : Int32) by decide +kernel), if_neg (show ¬ nI 8 = (7 : Int32) by decide +kernel), if_pos (show nI 8 = (8 : Int32) from rfl)]
    refine hK.pin ?_
    have hp2 := w2.2.2.2.2
    have hPP := hP h h00
    rcases (show y.2.2.2.2 = 0 ∨ y.2.2.2.2 = 1 by omega) with q | q
    · rw [q] at hPP ⊢
      rw [if_pos (show nI 0 = (0 : Int32) from rfl)]
      exact hPP
    · rw [q] at hPP ⊢
      rw [if_neg (show ¬ nI 1 = (0 : Int32) by decide +kernel)]
      exact hPP
  · rw [if_neg (show ¬ 9 = 5 by decide), if_neg (show ¬ 9 = 6 by decide), if_neg (show ¬ 9 = 7 by decide), if_neg (show ¬ 9 = 8 by decide), if_pos rfl] at hP
    rw [if_neg (show ¬ nI 9 = (5 : Int32) by decide +kernel), if_neg (show ¬ nI 9 = (6 : Int32) by decide +kernel), if_neg (show ¬ nI 9 = (7 : Int32) by decide +kernel), if_neg (show ¬ nI 9 = (8 : Int32) by decide +kernel), if_pos (show nI 9 = (9 : Int32) from rfl)]
    refine hc.o (p_reckoned hc hS (fun h1 P' LC' BO' hRk hc1 f1 => ?_))
    rw [if_neg ne10] at hRk
    exact (hK.frg f1 (by omega)).ord ⟨_, _, _, _, _, rfl, hc1.2.2.1.qw, c_excess hS.1 hS.2.2.1 hRk hs (by have := w2.1; omega) hpm, _, told_tv _, hP h1 ⟨own, A, ⟨_, _, _, _, _, _, _, _, _, _, _, _, _, _, hc1⟩, hG, rfl⟩⟩
  · rw [if_neg (show ¬ 10 = 5 by decide), if_neg (show ¬ 10 = 6 by decide), if_neg (show ¬ 10 = 7 by decide), if_neg (show ¬ 10 = 8 by decide), if_neg (show ¬ 10 = 9 by decide), if_pos rfl] at hP
    rw [if_neg (show ¬ nI 10 = (5 : Int32) by decide +kernel), if_neg (show ¬ nI 10 = (6 : Int32) by decide +kernel), if_neg (show ¬ nI 10 = (7 : Int32) by decide +kernel), if_neg (show ¬ nI 10 = (8 : Int32) by decide +kernel), if_neg (show ¬ nI 10 = (9 : Int32) by decide +kernel), if_pos (show nI 10 = (10 : Int32) from rfl)]
    have hPP := hP h h00
    refine hc.nowR (hs0.o (p_drifts hs0 hS hK w2 (set := 0) (by decide) ?_))
    rw [gsel_0]
    cases hd : drB A.1.2.1 A.1.2.2.2.2.1 y with
    | true =>
      rw [hd] at hPP
      rw [if_neg (show ¬ nI (if true = true then 1 else 0) = (0 : Int32) by decide +kernel)]
      exact hPP
    | false =>
      rw [hd] at hPP
      rw [if_pos (show nI (if false = true then 1 else 0) = (0 : Int32) by decide +kernel)]
      exact hPP
  · rw [if_neg (show ¬ 11 = 5 by decide), if_neg (show ¬ 11 = 6 by decide), if_neg (show ¬ 11 = 7 by decide), if_neg (show ¬ 11 = 8 by decide), if_neg (show ¬ 11 = 9 by decide), if_neg (show ¬ 11 = 10 by decide), if_pos rfl] at hP
    rw [if_neg (show ¬ nI 11 = (5 : Int32) by decide +kernel), if_neg (show ¬ nI 11 = (6 : Int32) by decide +kernel), if_neg (show ¬ nI 11 = (7 : Int32) by decide +kernel), if_neg (show ¬ nI 11 = (8 : Int32) by decide +kernel), if_neg (show ¬ nI 11 = (9 : Int32) by decide +kernel), if_neg (show ¬ nI 11 = (10 : Int32) by decide +kernel), if_pos (show nI 11 = (11 : Int32) from rfl)]
    exact hP h h00
  · have nn : ∀ m, 5 ≤ m → m < 12 → ¬ nI n = nI m := fun m m1 m2 z => by have := nI_inj31 (by omega) (by omega) z; omega
    have k5 : ¬ nI n = (5 : Int32) := nn 5 (by decide) (by decide)
    have k6 : ¬ nI n = (6 : Int32) := nn 6 (by decide) (by decide)
    have k7 : ¬ nI n = (7 : Int32) := nn 7 (by decide) (by decide)
    have k8 : ¬ nI n = (8 : Int32) := nn 8 (by decide) (by decide)
    have k9 : ¬ nI n = (9 : Int32) := nn 9 (by decide) (by decide)
    have k10 : ¬ nI n = (10 : Int32) := nn 10 (by decide) (by decide)
    have k11 : ¬ nI n = (11 : Int32) := nn 11 (by decide) (by decide)
    rw [if_neg k5, if_neg k6, if_neg k7, if_neg k8, if_neg k9, if_neg k10, if_neg k11]
    rw [if_neg (show ¬ n = 5 by omega), if_neg (show ¬ n = 6 by omega), if_neg (show ¬ n = 7 by omega), if_neg (show ¬ n = 8 by omega), if_neg (show ¬ n = 9 by omega), if_neg (show ¬ n = 10 by omega), if_neg (show ¬ n = 11 by omega)] at hP
    refine ⟨_, c_bitCount _ hs, ?_⟩
    by_cases q : pc y.1 ≤ n
    · rw [if_pos q] at hP
      rw [if_pos (nI_le q (by omega))]
      exact hP h h00
    · rw [if_neg q] at hP
      rw [if_neg (nI_ge (by omega) (by omega))]
      have ep := perms_at _ hs _ hpm n (by omega)
      rw [hpl] at ep
      exact hK.ord ⟨_, ep, hP h h00⟩
theorem q_c0 (h0 : OD ct a0 ax h d) {Post : Int32 → KH → Prop} (hP : ∀ h1, OD ct a0 ax h1 d → Post (nI d.2.2.2.1.length) h1) : g_X5_counted ct a0 ax (nI 0) h Post := by
  have h00 := h0
  obtain ⟨own, A, ⟨nw, snO, hl, hks, rk, b1, b2, b3, pd, sg, P, LC, BO, SIG, hc⟩, hG, rfl⟩ := h0
  have hI := hG.1
  have hS := hI.1
  obtain ⟨r, g, p, l, pr, kas, hs⟩ := hc.2.2.2.2.1
  unfold g_X5_counted
  rw [if_pos (show nI 0 = (0 : Int32) from rfl)]
  have e5 : A.1.2.2.2.1.length = kas.length := by rw [hs.kpe, List.length_map]
  rw [e5] at hP
  exact hc.nowR (hs.sz (hP h h00))
theorem q_c1 (h0 : OD ct a0 ax h d) {Post : Int32 → KH → Prop} (hP : ∀ h1, OD ct a0 ax h1 d → Post (nI (sumL (fun x : PL => x.2.2.2.2) d.2.2.2.1)) h1) : g_X5_counted ct a0 ax (nI 1) h Post := by
  have h00 := h0
  obtain ⟨own, A, ⟨nw, snO, hl, hks, rk, b1, b2, b3, pd, sg, P, LC, BO, SIG, hc⟩, hG, rfl⟩ := h0
  have hI := hG.1
  have hS := hI.1
  obtain ⟨r, g, p, l, pr, kas, hs⟩ := hc.2.2.2.2.1
  unfold g_X5_counted
  rw [if_neg (show ¬ nI 1 = (0 : Int32) by decide +kernel), if_pos (show nI 1 = (1 : Int32) from rfl)]
  refine hc.nowR (hs.o (c_countPinned hc.2.2.2.2.1 hS ?_))
  have e : sumL (fun x : PL => if x.2.2.2.2 = 0 then 0 else 1) A.1.2.2.2.1 = sumL (fun x : PL => x.2.2.2.2) A.1.2.2.2.1 := sumL_congr (fun x hx => by
    have := (hS.2.2.2.1 x hx).2.2.2.2
    by_cases q : x.2.2.2.2 = 0
    · rw [if_pos q, q]
    · rw [if_neg q]; omega)
  rw [e]
  exact hP h h00
theorem q_c2 (h0 : OD ct a0 ax h d) {Post : Int32 → KH → Prop} (hP : ∀ h1, OD ct a0 ax h1 d → Post (nI d.2.2.2.2.1) h1) : g_X5_counted ct a0 ax (nI 2) h Post := by
  have h00 := h0
  obtain ⟨own, A, ⟨nw, snO, hl, hks, rk, b1, b2, b3, pd, sg, P, LC, BO, SIG, hc⟩, hG, rfl⟩ := h0
  have hI := hG.1
  have hS := hI.1
  obtain ⟨r, g, p, l, pr, kas, hs⟩ := hc.2.2.2.2.1
  unfold g_X5_counted
  rw [if_neg (show ¬ nI 2 = (0 : Int32) by decide +kernel), if_neg (show ¬ nI 2 = (1 : Int32) by decide +kernel), if_pos (show nI 2 = (2 : Int32) from rfl)]
  exact hc.nowR (hs.dI (hP h h00))
theorem q_c3 (h0 : OD ct a0 ax h d) {Post : Int32 → KH → Prop} (hP : ∀ h1, OD ct a0 ax h1 d → Post (tv (lN (d.2.2.2.2.2 0))) h1) : g_X5_counted ct a0 ax (nI 3) h Post := by
  have h00 := h0
  obtain ⟨own, A, ⟨nw, snO, hl, hks, rk, b1, b2, b3, pd, sg, P, LC, BO, SIG, hc⟩, hG, rfl⟩ := h0
  have hI := hG.1
  have hS := hI.1
  obtain ⟨r, g, p, l, pr, kas, hs⟩ := hc.2.2.2.2.1
  unfold g_X5_counted
  rw [if_neg (show ¬ nI 3 = (0 : Int32) by decide +kernel), if_neg (show ¬ nI 3 = (1 : Int32) by decide +kernel), if_neg (show ¬ nI 3 = (2 : Int32) by decide +kernel), if_pos (show nI 3 = (3 : Int32) from rfl)]
  exact hc.nowR ⟨_, _, hs.1, rfl, _, told_tv _, hP h h00⟩
theorem q_c4 (h0 : OD ct a0 ax h d) {Post : Int32 → KH → Prop} (hP : ∀ h1, OD ct a0 ax h1 d → Post (tv (lN (d.2.2.2.2.2 1))) h1) : g_X5_counted ct a0 ax (nI 4) h Post := by
  have h00 := h0
  obtain ⟨own, A, ⟨nw, snO, hl, hks, rk, b1, b2, b3, pd, sg, P, LC, BO, SIG, hc⟩, hG, rfl⟩ := h0
  have hI := hG.1
  have hS := hI.1
  obtain ⟨r, g, p, l, pr, kas, hs⟩ := hc.2.2.2.2.1
  unfold g_X5_counted
  rw [if_neg (show ¬ nI 4 = (0 : Int32) by decide +kernel), if_neg (show ¬ nI 4 = (1 : Int32) by decide +kernel), if_neg (show ¬ nI 4 = (2 : Int32) by decide +kernel), if_neg (show ¬ nI 4 = (3 : Int32) by decide +kernel), if_pos (show nI 4 = (4 : Int32) from rfl)]
  exact hc.nowR ⟨_, _, hs.1, rfl, _, told_tv _, hP h h00⟩
theorem q_c5 (h0 : OD ct a0 ax h d) {Post : Int32 → KH → Prop} (hP : ∀ h1, OD ct a0 ax h1 d → Post (tv (lN (d.2.2.2.2.2 2))) h1) : g_X5_counted ct a0 ax (nI 5) h Post := by
  have h00 := h0
  obtain ⟨own, A, ⟨nw, snO, hl, hks, rk, b1, b2, b3, pd, sg, P, LC, BO, SIG, hc⟩, hG, rfl⟩ := h0
  have hI := hG.1
  have hS := hI.1
  obtain ⟨r, g, p, l, pr, kas, hs⟩ := hc.2.2.2.2.1
  unfold g_X5_counted
  rw [if_neg (show ¬ nI 5 = (0 : Int32) by decide +kernel), if_neg (show ¬ nI 5 = (1 : Int32) by decide +kernel), if_neg (show ¬ nI 5 = (2 : Int32) by decide +kernel), if_neg (show ¬ nI 5 = (3 : Int32) by decide +kernel), if_neg (show ¬ nI 5 = (4 : Int32) by decide +kernel), if_pos (show nI 5 = (5 : Int32) from rfl)]
  exact hc.nowR ⟨_, _, hs.1, rfl, _, told_tv _, hP h h00⟩
theorem q_c6 (h0 : OD ct a0 ax h d) {Post : Int32 → KH → Prop} (hP : ∀ h1, OD ct a0 ax h1 d → Post (tv (lN (d.2.2.2.2.2 3))) h1) : g_X5_counted ct a0 ax (nI 6) h Post := by
  have h00 := h0
  obtain ⟨own, A, ⟨nw, snO, hl, hks, rk, b1, b2, b3, pd, sg, P, LC, BO, SIG, hc⟩, hG, rfl⟩ := h0
  have hI := hG.1
  have hS := hI.1
  obtain ⟨r, g, p, l, pr, kas, hs⟩ := hc.2.2.2.2.1
  unfold g_X5_counted
  rw [if_neg (show ¬ nI 6 = (0 : Int32) by decide +kernel), if_neg (show ¬ nI 6 = (1 : Int32) by decide +kernel), if_neg (show ¬ nI 6 = (2 : Int32) by decide +kernel), if_neg (show ¬ nI 6 = (3 : Int32) by decide +kernel), if_neg (show ¬ nI 6 = (4 : Int32) by decide +kernel), if_neg (show ¬ nI 6 = (5 : Int32) by decide +kernel), if_pos (show nI 6 = (6 : Int32) from rfl)]
  exact hc.nowR ⟨_, _, hs.1, rfl, _, told_tv _, hP h h00⟩
theorem q_c7 (h0 : OD ct a0 ax h d) {Post : Int32 → KH → Prop} (hP : ∀ h1, OD ct a0 ax h1 d → Post (tv (lN (d.2.2.2.2.2 4))) h1) : g_X5_counted ct a0 ax (nI 7) h Post := by
  have h00 := h0
  obtain ⟨own, A, ⟨nw, snO, hl, hks, rk, b1, b2, b3, pd, sg, P, LC, BO, SIG, hc⟩, hG, rfl⟩ := h0
  have hI := hG.1
  have hS := hI.1
  obtain ⟨r, g, p, l, pr, kas, hs⟩ := hc.2.2.2.2.1
  unfold g_X5_counted
  rw [if_neg (show ¬ nI 7 = (0 : Int32) by decide +kernel), if_neg (show ¬ nI 7 = (1 : Int32) by decide +kernel), if_neg (show ¬ nI 7 = (2 : Int32) by decide +kernel), if_neg (show ¬ nI 7 = (3 : Int32) by decide +kernel), if_neg (show ¬ nI 7 = (4 : Int32) by decide +kernel), if_neg (show ¬ nI 7 = (5 : Int32) by decide +kernel), if_neg (show ¬ nI 7 = (6 : Int32) by decide +kernel), if_pos (show nI 7 = (7 : Int32) from rfl)]
  exact hc.nowR ⟨_, _, hs.1, rfl, _, told_tv _, hP h h00⟩
theorem q_c8 (h0 : OD ct a0 ax h d) {Post : Int32 → KH → Prop} (hP : ∀ h1, OD ct a0 ax h1 d → Post (tv (lN (d.2.2.2.2.2 5))) h1) : g_X5_counted ct a0 ax (nI 8) h Post := by
  have h00 := h0
  obtain ⟨own, A, ⟨nw, snO, hl, hks, rk, b1, b2, b3, pd, sg, P, LC, BO, SIG, hc⟩, hG, rfl⟩ := h0
  have hI := hG.1
  have hS := hI.1
  obtain ⟨r, g, p, l, pr, kas, hs⟩ := hc.2.2.2.2.1
  unfold g_X5_counted
  rw [if_neg (show ¬ nI 8 = (0 : Int32) by decide +kernel), if_neg (show ¬ nI 8 = (1 : Int32) by decide +kernel), if_neg (show ¬ nI 8 = (2 : Int32) by decide +kernel), if_neg (show ¬ nI 8 = (3 : Int32) by decide +kernel), if_neg (show ¬ nI 8 = (4 : Int32) by decide +kernel), if_neg (show ¬ nI 8 = (5 : Int32) by decide +kernel), if_neg (show ¬ nI 8 = (6 : Int32) by decide +kernel), if_neg (show ¬ nI 8 = (7 : Int32) by decide +kernel), if_pos (show nI 8 = (8 : Int32) from rfl)]
  exact hc.nowR ⟨_, _, hs.1, rfl, _, told_tv _, hP h h00⟩
theorem q_c9 (h0 : OD ct a0 ax h d) {Post : Int32 → KH → Prop} (hP : ∀ h1, OD ct a0 ax h1 d → Post (tv (lN (d.2.2.2.2.2 6))) h1) : g_X5_counted ct a0 ax (nI 9) h Post := by
  have h00 := h0
  obtain ⟨own, A, ⟨nw, snO, hl, hks, rk, b1, b2, b3, pd, sg, P, LC, BO, SIG, hc⟩, hG, rfl⟩ := h0
  have hI := hG.1
  have hS := hI.1
  obtain ⟨r, g, p, l, pr, kas, hs⟩ := hc.2.2.2.2.1
  unfold g_X5_counted
  rw [if_neg (show ¬ nI 9 = (0 : Int32) by decide +kernel), if_neg (show ¬ nI 9 = (1 : Int32) by decide +kernel), if_neg (show ¬ nI 9 = (2 : Int32) by decide +kernel), if_neg (show ¬ nI 9 = (3 : Int32) by decide +kernel), if_neg (show ¬ nI 9 = (4 : Int32) by decide +kernel), if_neg (show ¬ nI 9 = (5 : Int32) by decide +kernel), if_neg (show ¬ nI 9 = (6 : Int32) by decide +kernel), if_neg (show ¬ nI 9 = (7 : Int32) by decide +kernel), if_neg (show ¬ nI 9 = (8 : Int32) by decide +kernel), if_pos (show nI 9 = (9 : Int32) from rfl)]
  exact hc.nowR ⟨_, _, hs.1, rfl, _, told_tv _, hP h h00⟩
theorem q_c10 (h0 : OD ct a0 ax h d) {Post : Int32 → KH → Prop} (hP : ∀ h1, OD ct a0 ax h1 d → Post (tv (lN (d.2.2.2.2.2 7))) h1) : g_X5_counted ct a0 ax (nI 10) h Post := by
  have h00 := h0
  obtain ⟨own, A, ⟨nw, snO, hl, hks, rk, b1, b2, b3, pd, sg, P, LC, BO, SIG, hc⟩, hG, rfl⟩ := h0
  have hI := hG.1
  have hS := hI.1
  obtain ⟨r, g, p, l, pr, kas, hs⟩ := hc.2.2.2.2.1
  unfold g_X5_counted
  rw [if_neg (show ¬ nI 10 = (0 : Int32) by decide +kernel), if_neg (show ¬ nI 10 = (1 : Int32) by decide +kernel), if_neg (show ¬ nI 10 = (2 : Int32) by decide +kernel), if_neg (show ¬ nI 10 = (3 : Int32) by decide +kernel), if_neg (show ¬ nI 10 = (4 : Int32) by decide +kernel), if_neg (show ¬ nI 10 = (5 : Int32) by decide +kernel), if_neg (show ¬ nI 10 = (6 : Int32) by decide +kernel), if_neg (show ¬ nI 10 = (7 : Int32) by decide +kernel), if_neg (show ¬ nI 10 = (8 : Int32) by decide +kernel), if_neg (show ¬ nI 10 = (9 : Int32) by decide +kernel), if_pos (show nI 10 = (10 : Int32) from rfl)]
  exact hc.nowR ⟨_, _, hs.1, rfl, _, told_tv _, hP h h00⟩
theorem q_c11 (h0 : OD ct a0 ax h d) {Post : Int32 → KH → Prop} (hP : ∀ h1, OD ct a0 ax h1 d → Post (tv (lN (d.2.2.2.2.2 8))) h1) : g_X5_counted ct a0 ax (nI 11) h Post := by
  have h00 := h0
  obtain ⟨own, A, ⟨nw, snO, hl, hks, rk, b1, b2, b3, pd, sg, P, LC, BO, SIG, hc⟩, hG, rfl⟩ := h0
  have hI := hG.1
  have hS := hI.1
  obtain ⟨r, g, p, l, pr, kas, hs⟩ := hc.2.2.2.2.1
  unfold g_X5_counted
  rw [if_neg (show ¬ nI 11 = (0 : Int32) by decide +kernel), if_neg (show ¬ nI 11 = (1 : Int32) by decide +kernel), if_neg (show ¬ nI 11 = (2 : Int32) by decide +kernel), if_neg (show ¬ nI 11 = (3 : Int32) by decide +kernel), if_neg (show ¬ nI 11 = (4 : Int32) by decide +kernel), if_neg (show ¬ nI 11 = (5 : Int32) by decide +kernel), if_neg (show ¬ nI 11 = (6 : Int32) by decide +kernel), if_neg (show ¬ nI 11 = (7 : Int32) by decide +kernel), if_neg (show ¬ nI 11 = (8 : Int32) by decide +kernel), if_neg (show ¬ nI 11 = (9 : Int32) by decide +kernel), if_neg (show ¬ nI 11 = (10 : Int32) by decide +kernel), if_pos (show nI 11 = (11 : Int32) from rfl)]
  exact hc.nowR ⟨_, _, hs.1, rfl, _, told_tv _, hP h h00⟩
end QRY
