/-! what would be: ifRun, leastDrift -/
section IFR
variable {ct : Nat → ClassId} {a0 : Nat} {N : Nat} {v : Nat → Nat} {E : List ME} {st : DS}
theorem m_aside2 (s spare : Nat → Int32) (paid sp : Nat → Int64) : f_X6_putsAside s spare paid sp = some (cpy spare 0 s 100, up2 sp 0 (paid 0) (paid 1)) := by
  have g := m_aside (s := s) (paid := paid) (sp := sp) (spare := spare) 1024 0 (by decide) (by decide)
  rw [cpy_0] at g
  exact g
theorem m_back2 (s spare : Nat → Int32) (paid sp : Nat → Int64) : f_X6_putsBack s spare paid sp = some (cpy s 0 spare 100, up2 paid 0 (sp 0) (sp 1)) := by
  have g := m_back (s := s) (paid := paid) (sp := sp) (spare := spare) 1024 0 (by decide) (by decide)
  rw [cpy_0] at g
  exact g
theorem back_St {s spare s' : Nat → Int32} {paid sp paid' : Nat → Int64} (h : StR N s 0 paid 0 st) : StR N (cpy s' 0 (cpy spare 0 s 100) 100) 0 (up2 paid' 0 (up2 sp 0 (paid 0) (paid 1) 0) (up2 sp 0 (paid 0) (paid 1) 1)) 0 st := by
  refine h.cp (fun i hi => ?_) ?_ ?_
  · rw [cpy_in hi]
    have := cpy_in (a := spare) (b := 0) (src := s) hi
    rw [Nat.zero_add] at this ⊢
    exact this
  · exact (up2_0 (b := 0)).trans (up2_0 (b := 0))
  · exact (up2_1 (b := 0)).trans (up2_1 (b := 0))
theorem runA_some {sh i : Nat} {x : PL} (hD : DOK st) (hi : st.2.2.2.1[i]? = some x) (hx : x.1 = sh) : (runA st sh).1 = x.2.1 ∧ (runA st sh).2.1 = 0 := by
  have e := idxS_some _ i x hD hi hx
  unfold runA
  rw [e, hi]
  exact ⟨rfl, rfl⟩
theorem runA_none {sh : Nat} (hno : ∀ x ∈ st.2.2.2.1, x.1 ≠ sh) : (runA st sh).1 = bestP (szN st.2.1 st.2.2.1) sh ∧ (runA st sh).2.1 = 10 * pc sh := by
  have e := idxS_none _ hno
  unfold runA
  rw [e]
  exact ⟨rfl, rfl⟩
set_option maxHeartbeats 1000000 in
theorem sq_ifRun : St_ifRun ct a0 (Rel ct a0) := by
  intro j hj ax h M a1 hr
  have hr1 := hr.up
  obtain ⟨own, A, ⟨nw, snO, hl, hks, rk, b1, b2, b3, pd, sg, P, LC, BO, SIG, hc⟩, ⟨m1, m2, m3, m4, m5, m6⟩, hG⟩ := hr
  obtain ⟨v, E, eM, hR, hkp, hpa⟩ := m1.opn
  have hI := hG.1
  have hS := hI.1
  rcases set_or a1 with ⟨s, s1, hs, rfl, e1, e2⟩ | ⟨e1, e2⟩
  · refine ⟨1, e1, ?_⟩
    rw [if_neg ne10]
    obtain ⟨v', E', paid', o1, bb1, mm1, g1, g2, g3, g4⟩ := m_runsOf hR (by omega) hkp hS hI.2.2.1 hs (by omega) hpa M.2.2.2.2.2.2.2.2.2.2.2.2.2.2.2.1 M.2.2.2.2.2.2.2.2.2.2.2.2.2.2.2.2.1 M.2.2.2.2.2.2.2.2.2.2.2.2.2.2.2.2.2.1
    rw [← eM] at g1
    have fin : ∀ (h1 : KH) (P' LC' : Nat → Int64) (BO' : Nat → Int32), CX ct a0 own h1 ax nw snO hl hks rk b1 b2 b3 pd sg P' LC' BO' SIG A → ∀ x, x = lN (runC A.1 s) → (∃ q5, f_X5_told x = some q5 ∧ ∃ q : Int32 × (Nat → Int32) × (Nat → Int32) × (Nat → Int64) × (Nat → Int64) × (Nat → Int32) × (Nat → Int32) × (Int32), f_X6_ifRun (nI s) M.1 M.2.2.2.1 M.2.2.2.2.1 M.2.2.2.2.2.2.2.1 M.2.2.2.2.2.2.2.2.2.2.2.2.2.2.2.1 M.2.2.2.2.2.2.2.2.2.2.2.2.2.2.2.2.1 M.2.2.2.2.2.2.2.2.2.2.2.2.2.2.2.2.2.1 = some q ∧ q.1 = q5 ∧ Rel ct a0 (j + 1) ax h1 (q.2.1, M.2.1, M.2.2.1, q.2.2.1, q.2.2.2.1, M.2.2.2.2.2.1, M.2.2.2.2.2.2.1, q.2.2.2.2.1, M.2.2.2.2.2.2.2.2.1, M.2.2.2.2.2.2.2.2.2.1, M.2.2.2.2.2.2.2.2.2.2.1, M.2.2.2.2.2.2.2.2.2.2.2.1, M.2.2.2.2.2.2.2.2.2.2.2.2.1, M.2.2.2.2.2.2.2.2.2.2.2.2.2.1, M.2.2.2.2.2.2.2.2.2.2.2.2.2.2.1, q.2.2.2.2.2.1, q.2.2.2.2.2.2.1, q.2.2.2.2.2.2.2, M.2.2.2.2.2.2.2.2.2.2.2.2.2.2.2.2.2.2.1, M.2.2.2.2.2.2.2.2.2.2.2.2.2.2.2.2.2.2.2.1, M.2.2.2.2.2.2.2.2.2.2.2.2.2.2.2.2.2.2.2.2.1, M.2.2.2.2.2.2.2.2.2.2.2.2.2.2.2.2.2.2.2.2.2)) := fun h1 P' LC' BO' hc1 x hx => by
      obtain ⟨z, hz⟩ : ∃ z, f_X5_told x = some z := ⟨_, rfl⟩
      refine ⟨z, hz, (z, cpy (SI v') 0 (cpy M.2.2.2.1 0 M.1 100) 100, cpy M.2.2.2.1 0 M.1 100, up2 paid' 0 (up2 M.2.2.2.2.2.2.2.1 0 (M.2.2.2.2.1 0) (M.2.2.2.2.1 1) 0) (up2 M.2.2.2.2.2.2.2.1 0 (M.2.2.2.2.1 0) (M.2.2.2.2.1 1) 1), up2 M.2.2.2.2.2.2.2.1 0 (M.2.2.2.2.1 0) (M.2.2.2.2.1 1), o1, bb1, mm1), ?_, rfl, own, A, ⟨_, _, _, _, _, _, _, _, _, _, _, _, _, _, hc1⟩, ⟨back_St (m1.mono (by omega)), m2.mono (by omega), m3.mono (by omega), m4, m5, m6⟩, hG⟩
      unfold f_X6_ifRun
      rw [e2, bnd_s, if_neg ne10, m_aside2, bnd_s, g1, bnd_s, told_cut, ← hx, hz, bnd_s, m_back2, bnd_s]
    obtain ⟨r, g, p, l, pr, kas, hs0⟩ := hc.2.2.2.2.1
    refine hc.nowR (hs0.o (c_placeOf hc.2.2.2.2.1 hS hs (fun i x hi hx => ?_) (fun hno => ?_)))
    · have hil := (List.getElem?_eq_some_iff.mp hi).1
      have h4 := hS.2.2.2.2.1
      rw [if_neg (nI_m1 (by omega))]
      obtain ⟨k1, k2⟩ := runA_some hI.2.2.1 hi hx
      have hP := hS.2.2.2.1 x (List.mem_of_getElem? hi)
      refine hc.o (p_reckoned hc hS (fun h1 P' LC' BO' hRk hc1 f1 => ?_))
      rw [if_neg ne10] at hRk
      obtain ⟨r, g, p, l, pr, kas, hs1⟩ := hc1.2.2.2.2.1
      obtain ⟨k, hk⟩ := getK hs1 (i := i) (x := x) hi
      have hK := hs1.kp _ (List.mem_of_getElem? hk)
      refine hc1.nowR (hs1.gt hk (hK.ord ⟨_, _, _, _, _, rfl, hc1.2.2.1.qw, c_cost hS.1 hS.2.2.1 hRk hs (by rw [← hx]; exact hP.2.2.1), fin _ _ _ _ hc1 _ ?_⟩))
      unfold runC
      rw [k1, k2, Nat.zero_add]
    · rw [if_pos rfl]
      obtain ⟨k1, k2⟩ := runA_none hno
      refine hc.o (p_reckoned hc hS (fun h1 P' LC' BO' hRk hc1 f1 => ?_))
      rw [if_pos rfl] at hRk
      refine ⟨_, _, _, _, _, rfl, hc1.2.2.1.qw, c_best hRk hs (by omega), _, c_making s hs, ?_⟩
      refine hc1.o (p_reckoned hc1 hS (fun h2 P2 LC2 BO2 hRk2 hc2 f2 => ?_))
      rw [if_neg ne10] at hRk2
      refine ⟨_, _, _, _, _, rfl, hc2.2.2.1.qw, c_cost hS.1 hS.2.2.1 hRk2 hs (bestP_bst _ hs).1, fin _ _ _ _ hc2 _ ?_⟩
      unfold runC
      rw [k1, k2, lN_add]
  · refine ⟨0, e1, ?_⟩
    rw [if_pos rfl]
    exact ⟨_, by unfold f_X6_ifRun; rw [e2, bnd_s, if_pos rfl], rfl, hr1⟩
/-! the least drift -/
theorem dup_le_iff {u w d : Nat} (h : 1 ≤ min u w) : (d < dup u w) ↔ (min u w * d < max u w * 100) := by
  unfold dup
  generalize min u w = m at *
  generalize max u w * 100 = a at *
  have key : (a + m - 1) / m ≤ d ↔ a ≤ m * d := by
    rw [← Nat.lt_succ_iff, Nat.div_lt_iff_lt_mul h, Nat.succ_mul, Nat.mul_comm d m]
    omega
  omega
theorem drU_bear {gv : Nat → Nat} {d : Nat} {x : PL} (hg : NB gv) (hx : NB x.2.2.1) : ∀ n, n ≤ 5 → (drU gv d x n = true ↔ d < bear gv x n)
  | 0, _ => ⟨(fun z => by cases z), fun z => absurd z (Nat.not_lt_zero _)⟩
  | t + 1, ht => by
    have ih := drU_bear (d := d) hg hx t (by omega)
    have h1 := hg t (by omega)
    have h2 := hx t (by omega)
    have hm : 1 ≤ min (gv t) (x.2.2.1 t) := Nat.le_min.mpr ⟨h1.1, h2.1⟩
    have hd := dup_le_iff (d := d) hm
    show ((drU gv d x t || cond gv d x t) = true) ↔ d < (if bi x.1 t = 1 then max (bear gv x t) (dup (gv t) (x.2.2.1 t)) else bear gv x t)
    rw [Bool.or_eq_true, ih]
    unfold cond
    rw [Bool.and_eq_true, beq_iff_eq, decide_eq_true_eq, ← hd]
    by_cases q : bi x.1 t = 1
    · rw [if_pos q]
      generalize bear gv x t = y
      generalize dup (gv t) (x.2.2.1 t) = z
      omega
    · rw [if_neg q]
      exact ⟨fun z => z.resolve_right (fun w => q w.1), fun z => Or.inl z⟩
def bM (gv : Nat → Nat) : List PL → Nat
  | [] => 0
  | x :: l => max (if x.2.2.2.2 = 0 then bear gv x 5 else 0) (bM gv l)
def lz (gv : Nat → Nat) (d : Nat) (x : PL) : Bool := x.2.2.2.2 == 0 && drB gv d x
theorem bM_any {gv : Nat → Nat} (hg : NB gv) (d : Nat) : ∀ (l : List PL), (∀ x ∈ l, POK x) → (l.any (lz gv d) = true ↔ d < bM gv l)
  | [], _ => ⟨(fun z => by cases z), fun z => absurd z (Nat.not_lt_zero _)⟩
  | x :: l, h => by
    have ih := bM_any hg d l (fun y hy => h y (List.mem_cons_of_mem _ hy))
    have hb := drU_bear (d := d) hg (h x List.mem_cons_self).2.2.2.1 5 (Nat.le_refl _)
    rw [List.any_cons, Bool.or_eq_true, ih]
    show lz gv d x = true ∨ d < bM gv l ↔ d < max (if x.2.2.2.2 = 0 then bear gv x 5 else 0) (bM gv l)
    unfold lz drB
    rw [Bool.and_eq_true, beq_iff_eq, hb]
    by_cases q : x.2.2.2.2 = 0
    · rw [if_pos q]; generalize bear gv x 5 = y; omega
    · rw [if_neg q]
      refine ⟨fun z => ?_, fun z => Or.inr (by omega)⟩
      rcases z with z | z
      · exact absurd z.1 q
      · omega
theorem bM_le {gv : Nat → Nat} (hg : NB gv) : ∀ (l : List PL), (∀ x ∈ l, POK x) → bM gv l ≤ 60000
  | [], _ => Nat.zero_le _
  | x :: l, h => by
    have ih := bM_le hg l (fun y hy => h y (List.mem_cons_of_mem _ hy))
    have hb := bear_le hg (h x List.mem_cons_self).2.2.2.1 5 (Nat.le_refl _)
    show max (if x.2.2.2.2 = 0 then bear gv x 5 else 0) (bM gv l) ≤ 60000
    split <;> omega
theorem m_ld14 (hR : SR N v E st) (hS : SOK st) (hN : N < 2 ^ 28) {d : Nat} (hd : d ≤ 1000) (k3 : Int32 → Option Int32) : ∀ (n k : Nat) (b : Bool), k ≤ 4 → 4 < n + k → (b = true ↔ ∃ e ∈ E, e.2.1 < k ∧ lz st.2.1 d e.1 = true) →
    f_X6_leastDrift_L14 (SI v) k3 n (nI d) (nI (if b = true then 0 else 1)) (nI k) = if E.any (fun e => lz st.2.1 d e.1) = true then k3 (nI (d + 1)) else some (nI d)
  | 0, k, b, h1, h2, _ => by omega
  | n + 1, k, b, h1, h2, hb => by
    show f_X6_leastDrift_L14b _ _ _ _ _ _ = _
    unfold f_X6_leastDrift_L14b
    have t0 : nI (if true = true then 0 else 1) = (0 : Int32) := by decide +kernel
    have t1 : ¬ nI (if false = true then 0 else 1) = (0 : Int32) := by decide +kernel
    by_cases h4 : 4 ≤ k
    · rw [if_pos (show (4 : Int32) ≤ nI k from nI_le (a := 4) h4 (by omega))]
      have ea : E.any (fun e => lz st.2.1 d e.1) = b := Bool.eq_iff_iff.mpr (List.any_eq_true.trans ⟨fun ⟨e, he, hz⟩ => hb.mpr ⟨e, he, by have := (hR.1.1 e he).1; omega, hz⟩, fun z => by
        obtain ⟨e, he, -, hz⟩ := hb.mp z
        exact ⟨e, he, hz⟩⟩)
      rw [ea]
      cases b with
      | true => rw [if_pos t0, if_pos rfl, show nI d + (1 : Int32) = nI (d + 1) from nI_1 d]
      | false => rw [if_neg t1, if_neg (by decide)]
    · have hk4 : k < 4 := by omega
      rw [if_neg (show ¬ (4 : Int32) ≤ nI k from nI_ge (b := 4) hk4 (by decide)), show nI k + (1 : Int32) = nI (k + 1) from nI_1 k]
      have ih := fun b hb => m_ld14 hR hS hN hd k3 n (k + 1) b (by omega) (by omega) hb
      cases b with
      | true =>
        rw [if_pos t0]
        obtain ⟨e, he, h3, hz⟩ := hb.mp rfl
        exact ih true ⟨fun _ => ⟨e, he, by omega, hz⟩, fun _ => rfl⟩
      | false =>
        rw [if_neg t1]
        have no : ∀ e ∈ E, e.2.1 < k → ¬ lz st.2.1 d e.1 = true := fun e he hk hz => Bool.false_ne_true (hb.mpr ⟨e, he, hk, hz⟩)
        have low : (∀ e ∈ E, e.2.1 = k → ¬ lz st.2.1 d e.1 = true) → f_X6_leastDrift_L14 (SI v) k3 n (nI d) (1 : Int32) (nI (k + 1)) = if E.any (fun e => lz st.2.1 d e.1) = true then k3 (nI (d + 1)) else some (nI d) := fun hno =>
          ih false ⟨(fun z => by cases z), fun ⟨e, he, h3, hz⟩ => by
            by_cases q : e.2.1 = k
            · exact absurd hz (hno e he q)
            · exact absurd hz (no e he (by omega))⟩
        rcases slot_or E k with ⟨e, he, ek⟩ | hno
        · subst ek
          rw [hR.1.loose he hR.2.2 (by omega), bnd_s]
          by_cases q : e.1.2.2.2.2 = 0
          · rw [if_pos q, if_neg (by decide +kernel), m_drifted hR.1 he hR.2.2 (by omega) hS.2.1 (fun t ht => (hR.2.1.1 t ht).2) hd, bnd_s]
            cases hd2 : drB st.2.1 d e.1 with
            | true =>
              rw [if_neg (show ¬ nI (if true = true then 1 else 0) = (0 : Int32) by decide +kernel)]
              exact ih true ⟨fun _ => ⟨e, he, Nat.lt_succ_self _, by unfold lz; rw [hd2, q]; rfl⟩, fun _ => rfl⟩
            | false =>
              rw [if_pos (show nI (if false = true then 1 else 0) = (0 : Int32) by decide +kernel)]
              exact low (fun e' he' h3 hz => by rw [hR.1.uniq he' he h3] at hz; unfold lz at hz; rw [hd2, Bool.and_false] at hz; cases hz)
          · rw [if_neg q, if_pos (show nI 0 = (0 : Int32) from rfl)]
            exact low (fun e' he' h3 hz => by rw [hR.1.uniq he' he h3] at hz; unfold lz at hz; rw [beq_eq_false_iff_ne.mpr q, Bool.false_and] at hz; cases hz)
        · rw [hR.1.loose0 hk4 hno hR.2.2 (by omega), bnd_s, if_pos (show nI 0 = (0 : Int32) from rfl)]
          exact low (fun e' he' h3 => absurd h3 (hno e' he'))
theorem m_ld3 (hR : SR N v E st) (hkp : st.2.2.2.1 = E.map Prod.fst) (hS : SOK st) (hN : N < 2 ^ 28) : ∀ (n d : Nat), 100 ≤ d → d ≤ 1001 → 1001 < n + d → d ≤ max 100 (bM st.2.1 st.2.2.2.1) →
    f_X6_leastDrift_L3 (SI v) n (nI d) = some (if 1000 < max 100 (bM st.2.1 st.2.2.2.1) then -4 else nI (max 100 (bM st.2.1 st.2.2.2.1)))
  | 0, d, _, h1, h2, _ => by omega
  | n + 1, d, h0, h1, h2, h3 => by
    have hb := bM_any hS.2.1 d st.2.2.2.1 hS.2.2.2.1
    show f_X6_leastDrift_L3b _ _ _ = _
    unfold f_X6_leastDrift_L3b
    by_cases q : 1000 < d
    · rw [if_pos (show (1000 : Int32) < nI d from nI_lt (a := 1000) q (by omega)), if_pos (by omega)]
    · rw [if_neg (show ¬ (1000 : Int32) < nI d from fun z => q ((nI_ltI (a := 1000) (by decide) (by omega)).mp z))]
      have e := m_ld14 hR hS hN (d := d) (by omega) (f_X6_leastDrift_L3 (SI v) n) 1024 0 false (by decide) (by decide) ⟨(fun z => by cases z), fun ⟨e, he, h3, hz⟩ => absurd h3 (Nat.not_lt_zero _)⟩
      rw [show f_X6_leastDrift_L14 (SI v) (f_X6_leastDrift_L3 (SI v) n) 1024 (nI d) (1 : Int32) (0 : Int32) = _ from e]
      have ea : E.any (fun e => lz st.2.1 d e.1) = st.2.2.2.1.any (lz st.2.1 d) := by rw [hkp, List.any_map]; rfl
      rw [ea]
      by_cases q2 : d < bM st.2.1 st.2.2.2.1
      · rw [if_pos (hb.mpr q2)]
        exact m_ld3 hR hkp hS hN n (d + 1) (by omega) (by omega) (by omega) (by omega)
      · rw [if_neg (fun z => q2 (hb.mp z))]
        have em : max 100 (bM st.2.1 st.2.2.2.1) = d := by omega
        rw [em, if_neg q]
theorem c_ldL {own : Nat → Nat} {h : KH} {ax nw : Nat} {snO : Option Nat} {hl : Nat} {hks : List (Nat × DS)} {rk b1 b2 b3 pd sg : Nat} {P LC : Nat → Int64} {BO SIG : Nat → Int32} {A : AS} (hc : CX ct a0 own h ax nw snO hl hks rk b1 b2 b3 pd sg P LC BO SIG A) {r g p l : Nat} {pr : Nat → Nat} {kas : List (Nat × PL)} (hs : StX ct a0 own h nw r g p l pr kas A.1) (hS : SOK A.1) {Post : Int32 → KH → Prop} : ∀ (n i m : Nat), i ≤ kas.length → kas.length < n + i → m ≤ 60000 →
    Post (if 1000 < max m (bM A.1.2.1 ((kas.drop i).map Prod.snd)) then -4 else nI (max m (bM A.1.2.1 ((kas.drop i).map Prod.snd)))) h → g_X5_leastDrift_L5 ct a0 ax Post n (nI m) (nI i) h
  | 0, i, m, h1, h2, _, _ => by omega
  | n + 1, i, m, h1, h2, hm, hP => by
    have hlen := hs.len
    show g_X5_leastDrift_L5b _ _ _ _ _ _ _ _
    unfold g_X5_leastDrift_L5b
    refine hc.nowR (hs.sz ?_)
    by_cases q : kas.length ≤ i
    · rw [if_pos (nI_le q (by omega))]
      rw [List.drop_eq_nil_of_le q] at hP
      have hP : Post (if 1000 < max m 0 then -4 else nI (max m 0)) h := hP
      rw [Nat.max_zero] at hP
      by_cases q2 : 1000 < m
      · rw [if_pos (show (1000 : Int32) < nI m from nI_lt (a := 1000) q2 (by omega))]
        rwa [if_pos q2] at hP
      · rw [if_neg (show ¬ (1000 : Int32) < nI m from fun z => q2 ((nI_ltI (a := 1000) (by decide) (by omega)).mp z))]
        rwa [if_neg q2] at hP
    · rw [if_neg (nI_ge (by omega) (by omega)), show nI i + (1 : Int32) = nI (i + 1) from nI_1 i]
      have hi : kas[i]? = some kas[i] := List.getElem?_eq_getElem (by omega)
      generalize kas[i] = x at hi
      have hK := hs.kp x (List.mem_of_getElem? hi)
      have hx : POK x.2 := hS.2.2.2.1 _ (by rw [hs.kpe]; exact List.mem_map_of_mem (List.mem_of_getElem? hi))
      rw [drop_get hi, List.map_cons] at hP
      have hP : Post (if 1000 < max m (max (if x.2.2.2.2.2 = 0 then bear A.1.2.1 x.2 5 else 0) (bM A.1.2.1 ((kas.drop (i + 1)).map Prod.snd))) then -4 else nI (max m (max (if x.2.2.2.2.2 = 0 then bear A.1.2.1 x.2 5 else 0) (bM A.1.2.1 ((kas.drop (i + 1)).map Prod.snd))))) h := hP
      have hbl := bear_le hS.2.1 hx.2.2.2.1 5 (Nat.le_refl _)
      refine hc.nowR (hs.gt hi (hK.pin ?_))
      have hp2 := hx.2.2.2.2
      by_cases q3 : x.2.2.2.2.2 = 0
      · rw [if_pos q3, ← Nat.max_assoc] at hP
        rw [if_pos (show nI x.2.2.2.2.2 = (0 : Int32) by rw [q3]; rfl)]
        refine hc.nowR (hs.o (p_bear hs hS hK hx ?_))
        rw [maxI (by omega) (by omega)]
        exact c_ldL hc hs hS n (i + 1) _ (by omega) (by omega) (by omega) hP
      · rw [if_neg q3, Nat.zero_max] at hP
        rw [if_neg (show ¬ nI x.2.2.2.2.2 = (0 : Int32) by rw [show x.2.2.2.2.2 = 1 by omega]; decide +kernel)]
        exact c_ldL hc hs hS n (i + 1) m (by omega) (by omega) hm hP
theorem sq_leastDrift : St_leastDrift ct a0 (Rel ct a0) := by
  intro j hj ax h M hr
  have hr1 := hr.up
  obtain ⟨own, A, ⟨nw, snO, hl, hks, rk, b1, b2, b3, pd, sg, P, LC, BO, SIG, hc⟩, ⟨m1, m2, m3, m4, m5, m6⟩, hG⟩ := hr
  obtain ⟨v, E, eM, hR, hkp, hpa⟩ := m1.opn
  obtain ⟨r, g, p, l, pr, kas, hs⟩ := hc.2.2.2.2.1
  have hS := hG.1.1
  have hlen := hs.len
  refine c_ldL hc hs hS 1024 0 100 (Nat.zero_le _) (by omega) (by decide) ?_
  rw [List.drop_zero, ← hs.kpe]
  refine ⟨_, ?_, rfl, hr1⟩
  unfold f_X6_leastDrift
  rw [eM]
  exact m_ld3 hR hkp hS (by omega) 1024 100 (Nat.le_refl _) (by decide) (by decide) (by omega)
end IFR
