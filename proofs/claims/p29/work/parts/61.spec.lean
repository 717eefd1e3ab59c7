/-! what each call of the class answers and leaves, in the state's own words -/
def tv (x : Int64) : Int32 := (if (1000000000 : Int64) < x then (1000000000 : Int64) else x).toInt32
theorem told_tv (x : Int64) : f_X5_told x = some (tv x) := rfl
theorem tv_sm {n : Nat} (h : n ≤ 1000000000) : tv (lN n) = nI n := Option.some.inj ((told_tv _).symm.trans (told_sm h))
/-- the object at ax in the heap h, its state of now d -/
def OD (ct : Nat → ClassId) (a0 ax : Nat) (h : KH) (d : DS) : Prop := ∃ own A, isCx ct a0 own h ax A ∧ GA A ∧ A.1 = d
theorem tblI : ∀ t, t < 5 → f_X5_isTable (nI t) = some 1 := by decide +kernel
theorem setI : ∀ s, s < 32 → 1 ≤ s → f_X5_isSet (nI s) = some 1 := by decide +kernel
theorem joinI : ∀ t, t < 5 → ∀ u, u < 5 → f_X5_isJoin (nI t) (nI u) = some (if t = u then 0 else 1) := by decide +kernel
theorem set_self {α : Type} : ∀ (l : List α) (i : Nat) (y : α), l[i]? = some y → l.set i y = l
  | [], i, y, h => by cases h
  | x :: l, 0, y, h => by cases h; rfl
  | x :: l, i + 1, y, h => by rw [List.set_cons_succ, set_self l i y h]
section SPC
variable {ct : Nat → ClassId} {a0 ax : Nat} {h : KH} {d : DS}
theorem OD.I (h0 : OD ct a0 ax h d) : IV d := by
  obtain ⟨own, A, -, hG, rfl⟩ := h0
  exact hG.1
theorem OD.obj (h0 : OD ct a0 ax h d) : ∃ fs, h ax = some (.inr (6, fs)) := by
  obtain ⟨own, A, ⟨nw, snO, hl, hks, rk, b1, b2, b3, pd, sg, P, LC, BO, SIG, hc⟩, -, -⟩ := h0
  exact ⟨_, hc.1⟩

theorem u_rows (h0 : OD ct a0 ax h d) {t n : Nat} (ht : t < 5) (n0 : 1 ≤ n) (n1 : n ≤ 500) {Post : Int32 → KH → Prop} (hP : ∀ h1, OD ct a0 ax h1 (nu d.1 t n, d.2) → Post (nI (d.1 t)) h1) : g_X5_rows ct a0 ax (nI t) (nI n) h Post := by
  obtain ⟨own, A, ⟨nw, snO, hl, hks, rk, b1, b2, b3, pd, sg, P, LC, BO, SIG, hc⟩, hG, rfl⟩ := h0
  have hI := hG.1
  refine ⟨1, tblI t ht, ?_⟩
  rw [if_neg ne10, show ∀ P Q : Prop, (if nI n < (1 : Int32) then P else if nI n ≤ (500 : Int32) then Q else P) = Q from fun P Q => if_in n0 n1 (by decide)]
  refine hc.o (p_remember hc hI.1 hI.2.1 hG.2.2.2 (fun own1 h1 hks1 hc1 => ?_))
  obtain ⟨r, g, p, l, pr, kas, hs⟩ := hc1.2.2.2.2.1
  refine hc1.nowR (hs.rI (hs.rv ht (hc1.nowR (hs.rI (hs.stR ht (fun h2 hs2 f2 => ?_))))))
  exact hP h2 ⟨own1, _, ⟨_, _, _, _, _, _, _, _, _, _, _, _, _, _, hc1.now f2 ⟨_, _, _, _, _, _, hs2⟩⟩, ⟨rows_I hI ht ⟨n0, n1⟩, hG.2.1, hG.push, pushH_len hG.2.2.2⟩, rfl⟩
theorem u_count (h0 : OD ct a0 ax h d) {t : Nat} (ht : t < 5) {Post : Int32 → KH → Prop} (hP : ∀ h1, OD ct a0 ax h1 (counted d (2 ^ t)) → Post (nI (countedN d (2 ^ t))) h1) : g_X5_count ct a0 ax (nI t) h Post := by
  obtain ⟨own, A, ⟨nw, snO, hl, hks, rk, b1, b2, b3, pd, sg, P, LC, BO, SIG, hc⟩, hG, rfl⟩ := h0
  have hI := hG.1
  refine ⟨1, tblI t ht, ?_⟩
  rw [if_neg ne10]
  refine hc.o (p_remember hc hI.1 hI.2.1 hG.2.2.2 (fun own1 h1 hks1 hc1 => ?_))
  obtain ⟨r, g, p, l, pr, kas, hs⟩ := hc1.2.2.2.2.1
  refine hc1.nowR ⟨_, c_bit t ht, hs.o (p_count hs hI.1 (pow_lt32 t ht) (fun own2 h2 hs2 f2 => ?_))⟩
  obtain ⟨kas2, hs2⟩ := hs2
  exact hP h2 ⟨own2, _, ⟨_, _, _, _, _, _, _, _, _, _, _, _, _, _, hc1.now f2 ⟨_, _, _, _, _, _, hs2⟩⟩, ⟨counted_ok hI.1 hI.2.1 hI.2.2.1 _, hG.2.1, hG.push, pushH_len hG.2.2.2⟩, rfl⟩
theorem u_run (h0 : OD ct a0 ax h d) {s : Nat} (hs : s < 32) (s1 : 1 ≤ s) {Post : Int32 → KH → Prop} (hP : ∀ h1, OD ct a0 ax h1 (runD d s) → Post (tv (lN (runC d s))) h1) : g_X5_run ct a0 ax (nI s) h Post := by
  obtain ⟨own, A, ⟨nw, snO, hl, hks, rk, b1, b2, b3, pd, sg, P, LC, BO, SIG, hc⟩, hG, rfl⟩ := h0
  have hI := hG.1
  refine ⟨1, setI s hs s1, ?_⟩
  rw [if_neg ne10]
  refine hc.o (p_remember hc hI.1 hI.2.1 hG.2.2.2 (fun own1 h1 hks1 hc1 => ?_))
  refine hc1.o (p_runQuery hc1 hI hs (by omega) (fun own2 h2 P' LC' BO' hc2 f2 => ⟨_, told_tv _, ?_⟩))
  exact hP h2 ⟨own2, _, ⟨_, _, _, _, _, _, _, _, _, _, _, _, _, _, hc2⟩, ⟨run_ok hI hs (by omega), hG.2.1, hG.push, pushH_len hG.2.2.2⟩, rfl⟩
theorem u_drift (h0 : OD ct a0 ax h d) {n : Nat} (n0 : 100 ≤ n) (n1 : n ≤ 1000) {Post : Int32 → KH → Prop} (hP : ∀ h1, OD ct a0 ax h1 (thrown (d.1, d.2.1, d.2.2.1, d.2.2.2.1, n, d.2.2.2.2.2) 4 (keepD d.2.1 n)) → Post (nI (d.2.2.2.1.length - (d.2.2.2.1.filter (keepD d.2.1 n)).length)) h1) : g_X5_drift ct a0 ax (nI n) h Post := by
  obtain ⟨own, A, ⟨nw, snO, hl, hks, rk, b1, b2, b3, pd, sg, P, LC, BO, SIG, hc⟩, hG, rfl⟩ := h0
  have hI := hG.1
  unfold g_X5_drift
  rw [show ∀ P Q : Prop, (if nI n < (100 : Int32) then P else if nI n ≤ (1000 : Int32) then Q else P) = Q from fun P Q => if_in n0 n1 (by decide)]
  refine hc.o (p_remember hc hI.1 hI.2.1 hG.2.2.2 (fun own1 h1 hks1 hc1 => ?_))
  obtain ⟨r, g, p, l, pr, kas, hs⟩ := hc1.2.2.2.2.1
  refine hc1.nowR (hs.stD (fun h2 hs2 f2 => ?_))
  have hc2 := hc1.now f2 ⟨_, _, _, _, _, _, hs2⟩
  have hS2 : SOK (A.1.1, A.1.2.1, A.1.2.2.1, A.1.2.2.2.1, n, A.1.2.2.2.2.2) := ⟨hI.1.1, hI.1.2.1, hI.1.2.2.1, hI.1.2.2.2.1, hI.1.2.2.2.2.1, n0, n1⟩
  refine hc2.nowR (hs2.o (p_throwD hs2 hS2 (fun own3 h3 hs3 f3 => ?_)))
  obtain ⟨kas3, hs3⟩ := hs3
  exact hP h3 ⟨own3, _, ⟨_, _, _, _, _, _, _, _, _, _, _, _, _, _, hc2.now f3 ⟨_, _, _, _, _, _, hs3⟩⟩, ⟨thr_I (by decide) hS2 hI.2.1 hI.2.2.1, hG.2.1, hG.push, pushH_len hG.2.2.2⟩, rfl⟩
theorem u_part0 (h0 : OD ct a0 ax h d) {t : Nat} (ht : t < 5) (x : Int32) {Post : Int32 → KH → Prop} (hP : ∀ h1, OD ct a0 ax h1 d → Post (-1) h1) : g_X5_part ct a0 ax (nI t) (nI t) x h Post := by
  refine ⟨0, (joinI t ht t ht).trans (by rw [if_pos rfl]), ?_⟩
  rw [if_pos rfl]
  exact hP h h0
theorem u_part (h0 : OD ct a0 ax h d) {t u n : Nat} (ht : t < 5) (hu : u < 5) (hne : t ≠ u) (n0 : 1 ≤ n) (n1 : n ≤ 100) {Post : Int32 → KH → Prop} (hP : ∀ h1, OD ct a0 ax h1 (thrown (d.1, d.2.1, setP1 (setP1 d.2.2.1 t u n) u t n, d.2.2.2) 6 (keepJ (2 ^ t ||| 2 ^ u))) → Post (nI (d.2.2.2.1.length - (d.2.2.2.1.filter (keepJ (2 ^ t ||| 2 ^ u))).length)) h1) : g_X5_part ct a0 ax (nI t) (nI u) (nI n) h Post := by
  obtain ⟨own, A, ⟨nw, snO, hl, hks, rk, b1, b2, b3, pd, sg, P, LC, BO, SIG, hc⟩, hG, rfl⟩ := h0
  have hI := hG.1
  refine ⟨1, (joinI t ht u hu).trans (by rw [if_neg hne]), ?_⟩
  rw [if_neg ne10, show ∀ P Q : Prop, (if nI n < (1 : Int32) then P else if nI n ≤ (100 : Int32) then Q else P) = Q from fun P Q => if_in n0 n1 (by decide)]
  refine hc.o (p_remember hc hI.1 hI.2.1 hG.2.2.2 (fun own1 h1 hks1 hc1 => ?_))
  obtain ⟨r, g, p, l, pr, kas, hs⟩ := hc1.2.2.2.2.1
  refine hc1.nowR (hs.pI (hs.parR ht (hs.stP ht hu (fun h2 hs2 f2 => ?_))))
  have hc2 := hc1.now f2 ⟨_, _, _, _, _, _, hs2⟩
  refine hc2.nowR (hs2.pI (hs2.parR hu (hs2.stP hu ht (fun h3 hs3 f3 => ?_))))
  have hc3 := hc2.now f3 ⟨_, _, _, _, _, _, hs3⟩
  have hpr := or_lt32 _ (pow_lt32 t ht) _ (pow_lt32 u hu)
  refine hc3.nowR ⟨_, c_bit t ht, _, c_bit u hu, ?_⟩
  rw [or_int _ (pow_lt32 t ht) _ (pow_lt32 u hu)]
  refine hs3.o (p_throwJ hs3 hI.1.2.2.2.1 hpr (fun own4 h4 hs4 f4 => ?_))
  obtain ⟨kas4, hs4⟩ := hs4
  exact hP h4 ⟨own4, _, ⟨_, _, _, _, _, _, _, _, _, _, _, _, _, _, hc3.now f4 ⟨_, _, _, _, _, _, hs4⟩⟩, ⟨part_I hI (by decide) ht hu ⟨n0, n1⟩, hG.2.1, hG.push, pushH_len hG.2.2.2⟩, rfl⟩
/-- the i-th plan with another pin -/
def pinS (d : DS) (i : Nat) (x : PL) (pn : Nat) : DS := (d.1, d.2.1, d.2.2.1, d.2.2.2.1.set i (pinP pn x), d.2.2.2.2)
def pinT (d : DS) (i : Nat) (x : PL) (pn : Nat) : DS := if pn = 0 then thrown (pinS d i x 0) 4 (keepD d.2.1 d.2.2.2.2.1) else pinS d i x pn
theorem pinS_SZD {i : Nat} {x : PL} {pn : Nat} (hi : d.2.2.2.1[i]? = some x) (hpn : pn < 2) (hI : IV d) : SOK (pinS d i x pn) ∧ ZOK (pinS d i x pn) ∧ DOK (pinS d i x pn) := by
  obtain ⟨⟨s1, s2, s3, s4, s5, s6⟩, hZ, hD, hL⟩ := hI
  refine ⟨⟨s1, s2, s3, fun y hy => ?_, ?_, s6⟩, hZ, ?_⟩
  · rcases mem_set (show y ∈ d.2.2.2.1.set i (pinP pn x) from hy) with q | q
    · exact s4 y q
    · rw [q]
      obtain ⟨p1, p2, p3, p4, p5⟩ := s4 x (List.mem_of_getElem? hi)
      exact ⟨p1, p2, p3, p4, hpn⟩
  · show (d.2.2.2.1.set i (pinP pn x)).length ≤ 4
    rw [List.length_set]
    exact s5
  · show ((d.2.2.2.1.set i (pinP pn x)).map Prod.fst).Nodup
    rw [List.map_set, set_self (d.2.2.2.1.map Prod.fst) i (pinP pn x).1 (by rw [List.getElem?_map, hi]; rfl)]
    exact hD
theorem pinS_L {i : Nat} {x : PL} (hI : IV d) : LOK (pinS d i x 1) := fun y hy => by
  rcases mem_set (show y ∈ d.2.2.2.1.set i (pinP 1 x) from hy) with q | q
  · exact hI.2.2.2 y q
  · rw [q]; rfl
theorem u_pin (h0 : OD ct a0 ax h d) {s i : Nat} {x : PL} (hsl : s < 32) (s1 : 1 ≤ s) (hi : d.2.2.2.1[i]? = some x) (hx : x.1 = s) {Post : Int32 → KH → Prop} (hP : ∀ h1, OD ct a0 ax h1 (pinT d i x (1 - x.2.2.2.2)) → Post (nI (1 - x.2.2.2.2)) h1) : g_X5_pin ct a0 ax (nI s) h Post := by
  obtain ⟨own, A, ⟨nw, snO, hl, hks, rk, b1, b2, b3, pd, sg, P, LC, BO, SIG, hc⟩, hG, rfl⟩ := h0
  have hI := hG.1
  refine ⟨1, setI s hsl s1, ?_⟩
  rw [if_neg ne10]
  obtain ⟨r, g, p, l, pr, kas, hs0⟩ := hc.2.2.2.2.1
  refine hc.nowR (hs0.o (c_placeOf hc.2.2.2.2.1 hI.1 hsl (fun j y hj hy => ?_) (fun hno => absurd hx (hno x (List.mem_of_getElem? hi)))))
  have hij : j = i := by
    have a := idxS_some (sh := s) A.1.2.2.2.1 j y hI.2.2.1 hj hy
    have b := idxS_some (sh := s) A.1.2.2.2.1 i x hI.2.2.1 hi hx
    omega
  subst hij
  have hyx : y = x := Option.some.inj (hj.symm.trans hi)
  subst hyx
  have hil := (List.getElem?_eq_some_iff.mp hi).1
  have h4 := hI.1.2.2.2.2.1
  rw [if_neg (nI_m1 (by omega))]
  subst hx
  have w2 := hI.1.2.2.2.1 y (List.mem_of_getElem? hi)
  refine hc.o (p_remember hc hI.1 hI.2.1 hG.2.2.2 (fun own1 h1 hks1 hc1 => ?_))
  obtain ⟨r, g, p, l, pr, kas, hs1⟩ := hc1.2.2.2.2.1
  obtain ⟨k, hk⟩ := getK hs1 (i := j) (x := y) hi
  refine hc1.nowR (hs1.gt hk ((hs1.kp _ (List.mem_of_getElem? hk)).pin ?_))
  have J : ∀ pn, pn < 2 → pn = 1 - y.2.2.2.2 → g_X5_pin_J55 ct a0 ax (nI y.1) Post (nI j) (nI pn) h1 := fun pn hpn epn => by
    unfold g_X5_pin_J55
    refine hc1.nowR (hs1.o (p_setPinned hs1 hk hpn (fun own2 h2 k2 hs2 f2 => ?_)))
    have ekp : (kas.set j (k2, y.1, y.2.1, y.2.2.1, y.2.2.2.1, pn)).map Prod.snd = (pinS A.1 j y pn).2.2.2.1 := by
      show _ = A.1.2.2.2.1.set j (pinP pn y)
      rw [List.map_set, ← hs1.kpe]
      rfl
    have hkey : ∀ kk, kk = (pinS A.1 j y pn).2.2.2.1 → StX ct a0 own2 h2 nw r g p l pr (kas.set j (k2, y.1, y.2.1, y.2.2.1, y.2.2.2.1, pn)) (A.1.1, A.1.2.1, A.1.2.2.1, kk, A.1.2.2.2.2) → StX ct a0 own2 h2 nw r g p l pr (kas.set j (k2, y.1, y.2.1, y.2.2.1, y.2.2.2.1, pn)) (pinS A.1 j y pn) := fun kk e h => by subst e; exact h
    have hs2 := hkey _ ekp hs2
    have hc2 := hc1.now f2 ⟨_, _, _, _, _, _, hs2⟩
    obtain ⟨dS, dZ, dD⟩ := pinS_SZD hi hpn hI
    refine hc2.nowR (hs2.o (p_throwD hs2 dS (fun own3 h3 hs3 f3 => ?_)))
    obtain ⟨kas3, hs3⟩ := hs3
    have hc3 := hc2.now f3 ⟨_, _, _, _, _, _, hs3⟩
    rw [← epn] at hP
    rcases (show pn = 0 ∨ pn = 1 by omega) with rfl | rfl
    · rw [if_pos (show nI 0 = (0 : Int32) from rfl)]
      exact hP h3 ⟨own3, _, ⟨_, _, _, _, _, _, _, _, _, _, _, _, _, _, hc3⟩, ⟨thr_I (by decide) dS dZ dD, hG.2.1, hG.push, pushH_len hG.2.2.2⟩, rfl⟩
    · rw [if_neg (show ¬ nI 1 = (0 : Int32) by decide +kernel)]
      have dL : LOK (pinS A.1 j y 1) := pinS_L hI
      rw [thr_id dL] at hc3
      exact hP h3 ⟨own3, _, ⟨_, _, _, _, _, _, _, _, _, _, _, _, _, _, hc3⟩, ⟨⟨dS, dZ, dD, dL⟩, hG.2.1, hG.push, pushH_len hG.2.2.2⟩, rfl⟩
  by_cases q : y.2.2.2.2 = 0
  · rw [if_pos (show nI y.2.2.2.2 = (0 : Int32) by rw [q]; rfl)]
    exact J 1 (by decide) (by rw [q])
  · have q1 : y.2.2.2.2 = 1 := by have := w2.2.2.2.2; omega
    rw [if_neg (show ¬ nI y.2.2.2.2 = (0 : Int32) by rw [q1]; decide +kernel)]
    exact J 0 (by decide) (by rw [q1])
theorem u_pin0 (h0 : OD ct a0 ax h d) {s : Nat} (hsl : s < 32) (s1 : 1 ≤ s) (hno : ∀ x ∈ d.2.2.2.1, x.1 ≠ s) {Post : Int32 → KH → Prop} (hP : ∀ h1, OD ct a0 ax h1 d → Post (-2) h1) : g_X5_pin ct a0 ax (nI s) h Post := by
  have h00 := h0
  obtain ⟨own, A, ⟨nw, snO, hl, hks, rk, b1, b2, b3, pd, sg, P, LC, BO, SIG, hc⟩, hG, rfl⟩ := h0
  have hI := hG.1
  refine ⟨1, setI s hsl s1, ?_⟩
  rw [if_neg ne10]
  obtain ⟨r, g, p, l, pr, kas, hs0⟩ := hc.2.2.2.2.1
  refine hc.nowR (hs0.o (c_placeOf hc.2.2.2.2.1 hI.1 hsl (fun j y hj hy => absurd hy (hno y (List.mem_of_getElem? hj))) (fun hno => ?_)))
  rw [if_pos rfl]
  exact hP h h00
theorem u_forget (h0 : OD ct a0 ax h d) {s i : Nat} {x : PL} (hsl : s < 32) (s1 : 1 ≤ s) (hi : d.2.2.2.1[i]? = some x) (hx : x.1 = s) {Post : Int32 → KH → Prop} (hP : ∀ h1, OD ct a0 ax h1 (dropD d i) → Post (tv (lN x.2.2.2.1)) h1) : g_X5_forget ct a0 ax (nI s) h Post := by
  obtain ⟨own, A, ⟨nw, snO, hl, hks, rk, b1, b2, b3, pd, sg, P, LC, BO, SIG, hc⟩, hG, rfl⟩ := h0
  have hI := hG.1
  refine ⟨1, setI s hsl s1, ?_⟩
  rw [if_neg ne10]
  obtain ⟨r, g, p, l, pr, kas, hs0⟩ := hc.2.2.2.2.1
  refine hc.nowR (hs0.o (c_placeOf hc.2.2.2.2.1 hI.1 hsl (fun j y hj hy => ?_) (fun hno => absurd hx (hno x (List.mem_of_getElem? hi)))))
  have hij : j = i := by
    have a := idxS_some (sh := s) A.1.2.2.2.1 j y hI.2.2.1 hj hy
    have b := idxS_some (sh := s) A.1.2.2.2.1 i x hI.2.2.1 hi hx
    omega
  subst hij
  have hyx : y = x := Option.some.inj (hj.symm.trans hi)
  subst hyx
  have hil := (List.getElem?_eq_some_iff.mp hi).1
  have h4 := hI.1.2.2.2.2.1
  rw [if_neg (nI_m1 (by omega))]
  refine hc.o (p_remember hc hI.1 hI.2.1 hG.2.2.2 (fun own1 h1 hks1 hc1 => ?_))
  obtain ⟨r, g, p, l, pr, kas, hs1⟩ := hc1.2.2.2.2.1
  refine hc1.nowR (hs1.cnt (c := 7) (by decide) 1 (fun h2 hs2 f2 => ?_))
  have hc2 := hc1.now f2 ⟨_, _, _, _, _, _, hs2⟩
  obtain ⟨k, hk⟩ := getK hs2 (i := j) (x := y) hi
  refine hc2.nowR (hs2.rm hk (fun h3 hs3 f3 hkp3 => ?_))
  have o3 := hkp3
  obtain ⟨-, gg, -, eo, -⟩ := o3
  refine ⟨⟨_, eo⟩, hkp3.run ⟨_, told_tv _, ?_⟩⟩
  have hkey : ∀ kk, kk = A.1.2.2.2.1.eraseIdx j → isSt ct a0 own1 h3 nw (A.1.1, A.1.2.1, A.1.2.2.1, kk, A.1.2.2.2.2.1, nu A.1.2.2.2.2.2 7 (A.1.2.2.2.2.2 7 + 1)) → isSt ct a0 own1 h3 nw (dropD A.1 j) := fun kk e h => by subst e; exact h
  have hst := hkey _ (by rw [← map_erase, ← hs2.kpe]) ⟨_, _, _, _, _, _, hs3⟩
  exact hP h3 ⟨own1, _, ⟨_, _, _, _, _, _, _, _, _, _, _, _, _, _, hc2.now f3 hst⟩, ⟨drop_I hI j, hG.2.1, hG.push, pushH_len hG.2.2.2⟩, rfl⟩
theorem u_forget0 (h0 : OD ct a0 ax h d) {s : Nat} (hsl : s < 32) (s1 : 1 ≤ s) (hno : ∀ x ∈ d.2.2.2.1, x.1 ≠ s) {Post : Int32 → KH → Prop} (hP : ∀ h1, OD ct a0 ax h1 d → Post (-2) h1) : g_X5_forget ct a0 ax (nI s) h Post := by
  have h00 := h0
  obtain ⟨own, A, ⟨nw, snO, hl, hks, rk, b1, b2, b3, pd, sg, P, LC, BO, SIG, hc⟩, hG, rfl⟩ := h0
  have hI := hG.1
  refine ⟨1, setI s hsl s1, ?_⟩
  rw [if_neg ne10]
  obtain ⟨r, g, p, l, pr, kas, hs0⟩ := hc.2.2.2.2.1
  refine hc.nowR (hs0.o (c_placeOf hc.2.2.2.2.1 hI.1 hsl (fun j y hj hy => absurd hy (hno y (List.mem_of_getElem? hj))) (fun hno => ?_)))
  rw [if_pos rfl]
  exact hP h h00
end SPC
