/-! calls that change rows, guesses, limits -/
section CH
variable {ct : Nat → ClassId} {a0 : Nat} {N : Nat} {v : Nat → Nat} {E : List ME} {st : DS}
theorem thr_S {c : Nat} {f : PL → Bool} (hS : SOK st) : SOK (thrown st c f) := ⟨hS.1, hS.2.1, hS.2.2.1, fun x hx => hS.2.2.2.1 x (List.mem_filter.mp hx).1, Nat.le_trans (List.length_filter_le _ _) hS.2.2.2.2.1, hS.2.2.2.2.2⟩
theorem thr_Z {c : Nat} {f : PL → Bool} (hZ : ZOK st) (hc : c < 9) : ZOK (thrown st c f) := ⟨hZ.1, hZ.2.1, hZ.2.2.1, hZ.2.2.2.nu hc⟩
theorem thr_D {c : Nat} {f : PL → Bool} (hD : DOK st) : DOK (thrown st c f) := sub_nodup hD
theorem thr_L {c : Nat} : LOK (thrown st c (keepD st.2.1 st.2.2.2.2.1)) := fun x hx => (List.mem_filter.mp hx).2
theorem thr_L2 {c : Nat} {f : PL → Bool} (hL : LOK st) : LOK (thrown st c f) := fun x hx => hL x (List.mem_filter.mp hx).1
theorem thr_I {c : Nat} (hc : c < 9) (hS : SOK st) (hZ : ZOK st) (hD : DOK st) : IV (thrown st c (keepD st.2.1 st.2.2.2.2.1)) := ⟨thr_S hS, thr_Z hZ hc, thr_D hD, thr_L⟩
theorem nu_NB {u : Nat → Nat} (h : NB u) {t x : Nat} (hx : 1 ≤ x ∧ x ≤ 500) : NB (nu u t x) := fun k hk => by
  unfold nu
  by_cases q : k = t
  · rw [if_pos q]; exact hx
  · rw [if_neg q]; exact h k hk
theorem rows_I (hI : IV st) {t x : Nat} (ht : t < 5) (hx : 1 ≤ x ∧ x ≤ 500) : IV (nu st.1 t x, st.2) := ⟨⟨nu_NB hI.1.1 hx, hI.1.2⟩, ⟨hI.2.1.1.nu ht, hI.2.1.2⟩, hI.2.2.1, hI.2.2.2⟩
theorem SR.rows (h : SR N v E st) {t x : Nat} (ht : t < 5) (hx : x ≤ 500) {M : Nat} (hM : N ≤ M) : SR M (nu v t x) E (nu st.1 t x, st.2) := ⟨h.1.up (by omega), h.2.1.r ht, h.2.2.up (by omega) hM⟩
theorem sq_rows : St_rows ct a0 (Rel ct a0) := by
  intro j hj ax h M a1 a2 hr
  have hr1 := hr.up
  obtain ⟨own, A, ⟨nw, snO, hl, hks, rk, b1, b2, b3, pd, sg, P, LC, BO, SIG, hc⟩, ⟨m1, m2, m3, m4, m5, m6⟩, hG⟩ := hr
  obtain ⟨past', pp', ec, hH⟩ := m_changes m1 m2
  obtain ⟨v, E, eM, hR, hkp, hpa⟩ := m1.opn
  have hI := hG.1
  rcases tbl_or a1 with ⟨t, ht, rfl, e1, e2⟩ | ⟨e1, e2⟩
  · refine ⟨1, e1, ?_⟩
    rw [if_neg ne10]
    rcases in_or a2 (lo := 1) (hi := 500) (by decide) (by decide) with ⟨n, n0, n1, rfl, n2⟩ | ⟨n0, n2⟩
    · rw [show ∀ P Q : Prop, (if nI n < (1 : Int32) then P else if nI n ≤ (500 : Int32) then Q else P) = Q from fun P Q => if_in n0 n1 (by decide)]
      refine hc.o (p_remember hc hI.1 hI.2.1 hG.2.2.2 (fun own1 h1 hks1 hc1 => ?_))
      obtain ⟨r, g, p, l, pr, kas, hs⟩ := hc1.2.2.2.2.1
      refine hc1.nowR (hs.rI (hs.rv ht (hc1.nowR (hs.rI (hs.stR ht (fun h2 hs2 f2 => ?_))))))
      have hM : f_X6_rows (nI t) (nI n) M.1 M.2.1 M.2.2.2.2.1 M.2.2.2.2.2.1 M.2.2.2.2.2.2.2.2.2.1 M.2.2.2.2.2.2.2.2.2.2.1 = some (nI (A.1.1 t), SI (nu v t n), past', pp', nI (pushH A.2.2.1 A.1).length) := by
        unfold f_X6_rows
        rw [e2, bnd_s, if_neg ne10, show f_X6_in (nI n) (1 : Int32) (500 : Int32) = some 1 from n2, bnd_s, if_neg ne10, m4, ec, bnd_s, z_add, grd_inb (by omega) (by decide), grd_inb (by omega) (by decide), nI_clamp (by omega), eM, SI_up, SI_at, (hR.2.1.1 t ht).1]
      exact ⟨_, hM, rfl, own1, _, ⟨_, _, _, _, _, _, _, _, _, _, _, _, _, _, hc1.now f2 ⟨_, _, _, _, _, _, hs2⟩⟩, ⟨StR.mk0 (hR.rows ht n1 (by omega)) hkp hpa, hH.mono (by omega), m3.mono (by omega), m4, m5, m6⟩, rows_I hI ht ⟨n0, n1⟩, hG.2.1, hG.push, pushH_len hG.2.2.2⟩
    · rw [show ∀ P Q : Prop, (if a2 < (1 : Int32) then P else if a2 ≤ (500 : Int32) then Q else P) = P from fun P Q => if_out n0]
      exact ⟨_, by unfold f_X6_rows; rw [e2, bnd_s, if_neg ne10, show f_X6_in a2 (1 : Int32) (500 : Int32) = some 0 from n2, bnd_s, if_pos rfl], rfl, hr1⟩
  · refine ⟨0, e1, ?_⟩
    rw [if_pos rfl]
    exact ⟨_, by unfold f_X6_rows; rw [e2, bnd_s, if_pos rfl], rfl, hr1⟩
theorem gcnt_pow (rw gs : Nat → Nat) {t : Nat} (ht : t < 5) : gcnt rw gs (2 ^ t) 5 = nu gs t (rw t) := by
  funext u
  unfold gcnt nu
  have key : ∀ t, t < 5 → ∀ u, u < 5 → (bi (2 ^ t) u = 1 ↔ u = t) := by decide +kernel
  by_cases q : u = t
  · subst q
    rw [if_pos ⟨ht, (key u ht u ht).mpr rfl⟩, if_pos rfl]
  · rw [if_neg (fun z => q ((key t ht u z.1).mp z.2)), if_neg q]
theorem m_counts (hR : SR N v E st) (hkp : st.2.2.2.1 = E.map Prod.fst) (hS : SOK st) (hN : N < 2 ^ 28) {t : Nat} (ht : t < 5) : ∃ v' E', f_X6_counts (nI t) (SI v) = some (nI (countedN st (2 ^ t)), SI v') ∧ SR (N + 4) v' E' (counted st (2 ^ t)) ∧ (counted st (2 ^ t)).2.2.2.1 = E'.map Prod.fst := by
  have hr := hS.1 t ht
  have hR1 : SR N (nu v (5 + t) (st.1 t)) E (st.1, nu st.2.1 t (st.1 t), st.2.2) := ⟨hR.1.up (by omega), hR.2.1.g ht, hR.2.2.up (by omega) (by omega)⟩
  have e := gcnt_pow st.1 st.2.1 ht
  obtain ⟨v', E', e1, e2, e3⟩ := m_throws (st := (st.1, nu st.2.1 t (st.1 t), st.2.2)) (nu_NB hS.2.1 hr) hS.2.2.2.2.2.2 hS.2.2.2.2.1 hN hR1 hkp
  refine ⟨v', E', ?_, ?_, ?_⟩
  · unfold f_X6_counts countedN
    rw [e, z_add, show (5 : Int32) = nI 5 from rfl, nI_add, grd_inb (by omega) (by decide), grd_inb (by omega) (by decide), nI_clamp (by omega), nI_clamp (by omega), SI_at, (hR.2.1.1 t ht).1, SI_up, e1, bnd_s]
  · unfold counted; rw [e]; exact e2
  · unfold counted; rw [e]; exact e3
theorem sq_count : St_count ct a0 (Rel ct a0) := by
  intro j hj ax h M a1 hr
  have hr1 := hr.up
  obtain ⟨own, A, ⟨nw, snO, hl, hks, rk, b1, b2, b3, pd, sg, P, LC, BO, SIG, hc⟩, ⟨m1, m2, m3, m4, m5, m6⟩, hG⟩ := hr
  obtain ⟨past', pp', ec, hH⟩ := m_changes m1 m2
  obtain ⟨v, E, eM, hR, hkp, hpa⟩ := m1.opn
  have hI := hG.1
  rcases tbl_or a1 with ⟨t, ht, rfl, e1, e2⟩ | ⟨e1, e2⟩
  · refine ⟨1, e1, ?_⟩
    rw [if_neg ne10]
    refine hc.o (p_remember hc hI.1 hI.2.1 hG.2.2.2 (fun own1 h1 hks1 hc1 => ?_))
    obtain ⟨r, g, p, l, pr, kas, hs⟩ := hc1.2.2.2.2.1
    refine hc1.nowR ⟨_, c_bit t ht, hs.o (p_count hs hI.1 (pow_lt32 t ht) (fun own2 h2 hs2 f2 => ?_))⟩
    obtain ⟨v', E', g1, g2, g3⟩ := m_counts hR hkp hI.1 (by omega) ht
    have hM : f_X6_count (nI t) M.1 M.2.1 M.2.2.2.2.1 M.2.2.2.2.2.1 M.2.2.2.2.2.2.2.2.2.1 M.2.2.2.2.2.2.2.2.2.2.1 = some (nI (countedN A.1 (2 ^ t)), SI v', past', pp', nI (pushH A.2.2.1 A.1).length) := by
      unfold f_X6_count
      rw [e2, bnd_s, if_neg ne10, m4, ec, bnd_s, eM, g1, bnd_s]
    obtain ⟨kas2, hs2⟩ := hs2
    exact ⟨_, hM, rfl, own2, _, ⟨_, _, _, _, _, _, _, _, _, _, _, _, _, _, hc1.now f2 ⟨_, _, _, _, _, _, hs2⟩⟩, ⟨StR.mk0 (g2.mono (by omega)) g3 hpa, hH.mono (by omega), m3.mono (by omega), m4, m5, m6⟩, counted_ok hI.1 hI.2.1 hI.2.2.1 _, hG.2.1, hG.push, pushH_len hG.2.2.2⟩
  · refine ⟨0, e1, ?_⟩
    rw [if_pos rfl]
    exact ⟨_, by unfold f_X6_count; rw [e2, bnd_s, if_pos rfl], rfl, hr1⟩
theorem sq_run : St_run ct a0 (Rel ct a0) := by
  intro j hj ax h M a1 hr
  have hr1 := hr.up
  obtain ⟨own, A, ⟨nw, snO, hl, hks, rk, b1, b2, b3, pd, sg, P, LC, BO, SIG, hc⟩, ⟨m1, m2, m3, m4, m5, m6⟩, hG⟩ := hr
  obtain ⟨past', pp', ec, hH⟩ := m_changes m1 m2
  obtain ⟨v, E, eM, hR, hkp, hpa⟩ := m1.opn
  have hI := hG.1
  rcases set_or a1 with ⟨s, s1, hs, rfl, e1, e2⟩ | ⟨e1, e2⟩
  · refine ⟨1, e1, ?_⟩
    rw [if_neg ne10]
    refine hc.o (p_remember hc hI.1 hI.2.1 hG.2.2.2 (fun own1 h1 hks1 hc1 => ?_))
    refine hc1.o (p_runQuery hc1 hI hs (by omega) (fun own2 h2 P' LC' BO' hc2 f2 => ⟨_, rfl, ?_⟩))
    obtain ⟨v', E', paid', o1, bb1, mm1, g1, g2, g3, g4⟩ := m_runsOf hR (by omega) hkp hI.1 hI.2.2.1 hs (by omega) hpa M.2.2.2.2.2.2.2.2.2.2.2.2.2.2.2.1 M.2.2.2.2.2.2.2.2.2.2.2.2.2.2.2.2.1 M.2.2.2.2.2.2.2.2.2.2.2.2.2.2.2.2.2.1
    refine ⟨(_, SI v', past', paid', pp', nI (pushH A.2.2.1 A.1).length, o1, bb1, mm1), ?_, rfl, own2, _, ⟨_, _, _, _, _, _, _, _, _, _, _, _, _, _, hc2⟩, ⟨StR.mk0 (g2.mono (by omega)) g3 g4, hH.mono (by omega), m3.mono (by omega), m4, m5, m6⟩, run_ok hI hs (by omega), hG.2.1, hG.push, pushH_len hG.2.2.2⟩
    unfold f_X6_run
    rw [e2, bnd_s, if_neg ne10, m4, ec, bnd_s, eM, g1, bnd_s, told_cut]
    rfl
  · refine ⟨0, e1, ?_⟩
    rw [if_pos rfl]
    exact ⟨_, by unfold f_X6_run; rw [e2, bnd_s, if_pos rfl], rfl, hr1⟩
theorem sq_drift : St_drift ct a0 (Rel ct a0) := by
  intro j hj ax h M a1 hr
  have hr1 := hr.up
  obtain ⟨own, A, ⟨nw, snO, hl, hks, rk, b1, b2, b3, pd, sg, P, LC, BO, SIG, hc⟩, ⟨m1, m2, m3, m4, m5, m6⟩, hG⟩ := hr
  obtain ⟨past', pp', ec, hH⟩ := m_changes m1 m2
  obtain ⟨v, E, eM, hR, hkp, hpa⟩ := m1.opn
  have hI := hG.1
  unfold g_X5_drift
  rcases in_or a1 (lo := 100) (hi := 1000) (by decide) (by decide) with ⟨n, n0, n1, rfl, n2⟩ | ⟨n0, n2⟩
  · rw [show ∀ P Q : Prop, (if nI n < (100 : Int32) then P else if nI n ≤ (1000 : Int32) then Q else P) = Q from fun P Q => if_in n0 n1 (by decide)]
    refine hc.o (p_remember hc hI.1 hI.2.1 hG.2.2.2 (fun own1 h1 hks1 hc1 => ?_))
    obtain ⟨r, g, p, l, pr, kas, hs⟩ := hc1.2.2.2.2.1
    refine hc1.nowR (hs.stD (fun h2 hs2 f2 => ?_))
    have hc2 := hc1.now f2 ⟨_, _, _, _, _, _, hs2⟩
    have hS2 : SOK (A.1.1, A.1.2.1, A.1.2.2.1, A.1.2.2.2.1, n, A.1.2.2.2.2.2) := ⟨hI.1.1, hI.1.2.1, hI.1.2.2.1, hI.1.2.2.2.1, hI.1.2.2.2.2.1, n0, n1⟩
    refine hc2.nowR (hs2.o (p_throwD hs2 hS2 (fun own3 h3 hs3 f3 => ?_)))
    have hR2 : SR (200 * j) (nu v 35 n) E (A.1.1, A.1.2.1, A.1.2.2.1, A.1.2.2.2.1, n, A.1.2.2.2.2.2) := by
      obtain ⟨r1, ⟨a1, a2, a3, a4, a5, a6, a7, a8, a9, a10⟩, r3⟩ := hR
      exact ⟨r1.up (by omega), ⟨fun t ht => ⟨(nu_n (by omega)).trans (a1 t ht).1, (nu_n (by omega)).trans (a1 t ht).2⟩, fun i k hi hk => (nu_n (by omega)).trans (a2 i k hi hk), nu_s, (nu_n (by omega)).trans a4, (nu_n (by omega)).trans a5, (nu_n (by omega)).trans a6, (nu_n (by omega)).trans a7, (nu_n (by omega)).trans a8, (nu_n (by omega)).trans a9, (nu_n (by omega)).trans a10⟩, r3.up (by omega) (by omega)⟩
    obtain ⟨v', E', g1, g2, g3⟩ := m_throws (st := (A.1.1, A.1.2.1, A.1.2.2.1, A.1.2.2.2.1, n, A.1.2.2.2.2.2)) hI.1.2.1 n1 hI.1.2.2.2.2.1 (by omega) hR2 hkp
    have hM : f_X6_drift (nI n) M.1 M.2.1 M.2.2.2.2.1 M.2.2.2.2.2.1 M.2.2.2.2.2.2.2.2.2.1 M.2.2.2.2.2.2.2.2.2.2.1 = some (nI (A.1.2.2.2.1.length - (A.1.2.2.2.1.filter (keepD A.1.2.1 n)).length), SI v', past', pp', nI (pushH A.2.2.1 A.1).length) := by
      unfold f_X6_drift
      rw [show f_X6_in (nI n) (100 : Int32) (1000 : Int32) = some 1 from n2, bnd_s, if_neg ne10, m4, ec, bnd_s, show (35 : Int32) = nI 35 from rfl, grd_inb (by decide) (by decide), nI_clamp (by decide), eM, SI_up, g1, bnd_s]
    obtain ⟨kas3, hs3⟩ := hs3
    exact ⟨_, hM, rfl, own3, _, ⟨_, _, _, _, _, _, _, _, _, _, _, _, _, _, hc2.now f3 ⟨_, _, _, _, _, _, hs3⟩⟩, ⟨StR.mk0 (g2.mono (by omega)) g3 hpa, hH.mono (by omega), m3.mono (by omega), m4, m5, m6⟩, thr_I (by decide) hS2 hI.2.1 hI.2.2.1, hG.2.1, hG.push, pushH_len hG.2.2.2⟩
  · rw [show ∀ P Q : Prop, (if a1 < (100 : Int32) then P else if a1 ≤ (1000 : Int32) then Q else P) = P from fun P Q => if_out n0]
    exact ⟨_, by unfold f_X6_drift; rw [show f_X6_in a1 (100 : Int32) (1000 : Int32) = some 0 from n2, bnd_s, if_pos rfl], rfl, hr1⟩
end CH
