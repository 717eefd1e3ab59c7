/-! sizes and bests -/
section L2
variable {ct : Nat → ClassId} {a0 : Nat}
theorem base_or (a2 : Int32) : f_X6_base a2 = some (nI (if a2 = 0 then 5 else 0)) := by
  unfold f_X6_base
  by_cases q : a2 = 0
  · rw [if_pos q, if_pos q]; rfl
  · rw [if_neg q, if_neg q]; rfl
theorem NuR.msA {v : Nat → Nat} {st : DS} (hn : NuR v st) (hS : SOK st) (a2 : Int32) : MS (if a2 = 0 then 5 else 0) (SI v) (szN (if a2 = 0 then st.2.1 else st.1) st.2.2.1) := by
  by_cases q : a2 = 0
  · rw [if_pos q, if_pos q]; exact hn.ms5 hS.2.1 hS.2.2.1
  · rw [if_neg q, if_neg q]; exact hn.ms0 hS.1 hS.2.2.1
theorem NB_if {st : DS} (hS : SOK st) (a2 : Int32) : NB (if a2 = 0 then st.2.1 else st.1) := by
  by_cases q : a2 = 0
  · rw [if_pos q]; exact hS.2.1
  · rw [if_neg q]; exact hS.1
theorem sq_size : St_size ct a0 (Rel ct a0) := by
  intro j hj ax h M a1 a2 hr
  have hr1 := hr.up
  obtain ⟨own, A, ⟨nw, snO, hl, hks, rk, b1, b2, b3, pd, sg, P, LC, BO, SIG, hc⟩, ⟨m1, m2, m3, m4, m5, m6⟩, hG⟩ := hr
  obtain ⟨v, E, eM, ⟨hE, hn, hv⟩, hkp, hpa⟩ := m1.opn
  have hS := hG.1.1
  rcases set_or a1 with ⟨s, s1, hs, rfl, e1, e2⟩ | ⟨e1, e2⟩
  · refine ⟨1, e1, ?_⟩
    rw [if_neg ne10]
    refine hc.o (p_reckoned hc hS (fun h1 P' LC' BO' hR hc1 f1 => ⟨_, _, _, _, _, rfl, hc1.2.2.1.qw, c_sizeOf (NB_if hS a2) hS.2.2.1 hR hs (by omega), _, rfl, ?_⟩))
    refine ⟨_, ?_, rfl, own, A, ⟨_, _, _, _, _, _, _, _, _, _, _, _, _, _, hc1⟩, MR.mono (M := M) ⟨m1, m2, m3, m4, m5, m6⟩ (by omega), hG⟩
    unfold f_X6_size
    rw [e2, bnd_s, if_neg ne10, base_or, bnd_s, eM, hn.msA hS a2 s hs, bnd_s, told_cut]
    rfl
  · refine ⟨0, e1, ?_⟩
    rw [if_pos rfl]
    exact ⟨-1, by unfold f_X6_size; rw [e2, bnd_s, if_pos rfl], rfl, hr1⟩
theorem sq_least : St_least ct a0 (Rel ct a0) := by
  intro j hj ax h M a1 a2 a3 hr
  have hr1 := hr.up
  obtain ⟨own, A, ⟨nw, snO, hl, hks, rk, b1, b2, b3, pd, sg, P, LC, BO, SIG, hc⟩, ⟨m1, m2, m3, m4, m5, m6⟩, hG⟩ := hr
  obtain ⟨v, E, eM, ⟨hE, hn, hv⟩, hkp, hpa⟩ := m1.opn
  have hS := hG.1.1
  have hw := szN_WB (NB_if hS a2) hS.2.2.1
  rcases set_or a1 with ⟨s, s1, hs, rfl, e1, e2⟩ | ⟨e1, e2⟩
  · refine ⟨1, e1, ?_⟩
    rw [if_neg ne10]
    rcases in_or a3 (lo := 0) (hi := 1) (by decide) (by decide) with ⟨n, n0, n1, rfl, n2⟩ | ⟨n0, n2⟩
    · rw [show ∀ P Q : Prop, (if nI n < (0 : Int32) then P else if nI n ≤ (1 : Int32) then Q else P) = Q from fun P Q => if_in n0 n1 (by decide)]
      refine hc.o (p_reckoned hc hS (fun h1 P' LC' BO' hR hc1 f1 => ?_))
      rcases (show n = 0 ∨ n = 1 by omega) with rfl | rfl
      · rw [if_pos (show nI 0 = (0 : Int32) from rfl)]
        refine ⟨_, _, _, _, _, rfl, hc1.2.2.1.qw, c_byOrders (NB_if hS a2) hS.2.2.1 hR hs, _, rfl, ?_⟩
        obtain ⟨o1, bb1, ef, -⟩ := m_finds hw (hn.msA hS a2) hs (by omega) M.2.2.2.2.2.2.2.2.2.2.2.2.2.2.2.1 M.2.2.2.2.2.2.2.2.2.2.2.2.2.2.2.2.1 M.2.2.2.2.2.2.2.2.2.2.2.2.2.2.2.2.2.1
        refine ⟨(_, o1, bb1, nI (pc s), M.2.2.2.2.2.2.2.2.2.2.2.2.2.2.2.2.2.2.1), ?_, rfl, own, A, ⟨_, _, _, _, _, _, _, _, _, _, _, _, _, _, hc1⟩, MR.mono (N := 200 * j) ⟨m1, m2, m3, m4, m5, m6⟩ (by omega), hG⟩
        unfold f_X6_least
        rw [e2, bnd_s, if_neg ne10, show f_X6_in (nI 0) (0 : Int32) (1 : Int32) = some 1 from n2, bnd_s, if_neg ne10, if_pos (show nI 0 = (0 : Int32) from rfl), base_or, bnd_s, eM, ef, bnd_s, told_cut]
        rfl
      · rw [if_neg (show ¬ nI 1 = (0 : Int32) by decide +kernel)]
        refine ⟨_, _, _, _, _, rfl, hc1.2.2.1.qw, c_least hR hs (by omega), _, rfl, ?_⟩
        obtain ⟨B1, ef⟩ := m_sets hw (hn.msA hS a2) hs (by omega) M.2.2.2.2.2.2.2.2.2.2.2.2.2.2.2.2.2.2.1
        refine ⟨(_, M.2.2.2.2.2.2.2.2.2.2.2.2.2.2.2.1, M.2.2.2.2.2.2.2.2.2.2.2.2.2.2.2.2.1, M.2.2.2.2.2.2.2.2.2.2.2.2.2.2.2.2.2.1, B1), ?_, rfl, own, A, ⟨_, _, _, _, _, _, _, _, _, _, _, _, _, _, hc1⟩, MR.mono (N := 200 * j) ⟨m1, m2, m3, m4, m5, m6⟩ (by omega), hG⟩
        unfold f_X6_least
        rw [e2, bnd_s, if_neg ne10, show f_X6_in (nI 1) (0 : Int32) (1 : Int32) = some 1 from n2, bnd_s, if_neg ne10, if_neg (show ¬ nI 1 = (0 : Int32) by decide +kernel), base_or, bnd_s, eM, ef, bnd_s, told_cut]
        rfl
    · rw [show ∀ P Q : Prop, (if a3 < (0 : Int32) then P else if a3 ≤ (1 : Int32) then Q else P) = P from fun P Q => if_out n0]
      exact ⟨_, by unfold f_X6_least; rw [e2, bnd_s, if_neg ne10, show f_X6_in a3 (0 : Int32) (1 : Int32) = some 0 from n2, bnd_s, if_pos rfl], rfl, hr1⟩
  · refine ⟨0, e1, ?_⟩
    rw [if_pos rfl]
    exact ⟨_, by unfold f_X6_least; rw [e2, bnd_s, if_pos rfl], rfl, hr1⟩
theorem cmp_lN0 {n : Nat} : ¬ lg_cmp (lN n) (0 : Int64) < (0 : Int32) ∨ 2 ^ 63 ≤ n := by
  by_cases q : n < 2 ^ 63
  · refine Or.inl fun z => ?_
    have := (lg_cmp_lt _ _).mp z
    have := (pk_lLT (a := n) (b := 0) q (by decide)).mp this
    omega
  · exact Or.inr (by omega)
theorem sq_best : St_best ct a0 (Rel ct a0) := by
  intro j hj ax h M a1 a2 a3 hr
  have hr1 := hr.up
  obtain ⟨own, A, ⟨nw, snO, hl, hks, rk, b1, b2, b3, pd, sg, P, LC, BO, SIG, hc⟩, ⟨m1, m2, m3, m4, m5, m6⟩, hG⟩ := hr
  obtain ⟨v, E, eM, ⟨hE, hn, hv⟩, hkp, hpa⟩ := m1.opn
  have hS := hG.1.1
  have hw := szN_WB (NB_if hS a2) hS.2.2.1
  rcases set_or a1 with ⟨s, s1, hs, rfl, e1, e2⟩ | ⟨e1, e2⟩
  · refine ⟨1, e1, ?_⟩
    rw [if_neg ne10]
    by_cases q0 : (0 : Int32) ≤ a3
    · rw [if_pos q0]
      obtain ⟨i, hi, rfl⟩ := ofI (x := a3) (fun z => by
        have a := Int32.lt_iff_toInt_lt.mp z
        have b := Int32.le_iff_toInt_le.mp q0
        omega)
      obtain ⟨o1, bb1, ef, hAG⟩ := m_finds hw (hn.msA hS a2) hs (by omega) M.2.2.2.2.2.2.2.2.2.2.2.2.2.2.2.1 M.2.2.2.2.2.2.2.2.2.2.2.2.2.2.2.2.1 M.2.2.2.2.2.2.2.2.2.2.2.2.2.2.2.2.2.1
      have h5 := pc_le s hs
      have hmb := minC_bd hw hs
      have hb := (bestP_bst (szN (if a2 = 0 then A.1.2.1 else A.1.1) A.1.2.2.1) hs).1
      have hbl := perms_len s hs _ hb
      have hM : ∀ z, (if nI (pc s) ≤ nI i then some ((-4 : Int32), o1, bb1, nI (pc s)) else grd (inb (nI i) 5) (some ((bb1 (nI i).toNatClampNeg), o1, bb1, nI (pc s)))) = some z → f_X6_best (nI s) a2 (nI i) M.1 M.2.2.2.2.2.2.2.2.2.2.2.2.2.2.2.1 M.2.2.2.2.2.2.2.2.2.2.2.2.2.2.2.2.1 M.2.2.2.2.2.2.2.2.2.2.2.2.2.2.2.2.2.1 = some z := fun z hz => by
        unfold f_X6_best
        rw [e2, bnd_s, if_neg ne10, if_pos q0, base_or, bnd_s, eM, ef, bnd_s, if_neg (cmp_lN0.resolve_right (by omega))]
        exact hz
      refine ⟨_, c_bitCount s hs, ?_⟩
      by_cases q1 : pc s ≤ i
      · rw [if_pos (nI_le q1 hi)]
        exact ⟨_, hM _ (if_pos (nI_le q1 hi)), rfl, own, A, ⟨_, _, _, _, _, _, _, _, _, _, _, _, _, _, hc⟩, MR.mono (N := 200 * j) ⟨m1, m2, m3, m4, m5, m6⟩ (by omega), hG⟩
      · rw [if_neg (nI_ge (by omega) (by omega))]
        refine hc.o (p_reckoned hc hS (fun h1 P' LC' BO' hR hc1 f1 => ⟨_, _, _, _, _, rfl, hc1.2.2.1.qw, c_best hR hs (by omega), nI ((bestP (szN (if a2 = 0 then A.1.2.1 else A.1.1) A.1.2.2.1) s).getD i 0), ?_, ?_⟩))
        · rw [← hbl]
          exact perms_at s hs _ hb i (by omega)
        · refine ⟨_, hM _ ((if_neg (nI_ge (by omega) (by omega))).trans (grd_inb (by omega) (by decide))), ?_, own, A, ⟨_, _, _, _, _, _, _, _, _, _, _, _, _, _, hc1⟩, MR.mono (N := 200 * j) ⟨m1, m2, m3, m4, m5, m6⟩ (by omega), hG⟩
          show bb1 (nI i).toNatClampNeg = _
          rw [nI_clamp hi, hAG i (by omega)]
    · rw [if_neg q0]
      exact ⟨_, by unfold f_X6_best; rw [e2, bnd_s, if_neg ne10, if_neg q0], rfl, hr1⟩
  · refine ⟨0, e1, ?_⟩
    rw [if_pos rfl]
    exact ⟨_, by unfold f_X6_best; rw [e2, bnd_s, if_pos rfl], rfl, hr1⟩
end L2
