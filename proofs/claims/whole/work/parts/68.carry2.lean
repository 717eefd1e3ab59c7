/-! carryOut, both sides -/
section CB
variable {ct : Nat → ClassId} {a0 : Nat}
theorem scan_ok {s : Nat → Nat} {len : Nat} (h : SaOK s len) : ∀ (n p : Nat), p ≤ len → ∀ x ∈ (scan s len n p).1, x ≤ len ∧ (rdS s x).1 = true
  | 0, p, hp, x, hx => by cases hx
  | n + 1, p, hp, x, hx => by
    obtain ⟨r1, r2, r3⟩ := rdS_ok h hp
    unfold scan at hx
    by_cases q1 : (rdS s p).1 = true
    · rw [if_pos q1] at hx
      by_cases q2 : (rdS s p).2.1 < len
      · rw [if_pos q2] at hx
        by_cases q3 : s (rdS s p).2.1 = 59
        · rw [if_pos q3] at hx
          rcases List.mem_cons.mp hx with hx | hx
          · rw [hx]; exact ⟨hp, q1⟩
          · exact scan_ok h n _ q2 x hx
        · rw [if_neg q3] at hx
          rw [List.mem_singleton.mp hx]; exact ⟨hp, q1⟩
      · rw [if_neg q2] at hx
        rw [List.mem_singleton.mp hx]; exact ⟨hp, q1⟩
    · rw [if_neg q1] at hx; cases hx
theorem exec_I {s : Nat → Nat} : ∀ (l : List Nat) (st : DS) (d : Nat), (∀ x ∈ l, VR (rdS s x)) → IV st → IV (execS s l st d).1
  | [], st, d, _, hI => hI
  | p :: l, st, d, hv, hI => by
    cases e : deedD st (rdS s p) with
    | some st' =>
      simp only [execS, e]
      exact exec_I l st' (d + 1) (fun x hx => hv x (List.mem_cons_of_mem _ hx)) (deed_I hI (hv p List.mem_cons_self) e)
    | none =>
      simp only [execS, e]
      exact hI
theorem m_exec {s : Nat → Nat} {L : List Nat} (h21 : L.length ≤ 21) {dd : Nat → Int32} (hdd : ∀ k x, L[k]? = some x → DdR dd k s x ∧ VR (rdS s x) ∧ x ≤ 60) (pad past : Nat → Int32) (pp : Nat → Int64) (ps ty sp : Int32) : ∀ (l : List Nat) (i m N : Nat) (v : Nat → Nat) (E : List ME) (st : DS) (paid : Nat → Int64) (stop od bs : Nat → Int32) (my : Int32), L.drop i = l → i ≤ L.length → l.length < m → N + 6 * l.length < 2 ^ 26 → SR N v E st → st.2.2.2.1 = E.map Prod.fst → IV st → PaR paid st →
    ∃ v' E' paid' isS' stop' o1 bb1 m1, f_X6_carryOut_L33 pad m (nI i) (SI v) past paid pp ps (1 : Int32) ty (0 : Int32) stop od bs my sp (nI L.length) dd = some (nI (execS s l st i).2.1, SI v', past, paid', pp, ps, (0 : Int32), ty, isS', stop', o1, bb1, m1, sp, nI L.length, dd) ∧ SR (N + 6 * l.length) v' E' (execS s l st i).1 ∧ (execS s l st i).1.2.2.2.1 = E'.map Prod.fst ∧ PaR paid' (execS s l st i).1 ∧ SoR isS' stop' (execS s l st i).2.2
  | l, i, 0, N, v, E, st, paid, stop, od, bs, my, _, _, h, _, _, _, _, _ => absurd h (Nat.not_lt_zero _)
  | [], i, m + 1, N, v, E, st, paid, stop, od, bs, my, hL, hi, _, _, hR, hkp, hI, hpa => by
    have hiL : L.length ≤ i := by
      have e := congrArg List.length hL
      rw [List.length_drop, List.length_nil] at e
      omega
    show ∃ v' E' paid' isS' stop' o1 bb1 m1, f_X6_carryOut_L33b _ _ _ _ _ _ _ _ _ _ _ _ _ _ _ _ _ _ = _ ∧ _
    unfold f_X6_carryOut_L33b
    rw [if_pos (nI_le hiL (by omega))]
    exact ⟨v, E, paid, _, _, _, _, _, rfl, hR, hkp, hpa, rfl⟩
  | p :: l, i, m + 1, N, v, E, st, paid, stop, od, bs, my, hL, hi, hm, hN, hR, hkp, hI, hpa => by
    have hip : L[i]? = some p := by
      have e : (L.drop i)[0]? = some p := by rw [hL]; rfl
      rwa [List.getElem?_drop, Nat.add_zero] at e
    have hil := (List.getElem?_eq_some_iff.mp hip).1
    have hL2 : L.drop (i + 1) = l := by
      have := drop_get hip
      rw [hL] at this
      exact (List.cons.inj this).2.symm
    obtain ⟨hd, hv, hp60⟩ := hdd i p hip
    rw [List.length_cons] at hm hN
    show ∃ v' E' paid' isS' stop' o1 bb1 m1, f_X6_carryOut_L33b _ _ _ _ _ _ _ _ _ _ _ _ _ _ _ _ _ _ = _ ∧ _
    unfold f_X6_carryOut_L33b
    rw [if_neg (nI_ge hil (by omega)), if_pos rfl]
    obtain ⟨z, s', paid1, o1, bb1, mm1, g1, g2⟩ := m_does hR hkp hI (by omega) hpa (dd := dd) (d := i) (by omega) hd hv past pp ps od bs my
    rw [g1, bnd_s]
    have hJ : ∀ (t1 : Int32), isB t1 = true → f_X6_carryOut_J62 pad (f_X6_carryOut_L33 pad m) (nI i) t1 s' past paid1 pp ps (1 : Int32) ty (0 : Int32) stop o1 bb1 mm1 sp (nI L.length) dd = (if t1 = (0 : Int32) then f_X6_carryOut_L33 pad m (nI (i + 1)) s' past paid1 pp ps (1 : Int32) ty t1 (upd (upd stop 0 (nI i)) 1 (dd (4 * i + 3))) o1 bb1 mm1 sp (nI L.length) dd else f_X6_carryOut_L33 pad m (nI i) s' past paid1 pp ps (1 : Int32) ty t1 (upd (upd stop 0 (nI i)) 1 (dd (4 * i + 3))) o1 bb1 mm1 sp (nI L.length) dd) := fun t1 ht => by
      unfold f_X6_carryOut_J62
      rw [grd_t ht, show ((4 : Int32) * nI i + (3 : Int32)) = nI (4 * i + 3) from m_cell (by omega) (by decide), show (0 : Int32) = nI 0 from rfl, grd_inb (by decide) (by decide), grd_inb (by omega) (by decide), show (1 : Int32) = nI 1 from rfl, grd_inb (by decide) (by decide), nI_clamp (by decide), nI_clamp (by decide), nI_clamp (by omega), nI_add, nI_add, Nat.add_zero]
      rfl
    cases hst : deedD st (rdS s p) with
    | some st' =>
      rw [hst] at g2
      obtain ⟨hz, v1, E1, es, hR1, hk1, hp1⟩ := g2
      have hz2 : (0 : Int32) ≤ z := hz
      rw [if_pos hz2]
      show ∃ v' E' paid' isS' stop' o1' bb1' m1', f_X6_carryOut_J62 pad (f_X6_carryOut_L33 pad m) (nI i) 0 s' past paid1 pp ps (1 : Int32) ty (0 : Int32) stop o1 bb1 mm1 sp (nI L.length) dd = _ ∧ _
      rw [hJ 0 (by decide +kernel), if_pos rfl, es]
      obtain ⟨v', E', paid', isS', stop', o2, bb2, mm2, f1, f2, f3, f4, f5⟩ := m_exec h21 hdd pad past pp ps ty sp l (i + 1) m (N + 6) v1 E1 st' paid1 (upd (upd stop 0 (nI i)) 1 (dd (4 * i + 3))) o1 bb1 mm1 hL2 hil (by omega) (by omega) hR1 hk1 (deed_I hI hv hst) hp1
      simp only [execS, hst]
      exact ⟨v', E', paid', isS', stop', o2, bb2, mm2, f1, f2.mono (by rw [List.length_cons]; omega), f3, f4, f5⟩
    | none =>
      rw [hst] at g2
      obtain ⟨hz, es, ep⟩ := g2
      rw [if_neg hz]
      show ∃ v' E' paid' isS' stop' o1' bb1' m1', f_X6_carryOut_J62 pad (f_X6_carryOut_L33 pad m) (nI i) 1 s' past paid1 pp ps (1 : Int32) ty (0 : Int32) stop o1 bb1 mm1 sp (nI L.length) dd = _ ∧ _
      rw [hJ 1 (by decide +kernel), if_neg ne10, es, ep]
      obtain ⟨k, rfl⟩ : ∃ k, m = k + 1 := ⟨m - 1, by omega⟩
      show ∃ v' E' paid' isS' stop' o1' bb1' m1', f_X6_carryOut_L33b _ _ _ _ _ _ _ _ _ _ _ _ _ _ _ _ _ _ = _ ∧ _
      unfold f_X6_carryOut_L33b
      rw [if_neg (nI_ge hil (by omega)), if_neg ne10]
      simp only [execS, hst]
      refine ⟨v, E, paid, _, _, _, _, _, rfl, hR.mono (by omega), hkp, hpa, rfl, rfl, ?_, ?_, hp60⟩
      · exact hd.2.2.2
      · show i ≤ 60
        omega
theorem CX.stopN {own : Nat → Nat} {h : KH} {ax nw : Nat} {snO : Option Nat} {hl : Nat} {hks : List (Nat × DS)} {rk b1 b2 b3 pd sg : Nat} {P LC : Nat → Int64} {BO SIG : Nat → Int32} {A : AS} (hc : CX ct a0 own h ax nw snO hl hks rk b1 b2 b3 pd sg P LC BO SIG A) {K : KH → Prop} (hK : ∀ h1, CX ct a0 own h1 ax nw snO hl hks rk b1 b2 b3 pd sg P LC BO SIG (A.1, A.2.1, A.2.2.1, A.2.2.2.1, A.2.2.2.2.1, none) → K h1) : wrF h ax 6 5 (.int (-1 : Int32)) (fun h7 => wrF h7 ax 6 6 (.int (-1 : Int32)) K) := by
  refine ⟨_, hc.1, (by decide : 5 < 7), fun h7 e7 => ?_⟩
  have hax : h7 ax = some (.inr (6, (axF nw snO hl rk pd A.2.2.2.2.2).set 5 (.int (-1)))) := by rw [e7]; exact hup_same
  refine ⟨_, hax, (by decide : 6 < 7), fun h8 e8 => hK h8 ?_⟩
  have e : h8 = hup h ax (.inr (6, axF nw snO hl rk pd none)) := by
    rw [e8, e7, hup_hup]
    rfl
  rw [e]
  exact hc.obj hc.2.2.2.2.1 hc.2.2.2.2.2.1 (fun x hx => (hc.2.2.2.2.2.2.2.1 x hx).2)
set_option maxHeartbeats 1000000 in
theorem sq_carryOut : St_carryOut ct a0 (Rel ct a0) := by
  intro j hj ax h M hr
  obtain ⟨own, A, ⟨nw, snO, hl, hks, rk, b1, b2, b3, pd, sg, P, LC, BO, SIG, hc⟩, ⟨m1, m2, m3, m4, m5, m6⟩, hG⟩ := hr
  obtain ⟨past', pp', ec, hH⟩ := m_changes m1 m2
  obtain ⟨v, E, eM, hR, hkp, hpa⟩ := m1.opn
  have hI := hG.1
  refine hc.rdN (fun q h3 hq hc3 e3 => ?_)
  obtain ⟨s1, s2⟩ := hc.saX
  obtain ⟨w1, w2⟩ := hc3.rdW e3
  obtain ⟨q4, f1, f2⟩ := c_findFault s1 s2 0 0 0 0 0
  refine ⟨_, _, _, _, _, _, _, _, _, q4, rfl, w1, f1, fun h4 e4 => ?_⟩
  have hc4 : CX ct a0 (oup own q (2 * q + 2)) h4 ax nw snO hl hks rk b1 b2 b3 pd sg P LC BO SIG A := by
    rw [e4, w2]
    exact hc3.rdU e3 oup_same _
  obtain ⟨sp, dd1, g1, g2⟩ := m_fault s1 (TxR.sgX m5) M.2.2.2.2.2.2.2.2.2.2.2.2.2.2.2.2.2.2.2.1 M.2.2.2.2.2.2.2.2.2.2.2.2.2.2.2.2.2.2.2.2.1 M.2.2.2.2.2.2.2.2.2.2.2.2.2.2.2.2.2.2.2.2.2
  rw [← m5.1] at g1
  obtain ⟨hlen, hx⟩ := scan_len s1 21 0 (Nat.zero_le _)
  have hok := scan_ok s1 21 0 (Nat.zero_le _)
  obtain ⟨k1, k2, k3⟩ := fm_some (x := (scan (sa A.2.2.2.1 A.2.2.2.2.1) A.2.2.2.2.1 21 0).2) (fun p hp => Nat.le_trans (hx p hp) s1.1)
  by_cases q5 : (scan (sa A.2.2.2.1 A.2.2.2.2.1) A.2.2.2.2.1 21 0).2 = none
  · rw [if_pos (show q4.1 = (-1 : Int32) by rw [f2]; exact k2.mpr q5)]
    refine hc4.o (p_remember hc4 hI.1 hI.2.1 hG.2.2.2 (fun own1 h1 hks1 hc5 => ?_))
    refine hc5.stopN (fun h8 hc8 => hc8.rdN (fun q9 h11 hq9 hc11 e11 => ?_))
    have hdd : ∀ k x, (scan (sa A.2.2.2.1 A.2.2.2.2.1) A.2.2.2.2.1 21 0).1[k]? = some x → DdR dd1 k (sa A.2.2.2.1 A.2.2.2.2.1) x ∧ VR (rdS (sa A.2.2.2.1 A.2.2.2.2.1) x) ∧ x ≤ 60 := fun k x hk => by
      obtain ⟨o1, o2⟩ := hok x (List.mem_of_getElem? hk)
      exact ⟨g2 k x hk, (VR_of s1 o1 o2).1, Nat.le_trans o1 s1.1⟩
    obtain ⟨v', E', paid', isS', stop', o1, bb1, mm1, t1, t2, t3, t4, t5⟩ := m_exec hlen hdd M.2.2.2.2.2.2.2.2.2.2.2.1 past' pp' (nI (pushH A.2.2.1 A.1).length) 0 sp (scan (sa A.2.2.2.1 A.2.2.2.2.1) A.2.2.2.2.1 21 0).1 0 1024 (200 * j) v E A.1 M.2.2.2.2.1 M.2.2.2.2.2.2.2.2.2.2.2.2.2.2.1 M.2.2.2.2.2.2.2.2.2.2.2.2.2.2.2.1 M.2.2.2.2.2.2.2.2.2.2.2.2.2.2.2.2.1 M.2.2.2.2.2.2.2.2.2.2.2.2.2.2.2.2.2.1 rfl (Nat.zero_le _) (by omega) (by omega) hR hkp hI hpa
    refine c_exec 21 61 0 0 (oup own1 q9 (2 * q9 + 2)) h11 P LC BO (A.1, A.2.1, pushH A.2.2.1 A.1, A.2.2.2.1, A.2.2.2.2.1, none) q9 0 0 0 0 0 q5 (Nat.zero_le _) (by decide) (by decide) hc11 rfl hI e11 oup_same (fun own3 h3 P3 LC3 BO3 hcE => ?_)
    refine ⟨(nI (execS (sa A.2.2.2.1 A.2.2.2.2.1) (scan (sa A.2.2.2.1 A.2.2.2.2.1) A.2.2.2.2.1 21 0).1 A.1 0).2.1, SI v', past', paid', pp', nI (pushH A.2.2.1 A.1).length, 0, 0, isS', stop', o1, bb1, mm1, sp, nI (scan (sa A.2.2.2.1 A.2.2.2.2.1) A.2.2.2.2.1 21 0).1.length, dd1), ?_, rfl, own3, _, ⟨_, _, _, _, _, _, _, _, _, _, _, _, _, _, hcE⟩, ⟨StR.mk0 (t2.mono (by omega)) t3 t4, hH.mono (by omega), m3.mono (by omega), rfl, ⟨rfl, fun i hi => absurd hi (Nat.not_lt_zero _)⟩, t5⟩, exec_I _ _ _ (fun x hx => ?_) hI, hG.2.1, hG.push, pushH_len hG.2.2.2⟩
    · unfold f_X6_carryOut
      rw [g1, bnd_s, if_pos (k1.mpr q5), m4, ec, bnd_s, eM]
      exact t1
    · obtain ⟨y1, y2⟩ := hok x hx
      exact (VR_of s1 y1 y2).1
  · rw [if_neg (show ¬ q4.1 = (-1 : Int32) by rw [f2]; exact fun z => q5 (k2.mp z))]
    refine ⟨(-2, M.1, M.2.1, M.2.2.2.2.1, M.2.2.2.2.2.1, M.2.2.2.2.2.2.2.2.2.1, M.2.2.2.2.2.2.2.2.2.2.1, M.2.2.2.2.2.2.2.2.2.2.2.2.1, M.2.2.2.2.2.2.2.2.2.2.2.2.2.1, M.2.2.2.2.2.2.2.2.2.2.2.2.2.2.1, M.2.2.2.2.2.2.2.2.2.2.2.2.2.2.2.1, M.2.2.2.2.2.2.2.2.2.2.2.2.2.2.2.2.1, M.2.2.2.2.2.2.2.2.2.2.2.2.2.2.2.2.2.1, sp, nI (scan (sa A.2.2.2.1 A.2.2.2.2.1) A.2.2.2.2.1 21 0).1.length, dd1), ?_, rfl, _, A, ⟨_, _, _, _, _, _, _, _, _, _, _, _, _, _, hc4⟩, MR.mono (N := 200 * j) ⟨m1, m2, m3, m4, m5, m6⟩ (by omega), hG⟩
    unfold f_X6_carryOut
    rw [g1, bnd_s, if_neg (fun z => q5 (k1.mp z))]
end CB
