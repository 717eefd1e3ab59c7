/-! pin; undo, save, restore; append, clear -/
section P2
variable {ct : Nat → ClassId} {a0 : Nat} {N : Nat} {v : Nat → Nat} {E : List ME} {st : DS}
def pinD (st : DS) (E : List ME) (s pn : Nat) : DS := (st.1, st.2.1, st.2.2.1, (E.map (pinE s pn)).map Prod.fst, st.2.2.2.2)
theorem pin_mem {s pn : Nat} (hkp : st.2.2.2.1 = E.map Prod.fst) {x : PL} (hx : x ∈ (pinD st E s pn).2.2.2.1) : ∃ y ∈ st.2.2.2.1, x = y ∨ x = pinP pn y := by
  obtain ⟨e1, he1, rfl⟩ := List.mem_map.mp hx
  obtain ⟨e, he, rfl⟩ := List.mem_map.mp he1
  refine ⟨e.1, by rw [hkp]; exact List.mem_map_of_mem he, ?_⟩
  unfold pinE
  split
  · exact Or.inr rfl
  · exact Or.inl rfl
theorem pin_SZD {s pn : Nat} (hkp : st.2.2.2.1 = E.map Prod.fst) (hpn : pn < 2) (hI : IV st) : SOK (pinD st E s pn) ∧ ZOK (pinD st E s pn) ∧ DOK (pinD st E s pn) := by
  obtain ⟨⟨s1, s2, s3, s4, s5, s6⟩, hZ, hD, hL⟩ := hI
  refine ⟨⟨s1, s2, s3, fun x hx => ?_, ?_, s6⟩, hZ, ?_⟩
  · obtain ⟨y, hy, h | h⟩ := pin_mem hkp hx
    · rw [h]; exact s4 y hy
    · rw [h]
      obtain ⟨p1, p2, p3, p4, p5⟩ := s4 y hy
      exact ⟨p1, p2, p3, p4, hpn⟩
  · show ((E.map (pinE s pn)).map Prod.fst).length ≤ 4
    rw [List.length_map, List.length_map]
    rw [hkp, List.length_map] at s5
    exact s5
  · show (((E.map (pinE s pn)).map Prod.fst).map Prod.fst).Nodup
    have e : ((E.map (pinE s pn)).map Prod.fst).map Prod.fst = (E.map Prod.fst).map Prod.fst := by
      rw [List.map_map, List.map_map, List.map_map]
      refine List.map_congr_left (fun y hy => ?_)
      show (pinE s pn y).1.1 = y.1.1
      unfold pinE
      split <;> rfl
    rw [e, ← hkp]
    exact hD
theorem pin_L1 {s : Nat} (hkp : st.2.2.2.1 = E.map Prod.fst) (hL : LOK st) : LOK (pinD st E s 1) := fun x hx => by
  obtain ⟨y, hy, h | h⟩ := pin_mem hkp hx
  · rw [h]; exact hL y hy
  · rw [h]; rfl
theorem thr_id {c : Nat} (hL : LOK st) : thrown st c (keepD st.2.1 st.2.2.2.2.1) = st := by
  have e : st.2.2.2.1.filter (keepD st.2.1 st.2.2.2.2.1) = st.2.2.2.1 := List.filter_eq_self.mpr hL
  unfold thrown
  rw [e, Nat.sub_self, Nat.add_zero, nu_id]
theorem SR.pin (hR : SR N v E st) {s pn : Nat} (hs : ∃ e ∈ E, e.2.1 = s) (hpn : pn < 2) : SR N (nu v (36 + 14 * s + 13) pn) (E.map (pinE s pn)) (pinD st E s pn) := by
  have h4 : s < 4 := by
    obtain ⟨e, he, rfl⟩ := hs
    exact (hR.1.1 e he).1
  exact ⟨hR.1.pin hs hpn, hR.2.1.slot (by omega), hR.2.2.up (by omega) (Nat.le_refl _)⟩
set_option maxHeartbeats 1000000 in
theorem sq_pin : St_pin ct a0 (Rel ct a0) := by
  intro j hj ax h M a1 hr
  have hr1 := hr.up
  obtain ⟨own, A, ⟨nw, snO, hl, hks, rk, b1, b2, b3, pd, sg, P, LC, BO, SIG, hc⟩, ⟨m1, m2, m3, m4, m5, m6⟩, hG⟩ := hr
  obtain ⟨past', pp', ec, hH⟩ := m_changes m1 m2
  obtain ⟨v, E, eM, hR, hkp, hpa⟩ := m1.opn
  have hI := hG.1
  have hN : 200 * j < 2 ^ 28 := by omega
  rcases set_or a1 with ⟨s, s1, hs, rfl, e1, e2⟩ | ⟨e1, e2⟩
  · refine ⟨1, e1, ?_⟩
    rw [if_neg ne10]
    obtain ⟨r, g, p, l, pr, kas, hs0⟩ := hc.2.2.2.2.1
    refine hc.nowR (hs0.o (c_placeOf hc.2.2.2.2.1 hI.1 hs (fun i x hi hx => ?_) (fun hno => ?_)))
    · have hil := (List.getElem?_eq_some_iff.mp hi).1
      have h4 := hI.1.2.2.2.2.1
      rw [if_neg (nI_m1 (by omega))]
      obtain ⟨e, hie, rfl⟩ := getE hkp hi
      have hem := List.mem_of_getElem? hie
      obtain ⟨w1, w2, w3, w4⟩ := hR.1.1 e hem
      subst hx
      have h13 : v (36 + 14 * e.2.1 + 13) = e.1.2.2.2.2 := w3.2.2.2.2
      refine hc.o (p_remember hc hI.1 hI.2.1 hG.2.2.2 (fun own1 h1 hks1 hc1 => ?_))
      obtain ⟨r, g, p, l, pr, kas, hs1⟩ := hc1.2.2.2.2.1
      obtain ⟨k, hk⟩ := getK hs1 (i := i) (x := e.1) hi
      refine hc1.nowR (hs1.gt hk ((hs1.kp _ (List.mem_of_getElem? hk)).pin ?_))
      have J : ∀ pn, pn < 2 → pn = 1 - e.1.2.2.2.2 → g_X5_pin_J55 ct a0 ax (nI e.1.1) (fun r h1 => ∃ q : Int32 × (Nat → Int32) × (Nat → Int32) × (Nat → Int64) × (Int32), f_X6_pin (nI e.1.1) M.1 M.2.1 M.2.2.2.2.1 M.2.2.2.2.2.1 M.2.2.2.2.2.2.2.2.2.1 M.2.2.2.2.2.2.2.2.2.2.1 = some q ∧ q.1 = r ∧ Rel ct a0 (j + 1) ax h1 (q.2.1, q.2.2.1, M.2.2.1, M.2.2.2.1, M.2.2.2.2.1, q.2.2.2.1, M.2.2.2.2.2.2.1, M.2.2.2.2.2.2.2.1, M.2.2.2.2.2.2.2.2.1, q.2.2.2.2, M.2.2.2.2.2.2.2.2.2.2.1, M.2.2.2.2.2.2.2.2.2.2.2.1, M.2.2.2.2.2.2.2.2.2.2.2.2.1, M.2.2.2.2.2.2.2.2.2.2.2.2.2.1, M.2.2.2.2.2.2.2.2.2.2.2.2.2.2.1, M.2.2.2.2.2.2.2.2.2.2.2.2.2.2.2.1, M.2.2.2.2.2.2.2.2.2.2.2.2.2.2.2.2.1, M.2.2.2.2.2.2.2.2.2.2.2.2.2.2.2.2.2.1, M.2.2.2.2.2.2.2.2.2.2.2.2.2.2.2.2.2.2.1, M.2.2.2.2.2.2.2.2.2.2.2.2.2.2.2.2.2.2.2.1, M.2.2.2.2.2.2.2.2.2.2.2.2.2.2.2.2.2.2.2.2.1, M.2.2.2.2.2.2.2.2.2.2.2.2.2.2.2.2.2.2.2.2.2)) (nI i) (nI pn) h1 := fun pn hpn epn => by
        unfold g_X5_pin_J55
        refine hc1.nowR (hs1.o (p_setPinned hs1 hk hpn (fun own2 h2 k2 hs2 f2 => ?_)))
        have ekp : (kas.set i (k2, e.1.1, e.1.2.1, e.1.2.2.1, e.1.2.2.2.1, pn)).map Prod.snd = (pinD A.1 E e.2.1 pn).2.2.2.1 := by
          show _ = (E.map (pinE e.2.1 pn)).map Prod.fst
          rw [pinE_map pn E i e hR.1.2.1 hie, ← hkp, List.map_set, ← hs1.kpe]
          rfl
        have hkey : ∀ kk, kk = (pinD A.1 E e.2.1 pn).2.2.2.1 → StX ct a0 own2 h2 nw r g p l pr (kas.set i (k2, e.1.1, e.1.2.1, e.1.2.2.1, e.1.2.2.2.1, pn)) (A.1.1, A.1.2.1, A.1.2.2.1, kk, A.1.2.2.2.2) → StX ct a0 own2 h2 nw r g p l pr (kas.set i (k2, e.1.1, e.1.2.1, e.1.2.2.1, e.1.2.2.2.1, pn)) (pinD A.1 E e.2.1 pn) := fun kk e h => by subst e; exact h
        have hs2 := hkey _ ekp hs2
        have hc2 := hc1.now f2 ⟨_, _, _, _, _, _, hs2⟩
        obtain ⟨dS, dZ, dD⟩ := pin_SZD (s := e.2.1) hkp hpn hI
        refine hc2.nowR (hs2.o (p_throwD hs2 dS (fun own3 h3 hs3 f3 => ?_)))
        obtain ⟨kas3, hs3⟩ := hs3
        have hc3 := hc2.now f3 ⟨_, _, _, _, _, _, hs3⟩
        have hR1 := hR.pin ⟨e, hem, rfl⟩ hpn
        have pre : ∀ z, (if nI pn = (0 : Int32) then bnd (f_X6_throwsOut (SI (nu v (36 + 14 * e.2.1 + 13) pn))) (fun q11 => if (0 : Int32) ≤ q11.1 then some (nI pn, q11.2, past', pp', nI (pushH A.2.2.1 A.1).length) else some ((-4 : Int32), q11.2, past', pp', nI (pushH A.2.2.1 A.1).length)) else some (nI pn, SI (nu v (36 + 14 * e.2.1 + 13) pn), past', pp', nI (pushH A.2.2.1 A.1).length)) = some z → f_X6_pin (nI e.1.1) M.1 M.2.1 M.2.2.2.2.1 M.2.2.2.2.2.1 M.2.2.2.2.2.2.2.2.2.1 M.2.2.2.2.2.2.2.2.2.2.1 = some z := fun z hz => by
          unfold f_X6_pin
          rw [eM] at ec
          rw [e2, bnd_s, if_neg ne10, eM, m_slotI hR hkp hI.2.2.1 hN hem, bnd_s, if_pos (show (0 : Int32) ≤ nI e.2.1 from nI_le (a := 0) (Nat.zero_le _) (by omega)), m4, ec, bnd_s, m_at, bnd_s, show (13 : Int32) = nI 13 from rfl, nI_add, grd_inb (by omega) (by decide), bnd_s, nI_add, grd_inb (by omega) (by decide), nI_clamp (by omega), SI_at, h13, show (1 : Int32) - nI e.1.2.2.2.2 = nI pn by rw [epn]; exact pk_sub (a := 1) (by have := w2.2.2.2.2; omega), SI_up]
          exact hz
        rcases (show pn = 0 ∨ pn = 1 by omega) with rfl | rfl
        · rw [if_pos (show nI 0 = (0 : Int32) from rfl)]
          obtain ⟨v', E', g1, g2, g3⟩ := m_throws (st := pinD A.1 E e.2.1 0) dS.2.1 dS.2.2.2.2.2.2 dS.2.2.2.2.1 hN hR1 rfl
          have hle := dS.2.2.2.2.1
          refine ⟨(0, SI v', past', pp', nI (pushH A.2.2.1 A.1).length), pre _ ?_, rfl, own3, _, ⟨_, _, _, _, _, _, _, _, _, _, _, _, _, _, hc3⟩, ⟨StR.mk0 (g2.mono (by omega)) g3 hpa, hH.mono (by omega), m3.mono (by omega), m4, m5, m6⟩, thr_I (by decide) dS dZ dD, hG.2.1, hG.push, pushH_len hG.2.2.2⟩
          rw [if_pos (show nI 0 = (0 : Int32) from rfl), g1, bnd_s]
          exact if_pos (nI_le (a := 0) (Nat.zero_le _) (by omega))
        · rw [if_neg (show ¬ nI 1 = (0 : Int32) by decide +kernel)]
          have dL : LOK (pinD A.1 E e.2.1 1) := pin_L1 hkp hI.2.2.2
          rw [thr_id dL] at hc3
          refine ⟨(1, SI (nu v (36 + 14 * e.2.1 + 13) 1), past', pp', nI (pushH A.2.2.1 A.1).length), pre _ (if_neg (show ¬ nI 1 = (0 : Int32) by decide +kernel)), rfl, own3, _, ⟨_, _, _, _, _, _, _, _, _, _, _, _, _, _, hc3⟩, ⟨StR.mk0 (hR1.mono (by omega)) rfl hpa, hH.mono (by omega), m3.mono (by omega), m4, m5, m6⟩, ⟨dS, dZ, dD, dL⟩, hG.2.1, hG.push, pushH_len hG.2.2.2⟩
      by_cases q : e.1.2.2.2.2 = 0
      · rw [if_pos (show nI e.1.2.2.2.2 = (0 : Int32) by rw [q]; rfl)]
        exact J 1 (by decide) (by rw [q])
      · have q1 : e.1.2.2.2.2 = 1 := by have := w2.2.2.2.2; omega
        rw [if_neg (show ¬ nI e.1.2.2.2.2 = (0 : Int32) by rw [q1]; decide +kernel)]
        exact J 0 (by decide) (by rw [q1])
    · rw [if_pos rfl]
      exact ⟨(-2, M.1, M.2.1, M.2.2.2.2.2.1, M.2.2.2.2.2.2.2.2.2.1), by unfold f_X6_pin; rw [e2, bnd_s, if_neg ne10, eM, m_slotN hR hkp hN hs (by omega) hno, bnd_s, if_neg (by decide +kernel)], rfl, hr1⟩
  · refine ⟨0, e1, ?_⟩
    rw [if_pos rfl]
    exact ⟨_, by unfold f_X6_pin; rw [e2, bnd_s, if_pos rfl], rfl, hr1⟩
end P2
