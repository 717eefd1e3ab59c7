/-! plan -/
section PLN
variable {ct : Nat → ClassId} {a0 : Nat}
theorem isKp.o {own : Nat → Nat} {h : KH} {k : Nat} {x : PL} (hk : isKp ct own h k x) {K : Prop} (hK : K) : isO h k 1 K := by
  obtain ⟨-, gg, -, e, -⟩ := hk
  exact ⟨⟨_, e⟩, hK⟩
abbrev QPL : Type := Int32 × (Nat → Int32) × (Nat → Int32) × (Int32)
set_option maxHeartbeats 2000000 in
theorem sq_plan : St_plan ct a0 (Rel ct a0) := by
  intro j hj ax h M a1 a2 hr
  have hr1 := hr.up
  obtain ⟨own, A, ⟨nw, snO, hl, hks, rk, b1, b2, b3, pd, sg, P, LC, BO, SIG, hc⟩, ⟨m1, m2, m3, m4, m5, m6⟩, hG⟩ := hr
  obtain ⟨v, E, eM, hR, hkp, hpa⟩ := m1.opn
  have hI := hG.1
  have hS := hI.1
  have hN : 200 * j < 2 ^ 28 := by omega
  have wR := szN_WB hS.1 hS.2.2.1
  generalize hO : M.2.2.2.2.2.2.2.2.2.2.2.2.2.2.2.1 = od
  generalize hB : M.2.2.2.2.2.2.2.2.2.2.2.2.2.2.2.2.1 = bs
  generalize hY : M.2.2.2.2.2.2.2.2.2.2.2.2.2.2.2.2.2.1 = my
  have fin : ∀ (h1 : KH) (P' LC' : Nat → Int64) (BO' : Nat → Int32), CX ct a0 own h1 ax nw snO hl hks rk b1 b2 b3 pd sg P' LC' BO' SIG A → ∀ (z : Int32) (y : (Nat → Int32) × (Nat → Int32) × Int32), f_X6_plan a1 a2 M.1 od bs my = some (z, y) → ∃ q : QPL, f_X6_plan a1 a2 M.1 od bs my = some q ∧ q.1 = z ∧ Rel ct a0 (j + 1) ax h1 (M.1, M.2.1, M.2.2.1, M.2.2.2.1, M.2.2.2.2.1, M.2.2.2.2.2.1, M.2.2.2.2.2.2.1, M.2.2.2.2.2.2.2.1, M.2.2.2.2.2.2.2.2.1, M.2.2.2.2.2.2.2.2.2.1, M.2.2.2.2.2.2.2.2.2.2.1, M.2.2.2.2.2.2.2.2.2.2.2.1, M.2.2.2.2.2.2.2.2.2.2.2.2.1, M.2.2.2.2.2.2.2.2.2.2.2.2.2.1, M.2.2.2.2.2.2.2.2.2.2.2.2.2.2.1, q.2.1, q.2.2.1, q.2.2.2, M.2.2.2.2.2.2.2.2.2.2.2.2.2.2.2.2.2.2.1, M.2.2.2.2.2.2.2.2.2.2.2.2.2.2.2.2.2.2.2.1, M.2.2.2.2.2.2.2.2.2.2.2.2.2.2.2.2.2.2.2.2.1, M.2.2.2.2.2.2.2.2.2.2.2.2.2.2.2.2.2.2.2.2.2) := fun h1 P' LC' BO' hc1 z y hz =>
    ⟨(z, y), hz, rfl, own, A, ⟨_, _, _, _, _, _, _, _, _, _, _, _, _, _, hc1⟩, MR.mono (N := 200 * j) ⟨m1, m2, m3, m4, m5, m6⟩ (by omega), hG⟩
  rcases set_or a1 with ⟨s, s1, hs, rfl, e1, e2⟩ | ⟨e1, e2⟩
  · refine ⟨1, e1, ?_⟩
    rw [if_neg ne10]
    rcases in_or a2 (lo := 0) (hi := 11) (by decide) (by decide) with ⟨n, n0, n1, rfl, n2⟩ | ⟨n0, n2⟩
    · rw [show ∀ P Q : Prop, (if nI n < (0 : Int32) then P else if nI n ≤ (11 : Int32) then Q else P) = Q from fun P Q => if_in n0 n1 (by decide)]
      obtain ⟨r, g, p, l, pr, kas, hs0⟩ := hc.2.2.2.2.1
      refine hc.nowR (hs0.o (c_placeOf hc.2.2.2.2.1 hS hs (fun i x hi hx => ?_) (fun hno => ?_)))
      · have hil := (List.getElem?_eq_some_iff.mp hi).1
        have h4 := hS.2.2.2.2.1
        rw [if_neg (nI_m1 (by omega))]
        obtain ⟨e, hie, rfl⟩ := getE hkp hi
        have hem := List.mem_of_getElem? hie
        obtain ⟨w1, w2, w3, w4⟩ := hR.1.1 e hem
        subst hx
        obtain ⟨k, hk⟩ := getK hs0 (i := i) (x := e.1) hi
        have hK := hs0.kp _ (List.mem_of_getElem? hk)
        have hpm := w2.2.2.1
        have hpl := perms_len _ w2.2.1 _ hpm
        have h5 := pc_le _ w2.2.1
        -- the model, up to the choice
        have hM : ∀ z, (if nI n = (5 : Int32) then bnd (f_X6_costAt (nI e.2.1) (0 : Int32) (SI v) od my) (fun q8 => bnd (f_X6_cut q8.1) (fun q9 => some (q9, q8.2.1, bs, q8.2.2))) else if nI n = (6 : Int32) then bnd (f_X6_costAt (nI e.2.1) (5 : Int32) (SI v) od my) (fun q11 => bnd (f_X6_cut q11.1) (fun q12 => some (q12, q11.2.1, bs, q11.2.2))) else if nI n = (7 : Int32) then some (nI e.1.2.2.2.1, od, bs, my) else if nI n = (8 : Int32) then some (nI e.1.2.2.2.2, od, bs, my) else if nI n = (9 : Int32) then bnd (f_X6_over (nI e.2.1) (SI v) od bs my) (fun q20 => bnd (f_X6_cut q20.1) (fun q21 => some (q21, q20.2.1, q20.2.2.1, q20.2.2.2))) else if nI n = (10 : Int32) then (if (if drB A.1.2.1 A.1.2.2.2.2.1 e.1 then 1 else 0) = 0 then some ((0 : Int32), od, bs, my) else some ((1 : Int32), od, bs, my)) else if nI n = (11 : Int32) then some (nI i, od, bs, my) else if nI (pc e.1.1) ≤ nI n then some ((-4 : Int32), od, bs, my) else bnd (f_X6_at (nI e.2.1)) (fun q30 => grd (inb ((q30 + (1 : Int32)) + nI n) 100) (some (SI v ((q30 + (1 : Int32)) + nI n).toNatClampNeg, od, bs, my)))) = some z → f_X6_plan (nI e.1.1) (nI n) M.1 od bs my = some z := fun z hz => by
          have h11 : v (36 + 14 * e.2.1 + 11) = e.1.2.2.2.1 := w3.2.2.2.1
          have h13 : v (36 + 14 * e.2.1 + 13) = e.1.2.2.2.2 := w3.2.2.2.2
          have h35 : v 35 = A.1.2.2.2.2.1 := hR.2.1.2.2.1
          have hdr := m_drifted hR.1 hem hR.2.2 (by omega) hS.2.1 (fun t ht => (hR.2.1.1 t ht).2) hS.2.2.2.2.2.2
          unfold f_X6_plan
          rw [e2, bnd_s, if_neg ne10, show f_X6_in (nI n) (0 : Int32) (11 : Int32) = some 1 from n2, bnd_s, if_neg ne10, eM, m_slotI hR hkp hI.2.2.1 hN hem, bnd_s, if_pos (show (0 : Int32) ≤ nI e.2.1 from nI_le (a := 0) (Nat.zero_le _) (by omega))]
          rw [← hz, m_order hR.1 hR.2.2 hN hie, bnd_s, m_tablesIn _ w2.2.1, bnd_s]
          have t7 : bnd (f_X6_at (nI e.2.1)) (fun q14 => grd (inb (q14 + (11 : Int32)) 100) (some (SI v (q14 + (11 : Int32)).toNatClampNeg, od, bs, my))) = some (nI e.1.2.2.2.1, od, bs, my) := by
            rw [m_at, bnd_s, show (11 : Int32) = nI 11 from rfl, nI_add, grd_inb (by omega) (by decide), nI_clamp (by omega), SI_at, h11]
          have t8 : bnd (f_X6_at (nI e.2.1)) (fun q17 => grd (inb (q17 + (13 : Int32)) 100) (some (SI v (q17 + (13 : Int32)).toNatClampNeg, od, bs, my))) = some (nI e.1.2.2.2.2, od, bs, my) := by
            rw [m_at, bnd_s, show (13 : Int32) = nI 13 from rfl, nI_add, grd_inb (by omega) (by decide), nI_clamp (by omega), SI_at, h13]
          have t10 : (grd (inb (35 : Int32) 100) (bnd (f_X6_hasDrifted (nI e.2.1) (SI v (35 : Int32).toNatClampNeg) (SI v)) (fun q24 => if q24 = (0 : Int32) then some ((0 : Int32), od, bs, my) else some ((1 : Int32), od, bs, my)))) = (if (if drB A.1.2.1 A.1.2.2.2.2.1 e.1 then 1 else 0) = 0 then some ((0 : Int32), od, bs, my) else some ((1 : Int32), od, bs, my)) := by
            rw [show (35 : Int32) = nI 35 from rfl, grd_inb (by decide) (by decide), nI_clamp (by decide), SI_at, h35, hdr, bnd_s]
            cases drB A.1.2.1 A.1.2.2.2.2.1 e.1 with
            | true => rfl
            | false => rfl
          rw [t7, t8, t10]
        refine hc.nowR (hs0.gt hk ?_)
        rcases (show n = 5 ∨ n = 6 ∨ n = 7 ∨ n = 8 ∨ n = 9 ∨ n = 10 ∨ n = 11 ∨ n ≤ 4 by omega) with rfl | rfl | rfl | rfl | rfl | rfl | rfl | hn4
        · rw [if_pos (show nI 5 = (5 : Int32) from rfl)]
          refine hc.o (p_reckoned hc hS (fun h1 P' LC' BO' hRk hc1 f1 => ?_))
          rw [if_neg ne10] at hRk
          refine (hK.frg f1 (by omega)).ord ⟨_, _, _, _, _, rfl, hc1.2.2.1.qw, c_cost hS.1 hS.2.2.1 hRk hs hpm, _, rfl, ?_⟩
          obtain ⟨o1, ef⟩ := m_costAt (hR.2.1.ms0 hS.1 hS.2.2.1) hR.1 hem od my
          exact fin _ _ _ _ hc1 _ (o1, bs, nI (pc e.1.1)) (hM _ (by rw [if_pos (show nI 5 = (5 : Int32) from rfl), show (0 : Int32) = nI 0 from rfl, ef, bnd_s, told_cut]; rfl))
        · rw [if_neg (show ¬ nI 6 = (5 : Int32) by decide +kernel), if_pos (show nI 6 = (6 : Int32) from rfl)]
          refine hc.o (p_reckoned hc hS (fun h1 P' LC' BO' hRk hc1 f1 => ?_))
          rw [if_pos rfl] at hRk
          refine (hK.frg f1 (by omega)).ord ⟨_, _, _, _, _, rfl, hc1.2.2.1.qw, c_cost hS.2.1 hS.2.2.1 hRk hs hpm, _, rfl, ?_⟩
          obtain ⟨o1, ef⟩ := m_costAt (hR.2.1.ms5 hS.2.1 hS.2.2.1) hR.1 hem od my
          exact fin _ _ _ _ hc1 _ (o1, bs, nI (pc e.1.1)) (hM _ (by rw [if_neg (show ¬ nI 6 = (5 : Int32) by decide +kernel), if_pos (show nI 6 = (6 : Int32) from rfl), show (5 : Int32) = nI 5 from rfl, ef, bnd_s, told_cut]; rfl))
        · rw [if_neg (show ¬ nI 7 = (5 : Int32) by decide +kernel), if_neg (show ¬ nI 7 = (6 : Int32) by decide +kernel), if_pos (show nI 7 = (7 : Int32) from rfl)]
          have et := told_v hR.2.2 hN (i := 36 + 14 * e.2.1 + 11) (by omega)
          rw [show v (36 + 14 * e.2.1 + 11) = e.1.2.2.2.1 from w3.2.2.2.1] at et
          exact hK.run ⟨_, et, fin _ _ _ _ hc _ (od, bs, my) (hM _ (by rw [if_neg (show ¬ nI 7 = (5 : Int32) by decide +kernel), if_neg (show ¬ nI 7 = (6 : Int32) by decide +kernel), if_pos (show nI 7 = (7 : Int32) from rfl)]))⟩
        · rw [if_neg (show ¬ nI 8 = (5 : Int32) by decide +kernel), if_neg (show ¬ nI 8 = (6 : Int32) by decide +kernel), if_neg (show ¬ nI 8 = (7 : Int32) by decide +kernel), if_pos (show nI 8 = (8 : Int32) from rfl)]
          have hM8 : f_X6_plan (nI e.1.1) (nI 8) M.1 od bs my = some (nI e.1.2.2.2.2, od, bs, my) := hM _ (by rw [if_neg (show ¬ nI 8 = (5 : Int32) by decide +kernel), if_neg (show ¬ nI 8 = (6 : Int32) by decide +kernel), if_neg (show ¬ nI 8 = (7 : Int32) by decide +kernel), if_pos (show nI 8 = (8 : Int32) from rfl)])
          refine hK.pin ?_
          have hp2 := w2.2.2.2.2
          rcases (show e.1.2.2.2.2 = 0 ∨ e.1.2.2.2.2 = 1 by omega) with q | q
          · rw [q] at hM8 ⊢
            rw [if_pos (show nI 0 = (0 : Int32) from rfl)]
            exact fin _ _ _ _ hc _ (od, bs, my) hM8
          · rw [q] at hM8 ⊢
            rw [if_neg (show ¬ nI 1 = (0 : Int32) by decide +kernel)]
            exact fin _ _ _ _ hc _ (od, bs, my) hM8
        · rw [if_neg (show ¬ nI 9 = (5 : Int32) by decide +kernel), if_neg (show ¬ nI 9 = (6 : Int32) by decide +kernel), if_neg (show ¬ nI 9 = (7 : Int32) by decide +kernel), if_neg (show ¬ nI 9 = (8 : Int32) by decide +kernel), if_pos (show nI 9 = (9 : Int32) from rfl)]
          refine hc.o (p_reckoned hc hS (fun h1 P' LC' BO' hRk hc1 f1 => ?_))
          rw [if_neg ne10] at hRk
          refine (hK.frg f1 (by omega)).ord ⟨_, _, _, _, _, rfl, hc1.2.2.1.qw, c_excess hS.1 hS.2.2.1 hRk hs (by omega) hpm, _, rfl, ?_⟩
          obtain ⟨o1, bb1, ef⟩ := m_over wR (hR.2.1.ms0 hS.1 hS.2.2.1) hR.1 hem od bs my
          exact fin _ _ _ _ hc1 _ (o1, bb1, nI (pc e.1.1)) (hM _ (by rw [if_neg (show ¬ nI 9 = (5 : Int32) by decide +kernel), if_neg (show ¬ nI 9 = (6 : Int32) by decide +kernel), if_neg (show ¬ nI 9 = (7 : Int32) by decide +kernel), if_neg (show ¬ nI 9 = (8 : Int32) by decide +kernel), if_pos (show nI 9 = (9 : Int32) from rfl), ef, bnd_s, told_cut]; rfl))
        · rw [if_neg (show ¬ nI 10 = (5 : Int32) by decide +kernel), if_neg (show ¬ nI 10 = (6 : Int32) by decide +kernel), if_neg (show ¬ nI 10 = (7 : Int32) by decide +kernel), if_neg (show ¬ nI 10 = (8 : Int32) by decide +kernel), if_neg (show ¬ nI 10 = (9 : Int32) by decide +kernel), if_pos (show nI 10 = (10 : Int32) from rfl)]
          have hM10 : ∀ z, (if (if drB A.1.2.1 A.1.2.2.2.2.1 e.1 then 1 else 0) = 0 then some ((0 : Int32), od, bs, my) else some ((1 : Int32), od, bs, my)) = some z → f_X6_plan (nI e.1.1) (nI 10) M.1 od bs my = some z := fun z hz => hM z (by rw [if_neg (show ¬ nI 10 = (5 : Int32) by decide +kernel), if_neg (show ¬ nI 10 = (6 : Int32) by decide +kernel), if_neg (show ¬ nI 10 = (7 : Int32) by decide +kernel), if_neg (show ¬ nI 10 = (8 : Int32) by decide +kernel), if_neg (show ¬ nI 10 = (9 : Int32) by decide +kernel), if_pos (show nI 10 = (10 : Int32) from rfl)]; exact hz)
          refine hc.nowR (hs0.o (p_drifts hs0 hS hK w2 (set := 0) (by decide) ?_))
          rw [gsel_0]
          cases hd : drB A.1.2.1 A.1.2.2.2.2.1 e.1 with
          | true =>
            rw [hd] at hM10
            rw [if_neg (show ¬ nI (if true = true then 1 else 0) = (0 : Int32) by decide +kernel)]
            exact fin _ _ _ _ hc _ (od, bs, my) (hM10 _ rfl)
          | false =>
            rw [hd] at hM10
            rw [if_pos (show nI (if false = true then 1 else 0) = (0 : Int32) by decide +kernel)]
            exact fin _ _ _ _ hc _ (od, bs, my) (hM10 _ rfl)
        · rw [if_neg (show ¬ nI 11 = (5 : Int32) by decide +kernel), if_neg (show ¬ nI 11 = (6 : Int32) by decide +kernel), if_neg (show ¬ nI 11 = (7 : Int32) by decide +kernel), if_neg (show ¬ nI 11 = (8 : Int32) by decide +kernel), if_neg (show ¬ nI 11 = (9 : Int32) by decide +kernel), if_neg (show ¬ nI 11 = (10 : Int32) by decide +kernel), if_pos (show nI 11 = (11 : Int32) from rfl)]
          exact fin _ _ _ _ hc _ (od, bs, my) (hM _ (by rw [if_neg (show ¬ nI 11 = (5 : Int32) by decide +kernel), if_neg (show ¬ nI 11 = (6 : Int32) by decide +kernel), if_neg (show ¬ nI 11 = (7 : Int32) by decide +kernel), if_neg (show ¬ nI 11 = (8 : Int32) by decide +kernel), if_neg (show ¬ nI 11 = (9 : Int32) by decide +kernel), if_neg (show ¬ nI 11 = (10 : Int32) by decide +kernel), if_pos (show nI 11 = (11 : Int32) from rfl)]))
        · have nn : ∀ m, 5 ≤ m → m < 12 → ¬ nI n = nI m := fun m m1 m2 z => by have := nI_inj31 (by omega) (by omega) z; omega
          have k5 : ¬ nI n = (5 : Int32) := nn 5 (by decide) (by decide)
          have k6 : ¬ nI n = (6 : Int32) := nn 6 (by decide) (by decide)
          have k7 : ¬ nI n = (7 : Int32) := nn 7 (by decide) (by decide)
          have k8 : ¬ nI n = (8 : Int32) := nn 8 (by decide) (by decide)
          have k9 : ¬ nI n = (9 : Int32) := nn 9 (by decide) (by decide)
          have k10 : ¬ nI n = (10 : Int32) := nn 10 (by decide) (by decide)
          have k11 : ¬ nI n = (11 : Int32) := nn 11 (by decide) (by decide)
          rw [if_neg k5, if_neg k6, if_neg k7, if_neg k8, if_neg k9, if_neg k10, if_neg k11]
          have hMn : ∀ z, (if nI (pc e.1.1) ≤ nI n then some ((-4 : Int32), od, bs, my) else bnd (f_X6_at (nI e.2.1)) (fun q30 => grd (inb ((q30 + (1 : Int32)) + nI n) 100) (some (SI v ((q30 + (1 : Int32)) + nI n).toNatClampNeg, od, bs, my)))) = some z → f_X6_plan (nI e.1.1) (nI n) M.1 od bs my = some z := fun z hz => hM z (by rw [if_neg k5, if_neg k6, if_neg k7, if_neg k8, if_neg k9, if_neg k10, if_neg k11]; exact hz)
          refine ⟨_, c_bitCount _ hs, ?_⟩
          by_cases q : pc e.1.1 ≤ n
          · rw [if_pos (nI_le q (by omega))]
            exact fin _ _ _ _ hc _ (od, bs, my) (hMn _ (if_pos (nI_le q (by omega))))
          · rw [if_neg (nI_ge (by omega) (by omega))]
            have ep := perms_at _ hs _ hpm n (by omega)
            rw [hpl] at ep
            refine hK.ord ⟨_, ep, fin _ _ _ _ hc _ (od, bs, my) (hMn _ ?_)⟩
            rw [if_neg (nI_ge (by omega) (by omega)), m_at, bnd_s, show nI (36 + 14 * e.2.1) + (1 : Int32) = nI (36 + 14 * e.2.1 + 1) from nI_1 _, nI_add, grd_inb (by omega) (by decide), nI_clamp (by omega), SI_at, w3.2.1 n (by omega)]
      · rw [if_pos rfl]
        exact fin _ _ _ _ hc _ (od, bs, my) (by unfold f_X6_plan; rw [e2, bnd_s, if_neg ne10, show f_X6_in (nI n) (0 : Int32) (11 : Int32) = some 1 from n2, bnd_s, if_neg ne10, eM, m_slotN hR hkp hN hs (by omega) hno, bnd_s, if_neg (by decide +kernel)])
    · rw [show ∀ P Q : Prop, (if a2 < (0 : Int32) then P else if a2 ≤ (11 : Int32) then Q else P) = P from fun P Q => if_out n0]
      exact fin _ _ _ _ hc _ (od, bs, my) (by unfold f_X6_plan; rw [e2, bnd_s, if_neg ne10, show f_X6_in a2 (0 : Int32) (11 : Int32) = some 0 from n2, bnd_s, if_pos rfl])
  · refine ⟨0, e1, ?_⟩
    rw [if_pos rfl]
    exact fin _ _ _ _ hc _ (od, bs, my) (by unfold f_X6_plan; rw [e2, bnd_s, if_pos rfl])
end PLN
