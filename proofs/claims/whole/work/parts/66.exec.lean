/-! carryOut: deeds -/
section EX
variable {ct : Nat → ClassId} {a0 : Nat} {N : Nat} {v : Nat → Nat} {E : List ME} {st : DS}
def pinS (st : DS) (sh : Nat) : Option DS := match st.2.2.2.1[idxS sh st.2.2.2.1]? with
  | some x => some (st.1, st.2.1, st.2.2.1, st.2.2.2.1.set (idxS sh st.2.2.2.1) (pinP 1 x), st.2.2.2.2)
  | none => none
def deedD (st : DS) (r : RD) : Option DS :=
  if r.2.2.1 = 99 then some (counted st (2 ^ r.2.2.2.1))
  else if r.2.2.1 = 113 then some (runD st r.2.2.2.1)
  else if r.2.2.1 = 114 then some (nu st.1 r.2.2.2.1 r.2.2.2.2, st.2)
  else pinS st r.2.2.2.1
def execS (s : Nat → Nat) : List Nat → DS → Nat → DS × Nat × Option (Nat × Nat)
  | [], st, d => (st, d, none)
  | p :: l, st, d => match deedD st (rdS s p) with
    | some st' => execS s l st' (d + 1)
    | none => (st, d, some (d, p))
/-- a deed that can be read -/
def VR (r : RD) : Prop := (r.2.2.1 = 99 ∧ r.2.2.2.1 < 5) ∨ ((r.2.2.1 = 112 ∨ r.2.2.1 = 113) ∧ 0 < r.2.2.2.1 ∧ r.2.2.2.1 < 32) ∨ (r.2.2.1 = 114 ∧ r.2.2.2.1 < 5 ∧ 1 ≤ r.2.2.2.2 ∧ r.2.2.2.2 ≤ 500)
theorem idx_or (l : List PL) (sh : Nat) : (∃ (i : Nat) (x : PL), l[i]? = some x ∧ x.1 = sh) ∨ ∀ x ∈ l, x.1 ≠ sh := by
  induction l with
  | nil => exact Or.inr (fun x hx => by cases hx)
  | cons y l ih =>
    by_cases q : y.1 = sh
    · exact Or.inl ⟨0, y, rfl, q⟩
    · rcases ih with ⟨i, x, hi, hx⟩ | h
      · exact Or.inl ⟨i + 1, x, hi, hx⟩
      · exact Or.inr (fun x hx => by
          rcases List.mem_cons.mp hx with hx | hx
          · rw [hx]; exact q
          · exact h x hx)
theorem pinS_some {sh i : Nat} {x : PL} (hD : DOK st) (hi : st.2.2.2.1[i]? = some x) (hx : x.1 = sh) : pinS st sh = some (st.1, st.2.1, st.2.2.1, st.2.2.2.1.set i (pinP 1 x), st.2.2.2.2) := by
  have e := idxS_some _ i x hD hi hx
  unfold pinS
  rw [e, hi]
theorem pinS_none {sh : Nat} (hno : ∀ x ∈ st.2.2.2.1, x.1 ≠ sh) : pinS st sh = none := by
  have e := idxS_none _ hno
  unfold pinS
  rw [e]
theorem set_map_fst {l : List PL} {i : Nat} {x : PL} (hi : l[i]? = some x) : (l.set i (pinP 1 x)).map Prod.fst = l.map Prod.fst := by
  rw [List.map_set]
  have e : (l.map Prod.fst)[i]? = some (pinP 1 x).1 := by rw [List.getElem?_map, hi]; rfl
  have hl := (List.getElem?_eq_some_iff.mp e)
  apply List.ext_getElem?
  intro k
  by_cases q : i = k
  · subst q
    rw [List.getElem?_set_self hl.1, e]
  · rw [List.getElem?_set_ne q]
theorem pinS_I (hI : IV st) {i : Nat} {x : PL} (hi : st.2.2.2.1[i]? = some x) : IV (st.1, st.2.1, st.2.2.1, st.2.2.2.1.set i (pinP 1 x), st.2.2.2.2) := by
  obtain ⟨⟨s1, s2, s3, s4, s5, s6⟩, hZ, hD, hL⟩ := hI
  have hm := List.mem_of_getElem? hi
  refine ⟨⟨s1, s2, s3, fun y hy => ?_, by show (st.2.2.2.1.set i (pinP 1 x)).length ≤ 4; rw [List.length_set]; exact s5, s6⟩, hZ, ?_, fun y hy => ?_⟩
  · rcases mem_set hy with h | h
    · exact s4 y h
    · rw [h]
      obtain ⟨p1, p2, p3, p4, p5⟩ := s4 x hm
      exact ⟨p1, p2, p3, p4, (by decide : 1 < 2)⟩
  · show ((st.2.2.2.1.set i (pinP 1 x)).map Prod.fst).Nodup
    rw [set_map_fst hi]
    exact hD
  · rcases mem_set hy with h | h
    · exact hL y h
    · rw [h]; rfl
theorem deed_I (hI : IV st) {r : RD} (hr : VR r) {st' : DS} (h : deedD st r = some st') : IV st' := by
  unfold deedD at h
  rcases hr with ⟨e, h1⟩ | ⟨e, h1, h2⟩ | ⟨e, h1, h2, h3⟩
  · rw [if_pos e] at h; cases h
    exact counted_ok hI.1 hI.2.1 hI.2.2.1 _
  · rcases e with e | e
    · rw [if_neg (by omega), if_neg (by omega), if_neg (by omega)] at h
      rcases idx_or st.2.2.2.1 r.2.2.2.1 with ⟨i, x, hi, hx⟩ | hno
      · rw [pinS_some hI.2.2.1 hi hx] at h; cases h
        exact pinS_I hI hi
      · rw [pinS_none hno] at h; cases h
    · rw [if_neg (by omega), if_pos e] at h; cases h
      exact run_ok hI h2 (by omega)
  · rw [if_neg (by omega), if_neg (by omega), if_pos e] at h; cases h
    exact rows_I hI h1 ⟨h2, h3⟩
theorem told_nn {n : Nat} (h : n < 2 ^ 62) : ∃ k, k ≤ 1000000000 ∧ f_X5_told (lN n) = some (nI k) := by
  by_cases q : n ≤ 1000000000
  · exact ⟨n, q, told_sm q⟩
  · refine ⟨1000000000, Nat.le_refl _, ?_⟩
    unfold f_X5_told
    rw [if_pos (show (1000000000 : Int64) < lN n from (pk_lLT (a := 1000000000) (by decide) (by omega)).mpr (by omega))]
    decide +kernel
theorem runC_bd (hI : IV st) {sh : Nat} (hsh : sh < 32) (h0 : sh ≠ 0) : runC st sh < 2 ^ 62 := by
  have hw := szN_WB hI.1.1 hI.1.2.2.1
  have h5 := pc_le sh hsh
  unfold runC
  rcases idx_or st.2.2.2.1 sh with ⟨i, x, hi, hx⟩ | hno
  · obtain ⟨k1, k2⟩ := runA_some hI.2.2.1 hi hx
    have hP := hI.1.2.2.2.1 x (List.mem_of_getElem? hi)
    have := costN_bd hw hP.2.1 hP.2.2.1
    rw [k1, k2]; omega
  · obtain ⟨k1, k2⟩ := runA_none hno
    have := costN_bd hw hsh (bestP_bst (szN st.2.1 st.2.2.1) hsh).1
    rw [k1, k2]; omega
theorem m_ch1 (s past : Nat → Int32) (paid pp : Nat → Int64) (ps : Int32) : f_X6_changes s past paid pp ps (1 : Int32) = some (past, pp, ps) := by
  unfold f_X6_changes
  rw [if_neg ne10]
theorem tbl_t {t : Nat} (ht : t < 5) : f_X6_isTable (nI t) = some 1 := by
  rcases tbl_or (nI t) with ⟨_, _, _, _, e⟩ | ⟨e, _⟩
  · exact e
  · exact absurd e ((by decide +kernel : ∀ t, t < 5 → ¬ f_X5_isTable (nI t) = some 0) t ht)
theorem set_t {s : Nat} (h1 : 0 < s) (h2 : s < 32) : f_X6_isSet (nI s) = some 1 := by
  rcases set_or (nI s) with ⟨_, _, _, _, _, e⟩ | ⟨e, _⟩
  · exact e
  · exact absurd e ((by decide +kernel : ∀ s, s < 32 → 0 < s → ¬ f_X5_isSet (nI s) = some 0) s h2 h1)
set_option maxHeartbeats 1000000 in
/-- a deed of the model -/
theorem m_does (hR : SR N v E st) (hkp : st.2.2.2.1 = E.map Prod.fst) (hI : IV st) (hN : N < 2 ^ 26) {paid : Nat → Int64} (hpa : PaR paid st) {dd : Nat → Int32} {d p : Nat} {s : Nat → Nat} (hd : d ≤ 30) (hdd : DdR dd d s p) (hv : VR (rdS s p)) (past : Nat → Int32) (pp : Nat → Int64) (ps : Int32) (od bs : Nat → Int32) (my : Int32) :
    ∃ z s' paid' o1 bb1 m1, f_X6_does (nI d) (SI v) past paid pp ps (1 : Int32) od bs my dd = some (z, s', past, paid', pp, ps, o1, bb1, m1) ∧
      (match deedD st (rdS s p) with | some st' => (0 : Int32) ≤ z ∧ ∃ v' E', s' = SI v' ∧ SR (N + 6) v' E' st' ∧ st'.2.2.2.1 = E'.map Prod.fst ∧ PaR paid' st' | none => ¬ (0 : Int32) ≤ z ∧ s' = SI v ∧ paid' = paid) := by
  obtain ⟨d0, d1, d2, d3⟩ := hdd
  have nn : ∀ k : Nat, k ≤ 2000000000 → (0 : Int32) ≤ nI k := fun k hk => nI_le (a := 0) (Nat.zero_le _) (by omega)
  have L : ∀ x, x < 128 → ∀ y, y < 128 → (nI x = nI y ↔ x = y) := fun x hx y hy => nI_eq (by omega) (by omega)
  unfold f_X6_does
  rw [show ((4 : Int32) * nI d + (1 : Int32)) = nI (4 * d + 1) from m_cell hd (by decide), show ((4 : Int32) * nI d + (2 : Int32)) = nI (4 * d + 2) from m_cell hd (by decide), m_cell0, grd_inb (by omega) (by decide), grd_inb (by omega) (by decide), nI_clamp (show 4 * d < 2 ^ 31 by omega), nI_clamp (show 4 * d + 1 < 2 ^ 31 by omega), nI_clamp (show 4 * d + 2 < 2 ^ 31 by omega), d0, d1]
  generalize rdS s p = r at hv d2
  unfold deedD
  rcases hv with ⟨e, h1⟩ | ⟨e, h1, h2⟩ | ⟨e, h1, h2, h3⟩
  · rw [e, if_pos (show (99 : Nat) = 99 from rfl), if_pos (show nI 99 = (99 : Int32) from rfl)]
    obtain ⟨v', E', g1, g2, g3⟩ := m_counts hR hkp hI.1 (by omega) h1
    have gc : f_X6_count (nI r.2.2.2.1) (SI v) past paid pp ps (1 : Int32) = some (nI (countedN st (2 ^ r.2.2.2.1)), SI v', past, pp, ps) := by
      unfold f_X6_count
      rw [tbl_t h1, bnd_s, if_neg ne10, m_ch1, bnd_s, g1, bnd_s]
    rw [gc, bnd_s]
    have hc4 : countedN st (2 ^ r.2.2.2.1) ≤ 4 := Nat.le_trans (Nat.sub_le _ _) hI.1.2.2.2.2.1
    exact ⟨_, _, _, _, _, _, rfl, nn _ (by omega), v', E', rfl, g2.mono (by omega), g3, hpa⟩
  · rcases e with e | e
    · rw [e, if_neg (show ¬ (112 : Nat) = 99 by decide), if_neg (show ¬ (112 : Nat) = 113 by decide), if_neg (show ¬ (112 : Nat) = 114 by decide), if_neg (show ¬ nI 112 = (99 : Int32) by decide +kernel), if_pos (show nI 112 = (112 : Int32) from rfl)]
      unfold f_X6_pins
      rcases idx_or st.2.2.2.1 r.2.2.2.1 with ⟨i, x, hi, hx⟩ | hno
      · rw [pinS_some hI.2.2.1 hi hx]
        obtain ⟨e0, hie, rfl⟩ := getE hkp hi
        have hem := List.mem_of_getElem? hie
        obtain ⟨w1, w2, w3, w4⟩ := hR.1.1 e0 hem
        have hR1 := hR.pin (pn := 1) ⟨e0, hem, rfl⟩ (by decide)
        have ek : (E.map (pinE e0.2.1 1)).map Prod.fst = st.2.2.2.1.set i (pinP 1 e0.1) := by rw [pinE_map 1 E i e0 hR.1.2.1 hie, ← hkp]
        rw [← hx, m_slotI hR hkp hI.2.2.1 (by omega) hem, bnd_s, if_pos (nn _ (by omega)), m_at, bnd_s, show (13 : Int32) = nI 13 from rfl, nI_add, grd_inb (by omega) (by decide), nI_clamp (by omega), show (1 : Int32) = nI 1 from rfl, SI_up, bnd_s]
        refine ⟨_, _, _, _, _, _, rfl, nn 1 (by decide), _, E.map (pinE e0.2.1 1), rfl, ?_, ek.symm, hpa⟩
        have hfin : SR N (nu v (36 + 14 * e0.2.1 + 13) 1) (E.map (pinE e0.2.1 1)) (st.1, st.2.1, st.2.2.1, st.2.2.2.1.set i (pinP 1 e0.1), st.2.2.2.2) := hR1
        exact hfin.mono (by omega)
      · rw [pinS_none hno, m_slotN hR hkp (by omega) h2 (by omega) hno, bnd_s, if_neg (show ¬ (0 : Int32) ≤ -4 by decide +kernel), bnd_s]
        exact ⟨_, _, _, _, _, _, rfl, (by decide +kernel : ¬ (0 : Int32) ≤ -2), rfl, rfl⟩
    · rw [e, if_neg (show ¬ (113 : Nat) = 99 by decide), if_pos (show (113 : Nat) = 113 from rfl), if_neg (show ¬ nI 113 = (99 : Int32) by decide +kernel), if_neg (show ¬ nI 113 = (112 : Int32) by decide +kernel), if_pos (show nI 113 = (113 : Int32) from rfl)]
      obtain ⟨v', E', paid', o1, bb1, mm1, g1, g2, g3, g4⟩ := m_runsOf hR (by omega) hkp hI.1 hI.2.2.1 h2 (by omega) hpa od bs my
      obtain ⟨k, hk, ek⟩ := told_nn (runC_bd hI h2 (by omega))
      have gc : f_X6_run (nI r.2.2.2.1) (SI v) past paid pp ps (1 : Int32) od bs my = some (nI k, SI v', past, paid', pp, ps, o1, bb1, mm1) := by
        unfold f_X6_run
        rw [set_t h1 h2, bnd_s, if_neg ne10, m_ch1, bnd_s, g1, bnd_s, told_cut, ek, bnd_s]
      rw [gc, bnd_s]
      exact ⟨_, _, _, _, _, _, rfl, nn _ (by omega), v', E', rfl, g2, g3, g4⟩
  · rw [e, if_neg (show ¬ (114 : Nat) = 99 by decide), if_neg (show ¬ (114 : Nat) = 113 by decide), if_pos (show (114 : Nat) = 114 from rfl), if_neg (show ¬ nI 114 = (99 : Int32) by decide +kernel), if_neg (show ¬ nI 114 = (112 : Int32) by decide +kernel), if_neg (show ¬ nI 114 = (113 : Int32) by decide +kernel), grd_inb (by omega) (by decide), d2 e]
    have hn : f_X6_in (nI r.2.2.2.2) (1 : Int32) (500 : Int32) = some 1 := by
      rcases in_or (nI r.2.2.2.2) (lo := 1) (hi := 500) (by decide) (by decide) with ⟨n, n0, n1, _, n2⟩ | ⟨n0, n2⟩
      · exact n2
      · rcases n0 with n0 | n0
        · exact absurd ((nI_ltI (by omega) (by decide)).mp n0) (by omega)
        · exact absurd ((nI_ltI (by decide) (by omega)).mp n0) (by omega)
    have gc : f_X6_rows (nI r.2.2.2.1) (nI r.2.2.2.2) (SI v) past paid pp ps (1 : Int32) = some (nI (st.1 r.2.2.2.1), SI (nu v r.2.2.2.1 r.2.2.2.2), past, pp, ps) := by
      unfold f_X6_rows
      rw [tbl_t h1, bnd_s, if_neg ne10, hn, bnd_s, if_neg ne10, m_ch1, bnd_s, z_add, grd_inb (by omega) (by decide), grd_inb (by omega) (by decide), nI_clamp (by omega), SI_up, SI_at, (hR.2.1.1 _ h1).1]
    rw [gc, bnd_s]
    have hb := hI.1.1 _ h1
    exact ⟨_, _, _, _, _, _, rfl, nn _ (by omega), _, E, rfl, (hR.rows h1 h3 (Nat.le_refl N)).mono (by omega), hkp, hpa⟩
end EX
