/-! the model runs queries, counts tables, sets parts -/
def addC (st : DS) (c x : Nat) : DS := (st.1, st.2.1, st.2.2.1, st.2.2.2.1, st.2.2.2.2.1, nu st.2.2.2.2.2 c (st.2.2.2.2.2 c + x))
def runA (st : DS) (sh : Nat) : List Nat × Nat × DS := match st.2.2.2.1[idxS sh st.2.2.2.1]? with
  | some x => (x.2.1, 0, used st (idxS sh st.2.2.2.1) x)
  | none => (bestP (szN st.2.1 st.2.2.1) sh, 10 * pc sh, keptNew st (sh, bestP (szN st.2.1 st.2.2.1) sh, st.2.1, 1, 0) (10 * pc sh))
def runD (st : DS) (sh : Nat) : DS := counted (addC (runA st sh).2.2 2 (costN (szN st.1 st.2.2.1) (runA st sh).1)) sh
def runC (st : DS) (sh : Nat) : Nat := (runA st sh).2.1 + costN (szN st.1 st.2.2.1) (runA st sh).1
def PaR (paid : Nat → Int64) (st : DS) : Prop := paid 0 = lN (st.2.2.2.2.2 2) ∧ paid 1 = lN (st.2.2.2.2.2 3)
theorem keptNew_e (st : DS) (x : PL) (m : Nat) : (keptNew st x m).1 = st.1 ∧ (keptNew st x m).2.1 = st.2.1 ∧ (keptNew st x m).2.2.1 = st.2.2.1 ∧ (keptNew st x m).2.2.2.2.1 = st.2.2.2.2.1 ∧ (keptNew st x m).2.2.2.2.2 2 = st.2.2.2.2.2 2 ∧ (keptNew st x m).2.2.2.2.2 3 = st.2.2.2.2.2 3 + m := by
  unfold keptNew
  split
  · exact ⟨rfl, rfl, rfl, rfl, rfl, rfl⟩
  · split <;> exact ⟨rfl, rfl, rfl, rfl, rfl, rfl⟩
theorem keptNew_kp {st : DS} {x y : PL} {m : Nat} (h : y ∈ (keptNew st x m).2.2.2.1) : y ∈ st.2.2.2.1 ∨ y = x := by
  unfold keptNew at h
  split at h
  · rcases List.mem_append.mp h with h | h
    · exact Or.inl h
    · exact Or.inr (List.mem_singleton.mp h)
  · split at h
    · rcases List.mem_append.mp h with h | h
      · exact Or.inl (mem_erase h)
      · exact Or.inr (List.mem_singleton.mp h)
    · exact Or.inl h
theorem keptNew_len {st : DS} {x : PL} {m : Nat} (h : st.2.2.2.1.length ≤ 4) : (keptNew st x m).2.2.2.1.length ≤ 4 := by
  unfold keptNew
  split
  · show (st.2.2.2.1 ++ [x]).length ≤ 4
    rw [List.length_append, List.length_singleton]; omega
  · split
    · next h2 =>
      show (st.2.2.2.1.eraseIdx _ ++ [x]).length ≤ 4
      rw [List.length_append, List.length_singleton, List.length_eraseIdx_of_lt h2]; omega
    · exact h
theorem runA_e (st : DS) (sh : Nat) : (runA st sh).2.2.1 = st.1 ∧ (runA st sh).2.2.2.1 = st.2.1 ∧ (runA st sh).2.2.2.2.1 = st.2.2.1 ∧ (runA st sh).2.2.2.2.2.2.1 = st.2.2.2.2.1 ∧ (runA st sh).2.2.2.2.2.2.2 2 = st.2.2.2.2.2 2 ∧ (runA st sh).2.2.2.2.2.2.2 3 = st.2.2.2.2.2 3 + (runA st sh).2.1 := by
  unfold runA
  split
  · exact ⟨rfl, rfl, rfl, rfl, rfl, rfl⟩
  · exact keptNew_e _ _ _
theorem runA_ok {st : DS} (hS : SOK st) {sh : Nat} (hsh : sh < 32) (h0 : sh ≠ 0) : (∀ x ∈ (runA st sh).2.2.2.2.2.1, POK x) ∧ (runA st sh).2.2.2.2.2.1.length ≤ 4 ∧ ((runA st sh).1 ∈ perms sh ∨ (∃ x ∈ st.2.2.2.1, (runA st sh).1 = x.2.1 ∧ st.2.2.2.1[idxS sh st.2.2.2.1]? = some x)) := by
  obtain ⟨s1, s2, s3, s4, s5, s6⟩ := hS
  unfold runA
  split
  · next x hx =>
    have hm := List.mem_of_getElem? hx
    have hlt := (List.getElem?_eq_some_iff.mp hx).1
    refine ⟨fun y hy => ?_, ?_, Or.inr ⟨x, hm, rfl, hx⟩⟩
    · rcases List.mem_append.mp hy with hy | hy
      · exact s4 y (mem_erase hy)
      · rw [List.mem_singleton.mp hy]
        exact s4 x hm
    · show (st.2.2.2.1.eraseIdx _ ++ [_]).length ≤ 4
      rw [List.length_append, List.length_singleton, List.length_eraseIdx_of_lt hlt]; omega
  · have hp := (bestP_bst (szN st.2.1 st.2.2.1) hsh).1
    refine ⟨fun y hy => ?_, keptNew_len s5, Or.inl hp⟩
    rcases keptNew_kp hy with hy | hy
    · exact s4 y hy
    · rw [hy]
      exact ⟨by omega, hsh, hp, s2, (by decide : (0 : Nat) < 2)⟩
section M6
variable {v : Nat → Nat} {E : List ME} {st : DS} {N : Nat}
theorem uniqE {E : List ME} (hn : ((E.map Prod.fst).map Prod.fst).Nodup) {e e' : ME} (h1 : e ∈ E) (h2 : e' ∈ E) (h : e.1.1 = e'.1.1) : e = e' := by
  induction E with
  | nil => cases h1
  | cons x l ih =>
    rw [List.map_cons, List.map_cons] at hn
    obtain ⟨p1, p2⟩ := List.nodup_cons.mp hn
    have key : ∀ {y : ME}, y ∈ l → x.1.1 ≠ y.1.1 := fun {y} hy z => p1 (by rw [z]; exact List.mem_map.mpr ⟨y.1, List.mem_map.mpr ⟨y, hy, rfl⟩, rfl⟩)
    rcases List.mem_cons.mp h1 with h1 | h1
    · rcases List.mem_cons.mp h2 with h2 | h2
      · rw [h1, h2]
      · rw [h1] at h; exact absurd h (key h2)
    · rcases List.mem_cons.mp h2 with h2 | h2
      · rw [h2] at h; exact absurd h.symm (key h1)
      · exact ih p2 h1 h2
theorem m_run78 {sh : Nat} (hsh : sh < 32) {gs0 : Nat → Nat} {x3 x5 : Int64} {paid : Nat → Int64} {o b : Nat → Int32} {m : Int32} (hr : NB st.1) (hN : N < 2 ^ 28) : ∀ (n t : Nat) (v : Nat → Nat), t ≤ 5 → 5 < n + t → SlR v E → NuR v (st.1, gcnt st.1 gs0 sh t, st.2.2) → VB N v →
    ∃ v1, f_X6_runsOf_L78 (nI sh) n x3 x5 (nI t) (SI v) paid o b m = bnd (f_X6_throwsOut (SI v1)) (fun q12 => if (0 : Int32) ≤ q12.1 then some ((x5 + x3), q12.2, paid, o, b, m) else some (x5, q12.2, paid, o, b, m)) ∧ SlR v1 E ∧ NuR v1 (st.1, gcnt st.1 gs0 sh 5, st.2.2) ∧ VB N v1
  | 0, t, v, h1, h2, _, _, _ => by omega
  | n + 1, t, v, h1, h2, hE, hn, hv => by
    show ∃ v1, f_X6_runsOf_L78b _ _ _ _ _ _ _ _ _ _ = _ ∧ _
    unfold f_X6_runsOf_L78b
    by_cases q : 5 ≤ t
    · have e : t = 5 := by omega
      subst e
      exact ⟨v, if_pos (by decide +kernel), hE, hn, hv⟩
    · have ht : t < 5 := by omega
      have hbl := bi_lt sh t
      have hb : ((nI sh >>> (nI t &&& 31)) &&& (1 : Int32)) = nI (bi sh t) := bi_int sh hsh t ht
      rw [if_neg (show ¬ (5 : Int32) ≤ nI t from nI_ge (b := 5) ht (by decide)), hb]
      have r1 : v t = st.1 t := (hn.1 t ht).1
      by_cases q2 : bi sh t = 1
      · rw [if_pos (by rw [q2]; rfl)]
        simp (disch := omega) only [iv, nI_add, grd_inb, nI_clamp, SI_at, SI_up, Nat.zero_add]
        have hn2 := hn.g (t := t) (x := v t) ht
        rw [r1] at hn2 ⊢
        refine m_run78 hsh hr hN n (t + 1) _ (by omega) (by omega) (hE.up (by omega)) ?_ (hv.up (by have := (hr t ht).2; omega) (Nat.le_refl _))
        rw [gcnt_s q2]
        exact hn2
      · rw [if_neg (by rw [show bi sh t = 0 by omega]; decide +kernel)]
        simp (disch := omega) only [iv, nI_add, grd_inb, nI_clamp, SI_at, SI_up, nu_id]
        exact m_run78 hsh hr hN n (t + 1) v (by omega) (by omega) hE (by rw [gcnt_n q2]; exact hn) hv
theorem m_runsOf (hR : SR N v E st) (hN : N < 2 ^ 27) (hkp : st.2.2.2.1 = E.map Prod.fst) (hS : SOK st) (hD : (st.2.2.2.1.map Prod.fst).Nodup) {sh : Nat} (hsh : sh < 32) (h0 : sh ≠ 0) {paid : Nat → Int64} (hp : PaR paid st) (o b : Nat → Int32) (m : Int32) :
    ∃ v' E' paid' o1 b1 m1, f_X6_runsOf (nI sh) (SI v) paid o b m = some (lN (runC st sh), SI v', paid', o1, b1, m1) ∧ SR (N + 6) v' E' (runD st sh) ∧ (runD st sh).2.2.2.1 = E'.map Prod.fst ∧ PaR paid' (runD st sh) := by
  have hSS := hS
  obtain ⟨s1, s2, s3, s4, s5, s6, s7⟩ := hS
  obtain ⟨hE, hn, hv⟩ := hR
  have b92 := hv 92 (by decide)
  have hn1 : NuR (nu v 92 (v 92 + 1)) st := hn.slot (by omega)
  have hE1 : SlR (nu v 92 (v 92 + 1)) E := by
    obtain ⟨a1, a2, a3⟩ := hE
    refine ⟨fun e he => ?_, a2, fun k hk hno i hi => (nu_n (by omega)).trans (a3 k hk hno i hi)⟩
    obtain ⟨b1, b2, ⟨p1, p2, p3, p4, p5⟩, b4, b5⟩ := a1 e he
    have hl := perms_len _ b2.2.1 _ b2.2.2.1
    have hl5 := pc_le _ b2.2.1
    refine ⟨b1, b2, ⟨(nu_n (by omega)).trans p1, fun i hi => (nu_n (by omega)).trans (p2 i hi), fun t ht => (nu_n (by omega)).trans (p3 t ht), (nu_n (by omega)).trans p4, (nu_n (by omega)).trans p5⟩, (nu_n (by omega)).trans b4, ?_⟩
    rw [nu_s]
    omega
  have hv1 : VB (N + 1) (nu v 92 (v 92 + 1)) := hv.up (by omega) (by omega)
  have hcl : ∀ e ∈ E, e.2.2 < nu v 92 (v 92 + 1) 92 := fun e he => by
    rw [nu_s]
    have := (hE.1 e he).2.2.2.2
    omega
  obtain ⟨re1, re2, re3, re4, re5, re6⟩ := runA_e st sh
  obtain ⟨ro1, ro2, -⟩ := runA_ok hSS hsh h0
  -- what is left behind the using or making
  have fin : ∀ (v2 : Nat → Nat) (E2 : List ME) (o2 b2 : Nat → Int32) (m2 : Int32), SR (N + 2) v2 E2 (runA st sh).2.2 → (runA st sh).2.2.2.2.2.1 = E2.map Prod.fst →
      ∃ v' E' paid' o1 b1 m1, f_X6_runsOf_J52 (nI sh) (lN (runA st sh).2.1) (lN (costN (szN st.1 st.2.2.1) (runA st sh).1)) (SI v2) paid o2 b2 m2 = some (lN (runC st sh), SI v', paid', o1, b1, m1) ∧ SR (N + 6) v' E' (runD st sh) ∧ (runD st sh).2.2.2.1 = E'.map Prod.fst ∧ PaR paid' (runD st sh) := by
    intro v2 E2 o2 b2 m2 hR2 hk2
    obtain ⟨hE2, hn2, hv2⟩ := hR2
    generalize hC : costN (szN st.1 st.2.2.1) (runA st sh).1 = C
    have hn3 : NuR v2 (addC (runA st sh).2.2 2 C) := hn2.c23 (Or.inl rfl)
    have hrd : runD st sh = counted (addC (runA st sh).2.2 2 C) sh := by unfold runD; rw [hC]
    have hrc : runC st sh = (runA st sh).2.1 + C := by unfold runC; rw [hC]
    obtain ⟨v3, g1, g2, g3, g4⟩ := m_run78 (st := addC (runA st sh).2.2 2 C) (gs0 := (addC (runA st sh).2.2 2 C).2.1) hsh (x3 := lN (runA st sh).2.1) (x5 := lN C) (paid := vp_updL (vp_updL paid 0 (paid 0 + lN C)) 1 (paid 1 + lN (runA st sh).2.1)) (o := o2) (b := b2) (m := m2) (show NB (runA st sh).2.2.1 by rw [re1]; exact s1) (N := N + 2) (by omega) 1024 0 v2 (by decide) (by decide) hE2 (by rw [gcnt_0]; exact hn3) hv2
    obtain ⟨v4, E4, k1, k2, k3⟩ := m_throws (st := ((addC (runA st sh).2.2 2 C).1, gcnt (addC (runA st sh).2.2 2 C).1 (addC (runA st sh).2.2 2 C).2.1 sh 5, (addC (runA st sh).2.2 2 C).2.2)) (gcnt_NB (show NB (runA st sh).2.2.1 by rw [re1]; exact s1) (show NB (runA st sh).2.2.2.1 by rw [re2]; exact s2) sh 5) (show (runA st sh).2.2.2.2.2.2.1 ≤ 1000 by rw [re4]; exact s7) (show (runA st sh).2.2.2.2.2.1.length ≤ 4 from ro2) (N := N + 2) (by omega) ⟨g2, g3, g4⟩ hk2
    refine ⟨v4, E4, vp_updL (vp_updL paid 0 (paid 0 + lN C)) 1 (paid 1 + lN (runA st sh).2.1), o2, b2, m2, ?_, ?_, ?_, ?_⟩
    · unfold f_X6_runsOf_J52
      rw [grd_t (by decide +kernel), grd_t (by decide +kernel), grd_t (by decide +kernel), grd_t (by decide +kernel)]
      show f_X6_runsOf_L78 (nI sh) 1024 (lN (runA st sh).2.1) (lN C) (nI 0) (SI v2) (vp_updL (vp_updL paid 0 (paid 0 + lN C)) 1 ((vp_updL paid 0 (paid 0 + lN C)) 1 + lN (runA st sh).2.1)) o2 b2 m2 = _
      rw [pk_uLn (by decide), g1, k1, bnd_s, if_pos (show (0 : Int32) ≤ nI _ from nI_pos' (by have : (runA st sh).2.2.2.2.2.1.length ≤ 4 := ro2; exact Nat.lt_of_le_of_lt (Nat.sub_le _ _) (Nat.lt_of_le_of_lt this (by decide)))), lN_add, hrc, Nat.add_comm]
    · rw [hrd]
      exact k2
    · rw [hrd]
      exact k3
    · rw [hrd]
      refine ⟨?_, ?_⟩
      · rw [pk_uLn (by decide), pk_uLs, hp.1, lN_add, ← re5]
        rfl
      · rw [pk_uLs, hp.2, lN_add, ← re6]
        rfl
  unfold f_X6_runsOf
  simp (disch := omega) only [iv, nI_add, grd_inb, nI_clamp, SI_at, SI_up]
  by_cases hx : ∃ e ∈ E, e.1.1 = sh
  · obtain ⟨e, he, hes⟩ := hx
    obtain ⟨i, hi⟩ := List.getElem?_of_mem he
    obtain ⟨a1, a2, a3, a4⟩ := hE1.1 e he
    have hsl := hE1.slot he (fun e' he' z => uniqE (by rw [← hkp]; exact hD) he' he z) hv1 (by omega)
    rw [hes] at hsl
    have hii : st.2.2.2.1[i]? = some e.1 := by rw [hkp, List.getElem?_map, hi]; rfl
    have hidx := idxS_some (sh := sh) st.2.2.2.1 i e.1 hD hii hes
    have hA : runA st sh = (e.1.2.1, 0, used st i e.1) := by unfold runA; rw [hidx, hii]
    rw [hsl, bnd_s, if_pos (nI_le (Nat.zero_le _) (by omega)), if_pos (nI_le (Nat.zero_le _) (by omega))]
    obtain ⟨v2, o2, g1, g2⟩ := m_uses ⟨hE1, hn1, hv1⟩ (by omega) s1 s3 hi hcl o m
    rw [g1, bnd_s]
    have f := fin v2 _ o2 b (nI (pc e.1.1)) (by rw [hA]; exact ⟨g2.1, g2.2.1, g2.2.2⟩) (by
      rw [hA, List.map_append, ← map_erase, ← hkp]
      rfl)
    rw [hA] at f
    rw [show (0 : Int64) = lN 0 from rfl]
    exact f
  · have hno : ∀ e ∈ E, e.1.1 ≠ sh := fun e he z => hx ⟨e, he, z⟩
    have hsl := hE1.slot0 hsh h0 hno hv1 (by omega)
    have hnone := idxS_none (sh := sh) st.2.2.2.1 (fun x hx => by
      rw [hkp] at hx
      obtain ⟨e, he, ee⟩ := List.mem_map.mp hx
      rw [← ee]
      exact hno e he)
    have hA : runA st sh = (bestP (szN st.2.1 st.2.2.1) sh, 10 * pc sh, keptNew st (sh, bestP (szN st.2.1 st.2.2.1) sh, st.2.1, 1, 0) (10 * pc sh)) := by unfold runA; rw [hnone]
    have h5 := pc_le sh hsh
    rw [hsl, bnd_s, if_neg (show ¬ nI 0 ≤ (-4 : Int32) by decide +kernel), m_tablesIn sh hsh, bnd_s, if_neg (show ¬ nI 0 ≤ (-4 : Int32) by decide +kernel)]
    obtain ⟨v2, E2, o2, b2, g1, g2, g3⟩ := m_makes ⟨hE1, hn1, hv1⟩ (by omega) hkp s1 s2 s3 hsh h0 hcl s5 (10 * pc sh) o b m
    rw [g1, bnd_s]
    have f := fin v2 E2 o2 b2 (nI (pc sh)) (by rw [hA]; exact g2) (by rw [hA]; exact g3)
    rw [hA] at f
    rw [show (10 : Int64) * (nI (pc sh)).toInt64 = lN (10 * pc sh) by rw [nI_l (by omega), lv 10, lN_mul]]
    exact f
end M6
