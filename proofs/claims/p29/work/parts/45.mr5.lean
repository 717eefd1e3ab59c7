/-! the model makes plans, runs queries -/
section M5
variable {v : Nat → Nat} {E : List ME} {st : DS} {N : Nat}
theorem m_mk38 {sh m : Nat} {p : List Nat} (hm : p.length = m) (hm5 : m ≤ 5) (x4 : Int32) (s b : Nat → Int32) (hb : AG b p) : ∀ (n k : Nat) (o : Nat → Int32), k ≤ m → m < n + k → (∀ i, i < k → o i = nI (p.getD i 0)) →
    ∃ o1 n', AG o1 p ∧ f_X6_makes_L38 (nI sh) n x4 (nI k) s o b (nI m) = f_X6_makes_L38b (nI sh) (f_X6_makes_L38 (nI sh) n') x4 (nI m) s o1 b (nI m)
  | 0, k, o, h1, h2, _ => by omega
  | n + 1, k, o, h1, h2, ho => by
    by_cases q : m ≤ k
    · have e : k = m := by omega
      subst e
      exact ⟨o, n, fun i hi => ho i (by omega), rfl⟩
    · obtain ⟨o1, n', g1, g2⟩ := m_mk38 (sh := sh) hm hm5 x4 s b hb n (k + 1) (upd o k (b k)) (by omega) (by omega) (fun i hi => by
        by_cases e : i = k
        · subst e; rw [pk_us]; exact hb i (by omega)
        · rw [pk_un e]; exact ho i (by omega))
      refine ⟨o1, n', g1, ?_⟩
      rw [← g2]
      show f_X6_makes_L38b _ _ _ _ _ _ _ _ = _
      unfold f_X6_makes_L38b
      rw [if_neg (nI_ge (by omega) (by omega))]
      simp (disch := omega) only [grd_inb, nI_clamp]
      rw [show nI k + (1 : Int32) = nI (k + 1) from nI_1 k]
theorem m_mk113 {sh m s : Nat} {p : List Nat} (hs : s < 4) (hm : p.length = m) (hm5 : m ≤ 5) (x5 : Int64) (o b : Nat → Int32) (hb : AG b p) : ∀ (n k : Nat) (v : Nat → Nat), k ≤ m → m < n + k → (∀ i, i < k → v (36 + 14 * s + 1 + i) = p.getD i 0) →
    ∃ v1 n', f_X6_makes_L113 (nI sh) n (nI s) x5 (nI k) (SI v) o b (nI m) = f_X6_makes_L113b (nI sh) (f_X6_makes_L113 (nI sh) n') (nI s) x5 (nI m) (SI v1) o b (nI m) ∧ (∀ i, i < m → v1 (36 + 14 * s + 1 + i) = p.getD i 0) ∧ (∀ j, j < 36 + 14 * s + 1 ∨ 36 + 14 * s + 1 + m ≤ j → v1 j = v j)
  | 0, k, v, h1, h2, _ => by omega
  | n + 1, k, v, h1, h2, ho => by
    by_cases q : m ≤ k
    · have e : k = m := by omega
      subst e
      exact ⟨v, n, rfl, ho, fun _ _ => rfl⟩
    · obtain ⟨v1, n', g2, g3, g4⟩ := m_mk113 (sh := sh) hs hm hm5 x5 o b hb n (k + 1) (nu v (36 + 14 * s + 1 + k) (p.getD k 0)) (by omega) (by omega) (fun i hi => by
        by_cases e : i = k
        · subst e; exact nu_s
        · rw [nu_n (by omega)]; exact ho i (by omega))
      refine ⟨v1, n', ?_, g3, fun j hj => (g4 j hj).trans (nu_n (by omega))⟩
      rw [← g2]
      show f_X6_makes_L113b _ _ _ _ _ _ _ _ _ = _
      unfold f_X6_makes_L113b
      rw [if_neg (nI_ge (by omega) (by omega))]
      have hbk := hb k (by omega)
      simp (disch := omega) only [m_at, bnd_s, iv, nI_add, grd_inb, nI_clamp, hbk, SI_up]
theorem m_mk153 {sh s : Nat} (hs : s < 4) (x5 : Int64) (o b : Nat → Int32) (m : Int32) : ∀ (n t : Nat) (v : Nat → Nat), t ≤ 5 → 5 < n + t →
    ∃ v1, f_X6_makes_L153 (nI sh) n (nI s) x5 (nI t) (SI v) o b m = some (x5, SI v1, o, b, m) ∧ (∀ u, t ≤ u → u < 5 → v1 (36 + 14 * s + 6 + u) = v (5 + u)) ∧ v1 (36 + 14 * s + 11) = 1 ∧ v1 (36 + 14 * s + 12) = v 92 ∧ (∀ j, j < 36 + 14 * s + 6 + t ∨ 36 + 14 * s + 13 ≤ j → v1 j = v j)
  | 0, t, v, h1, h2 => by omega
  | n + 1, t, v, h1, h2 => by
    show ∃ v1, f_X6_makes_L153b _ _ _ _ _ _ _ _ _ = _ ∧ _
    unfold f_X6_makes_L153b
    by_cases q : 5 ≤ t
    · have e : t = 5 := by omega
      subst e
      refine ⟨nu (nu v (36 + 14 * s + 11) 1) (36 + 14 * s + 12) (v 92), ?_, fun u a b => by omega, (nu_n (by omega)).trans nu_s, nu_s, fun j hj => (nu_n (by omega)).trans (nu_n (by omega))⟩
      rw [if_pos (by decide +kernel)]
      have c1 : nu v (36 + 14 * s + 11) 1 92 = v 92 := nu_n (by omega)
      simp (disch := omega) only [m_at, bnd_s, iv, nI_add, grd_inb, nI_clamp, SI_up, SI_at, c1]
    · obtain ⟨v1, g1, g2, g3, g4, g5⟩ := m_mk153 (sh := sh) hs x5 o b m n (t + 1) (nu v (36 + 14 * s + 6 + t) (v (5 + t))) (by omega) (by omega)
      refine ⟨v1, ?_, fun u a b => ?_, g3, ?_, fun j hj => (g5 j (by omega)).trans (nu_n (by omega))⟩
      · rw [if_neg (show ¬ (5 : Int32) ≤ nI t from nI_ge (b := 5) (by omega) (by decide))]
        simp (disch := omega) only [m_at, bnd_s, iv, nI_add, grd_inb, nI_clamp, SI_at, SI_up]
        exact g1
      · by_cases e : u = t
        · subst e
          rw [g5 _ (by omega)]
          exact nu_s
        · rw [g2 u (by omega) b]
          exact nu_n (by omega)
      · rw [g4]
        exact nu_n (by omega)
theorem NuR.c23 (hn : NuR v st) {c x : Nat} (hc : c = 2 ∨ c = 3) : NuR v (st.1, st.2.1, st.2.2.1, st.2.2.2.1, st.2.2.2.2.1, nu st.2.2.2.2.2 c x) := by
  obtain ⟨a1, a2, a3, a4, a5, a6, a7, a8, a9, a10⟩ := hn
  exact ⟨a1, a2, a3, a4.trans (nu_n (by omega)).symm, a5.trans (nu_n (by omega)).symm, a6.trans (nu_n (by omega)).symm, a7.trans (nu_n (by omega)).symm, a8.trans (nu_n (by omega)).symm, a9.trans (nu_n (by omega)).symm, a10.trans (nu_n (by omega)).symm⟩
theorem NuR.out (hn : NuR v st) {v' : Nat → Nat} (h : ∀ j, j < 36 ∨ 92 < j → v' j = v j) : NuR v' st := by
  obtain ⟨a1, a2, a3, a4, a5, a6, a7, a8, a9, a10⟩ := hn
  exact ⟨fun t ht => ⟨(h _ (by omega)).trans (a1 t ht).1, (h _ (by omega)).trans (a1 t ht).2⟩, fun i j hi hj => (h _ (by omega)).trans (a2 i j hi hj), (h _ (by omega)).trans a3, (h _ (by omega)).trans a4, (h _ (by omega)).trans a5, (h _ (by omega)).trans a6, (h _ (by omega)).trans a7, (h _ (by omega)).trans a8, (h _ (by omega)).trans a9, (h _ (by omega)).trans a10⟩
/-- the new plan is written into the slot s -/
theorem m_write (hE : SlR v E) (hn : NuR v st) (hv : VB N v) (hg : NB st.2.1) {sh s : Nat} (hs : s < 4) (hsh : sh < 32) (h0 : sh ≠ 0) {p : List Nat} (hp : p ∈ perms sh) (hcl : ∀ e ∈ E, e.2.1 ≠ s → e.2.2 < v 92) (x5 : Int64) (o b : Nat → Int32) (hb : AG b p) :
    ∃ v', f_X6_makes_L113 (nI sh) 1024 (nI s) x5 (nI 0) (SI (nu (emp v s 14) (36 + 14 * s) sh)) o b (nI (pc sh)) = some (x5, SI v', o, b, nI (pc sh)) ∧ SlR v' (E.filter (fun e => e.2.1 != s) ++ [((sh, p, st.2.1, 1, 0), s, v 92)]) ∧ NuR v' st ∧ VB N v' := by
  have hl := perms_len sh hsh p hp
  have hl5 := pc_le sh hsh
  obtain ⟨v1, n', g1, g2, g3⟩ := m_mk113 (sh := sh) hs hl hl5 x5 o b hb 1024 0 (nu (emp v s 14) (36 + 14 * s) sh) (Nat.zero_le _) (by omega) (fun i hi => absurd hi (Nat.not_lt_zero _))
  obtain ⟨v2, k1, k2, k3, k4, k5⟩ := m_mk153 (sh := sh) hs x5 o b (nI (pc sh)) 1024 0 v1 (by decide) (by decide)
  have o1 : ∀ j, j < 36 + 14 * s ∨ 36 + 14 * s + 14 ≤ j → v2 j = v j := fun j hj => by
    rw [k5 j (by omega), g3 j (by omega), nu_n (by omega)]
    exact emp_out (by omega)
  have hg5 : ∀ t, t < 5 → v1 (5 + t) = st.2.1 t := fun t ht => by
    rw [g3 _ (by omega), nu_n (by omega), emp_out (by omega)]
    exact (hn.1 t ht).2
  have e92 : v1 92 = v 92 := by rw [g3 92 (by omega), nu_n (by omega), emp_out (by omega)]
  have e13 : v2 (36 + 14 * s + 13) = 0 := by
    rw [k5 _ (by omega), g3 _ (by omega), nu_n (by omega)]
    exact if_pos ⟨by omega, by omega⟩
  have e0 : v2 (36 + 14 * s) = sh := by
    rw [k5 _ (by omega), g3 _ (by omega)]
    exact nu_s
  refine ⟨v2, ?_, ?_, hn.out (fun j hj => o1 j (by omega)), fun j hj => ?_⟩
  · rw [g1]
    unfold f_X6_makes_L113b
    rw [if_pos (nI_le (Nat.le_refl _) (by omega))]
    exact k1
  · refine hE.put hs (fun j x y z => o1 j z) ⟨by omega, hsh, hp, hg, (by decide : (0 : Nat) < 2)⟩ ⟨e0, fun i (hi : i < p.length) => ?_, fun t ht => ?_, k3, e13⟩ (k4.trans e92) ?_ hcl
    · rw [k5 _ (by omega)]
      exact g2 i (by omega)
    · rw [k2 t (Nat.zero_le _) ht, hg5 t ht]
    · rw [o1 92 (by omega)]
      exact Nat.le_refl _
  · by_cases q : j < 36 + 14 * s ∨ 36 + 14 * s + 14 ≤ j
    · rw [o1 j q]; exact hv j hj
    · have hc : j = 36 + 14 * s ∨ (36 + 14 * s + 1 ≤ j ∧ j < 36 + 14 * s + 1 + 5) ∨ (36 + 14 * s + 6 ≤ j ∧ j < 36 + 14 * s + 6 + 5) ∨ j = 36 + 14 * s + 11 ∨ j = 36 + 14 * s + 12 ∨ j = 36 + 14 * s + 13 := by omega
      have b92 := hv 92 (by decide)
      rcases hc with e | e | e | e | e | e
      · rw [e, e0]; omega
      · obtain ⟨i, hi⟩ : ∃ i, j = 36 + 14 * s + 1 + i := ⟨j - (36 + 14 * s + 1), by omega⟩
        rw [k5 j (by omega)]
        by_cases q2 : i < pc sh
        · rw [hi, g2 i q2]
          have := perms_tab sh hsh p hp _ (getD_mem (k := i) (by omega))
          omega
        · -- not written: the emptied cell
          rw [g3 j (by omega), nu_n (by omega)]
          rw [show emp v s 14 j = 0 from if_pos ⟨by omega, by omega⟩]
          omega
      · obtain ⟨i, hi⟩ : ∃ i, j = 36 + 14 * s + 6 + i := ⟨j - (36 + 14 * s + 6), by omega⟩
        rw [hi, k2 i (Nat.zero_le _) (by omega), hg5 i (by omega)]
        have := (hg i (by omega)).2
        omega
      · rw [e, k3]; omega
      · rw [e, k4, e92]; omega
      · rw [e, e13]; omega
theorem m_makes (hR : SR N v E st) (hN : N < 2 ^ 28) (hkp : st.2.2.2.1 = E.map Prod.fst) (h1 : NB st.1) (h2 : NB st.2.1) (h3 : PB st.2.2.1) {sh : Nat} (hsh : sh < 32) (h0 : sh ≠ 0) (hcl : ∀ e ∈ E, e.2.2 < v 92) (h4 : st.2.2.2.1.length ≤ 4) (mk : Nat) (o b : Nat → Int32) (m : Int32) :
    ∃ v' E' o1 b1, f_X6_makes (nI sh) (SI v) o b m = some (lN (costN (szN st.1 st.2.2.1) (bestP (szN st.2.1 st.2.2.1) sh)), SI v', o1, b1, nI (pc sh)) ∧ SR (N + 1) v' E' (keptNew st (sh, bestP (szN st.2.1 st.2.2.1) sh, st.2.1, 1, 0) mk) ∧ (keptNew st (sh, bestP (szN st.2.1 st.2.2.1) sh, st.2.1, 1, 0) mk).2.2.2.1 = E'.map Prod.fst := by
  obtain ⟨hE, hn, hv⟩ := hR
  have hl5 := pc_le sh hsh
  have hw := szN_WB h2 h3
  have e0 : E.length = st.2.2.2.1.length := by rw [hkp, List.length_map]
  obtain ⟨of, bf, gf, hb⟩ := m_finds hw (hn.ms5 h2 h3) hsh h0 o b m
  have hp := (bestP_bst (szN st.2.1 st.2.2.1) hsh).1
  generalize hpe : bestP (szN st.2.1 st.2.2.1) sh = p at hb hp ⊢
  have hl := perms_len sh hsh p hp
  have mc := minC_bd hw hsh
  unfold f_X6_makes
  rw [show (5 : Int32) = nI 5 from rfl, gf, bnd_s, if_pos (show (0 : Int32) ≤ lg_cmp (lN (minC (szN st.2.1 st.2.2.1) sh)) 0 by rw [lg_cmp_ge]; rw [show (0 : Int64) = lN 0 from rfl]; exact (pk_lLE (by omega) (by omega)).mpr (Nat.zero_le _))]
  have b94 := hv 94 (by decide)
  have b96 := hv 96 (by decide)
  have b99 := hv 99 (by decide)
  -- behind the search for a slot
  have fin : ∀ (v1 : Nat → Nat) (st1 : DS) (x4 : Int32), NuR v1 st1 → SlR v1 E → VB (N + 1) v1 → (∀ i, 94 ≤ i → i < 100 → i ≠ 96 → v1 i = v i) → v1 92 = v 92 → st1.1 = st.1 → st1.2.1 = st.2.1 → st1.2.2.1 = st.2.2.1 →
      ∃ o2, AG o2 p ∧ f_X6_makes_L38 (nI sh) 1024 x4 (nI 0) (SI (nu v1 94 (v1 94 + 1))) of bf (nI (pc sh)) = (if (0 : Int32) ≤ x4 then bnd (f_X6_empties x4 (SI (nu v1 94 (v1 94 + 1)))) (fun q9 => bnd (f_X6_at x4) (fun q10 => grd (inb q10 100) (f_X6_makes_L113 (nI sh) 1024 x4 (lN (costN (szN st.1 st.2.2.1) p)) (0 : Int32) (upd q9 q10.toNatClampNeg (nI sh)) o2 bf (nI (pc sh))))) else grd (inb (99 : Int32) 100) (grd (inb (99 : Int32) 100) (some (lN (costN (szN st.1 st.2.2.1) p), upd (SI (nu v1 94 (v1 94 + 1))) (99 : Int32).toNatClampNeg ((SI (nu v1 94 (v1 94 + 1))) (99 : Int32).toNatClampNeg + (1 : Int32)), o2, bf, nI (pc sh))))) := by
    intro v1 st1 x4 hn1 hE1 hv1 h9 h92 q1 q2 q3
    obtain ⟨o2, n', k1, k2⟩ := m_mk38 (sh := sh) hl hl5 x4 (SI (nu v1 94 (v1 94 + 1))) bf hb 1024 0 of (Nat.zero_le _) (by omega) (fun i hi => absurd hi (Nat.not_lt_zero _))
    refine ⟨o2, k1, ?_⟩
    rw [k2]
    unfold f_X6_makes_L38b
    have hn2 := hn1.c (i := 94) (c := 1) (v1 94 + 1) (Or.inr (Or.inl ⟨rfl, rfl⟩))
    have hms := hn2.ms0 (show NB st1.1 by rw [q1]; exact h1) (show PB st1.2.2.1 by rw [q3]; exact h3)
    have hms2 : MS 0 (SI (nu v1 94 (v1 94 + 1))) (szN st.1 st.2.2.1) := by rw [← q1, ← q3]; exact hms
    rw [if_pos (nI_le (Nat.le_refl _) (by omega)), show (0 : Int32) = nI 0 from rfl, m_cost hms2 hsh hp k1, bnd_s]
  unfold f_X6_slotFor keptNew
  by_cases q4 : st.2.2.2.1.length < 4
  · -- a free slot
    rw [if_pos q4]
    obtain ⟨k0, hk0, hz0⟩ := m_free hE (by omega)
    rcases m_slot (sh := 0) (by decide) hv hN with ⟨s, hs, hz, -, g⟩ | ⟨hno, -⟩
    · rw [show (0 : Int32) = nI 0 from rfl, g, bnd_s, if_neg (nI_nlt (Nat.zero_le _) (by omega)), bnd_s]
      simp (disch := omega) only [iv, grd_inb, nI_clamp, SI_at, nI_add, SI_up]
      have hfree : ∀ e ∈ E, e.2.1 ≠ s := fun e he z => by
        obtain ⟨-, a2, a3, -⟩ := hE.1 e he
        rw [z] at a3
        have := a3.1
        have := a2.1
        omega
      obtain ⟨o2, -, g2⟩ := fin v st (nI s) hn hE (hv.mono (by omega)) (fun i _ _ _ => rfl) rfl rfl rfl rfl
      rw [g2, if_pos (nI_pos' (by omega)), m_empties hs, bnd_s, m_at, bnd_s, grd_inb (by omega) (by decide), nI_clamp (by omega), SI_up]
      have hn2 := (hn.c (i := 94) (c := 1) (v 94 + 1) (Or.inr (Or.inl ⟨rfl, rfl⟩)))
      have hE2 : SlR (nu v 94 (v 94 + 1)) E := hE.up (by omega)
      obtain ⟨v', w1, w2, w3, w4⟩ := m_write hE2 hn2 (N := N + 1) (hv.up (by omega) (by omega)) h2 hs hsh h0 hp (fun e he _ => by rw [nu_n (by omega)]; exact hcl e he) (lN (costN (szN st.1 st.2.2.1) p)) o2 bf hb
      rw [show (0 : Int32) = nI 0 from rfl, w1]
      have e2 : E.filter (fun e => e.2.1 != s) = E := List.filter_eq_self.mpr (fun e he => by simpa using hfree e he)
      rw [e2] at w2
      refine ⟨v', _, o2, bf, rfl, ⟨w2, ?_, w4⟩, ?_⟩
      · have h9 : v 94 = st.2.2.2.2.2 1 := hn.2.2.2.2.1
        rw [h9] at w3
        exact w3.c23 (Or.inr rfl)
      · rw [List.map_append, hkp]
        rfl
    · exact absurd hz0 (hno k0 hk0)
  · rw [if_neg q4]
    have hlen4 : E.length = 4 := by omega
    have hfull := m_full hE hlen4
    rcases m_slot (sh := 0) (by decide) hv hN with ⟨s, hs, hz, -, g⟩ | ⟨-, g⟩
    · exact absurd hz (hfull s hs)
    · rw [show (0 : Int32) = nI 0 from rfl, g, bnd_s, if_pos (show (-4 : Int32) < nI 0 from by decide +kernel)]
      obtain ⟨y, hy, gy⟩ := m_slot17 hE hv hN 1024 0 none (by decide) (by decide) (fun e _ hlt => absurd hlt (Nat.not_lt_zero _))
      rw [show (-4 : Int32) = olI none from rfl, gy, bnd_s]
      cases y with
      | some e =>
        obtain ⟨y1, y2, y3, y4⟩ := hy
        obtain ⟨a1, a2, a3, a4⟩ := hE.1 e y1
        have hf := fstL_ol E e hE.2.1 y1 y2 (fun e' he' hp' => y4 e' he' (hE.1 e' he').1 hp')
        rw [← hkp] at hf
        have hfl : fstL st.2.2.2.1 < st.2.2.2.1.length := by
          have := (List.getElem?_eq_some_iff.mp hf).1
          omega
        rw [if_pos hfl]
        have hn1 := hn.c (i := 96) (c := 5) (v 96 + 1) (Or.inr (Or.inr (Or.inr (Or.inl ⟨rfl, rfl⟩))))
        have hE1 : SlR (nu v 96 (v 96 + 1)) E := hE.up (by omega)
        have hv1 : VB (N + 1) (nu v 96 (v 96 + 1)) := hv.up (by omega) (by omega)
        have c94 : nu v 96 (v 96 + 1) 94 = v 94 := nu_n (by omega)
        show ∃ v' E' o1 b1, (grd (inb 94 100) (grd (inb 94 100) (f_X6_makes_L38 (nI sh) 1024 (nI e.2.1) (nI 0) (upd (SI (nu v 96 (v 96 + 1))) (94 : Int32).toNatClampNeg (SI (nu v 96 (v 96 + 1)) (94 : Int32).toNatClampNeg + 1)) of bf (nI (pc sh))))) = _ ∧ _
        simp (disch := omega) only [iv, grd_inb, nI_clamp, SI_at, nI_add, SI_up]
        obtain ⟨o2, -, g2⟩ := fin (nu v 96 (v 96 + 1)) _ (nI e.2.1) hn1 hE1 hv1 (fun i _ _ hi => nu_n hi) (nu_n (by omega)) rfl rfl rfl
        rw [g2, if_pos (nI_pos' (by omega)), m_empties a1, bnd_s, m_at, bnd_s, grd_inb (by omega) (by decide), nI_clamp (by omega), SI_up]
        have hn2 := (hn1.c (i := 94) (c := 1) (nu v 96 (v 96 + 1) 94 + 1) (Or.inr (Or.inl ⟨rfl, rfl⟩)))
        have hE2 : SlR (nu (nu v 96 (v 96 + 1)) 94 (nu v 96 (v 96 + 1) 94 + 1)) E := hE1.up (by omega)
        obtain ⟨v', w1, w2, w3, w4⟩ := m_write hE2 hn2 (N := N + 1) (hv1.up (by omega) (by omega)) h2 a1 hsh h0 hp (fun e he _ => by rw [nu_n (by omega), nu_n (by omega)]; exact hcl e he) (lN (costN (szN st.1 st.2.2.1) p)) o2 bf hb
        rw [show (0 : Int32) = nI 0 from rfl, w1]
        rw [hkp] at hf
        rw [filt_erase E _ e hE.2.1 hf] at w2
        refine ⟨v', _, o2, bf, rfl, ⟨w2, ?_, w4⟩, ?_⟩
        · have h9 : v 94 = st.2.2.2.2.2 1 := hn.2.2.2.2.1
          have h96 : v 96 = st.2.2.2.2.2 5 := hn.2.2.2.2.2.2.1
          rw [c94, h9, h96] at w3
          have w5 := w3.c23 (c := 3) (x := st.2.2.2.2.2 3 + mk) (Or.inr rfl)
          have ec : nu (nu (nu st.2.2.2.2.2 5 (st.2.2.2.2.2 5 + 1)) 1 (st.2.2.2.2.2 1 + 1)) 3 (st.2.2.2.2.2 3 + mk) = nu (nu (nu st.2.2.2.2.2 1 (st.2.2.2.2.2 1 + 1)) 3 (st.2.2.2.2.2 3 + mk)) 5 (st.2.2.2.2.2 5 + 1) := by
            funext k
            unfold nu
            by_cases k1 : k = 1
            · subst k1; rfl
            · by_cases k3 : k = 3
              · subst k3; rfl
              · by_cases k5 : k = 5
                · subst k5; rfl
                · rw [if_neg k3, if_neg k1, if_neg k5, if_neg k5, if_neg k3, if_neg k1]
          rw [← ec]
          exact w5
        · rw [List.map_append, hkp, ← map_erase]
          rfl
      | none =>
        have hfn : ¬ fstL st.2.2.2.1 < st.2.2.2.1.length := by
          rw [fstL_none _ (fun x hx => ?_)]
          · exact Nat.lt_irrefl _
          · rw [hkp] at hx
            obtain ⟨e, he, ee⟩ := List.mem_map.mp hx
            rw [← ee]
            exact hy e he (hE.1 e he).1
        rw [if_neg hfn]
        show ∃ v' E' o1 b1, (grd (inb 94 100) (grd (inb 94 100) (f_X6_makes_L38 (nI sh) 1024 (-4) (nI 0) (upd (SI v) (94 : Int32).toNatClampNeg (SI v (94 : Int32).toNatClampNeg + 1)) of bf (nI (pc sh))))) = _ ∧ _
        simp (disch := omega) only [iv, grd_inb, nI_clamp, SI_at, nI_add, SI_up]
        obtain ⟨o2, -, g2⟩ := fin v st (-4) hn hE (hv.mono (by omega)) (fun i _ _ _ => rfl) rfl rfl rfl rfl
        rw [show -nI 4 = (-4 : Int32) from rfl, g2, if_neg (by decide)]
        have c99 : nu v 94 (v 94 + 1) 99 = v 99 := nu_n (by omega)
        simp (disch := omega) only [iv, grd_inb, nI_clamp, SI_at, nI_add, SI_up, c99]
        have hn2 := (hn.c (i := 94) (c := 1) (v 94 + 1) (Or.inr (Or.inl ⟨rfl, rfl⟩)))
        have hn3 := hn2.c (i := 99) (c := 8) (v 99 + 1) (Or.inr (Or.inr (Or.inr (Or.inr (Or.inr (Or.inr ⟨rfl, rfl⟩))))))
        refine ⟨_, E, o2, bf, rfl, ⟨(hE.up (by omega)).up (by omega), ?_, (hv.up (M := N + 1) (by omega) (by omega)).up (by omega) (by omega)⟩, hkp⟩
        have h9 : v 94 = st.2.2.2.2.2 1 := hn.2.2.2.2.1
        have h99 : v 99 = st.2.2.2.2.2 8 := hn.2.2.2.2.2.2.2.2.2
        have w5 := hn3.c23 (c := 3) (x := st.2.2.2.2.2 3 + mk) (Or.inr rfl)
        have ec : nu (nu (nu st.2.2.2.2.2 1 (v 94 + 1)) 8 (v 99 + 1)) 3 (st.2.2.2.2.2 3 + mk) = nu (nu (nu st.2.2.2.2.2 1 (st.2.2.2.2.2 1 + 1)) 3 (st.2.2.2.2.2 3 + mk)) 8 (st.2.2.2.2.2 8 + 1) := by
          rw [h9, h99]
          funext k
          unfold nu
          by_cases k1 : k = 1
          · subst k1; rfl
          · by_cases k3 : k = 3
            · subst k3; rfl
            · by_cases k5 : k = 8
              · subst k5; rfl
              · simp only [if_neg k3, if_neg k5, if_neg k1]
        rw [← ec]
        exact w5
end M5
