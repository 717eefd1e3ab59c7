/-! the model's array as numbers: slots of kept plans, entries (plan, slot, late) -/
abbrev ME : Type := PL × Nat × Nat
def VB (n : Nat) (v : Nat → Nat) : Prop := ∀ i, i < 100 → v i ≤ 1000 + n
def PlR (v : Nat → Nat) (b : Nat) (p : PL) : Prop := v b = p.1 ∧ (∀ i, i < p.2.1.length → v (b + 1 + i) = p.2.1.getD i 0) ∧ (∀ t, t < 5 → v (b + 6 + t) = p.2.2.1 t) ∧ v (b + 11) = p.2.2.2.1 ∧ v (b + 13) = p.2.2.2.2
/-- the entries E stand in the slots of v; the others are empty -/
def SlR (v : Nat → Nat) (E : List ME) : Prop := (∀ e ∈ E, e.2.1 < 4 ∧ POK e.1 ∧ PlR v (36 + 14 * e.2.1) e.1 ∧ v (36 + 14 * e.2.1 + 12) = e.2.2 ∧ e.2.2 ≤ v 92) ∧ E.Pairwise (fun a b => a.2.1 ≠ b.2.1 ∧ a.2.2 < b.2.2) ∧ ∀ k, k < 4 → (∀ e ∈ E, e.2.1 ≠ k) → ∀ i, i < 14 → v (36 + 14 * k + i) = 0
def NuR (v : Nat → Nat) (st : DS) : Prop := (∀ t, t < 5 → v t = st.1 t ∧ v (5 + t) = st.2.1 t) ∧ (∀ i j, i < 5 → j < 5 → v (10 + 5 * i + j) = st.2.2.1 i j) ∧ v 35 = st.2.2.2.2.1 ∧ v 93 = st.2.2.2.2.2 0 ∧ v 94 = st.2.2.2.2.2 1 ∧ v 95 = st.2.2.2.2.2 4 ∧ v 96 = st.2.2.2.2.2 5 ∧ v 97 = st.2.2.2.2.2 6 ∧ v 98 = st.2.2.2.2.2 7 ∧ v 99 = st.2.2.2.2.2 8
section MD
variable {v : Nat → Nat} {E : List ME} {st : DS} {N : Nat}
theorem m_at (k : Nat) : f_X6_at (nI k) = some (nI (36 + 14 * k)) := by
  unfold f_X6_at
  simp only [iv, pk_mul, nI_add]
/-- an entry's slot is its own -/
theorem SlR.uniq (hE : SlR v E) {e e' : ME} (h1 : e ∈ E) (h2 : e' ∈ E) (h : e.2.1 = e'.2.1) : e = e' := by
  obtain ⟨-, hp, -⟩ := hE
  induction E with
  | nil => cases h1
  | cons x l ih =>
    obtain ⟨p1, p2⟩ := List.pairwise_cons.mp hp
    rcases List.mem_cons.mp h1 with h1 | h1
    · rcases List.mem_cons.mp h2 with h2 | h2
      · rw [h1, h2]
      · rw [h1] at h; exact absurd h (p1 e' h2).1
    · rcases List.mem_cons.mp h2 with h2 | h2
      · rw [h2] at h; exact absurd h.symm (p1 e h1).1
      · exact ih h1 h2 p2
theorem slot_or (E : List ME) (k : Nat) : (∃ e ∈ E, e.2.1 = k) ∨ ∀ e ∈ E, e.2.1 ≠ k := by
  by_cases h : ∃ e ∈ E, e.2.1 = k
  · exact Or.inl h
  · exact Or.inr (fun e he z => h ⟨e, he, z⟩)
theorem m_isLoose {k : Nat} (hk : k < 4) (hv : VB N v) (hN : N < 2 ^ 29) : f_X6_isLoose (nI k) (SI v) = some (nI (if v (36 + 14 * k) = 0 then 0 else if v (36 + 14 * k + 13) = 0 then 1 else 0)) := by
  have h1 := hv (36 + 14 * k) (by omega)
  have h2 := hv (36 + 14 * k + 13) (by omega)
  unfold f_X6_isLoose
  simp (disch := omega) only [m_at, bnd_s, iv, nI_add, grd_inb, nI_clamp, SI_at, nI_ler, nI_eqr, Nat.le_zero]
  split
  · rfl
  · split <;> rfl
theorem SlR.loose (hE : SlR v E) {e : ME} (he : e ∈ E) (hv : VB N v) (hN : N < 2 ^ 29) : f_X6_isLoose (nI e.2.1) (SI v) = some (nI (if e.1.2.2.2.2 = 0 then 1 else 0)) := by
  obtain ⟨h1, h2, h3, h4⟩ := hE.1 e he
  rw [m_isLoose h1 hv hN, h3.1, if_neg (by have := h2.1; omega), h3.2.2.2.2]
theorem SlR.loose0 (hE : SlR v E) {k : Nat} (hk : k < 4) (he : ∀ e ∈ E, e.2.1 ≠ k) (hv : VB N v) (hN : N < 2 ^ 29) : f_X6_isLoose (nI k) (SI v) = some (nI 0) := by
  rw [m_isLoose hk hv hN, if_pos (show v (36 + 14 * k) = 0 from hE.2.2 k hk he 0 (by decide))]
/-- has drifted -/
theorem m_drift5 (hE : SlR v E) {e : ME} (he : e ∈ E) (hv : VB N v) (hN : N < 2 ^ 29) {gs : Nat → Nat} (hg : NB gs) (hgs : ∀ t, t < 5 → v (5 + t) = gs t) {dr : Nat} (hdr : dr ≤ 1000) : ∀ (n t : Nat), t ≤ 5 → 5 < n + t →
    f_X6_hasDrifted_L5 (nI e.2.1) (nI dr) (SI v) n (nI (if drU gs dr e.1 t then 1 else 0)) (nI t) = some (nI (if drB gs dr e.1 then 1 else 0))
  | 0, t, h1, h2 => by omega
  | n + 1, t, h1, h2 => by
    obtain ⟨k4, ok, hp, hl, hc⟩ := hE.1 e he
    show f_X6_hasDrifted_L5b _ _ _ _ _ _ = _
    unfold f_X6_hasDrifted_L5b
    by_cases h5 : 5 ≤ t
    · have e0 : t = 5 := by omega
      subst e0
      rw [if_pos (by decide +kernel)]
      show grd (isB (nI (if drB gs dr e.1 then 1 else 0))) (some (nI (if drB gs dr e.1 then 1 else 0))) = _
      split
      · exact grd_isB1
      · exact grd_isB0
    · have ht : t < 5 := by omega
      have ih := m_drift5 hE he hv hN hg hgs hdr n (t + 1) (by omega) (by omega)
      have b1 := hg t ht
      have b2 := ok.2.2.2.1 t ht
      have e1 := hgs t ht
      have e2 := hp.2.2.1 t ht
      have hsh := ok.2.1
      have hbl := bi_lt e.1.1 t
      have hbi := bi_int e.1.1 hsh t ht
      -- the step of the joined part
      have J : ∀ (less more : Nat), less = min (gs t) (e.1.2.2.1 t) → more = max (gs t) (e.1.2.2.1 t) → f_X6_hasDrifted_J69 (nI e.2.1) (nI dr) (SI v) (f_X6_hasDrifted_L5 (nI e.2.1) (nI dr) (SI v) n) (nI (if drU gs dr e.1 t then 1 else 0)) (nI t) (nI less) (nI more) = some (nI (if drB gs dr e.1 then 1 else 0)) := fun less more el em => by
        have hm1 : more * 100 ≤ 50000 := by rw [em]; have : max (gs t) (e.1.2.2.1 t) ≤ 500 := Nat.max_le.mpr ⟨b1.2, b2.2⟩; omega
        have hm2 : less * dr ≤ 500 * 1000 := by rw [el]; exact Nat.mul_le_mul (Nat.le_trans (Nat.min_le_left _ _) b1.2) hdr
        unfold f_X6_hasDrifted_J69
        rw [show nI t + (1 : Int32) = nI (t + 1) from nI_1 t]
        have eU : drU gs dr e.1 (t + 1) = (drU gs dr e.1 t || cond gs dr e.1 t) := rfl
        by_cases q : drU gs dr e.1 t = true
        · rw [eU, q, Bool.true_or, if_pos rfl] at ih
          rw [q, if_pos rfl, if_neg (by decide +kernel)]
          exact ih
        · have q' := Bool.not_eq_true _ |>.mp q
          rw [eU, q', Bool.false_or] at ih
          rw [q', if_neg (show ¬ (false = true) from by decide), if_pos (show nI 0 = (0 : Int32) from rfl), m_at, bnd_s, grd_inb (by omega) (by decide), nI_clamp (by omega), SI_at, hp.1]
          rw [show ((nI e.1.1 >>> (nI t &&& 31)) &&& (1 : Int32)) = nI (bi e.1.1 t) from hbi]
          unfold cond at ih
          by_cases q2 : bi e.1.1 t = 1
          · rw [if_pos (by rw [q2]; rfl), iv 100, pk_mul, pk_mul]
            simp (disch := omega) only [nI_ler]
            rw [q2, ← el, ← em] at ih
            by_cases q3 : more * 100 ≤ less * dr
            · rw [if_pos q3]
              rw [decide_eq_false (show ¬ less * dr < more * 100 by omega)] at ih
              exact ih
            · rw [if_neg q3]
              rw [decide_eq_true (show less * dr < more * 100 by omega)] at ih
              exact ih
          · rw [if_neg (by rw [show bi e.1.1 t = 0 by omega]; decide +kernel)]
            rw [show bi e.1.1 t = 0 by omega] at ih
            exact ih
      rw [if_neg (show ¬ (5 : Int32) ≤ nI t from nI_ge (b := 5) ht (by decide))]
      simp (disch := omega) only [m_at, bnd_s, iv, nI_add, grd_inb, nI_clamp, SI_at, e1, e2, nI_ler]
      by_cases q : e.1.2.2.1 t ≤ gs t
      · rw [if_pos q, if_pos q]
        exact J _ _ (Nat.min_eq_right q).symm (Nat.max_eq_left q).symm
      · rw [if_neg q, if_neg q]
        exact J _ _ (Nat.min_eq_left (by omega)).symm (Nat.max_eq_right (by omega)).symm
theorem m_drifted (hE : SlR v E) {e : ME} (he : e ∈ E) (hv : VB N v) (hN : N < 2 ^ 29) {gs : Nat → Nat} (hg : NB gs) (hgs : ∀ t, t < 5 → v (5 + t) = gs t) {dr : Nat} (hdr : dr ≤ 1000) : f_X6_hasDrifted (nI e.2.1) (nI dr) (SI v) = some (nI (if drB gs dr e.1 then 1 else 0)) :=
  m_drift5 hE he hv hN hg hgs hdr 1024 0 (by decide) (by decide)
/-- a slot is emptied -/
def emp (v : Nat → Nat) (k t : Nat) : Nat → Nat := fun i => if 36 + 14 * k ≤ i ∧ i < 36 + 14 * k + t then 0 else v i
theorem emp_s (v : Nat → Nat) (k t : Nat) : nu (emp v k t) (36 + 14 * k + t) 0 = emp v k (t + 1) := by
  funext i
  unfold nu emp
  by_cases e : i = 36 + 14 * k + t
  · rw [if_pos e, if_pos (by omega)]
  · rw [if_neg e]
    by_cases q : 36 + 14 * k ≤ i ∧ i < 36 + 14 * k + t
    · rw [if_pos q, if_pos (by omega)]
    · rw [if_neg q, if_neg (by omega)]
theorem m_emp2 {k : Nat} (hk : k < 4) : ∀ (n t : Nat), t ≤ 14 → 14 < n + t → f_X6_empties_L2 (nI k) n (nI t) (SI (emp v k t)) = some (SI (emp v k 14))
  | 0, t, h1, h2 => by omega
  | n + 1, t, h1, h2 => by
    show f_X6_empties_L2b _ _ _ _ = _
    unfold f_X6_empties_L2b
    by_cases h5 : 14 ≤ t
    · have e0 : t = 14 := by omega
      subst e0
      rw [if_pos (by decide +kernel)]
    · have ih := m_emp2 hk n (t + 1) (by omega) (by omega)
      rw [if_neg (show ¬ (14 : Int32) ≤ nI t from nI_ge (b := 14) (by omega) (by decide))]
      simp (disch := omega) only [m_at, bnd_s, iv, nI_add, grd_inb, nI_clamp, SI_up]
      rw [emp_s]
      exact ih
theorem m_empties {k : Nat} (hk : k < 4) : f_X6_empties (nI k) (SI v) = some (SI (emp v k 14)) := by
  have h := m_emp2 (v := v) hk 1024 0 (by decide) (by decide)
  rw [show emp v k 0 = v by funext i; unfold emp; rw [if_neg (by omega)]] at h
  exact h
theorem emp_out {k t i : Nat} (h : i < 36 + 14 * k ∨ 36 + 14 * k + t ≤ i) : emp v k t i = v i := if_neg (by omega)
theorem VB.mt (hv : VB N v) (k t : Nat) : VB N (emp v k t) := fun i hi => by
  unfold emp
  split
  · omega
  · exact hv i hi
theorem SlR.mt (hE : SlR v E) {k : Nat} (hk : k < 4) : SlR (emp v k 14) (E.filter (fun e => e.2.1 != k)) := by
  obtain ⟨h1, h2, h3⟩ := hE
  refine ⟨fun e he => ?_, h2.filter _, fun k' hk' hn i hi => ?_⟩
  · obtain ⟨he1, he2⟩ := List.mem_filter.mp he
    have hne : e.2.1 ≠ k := by simpa using he2
    obtain ⟨a1, a2, ⟨p1, p2, p3, p4, p5⟩, a4, a5⟩ := h1 e he1
    have hl := perms_len _ a2.2.1 _ a2.2.2.1
    have hl5 := pc_le _ a2.2.1
    refine ⟨a1, a2, ⟨(emp_out (by omega)).trans p1, fun i hi => (emp_out (by omega)).trans (p2 i hi), fun t ht => (emp_out (by omega)).trans (p3 t ht), (emp_out (by omega)).trans p4, (emp_out (by omega)).trans p5⟩, (emp_out (by omega)).trans a4, ?_⟩
    rw [emp_out (by omega)]
    exact a5
  · by_cases e : k' = k
    · subst e
      exact if_pos ⟨by omega, by omega⟩
    · rw [emp_out (by omega)]
      refine h3 k' hk' (fun e' he' z => ?_) i hi
      exact hn e' (List.mem_filter.mpr ⟨he', by simpa using (fun w => e (z.symm.trans w))⟩) z
end MD
