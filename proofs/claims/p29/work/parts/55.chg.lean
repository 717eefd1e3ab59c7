/-! calls that change rows, guesses, limits -/
section CH
variable {ct : Nat → ClassId} {a0 : Nat} {N : Nat} {v : Nat → Nat} {E : List ME} {st : DS}
theorem thr_S {c : Nat} {f : PL → Bool} (hS : SOK st) : SOK (thrown st c f) := ⟨hS.1, hS.2.1, hS.2.2.1, fun x hx => hS.2.2.2.1 x (List.mem_filter.mp hx).1, Nat.le_trans (List.length_filter_le _ _) hS.2.2.2.2.1, hS.2.2.2.2.2⟩
theorem thr_Z {c : Nat} {f : PL → Bool} (hZ : ZOK st) (hc : c < 9) : ZOK (thrown st c f) := ⟨hZ.1, hZ.2.1, hZ.2.2.1, hZ.2.2.2.nu hc⟩
theorem thr_D {c : Nat} {f : PL → Bool} (hD : DOK st) : DOK (thrown st c f) := sub_nodup hD
theorem thr_L {c : Nat} : LOK (thrown st c (keepD st.2.1 st.2.2.2.2.1)) := fun x hx => (List.mem_filter.mp hx).2
theorem thr_L2 {c : Nat} {f : PL → Bool} (hL : LOK st) : LOK (thrown st c f) := fun x hx => hL x (List.mem_filter.mp hx).1
theorem thr_I {c : Nat} (hc : c < 9) (hS : SOK st) (hZ : ZOK st) (hD : DOK st) : IV (thrown st c (keepD st.2.1 st.2.2.2.2.1)) := ⟨thr_S hS, thr_Z hZ hc, thr_D hD, thr_L⟩
theorem nu_NB {u : Nat → Nat} (h : NB u) {t x : Nat} (hx : 1 ≤ x ∧ x ≤ 500) : NB (nu u t x) := fun k hk => by
  unfold nu
  by_cases q : k = t
  · rw [if_pos q]; exact hx
  · rw [if_neg q]; exact h k hk
theorem rows_I (hI : IV st) {t x : Nat} (ht : t < 5) (hx : 1 ≤ x ∧ x ≤ 500) : IV (nu st.1 t x, st.2) := ⟨⟨nu_NB hI.1.1 hx, hI.1.2⟩, ⟨hI.2.1.1.nu ht, hI.2.1.2⟩, hI.2.2.1, hI.2.2.2⟩
theorem SR.rows (h : SR N v E st) {t x : Nat} (ht : t < 5) (hx : x ≤ 500) {M : Nat} (hM : N ≤ M) : SR M (nu v t x) E (nu st.1 t x, st.2) := ⟨h.1.up (by omega), h.2.1.r ht, h.2.2.up (by omega) hM⟩
theorem gcnt_pow (rw gs : Nat → Nat) {t : Nat} (ht : t < 5) : gcnt rw gs (2 ^ t) 5 = nu gs t (rw t) := by
  funext u
  unfold gcnt nu
  have key : ∀ t, t < 5 → ∀ u, u < 5 → (bi (2 ^ t) u = 1 ↔ u = t) := by decide +kernel
  by_cases q : u = t
  · subst q
    rw [if_pos ⟨ht, (key u ht u ht).mpr rfl⟩, if_pos rfl]
  · rw [if_neg (fun z => q ((key t ht u z.1).mp z.2)), if_neg q]
theorem m_counts (hR : SR N v E st) (hkp : st.2.2.2.1 = E.map Prod.fst) (hS : SOK st) (hN : N < 2 ^ 28) {t : Nat} (ht : t < 5) : ∃ v' E', f_X6_counts (nI t) (SI v) = some (nI (countedN st (2 ^ t)), SI v') ∧ SR (N + 4) v' E' (counted st (2 ^ t)) ∧ (counted st (2 ^ t)).2.2.2.1 = E'.map Prod.fst := by
  have hr := hS.1 t ht
  have hR1 : SR N (nu v (5 + t) (st.1 t)) E (st.1, nu st.2.1 t (st.1 t), st.2.2) := ⟨hR.1.up (by omega), hR.2.1.g ht, hR.2.2.up (by omega) (by omega)⟩
  have e := gcnt_pow st.1 st.2.1 ht
  obtain ⟨v', E', e1, e2, e3⟩ := m_throws (st := (st.1, nu st.2.1 t (st.1 t), st.2.2)) (nu_NB hS.2.1 hr) hS.2.2.2.2.2.2 hS.2.2.2.2.1 hN hR1 hkp
  refine ⟨v', E', ?_, ?_, ?_⟩
  · unfold f_X6_counts countedN
    rw [e, z_add, show (5 : Int32) = nI 5 from rfl, nI_add, grd_inb (by omega) (by decide), grd_inb (by omega) (by decide), nI_clamp (by omega), nI_clamp (by omega), SI_at, (hR.2.1.1 t ht).1, SI_up, e1, bnd_s]
  · unfold counted; rw [e]; exact e2
  · unfold counted; rw [e]; exact e3
end CH

