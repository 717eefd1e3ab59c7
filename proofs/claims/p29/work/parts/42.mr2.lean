/-! the model throws out, counts, looks for slots, sums over slots -/
section M2
variable {v : Nat → Nat} {E : List ME} {st : DS} {N : Nat}
theorem filt_len {k : Nat} : ∀ (l : List ME), l.Pairwise (fun a b => a.2.1 ≠ b.2.1 ∧ a.2.2 < b.2.2) → (∃ e ∈ l, e.2.1 = k) → (l.filter (fun e => e.2.1 != k)).length + 1 = l.length
  | [], _, h => by obtain ⟨e, he, -⟩ := h; cases he
  | x :: l, hp, h => by
    obtain ⟨p1, p2⟩ := List.pairwise_cons.mp hp
    by_cases q : x.2.1 = k
    · rw [List.filter_cons_of_neg (by simp [q])]
      rw [List.filter_eq_self.mpr (fun e he => by
        have := (p1 e he).1
        simp only [bne_iff_ne, ne_eq]
        exact fun z => this (q.trans z.symm))]
      rfl
    · rw [List.filter_cons_of_pos (by simp [q]), List.length_cons, List.length_cons]
      rw [filt_len l p2 (by
        obtain ⟨e, he, ek⟩ := h
        rcases List.mem_cons.mp he with he | he
        · rw [he] at ek; exact absurd ek q
        · exact ⟨e, he, ek⟩)]
theorem NuR.mt (hn : NuR v st) {k : Nat} (hk : k < 4) : NuR (emp v k 14) st := by
  obtain ⟨a1, a2, a3, a4, a5, a6, a7, a8, a9, a10⟩ := hn
  refine ⟨fun t ht => ⟨(emp_out (by omega)).trans (a1 t ht).1, (emp_out (by omega)).trans (a1 t ht).2⟩, fun i j hi hj => (emp_out (by omega)).trans (a2 i j hi hj), (emp_out (by omega)).trans a3, (emp_out (by omega)).trans a4, (emp_out (by omega)).trans a5, (emp_out (by omega)).trans a6, (emp_out (by omega)).trans a7, (emp_out (by omega)).trans a8, (emp_out (by omega)).trans a9, (emp_out (by omega)).trans a10⟩
theorem VB.up (hv : VB N v) {i x M : Nat} (hx : x ≤ 1000 + M) (hM : N ≤ M) : VB M (nu v i x) := fun j hj => by
  unfold nu
  split
  · exact hx
  · have := hv j hj; omega
theorem VB.mono (hv : VB N v) {M : Nat} (hM : N ≤ M) : VB M v := fun j hj => by have := hv j hj; omega
/-- a cell outside the slots is written -/
theorem SlR.up (hE : SlR v E) {i x : Nat} (hi : i < 36 ∨ 92 < i) : SlR (nu v i x) E := by
  obtain ⟨h1, h2, h3⟩ := hE
  have o : ∀ j, 36 ≤ j → j ≤ 92 → nu v i x j = v j := fun j a b => nu_n (by omega)
  refine ⟨fun e he => ?_, h2, fun k hk hn t ht => (o _ (by omega) (by omega)).trans (h3 k hk hn t ht)⟩
  obtain ⟨a1, a2, ⟨p1, p2, p3, p4, p5⟩, a4, a5⟩ := h1 e he
  have hl := perms_len _ a2.2.1 _ a2.2.2.1
  have hl5 := pc_le _ a2.2.1
  refine ⟨a1, a2, ⟨(o _ (by omega) (by omega)).trans p1, fun i hi => (o _ (by omega) (by omega)).trans (p2 i hi), fun t ht => (o _ (by omega) (by omega)).trans (p3 t ht), (o _ (by omega) (by omega)).trans p4, (o _ (by omega) (by omega)).trans p5⟩, (o _ (by omega) (by omega)).trans a4, ?_⟩
  rw [o 92 (by omega) (by omega)]
  exact a5
theorem nu_key {cs : Nat → Nat} {i c x i' c' : Nat} (h : v i' = cs c') (he : i' = i ↔ c' = c) : nu v i x i' = nu cs c x c' := by
  by_cases q : i' = i
  · rw [q, he.mp q, nu_s, nu_s]
  · rw [nu_n q, nu_n (fun z => q (he.mpr z)), h]
/-- a counter is written -/
theorem NuR.c (hn : NuR v st) {i c : Nat} (x : Nat) (hic : (i = 93 ∧ c = 0) ∨ (i = 94 ∧ c = 1) ∨ (i = 95 ∧ c = 4) ∨ (i = 96 ∧ c = 5) ∨ (i = 97 ∧ c = 6) ∨ (i = 98 ∧ c = 7) ∨ (i = 99 ∧ c = 8)) : NuR (nu v i x) (st.1, st.2.1, st.2.2.1, st.2.2.2.1, st.2.2.2.2.1, nu st.2.2.2.2.2 c x) := by
  obtain ⟨a1, a2, a3, a4, a5, a6, a7, a8, a9, a10⟩ := hn
  have b : 93 ≤ i := by omega
  refine ⟨fun t ht => ⟨(nu_n (by omega)).trans (a1 t ht).1, (nu_n (by omega)).trans (a1 t ht).2⟩, fun i j hi hj => (nu_n (by omega)).trans (a2 i j hi hj), (nu_n (by omega)).trans a3, ?_⟩
  exact ⟨nu_key (i := i) (c := c) a4 (by omega), nu_key (i := i) (c := c) a5 (by omega), nu_key (i := i) (c := c) a6 (by omega), nu_key (i := i) (c := c) a7 (by omega), nu_key (i := i) (c := c) a8 (by omega), nu_key (i := i) (c := c) a9 (by omega), nu_key (i := i) (c := c) a10 (by omega)⟩
def SR (N : Nat) (v : Nat → Nat) (E : List ME) (st : DS) : Prop := SlR v E ∧ NuR v st ∧ VB N v
theorem m_throwL (hg : NB st.2.1) (hdl : st.2.2.2.2.1 ≤ 1000) {L : Nat} (hL : L ≤ 4) : ∀ (n k x N : Nat) (v : Nat → Nat) (E : List ME), k ≤ 4 → 4 < n + k → N < 2 ^ 28 → SR N v E st → x + E.length = L → (∀ e ∈ E, e.2.1 < k → keepD st.2.1 st.2.2.2.2.1 e.1 = true) →
    ∃ v', f_X6_throwsOut_L4 n (nI x) (nI k) (SI v) = some (nI (L - (E.filter (fun e => keepD st.2.1 st.2.2.2.2.1 e.1)).length), SI v') ∧ SR (N + 4) v' (E.filter (fun e => keepD st.2.1 st.2.2.2.2.1 e.1)) (st.1, st.2.1, st.2.2.1, st.2.2.2.1, st.2.2.2.2.1, nu st.2.2.2.2.2 4 (st.2.2.2.2.2 4 + (L - (E.filter (fun e => keepD st.2.1 st.2.2.2.2.1 e.1)).length)))
  | 0, k, x, N, v, E, h1, h2, _, _, _, _ => by omega
  | n + 1, k, x, N, v, E, h1, h2, hN, hR, hx, hk => by
    obtain ⟨hE, hn, hv⟩ := hR
    show ∃ v', f_X6_throwsOut_L4b _ _ _ _ = _ ∧ _
    unfold f_X6_throwsOut_L4b
    by_cases h4 : 4 ≤ k
    · have e0 : E.filter (fun e => keepD st.2.1 st.2.2.2.2.1 e.1) = E := List.filter_eq_self.mpr (fun e he => hk e he (by have := (hE.1 e he).1; omega))
      rw [e0, show L - E.length = x by omega]
      have h95 := hv 95 (by decide)
      refine ⟨nu v 95 (v 95 + x), ?_, hE.up (by omega), ?_, hv.up (by omega) (by omega)⟩
      · rw [if_pos (show (4 : Int32) ≤ nI k from nI_le (a := 4) h4 (by omega))]
        simp (disch := omega) only [iv, grd_inb, nI_clamp, SI_at, nI_add, SI_up]
      · have h9 : v 95 = st.2.2.2.2.2 4 := hn.2.2.2.2.2.1
        rw [h9]
        exact hn.c _ (Or.inr (Or.inr (Or.inl ⟨rfl, rfl⟩)))
    · have hk4 : k < 4 := by omega
      rw [if_neg (show ¬ (4 : Int32) ≤ nI k from nI_ge (b := 4) hk4 (by decide)), show nI k + (1 : Int32) = nI (k + 1) from nI_1 k, show nI x + (1 : Int32) = nI (x + 1) from nI_1 x]
      rcases slot_or E k with ⟨e, he, ek⟩ | hno
      · subst ek
        have hl := hE.loose he hv (by omega)
        rw [hl, bnd_s]
        have keep : keepD st.2.1 st.2.2.2.2.1 e.1 = true → ∃ v', f_X6_throwsOut_L4 n (nI x) (nI (e.2.1 + 1)) (SI v) = some (nI (L - (E.filter (fun e => keepD st.2.1 st.2.2.2.2.1 e.1)).length), SI v') ∧ SR (N + 4) v' (E.filter (fun e => keepD st.2.1 st.2.2.2.2.1 e.1)) (st.1, st.2.1, st.2.2.1, st.2.2.2.1, st.2.2.2.2.1, nu st.2.2.2.2.2 4 (st.2.2.2.2.2 4 + (L - (E.filter (fun e => keepD st.2.1 st.2.2.2.2.1 e.1)).length))) := fun hkp =>
          m_throwL hg hdl hL n (e.2.1 + 1) x N v E (by omega) (by omega) hN ⟨hE, hn, hv⟩ hx (fun e' he' hlt => by
            by_cases q : e'.2.1 = e.2.1
            · rw [hE.uniq he' he q]; exact hkp
            · exact hk e' he' (by omega))
        by_cases q : e.1.2.2.2.2 = 0
        · rw [if_pos q, if_neg (by decide +kernel)]
          have h35 : v 35 = st.2.2.2.2.1 := hn.2.2.1
          have hdr := m_drifted hE he hv (by omega) hg (fun t ht => (hn.1 t ht).2) hdl
          rw [show (35 : Int32) = nI 35 from rfl, grd_inb (by decide) (by decide), nI_clamp (by decide), SI_at, h35, hdr, bnd_s]
          by_cases q2 : drB st.2.1 st.2.2.2.2.1 e.1 = true
          · have hkf : keepD st.2.1 st.2.2.2.2.1 e.1 = false := by unfold keepD; rw [q, q2]; rfl
            rw [q2, if_pos rfl, if_neg (by decide +kernel), m_empties hk4, bnd_s]
            have hlen := filt_len E hE.2.1 ⟨e, he, rfl⟩
            have ef : (E.filter (fun e' => e'.2.1 != e.2.1)).filter (fun e => keepD st.2.1 st.2.2.2.2.1 e.1) = E.filter (fun e => keepD st.2.1 st.2.2.2.2.1 e.1) := by
              rw [List.filter_filter]
              refine List.filter_congr (fun e' he' => ?_)
              by_cases q3 : e'.2.1 = e.2.1
              · rw [hE.uniq he' he q3, hkf]; rfl
              · rw [(bne_iff_ne).mpr q3, Bool.and_true]
            have ih := m_throwL hg hdl hL n (e.2.1 + 1) (x + 1) N (emp v e.2.1 14) (E.filter (fun e' => e'.2.1 != e.2.1)) (by omega) (by omega) hN ⟨hE.mt hk4, hn.mt hk4, hv.mt _ _⟩ (by omega) (fun e' he' hlt => by
              obtain ⟨he1, he2⟩ := List.mem_filter.mp he'
              have hne : e'.2.1 ≠ e.2.1 := by simpa using he2
              exact hk e' he1 (by omega))
            rw [ef] at ih
            exact ih
          · rw [Bool.not_eq_true _ |>.mp q2, if_neg (show ¬ (false = true) by decide), if_pos (show nI 0 = (0 : Int32) from rfl)]
            exact keep (by unfold keepD; rw [Bool.not_eq_true _ |>.mp q2, Bool.and_false]; rfl)
        · rw [if_neg q, if_pos (show nI 0 = (0 : Int32) from rfl)]
          exact keep (by unfold keepD; rw [beq_eq_false_iff_ne.mpr q]; rfl)
      · rw [hE.loose0 hk4 hno hv (by omega), bnd_s, if_pos (show nI 0 = (0 : Int32) from rfl)]
        exact m_throwL hg hdl hL n (k + 1) x N v E (by omega) (by omega) hN ⟨hE, hn, hv⟩ hx (fun e' he' hlt => hk e' he' (by have := hno e' he'; omega))
theorem filter_mapE (f : PL → Bool) : ∀ (E : List ME), (E.filter (fun e => f e.1)).map Prod.fst = (E.map Prod.fst).filter f
  | [] => rfl
  | x :: l => by
    rw [List.map_cons, List.filter_cons, List.filter_cons]
    have ih := filter_mapE f l
    cases f x.1 with
    | true => rw [if_pos rfl, if_pos rfl, List.map_cons, ih]
    | false => rw [if_neg (by decide), if_neg (by decide), ih]
theorem m_throws (hg : NB st.2.1) (hdl : st.2.2.2.2.1 ≤ 1000) (h4 : st.2.2.2.1.length ≤ 4) (hN : N < 2 ^ 28) (hR : SR N v E st) (hE : st.2.2.2.1 = E.map Prod.fst) :
    ∃ v' E', f_X6_throwsOut (SI v) = some (nI (st.2.2.2.1.length - (st.2.2.2.1.filter (keepD st.2.1 st.2.2.2.2.1)).length), SI v') ∧ SR (N + 4) v' E' (thrown st 4 (keepD st.2.1 st.2.2.2.2.1)) ∧ (thrown st 4 (keepD st.2.1 st.2.2.2.2.1)).2.2.2.1 = E'.map Prod.fst := by
  have e0 : E.length = st.2.2.2.1.length := by rw [hE, List.length_map]
  have e2 := filter_mapE (keepD st.2.1 st.2.2.2.2.1) E
  rw [← hE] at e2
  have e1 : (E.filter (fun x => keepD st.2.1 st.2.2.2.2.1 x.1)).length = (st.2.2.2.1.filter (keepD st.2.1 st.2.2.2.2.1)).length := by rw [← e2, List.length_map]
  obtain ⟨v', g1, g2⟩ := m_throwL hg hdl h4 1024 0 0 N v E (by decide) (by decide) hN hR (by omega) (fun e _ h => absurd h (Nat.not_lt_zero _))
  rw [e1] at g1 g2
  exact ⟨v', _, g1, g2, e2.symm⟩
theorem NuR.g (hn : NuR v st) {t x : Nat} (ht : t < 5) : NuR (nu v (5 + t) x) (st.1, nu st.2.1 t x, st.2.2) := by
  obtain ⟨a1, a2, a3, a4, a5, a6, a7, a8, a9, a10⟩ := hn
  refine ⟨fun u hu => ⟨(nu_n (by omega)).trans (a1 u hu).1, ?_⟩, fun i j hi hj => (nu_n (by omega)).trans (a2 i j hi hj), (nu_n (by omega)).trans a3, (nu_n (by omega)).trans a4, (nu_n (by omega)).trans a5, (nu_n (by omega)).trans a6, (nu_n (by omega)).trans a7, (nu_n (by omega)).trans a8, (nu_n (by omega)).trans a9, (nu_n (by omega)).trans a10⟩
  by_cases e : u = t
  · subst e; rw [nu_s]; exact nu_s.symm
  · rw [nu_n (by omega)]; exact (a1 u hu).2.trans (nu_n e).symm
theorem NuR.r (hn : NuR v st) {t x : Nat} (ht : t < 5) : NuR (nu v t x) (nu st.1 t x, st.2) := by
  obtain ⟨a1, a2, a3, a4, a5, a6, a7, a8, a9, a10⟩ := hn
  refine ⟨fun u hu => ⟨?_, (nu_n (by omega)).trans (a1 u hu).2⟩, fun i j hi hj => (nu_n (by omega)).trans (a2 i j hi hj), (nu_n (by omega)).trans a3, (nu_n (by omega)).trans a4, (nu_n (by omega)).trans a5, (nu_n (by omega)).trans a6, (nu_n (by omega)).trans a7, (nu_n (by omega)).trans a8, (nu_n (by omega)).trans a9, (nu_n (by omega)).trans a10⟩
  by_cases e : u = t
  · subst e; rw [nu_s]; exact nu_s.symm
  · rw [nu_n (by omega)]; exact (a1 u hu).1.trans (nu_n e).symm
/-- slots -/
theorem m_slotL {sh : Nat} (hsh : sh < 32) (hv : VB N v) (hN : N < 2 ^ 28) : ∀ (n k : Nat), k ≤ 4 → 4 < n + k → (∀ j, j < k → v (36 + 14 * j) ≠ sh) →
    (∃ j, j < 4 ∧ v (36 + 14 * j) = sh ∧ (∀ i, i < j → v (36 + 14 * i) ≠ sh) ∧ f_X6_slotOf_L2 (nI sh) (SI v) n (nI k) = some (nI j)) ∨ ((∀ j, j < 4 → v (36 + 14 * j) ≠ sh) ∧ f_X6_slotOf_L2 (nI sh) (SI v) n (nI k) = some (-4))
  | 0, k, h1, h2, _ => by omega
  | n + 1, k, h1, h2, hI => by
    show (∃ j, j < 4 ∧ _ ∧ _ ∧ f_X6_slotOf_L2b _ _ _ _ = _) ∨ (_ ∧ f_X6_slotOf_L2b _ _ _ _ = _)
    unfold f_X6_slotOf_L2b
    by_cases h4 : 4 ≤ k
    · have e0 : k = 4 := by omega
      subst e0
      exact Or.inr ⟨hI, by rw [if_pos (by decide +kernel)]⟩
    · have hb := hv (36 + 14 * k) (by omega)
      rw [if_neg (show ¬ (4 : Int32) ≤ nI k from nI_ge (b := 4) (by omega) (by decide)), m_at, bnd_s, grd_inb (by omega) (by decide), nI_clamp (by omega), SI_at, show nI k + (1 : Int32) = nI (k + 1) from nI_1 k]
      by_cases q : v (36 + 14 * k) = sh
      · rw [if_pos (by rw [q])]
        exact Or.inl ⟨k, by omega, q, hI, rfl⟩
      · rw [if_neg (fun z => q (nI_inj31 (by omega) (by omega) z))]
        exact m_slotL hsh hv hN n (k + 1) (by omega) (by omega) (fun j hj => by
          by_cases e : j = k
          · subst e; exact q
          · exact hI j (by omega))
theorem m_slot {sh : Nat} (hsh : sh < 32) (hv : VB N v) (hN : N < 2 ^ 28) : (∃ j, j < 4 ∧ v (36 + 14 * j) = sh ∧ (∀ i, i < j → v (36 + 14 * i) ≠ sh) ∧ f_X6_slotOf (nI sh) (SI v) = some (nI j)) ∨ ((∀ j, j < 4 → v (36 + 14 * j) ≠ sh) ∧ f_X6_slotOf (nI sh) (SI v) = some (-4)) :=
  m_slotL hsh hv hN 1024 0 (by decide) (by decide) (fun j hj => absurd hj (Nat.not_lt_zero _))
/-- the slot of a shape -/
theorem SlR.slot (hE : SlR v E) {e : ME} (he : e ∈ E) (hu : ∀ e' ∈ E, e'.1.1 = e.1.1 → e' = e) (hv : VB N v) (hN : N < 2 ^ 28) : f_X6_slotOf (nI e.1.1) (SI v) = some (nI e.2.1) := by
  obtain ⟨a1, a2, a3, a4⟩ := hE.1 e he
  rcases m_slot a2.2.1 hv hN with ⟨j, hj, h1, -, h2⟩ | ⟨h, -⟩
  · rcases slot_or E j with ⟨e', he', ej⟩ | hno
    · have := (hE.1 e' he').2.2.1.1
      rw [ej] at this
      rw [h2, ← ej, hu e' he' (by omega)]
    · have := hE.2.2 j hj hno 0 (by decide)
      have := a2.1
      simp only [Nat.add_zero] at *
      omega
  · exact absurd a3.1 (h _ a1)
theorem SlR.slot0 (hE : SlR v E) {sh : Nat} (hsh : sh < 32) (h0 : sh ≠ 0) (hu : ∀ e ∈ E, e.1.1 ≠ sh) (hv : VB N v) (hN : N < 2 ^ 28) : f_X6_slotOf (nI sh) (SI v) = some (-4) := by
  rcases m_slot hsh hv hN with ⟨j, hj, h1, -, h2⟩ | ⟨h, h2⟩
  · rcases slot_or E j with ⟨e', he', ej⟩ | hno
    · have := (hE.1 e' he').2.2.1.1
      rw [ej] at this
      exact absurd (by omega) (hu e' he')
    · have := hE.2.2 j hj hno 0 (by decide)
      simp only [Nat.add_zero] at this
      omega
  · exact h2
/-- sums over the slots -/
def sumF (f : Nat → Nat) : Nat → Nat → Nat
  | _, 0 => 0
  | k, d + 1 => f k + sumF f (k + 1) d
theorem slotSum {g : ME → Nat} : ∀ (E : List ME) (f : Nat → Nat), E.Pairwise (fun a b => a.2.1 ≠ b.2.1 ∧ a.2.2 < b.2.2) → (∀ e ∈ E, e.2.1 < 4 ∧ f e.2.1 = g e) → (∀ k, k < 4 → (∀ e ∈ E, e.2.1 ≠ k) → f k = 0) → sumF f 0 4 = sumL g E
  | [], f, _, _, h => by
    have a := h 0 (by decide) (fun e he => by cases he)
    have b := h 1 (by decide) (fun e he => by cases he)
    have c := h 2 (by decide) (fun e he => by cases he)
    have d := h 3 (by decide) (fun e he => by cases he)
    show f 0 + (f 1 + (f 2 + (f 3 + 0))) = 0
    omega
  | e :: l, f, hp, h1, h2 => by
    obtain ⟨p1, p2⟩ := List.pairwise_cons.mp hp
    obtain ⟨e1, e2⟩ := h1 e List.mem_cons_self
    have ih := slotSum (g := g) l (nu f e.2.1 0) p2 (fun e' he' => ⟨(h1 e' (List.mem_cons_of_mem _ he')).1, by rw [nu_n (Ne.symm (p1 e' he').1)]; exact (h1 e' (List.mem_cons_of_mem _ he')).2⟩) (fun k hk hn => by
      by_cases q : k = e.2.1
      · subst q; exact nu_s
      · rw [nu_n q]
        exact h2 k hk (fun e' he' => by
          rcases List.mem_cons.mp he' with he' | he'
          · rw [he']; exact Ne.symm q
          · exact hn e' he'))
    rw [sumL_c, ← ih, ← e2]
    have h4 : e.2.1 = 0 ∨ e.2.1 = 1 ∨ e.2.1 = 2 ∨ e.2.1 = 3 := by omega
    show f 0 + (f 1 + (f 2 + (f 3 + 0))) = f e.2.1 + (nu f e.2.1 0 0 + (nu f e.2.1 0 1 + (nu f e.2.1 0 2 + (nu f e.2.1 0 3 + 0))))
    rcases h4 with h4 | h4 | h4 | h4 <;> rw [h4] <;> simp [nu] <;> omega
end M2
