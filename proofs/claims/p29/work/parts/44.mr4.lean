/-! the model uses a plan, finds a slot for a new one -/
def idxS (sh : Nat) : List PL → Nat
  | [] => 0
  | x :: l => if x.1 = sh then 0 else idxS sh l + 1
theorem idxS_none {sh : Nat} : ∀ (l : List PL), (∀ x ∈ l, x.1 ≠ sh) → l[idxS sh l]? = none
  | [], _ => rfl
  | x :: l, h => by
    unfold idxS
    rw [if_neg (h x List.mem_cons_self)]
    exact idxS_none l (fun y hy => h y (List.mem_cons_of_mem _ hy))
theorem idxS_some {sh : Nat} : ∀ (l : List PL) (i : Nat) (x : PL), (l.map Prod.fst).Nodup → l[i]? = some x → x.1 = sh → idxS sh l = i
  | [], i, x, _, h, _ => by cases h
  | y :: l, 0, x, _, h, hx => by
    cases h
    exact if_pos hx
  | y :: l, i + 1, x, hn, h, hx => by
    rw [List.map_cons] at hn
    obtain ⟨h1, h2⟩ := List.nodup_cons.mp hn
    have ih := idxS_some l i x h2 h hx
    unfold idxS
    rw [if_neg (fun z => h1 (List.mem_map.mpr ⟨x, List.mem_of_getElem? h, by rw [hx, z]⟩)), ih]
def used (st : DS) (i : Nat) (x : PL) : DS := (st.1, st.2.1, st.2.2.1, st.2.2.2.1.eraseIdx i ++ [(x.1, x.2.1, x.2.2.1, x.2.2.2.1 + 1, x.2.2.2.2)], st.2.2.2.2.1, nu st.2.2.2.2.2 0 (st.2.2.2.2.2 0 + 1))
section M4
variable {v : Nat → Nat} {E : List ME} {st : DS} {N : Nat}
theorem NuR.ms0 (hn : NuR v st) (h1 : NB st.1) (h2 : PB st.2.2.1) : MS 0 (SI v) (szN st.1 st.2.2.1) := fun u hu => m_size hu (by decide) h1 h2 (fun e t he ht => hn.2.1 e t he ht) (fun t ht => by rw [Nat.zero_add]; exact (hn.1 t ht).1)
theorem NuR.ms5 (hn : NuR v st) (h1 : NB st.2.1) (h2 : PB st.2.2.1) : MS 5 (SI v) (szN st.2.1 st.2.2.1) := fun u hu => m_size hu (by decide) h1 h2 (fun e t he ht => hn.2.1 e t he ht) (fun t ht => (hn.1 t ht).2)
/-- an entry is put into the slot s in place of the one that is there -/
theorem SlR.put (hE : SlR v E) {v' : Nat → Nat} {s : Nat} (hs : s < 4) (hv : ∀ j, 36 ≤ j → j ≤ 92 → (j < 36 + 14 * s ∨ 36 + 14 * s + 14 ≤ j) → v' j = v j) {p : PL} {lt : Nat} (h1 : POK p) (h2 : PlR v' (36 + 14 * s) p) (h3 : v' (36 + 14 * s + 12) = lt) (h4 : lt ≤ v' 92) (h5 : ∀ e ∈ E, e.2.1 ≠ s → e.2.2 < lt) : SlR v' (E.filter (fun e => e.2.1 != s) ++ [(p, s, lt)]) := by
  obtain ⟨a1, a2, a3⟩ := hE
  refine ⟨fun e he => ?_, List.pairwise_append.mpr ⟨a2.filter _, List.pairwise_singleton _ _, fun e he x hx => ?_⟩, fun k hk hno i hi => ?_⟩
  · rcases List.mem_append.mp he with he | he
    · obtain ⟨he1, he2⟩ := List.mem_filter.mp he
      have hne : e.2.1 ≠ s := by simpa using he2
      obtain ⟨b1, b2, ⟨p1, p2, p3, p4, p5⟩, b4, b5⟩ := a1 e he1
      have hl := perms_len _ b2.2.1 _ b2.2.2.1
      have hl5 := pc_le _ b2.2.1
      refine ⟨b1, b2, ⟨(hv _ (by omega) (by omega) (by omega)).trans p1, fun i hi => (hv _ (by omega) (by omega) (by omega)).trans (p2 i hi), fun t ht => (hv _ (by omega) (by omega) (by omega)).trans (p3 t ht), (hv _ (by omega) (by omega) (by omega)).trans p4, (hv _ (by omega) (by omega) (by omega)).trans p5⟩, (hv _ (by omega) (by omega) (by omega)).trans b4, ?_⟩
      have := h5 e he1 hne
      omega
    · rw [List.mem_singleton.mp he]
      exact ⟨hs, h1, h2, h3, h4⟩
  · obtain ⟨he1, he2⟩ := List.mem_filter.mp he
    have hne : e.2.1 ≠ s := by simpa using he2
    rw [List.mem_singleton.mp hx]
    exact ⟨hne, h5 e he1 hne⟩
  · have hks : k ≠ s := fun z => hno (p, s, lt) (List.mem_append_right _ (List.mem_singleton.mpr rfl)) z.symm
    rw [hv _ (by omega) (by omega) (by omega)]
    refine a3 k hk (fun e he z => ?_) i hi
    exact hno e (List.mem_append_left _ (List.mem_filter.mpr ⟨he, by simpa using (fun w => hks (z.symm.trans w))⟩)) z
theorem filt_erase : ∀ (l : List ME) (i : Nat) (e : ME), l.Pairwise (fun a b => a.2.1 ≠ b.2.1 ∧ a.2.2 < b.2.2) → l[i]? = some e → l.filter (fun e' => e'.2.1 != e.2.1) = l.eraseIdx i
  | [], i, e, _, h => by cases h
  | x :: l, 0, e, hp, h => by
    cases h
    obtain ⟨p1, p2⟩ := List.pairwise_cons.mp hp
    rw [List.filter_cons_of_neg (by simp), List.eraseIdx_cons_zero]
    exact List.filter_eq_self.mpr (fun e' he' => by simpa using (fun z => (p1 e' he').1 z.symm))
  | x :: l, i + 1, e, hp, h => by
    obtain ⟨p1, p2⟩ := List.pairwise_cons.mp hp
    have hx := (p1 e (List.mem_of_getElem? h)).1
    rw [List.filter_cons_of_pos (by simpa using hx), List.eraseIdx_cons_succ, filt_erase l i e p2 h]
theorem nu_id (v : Nat → Nat) (i : Nat) : nu v i (v i) = v := by
  funext k
  unfold nu
  split
  · next e => rw [e]
  · rfl
theorem NuR.slot (hn : NuR v st) {i x : Nat} (h : 35 < i ∧ i < 93) : NuR (nu v i x) st := by
  obtain ⟨a1, a2, a3, a4, a5, a6, a7, a8, a9, a10⟩ := hn
  exact ⟨fun t ht => ⟨(nu_n (by omega)).trans (a1 t ht).1, (nu_n (by omega)).trans (a1 t ht).2⟩, fun i j hi hj => (nu_n (by omega)).trans (a2 i j hi hj), (nu_n (by omega)).trans a3, (nu_n (by omega)).trans a4, (nu_n (by omega)).trans a5, (nu_n (by omega)).trans a6, (nu_n (by omega)).trans a7, (nu_n (by omega)).trans a8, (nu_n (by omega)).trans a9, (nu_n (by omega)).trans a10⟩
theorem m_uses (hR : SR N v E st) (hN : N < 2 ^ 28) (h1 : NB st.1) (h2 : PB st.2.2.1) {i : Nat} {e : ME} (hi : E[i]? = some e) (hcl : ∀ e ∈ E, e.2.2 < v 92) (o : Nat → Int32) (m : Int32) :
    ∃ v' o1, f_X6_uses (nI e.2.1) (SI v) o m = some (lN (costN (szN st.1 st.2.2.1) e.1.2.1), SI v', o1, nI (pc e.1.1)) ∧ SR (N + 1) v' (E.eraseIdx i ++ [((e.1.1, e.1.2.1, e.1.2.2.1, e.1.2.2.2.1 + 1, e.1.2.2.2.2), e.2.1, v 92)]) (st.1, st.2.1, st.2.2.1, st.2.2.2.1, st.2.2.2.2.1, nu st.2.2.2.2.2 0 (st.2.2.2.2.2 0 + 1)) := by
  obtain ⟨hE, hn, hv⟩ := hR
  have he := List.mem_of_getElem? hi
  obtain ⟨a1, a2, ⟨p1, p2, p3, p4, p5⟩, a4, a5⟩ := hE.1 e he
  have hl := perms_len _ a2.2.1 _ a2.2.2.1
  have hl5 := pc_le _ a2.2.1
  have b93 := hv 93 (by decide)
  have b92 := hv 92 (by decide)
  have b11 := hv (36 + 14 * e.2.1 + 11) (by omega)
  let v' := nu (nu (nu v 93 (v 93 + 1)) (36 + 14 * e.2.1 + 11) (v (36 + 14 * e.2.1 + 11) + 1)) (36 + 14 * e.2.1 + 12) (v 92)
  have o' : ∀ j, j ≠ 93 → j ≠ 36 + 14 * e.2.1 + 11 → j ≠ 36 + 14 * e.2.1 + 12 → v' j = v j := fun j x y z => (nu_n z).trans ((nu_n y).trans (nu_n x))
  have hSl : SlR v' (E.eraseIdx i ++ [((e.1.1, e.1.2.1, e.1.2.2.1, e.1.2.2.2.1 + 1, e.1.2.2.2.2), e.2.1, v 92)]) := by
    rw [← filt_erase E i e hE.2.1 hi]
    refine hE.put a1 (fun j x y z => o' j (by omega) (by omega) (by omega)) ⟨a2.1, a2.2.1, a2.2.2.1, a2.2.2.2⟩ ⟨(o' _ (by omega) (by omega) (by omega)).trans p1, fun i (hi : i < e.1.2.1.length) => (o' _ (by omega) (by omega) (by omega)).trans (p2 i hi), fun t ht => (o' _ (by omega) (by omega) (by omega)).trans (p3 t ht), ?_, (o' _ (by omega) (by omega) (by omega)).trans p5⟩ nu_s ?_ (fun e' he' _ => hcl e' he')
    · show nu (nu (nu v 93 (v 93 + 1)) (36 + 14 * e.2.1 + 11) (v (36 + 14 * e.2.1 + 11) + 1)) (36 + 14 * e.2.1 + 12) (v 92) (36 + 14 * e.2.1 + 11) = e.1.2.2.2.1 + 1
      rw [nu_n (by omega), nu_s, p4]
    · rw [o' 92 (by omega) (by omega) (by omega)]
      exact Nat.le_refl _
  have hNu : NuR v' (st.1, st.2.1, st.2.2.1, st.2.2.2.1, st.2.2.2.2.1, nu st.2.2.2.2.2 0 (st.2.2.2.2.2 0 + 1)) := by
    have h0 := hn.c (i := 93) (c := 0) (v 93 + 1) (Or.inl ⟨rfl, rfl⟩)
    rw [show v 93 + 1 = st.2.2.2.2.2 0 + 1 by rw [hn.2.2.2.1]] at h0
    have h3 := (h0.slot (i := 36 + 14 * e.2.1 + 11) (x := v (36 + 14 * e.2.1 + 11) + 1) (by omega)).slot (i := 36 + 14 * e.2.1 + 12) (x := v 92) (by omega)
    rw [← hn.2.2.2.1] at h3 ⊢
    exact h3
  have hVB : VB (N + 1) v' := ((hv.up (i := 93) (x := v 93 + 1) (M := N + 1) (by omega) (by omega)).up (i := 36 + 14 * e.2.1 + 11) (x := v (36 + 14 * e.2.1 + 11) + 1) (by omega) (Nat.le_refl _)).up (i := 36 + 14 * e.2.1 + 12) (x := v 92) (by omega) (Nat.le_refl _)
  have hm : ((e.1.1, e.1.2.1, e.1.2.2.1, e.1.2.2.2.1 + 1, e.1.2.2.2.2), e.2.1, v 92) ∈ E.eraseIdx i ++ [((e.1.1, e.1.2.1, e.1.2.2.1, e.1.2.2.2.1 + 1, e.1.2.2.2.2), e.2.1, v 92)] := List.mem_append_right _ (List.mem_singleton.mpr rfl)
  obtain ⟨o1, g⟩ := m_costAt (hNu.ms0 h1 h2) hSl hm o m
  refine ⟨v', o1, ?_, hSl, hNu, hVB⟩
  unfold f_X6_uses
  have c1 : nu v 93 (v 93 + 1) (36 + 14 * e.2.1 + 11) = v (36 + 14 * e.2.1 + 11) := nu_n (by omega)
  have c2 : nu (nu v 93 (v 93 + 1)) (36 + 14 * e.2.1 + 11) (v (36 + 14 * e.2.1 + 11) + 1) 92 = v 92 := (nu_n (by omega)).trans (nu_n (by omega))
  simp (disch := omega) only [m_at, bnd_s, iv, nI_add, grd_inb, nI_clamp, SI_at, SI_up, c1, c2]
  rw [g, bnd_s]
theorem m_free (hE : SlR v E) (h : E.length < 4) : ∃ k, k < 4 ∧ v (36 + 14 * k) = 0 := by
  have e := hE.f0
  by_cases q : ∃ k, k < 4 ∧ v (36 + 14 * k) = 0
  · exact q
  · have one : ∀ k, k < 4 → f0 v k = 1 := fun k hk => if_neg (fun z => q ⟨k, hk, z⟩)
    have : sumF (f0 v) 0 4 = 4 := by
      show f0 v 0 + (f0 v 1 + (f0 v 2 + (f0 v 3 + 0))) = 4
      rw [one 0 (by decide), one 1 (by decide), one 2 (by decide), one 3 (by decide)]
    omega
theorem m_full (hE : SlR v E) (h : E.length = 4) : ∀ k, k < 4 → v (36 + 14 * k) ≠ 0 := fun k hk hz => by
  have e := hE.f0
  have le : ∀ k, f0 v k ≤ 1 := fun k => by unfold f0; split <;> omega
  have z : f0 v k = 0 := if_pos hz
  have e2 : f0 v 0 + (f0 v 1 + (f0 v 2 + (f0 v 3 + 0))) = 4 := by rw [← h, ← e]; rfl
  have l0 := le 0
  have l1 := le 1
  have l2 := le 2
  have l3 := le 3
  have h4 : k = 0 ∨ k = 1 ∨ k = 2 ∨ k = 3 := by omega
  rcases h4 with h4 | h4 | h4 | h4 <;> rw [h4] at z <;> omega
/-- the oldest loose of the slots below k -/
def OlR (E : List ME) (k : Nat) (x : Option ME) : Prop := match x with
  | none => ∀ e ∈ E, e.2.1 < k → e.1.2.2.2.2 ≠ 0
  | some o => o ∈ E ∧ o.1.2.2.2.2 = 0 ∧ o.2.1 < k ∧ ∀ e ∈ E, e.2.1 < k → e.1.2.2.2.2 = 0 → o.2.2 ≤ e.2.2
def olI (x : Option ME) : Int32 := match x with
  | none => -4
  | some o => nI o.2.1
theorem m_slot17 (hE : SlR v E) (hv : VB N v) (hN : N < 2 ^ 28) : ∀ (n k : Nat) (x : Option ME), k ≤ 4 → 4 < n + k → OlR E k x →
    ∃ y, OlR E 4 y ∧ f_X6_slotFor_L17 n (olI x) (nI k) (SI v) = some (olI y, SI (match y with | none => v | some _ => nu v 96 (v 96 + 1)))
  | 0, k, x, h1, h2, _ => by omega
  | n + 1, k, x, h1, h2, hx => by
    show ∃ y, _ ∧ f_X6_slotFor_L17b _ _ _ _ = _
    unfold f_X6_slotFor_L17b
    have b96 := hv 96 (by decide)
    by_cases h4 : 4 ≤ k
    · have e0 : k = 4 := by omega
      subst e0
      refine ⟨x, hx, ?_⟩
      rw [if_pos (show (4 : Int32) ≤ nI 4 from by decide +kernel)]
      simp (disch := omega) only [iv, grd_inb, nI_clamp, SI_at, nI_add]
      cases x with
      | none =>
        show (if nI 0 ≤ (-4 : Int32) then _ else some ((-4 : Int32), upd (SI v) 96 (nI (v 96 + 0)))) = _
        rw [if_neg (by decide +kernel), SI_up, Nat.add_zero, nu_id]
        rfl
      | some y =>
        have := (hE.1 y hx.1).1
        show (if nI 0 ≤ nI y.2.1 then some (nI y.2.1, upd (SI v) 96 (nI (v 96 + 1))) else _) = _
        rw [if_pos (nI_le (Nat.zero_le _) (by omega)), SI_up]
        rfl
    · have hk4 : k < 4 := by omega
      rw [if_neg (show ¬ (4 : Int32) ≤ nI k from nI_ge (b := 4) hk4 (by decide)), show nI k + (1 : Int32) = nI (k + 1) from nI_1 k]
      have ih := fun x => m_slot17 hE hv hN n (k + 1) x (by omega) (by omega)
      rcases slot_or E k with ⟨e, he, ek⟩ | hno
      · subst ek
        rw [hE.loose he hv (by omega), bnd_s]
        obtain ⟨a1, a2, a3, a4, a5⟩ := hE.1 e he
        have split_ : ∀ e' ∈ E, e'.2.1 < e.2.1 + 1 → e' = e ∨ e'.2.1 < e.2.1 := fun e' he' hlt => by
          by_cases q : e'.2.1 = e.2.1
          · exact Or.inl (hE.uniq he' he q)
          · exact Or.inr (by omega)
        by_cases q : e.1.2.2.2.2 = 0
        · rw [if_pos q, if_neg (by decide +kernel)]
          cases x with
          | none =>
            rw [if_pos (show olI none < (0 : Int32) from by decide)]
            refine ih (some e) ⟨he, q, by omega, fun e' he' hlt hp => ?_⟩
            rcases split_ e' he' hlt with z | z
            · rw [z]; exact Nat.le_refl _
            · exact absurd hp (hx e' he' z)
          | some y =>
            obtain ⟨y1, y2, y3, y4⟩ := hx
            have hy4 := (hE.1 y y1).1
            have hyl := (hE.1 y y1).2.2.2.1
            have b1 := hv (36 + 14 * e.2.1 + 12) (by omega)
            have b2 := hv (36 + 14 * y.2.1 + 12) (by omega)
            rw [show olI (some y) = nI y.2.1 from rfl, if_neg (nI_pos (by omega))]
            simp (disch := omega) only [m_at, bnd_s, iv, nI_add, grd_inb, nI_clamp, SI_at, nI_ler]
            by_cases q2 : v (36 + 14 * y.2.1 + 12) ≤ v (36 + 14 * e.2.1 + 12)
            · rw [if_pos q2]
              refine ih (some y) ⟨y1, y2, by omega, fun e' he' hlt hp => ?_⟩
              rcases split_ e' he' hlt with z | z
              · rw [z]; omega
              · exact y4 e' he' z hp
            · rw [if_neg q2]
              refine ih (some e) ⟨he, q, by omega, fun e' he' hlt hp => ?_⟩
              rcases split_ e' he' hlt with z | z
              · rw [z]; exact Nat.le_refl _
              · have := y4 e' he' z hp
                omega
        · rw [if_neg q, if_pos (show nI 0 = (0 : Int32) from rfl)]
          refine ih x ?_
          cases x with
          | none =>
            intro e' he' hlt
            rcases split_ e' he' hlt with z | z
            · rw [z]; exact q
            · exact hx e' he' z
          | some y =>
            obtain ⟨y1, y2, y3, y4⟩ := hx
            refine ⟨y1, y2, by omega, fun e' he' hlt hp => ?_⟩
            rcases split_ e' he' hlt with z | z
            · rw [z] at hp; exact absurd hp q
            · exact y4 e' he' z hp
      · rw [hE.loose0 hk4 hno hv (by omega), bnd_s, if_pos (show nI 0 = (0 : Int32) from rfl)]
        refine ih x ?_
        cases x with
        | none =>
          intro e' he' hlt
          exact hx e' he' (by have := hno e' he'; omega)
        | some y =>
          obtain ⟨y1, y2, y3, y4⟩ := hx
          exact ⟨y1, y2, by omega, fun e' he' hlt hp => y4 e' he' (by have := hno e' he'; omega) hp⟩
theorem fstL_ol : ∀ (l : List ME) (o : ME), l.Pairwise (fun a b => a.2.1 ≠ b.2.1 ∧ a.2.2 < b.2.2) → o ∈ l → o.1.2.2.2.2 = 0 → (∀ e ∈ l, e.1.2.2.2.2 = 0 → o.2.2 ≤ e.2.2) → l[fstL (l.map Prod.fst)]? = some o
  | [], o, _, h, _, _ => by cases h
  | x :: l, o, hp, h, h0, hm => by
    obtain ⟨p1, p2⟩ := List.pairwise_cons.mp hp
    rw [List.map_cons]
    unfold fstL
    by_cases q : x.1.2.2.2.2 = 0
    · rw [if_pos q]
      have h1 := hm x List.mem_cons_self q
      rcases List.mem_cons.mp h with h | h
      · rw [h]; rfl
      · have := (p1 o h).2; omega
    · rw [if_neg q]
      rcases List.mem_cons.mp h with h | h
      · rw [h] at h0; exact absurd h0 q
      · exact fstL_ol l o p2 h h0 (fun e he => hm e (List.mem_cons_of_mem _ he))
end M4
