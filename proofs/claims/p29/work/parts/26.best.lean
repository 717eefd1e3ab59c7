/-! the best order: costs, the first least one, what tells it -/
theorem lgc_ge (x y : Int64) : (nI 0 ≤ lg_cmp x y) = (y ≤ x) := propext (lg_cmp_ge x y)
theorem lgc_le (x y : Int64) : (lg_cmp x y ≤ nI 0) = (x ≤ y) := propext (lg_cmp_le x y)
theorem lgc_lt (x y : Int64) : (lg_cmp x y < nI 0) = (x < y) := propext (lg_cmp_lt x y)
theorem lgc_eq (x y : Int64) : (lg_cmp x y = nI 0) = (x = y) := propext (lg_cmp_eq x y)
theorem lN_ler {a b : Nat} (ha : a < 2 ^ 63) (hb : b < 2 ^ 63) : (lN a ≤ lN b) = (a ≤ b) := propext (pk_lLE ha hb)
theorem lN_ltr {a b : Nat} (ha : a < 2 ^ 63) (hb : b < 2 ^ 63) : (lN a < lN b) = (a < b) := propext (pk_lLT ha hb)
theorem lN_eqr {a b : Nat} (ha : a < 2 ^ 63) (hb : b < 2 ^ 63) : (lN a = lN b) = (a = b) := propext (pk_lEQ ha hb)
def costG (w : Nat → Nat) : Nat → List Nat → Nat
  | _, [] => 0
  | s, t :: p => w (s ||| 2 ^ t) + costG w (s ||| 2 ^ t) p
def costN (w : Nat → Nat) (p : List Nat) : Nat := costG w 0 p
def setG (s : Nat) (p : List Nat) : Nat := p.foldl (fun a t => a ||| 2 ^ t) s
theorem costG_app (w : Nat → Nat) (t : Nat) : ∀ (p : List Nat) (s : Nat), costG w s (p ++ [t]) = costG w s p + w (setG s p ||| 2 ^ t)
  | [], s => by simp [costG, setG]
  | x :: p, s => by
    have := costG_app w t p (s ||| 2 ^ x)
    simp only [List.cons_append, costG, this]
    simp only [setG, List.foldl_cons]
    omega
theorem oct_app (p : List Nat) (t : Nat) : oct (p ++ [t]) = oct p * 8 + t := by
  unfold oct
  rw [List.foldl_append]
  rfl
def minBy (w : Nat → Nat) : List Nat → List (List Nat) → List Nat
  | b, [] => b
  | b, q :: l => if costN w q < costN w b then minBy w q l else minBy w b l
def bestP (w : Nat → Nat) (s : Nat) : List Nat := minBy w ((perms s).headD []) (perms s).tail
/-- p is the best order among those of l -/
def Bst (w : Nat → Nat) (l : List (List Nat)) (p : List Nat) : Prop := p ∈ l ∧ ∀ q ∈ l, costN w p < costN w q ∨ (costN w p = costN w q ∧ oct p ≤ oct q)
theorem minBy_bst (w : Nat → Nat) : ∀ (l : List (List Nat)) (b : List Nat), (b :: l).Pairwise (fun p q => oct p < oct q) → Bst w (b :: l) (minBy w b l)
  | [], b, _ => ⟨List.mem_singleton.mpr rfl, fun q hq => by rw [List.mem_singleton.mp hq]; exact Or.inr ⟨rfl, Nat.le_refl _⟩⟩
  | q :: l, b, hp => by
    have hp2 := List.pairwise_cons.mp hp
    have hp3 := List.pairwise_cons.mp hp2.2
    unfold minBy
    by_cases h : costN w q < costN w b
    · rw [if_pos h]
      obtain ⟨h1, h2⟩ := minBy_bst w l q hp2.2
      refine ⟨List.mem_cons_of_mem _ h1, fun z hz => ?_⟩
      rcases List.mem_cons.mp hz with hz | hz
      · subst hz
        rcases h2 q List.mem_cons_self with h3 | h3
        · exact Or.inl (by omega)
        · exact Or.inl (by omega)
      · exact h2 z hz
    · rw [if_neg h]
      obtain ⟨h1, h2⟩ := minBy_bst w l b (List.pairwise_cons.mpr ⟨fun z hz => hp2.1 z (List.mem_cons_of_mem _ hz), hp3.2⟩)
      refine ⟨?_, fun z hz => ?_⟩
      · rcases List.mem_cons.mp h1 with h1 | h1
        · rw [h1]; exact List.mem_cons_self
        · exact List.mem_cons_of_mem _ (List.mem_cons_of_mem _ h1)
      · rcases List.mem_cons.mp hz with hz | hz
        · rw [hz]; exact h2 b List.mem_cons_self
        · rcases List.mem_cons.mp hz with hz | hz
          · subst hz
            have hbz := hp2.1 z List.mem_cons_self
            rcases h2 b List.mem_cons_self with h3 | h3
            · exact Or.inl (by omega)
            · by_cases h4 : costN w b = costN w z
              · exact Or.inr ⟨by omega, by omega⟩
              · exact Or.inl (by omega)
          · exact h2 z (List.mem_cons_of_mem _ hz)
theorem perms_cons {s : Nat} (hs : s < 32) : perms s = (perms s).headD [] :: (perms s).tail := by
  have h := perms_ne s hs
  generalize perms s = l at h ⊢
  cases l with
  | nil => exact absurd rfl h
  | cons a l => rfl
theorem bestP_bst (w : Nat → Nat) {s : Nat} (hs : s < 32) : Bst w (perms s) (bestP w s) := by
  have h := perms_oct s hs
  rw [perms_cons hs] at h
  have h2 := minBy_bst w _ _ h
  rw [← perms_cons hs] at h2
  exact h2
theorem pair_inj {l : List (List Nat)} (h : l.Pairwise (fun p q => oct p < oct q)) {p q : List Nat} (hp : p ∈ l) (hq : q ∈ l) (ho : oct p = oct q) : p = q := by
  induction l with
  | nil => cases hp
  | cons a l ih =>
    obtain ⟨h1, h2⟩ := List.pairwise_cons.mp h
    rcases List.mem_cons.mp hp with hp | hp
    · rcases List.mem_cons.mp hq with hq | hq
      · rw [hp, hq]
      · have := h1 q hq; rw [hp] at ho; omega
    · rcases List.mem_cons.mp hq with hq | hq
      · have := h1 p hp; rw [hq] at ho; omega
      · exact ih h2 hp hq
theorem bst_eq {w : Nat → Nat} {s : Nat} (hs : s < 32) {p : List Nat} (h : Bst w (perms s) p) : p = bestP w s := by
  obtain ⟨h1, h2⟩ := h
  obtain ⟨g1, g2⟩ := bestP_bst w hs
  refine pair_inj (perms_oct s hs) h1 g1 ?_
  rcases h2 _ g1 with a | ⟨a, b⟩
  · rcases g2 _ h1 with c | ⟨c, d⟩ <;> omega
  · rcases g2 _ h1 with c | ⟨c, d⟩ <;> omega
def minC (w : Nat → Nat) (s : Nat) : Nat := costN w (bestP w s)
theorem minC_le {w : Nat → Nat} {s : Nat} (hs : s < 32) {q : List Nat} (hq : q ∈ perms s) : minC w s ≤ costN w q := by
  rcases (bestP_bst w hs).2 q hq with h | h
  · exact Nat.le_of_lt h
  · exact Nat.le_of_eq h.1
theorem minC_eq {w : Nat → Nat} {s m : Nat} (hs : s < 32) (h1 : ∃ p ∈ perms s, costN w p = m) (h2 : ∀ q ∈ perms s, m ≤ costN w q) : m = minC w s := by
  obtain ⟨p, hp, hc⟩ := h1
  have a := minC_le (w := w) hs hp
  have b := h2 _ (bestP_bst w hs).1
  unfold minC at a ⊢
  omega
theorem sub_lt32 {s : Nat} (x : Nat) (h : s < 32) : s - x < 32 := Nat.lt_of_le_of_lt (Nat.sub_le _ _) h
theorem perms_last {s : Nat} (hs : s < 32) (h0 : s ≠ 0) {q : List Nat} (hq : q ∈ perms s) : ∃ t p, t < 5 ∧ bi s t = 1 ∧ p ∈ perms (s - 2 ^ t) ∧ q = p ++ [t] := by
  have h := perms_B s hs q hq
  unfold permsB at h
  rw [if_neg h0] at h
  obtain ⟨t, ht, h2⟩ := List.mem_flatMap.mp h
  have ht5 := List.mem_range.mp ht
  by_cases hb : bi s t = 1
  · rw [if_pos hb] at h2
    obtain ⟨p, hp, e⟩ := List.mem_map.mp h2
    exact ⟨t, p, ht5, hb, permsB_sub s hs t ht5 hb p hp, e.symm⟩
  · rw [if_neg hb] at h2
    cases h2
theorem perms_first {s : Nat} (hs : s < 32) (h0 : s ≠ 0) {q : List Nat} : q ∈ perms s ↔ ∃ t p, t < 5 ∧ bi s t = 1 ∧ p ∈ perms (s - 2 ^ t) ∧ q = t :: p := by
  have e : perms s = (List.range 5).flatMap fun t => if bi s t = 1 then (permsF 4 (s - 2 ^ t)).map (fun p => t :: p) else [] := by
    show (if s = 0 then [[]] else (List.range 5).flatMap fun t => if bi s t = 1 then (permsF 4 (s - 2 ^ t)).map (fun p => t :: p) else []) = _
    rw [if_neg h0]
  rw [e]
  constructor
  · intro h
    obtain ⟨t, ht, h2⟩ := List.mem_flatMap.mp h
    have ht5 := List.mem_range.mp ht
    by_cases hb : bi s t = 1
    · rw [if_pos hb] at h2
      obtain ⟨p, hp, e⟩ := List.mem_map.mp h2
      exact ⟨t, p, ht5, hb, permsF_sub s hs t ht5 hb ▸ hp, e.symm⟩
    · rw [if_neg hb] at h2
      cases h2
  · rintro ⟨t, p, ht5, hb, hp, e⟩
    refine List.mem_flatMap.mpr ⟨t, List.mem_range.mpr ht5, ?_⟩
    rw [if_pos hb]
    exact List.mem_map.mpr ⟨p, (permsF_sub s hs t ht5 hb).symm ▸ hp, e.symm⟩
theorem costN_last {w : Nat → Nat} {s t : Nat} (hs : s < 32) (ht : t < 5) (hb : bi s t = 1) {p : List Nat} (hp : p ∈ perms (s - 2 ^ t)) : costN w (p ++ [t]) = costN w p + w s := by
  unfold costN
  rw [costG_app]
  have h1 : setG 0 p = s - 2 ^ t := perms_set (s - 2 ^ t) (sub_lt32 _ hs) p hp
  rw [h1, bi_or s hs t ht hb]
/-- the best order of a set out of those of its parts -/
theorem bestP_dp {w : Nat → Nat} {s c o : Nat} (hs : s < 32) (h0 : s ≠ 0) (h1 : ∃ t, t < 5 ∧ bi s t = 1 ∧ c = minC w (s - 2 ^ t) ∧ o = oct (bestP w (s - 2 ^ t)) * 8 + t)
    (h2 : ∀ t, t < 5 → bi s t = 1 → c < minC w (s - 2 ^ t) ∨ (c = minC w (s - 2 ^ t) ∧ o ≤ oct (bestP w (s - 2 ^ t)) * 8 + t)) : c + w s = minC w s ∧ o = oct (bestP w s) := by
  obtain ⟨t, ht, hb, hc, ho⟩ := h1
  have hst : s - 2 ^ t < 32 := sub_lt32 _ hs
  have hp := (bestP_bst w hst).1
  have hcl := costN_last (w := w) hs ht hb hp
  have hB : Bst w (perms s) (bestP w (s - 2 ^ t) ++ [t]) := by
    refine ⟨permsB_F s hs t ht hb _ hp, fun q hq => ?_⟩
    obtain ⟨u, p, hu, hbu, hpu, e⟩ := perms_last hs h0 hq
    subst e
    have hsu : s - 2 ^ u < 32 := sub_lt32 _ hs
    rw [hcl, costN_last hs hu hbu hpu, oct_app, oct_app, ← ho]
    have h3 := h2 u hu hbu
    have h4 := (bestP_bst w hsu).2 p hpu
    unfold minC at h3 hc
    rcases h3 with h3 | ⟨h3, h5⟩ <;> rcases h4 with h4 | ⟨h4, h6⟩
    · exact Or.inl (by omega)
    · exact Or.inl (by omega)
    · exact Or.inl (by omega)
    · exact Or.inr ⟨by omega, by omega⟩
  have e := bst_eq hs hB
  unfold minC
  rw [← e, hcl, oct_app, ho]
  unfold minC at hc
  exact ⟨by omega, rfl⟩
theorem minC_dp {w : Nat → Nat} {s c : Nat} (hs : s < 32) (h0 : s ≠ 0) (h1 : ∃ t, t < 5 ∧ bi s t = 1 ∧ c = minC w (s - 2 ^ t)) (h2 : ∀ t, t < 5 → bi s t = 1 → c ≤ minC w (s - 2 ^ t)) : c + w s = minC w s := by
  obtain ⟨t, ht, hb, hc⟩ := h1
  have hst : s - 2 ^ t < 32 := sub_lt32 _ hs
  have hp := (bestP_bst w hst).1
  refine minC_eq hs ⟨bestP w (s - 2 ^ t) ++ [t], permsB_F s hs t ht hb _ hp, ?_⟩ (fun q hq => ?_)
  · rw [costN_last hs ht hb hp, hc]; rfl
  · obtain ⟨u, p, hu, hbu, hpu, e⟩ := perms_last hs h0 hq
    subst e
    rw [costN_last hs hu hbu hpu]
    have a := h2 u hu hbu
    have b := minC_le (w := w) (s := s - 2 ^ u) (sub_lt32 _ hs) hpu
    omega
theorem minC_0 (w : Nat → Nat) : minC w 0 = 0 := rfl
theorem bestP_0 (w : Nat → Nat) : bestP w 0 = [] := rfl
/-- w stays below 2 to the 46th, and above 0 -/
def WB (w : Nat → Nat) : Prop := ∀ s, s < 32 → 1 ≤ w s ∧ w s < 2 ^ 46
theorem costG_bd {w : Nat → Nat} (hw : WB w) : ∀ (p : List Nat) (s : Nat), s < 32 → (∀ t ∈ p, t < 5) → costG w s p ≤ p.length * 2 ^ 46
  | [], s, _, _ => Nat.zero_le _
  | t :: p, s, hs, ht => by
    have h1 := or_lt32 s hs _ (pow_lt32 t (ht t List.mem_cons_self))
    have h2 := costG_bd hw p _ h1 (fun x hx => ht x (List.mem_cons_of_mem _ hx))
    have h3 := (hw _ h1).2
    unfold costG
    rw [List.length_cons]
    omega
theorem costN_bd {w : Nat → Nat} (hw : WB w) {s : Nat} (hs : s < 32) {p : List Nat} (hp : p ∈ perms s) : costN w p ≤ 5 * 2 ^ 46 := by
  have h1 := costG_bd hw p 0 (by decide) (perms_tab s hs p hp)
  have h2 := perms_len s hs p hp
  have h3 := pc_le s hs
  unfold costN
  have : p.length ≤ 5 := by omega
  exact Nat.le_trans h1 (Nat.mul_le_mul_right _ this)
theorem minC_bd {w : Nat → Nat} (hw : WB w) {s : Nat} (hs : s < 32) : minC w s ≤ 5 * 2 ^ 46 := costN_bd hw hs (bestP_bst w hs).1
