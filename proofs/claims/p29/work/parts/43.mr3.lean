/-! the model's sums over slots; costs of kept plans -/
theorem sumF_le {f : Nat → Nat} {c : Nat} : ∀ (d k : Nat), (∀ i, k ≤ i → i < k + d → f i ≤ c) → sumF f k d ≤ c * d
  | 0, k, _ => Nat.zero_le _
  | d + 1, k, h => by
    have := sumF_le d (k + 1) (fun i a b => h i (by omega) (by omega))
    have := h k (Nat.le_refl _) (by omega)
    show f k + sumF f (k + 1) d ≤ c * (d + 1)
    rw [Nat.mul_succ]
    omega
section M3
variable {v : Nat → Nat} {E : List ME} {st : DS} {N : Nat}
theorem SlR.sh32 (hE : SlR v E) {k : Nat} (hk : k < 4) : v (36 + 14 * k) < 32 := by
  rcases slot_or E k with ⟨e, he, ek⟩ | hno
  · obtain ⟨-, a2, a3, -⟩ := hE.1 e he
    rw [← ek, a3.1]
    exact a2.2.1
  · rw [show v (36 + 14 * k) = 0 from hE.2.2 k hk hno 0 (by decide)]
    decide
def f0 (v : Nat → Nat) (k : Nat) : Nat := if v (36 + 14 * k) = 0 then 0 else 1
theorem m_plansL (hv : VB N v) (hN : N < 2 ^ 28) : ∀ (d n k x : Nat), k + d = 4 → d < n → f_X6_plans_L4 (SI v) n (nI x) (nI k) = some (nI (x + sumF (f0 v) k d))
  | d, 0, k, x, _, h => absurd h (Nat.not_lt_zero _)
  | 0, n + 1, k, x, h1, _ => by
    show f_X6_plans_L4b _ _ _ _ = _
    unfold f_X6_plans_L4b
    rw [if_pos (show (4 : Int32) ≤ nI k from nI_le (a := 4) (by omega) (by omega))]
    rfl
  | d + 1, n + 1, k, x, h1, h2 => by
    show f_X6_plans_L4b _ _ _ _ = _
    unfold f_X6_plans_L4b
    have hb := hv (36 + 14 * k) (by omega)
    rw [if_neg (show ¬ (4 : Int32) ≤ nI k from nI_ge (b := 4) (by omega) (by decide))]
    simp (disch := omega) only [m_at, bnd_s, iv, nI_add, grd_inb, nI_clamp, SI_at, nI_ler, Nat.le_zero]
    have ih := fun x => m_plansL hv hN d n (k + 1) x (by omega) (by omega)
    show _ = some (nI (x + (f0 v k + sumF (f0 v) (k + 1) d)))
    unfold f0
    split
    · rw [ih (x + 0)]; rw [Nat.zero_add]; rfl
    · rw [ih (x + 1), Nat.add_assoc]; rfl
theorem SlR.f0 (hE : SlR v E) : sumF (f0 v) 0 4 = E.length := by
  have h := slotSum (g := fun _ => 1) E (_root_.id (fun k => if v (36 + 14 * k) = 0 then 0 else 1)) hE.2.1 (fun e he => ⟨(hE.1 e he).1, by
    obtain ⟨-, a2, a3, -⟩ := hE.1 e he
    exact if_neg (by rw [a3.1]; have := a2.1; omega)⟩) (fun k hk hno => if_pos (hE.2.2 k hk hno 0 (by decide)))
  have e : sumL (fun _ : ME => 1) E = E.length := by
    unfold sumL
    clear h hE
    induction E with
    | nil => rfl
    | cons x l ih => rw [List.map_cons, List.sum_cons, ih, List.length_cons]; omega
  rw [← e, ← h]
  rfl
theorem m_plans (hE : SlR v E) (hv : VB N v) (hN : N < 2 ^ 28) : f_X6_plans (SI v) = some (nI E.length) := by
  have h := m_plansL hv hN 4 1024 0 0 (by decide) (by decide)
  rw [Nat.zero_add, hE.f0] at h
  exact h
def f13 (v : Nat → Nat) (k : Nat) : Nat := v (36 + 14 * k + 13)
theorem SlR.pin2 (hE : SlR v E) {k : Nat} (hk : k < 4) : v (36 + 14 * k + 13) ≤ 1 := by
  rcases slot_or E k with ⟨e, he, ek⟩ | hno
  · obtain ⟨-, a2, a3, -⟩ := hE.1 e he
    rw [← ek, a3.2.2.2.2]
    have := a2.2.2.2.2
    omega
  · rw [hE.2.2 k hk hno 13 (by decide)]
    decide
theorem m_pinnedL (hE : SlR v E) : ∀ (d n k x : Nat), k + d = 4 → d < n → x < 100 - d → f_X6_pinned_L4 (SI v) n (nI x) (nI k) = some (nI (x + sumF (f13 v) k d))
  | d, 0, k, x, _, h, _ => absurd h (Nat.not_lt_zero _)
  | 0, n + 1, k, x, h1, _, _ => by
    show f_X6_pinned_L4b _ _ _ _ = _
    unfold f_X6_pinned_L4b
    rw [if_pos (show (4 : Int32) ≤ nI k from nI_le (a := 4) (by omega) (by omega))]
    rfl
  | d + 1, n + 1, k, x, h1, h2, h3 => by
    show f_X6_pinned_L4b _ _ _ _ = _
    unfold f_X6_pinned_L4b
    have hb := hE.pin2 (k := k) (by omega)
    rw [if_neg (show ¬ (4 : Int32) ≤ nI k from nI_ge (b := 4) (by omega) (by decide))]
    simp (disch := omega) only [m_at, bnd_s, iv, nI_add, grd_inb, nI_clamp, SI_at]
    rw [m_pinnedL hE d n (k + 1) _ (by omega) (by omega) (by omega), Nat.add_assoc]
    rfl
theorem m_pinned (hE : SlR v E) : f_X6_pinned (SI v) = some (nI (sumL (fun e : ME => e.1.2.2.2.2) E)) := by
  have h := m_pinnedL hE 4 1024 0 0 (by decide) (by decide) (by decide)
  rw [Nat.zero_add, slotSum (g := fun e : ME => e.1.2.2.2.2) E (f13 v) hE.2.1 (fun e he => ⟨(hE.1 e he).1, (hE.1 e he).2.2.1.2.2.2.2⟩) (fun k hk hno => hE.2.2 k hk hno 13 (by decide))] at h
  exact h
def fwi (v : Nat → Nat) (t k : Nat) : Nat := bi (v (36 + 14 * k)) t
theorem m_withL (hE : SlR v E) {t : Nat} (ht : t < 5) : ∀ (d n k x : Nat), k + d = 4 → d < n → f_X6_plansWith_L4 (nI t) (SI v) n (nI x) (nI k) = some (nI (x + sumF (fwi v t) k d))
  | d, 0, k, x, _, h => absurd h (Nat.not_lt_zero _)
  | 0, n + 1, k, x, h1, _ => by
    show f_X6_plansWith_L4b _ _ _ _ _ = _
    unfold f_X6_plansWith_L4b
    rw [if_pos (show (4 : Int32) ≤ nI k from nI_le (a := 4) (by omega) (by omega))]
    rfl
  | d + 1, n + 1, k, x, h1, h2 => by
    show f_X6_plansWith_L4b _ _ _ _ _ = _
    unfold f_X6_plansWith_L4b
    have hb := hE.sh32 (k := k) (by omega)
    have hbi := bi_int _ hb t ht
    rw [if_neg (show ¬ (4 : Int32) ≤ nI k from nI_ge (b := 4) (by omega) (by decide))]
    simp (disch := omega) only [m_at, bnd_s, iv, nI_add, grd_inb, nI_clamp, SI_at, hbi]
    rw [m_withL hE ht d n (k + 1) _ (by omega) (by omega), Nat.add_assoc]
    rfl
theorem m_with (hE : SlR v E) {t : Nat} (ht : t < 5) : f_X6_plansWith (nI t) (SI v) = some (nI (sumL (fun e : ME => bi e.1.1 t) E)) := by
  have h := m_withL hE ht 4 1024 0 0 (by decide) (by decide)
  rw [Nat.zero_add, slotSum (g := fun e : ME => bi e.1.1 t) E (fwi v t) hE.2.1 (fun e he => ⟨(hE.1 e he).1, by unfold fwi; rw [(hE.1 e he).2.2.1.1]⟩) (fun k hk hno => by unfold fwi; rw [show v (36 + 14 * k) = 0 from hE.2.2 k hk hno 0 (by decide)]; unfold bi; rw [Nat.zero_div])] at h
  exact h
def flt (v : Nat → Nat) (s k : Nat) : Nat := if v (36 + 14 * k) = 0 then 0 else if v (36 + 14 * s + 12) ≤ v (36 + 14 * k + 12) then 0 else 1
theorem m_orderL (hv : VB N v) (hN : N < 2 ^ 28) {s : Nat} (hs : s < 4) : ∀ (d n k x : Nat), k + d = 4 → d < n → f_X6_orderOf_L4 (nI s) (SI v) n (nI x) (nI k) = some (nI (x + sumF (flt v s) k d))
  | d, 0, k, x, _, h => absurd h (Nat.not_lt_zero _)
  | 0, n + 1, k, x, h1, _ => by
    show f_X6_orderOf_L4b _ _ _ _ _ = _
    unfold f_X6_orderOf_L4b
    rw [if_pos (show (4 : Int32) ≤ nI k from nI_le (a := 4) (by omega) (by omega))]
    rfl
  | d + 1, n + 1, k, x, h1, h2 => by
    show f_X6_orderOf_L4b _ _ _ _ _ = _
    unfold f_X6_orderOf_L4b
    have hb := hv (36 + 14 * k) (by omega)
    have hb2 := hv (36 + 14 * k + 12) (by omega)
    have hb3 := hv (36 + 14 * s + 12) (by omega)
    rw [if_neg (show ¬ (4 : Int32) ≤ nI k from nI_ge (b := 4) (by omega) (by decide))]
    simp (disch := omega) only [m_at, bnd_s, iv, nI_add, grd_inb, nI_clamp, SI_at, nI_ler, Nat.le_zero]
    have ih := fun x => m_orderL hv hN hs d n (k + 1) x (by omega) (by omega)
    show _ = some (nI (x + (flt v s k + sumF (flt v s) (k + 1) d)))
    unfold flt
    split
    · rw [ih (x + 0)]; rw [Nat.zero_add]; rfl
    · split
      · rw [ih (x + 0)]; rw [Nat.zero_add]; rfl
      · rw [ih (x + 1), Nat.add_assoc]; rfl
theorem lateIdx : ∀ (l : List ME) (i : Nat) (e : ME), l.Pairwise (fun a b => a.2.1 ≠ b.2.1 ∧ a.2.2 < b.2.2) → l[i]? = some e → sumL (fun e' : ME => if e.2.2 ≤ e'.2.2 then 0 else 1) l = i
  | [], i, e, _, h => by cases h
  | x :: l, 0, e, hp, h => by
    cases h
    obtain ⟨p1, p2⟩ := List.pairwise_cons.mp hp
    rw [sumL_c, if_pos (Nat.le_refl _), Nat.zero_add]
    clear hp p2
    induction l with
    | nil => rfl
    | cons y l ih =>
      rw [sumL_c, if_pos (Nat.le_of_lt (p1 y List.mem_cons_self).2), Nat.zero_add]
      exact ih (fun a ha => p1 a (List.mem_cons_of_mem _ ha))
  | x :: l, i + 1, e, hp, h => by
    obtain ⟨p1, p2⟩ := List.pairwise_cons.mp hp
    have ih := lateIdx l i e p2 h
    have := (p1 e (List.mem_of_getElem? h)).2
    rw [sumL_c, if_neg (by omega), ih]
    omega
theorem m_order (hE : SlR v E) (hv : VB N v) (hN : N < 2 ^ 28) {i : Nat} {e : ME} (hi : E[i]? = some e) : f_X6_orderOf (nI e.2.1) (SI v) = some (nI i) := by
  have he := List.mem_of_getElem? hi
  have h := m_orderL hv hN (hE.1 e he).1 4 1024 0 0 (by decide) (by decide)
  rw [Nat.zero_add, slotSum (g := fun e' : ME => if e.2.2 ≤ e'.2.2 then 0 else 1) E (flt v e.2.1) hE.2.1 (fun e' he' => ⟨(hE.1 e' he').1, by
    unfold flt
    have h0 := (hE.1 e' he').2.1.1
    rw [(hE.1 e' he').2.2.1.1, if_neg (by omega), (hE.1 e he).2.2.2.1, (hE.1 e' he').2.2.2.1]⟩) (fun k hk hno => by unfold flt; rw [show v (36 + 14 * k) = 0 from hE.2.2 k hk hno 0 (by decide), if_pos rfl]), lateIdx E i e hE.2.1 hi] at h
  exact h
/-- the cost of a kept plan -/
theorem m_cost18 {base : Nat} {w : Nat → Nat} (hsz : MS base (SI v) w) (hE : SlR v E) {e : ME} (he : e ∈ E) : ∀ (n k : Nat) (o : Nat → Int32), k ≤ pc e.1.1 → pc e.1.1 < n + k → (∀ i, i < k → o i = nI (e.1.2.1.getD i 0)) →
    ∃ o1, f_X6_costAt_L18 (nI e.2.1) (nI base) (SI v) n (nI k) o (nI (pc e.1.1)) = some (lN (costN w e.1.2.1), o1, nI (pc e.1.1))
  | 0, k, o, h1, h2, _ => by omega
  | n + 1, k, o, h1, h2, hI => by
    obtain ⟨a1, a2, a3, a4⟩ := hE.1 e he
    have hl := perms_len _ a2.2.1 _ a2.2.2.1
    have hl5 := pc_le _ a2.2.1
    show ∃ o1, f_X6_costAt_L18b _ _ _ _ _ _ _ = _
    unfold f_X6_costAt_L18b
    by_cases q : pc e.1.1 ≤ k
    · rw [if_pos (nI_le q (by omega)), m_cost hsz a2.2.1 a2.2.2.1 (fun i hi => hI i (by omega)), bnd_s]
      exact ⟨_, rfl⟩
    · rw [if_neg (nI_ge (by omega) (by omega))]
      simp (disch := omega) only [m_at, bnd_s, iv, nI_add, grd_inb, nI_clamp, SI_at]
      refine m_cost18 hsz hE he n (k + 1) _ (by omega) (by omega) (fun i hi => ?_)
      by_cases q2 : i = k
      · subst q2
        rw [pk_us, a3.2.1 i (by omega)]
      · rw [pk_un q2]; exact hI i (by omega)
theorem m_costAt {base : Nat} {w : Nat → Nat} (hsz : MS base (SI v) w) (hE : SlR v E) {e : ME} (he : e ∈ E) (o : Nat → Int32) (m : Int32) : ∃ o1, f_X6_costAt (nI e.2.1) (nI base) (SI v) o m = some (lN (costN w e.1.2.1), o1, nI (pc e.1.1)) := by
  obtain ⟨a1, a2, a3, a4⟩ := hE.1 e he
  have hl5 := pc_le _ a2.2.1
  unfold f_X6_costAt
  rw [m_at, bnd_s, grd_inb (by omega) (by decide), nI_clamp (by omega), SI_at, a3.1, m_tablesIn _ a2.2.1, bnd_s]
  exact m_cost18 hsz hE he 1024 0 o (Nat.zero_le _) (by omega) (fun i hi => absurd hi (Nat.not_lt_zero _))
theorem m_over {w : Nat → Nat} (hw : WB w) (hsz : MS 0 (SI v) w) (hE : SlR v E) {e : ME} (he : e ∈ E) (o b : Nat → Int32) (m : Int32) : ∃ o1 b1, f_X6_over (nI e.2.1) (SI v) o b m = some (lN (costN w e.1.2.1 - minC w e.1.1), o1, b1, nI (pc e.1.1)) := by
  obtain ⟨a1, a2, a3, a4⟩ := hE.1 e he
  obtain ⟨o1, g1⟩ := m_costAt hsz hE he o m
  obtain ⟨o2, b2, g2, -⟩ := m_finds hw hsz a2.2.1 (by have := a2.1; omega) o1 b (nI (pc e.1.1))
  unfold f_X6_over
  rw [show (0 : Int32) = nI 0 from rfl, g1, bnd_s, m_at, bnd_s, grd_inb (by omega) (by decide), nI_clamp (by omega), SI_at, a3.1, g2, bnd_s, lN_sub (minC_le a2.2.1 a2.2.2.1)]
  exact ⟨_, _, rfl⟩
def fdr (w : Nat → Nat) (x : PL) : Nat := if minC w x.1 < costN w x.2.1 then 1 else 0
theorem m_dearL {w : Nat → Nat} (hw : WB w) (hsz : MS 0 (SI v) w) (hE : SlR v E) (hv : VB N v) (hN : N < 2 ^ 28) {f : Nat → Nat} (hf : ∀ e ∈ E, f e.2.1 = fdr w e.1) (hf0 : ∀ k, k < 4 → (∀ e ∈ E, e.2.1 ≠ k) → f k = 0) : ∀ (d n k x : Nat) (o b : Nat → Int32) (m : Int32), k + d = 4 → d < n → ∃ o1 b1 m1, f_X6_dearer_L4 (SI v) n (nI x) (nI k) o b m = some (nI (x + sumF f k d), o1, b1, m1)
  | d, 0, k, x, _, _, _, _, h => absurd h (Nat.not_lt_zero _)
  | 0, n + 1, k, x, o, b, m, h1, _ => by
    show ∃ o1 b1 m1, f_X6_dearer_L4b _ _ _ _ _ _ _ = _
    unfold f_X6_dearer_L4b
    rw [if_pos (show (4 : Int32) ≤ nI k from nI_le (a := 4) (by omega) (by omega))]
    exact ⟨_, _, _, rfl⟩
  | d + 1, n + 1, k, x, o, b, m, h1, h2 => by
    show ∃ o1 b1 m1, f_X6_dearer_L4b _ _ _ _ _ _ _ = some (nI (x + (f k + sumF f (k + 1) d)), o1, b1, m1)
    unfold f_X6_dearer_L4b
    have hb := hv (36 + 14 * k) (by omega)
    rw [if_neg (show ¬ (4 : Int32) ≤ nI k from nI_ge (b := 4) (by omega) (by decide))]
    simp (disch := omega) only [m_at, bnd_s, iv, nI_add, grd_inb, nI_clamp, SI_at, nI_ler, Nat.le_zero]
    have ih := fun x o b m => m_dearL hw hsz hE hv hN hf hf0 d n (k + 1) x o b m (by omega) (by omega)
    rcases slot_or E k with ⟨e, he, ek⟩ | hno
    · subst ek
      obtain ⟨a1, a2, a3, a4⟩ := hE.1 e he
      obtain ⟨o1, b1, g⟩ := m_over hw hsz hE he o b m
      rw [if_neg (by rw [a3.1]; have := a2.1; omega), g, bnd_s, hf e he]
      have c1 := costN_bd hw a2.2.1 a2.2.2.1
      have c2 := minC_le (w := w) a2.2.1 a2.2.2.1
      simp (disch := omega) only [lgc_le, lv, lN_ler]
      unfold fdr
      by_cases q : minC w e.1.1 < costN w e.1.2.1
      · rw [if_neg (by omega), if_pos q]
        rw [show x + (1 + sumF f (e.2.1 + 1) d) = x + 1 + sumF f (e.2.1 + 1) d by omega]
        exact ih _ _ _ _
      · rw [if_pos (by omega), if_neg q, Nat.zero_add]
        exact ih _ _ _ _
    · rw [if_pos (show v (36 + 14 * k) = 0 from hE.2.2 k (by omega) hno 0 (by decide)), hf0 k (by omega) hno, Nat.zero_add]
      exact ih _ _ _ _
theorem m_dear {w : Nat → Nat} (hw : WB w) (hsz : MS 0 (SI v) w) (hE : SlR v E) (hv : VB N v) (hN : N < 2 ^ 28) (o b : Nat → Int32) (m : Int32) : ∃ o1 b1 m1, f_X6_dearer (SI v) o b m = some (nI (sumL (fun e : ME => fdr w e.1) E), o1, b1, m1) := by
  -- the slots' numbers by the entries
  let f : Nat → Nat := fun k => sumL (fun e : ME => if e.2.1 = k then fdr w e.1 else 0) E
  have hf : ∀ e ∈ E, f e.2.1 = fdr w e.1 := fun e he => by
    have hp := hE.2.1
    show sumL (fun e' : ME => if e'.2.1 = e.2.1 then fdr w e'.1 else 0) E = _
    clear f
    have key : ∀ (l : List ME), l.Pairwise (fun a b => a.2.1 ≠ b.2.1 ∧ a.2.2 < b.2.2) → (∀ e' ∈ l, e'.2.1 ≠ e.2.1) → sumL (fun e' : ME => if e'.2.1 = e.2.1 then fdr w e'.1 else 0) l = 0 := fun l => by
      induction l with
      | nil => intro _ _; rfl
      | cons y l ih =>
        intro h1 h2
        rw [sumL_c, if_neg (h2 y List.mem_cons_self), ih (List.pairwise_cons.mp h1).2 (fun e' he' => h2 e' (List.mem_cons_of_mem _ he'))]
    have key2 : ∀ (l : List ME), l.Pairwise (fun a b => a.2.1 ≠ b.2.1 ∧ a.2.2 < b.2.2) → e ∈ l → sumL (fun e' : ME => if e'.2.1 = e.2.1 then fdr w e'.1 else 0) l = fdr w e.1 := fun l => by
      induction l with
      | nil => intro _ h; cases h
      | cons y l ih =>
        intro h1 h2
        obtain ⟨p1, p2⟩ := List.pairwise_cons.mp h1
        rcases List.mem_cons.mp h2 with h2 | h2
        · subst h2
          rw [sumL_c, if_pos rfl, key l p2 (fun e' he' => Ne.symm (p1 e' he').1)]
          omega
        · rw [sumL_c, if_neg (p1 e h2).1, ih p2 h2]
          omega
    exact key2 E hp he
  have hf0 : ∀ k, k < 4 → (∀ e ∈ E, e.2.1 ≠ k) → f k = 0 := fun k _ hno => by
    show sumL (fun e' : ME => if e'.2.1 = k then fdr w e'.1 else 0) E = 0
    have : ∀ (l : List ME), (∀ e ∈ l, e.2.1 ≠ k) → sumL (fun e' : ME => if e'.2.1 = k then fdr w e'.1 else 0) l = 0 := fun l => by
      induction l with
      | nil => intro _; rfl
      | cons y l ih => intro h; rw [sumL_c, if_neg (h y List.mem_cons_self), ih (fun e he => h e (List.mem_cons_of_mem _ he))]
    exact this E hno
  obtain ⟨o1, b1, m1, g⟩ := m_dearL hw hsz hE hv hN hf hf0 4 1024 0 0 o b m (by decide) (by decide)
  rw [Nat.zero_add, slotSum (g := fun e : ME => fdr w e.1) E f hE.2.1 (fun e he => ⟨(hE.1 e he).1, hf e he⟩) hf0] at g
  exact ⟨o1, b1, m1, g⟩
end M3
