/-! fitness -/
section FIT
variable {ct : Nat → ClassId} {a0 : Nat} {N : Nat} {v : Nat → Nat} {E : List ME} {st : DS}
theorem slotF (g : ME → Nat) (hE : SlR v E) : ∃ f : Nat → Nat, (∀ e ∈ E, f e.2.1 = g e) ∧ (∀ k, k < 4 → (∀ e ∈ E, e.2.1 ≠ k) → f k = 0) ∧ sumF f 0 4 = sumL g E := by
  have key : ∀ (l : List ME), (∀ e ∈ l, e.2.1 ≠ 0 ∨ True) → ∃ f : Nat → Nat, l.Pairwise (fun a b => a.2.1 ≠ b.2.1 ∧ a.2.2 < b.2.2) → (∀ e ∈ l, f e.2.1 = g e) ∧ (∀ k, (∀ e ∈ l, e.2.1 ≠ k) → f k = 0) := fun l => by
    induction l with
    | nil => exact fun _ => ⟨fun _ => 0, fun _ => ⟨(fun e he => by cases he), fun k _ => rfl⟩⟩
    | cons x l ih =>
      intro _
      obtain ⟨f, hf⟩ := ih (fun e _ => Or.inr trivial)
      refine ⟨fun k => if k = x.2.1 then g x else f k, fun hp => ?_⟩
      obtain ⟨p1, p2⟩ := List.pairwise_cons.mp hp
      obtain ⟨h1, h2⟩ := hf p2
      refine ⟨fun e he => ?_, fun k hk => ?_⟩
      · rcases List.mem_cons.mp he with he | he
        · subst he; exact if_pos rfl
        · exact (if_neg (fun z => (p1 e he).1 z.symm)).trans (h1 e he)
      · exact (if_neg (fun z => hk x List.mem_cons_self z.symm)).trans (h2 k (fun e he => hk e (List.mem_cons_of_mem _ he)))
  obtain ⟨f, hf⟩ := key E (fun _ _ => Or.inr trivial)
  obtain ⟨h1, h2⟩ := hf hE.2.1
  exact ⟨f, h1, fun k _ hk => h2 k hk, slotSum E f hE.2.1 (fun e he => ⟨(hE.1 e he).1, h1 e he⟩) (fun k _ hk => h2 k hk)⟩
def drR (x y : Nat) : DR := if y = 0 then none else some (FP.l2d (lN x), FP.l2d (lN y))
theorem m_fitL {w : Nat → Nat} (hw : WB w) (hsz : MS 0 (SI v) w) (hE : SlR v E) (hv : VB N v) (hN : N < 2 ^ 28) {fm fc : Nat → Nat} (hm : ∀ e ∈ E, fm e.2.1 = minC w e.1.1) (hm0 : ∀ k, k < 4 → (∀ e ∈ E, e.2.1 ≠ k) → fm k = 0) (hc : ∀ e ∈ E, fc e.2.1 = costN w e.1.2.1) (hc0 : ∀ k, k < 4 → (∀ e ∈ E, e.2.1 ≠ k) → fc k = 0) : ∀ (d n k x y : Nat) (o b : Nat → Int32) (m : Int32), k + d = 4 → d < n → y + d * 351843720888320 < 1152921504606846976 → ∃ o1 b1 m1, f_X6_fitness_L7 (SI v) n (lN x) (lN y) (nI k) o b m = some (drR (x + sumF fm k d) (y + sumF fc k d), o1, b1, m1)
  | d, 0, k, x, y, _, _, _, _, h, _ => absurd h (Nat.not_lt_zero _)
  | 0, n + 1, k, x, y, o, b, m, h1, _, hy => by
    show ∃ o1 b1 m1, f_X6_fitness_L7b _ _ _ _ _ _ _ _ = some (drR (x + 0) (y + 0), o1, b1, m1)
    unfold f_X6_fitness_L7b drR
    rw [if_pos (show (4 : Int32) ≤ nI k from nI_le (a := 4) (by omega) (by omega)), Nat.add_zero, Nat.add_zero]
    by_cases q : y = 0
    · rw [if_pos (show lg_cmp (lN y) (0 : Int64) = (0 : Int32) from (lg_cmp_eq _ _).mpr (by rw [q]; rfl)), if_pos q]
      exact ⟨_, _, _, rfl⟩
    · rw [if_neg (show ¬ lg_cmp (lN y) (0 : Int64) = (0 : Int32) from fun z => q (by
        have := (lg_cmp_eq _ _).mp z
        exact (pk_lEQ (b := 0) (by omega) (by decide)).mp this)), if_neg q]
      exact ⟨_, _, _, rfl⟩
  | d + 1, n + 1, k, x, y, o, b, m, h1, h2, hy => by
    show ∃ o1 b1 m1, f_X6_fitness_L7b _ _ _ _ _ _ _ _ = some (drR (x + (fm k + sumF fm (k + 1) d)) (y + (fc k + sumF fc (k + 1) d)), o1, b1, m1)
    unfold f_X6_fitness_L7b
    have hb := hv (36 + 14 * k) (by omega)
    rw [if_neg (show ¬ (4 : Int32) ≤ nI k from nI_ge (b := 4) (by omega) (by decide)), m_at, bnd_s, grd_inb (by omega) (by decide), nI_clamp (by omega), SI_at, show nI k + (1 : Int32) = nI (k + 1) from nI_1 k]
    rcases slot_or E k with ⟨e, he, ek⟩ | hno
    · subst ek
      obtain ⟨a1, a2, a3, a4⟩ := hE.1 e he
      have h0 : e.1.1 ≠ 0 := by have := a2.1; omega
      rw [a3.1, if_neg (show ¬ nI e.1.1 ≤ (0 : Int32) from nI_nle (by omega) (by have := a2.2.1; omega))]
      obtain ⟨o1, g1⟩ := m_costAt hsz hE he o m
      obtain ⟨o2, bb2, g2, -⟩ := m_finds hw hsz a2.2.1 h0 o1 b (nI (pc e.1.1))
      have cb := costN_bd hw a2.2.1 a2.2.2.1
      rw [show (0 : Int32) = nI 0 from rfl, g1, bnd_s, bnd_s, grd_inb (by omega) (by decide), nI_clamp (by omega), SI_at, a3.1, g2, bnd_s, lN_add, lN_add, hm e he, hc e he, ← Nat.add_assoc, ← Nat.add_assoc]
      exact m_fitL hw hsz hE hv hN hm hm0 hc hc0 d n (e.2.1 + 1) _ _ o2 bb2 _ (by omega) (by omega) (by omega)
    · rw [show v (36 + 14 * k) = 0 from hE.2.2 k (by omega) hno 0 (by decide), if_pos (show nI 0 ≤ (0 : Int32) by decide +kernel), hm0 k (by omega) hno, hc0 k (by omega) hno, Nat.zero_add, Nat.zero_add]
      exact m_fitL hw hsz hE hv hN hm hm0 hc hc0 d n (k + 1) x y o b m (by omega) (by omega) (Nat.lt_of_le_of_lt (Nat.add_le_add_left (Nat.mul_le_mul_right _ (Nat.le_succ d)) y) hy)
theorem m_fitness {w : Nat → Nat} (hw : WB w) (hsz : MS 0 (SI v) w) (hE : SlR v E) (hv : VB N v) (hN : N < 2 ^ 28) (o b : Nat → Int32) (m : Int32) : ∃ o1 b1 m1, f_X6_fitness (SI v) o b m = some (drR (sumL (fun e : ME => minC w e.1.1) E) (sumL (fun e : ME => costN w e.1.2.1) E), o1, b1, m1) := by
  obtain ⟨fm, hm, hm0, sm⟩ := slotF (fun e : ME => minC w e.1.1) hE
  obtain ⟨fc, hc, hc0, sc⟩ := slotF (fun e : ME => costN w e.1.2.1) hE
  obtain ⟨o1, b1, m1, g⟩ := m_fitL hw hsz hE hv hN hm hm0 hc hc0 4 1024 0 0 0 o b m (by decide) (by decide) (by decide)
  rw [Nat.zero_add, Nat.zero_add, sm, sc] at g
  exact ⟨o1, b1, m1, g⟩
theorem c_fitL {own : Nat → Nat} {h : KH} {ax nw : Nat} {snO : Option Nat} {hl : Nat} {hks : List (Nat × DS)} {rk b1 b2 b3 pd sg : Nat} {P LC : Nat → Int64} {BO SIG : Nat → Int32} {A : AS} (hc : CX ct a0 own h ax nw snO hl hks rk b1 b2 b3 pd sg P LC BO SIG A) {r g p l : Nat} {pr : Nat → Nat} {kas : List (Nat × PL)} (hs : StX ct a0 own h nw r g p l pr kas A.1) (hS : SOK A.1) (hRk : RkOK A.1.1 A.1.2.2.1 P LC BO) {Post : DR → KH → Prop} : ∀ (n i x y : Nat), i ≤ kas.length → kas.length < n + i → y + (kas.length - i) * 351843720888320 < 1152921504606846976 →
    Post (drR (x + sumL (fun z : PL => minC (szN A.1.1 A.1.2.2.1) z.1) ((kas.drop i).map Prod.snd)) (y + sumL (fun z : PL => costN (szN A.1.1 A.1.2.2.1) z.2.1) ((kas.drop i).map Prod.snd))) h → g_X5_fitness_L14 ct a0 ax Post n rk (lN x) (lN y) (nI i) h
  | 0, i, x, y, h1, h2, _, _ => by omega
  | n + 1, i, x, y, h1, h2, hy, hP => by
    have hlen := hs.len
    show g_X5_fitness_L14b _ _ _ _ _ _ _ _ _ _
    unfold g_X5_fitness_L14b
    refine hc.nowR (hs.sz ?_)
    by_cases q : kas.length ≤ i
    · rw [if_pos (nI_le q (by omega))]
      rw [List.drop_eq_nil_of_le q] at hP
      have hP : Post (drR (x + 0) (y + 0)) h := hP
      rw [Nat.add_zero, Nat.add_zero] at hP
      unfold drR at hP
      by_cases q2 : y = 0
      · rw [if_pos (show lg_cmp (lN y) (0 : Int64) ≤ (0 : Int32) from (lg_cmp_le _ _).mpr ((pk_lLE (b := 0) (by omega) (by decide)).mpr (by omega)))]
        rwa [if_pos q2] at hP
      · rw [if_neg (show ¬ lg_cmp (lN y) (0 : Int64) ≤ (0 : Int32) from fun z => by
          have := (pk_lLE (b := 0) (by omega) (by decide)).mp ((lg_cmp_le _ _).mp z)
          omega)]
        rwa [if_neg q2] at hP
    · rw [if_neg (nI_ge (by omega) (by omega)), show nI i + (1 : Int32) = nI (i + 1) from nI_1 i]
      have hi : kas[i]? = some kas[i] := List.getElem?_eq_getElem (by omega)
      generalize kas[i] = z at hi
      have hK := hs.kp z (List.mem_of_getElem? hi)
      have hx : POK z.2 := hS.2.2.2.1 _ (by rw [hs.kpe]; exact List.mem_map_of_mem (List.mem_of_getElem? hi))
      rw [drop_get hi, List.map_cons, sumL_c, sumL_c, ← Nat.add_assoc, ← Nat.add_assoc] at hP
      have wR := szN_WB hS.1 hS.2.2.1
      have hcb := costN_bd wR hx.2.1 hx.2.2.1
      have e1 : kas.length - i = (kas.length - (i + 1)) + 1 := by omega
      rw [e1, Nat.succ_mul] at hy
      refine hc.nowR (hs.gt hi (hK.sh ⟨_, _, _, _, _, rfl, hc.2.2.1.qw, c_least hRk hx.2.1 (by have := hx.1; omega), hK.sh (hK.ord ⟨_, _, _, _, _, rfl, hc.2.2.1.qw, c_cost hS.1 hS.2.2.1 hRk hx.2.1 hx.2.2.1, ?_⟩)⟩))
      rw [lN_add, lN_add]
      exact c_fitL hc hs hS hRk n (i + 1) _ _ (by omega) (by omega) (by omega) hP
end FIT

