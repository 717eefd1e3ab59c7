/-! the law takes plans out -/
theorem FP.congr {F F' : Nat → Int32} {b b' : Nat} {x : PL} (h : FP F b x) (e : ∀ c, c ≤ 12 → F' (b' + c) = F (b + c)) : FP F' b' x := by
  obtain ⟨h1, h2, h3, h4, h5⟩ := h
  refine ⟨(e 0 (by decide)).trans h1, fun k hk => ?_, fun t ht => ?_, (e 11 (by decide)).trans h4, (e 12 (by decide)).trans h5⟩
  · rw [Nat.add_assoc, e (1 + k) (by omega), ← Nat.add_assoc]; exact h2 k hk
  · rw [Nat.add_assoc, e (6 + t) (by omega), ← Nat.add_assoc]; exact h3 t ht
theorem PF.erase {F F' : Nat → Int32} {l : List PL} {s : Nat} (hF : PF F l) (hs : s < l.length) (e1 : ∀ k, 14 * s ≤ k → k < 14 * (l.length - 1) → F' k = F (k + 14)) (e2 : ∀ k, k < 14 * s → F' k = F k) : PF F' (l.eraseIdx s) := fun i x hi => by
  rw [List.getElem?_eraseIdx] at hi
  split at hi
  · next hlt => exact (hF i x hi).congr (fun c hc => e2 _ (by omega))
  · next hge =>
    have hil := (List.getElem?_eq_some_iff.mp hi).1
    refine (hF (i + 1) x hi).congr (fun c hc => ?_)
    rw [e1 _ (by omega) (by omega), show 14 * i + c + 14 = 14 * (i + 1) + c by omega]
section LOU
variable {ct : Nat → ClassId} {a0 : Nat} {pa pf pt pl pw : Nat} {hc : KH} {X : va_W} {A : Nat → Int32} {L V : Nat → Int64}
theorem l_out12 {n s : Nat} (hn1 : 1 ≤ n) (hn : n ≤ 4) (hs : s < n) {F T : Nat → Int32} (hT : T 0 = nI (n - 1)) {a3 : Int32} {Post : Unit → KH → Prop}
    (hP : ∀ F' h', LH ct pa pf pt pl pw hc X A F' T L V h' → (∀ k, 14 * s ≤ k → k < 14 * (n - 1) → F' k = F (k + 14)) → (∀ k, k < 14 * s → F' k = F k) → Post () h') : ∀ (m k : Nat) (F1 : Nat → Int32) (h : KH), 14 * s ≤ k → k ≤ 14 * (n - 1) → 14 * (n - 1) < m + k → LH ct pa pf pt pl pw hc X A F1 T L V h → (∀ j, 14 * s ≤ j → j < k → F1 j = F (j + 14)) → (∀ j, j < 14 * s ∨ k ≤ j → F1 j = F j) →
    g_L_out_L12 ct a0 pf pt a3 Post m (nI k) h
  | 0, k, F1, h, h1, h2, h3, hl, e1, e2 => by omega
  | m + 1, k, F1, h, h1, h2, h3, hl, e1, e2 => by
    show g_L_out_L12b _ _ _ _ _ _ _ _ _
    unfold g_L_out_L12b
    refine rdA hl.t (k := 0) rfl (by decide) (by decide) hT ?_
    rw [ix14o]
    by_cases q : 14 * (n - 1) ≤ k
    · rw [if_pos (nI_le q (by omega))]
      have hk : k = 14 * (n - 1) := by omega
      subst hk
      exact hP F1 h hl e1 (fun j hj => e2 j (Or.inl hj))
    · rw [if_neg (nI_ge (by omega) (by omega))]
      refine rdA hl.f (k := k + 14) (nI_add k 14) (by omega) (by decide) (e2 (k + 14) (Or.inr (by omega))) ?_
      refine wrA hl.f (k := k) rfl (by omega) (by decide) ?_
      rw [nI_s1]
      refine l_out12 hn1 hn hs hT hP m (k + 1) _ _ (by omega) (by omega) (by omega) (hl.uf _) (fun j hj1 hj2 => ?_) (fun j hj => ?_)
      · rcases (show j < k ∨ j = k by omega) with z | z
        · exact (if_neg (by omega)).trans (e1 j hj1 z)
        · subst z; exact if_pos rfl
      · exact (if_neg (by omega)).trans (e2 j (by omega))
theorem l_out {n s : Nat} (hn : n ≤ 4) (hs : s < n) {F T : Nat → Int32} (hT : T 0 = nI n) {h : KH} (hl : LH ct pa pf pt pl pw hc X A F T L V h) {Post : Unit → KH → Prop}
    (hP : ∀ F' h', LH ct pa pf pt pl pw hc X A F' (upd T 0 (nI (n - 1))) L V h' → (∀ k, 14 * s ≤ k → k < 14 * (n - 1) → F' k = F (k + 14)) → (∀ k, k < 14 * s → F' k = F k) → Post () h') : g_L_out ct a0 pf pt (nI s) h Post := by
  unfold g_L_out
  refine rdA hl.t (k := 0) rfl (by decide) (by decide) hT ?_
  refine wrA hl.t (k := 0) rfl (by decide) (by decide) ?_
  rw [ix14o, show nI n - (1 : Int32) = nI (n - 1) from pk_sub (b := 1) (by omega)]
  exact l_out12 (by omega) hn hs (if_pos rfl) hP 1024 (14 * s) F _ (Nat.le_refl _) (by omega) (by omega) (hl.ut _) (fun j h1 h2 => by omega) (fun j hj => rfl)
theorem l_thrown9 {gs : Nat → Nat} {dl : Nat} (hg : ∀ t, t < 5 → A (5 + t) = nI (gs t)) (hd : A 35 = nI dl) (hng : NB gs) (hdl : 100 ≤ dl ∧ dl ≤ 1000) {T0 : Nat → Int32} {Post : Int32 → KH → Prop} : ∀ (n : Nat) (U B : List PL) (c : Nat) (x4 : Int32) (F T : Nat → Int32) (h : KH), x4 = nI U.length + (-1 : Int32) → U.length < n → (∀ x ∈ U, POK x) → (U ++ B).length ≤ 4 → LH ct pa pf pt pl pw hc X A F T L V h → PF F (U ++ B) → T 0 = nI (U ++ B).length → (∀ j, j ≠ 0 → T j = T0 j) →
    (∀ F' T' h', LH ct pa pf pt pl pw hc X A F' T' L V h' → PF F' (U.filter (keepD gs dl) ++ B) → T' 0 = nI (U.filter (keepD gs dl) ++ B).length → T' 3 = T0 3 + nI (c + (U.length - (U.filter (keepD gs dl)).length)) → (∀ j, j ≠ 0 → j ≠ 3 → T' j = T0 j) → Post (nI (c + (U.length - (U.filter (keepD gs dl)).length))) h') →
    g_L_thrown_L9 ct a0 pa pf pt Post n (nI c) x4 h
  | 0, U, B, c, x4, F, T, h, e4, hn, hok, h4, hl, hF, hT, hT2, hP => by omega
  | n + 1, U, B, c, x4, F, T, h, e4, hn, hok, h4, hl, hF, hT, hT2, hP => by
    show g_L_thrown_L9b _ _ _ _ _ _ _ _ _ _
    unfold g_L_thrown_L9b
    rcases snoc_or U with rfl | ⟨U', x, rfl⟩
    · rw [if_pos (show x4 < (0 : Int32) by rw [e4]; exact m1_lt)]
      refine rdA hl.t (k := 3) rfl (by decide) (by decide) (hT2 3 (by decide)) ?_
      refine wrA hl.t (k := 3) rfl (by decide) (by decide) ?_
      exact hP F _ _ (hl.ut _) hF ((if_neg (by decide)).trans hT) (if_pos rfl) (fun j h0 h3 => (if_neg h3).trans (hT2 j h0))
    · rw [List.length_append] at e4 hn
      have hlen1 : [x].length = 1 := rfl
      rw [hlen1] at e4 hn
      have hUl : U'.length < 4 := by
        have := h4
        rw [List.length_append, List.length_append, hlen1] at this
        omega
      have e5 : x4 = nI U'.length := by rw [e4, dec32 _ (by omega) (by omega)]; rfl
      clear e4
      subst e5
      have hx : POK x := hok x (List.mem_append_right _ List.mem_cons_self)
      have hok' : ∀ y ∈ U', POK y := fun y hy => hok y (List.mem_append_left _ hy)
      have hi : (U' ++ [x] ++ B)[U'.length]? = some x := get_mid
      have hFx := hF _ _ hi
      rw [if_neg (show ¬ nI U'.length < (0 : Int32) from nI_pos (by omega))]
      refine rdA hl.f (k := 14 * U'.length + 12) (ix14 _ 12) (by omega) (by decide) hFx.2.2.2.2 ?_
      have skip : keepD gs dl x = true → ∀ h, LH ct pa pf pt pl pw hc X A F T L V h → g_L_thrown_L9 ct a0 pa pf pt Post n (nI c) (nI U'.length + (-1 : Int32)) h := fun hk h hl => by
        have e9 : U' ++ [x] ++ B = U' ++ (x :: B) := by rw [List.append_assoc]; rfl
        rw [e9] at hF hT h4
        refine l_thrown9 hg hd hng hdl n U' (x :: B) c _ F T h rfl (by omega) hok' h4 hl hF hT hT2 (fun F' T' h' a1 a2 a3 a4 a5 => ?_)
        have ef : (U' ++ [x]).filter (keepD gs dl) ++ B = U'.filter (keepD gs dl) ++ x :: B := filt_t hk
        have el : (U' ++ [x]).length - ((U' ++ [x]).filter (keepD gs dl)).length = U'.length - (U'.filter (keepD gs dl)).length := by
          rw [List.filter_append, List.filter_cons, if_pos hk, List.length_append, List.length_append]
          show U'.length + 1 - ((U'.filter (keepD gs dl)).length + 1) = _
          omega
        have := hP F' T' h' a1
        rw [ef, el] at this
        exact this a2 a3 a4 a5
      have hp2 := hx.2.2.2.2
      by_cases q : x.2.2.2.2 = 0
      · rw [if_pos (show nI x.2.2.2.2 = (0 : Int32) by rw [q]; rfl), ix14o]
        refine l_drifted hl.a hg hd hl.f (by omega) hFx hx hng hdl ?_
        cases hdr : drB gs dl x with
        | false =>
          rw [if_pos (show nI (if false = true then 1 else 0) = (0 : Int32) by decide +kernel)]
          exact skip (by unfold keepD; rw [hdr, Bool.and_false]; rfl) h hl
        | true =>
          rw [if_neg (show ¬ nI (if true = true then 1 else 0) = (0 : Int32) by decide +kernel)]
          have hk : keepD gs dl x = false := by unfold keepD; rw [hdr, q]; rfl
          have hsl : U'.length < (U' ++ [x] ++ B).length := (List.getElem?_eq_some_iff.mp hi).1
          refine l_out h4 hsl hT hl (fun F' h' hl' e1 e2 => ?_)
          have hF' := hF.erase hsl e1 e2
          have ee : (U' ++ [x] ++ B).eraseIdx U'.length = U' ++ B := erase_mid
          rw [ee] at hF'
          have elen : (U' ++ [x] ++ B).length - 1 = (U' ++ B).length := by
            rw [List.length_append, List.length_append, List.length_append, hlen1]
            omega
          rw [elen] at hl'
          rw [nI_s1]
          refine l_thrown9 hg hd hng hdl n U' B (c + 1) _ F' _ h' rfl (by omega) hok' (by rw [← elen]; omega) hl' hF' (if_pos rfl) (fun j hj => (if_neg hj).trans (hT2 j hj)) (fun F'' T'' h'' a1 a2 a3 a4 a5 => ?_)
          have ef : (U' ++ [x]).filter (keepD gs dl) ++ B = U'.filter (keepD gs dl) ++ B := filt_f hk
          have hle := List.length_filter_le (keepD gs dl) U'
          have el : c + ((U' ++ [x]).length - ((U' ++ [x]).filter (keepD gs dl)).length) = c + 1 + (U'.length - (U'.filter (keepD gs dl)).length) := by
            rw [List.filter_append, List.filter_cons, if_neg (by rw [hk]; decide), List.length_append, List.length_append]
            show c + (U'.length + 1 - ((U'.filter (keepD gs dl)).length + 0)) = _
            omega
          have := hP F'' T'' h'' a1
          rw [ef, el] at this
          exact this a2 a3 a4 a5
      · rw [if_neg (nI_ne0 (by omega) (by omega))]
        exact skip (by unfold keepD; rw [beq_eq_false_iff_ne.mpr q]; rfl) h hl
theorem l_thrown {gs : Nat → Nat} {dl : Nat} (hg : ∀ t, t < 5 → A (5 + t) = nI (gs t)) (hd : A 35 = nI dl) (hng : NB gs) (hdl : 100 ≤ dl ∧ dl ≤ 1000) {l : List PL} (hok : ∀ x ∈ l, POK x) (h4 : l.length ≤ 4) {F T : Nat → Int32} {h : KH} (hl : LH ct pa pf pt pl pw hc X A F T L V h) (hF : PF F l) (hT : T 0 = nI l.length) {Post : Int32 → KH → Prop}
    (hP : ∀ F' T' h', LH ct pa pf pt pl pw hc X A F' T' L V h' → PF F' (l.filter (keepD gs dl)) → T' 0 = nI (l.filter (keepD gs dl)).length → T' 3 = T 3 + nI (l.length - (l.filter (keepD gs dl)).length) → (∀ j, j ≠ 0 → j ≠ 3 → T' j = T j) → Post (nI (l.length - (l.filter (keepD gs dl)).length)) h') : g_L_thrown ct a0 pa pf pt h Post := by
  unfold g_L_thrown
  refine rdA hl.t (k := 0) rfl (by decide) (by decide) hT ?_
  refine l_thrown9 hg hd hng hdl 1024 l [] 0 _ F T h (sub1_int _ (by omega)) (by omega) hok (by rw [List.append_nil]; exact h4) hl (by rw [List.append_nil]; exact hF) (by rw [List.append_nil]; exact hT) (fun j _ => rfl) (fun F' T' h' a1 a2 a3 a4 a5 => ?_)
  rw [List.append_nil] at a2 a3
  rw [Nat.zero_add] at a4 ⊢
  exact hP F' T' h' a1 a2 a3 a4 a5
end LOU
