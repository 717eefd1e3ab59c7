/-! the law's numbers beside the state's; a query that the law runs -/
theorem ofN (c : Nat) : (OfNat.ofNat c : Int64) = lN c := rfl
def TC (T : Nat → Int32) (cs : Nat → Nat) : Prop := T 1 = nI (cs 0) ∧ T 2 = nI (cs 1) ∧ T 3 = nI (cs 4) ∧ T 4 = nI (cs 5) ∧ T 5 = nI (cs 6) ∧ T 6 = nI (cs 7) ∧ T 7 = nI (cs 8)
theorem TC.u1 {T : Nat → Int32} {cs : Nat → Nat} (h : TC T cs) {x : Nat} {y : Int32} (hy : y = nI (cs 0 + x)) : TC (upd T 1 y) (nu cs 0 (cs 0 + x)) := ⟨(if_pos rfl).trans (hy.trans (by rw [nu_s])), (if_neg (by decide)).trans (h.2.1.trans (by rw [nu_n (by decide)])), (if_neg (by decide)).trans (h.2.2.1.trans (by rw [nu_n (by decide)])), (if_neg (by decide)).trans (h.2.2.2.1.trans (by rw [nu_n (by decide)])), (if_neg (by decide)).trans (h.2.2.2.2.1.trans (by rw [nu_n (by decide)])), (if_neg (by decide)).trans (h.2.2.2.2.2.1.trans (by rw [nu_n (by decide)])), (if_neg (by decide)).trans (h.2.2.2.2.2.2.trans (by rw [nu_n (by decide)]))⟩
theorem TC.u2 {T : Nat → Int32} {cs : Nat → Nat} (h : TC T cs) {x : Nat} {y : Int32} (hy : y = nI (cs 1 + x)) : TC (upd T 2 y) (nu cs 1 (cs 1 + x)) := ⟨(if_neg (by decide)).trans (h.1.trans (by rw [nu_n (by decide)])), (if_pos rfl).trans (hy.trans (by rw [nu_s])), (if_neg (by decide)).trans (h.2.2.1.trans (by rw [nu_n (by decide)])), (if_neg (by decide)).trans (h.2.2.2.1.trans (by rw [nu_n (by decide)])), (if_neg (by decide)).trans (h.2.2.2.2.1.trans (by rw [nu_n (by decide)])), (if_neg (by decide)).trans (h.2.2.2.2.2.1.trans (by rw [nu_n (by decide)])), (if_neg (by decide)).trans (h.2.2.2.2.2.2.trans (by rw [nu_n (by decide)]))⟩
theorem TC.u3 {T : Nat → Int32} {cs : Nat → Nat} (h : TC T cs) {x : Nat} {y : Int32} (hy : y = nI (cs 4 + x)) : TC (upd T 3 y) (nu cs 4 (cs 4 + x)) := ⟨(if_neg (by decide)).trans (h.1.trans (by rw [nu_n (by decide)])), (if_neg (by decide)).trans (h.2.1.trans (by rw [nu_n (by decide)])), (if_pos rfl).trans (hy.trans (by rw [nu_s])), (if_neg (by decide)).trans (h.2.2.2.1.trans (by rw [nu_n (by decide)])), (if_neg (by decide)).trans (h.2.2.2.2.1.trans (by rw [nu_n (by decide)])), (if_neg (by decide)).trans (h.2.2.2.2.2.1.trans (by rw [nu_n (by decide)])), (if_neg (by decide)).trans (h.2.2.2.2.2.2.trans (by rw [nu_n (by decide)]))⟩
theorem TC.u4 {T : Nat → Int32} {cs : Nat → Nat} (h : TC T cs) {x : Nat} {y : Int32} (hy : y = nI (cs 5 + x)) : TC (upd T 4 y) (nu cs 5 (cs 5 + x)) := ⟨(if_neg (by decide)).trans (h.1.trans (by rw [nu_n (by decide)])), (if_neg (by decide)).trans (h.2.1.trans (by rw [nu_n (by decide)])), (if_neg (by decide)).trans (h.2.2.1.trans (by rw [nu_n (by decide)])), (if_pos rfl).trans (hy.trans (by rw [nu_s])), (if_neg (by decide)).trans (h.2.2.2.2.1.trans (by rw [nu_n (by decide)])), (if_neg (by decide)).trans (h.2.2.2.2.2.1.trans (by rw [nu_n (by decide)])), (if_neg (by decide)).trans (h.2.2.2.2.2.2.trans (by rw [nu_n (by decide)]))⟩
theorem TC.u5 {T : Nat → Int32} {cs : Nat → Nat} (h : TC T cs) {x : Nat} {y : Int32} (hy : y = nI (cs 6 + x)) : TC (upd T 5 y) (nu cs 6 (cs 6 + x)) := ⟨(if_neg (by decide)).trans (h.1.trans (by rw [nu_n (by decide)])), (if_neg (by decide)).trans (h.2.1.trans (by rw [nu_n (by decide)])), (if_neg (by decide)).trans (h.2.2.1.trans (by rw [nu_n (by decide)])), (if_neg (by decide)).trans (h.2.2.2.1.trans (by rw [nu_n (by decide)])), (if_pos rfl).trans (hy.trans (by rw [nu_s])), (if_neg (by decide)).trans (h.2.2.2.2.2.1.trans (by rw [nu_n (by decide)])), (if_neg (by decide)).trans (h.2.2.2.2.2.2.trans (by rw [nu_n (by decide)]))⟩
theorem TC.u6 {T : Nat → Int32} {cs : Nat → Nat} (h : TC T cs) {x : Nat} {y : Int32} (hy : y = nI (cs 7 + x)) : TC (upd T 6 y) (nu cs 7 (cs 7 + x)) := ⟨(if_neg (by decide)).trans (h.1.trans (by rw [nu_n (by decide)])), (if_neg (by decide)).trans (h.2.1.trans (by rw [nu_n (by decide)])), (if_neg (by decide)).trans (h.2.2.1.trans (by rw [nu_n (by decide)])), (if_neg (by decide)).trans (h.2.2.2.1.trans (by rw [nu_n (by decide)])), (if_neg (by decide)).trans (h.2.2.2.2.1.trans (by rw [nu_n (by decide)])), (if_pos rfl).trans (hy.trans (by rw [nu_s])), (if_neg (by decide)).trans (h.2.2.2.2.2.2.trans (by rw [nu_n (by decide)]))⟩
theorem TC.u7 {T : Nat → Int32} {cs : Nat → Nat} (h : TC T cs) {x : Nat} {y : Int32} (hy : y = nI (cs 8 + x)) : TC (upd T 7 y) (nu cs 8 (cs 8 + x)) := ⟨(if_neg (by decide)).trans (h.1.trans (by rw [nu_n (by decide)])), (if_neg (by decide)).trans (h.2.1.trans (by rw [nu_n (by decide)])), (if_neg (by decide)).trans (h.2.2.1.trans (by rw [nu_n (by decide)])), (if_neg (by decide)).trans (h.2.2.2.1.trans (by rw [nu_n (by decide)])), (if_neg (by decide)).trans (h.2.2.2.2.1.trans (by rw [nu_n (by decide)])), (if_neg (by decide)).trans (h.2.2.2.2.2.1.trans (by rw [nu_n (by decide)])), (if_pos rfl).trans (hy.trans (by rw [nu_s]))⟩
theorem TC.t0 {T : Nat → Int32} {cs : Nat → Nat} (h : TC T cs) (y : Int32) : TC (upd T 0 y) cs := ⟨(if_neg (by decide)).trans h.1, (if_neg (by decide)).trans h.2.1, (if_neg (by decide)).trans h.2.2.1, (if_neg (by decide)).trans h.2.2.2.1, (if_neg (by decide)).trans h.2.2.2.2.1, (if_neg (by decide)).trans h.2.2.2.2.2.1, (if_neg (by decide)).trans h.2.2.2.2.2.2⟩
theorem TC.n2 {T : Nat → Int32} {cs : Nat → Nat} (h : TC T cs) (y : Nat) : TC T (nu cs 2 y) := ⟨h.1.trans (by rw [nu_n (by decide)]), h.2.1.trans (by rw [nu_n (by decide)]), h.2.2.1.trans (by rw [nu_n (by decide)]), h.2.2.2.1.trans (by rw [nu_n (by decide)]), h.2.2.2.2.1.trans (by rw [nu_n (by decide)]), h.2.2.2.2.2.1.trans (by rw [nu_n (by decide)]), h.2.2.2.2.2.2.trans (by rw [nu_n (by decide)])⟩
theorem TC.n3 {T : Nat → Int32} {cs : Nat → Nat} (h : TC T cs) (y : Nat) : TC T (nu cs 3 y) := ⟨h.1.trans (by rw [nu_n (by decide)]), h.2.1.trans (by rw [nu_n (by decide)]), h.2.2.1.trans (by rw [nu_n (by decide)]), h.2.2.2.1.trans (by rw [nu_n (by decide)]), h.2.2.2.2.1.trans (by rw [nu_n (by decide)]), h.2.2.2.2.2.1.trans (by rw [nu_n (by decide)]), h.2.2.2.2.2.2.trans (by rw [nu_n (by decide)])⟩
theorem TC.thr {T T1 : Nat → Int32} {cs : Nat → Nat} {x : Nat} (h : TC T cs) (e3 : T1 3 = T 3 + nI x) (e : ∀ j, j ≠ 0 → j ≠ 3 → T1 j = T j) : TC T1 (nu cs 4 (cs 4 + x)) := ⟨(e 1 (by decide) (by decide)).trans (h.1.trans (by rw [nu_n (by decide)])), (e 2 (by decide) (by decide)).trans (h.2.1.trans (by rw [nu_n (by decide)])), e3.trans (by rw [h.2.2.1, nI_add, nu_s]), (e 4 (by decide) (by decide)).trans (h.2.2.2.1.trans (by rw [nu_n (by decide)])), (e 5 (by decide) (by decide)).trans (h.2.2.2.2.1.trans (by rw [nu_n (by decide)])), (e 6 (by decide) (by decide)).trans (h.2.2.2.2.2.1.trans (by rw [nu_n (by decide)])), (e 7 (by decide) (by decide)).trans (h.2.2.2.2.2.2.trans (by rw [nu_n (by decide)]))⟩
/-- the law's arrays tell rows, guesses, parts, the limit, plans and counts -/
def RB (rw gs : Nat → Nat) (pt : Nat → Nat → Nat) (dl : Nat) (l : List PL) (cs : Nat → Nat) (A F T : Nat → Int32) : Prop := AV A 0 rw pt ∧ AV A 5 gs pt ∧ A 35 = nI dl ∧ PF F l ∧ T 0 = nI l.length ∧ TC T cs
def RA (d : DS) (A F T : Nat → Int32) (L : Nat → Int64) : Prop := RB d.1 d.2.1 d.2.2.1 d.2.2.2.2.1 d.2.2.2.1 d.2.2.2.2.2 A F T ∧ L 0 = lN (d.2.2.2.2.2 2) ∧ L 1 = lN (d.2.2.2.2.2 3)
theorem AV.up {A A' : Nat → Int32} {b : Nat} {nm : Nat → Nat} {pt : Nat → Nat → Nat} (h : AV A b nm pt) (e : ∀ t, t < 5 → A' (b + t) = A (b + t)) (e2 : ∀ j, 10 ≤ j → j < 35 → A' j = A j) : AV A' b nm pt := ⟨fun t ht => (e t ht).trans (h.1 t ht), fun i t hi ht => (e2 _ (by omega) (by omega)).trans (h.2 i t hi ht)⟩
section LRU
variable {ct : Nat → ClassId} {a0 ax : Nat} {pa pf pt pl pw : Nat} {hc : KH} {X : va_W} {A F T : Nat → Int32} {L V : Nat → Int64} {h : KH} {d : DS}
theorem l_throwD (hS : SOK d) (hl : LH ct pa pf pt pl pw hc X A F T L V h) (hR : RA d A F T L) {Post : Int32 → KH → Prop}
    (hP : ∀ F' T' h', LH ct pa pf pt pl pw hc X A F' T' L V h' → RA (thrown d 4 (keepD d.2.1 d.2.2.2.2.1)) A F' T' L → Post (nI (d.2.2.2.1.length - (d.2.2.2.1.filter (keepD d.2.1 d.2.2.2.2.1)).length)) h') : g_L_thrown ct a0 pa pf pt h Post := by
  obtain ⟨⟨r1, r2, r3, r4, r5, r6⟩, r7, r8⟩ := hR
  refine l_thrown r2.1 r3 hS.2.1 hS.2.2.2.2.2 hS.2.2.2.1 hS.2.2.2.2.1 hl r4 r5 (fun F' T' h' a1 a2 a3 a4 a5 => hP F' T' h' a1 ⟨⟨r1, r2, r3, a2, a3, r6.thr a4 a5⟩, ?_, ?_⟩)
  · exact r7.trans (congrArg lN (show nu d.2.2.2.2.2 4 (d.2.2.2.2.2 4 + (d.2.2.2.1.length - (d.2.2.2.1.filter (keepD d.2.1 d.2.2.2.2.1)).length)) 2 = d.2.2.2.2.2 2 from nu_n (by decide)).symm)
  · exact r8.trans (congrArg lN (show nu d.2.2.2.2.2 4 (d.2.2.2.2.2 4 + (d.2.2.2.1.length - (d.2.2.2.1.filter (keepD d.2.1 d.2.2.2.2.1)).length)) 3 = d.2.2.2.2.2 3 from nu_n (by decide)).symm)
/-- the end of a run: costs are added, guesses counted, plans thrown out -/
theorem l_run299 {d1 : DS} {sh : Nat} (hsh : sh < 32) (hS : SOK d1) {mk c : Nat} {a5' : Nat} {Post : Int64 → KH → Prop} {L' : Nat → Int64} (hL0 : L' 0 = lN (d1.2.2.2.2.2 2 + c)) (hL1 : L' 1 = lN (d1.2.2.2.2.2 3)) (hR : RB d1.1 d1.2.1 d1.2.2.1 d1.2.2.2.2.1 d1.2.2.2.1 d1.2.2.2.2.2 A F T)
    (hP : ∀ A' F' T' h', LH ct pa pf pt pl pw hc X A' F' T' L' V h' → RA (counted (addC d1 2 c) sh) A' F' T' L' → Post (lN (c + mk)) h') : ∀ (n k : Nat) (A1 : Nat → Int32) (h : KH), k ≤ 5 → 5 < n + k → LH ct pa pf pt pl pw hc X A1 F T L' V h → (∀ t, t < 5 → A1 (5 + t) = nI (gcnt d1.1 d1.2.1 sh k t)) → (∀ j, j < 5 ∨ 10 ≤ j → A1 j = A j) →
    g_L_run_L299 ct a0 pa pf pt pl a5' (nI sh) Post n (lN mk) (lN c) (nI k) h
  | 0, k, A1, h, h1, h2, hl, e1, e2 => by omega
  | n + 1, k, A1, h, h1, h2, hl, e1, e2 => by
    show g_L_run_L299b _ _ _ _ _ _ _ _ _ _ _ _ _ _
    unfold g_L_run_L299b
    obtain ⟨r1, r2, r3, r4, r5, r6⟩ := hR
    by_cases he : 5 ≤ k
    · have e0 : k = 5 := by omega
      subst e0
      rw [if_pos (show (5 : Int32) ≤ nI 5 by decide +kernel)]
      have hS2 : SOK ((addC d1 2 c).1, gcnt d1.1 d1.2.1 sh 5, (addC d1 2 c).2.2) := ⟨hS.1, gcnt_NB hS.1 hS.2.1 sh 5, hS.2.2⟩
      refine l_throwD (d := ((addC d1 2 c).1, gcnt d1.1 d1.2.1 sh 5, (addC d1 2 c).2.2)) hS2 hl ⟨⟨r1.up (fun t ht => e2 _ (by omega)) (fun j h1 h2 => e2 j (by omega)), ⟨e1, fun i t hi ht => (e2 _ (by omega)).trans (r2.2 i t hi ht)⟩, (e2 35 (by omega)).trans r3, r4, r5, r6.n2 _⟩, ?_, ?_⟩ (fun F' T' h' a1 a2 => ?_)
      · exact hL0.trans (congrArg lN (show nu d1.2.2.2.2.2 2 (d1.2.2.2.2.2 2 + c) 2 = d1.2.2.2.2.2 2 + c from nu_s).symm)
      · exact hL1.trans (congrArg lN (show nu d1.2.2.2.2.2 2 (d1.2.2.2.2.2 2 + c) 3 = d1.2.2.2.2.2 3 from nu_n (by decide)).symm)
      · rw [if_pos (show (0 : Int32) ≤ nI _ from nI_le (a := 0) (Nat.zero_le _) (by have := hS.2.2.2.2.1; show d1.2.2.2.1.length - _ < _; omega)), lN_add, Int64.add_zero]
        exact hP A1 F' T' h' a1 a2
    · have hk : k < 5 := by omega
      rw [if_neg (show ¬ (5 : Int32) ≤ nI k from nI_ge (b := 5) (by omega) (by decide))]
      have go : ∀ (v : Int32), v = nI (gcnt d1.1 d1.2.1 sh (k + 1) k) → g_L_run_L299 ct a0 pa pf pt pl a5' (nI sh) Post n (lN mk) (lN c) (nI k + (1 : Int32)) (hup h pa (.inl (ct 0, 36, .inl (upd A1 (5 + k) v)))) := fun v hv => by
        rw [nI_s1]
        refine l_run299 hsh hS hL0 hL1 ⟨r1, r2, r3, r4, r5, r6⟩ hP n (k + 1) _ _ (by omega) (by omega) (hl.ua _) (fun t ht => ?_) (fun j hj => (if_neg (by omega)).trans (e2 j hj))
        by_cases z : t = k
        · subst z
          exact (if_pos rfl).trans hv
        · refine (if_neg (by omega)).trans ((e1 t ht).trans (congrArg nI ?_))
          unfold gcnt
          by_cases y : t < k ∧ bi sh t = 1
          · rw [if_pos y, if_pos ⟨by omega, y.2⟩]
          · rw [if_neg y, if_neg (fun w => y ⟨by omega, w.2⟩)]
      by_cases q : bi sh k = 1
      · rw [if_pos (bit1 hsh hk q)]
        refine rdA hl.a (k := k) rfl (by omega) (by decide) (e2 k (Or.inl hk)) ?_
        refine wrA hl.a (k := 5 + k) (lit_add 5 k) (by omega) (by decide) ?_
        refine go _ ?_
        have := r1.1 k hk
        rw [Nat.zero_add] at this
        unfold gcnt
        rw [if_pos ⟨by omega, q⟩]
        exact this
      · rw [if_neg (bit0 hsh hk q)]
        refine rdA hl.a (k := 5 + k) (lit_add 5 k) (by omega) (by decide) rfl ?_
        refine wrA hl.a (k := 5 + k) (lit_add 5 k) (by omega) (by decide) ?_
        refine go _ ((e1 k hk).trans (congrArg nI ?_))
        unfold gcnt
        rw [if_neg (fun w => by omega), if_neg (fun w => q w.2)]
theorem l_run280 {d1 : DS} {sh : Nat} (hsh : sh < 32) (hS : SOK d1) {mk c : Nat} {a5' : Nat} {Post : Int64 → KH → Prop} (hl : LH ct pa pf pt pl pw hc X A F T L V h) (hL0 : L 0 = lN (d1.2.2.2.2.2 2)) (hL1 : L 1 + lN mk = lN (d1.2.2.2.2.2 3)) (hR : RB d1.1 d1.2.1 d1.2.2.1 d1.2.2.2.2.1 d1.2.2.2.1 d1.2.2.2.2.2 A F T)
    (hP : ∀ A' F' T' L' h', LH ct pa pf pt pl pw hc X A' F' T' L' V h' → RA (counted (addC d1 2 c) sh) A' F' T' L' → Post (lN (c + mk)) h') : g_L_run_J280 ct a0 pa pf pt pl a5' (nI sh) Post (lN mk) (lN c) h := by
  unfold g_L_run_J280
  refine rdV hl.l (k := 0) rfl (by decide) (by decide) hL0 ?_
  refine wrV hl.l (k := 0) rfl (by decide) (by decide) ?_
  have hl1 := hl.ul (vp_updL L 0 (lN (d1.2.2.2.2.2 2) + lN c))
  refine rdV hl1.l (k := 1) rfl (by decide) (by decide) (if_neg (by decide)) ?_
  refine wrV hl1.l (k := 1) rfl (by decide) (by decide) ?_
  refine l_run299 hsh hS (a5' := a5') ?_ ?_ hR (fun A' F' T' h' => hP A' F' T' _ h') 1024 0 A _ (by decide) (by decide) (hl1.ul _) (fun t ht => ?_) (fun j _ => rfl)
  · exact (if_neg (by decide)).trans ((if_pos rfl).trans (lN_add _ _))
  · exact (if_pos rfl).trans hL1
  · rw [gcnt_0]; exact hR.2.1.1 t ht
/-- a plan is put behind the others -/
theorem l_run233 {l : List PL} (h3 : l.length < 4) {x : PL} {q : Nat} {Pn : Nat → Int32} (hPn : FP Pn 0 x) {sh : Int32} {a5' : Nat} {Post : Int64 → KH → Prop} {x8 x10 : Int64} (hT : T 0 = nI l.length) (hF : PF F l)
    (hk : ∀ F' h', LH ct pa pf pt pl pw hc [(q, .inl (ct 0, 14, .inl Pn))] A F' (upd T 0 (nI (l.length + 1))) L V h' → PF F' (l ++ [x]) → g_L_run_J280 ct a0 pa pf pt pl a5' sh Post x8 x10 h') : ∀ (n k : Nat) (F1 : Nat → Int32) (h : KH), k ≤ 14 → 14 < n + k → LH ct pa pf pt pl pw hc [(q, .inl (ct 0, 14, .inl Pn))] A F1 T L V h → (∀ j, j < 14 * l.length → F1 j = F j) → (∀ j, j < k → F1 (14 * l.length + j) = Pn j) →
    g_L_run_L233 ct a0 pa pf pt pl a5' sh Post n q x8 x10 (nI k) h
  | 0, k, F1, h, h1, h2, hl, e1, e2 => by omega
  | n + 1, k, F1, h, h1, h2, hl, e1, e2 => by
    show g_L_run_L233b _ _ _ _ _ _ _ _ _ _ _ _ _ _ _
    unfold g_L_run_L233b
    by_cases he : 14 ≤ k
    · have e0 : k = 14 := by omega
      subst e0
      rw [if_pos (show (14 : Int32) ≤ nI 14 by decide +kernel)]
      refine rdA hl.t (k := 0) rfl (by decide) (by decide) hT ?_
      refine wrA hl.t (k := 0) rfl (by decide) (by decide) ?_
      rw [nI_s1]
      refine hk F1 _ (hl.ut _) (fun i y hi => ?_)
      rcases Nat.lt_or_ge i l.length with z | z
      · rw [List.getElem?_append_left z] at hi
        exact (hF i y hi).congr (fun c hc => e1 _ (by omega))
      · have hil := (List.getElem?_eq_some_iff.mp hi).1
        rw [List.length_append] at hil
        have hil2 : i < l.length + 1 := hil
        have hie : i = l.length := by omega
        subst hie
        rw [List.getElem?_append_right (Nat.le_refl _), Nat.sub_self] at hi
        cases hi
        exact hPn.congr (fun c hc => by rw [Nat.zero_add]; exact e2 c (by omega))
    · rw [if_neg (show ¬ (14 : Int32) ≤ nI k from nI_ge (b := 14) (by omega) (by decide))]
      refine rdA hl.t (k := 0) rfl (by decide) (by decide) hT ?_
      refine rdA hl.x (k := k) rfl (by omega) (by decide) rfl ?_
      refine wrA hl.f (k := 14 * l.length + k) (ix14 _ k) (by omega) (by decide) ?_
      rw [nI_s1]
      refine l_run233 h3 hPn hT hF hk n (k + 1) _ _ (by omega) (by omega) (hl.uf _) (fun j hj => (if_neg (by omega)).trans (e1 j hj)) (fun j hj => ?_)
      rcases (show j < k ∨ j = k by omega) with z | z
      · exact (if_neg (by omega)).trans (e2 j z)
      · subst z; exact if_pos rfl
/-- the run's cost; the plan is kept if there is room -/
theorem l_run213 {rw gs : Nat → Nat} {pr : Nat → Nat → Nat} {dl : Nat} {l : List PL} {cs : Nat → Nat} (hn : NB rw) (hp : PB pr) (h4 : l.length ≤ 4) (hR : RB rw gs pr dl l cs A F T) {x : PL} (hx : POK x) {q : Nat} {Pn : Nat → Int32} (hPn : FP Pn 0 x) (hl : LH ct pa pf pt pl pw hc [(q, .inl (ct 0, 14, .inl Pn))] A F T L V h) {sh : Int32} {a5' : Nat} {Post : Int64 → KH → Prop} {x8 : Int64}
    (hk1 : l.length < 4 → ∀ F' T' h', LH ct pa pf pt pl pw hc [(q, .inl (ct 0, 14, .inl Pn))] A F' T' L V h' → RB rw gs pr dl (l ++ [x]) cs A F' T' → g_L_run_J280 ct a0 pa pf pt pl a5' sh Post x8 (lN (costN (szN rw pr) x.2.1)) h')
    (hk2 : ¬ l.length < 4 → ∀ T' h', LH ct pa pf pt pl pw hc [(q, .inl (ct 0, 14, .inl Pn))] A F T' L V h' → RB rw gs pr dl l (nu cs 8 (cs 8 + 1)) A F T' → g_L_run_J280 ct a0 pa pf pt pl a5' sh Post x8 (lN (costN (szN rw pr) x.2.1)) h') : g_L_run_J213 ct a0 pa pf pt pl a5' sh Post q x8 h := by
  obtain ⟨r1, r2, r3, r4, r5, r6⟩ := hR
  unfold g_L_run_J213
  refine l_cost (b := 0) (at' := 0) (N := 14) hl.a r1 (by decide) hn hp hl.x (by decide) (by decide) hx.2.1 hx.2.2.1 (fun k hk => hPn.2.1 k hk) ?_
  refine rdA hl.t (k := 0) rfl (by decide) (by decide) r5 ?_
  by_cases q4 : 4 ≤ l.length
  · rw [if_pos (show (4 : Int32) ≤ nI l.length from nI_le (a := 4) q4 (by omega))]
    refine rdA hl.t (k := 7) rfl (by decide) (by decide) rfl ?_
    refine wrA hl.t (k := 7) rfl (by decide) (by decide) ?_
    refine hk2 (by omega) _ _ (hl.ut _) ⟨r1, r2, r3, r4, (if_neg (by decide)).trans r5, r6.u7 ?_⟩
    rw [r6.2.2.2.2.2.2, nI_s1]
  · rw [if_neg (show ¬ (4 : Int32) ≤ nI l.length from nI_ge (b := 4) (by omega) (by decide))]
    refine l_run233 (by omega) hPn r5 r4 (fun F' h' hl' hF' => hk1 (by omega) F' _ h' hl' ⟨r1, r2, r3, hF', ?_, r6.t0 _⟩) 1024 0 F h (by decide) (by decide) hl (fun j _ => rfl) (fun j hj => by omega)
    rw [List.length_append]
    exact if_pos rfl
end LRU
