/-! what would be: ifCounted -/
section IFC
variable {ct : Nat → ClassId} {a0 : Nat} {N : Nat} {v : Nat → Nat} {E : List ME} {st : DS}
theorem drU_false {gv : Nat → Nat} {d : Nat} {x : PL} : ∀ n, (drU gv d x n = false ↔ ∀ t, t < n → cond gv d x t = false)
  | 0 => ⟨fun _ t ht => absurd ht (Nat.not_lt_zero _), fun _ => rfl⟩
  | n + 1 => by
    show ((drU gv d x n || cond gv d x n) = false) ↔ _
    rw [Bool.or_eq_false_iff, drU_false n]
    exact ⟨fun ⟨h1, h2⟩ t ht => by
      by_cases q : t = n
      · rw [q]; exact h2
      · exact h1 t (by omega), fun h => ⟨fun t ht => h t (by omega), h n (Nat.lt_succ_self n)⟩⟩
theorem keepD_iff {gv : Nat → Nat} {d : Nat} {x : PL} : keepD gv d x = true ↔ (x.2.2.2.2 = 0 → ∀ t, t < 5 → cond gv d x t = false) := by
  unfold keepD drB
  rw [Bool.not_eq_true', Bool.and_eq_false_iff, beq_eq_false_iff_ne, drU_false]
  exact ⟨fun h h0 => h.resolve_left (fun z => z h0), fun h => by
    by_cases q : x.2.2.2.2 = 0
    · exact Or.inr (h q)
    · exact Or.inl q⟩
theorem keep_step {rw gs : Nat → Nat} {d set t : Nat} {x : PL} (h0 : keepD gs d x = true) (h : keepD (gcnt rw gs set (t + 1)) d x = true) : keepD (gcnt rw gs set t) d x = true := by
  rw [keepD_iff] at *
  intro hp u hu
  have k0 := h0 hp u hu
  have k1 := h hp u hu
  unfold cond at k0 k1 ⊢
  have e : gcnt rw gs set t u = gs u ∨ gcnt rw gs set t u = gcnt rw gs set (t + 1) u := by
    unfold gcnt
    by_cases q : u < t ∧ bi set u = 1
    · exact Or.inr (by rw [if_pos q, if_pos ⟨by omega, q.2⟩])
    · exact Or.inl (by rw [if_neg q])
  rcases e with e | e
  · rw [e]; exact k0
  · rw [e]; exact k1
theorem filt_step {rw gs : Nat → Nat} {d set t : Nat} {l : List PL} (h0 : ∀ x ∈ l, keepD gs d x = true) : (l.filter (keepD (gcnt rw gs set t) d)).filter (keepD (gcnt rw gs set (t + 1)) d) = l.filter (keepD (gcnt rw gs set (t + 1)) d) := by
  rw [List.filter_filter]
  refine List.filter_congr (fun x hx => ?_)
  cases q : keepD (gcnt rw gs set (t + 1)) d x with
  | true => rw [keep_step (h0 x hx) q]; rfl
  | false => rfl
/-- the state behind the tables below t, counted -/
def cntD (st : DS) (set t : Nat) (cs : Nat → Nat) : DS := (st.1, gcnt st.1 st.2.1 set t, st.2.2.1, st.2.2.2.1.filter (keepD (gcnt st.1 st.2.1 set t) st.2.2.2.2.1), st.2.2.2.2.1, cs)
theorem cntD_S (hS : SOK st) (set t : Nat) (cs : Nat → Nat) : SOK (cntD st set t cs) := ⟨hS.1, gcnt_NB hS.1 hS.2.1 set t, hS.2.2.1, fun x hx => hS.2.2.2.1 x (List.mem_filter.mp hx).1, Nat.le_trans (List.length_filter_le _ _) hS.2.2.2.2.1, hS.2.2.2.2.2⟩
theorem m_ifcL {s : Nat} (hs : s < 32) (hI : IV st) {a2 : Int32} (spare : Nat → Int32) (paid sp : Nat → Int64) (od bs : Nat → Int32) (my : Int32) : ∀ (n t N : Nat) (v : Nat → Nat) (E : List ME) (cs : Nat → Nat), t ≤ 5 → 5 < n + t → N + 4 * (5 - t) < 2 ^ 28 → SR N v E (cntD st s t cs) → (cntD st s t cs).2.2.2.1 = E.map Prod.fst →
    ∃ v5 E5 cs5 N5, N5 < 2 ^ 28 ∧ SR N5 v5 E5 (cntD st s 5 cs5) ∧ (cntD st s 5 cs5).2.2.2.1 = E5.map Prod.fst ∧ f_X6_ifCounted_L27 (nI s) a2 n (nI (st.2.2.2.1.length - (cntD st s t cs).2.2.2.1.length)) (nI t) (SI v) spare paid sp od bs my =
      (if a2 = (0 : Int32) then bnd (f_X6_putsBack (SI v5) spare paid sp) (fun q10 => some (nI (st.2.2.2.1.length - (cntD st s 5 cs5).2.2.2.1.length), q10.1, spare, q10.2, sp, od, bs, my)) else bnd (f_X6_dearer (SI v5) od bs my) (fun q8 => bnd (f_X6_putsBack (SI v5) spare paid sp) (fun q9 => some (q8.1, q9.1, spare, q9.2, sp, q8.2.1, q8.2.2.1, q8.2.2.2))))
  | 0, t, N, v, E, cs, h1, h2, _, _, _ => by omega
  | n + 1, t, N, v, E, cs, h1, h2, hN, hR, hkp => by
    show ∃ v5 E5 cs5 N5, _ ∧ _ ∧ _ ∧ f_X6_ifCounted_L27b _ _ _ _ _ _ _ _ _ _ _ _ = _
    unfold f_X6_ifCounted_L27b
    by_cases q : 5 ≤ t
    · have e : t = 5 := by omega
      subst e
      rw [if_pos (show (5 : Int32) ≤ nI 5 by decide +kernel)]
      exact ⟨v, E, cs, N, by omega, hR, hkp, rfl⟩
    · rw [if_neg (show ¬ (5 : Int32) ≤ nI t from nI_ge (b := 5) (by omega) (by decide)), show nI t + (1 : Int32) = nI (t + 1) from nI_1 t, show (nI s >>> (nI t &&& 31) &&& (1 : Int32)) = nI (bi s t) from bi_int s hs t (by omega)]
      have hb := bi_lt s t
      by_cases q1 : bi s t = 1
      · rw [if_pos (show nI (bi s t) = (1 : Int32) by rw [q1]; rfl)]
        have hSt := cntD_S hI.1 s t cs
        obtain ⟨v', E', g1, g2, g3⟩ := m_counts hR hkp hSt (by omega) (t := t) (by omega)
        have eg : gcnt st.1 (gcnt st.1 st.2.1 s t) (2 ^ t) 5 = gcnt st.1 st.2.1 s (t + 1) := by rw [gcnt_pow _ _ (by omega), gcnt_s q1]
        have ef := filt_step (rw := st.1) (gs := st.2.1) (d := st.2.2.2.2.1) (set := s) (t := t) hI.2.2.2
        have ec : counted (cntD st s t cs) (2 ^ t) = cntD st s (t + 1) (counted (cntD st s t cs) (2 ^ t)).2.2.2.2.2 := by
          unfold counted cntD thrown
          simp only [eg, ef]
        have en : countedN (cntD st s t cs) (2 ^ t) = (cntD st s t cs).2.2.2.1.length - (cntD st s (t + 1) cs).2.2.2.1.length := by
          unfold countedN cntD
          simp only [eg, ef]
        rw [g1, bnd_s, nI_add, en]
        generalize (counted (cntD st s t cs) (2 ^ t)).2.2.2.2.2 = cs1 at ec
        rw [ec] at g2 g3
        have l1 : (cntD st s t cs).2.2.2.1.length ≤ st.2.2.2.1.length := List.length_filter_le _ _
        have l2 : (cntD st s (t + 1) cs).2.2.2.1.length ≤ (cntD st s t cs).2.2.2.1.length := by
          show (st.2.2.2.1.filter (keepD (gcnt st.1 st.2.1 s (t + 1)) st.2.2.2.2.1)).length ≤ _
          rw [← ef]
          exact List.length_filter_le _ _
        rw [show st.2.2.2.1.length - (cntD st s t cs).2.2.2.1.length + ((cntD st s t cs).2.2.2.1.length - (cntD st s (t + 1) cs).2.2.2.1.length) = st.2.2.2.1.length - (cntD st s (t + 1) cs1).2.2.2.1.length from by
          have : (cntD st s (t + 1) cs1).2.2.2.1.length = (cntD st s (t + 1) cs).2.2.2.1.length := rfl
          omega]
        exact m_ifcL hs hI spare paid sp od bs my n (t + 1) (N + 4) v' E' cs1 (by omega) (by omega) (by omega) g2 g3
      · have q0 : bi s t = 0 := by omega
        rw [if_neg (show ¬ nI (bi s t) = (1 : Int32) by rw [q0]; decide +kernel), show ∀ x : Nat, nI x + (0 : Int32) = nI x from fun x => by rw [show (0 : Int32) = nI 0 from rfl, nI_add, Nat.add_zero]]
        have eg : cntD st s t cs = cntD st s (t + 1) cs := by unfold cntD; rw [gcnt_n q1]
        rw [eg] at hR hkp ⊢
        exact m_ifcL hs hI spare paid sp od bs my n (t + 1) N v E cs (by omega) (by omega) (by omega) hR hkp
def fT (gv : Nat → Nat) (d : Nat) (x : PL) : Nat := if keepD gv d x = true then 0 else 1
def fD (w gv : Nat → Nat) (d : Nat) (x : PL) : Nat := if keepD gv d x = true then fdr w x else 0
theorem fT_sum (gv : Nat → Nat) (d : Nat) : ∀ (l : List PL), sumL (fT gv d) l + (l.filter (keepD gv d)).length = l.length
  | [] => rfl
  | x :: l => by
    have ih := fT_sum gv d l
    rw [sumL_c, List.filter_cons]
    unfold fT at ih ⊢
    cases q : keepD gv d x with
    | true => rw [if_pos rfl, if_pos rfl, List.length_cons, List.length_cons]; omega
    | false => rw [if_neg (by decide), if_neg (by decide), List.length_cons]; omega
theorem fD_sum (w gv : Nat → Nat) (d : Nat) : ∀ (l : List PL), sumL (fD w gv d) l = sumL (fdr w) (l.filter (keepD gv d))
  | [] => rfl
  | x :: l => by
    have ih := fD_sum w gv d l
    rw [sumL_c, List.filter_cons]
    unfold fD at ih ⊢
    cases q : keepD gv d x with
    | true => rw [if_pos rfl, if_pos rfl, sumL_c, ih]
    | false => rw [if_neg (by decide), if_neg (by decide), Nat.zero_add, ih]
theorem keep_gsel {rw gs : Nat → Nat} {set d : Nat} {x : PL} : keepD (gsel rw gs set) d x = keepD (gcnt rw gs set 5) d x := by
  unfold keepD drB
  rw [drU_congr (g1 := gsel rw gs set) (g2 := gcnt rw gs set 5) (fun t ht => by
    unfold gsel gcnt
    by_cases q : bi set t = 1
    · rw [if_pos q, if_pos ⟨ht, q⟩]
    · rw [if_neg q, if_neg (fun z => q z.2)])]
theorem sumL_bd {α : Type} {f : α → Nat} (h : ∀ x, f x ≤ 1) (l : List α) : sumL f l ≤ l.length := by
  have := sumL_le f 1 l (fun x _ => h x)
  omega
theorem c_ifcL {own : Nat → Nat} {h : KH} {ax nw : Nat} {snO : Option Nat} {hl : Nat} {hks : List (Nat × DS)} {rk b1 b2 b3 pd sg : Nat} {P LC : Nat → Int64} {BO SIG : Nat → Int32} {A : AS} (hc : CX ct a0 own h ax nw snO hl hks rk b1 b2 b3 pd sg P LC BO SIG A) {r g p l : Nat} {pr : Nat → Nat} {kas : List (Nat × PL)} (hs : StX ct a0 own h nw r g p l pr kas A.1) (hS : SOK A.1) (hRk : RkOK A.1.1 A.1.2.2.1 P LC BO) {s : Nat} (hs32 : s < 32) {a2 : Int32} {Post : Int32 → KH → Prop} : ∀ (n i x y : Nat), i ≤ kas.length → kas.length < n + i →
    Post (if a2 = (0 : Int32) then nI (x + sumL (fT (gsel A.1.1 A.1.2.1 s) A.1.2.2.2.2.1) ((kas.drop i).map Prod.snd)) else nI (y + sumL (fD (szN A.1.1 A.1.2.2.1) (gsel A.1.1 A.1.2.1 s) A.1.2.2.2.2.1) ((kas.drop i).map Prod.snd))) h → g_X5_ifCounted_L33 ct a0 ax (nI s) a2 Post n rk (nI x) (nI y) (nI i) h
  | 0, i, x, y, h1, h2, _ => by omega
  | n + 1, i, x, y, h1, h2, hP => by
    have hlen := hs.len
    show g_X5_ifCounted_L33b _ _ _ _ _ _ _ _ _ _ _ _
    unfold g_X5_ifCounted_L33b
    refine hc.nowR (hs.sz ?_)
    by_cases q : kas.length ≤ i
    · rw [if_pos (nI_le q (by omega))]
      rw [List.drop_eq_nil_of_le q] at hP
      have hP : Post (if a2 = (0 : Int32) then nI (x + 0) else nI (y + 0)) h := hP
      by_cases q2 : a2 = 0
      · rw [if_pos q2] at hP ⊢; exact hP
      · rw [if_neg q2] at hP ⊢; exact hP
    · rw [if_neg (nI_ge (by omega) (by omega)), show nI i + (1 : Int32) = nI (i + 1) from nI_1 i, show nI x + (1 : Int32) = nI (x + 1) from nI_1 x, show nI y + (1 : Int32) = nI (y + 1) from nI_1 y]
      have hi : kas[i]? = some kas[i] := List.getElem?_eq_getElem (by omega)
      generalize kas[i] = z at hi
      have hK := hs.kp z (List.mem_of_getElem? hi)
      have hx : POK z.2 := hS.2.2.2.1 _ (by rw [hs.kpe]; exact List.mem_map_of_mem (List.mem_of_getElem? hi))
      rw [drop_get hi, List.map_cons, sumL_c, sumL_c, ← Nat.add_assoc, ← Nat.add_assoc] at hP
      have wR := szN_WB hS.1 hS.2.2.1
      have hcb := costN_bd wR hx.2.1 hx.2.2.1
      have hmn := minC_le (w := szN A.1.1 A.1.2.2.1) hx.2.1 hx.2.2.1
      have ih := fun x y hP => c_ifcL hc hs hS hRk hs32 (a2 := a2) (Post := Post) n (i + 1) x y (by omega) (by omega) hP
      have hp2 := hx.2.2.2.2
      -- a plan that stays: dear or not
      have stay : keepD (gsel A.1.1 A.1.2.1 s) A.1.2.2.2.2.1 z.2 = true → (∃ (o26 : Nat → Nat) (k1 : Nat → Int64) (k2 : Nat → Int64) (k3 : Nat → Int32) (q26 : Int64), (o26 0 = rk) ∧ inW h (QW o26 ct k1 k2 k3) ∧ f_X3_excessOf (nI z.2.1) (nI (oct z.2.2.1)) k1 k2 = some q26 ∧ if (lg_cmp q26 (0 : Int64)) ≤ (0 : Int32) then g_X5_ifCounted_L33 ct a0 ax (nI s) a2 Post n rk (nI x) (nI y) (nI (i + 1)) h else g_X5_ifCounted_L33 ct a0 ax (nI s) a2 Post n rk (nI x) (nI (y + 1)) (nI (i + 1)) h) := fun hk => by
        refine ⟨_, _, _, _, _, rfl, hc.2.2.1.qw, c_excess hS.1 hS.2.2.1 hRk hx.2.1 (by have := hx.1; omega) hx.2.2.1, ?_⟩
        have eT : fT (gsel A.1.1 A.1.2.1 s) A.1.2.2.2.2.1 z.2 = 0 := if_pos hk
        have eD : fD (szN A.1.1 A.1.2.2.1) (gsel A.1.1 A.1.2.1 s) A.1.2.2.2.2.1 z.2 = fdr (szN A.1.1 A.1.2.2.1) z.2 := if_pos hk
        rw [eT, eD] at hP
        unfold fdr at hP
        by_cases q3 : minC (szN A.1.1 A.1.2.2.1) z.2.1 < costN (szN A.1.1 A.1.2.2.1) z.2.2.1
        · rw [if_pos q3] at hP
          rw [if_neg (show ¬ lg_cmp (lN (costN (szN A.1.1 A.1.2.2.1) z.2.2.1 - minC (szN A.1.1 A.1.2.2.1) z.2.1)) (0 : Int64) ≤ (0 : Int32) from fun w => by
            have := (pk_lLE (b := 0) (by omega) (by decide)).mp ((lg_cmp_le _ _).mp w)
            omega)]
          exact ih x (y + 1) hP
        · rw [if_neg q3] at hP
          rw [if_pos (show lg_cmp (lN (costN (szN A.1.1 A.1.2.2.1) z.2.2.1 - minC (szN A.1.1 A.1.2.2.1) z.2.1)) (0 : Int64) ≤ (0 : Int32) from (lg_cmp_le _ _).mpr ((pk_lLE (b := 0) (by omega) (by decide)).mpr (by omega)))]
          exact ih x y hP
      refine hc.nowR (hs.gt hi (hK.pin ?_))
      by_cases q3 : z.2.2.2.2.2 = 0
      · rw [if_pos (show nI z.2.2.2.2.2 = (0 : Int32) by rw [q3]; rfl)]
        refine hc.nowR (hs.o (p_drifts hs hS hK hx hs32 ?_))
        cases hd : drB (gsel A.1.1 A.1.2.1 s) A.1.2.2.2.2.1 z.2 with
        | true =>
          have hk : keepD (gsel A.1.1 A.1.2.1 s) A.1.2.2.2.2.1 z.2 = false := by unfold keepD; rw [q3, hd]; rfl
          rw [if_neg (show ¬ nI (if true = true then 1 else 0) = (0 : Int32) by decide +kernel)]
          have eT : fT (gsel A.1.1 A.1.2.1 s) A.1.2.2.2.2.1 z.2 = 1 := if_neg (by rw [hk]; decide)
          have eD : fD (szN A.1.1 A.1.2.2.1) (gsel A.1.1 A.1.2.1 s) A.1.2.2.2.2.1 z.2 = 0 := if_neg (by rw [hk]; decide)
          rw [eT, eD] at hP
          exact ih (x + 1) y hP
        | false =>
          rw [if_pos (show nI (if false = true then 1 else 0) = (0 : Int32) by decide +kernel)]
          exact hK.sh (hK.ord (stay (by unfold keepD; rw [hd, Bool.and_false]; rfl)))
      · rw [if_neg (show ¬ nI z.2.2.2.2.2 = (0 : Int32) by rw [show z.2.2.2.2.2 = 1 by omega]; decide +kernel)]
        exact hK.sh (hK.ord (stay (by unfold keepD; rw [beq_eq_false_iff_ne.mpr q3]; rfl)))
set_option maxHeartbeats 1000000 in
theorem sq_ifCounted : St_ifCounted ct a0 (Rel ct a0) := by
  intro j hj ax h M a1 a2 hr
  have hr1 := hr.up
  obtain ⟨own, A, ⟨nw, snO, hl, hks, rk, b1, b2, b3, pd, sg, P, LC, BO, SIG, hc⟩, ⟨m1, m2, m3, m4, m5, m6⟩, hG⟩ := hr
  obtain ⟨v, E, eM, hR, hkp, hpa⟩ := m1.opn
  have hI := hG.1
  have hS := hI.1
  rcases set_or a1 with ⟨s, s1, hs, rfl, e1, e2⟩ | ⟨e1, e2⟩
  · refine ⟨1, e1, ?_⟩
    rw [if_neg ne10]
    rcases in_or a2 (lo := 0) (hi := 1) (by decide) (by decide) with ⟨n, n0, n1, rfl, n2⟩ | ⟨n0, n2⟩
    · rw [show ∀ P Q : Prop, (if nI n < (0 : Int32) then P else if nI n ≤ (1 : Int32) then Q else P) = Q from fun P Q => if_in n0 n1 (by decide)]
      have e0 : A.1.2.2.2.1.filter (keepD A.1.2.1 A.1.2.2.2.2.1) = A.1.2.2.2.1 := List.filter_eq_self.mpr hI.2.2.2
      have ed : cntD A.1 s 0 A.1.2.2.2.2.2 = A.1 := by unfold cntD; rw [gcnt_0, e0]
      obtain ⟨v5, E5, cs5, N5, hN5, hR5, hk5, g5⟩ := m_ifcL hs hI (a2 := nI n) (cpy M.2.2.2.1 0 M.1 100) M.2.2.2.2.1 (up2 M.2.2.2.2.2.2.2.1 0 (M.2.2.2.2.1 0) (M.2.2.2.2.1 1)) M.2.2.2.2.2.2.2.2.2.2.2.2.2.2.2.1 M.2.2.2.2.2.2.2.2.2.2.2.2.2.2.2.2.1 M.2.2.2.2.2.2.2.2.2.2.2.2.2.2.2.2.2.1 1024 0 (200 * j) v E A.1.2.2.2.2.2 (by decide) (by decide) (by omega) (by rw [ed]; exact hR) (by rw [ed]; exact hkp)
      rw [ed, Nat.sub_self, ← eM] at g5
      have hl5 := cntD_S hI.1 s 5 cs5
      refine hc.o (p_reckoned hc hS (fun h1 P' LC' BO' hRk hc1 f1 => ?_))
      rw [if_neg ne10] at hRk
      obtain ⟨r, g, p, l, pr, kas, hs1⟩ := hc1.2.2.2.2.1
      have hlen := hs1.len
      refine c_ifcL hc1 hs1 hS hRk hs 1024 0 0 0 (Nat.zero_le _) (by omega) ?_
      rw [List.drop_zero, ← hs1.kpe, Nat.zero_add, Nat.zero_add, fD_sum]
      have ef : A.1.2.2.2.1.filter (keepD (gsel A.1.1 A.1.2.1 s) A.1.2.2.2.2.1) = (cntD A.1 s 5 cs5).2.2.2.1 := List.filter_congr (fun x _ => keep_gsel)
      have es := fT_sum (gsel A.1.1 A.1.2.1 s) A.1.2.2.2.2.1 A.1.2.2.2.1
      rw [ef] at es ⊢
      rw [show sumL (fT (gsel A.1.1 A.1.2.1 s) A.1.2.2.2.2.1) A.1.2.2.2.1 = A.1.2.2.2.1.length - (cntD A.1 s 5 cs5).2.2.2.1.length by omega]
      have pre : ∀ z, f_X6_ifCounted_L27 (nI s) (nI n) 1024 (0 : Int32) (0 : Int32) M.1 (cpy M.2.2.2.1 0 M.1 100) M.2.2.2.2.1 (up2 M.2.2.2.2.2.2.2.1 0 (M.2.2.2.2.1 0) (M.2.2.2.2.1 1)) M.2.2.2.2.2.2.2.2.2.2.2.2.2.2.2.1 M.2.2.2.2.2.2.2.2.2.2.2.2.2.2.2.2.1 M.2.2.2.2.2.2.2.2.2.2.2.2.2.2.2.2.2.1 = some z → f_X6_ifCounted (nI s) (nI n) M.1 M.2.2.2.1 M.2.2.2.2.1 M.2.2.2.2.2.2.2.1 M.2.2.2.2.2.2.2.2.2.2.2.2.2.2.2.1 M.2.2.2.2.2.2.2.2.2.2.2.2.2.2.2.2.1 M.2.2.2.2.2.2.2.2.2.2.2.2.2.2.2.2.2.1 = some z := fun z hz => by
        unfold f_X6_ifCounted
        rw [e2, bnd_s, if_neg ne10, show f_X6_in (nI n) (0 : Int32) (1 : Int32) = some 1 from n2, bnd_s, if_neg ne10, m_aside2, bnd_s]
        exact hz
      have g5 : f_X6_ifCounted_L27 (nI s) (nI n) 1024 (0 : Int32) (0 : Int32) M.1 (cpy M.2.2.2.1 0 M.1 100) M.2.2.2.2.1 (up2 M.2.2.2.2.2.2.2.1 0 (M.2.2.2.2.1 0) (M.2.2.2.2.1 1)) M.2.2.2.2.2.2.2.2.2.2.2.2.2.2.2.1 M.2.2.2.2.2.2.2.2.2.2.2.2.2.2.2.2.1 M.2.2.2.2.2.2.2.2.2.2.2.2.2.2.2.2.2.1 = _ := g5
      rw [m_back2] at g5
      rcases (show n = 0 ∨ n = 1 by omega) with rfl | rfl
      · rw [if_pos (show nI 0 = (0 : Int32) from rfl)] at g5 ⊢
        exact ⟨_, pre _ g5, rfl, own, A, ⟨_, _, _, _, _, _, _, _, _, _, _, _, _, _, hc1⟩, ⟨back_St (m1.mono (by omega)), m2.mono (by omega), m3.mono (by omega), m4, m5, m6⟩, hG⟩
      · rw [if_neg (show ¬ nI 1 = (0 : Int32) by decide +kernel)] at g5 ⊢
        obtain ⟨o1, bb1, mm1, gd⟩ := m_dear (szN_WB hS.1 hS.2.2.1) (hR5.2.1.ms0 hl5.1 hl5.2.2.1) hR5.1 hR5.2.2 hN5 M.2.2.2.2.2.2.2.2.2.2.2.2.2.2.2.1 M.2.2.2.2.2.2.2.2.2.2.2.2.2.2.2.2.1 M.2.2.2.2.2.2.2.2.2.2.2.2.2.2.2.2.2.1
        rw [gd] at g5
        refine ⟨_, pre _ g5, ?_, own, A, ⟨_, _, _, _, _, _, _, _, _, _, _, _, _, _, hc1⟩, ⟨back_St (m1.mono (by omega)), m2.mono (by omega), m3.mono (by omega), m4, m5, m6⟩, hG⟩
        show nI (sumL (fun e : ME => fdr (szN A.1.1 A.1.2.2.1) e.1) E5) = _
        rw [hk5, sumL_map]
    · rw [show ∀ P Q : Prop, (if a2 < (0 : Int32) then P else if a2 ≤ (1 : Int32) then Q else P) = P from fun P Q => if_out n0]
      exact ⟨_, by unfold f_X6_ifCounted; rw [e2, bnd_s, if_neg ne10, show f_X6_in a2 (0 : Int32) (1 : Int32) = some 0 from n2, bnd_s, if_pos rfl], rfl, hr1⟩
  · refine ⟨0, e1, ?_⟩
    rw [if_pos rfl]
    exact ⟨_, by unfold f_X6_ifCounted; rw [e2, bnd_s, if_pos rfl], rfl, hr1⟩
end IFC
