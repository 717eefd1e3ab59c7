/-! what the law does: parts, pins; bounds of the counts -/
theorem CB.mono {N M : Nat} {d : DS} (h : CB N d) (hM : N ≤ M) : CB M d := ⟨fun x hx => Nat.le_trans (h.1 x hx) hM, fun c h2 h3 => Nat.le_trans (h.2 c h2 h3) hM⟩
theorem CB.thr {N : Nat} {d : DS} (h : CB N d) (h4 : d.2.2.2.1.length ≤ 4) (c : Nat) (f : PL → Bool) : CB (N + 4) (thrown d c f) := by
  refine ⟨fun x hx => Nat.le_trans (h.1 x (List.mem_filter.mp hx).1) (by omega), fun k h2 h3 => ?_⟩
  have := h.2 k h2 h3
  show nu d.2.2.2.2.2 c _ k ≤ _
  unfold nu
  by_cases q : k = c
  · rw [if_pos q, ← q]
    omega
  · rw [if_neg q]
    omega
theorem CB.aC {N : Nat} {d : DS} (h : CB N d) (x : Nat) : CB N (addC d 2 x) := ⟨h.1, fun k h2 h3 => by
  show nu d.2.2.2.2.2 2 _ k ≤ _
  rw [nu_n h2]
  exact h.2 k h2 h3⟩
theorem CB.rA {N : Nat} {d : DS} (h : CB N d) (sh : Nat) : CB (N + 1) (runA d sh).2.2 := by
  unfold runA
  split
  · next x hx =>
    refine ⟨fun y hy => ?_, fun k h2 h3 => ?_⟩
    · rcases List.mem_append.mp (show y ∈ d.2.2.2.1.eraseIdx _ ++ [_] from hy) with m | m
      · exact Nat.le_trans (h.1 y (mem_erase m)) (by omega)
      · rw [List.mem_singleton.mp m]
        have := h.1 x (List.mem_of_getElem? hx)
        show x.2.2.2.1 + 1 ≤ _
        omega
    · have := h.2 k h2 h3
      show nu d.2.2.2.2.2 0 (d.2.2.2.2.2 0 + 1) k ≤ _
      unfold nu
      by_cases q : k = 0
      · rw [if_pos q, ← q]; omega
      · rw [if_neg q]; omega
  · have hk : ∀ (cs : Nat → Nat) (j : Nat), (∀ k, k ≠ 2 → k ≠ 3 → cs k ≤ N + 1) → cs j ≤ N → (∀ k, k ≠ 2 → k ≠ 3 → nu cs j (cs j + 1) k ≤ N + 1) := fun cs j h1 h2 k h3 h4 => by
      unfold nu
      by_cases q : k = j
      · rw [if_pos q]; omega
      · rw [if_neg q]; exact h1 k h3 h4
    have b1 : ∀ k, k ≠ 2 → k ≠ 3 → nu (nu d.2.2.2.2.2 1 (d.2.2.2.2.2 1 + 1)) 3 (d.2.2.2.2.2 3 + 10 * pc sh) k ≤ N + 1 := fun k h2 h3 => by
      rw [nu_n h3]
      exact hk d.2.2.2.2.2 1 (fun k h2 h3 => Nat.le_trans (h.2 k h2 h3) (by omega)) (h.2 1 (by decide) (by decide)) k h2 h3
    have b5 : ∀ j, j ≠ 1 → j ≠ 2 → j ≠ 3 → nu (nu d.2.2.2.2.2 1 (d.2.2.2.2.2 1 + 1)) 3 (d.2.2.2.2.2 3 + 10 * pc sh) j ≤ N := fun j h1 h2 h3 => by
      rw [nu_n h3, nu_n h1]
      exact h.2 j h2 h3
    have e5 : ∀ j, j ≠ 1 → j ≠ 3 → nu (nu d.2.2.2.2.2 1 (d.2.2.2.2.2 1 + 1)) 3 (d.2.2.2.2.2 3 + 10 * pc sh) j = d.2.2.2.2.2 j := fun j h1 h3 => by rw [nu_n h3, nu_n h1]
    unfold keptNew
    have hnew : ∀ y : PL, y = (sh, bestP (szN d.2.1 d.2.2.1) sh, d.2.1, 1, 0) → y.2.2.2.1 ≤ N + 1 := fun y e => by rw [e]; show 1 ≤ _; omega
    split
    · refine ⟨fun y hy => ?_, b1⟩
      rcases List.mem_append.mp (show y ∈ d.2.2.2.1 ++ [_] from hy) with m | m
      · exact Nat.le_trans (h.1 y m) (by omega)
      · exact hnew y (List.mem_singleton.mp m)
    · split
      · refine ⟨fun y hy => ?_, ?_⟩
        · rcases List.mem_append.mp (show y ∈ d.2.2.2.1.eraseIdx _ ++ [_] from hy) with m | m
          · exact Nat.le_trans (h.1 y (mem_erase m)) (by omega)
          · exact hnew y (List.mem_singleton.mp m)
        · have := hk _ 5 b1 (b5 5 (by decide) (by decide) (by decide))
          rw [e5 5 (by decide) (by decide)] at this
          exact this
      · refine ⟨fun y hy => Nat.le_trans (h.1 y hy) (by omega), ?_⟩
        have := hk _ 8 b1 (b5 8 (by decide) (by decide) (by decide))
        rw [e5 8 (by decide) (by decide)] at this
        exact this
theorem CB.rD {N : Nat} {d : DS} (h : CB N d) (hS : SOK d) {sh : Nat} (hsh : sh < 32) (h0 : sh ≠ 0) : CB (N + 8) (runD d sh) := by
  have h1 := (h.rA sh).aC (costN (szN d.1 d.2.2.1) (runA d sh).1)
  have h4 : (runA d sh).2.2.2.2.2.1.length ≤ 4 := (runA_S2 hS hsh h0).2.2.2.2.1
  have h2 : CB (N + 1) ((addC (runA d sh).2.2 2 (costN (szN d.1 d.2.2.1) (runA d sh).1)).1, gcnt (addC (runA d sh).2.2 2 (costN (szN d.1 d.2.2.1) (runA d sh).1)).1 (addC (runA d sh).2.2 2 (costN (szN d.1 d.2.2.1) (runA d sh).1)).2.1 sh 5, (addC (runA d sh).2.2 2 (costN (szN d.1 d.2.2.1) (runA d sh).1)).2.2) := h1
  exact (h2.thr h4 4 _).mono (by omega)
theorem pair_int : ∀ s, s < 32 → ∀ t, t < 5 → ∀ u, u < 5 → (((nI s >>> (nI t &&& 31)) &&& (nI s >>> (nI u &&& 31))) &&& (1 : Int32)) = nI (if s &&& (2 ^ t ||| 2 ^ u) = 2 ^ t ||| 2 ^ u then 1 else 0) := by decide +kernel
section LAC
variable {ct : Nat → ClassId} {a0 ax : Nat} {pa pf pt pl pw : Nat} {hc : KH} {X : va_W} {A : Nat → Int32} {L V : Nat → Int64} {d : DS}
theorem l_part65 {tt uu : Nat} (htt : tt < 5) (huu : uu < 5) {a7 : Int32} {T0 : Nat → Int32} {Post : Int32 → KH → Prop} : ∀ (n : Nat) (U B : List PL) (c : Nat) (x4 : Int32) (F T : Nat → Int32) (h : KH), x4 = nI U.length + (-1 : Int32) → U.length < n → (∀ x ∈ U, POK x) → (U ++ B).length ≤ 4 → LH ct pa pf pt pl pw hc X A F T L V h → PF F (U ++ B) → T 0 = nI (U ++ B).length → (∀ j, j ≠ 0 → T j = T0 j) →
    (∀ F' T' h', LH ct pa pf pt pl pw hc X A F' T' L V h' → PF F' (U.filter (keepJ (2 ^ tt ||| 2 ^ uu)) ++ B) → T' 0 = nI (U.filter (keepJ (2 ^ tt ||| 2 ^ uu)) ++ B).length → (∀ j, j ≠ 0 → T' j = T0 j) → ldI h' pt (5 : Int32) (ct 0) (fun v6 => stI h' pt (5 : Int32) (ct 0) (v6 + nI (c + (U.length - (U.filter (keepJ (2 ^ tt ||| 2 ^ uu))).length))) (fun h7 => frC h7 ax (fun hc P => g_X5_part ct a0 ax (nI tt) (nI uu) a7 hc P) (fun v8 h8 => if v8 = nI (c + (U.length - (U.filter (keepJ (2 ^ tt ||| 2 ^ uu))).length)) then Post (1 : Int32) h8 else Post (0 : Int32) h8)))) →
    g_L_isPart_L65 ct a0 ax pa pf pt (nI tt) (nI uu) a7 Post n (nI c) x4 h
  | 0, U, B, c, x4, F, T, h, e4, hn, hok, h4, hl, hF, hT, hT2, hP => by omega
  | n + 1, U, B, c, x4, F, T, h, e4, hn, hok, h4, hl, hF, hT, hT2, hP => by
    show g_L_isPart_L65b _ _ _ _ _ _ _ _ _ _ _ _ _ _
    unfold g_L_isPart_L65b
    rcases snoc_or U with rfl | ⟨U', x, rfl⟩
    · rw [if_pos (show x4 < (0 : Int32) by rw [e4]; exact m1_lt)]
      exact hP F T h hl hF hT hT2
    · rw [List.length_append] at e4 hn
      have hlen1 : [x].length = 1 := rfl
      rw [hlen1] at e4 hn
      have hUl : U'.length < 4 := by
        have := h4
        rw [List.length_append, List.length_append, hlen1] at this
        omega
      have e5 : x4 = nI U'.length := by rw [e4, dec32 _ (by omega) (by omega)]; rfl
      clear e4
      subst e5
      have hx : POK x := hok x (List.mem_append_right _ List.mem_cons_self)
      have hok' : ∀ y ∈ U', POK y := fun y hy => hok y (List.mem_append_left _ hy)
      have hi : (U' ++ [x] ++ B)[U'.length]? = some x := get_mid
      have hFx := hF _ _ hi
      rw [if_neg (show ¬ nI U'.length < (0 : Int32) from nI_pos (by omega))]
      refine rdA hl.f (k := 14 * U'.length + 12) (ix14 _ 12) (by omega) (by decide) hFx.2.2.2.2 ?_
      have skip : keepJ (2 ^ tt ||| 2 ^ uu) x = true → ∀ h, LH ct pa pf pt pl pw hc X A F T L V h → g_L_isPart_L65 ct a0 ax pa pf pt (nI tt) (nI uu) a7 Post n (nI c) (nI U'.length + (-1 : Int32)) h := fun hk h hl => by
        have e9 : U' ++ [x] ++ B = U' ++ (x :: B) := by rw [List.append_assoc]; rfl
        rw [e9] at hF hT h4
        refine l_part65 htt huu n U' (x :: B) c _ F T h rfl (by omega) hok' h4 hl hF hT hT2 (fun F' T' h' a1 a2 a3 a4 => ?_)
        have ef : (U' ++ [x]).filter (keepJ (2 ^ tt ||| 2 ^ uu)) ++ B = U'.filter (keepJ (2 ^ tt ||| 2 ^ uu)) ++ x :: B := filt_t hk
        have el : (U' ++ [x]).length - ((U' ++ [x]).filter (keepJ (2 ^ tt ||| 2 ^ uu))).length = U'.length - (U'.filter (keepJ (2 ^ tt ||| 2 ^ uu))).length := by
          rw [List.filter_append, List.filter_cons, if_pos hk, List.length_append, List.length_append]
          show U'.length + 1 - ((U'.filter (keepJ (2 ^ tt ||| 2 ^ uu))).length + 1) = _
          omega
        have := hP F' T' h' a1
        rw [ef, el] at this
        exact this a2 a3 a4
      have hp2 := hx.2.2.2.2
      by_cases q : x.2.2.2.2 = 0
      · rw [if_pos (show nI x.2.2.2.2 = (0 : Int32) by rw [q]; rfl), ix14o]
        refine rdA hl.f (k := 14 * U'.length) rfl (by omega) (by decide) hFx.1 ?_
        refine rdA hl.f (k := 14 * U'.length) rfl (by omega) (by decide) hFx.1 ?_
        have ep := pair_int x.1 hx.2.1 tt htt uu huu
        by_cases q2 : x.1 &&& (2 ^ tt ||| 2 ^ uu) = 2 ^ tt ||| 2 ^ uu
        · rw [if_pos q2] at ep
          rw [if_pos (show (((nI x.1 >>> (nI tt &&& 31)) &&& (nI x.1 >>> (nI uu &&& 31))) &&& (1 : Int32)) = 1 from ep)]
          have hk : keepJ (2 ^ tt ||| 2 ^ uu) x = false := by unfold keepJ; rw [decide_eq_true q2, q]; rfl
          have hsl : U'.length < (U' ++ [x] ++ B).length := (List.getElem?_eq_some_iff.mp hi).1
          refine l_out h4 hsl hT hl (fun F' h' hl' e1 e2 => ?_)
          have hF' := hF.erase hsl e1 e2
          have ee : (U' ++ [x] ++ B).eraseIdx U'.length = U' ++ B := erase_mid
          rw [ee] at hF'
          have elen : (U' ++ [x] ++ B).length - 1 = (U' ++ B).length := by
            rw [List.length_append, List.length_append, List.length_append, hlen1]
            omega
          rw [elen] at hl'
          rw [nI_s1]
          refine l_part65 htt huu n U' B (c + 1) _ F' _ h' rfl (by omega) hok' (by rw [← elen]; omega) hl' hF' (if_pos rfl) (fun j hj => (if_neg hj).trans (hT2 j hj)) (fun F'' T'' h'' a1 a2 a3 a4 => ?_)
          have ef : (U' ++ [x]).filter (keepJ (2 ^ tt ||| 2 ^ uu)) ++ B = U'.filter (keepJ (2 ^ tt ||| 2 ^ uu)) ++ B := filt_f hk
          have hle := List.length_filter_le (keepJ (2 ^ tt ||| 2 ^ uu)) U'
          have el : c + ((U' ++ [x]).length - ((U' ++ [x]).filter (keepJ (2 ^ tt ||| 2 ^ uu))).length) = c + 1 + (U'.length - (U'.filter (keepJ (2 ^ tt ||| 2 ^ uu))).length) := by
            rw [List.filter_append, List.filter_cons, if_neg (by rw [hk]; decide), List.length_append, List.length_append]
            show c + (U'.length + 1 - ((U'.filter (keepJ (2 ^ tt ||| 2 ^ uu))).length + 0)) = _
            omega
          have := hP F'' T'' h'' a1
          rw [ef, el] at this
          exact this a2 a3 a4
        · rw [if_neg q2] at ep
          rw [if_neg (show ¬ (((nI x.1 >>> (nI tt &&& 31)) &&& (nI x.1 >>> (nI uu &&& 31))) &&& (1 : Int32)) = 1 from fun z => by
            rw [ep] at z
            exact absurd z (by decide +kernel))]
          exact skip (by unfold keepJ; rw [decide_eq_false q2, Bool.and_false]; rfl) h hl
      · rw [if_neg (nI_ne0 (by omega) (by omega))]
        exact skip (by unfold keepJ; rw [beq_eq_false_iff_ne.mpr q]; rfl) h hl
end LAC
section LAD
variable {ct : Nat → ClassId} {a0 ax : Nat} {pa pf pt pl pw : Nat} {hc h : KH} {A F T : Nat → Int32} {L V : Nat → Int64} {d : DS} {N : Nat}
/-- what a step leaves: a state that the arrays tell -/
def StO (ct : Nat → ClassId) (a0 ax pa pf pt pl pw N : Nat) (Post : Int32 → KH → Prop) : Prop := ∀ hc d A F T L V h, LH ct pa pf pt pl pw hc [] A F T L V h → OD ct a0 ax hc d → RA d A F T L → CB (N + 8) d → Post 1 h
theorem l_isPart (hR : RA d A F T L) (hCB : CB N d) {t u n : Nat} (ht : t < 5) (hu : u < 5) (n0 : 1 ≤ n) (n1 : n ≤ 100) (hl : LH ct pa pf pt pl pw hc [] A F T L V h) (hO : OD ct a0 ax hc d) {Post : Int32 → KH → Prop} (hP : StO ct a0 ax pa pf pt pl pw N Post) : g_L_isPart ct a0 ax pa pf pt (nI t) (nI u) (nI n) h Post := by
  have hR0 := hR
  obtain ⟨⟨r1, r2, r3, r4, r5, r6⟩, r7, r8⟩ := hR0
  have hI := hO.I
  have hS := hI.1
  have h4 := hS.2.2.2.2.1
  unfold g_L_isPart
  by_cases q : t = u
  · subst q
    rw [if_pos rfl]
    refine SPL.frc hl hO (fun P hP => u_part0 hO ht (nI n) hP) (fun h1 hc1 hl1 hO1 => ?_)
    rw [if_pos rfl]
    exact hP hc1 d A F T L V h1 hl1 hO1 hR (hCB.mono (by omega))
  · rw [if_neg (fun z => q (nI_inj31 (by omega) (by omega) z))]
    refine wrA hl.a (k := 10 + 5 * t + u) (ix1 t u) (by omega) (by decide) ?_
    have hl1 := hl.ua (upd A (10 + 5 * t + u) (nI n))
    refine wrA hl1.a (k := 10 + 5 * u + t) (ix1 u t) (by omega) (by decide) ?_
    have hl2 := hl1.ua (upd (upd A (10 + 5 * t + u) (nI n)) (10 + 5 * u + t) (nI n))
    refine rdA hl2.t (k := 0) rfl (by decide) (by decide) r5 ?_
    have hpt : ∀ i j, i < 5 → j < 5 → upd (upd A (10 + 5 * t + u) (nI n)) (10 + 5 * u + t) (nI n) (10 + 5 * i + j) = nI (setP1 (setP1 d.2.2.1 t u n) u t n i j) := fun i j hi hj => by
      rw [setP1_i, setP1_i]
      show (if 10 + 5 * i + j = 10 + 5 * u + t then nI n else if 10 + 5 * i + j = 10 + 5 * t + u then nI n else A (10 + 5 * i + j)) = _
      by_cases z1 : i = u ∧ j = t
      · rw [if_pos z1, if_pos (by omega)]
      · rw [if_neg z1, if_neg (by omega)]
        by_cases z2 : i = t ∧ j = u
        · rw [if_pos z2, if_pos (by omega)]
        · rw [if_neg z2, if_neg (by omega)]
          exact r1.2 i j hi hj
    have hlow : ∀ j, j < 10 ∨ j = 35 → upd (upd A (10 + 5 * t + u) (nI n)) (10 + 5 * u + t) (nI n) j = A j := fun j hj => (if_neg (by omega)).trans (if_neg (by omega))
    refine l_part65 ht hu 1024 d.2.2.2.1 [] 0 _ F T _ (sub1_int _ (by omega)) (by omega) hS.2.2.2.1 (by rw [List.append_nil]; exact h4) hl2 (by rw [List.append_nil]; exact r4) (by rw [List.append_nil]; exact r5) (fun j _ => rfl) (fun F' T' h' a1 a2 a3 a4 => ?_)
    rw [List.append_nil] at a2 a3
    rw [Nat.zero_add]
    refine rdA a1.t (k := 5) rfl (by decide) (by decide) ((a4 5 (by decide)).trans r6.2.2.2.2.1) ?_
    refine wrA a1.t (k := 5) rfl (by decide) (by decide) ?_
    have hl3 := a1.ut (upd T' 5 (nI (d.2.2.2.2.2 6) + nI (d.2.2.2.1.length - (d.2.2.2.1.filter (keepJ (2 ^ t ||| 2 ^ u))).length)))
    refine SPL.frc hl3 hO (fun P hP => u_part hO ht hu q n0 n1 hP) (fun h5 hc5 hl5 hO5 => ?_)
    rw [if_pos rfl]
    have hTC : TC T' d.2.2.2.2.2 := ⟨(a4 1 (by decide)).trans r6.1, (a4 2 (by decide)).trans r6.2.1, (a4 3 (by decide)).trans r6.2.2.1, (a4 4 (by decide)).trans r6.2.2.2.1, (a4 5 (by decide)).trans r6.2.2.2.2.1, (a4 6 (by decide)).trans r6.2.2.2.2.2.1, (a4 7 (by decide)).trans r6.2.2.2.2.2.2⟩
    refine hP hc5 _ _ F' _ L V h5 hl5 hO5 ⟨⟨⟨fun i hi => (hlow _ (by omega)).trans (r1.1 i hi), hpt⟩, ⟨fun i hi => (hlow _ (by omega)).trans (r2.1 i hi), hpt⟩, (hlow 35 (Or.inr rfl)).trans r3, a2, (if_neg (by decide)).trans a3, hTC.u5 (nI_add _ _)⟩, ?_, ?_⟩ ((CB.thr (d := (d.1, d.2.1, setP1 (setP1 d.2.2.1 t u n) u t n, d.2.2.2)) hCB h4 6 _).mono (by omega))
    · exact r7.trans (congrArg lN (show nu d.2.2.2.2.2 6 (d.2.2.2.2.2 6 + (d.2.2.2.1.length - (d.2.2.2.1.filter (keepJ (2 ^ t ||| 2 ^ u))).length)) 2 = d.2.2.2.2.2 2 from nu_n (by decide)).symm)
    · exact r8.trans (congrArg lN (show nu d.2.2.2.2.2 6 (d.2.2.2.2.2 6 + (d.2.2.2.1.length - (d.2.2.2.1.filter (keepJ (2 ^ t ||| 2 ^ u))).length)) 3 = d.2.2.2.2.2 3 from nu_n (by decide)).symm)
theorem PF.pin {l : List PL} (hF : PF F l) {i : Nat} {x : PL} (hi : l[i]? = some x) (pn : Nat) : PF (upd F (14 * i + 12) (nI pn)) (l.set i (pinP pn x)) := fun j y hj => by
  rw [List.getElem?_set] at hj
  by_cases q : i = j
  · subst q
    rw [if_pos rfl, if_pos (List.getElem?_eq_some_iff.mp hi).1] at hj
    cases hj
    obtain ⟨h1, h2, h3, h4, h5⟩ := hF i x hi
    exact ⟨(if_neg (by omega)).trans h1, fun k hk => (if_neg (by omega)).trans (h2 k hk), fun t ht => (if_neg (by omega)).trans (h3 t ht), (if_neg (by omega)).trans h4, if_pos rfl⟩
  · rw [if_neg q] at hj
    exact (hF j y hj).congr (fun c hc => if_neg (by omega))
theorem l_isPinned (hR : RA d A F T L) (hCB : CB N d) {s : Nat} (hs : s < 32) (s1 : 1 ≤ s) (hl : LH ct pa pf pt pl pw hc [] A F T L V h) (hO : OD ct a0 ax hc d) {Post : Int32 → KH → Prop} (hP : StO ct a0 ax pa pf pt pl pw N Post) : g_L_isPinned ct a0 ax pa pf pt (nI s) h Post := by
  have hR0 := hR
  obtain ⟨⟨r1, r2, r3, r4, r5, r6⟩, r7, r8⟩ := hR0
  have hI := hO.I
  have hS := hI.1
  have h4 := hS.2.2.2.2.1
  unfold g_L_isPinned
  refine l_place hl.f hl.t r5 h4 r4 (fun x hx => (hS.2.2.2.1 x hx).2.1) hs (fun i x hi hx => ?_) (fun hno => ?_)
  · have hil := (List.getElem?_eq_some_iff.mp hi).1
    have hFx := r4 i x hi
    have hok := hS.2.2.2.1 x (List.mem_of_getElem? hi)
    have hp2 := hok.2.2.2.2
    rw [if_pos (show (0 : Int32) ≤ nI i from nI_le (a := 0) (Nat.zero_le _) (by omega))]
    refine rdA hl.f (k := 14 * i + 12) (ix14 i 12) (by omega) (by decide) hFx.2.2.2.2 ?_
    rw [show (1 : Int32) - nI x.2.2.2.2 = nI (1 - x.2.2.2.2) from pk_sub (a := 1) (by omega)]
    refine wrA hl.f (k := 14 * i + 12) (ix14 i 12) (by omega) (by decide) ?_
    have hl1 := hl.uf (upd F (14 * i + 12) (nI (1 - x.2.2.2.2)))
    refine rdA hl1.f (k := 14 * i + 12) (ix14 i 12) (by omega) (by decide) (if_pos rfl) ?_
    have hpn : 1 - x.2.2.2.2 < 2 := by omega
    obtain ⟨dS, dZ, dD⟩ := pinS_SZD hi hpn hI
    have hR1 : RA (pinS d i x (1 - x.2.2.2.2)) A (upd F (14 * i + 12) (nI (1 - x.2.2.2.2))) T L := by
      refine ⟨⟨r1, r2, r3, r4.pin hi _, ?_, r6⟩, r7, r8⟩
      show _ = nI (d.2.2.2.1.set i _).length
      rw [List.length_set]
      exact r5
    have hCB1 : CB N (pinS d i x (1 - x.2.2.2.2)) := ⟨fun y hy => by
      rcases mem_set (show y ∈ d.2.2.2.1.set i _ from hy) with z | z
      · exact hCB.1 y z
      · rw [z]; exact hCB.1 x (List.mem_of_getElem? hi), hCB.2⟩
    have hup : ∀ P : Int32 → KH → Prop, (∀ h1, OD ct a0 ax h1 (pinT d i x (1 - x.2.2.2.2)) → P (nI (1 - x.2.2.2.2)) h1) → g_X5_pin ct a0 ax (nI s) hc P := fun P hP => u_pin hO hs s1 hi hx hP
    unfold pinT at hup
    generalize 1 - x.2.2.2.2 = pn at *
    rcases (show pn = 0 ∨ pn = 1 by omega) with rfl | rfl
    · rw [if_pos (show nI 0 = (0 : Int32) from rfl)]
      rw [if_pos rfl] at hup
      refine l_throwD dS hl1 hR1 (fun F2 T2 h2 hl2 hR2 => ?_)
      refine SPL.frc hl2 hO hup (fun h3 hc3 hl3 hO3 => ?_)
      rw [if_pos rfl, if_neg (show ¬ nI _ < (0 : Int32) from nI_pos (by have := dS.2.2.2.2.1; omega))]
      exact hP hc3 _ A F2 T2 L V h3 hl3 hO3 hR2 ((hCB1.thr dS.2.2.2.2.1 4 _).mono (by omega))
    · rw [if_neg (show ¬ nI 1 = (0 : Int32) by decide +kernel)]
      rw [if_neg (show ¬ 1 = 0 by decide)] at hup
      refine SPL.frc hl1 hO hup (fun h3 hc3 hl3 hO3 => ?_)
      rw [if_pos rfl, if_neg (show ¬ (0 : Int32) < 0 by decide)]
      exact hP hc3 _ A _ T L V h3 hl3 hO3 hR1 (hCB1.mono (by omega))
  · rw [if_neg (show ¬ (0 : Int32) ≤ -1 by decide)]
    refine SPL.frc hl hO (fun P hP => u_pin0 hO hs s1 hno hP) (fun h3 hc3 hl3 hO3 => ?_)
    rw [if_pos rfl]
    exact hP hc3 d A F T L V h3 hl3 hO3 hR (hCB.mono (by omega))
end LAD
