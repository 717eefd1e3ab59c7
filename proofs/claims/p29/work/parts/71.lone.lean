/-! the law's own reckoning: sizes, costs, drifts, places -/
theorem ix1 (e t : Nat) : ((10 : Int32) + ((5 : Int32) * nI e)) + nI t = nI (10 + 5 * e + t) := by
  rw [show (10 : Int32) = nI 10 from rfl, show (5 : Int32) = nI 5 from rfl, pk_mul, nI_add, nI_add]
theorem nI_s1 (n : Nat) : nI n + (1 : Int32) = nI (n + 1) := nI_1 n
theorem lit_add (c n : Nat) : (OfNat.ofNat c : Int32) + nI n = nI (c + n) := nI_add c n
theorem ix14 (k c : Nat) : ((14 : Int32) * nI k) + nI c = nI (14 * k + c) := by
  rw [show (14 : Int32) = nI 14 from rfl, pk_mul, nI_add]
theorem ix14o (k : Nat) : (14 : Int32) * nI k = nI (14 * k) := by
  rw [show (14 : Int32) = nI 14 from rfl, pk_mul]
theorem ixb (b c k : Nat) : (nI b + nI c) + nI k = nI (b + c + k) := by rw [nI_add, nI_add]
/-- numbers of tables from b on, parts, as the law keeps them -/
def AV (A : Nat → Int32) (b : Nat) (nm : Nat → Nat) (pt : Nat → Nat → Nat) : Prop := (∀ t, t < 5 → A (b + t) = nI (nm t)) ∧ ∀ e t, e < 5 → t < 5 → A (10 + 5 * e + t) = nI (pt e t)
section LONE
variable {ct : Nat → ClassId} {a0 : Nat} {h : KH} {pa : Nat} {A : Nat → Int32} {nm : Nat → Nat} {pt : Nat → Nat → Nat} {b : Nat}
theorem l_cut {x : Int64} {Post : Int32 → KH → Prop} (hP : Post (tv x) h) : g_L_cut ct a0 x h Post := by
  unfold g_L_cut
  unfold tv at hP
  by_cases q : (1000000000 : Int64) < x
  · rw [if_pos q] at hP
    rw [if_neg (fun z => by
      have z1 := (lg_cmp_le _ _).mp z
      have a := Int64.lt_iff_toInt_lt.mp q
      have b := Int64.le_iff_toInt_le.mp z1
      omega)]
    exact hP
  · rw [if_neg q] at hP
    rw [if_pos ((lg_cmp_le _ _).mpr (Int64.le_iff_toInt_le.mpr (Int.not_lt.mp (fun z => q (Int64.lt_iff_toInt_lt.mpr z)))))]
    exact hP
theorem l_size38 (ha : h pa = some (.inl (ct 0, 36, .inl A))) {s t : Nat} (hs : s < 32) (ht : t < 5) (hb : bi s t = 1) (hp : PB pt) (hv : ∀ e t, e < 5 → t < 5 → A (10 + 5 * e + t) = nI (pt e t)) {a3 : Int32} {Post : Int64 → KH → Prop} {k5 : Int64 → Int32 → KH → Prop} {x : Nat} (hx : x ≤ 31250000000000) (hk : k5 (lN (prE pt s t t x)) (nI (t + 1)) h) : ∀ (n e : Nat), e ≤ t → t < n + e → g_L_size_L38 ct a0 pa (nI s) a3 Post k5 n (lN (prE pt s t e x)) (nI t) (nI e) h
  | 0, e, h1, h2 => by omega
  | n + 1, e, h1, h2 => by
    show g_L_size_L38b _ _ _ _ _ _ _ _ _ _ _ _
    unfold g_L_size_L38b
    by_cases he : t ≤ e
    · have e0 : e = t := by omega
      subst e0
      rw [if_pos (nI_le (Nat.le_refl _) (by omega)), nI_1]
      exact hk
    · rw [if_neg (nI_ge (by omega) (by omega)), if_pos (bit1 hs ht hb)]
      have hbd := prE_bd hp s t ht x e (by omega)
      have ih : g_L_size_L38 ct a0 pa (nI s) a3 Post k5 n (lN (prE pt s t (e + 1) x)) (nI t) (nI (e + 1)) h := l_size38 ha hs ht hb hp hv hx hk n (e + 1) (by omega) (by omega)
      by_cases q : bi s e = 1
      · rw [if_pos (bit1 hs (by omega) q)]
        refine rdA ha (k := 10 + 5 * e + t) (ix1 e t) (by omega) (by decide) (hv e t (by omega) ht) ?_
        have hpe := hp e t (by omega) ht
        have h3 : prE pt s t e x * pt e t ≤ 31250000000000 * 100 := Nat.mul_le_mul (Nat.le_trans hbd hx) hpe.2
        rw [nI_l (by omega), lN_mul, show (100 : Int64) = lN 100 from rfl, lN_div100 (by omega), nI_1]
        rw [show prE pt s t (e + 1) x = prE pt s t e x * pt e t / 100 from if_pos q] at ih
        exact ih
      · rw [if_neg (bit0 hs (by omega) q), nI_1]
        rw [show prE pt s t (e + 1) x = prE pt s t e x from if_neg q] at ih
        exact ih
theorem l_size38n {s t : Nat} (hs : s < 32) (ht : t < 5) (hb : bi s t ≠ 1) {a3 : Int32} {Post : Int64 → KH → Prop} {k5 : Int64 → Int32 → KH → Prop} {x : Int64} (hk : k5 x (nI (t + 1)) h) : ∀ (n e : Nat), e ≤ t → t < n + e → g_L_size_L38 ct a0 pa (nI s) a3 Post k5 n x (nI t) (nI e) h
  | 0, e, h1, h2 => by omega
  | n + 1, e, h1, h2 => by
    show g_L_size_L38b _ _ _ _ _ _ _ _ _ _ _ _
    unfold g_L_size_L38b
    by_cases he : t ≤ e
    · have e0 : e = t := by omega
      subst e0
      rw [if_pos (nI_le (Nat.le_refl _) (by omega)), nI_1]
      exact hk
    · rw [if_neg (nI_ge (by omega) (by omega)), if_neg (bit0 hs ht hb), nI_1]
      exact l_size38n hs ht hb hk n (e + 1) (by omega) (by omega)
theorem l_size5 (ha : h pa = some (.inl (ct 0, 36, .inl A))) (hA : AV A b nm pt) (hb5 : b ≤ 5) (hn : NB nm) (hp : PB pt) {s : Nat} (hs : s < 32) {Post : Int64 → KH → Prop} (hP : Post (lN (szN nm pt s)) h) : ∀ (n t : Nat), t ≤ 5 → 5 < n + t → g_L_size_L5 ct a0 pa (nI s) (nI b) Post n (lN (prU nm pt s t)) (nI t) h
  | 0, t, h1, h2 => by omega
  | n + 1, t, h1, h2 => by
    show g_L_size_L5b _ _ _ _ _ _ _ _ _ _
    unfold g_L_size_L5b
    have hbd := Nat.le_trans (prU_bd hn hp s t h1) (pw5_le h1)
    by_cases he : 5 ≤ t
    · have e0 : t = 5 := by omega
      subst e0
      rw [if_pos (show (5 : Int32) ≤ nI 5 by decide +kernel)]
      unfold szN at hP
      by_cases q : prU nm pt s 5 < 1
      · rw [if_pos q] at hP
        rw [if_pos (show lg_cmp (lN (prU nm pt s 5)) (0 : Int64) = 0 from (lg_cmp_eq _ _).mpr (by rw [show prU nm pt s 5 = 0 by omega]; rfl))]
        exact hP
      · rw [if_neg q] at hP
        rw [if_neg (show ¬ lg_cmp (lN (prU nm pt s 5)) (0 : Int64) = 0 from fun z => q (by
          have := (pk_lEQ (a := prU nm pt s 5) (b := 0) (by omega) (by decide)).mp ((lg_cmp_eq _ _).mp z)
          omega))]
        exact hP
    · rw [if_neg (show ¬ (5 : Int32) ≤ nI t from nI_ge (b := 5) (by omega) (by decide))]
      have ih := l_size5 ha hA hb5 hn hp hs hP n (t + 1) (by omega) (by omega)
      have hbl := bi_lt s t
      by_cases q : bi s t = 1
      · rw [if_pos (bit1 hs (by omega) q)]
        refine rdA ha (k := b + t) (nI_add b t) (by omega) (by decide) (hA.1 t (by omega)) ?_
        have h3 := hn t (by omega)
        have h4 : prU nm pt s t * nm t ≤ 31250000000000 := by
          have := Nat.mul_le_mul (prU_bd hn hp s t h1) h3.2
          have e5 : pw5 (t + 1) = pw5 t * 500 := Nat.pow_succ _ _
          exact Nat.le_trans this (e5 ▸ pw5_le (t := t + 1) (by omega))
        rw [nI_l (by omega), lN_mul]
        rw [show prU nm pt s (t + 1) = prE pt s t t (prU nm pt s t * nm t) from if_pos q] at ih
        exact l_size38 ha hs (by omega) q hp hA.2 h4 ih 1024 0 (Nat.zero_le _) (by omega)
      · rw [if_neg (bit0 hs (by omega) q), Int64.mul_one]
        rw [show prU nm pt s (t + 1) = prU nm pt s t from if_neg q] at ih
        exact l_size38n hs (by omega) q ih 1024 0 (Nat.zero_le _) (by omega)
theorem l_size (ha : h pa = some (.inl (ct 0, 36, .inl A))) (hA : AV A b nm pt) (hb5 : b ≤ 5) (hn : NB nm) (hp : PB pt) {s : Nat} (hs : s < 32) {Post : Int64 → KH → Prop} (hP : Post (lN (szN nm pt s)) h) : g_L_size ct a0 pa (nI s) (nI b) h Post := l_size5 ha hA hb5 hn hp hs hP 1024 0 (by decide) (by decide)
def pcl (s : Nat) : Nat → Nat
  | 0 => 0
  | t + 1 => pcl s t + bi s t
theorem l_tables4 {s : Nat} (hs : s < 32) {Post : Int32 → KH → Prop} (hP : Post (nI (pcl s 5)) h) : ∀ (n t : Nat), t ≤ 5 → 5 < n + t → g_L_tables_L4 ct a0 (nI s) Post n (nI (pcl s t)) (nI t) h
  | 0, t, h1, h2 => by omega
  | n + 1, t, h1, h2 => by
    show g_L_tables_L4b _ _ _ _ _ _ _ _
    unfold g_L_tables_L4b
    by_cases he : 5 ≤ t
    · have e0 : t = 5 := by omega
      subst e0
      rw [if_pos (show (5 : Int32) ≤ nI 5 by decide +kernel)]
      exact hP
    · rw [if_neg (show ¬ (5 : Int32) ≤ nI t from nI_ge (b := 5) (by omega) (by decide))]
      have ih : g_L_tables_L4 ct a0 (nI s) Post n (nI (pcl s (t + 1))) (nI (t + 1)) h := l_tables4 hs hP n (t + 1) (by omega) (by omega)
      rw [show ((nI s >>> (nI t &&& 31)) &&& (1 : Int32)) = nI (bi s t) from bi_int s hs t (by omega), nI_add, nI_1]
      exact ih
theorem pcl5 : ∀ s, s < 32 → pcl s 5 = pc s := by decide +kernel
theorem l_tables {s : Nat} (hs : s < 32) {Post : Int32 → KH → Prop} (hP : Post (nI (pc s)) h) : g_L_tables ct a0 (nI s) h Post := l_tables4 hs (by rw [pcl5 s hs]; exact hP) 1024 0 (by decide) (by decide)
/-- a plan at the place b of the law's array F -/
def FP (F : Nat → Int32) (b : Nat) (x : PL) : Prop := F b = nI x.1 ∧ (∀ k, k < 5 → F (b + 1 + k) = if k < x.2.1.length then nI (x.2.1.getD k 0) else -4) ∧ (∀ t, t < 5 → F (b + 6 + t) = nI (x.2.2.1 t)) ∧ F (b + 11) = nI x.2.2.2.1 ∧ F (b + 12) = nI x.2.2.2.2
theorem l_cost9 (ha : h pa = some (.inl (ct 0, 36, .inl A))) (hA : AV A b nm pt) (hb5 : b ≤ 5) (hn : NB nm) (hp : PB pt) {q N at' : Nat} {F : Nat → Int32} (hf : h q = some (.inl (ct 0, N, .inl F))) (hN : at' + 12 ≤ N) (hN2 : N < 1000) {p : List Nat} (hl5 : p.length ≤ 5) (ht5 : ∀ t ∈ p, t < 5) (hF : ∀ k, k < 5 → F (at' + 1 + k) = if k < p.length then nI (p.getD k 0) else -4) {Post : Int64 → KH → Prop} : ∀ (n k set acc : Nat), k ≤ p.length → 5 < n + k → set < 32 → Post (lN (acc + costG (szN nm pt) set (p.drop k))) h → g_L_cost_L9 ct a0 pa q (nI at') (nI b) Post n (lN acc) (nI set) (nI k) h
  | 0, k, set, acc, h1, h2, h3, hP => by omega
  | n + 1, k, set, acc, h1, h2, h3, hP => by
    show g_L_cost_L9b _ _ _ _ _ _ _ _ _ _ _ _
    unfold g_L_cost_L9b
    by_cases he : 5 ≤ k
    · rw [if_pos (show (5 : Int32) ≤ nI k from nI_le (a := 5) he (by omega))]
      rw [List.drop_eq_nil_of_le (by omega)] at hP
      exact hP
    · rw [if_neg (show ¬ (5 : Int32) ≤ nI k from nI_ge (b := 5) (by omega) (by decide))]
      have hv := hF k (by omega)
      have ix : (nI at' + (1 : Int32)) + nI k = nI (at' + 1 + k) := ixb at' 1 k
      by_cases q9 : k < p.length
      · rw [if_pos q9] at hv
        have hm := getD_mem q9
        have ht := ht5 _ hm
        refine rdA hf (k := at' + 1 + k) ix (by omega) (by omega) hv ?_
        rw [if_neg (show ¬ nI (p.getD k 0) < (0 : Int32) from nI_pos (by omega))]
        refine rdA hf (k := at' + 1 + k) ix (by omega) (by omega) hv ?_
        have h32 := pow_lt32 _ ht
        rw [show ((1 : Int32) <<< (nI (p.getD k 0) &&& 31)) = nI (2 ^ p.getD k 0) from bit_int _ ht, or_int set h3 _ h32]
        rw [drop_at q9] at hP
        refine l_size ha hA hb5 hn hp (or_lt32 set h3 _ h32) ?_
        rw [lN_add, nI_1]
        refine l_cost9 ha hA hb5 hn hp hf hN hN2 hl5 ht5 hF n (k + 1) _ _ (by omega) (by omega) (or_lt32 set h3 _ h32) ?_
        rw [Nat.add_assoc]
        exact hP
      · rw [if_neg q9] at hv
        refine rdA hf (k := at' + 1 + k) ix (by omega) (by omega) hv ?_
        rw [if_pos (show (-4 : Int32) < 0 by decide)]
        rw [List.drop_eq_nil_of_le (by omega)] at hP
        exact hP
theorem l_cost (ha : h pa = some (.inl (ct 0, 36, .inl A))) (hA : AV A b nm pt) (hb5 : b ≤ 5) (hn : NB nm) (hp : PB pt) {q N at' : Nat} {F : Nat → Int32} (hf : h q = some (.inl (ct 0, N, .inl F))) (hN : at' + 12 ≤ N) (hN2 : N < 1000) {s : Nat} (hs : s < 32) {p : List Nat} (hpm : p ∈ perms s) (hF : ∀ k, k < 5 → F (at' + 1 + k) = if k < p.length then nI (p.getD k 0) else -4) {Post : Int64 → KH → Prop} (hP : Post (lN (costN (szN nm pt) p)) h) : g_L_cost ct a0 pa q (nI at') (nI b) h Post := by
  have hl := perms_len s hs p hpm
  have hl5 := pc_le s hs
  exact l_cost9 ha hA hb5 hn hp hf hN hN2 (by omega) (perms_tab s hs p hpm) hF 1024 0 0 0 (Nat.zero_le _) (by decide) (by decide) (by rw [Nat.zero_add]; exact hP)
theorem l_drifted2 {gs : Nat → Nat} {dl : Nat} {pf at' : Nat} {F : Nat → Int32} {x : PL} (ha : h pa = some (.inl (ct 0, 36, .inl A))) (hg : ∀ t, t < 5 → A (5 + t) = nI (gs t)) (hd : A 35 = nI dl) (hf : h pf = some (.inl (ct 0, 56, .inl F))) (hat : at' + 14 ≤ 56) (hF : FP F at' x) (hx : POK x) (hng : NB gs) (hdl : 100 ≤ dl ∧ dl ≤ 1000) {Post : Int32 → KH → Prop} (hP : Post (nI (if drB gs dl x then 1 else 0)) h) : ∀ (n t : Nat), t ≤ 5 → 5 < n + t → drU gs dl x t = false → g_L_drifted_L2 ct a0 pa pf (nI at') Post n (nI t) h
  | 0, t, h1, h2, hI => by omega
  | n + 1, t, h1, h2, hI => by
    show g_L_drifted_L2b _ _ _ _ _ _ _ _ _
    unfold g_L_drifted_L2b
    by_cases he : 5 ≤ t
    · have e0 : t = 5 := by omega
      subst e0
      rw [if_pos (show (5 : Int32) ≤ nI 5 by decide +kernel)]
      unfold drB at hP
      rw [hI] at hP
      exact hP
    · have ht : t < 5 := by omega
      rw [if_neg (show ¬ (5 : Int32) ≤ nI t from nI_ge (b := 5) (by omega) (by decide))]
      refine rdA ha (k := 5 + t) (lit_add 5 t) (by omega) (by decide) (hg t ht) ?_
      refine rdA hf (k := at' + 6 + t) (ixb at' 6 t) (by omega) (by decide) (hF.2.2.1 t ht) ?_
      refine rdA hf (k := at') rfl (by omega) (by decide) hF.1 ?_
      have hb := (hx.2.2.2.1 t ht)
      have hg5 := hng t ht
      have hit : cond gs dl x t = true → Post 1 h := fun e => by
        have e2 : drU gs dl x (t + 1) = true := by
          show (_ || cond _ _ _ t) = true
          rw [e, Bool.or_true]
        have e3 := drU_mono e2 (5 - (t + 1))
        rw [show t + 1 + (5 - (t + 1)) = 5 by omega] at e3
        unfold drB at hP
        rw [e3] at hP
        exact hP
      have go : cond gs dl x t = false → g_L_drifted_L2 ct a0 pa pf (nI at') Post n (nI t + 1) h := fun e => by
        rw [nI_s1]
        exact l_drifted2 ha hg hd hf hat hF hx hng hdl hP n (t + 1) (by omega) (by omega) (by show (drU _ _ _ t || cond _ _ _ t) = false; rw [hI, e]; rfl)
      by_cases q : bi x.1 t = 1
      · rw [if_pos (bit1 hx.2.1 ht q)]
        refine rdA ha (k := 35) rfl (by decide) (by decide) hd ?_
        have m1 : x.2.2.1 t * dl ≤ 500 * 1000 := Nat.mul_le_mul hb.2 hdl.2
        have m2 : gs t * dl ≤ 500 * 1000 := Nat.mul_le_mul hg5.2 hdl.2
        have e1 : (nI (x.2.2.1 t) * nI dl < nI (gs t) * (100 : Int32)) = (x.2.2.1 t * dl < gs t * 100) := by
          rw [show (100 : Int32) = nI 100 from rfl, pk_mul, pk_mul]
          exact nI_ltr (by omega) (by omega)
        have e2 : (nI (x.2.2.1 t) * (100 : Int32) ≤ nI (gs t) * nI dl) = (x.2.2.1 t * 100 ≤ gs t * dl) := by
          rw [show (100 : Int32) = nI 100 from rfl, pk_mul, pk_mul]
          exact nI_ler (by omega) (by omega)
        have hmm : (min (gs t) (x.2.2.1 t) * dl < max (gs t) (x.2.2.1 t) * 100) ↔ (x.2.2.1 t * dl < gs t * 100 ∨ ¬ x.2.2.1 t * 100 ≤ gs t * dl) := by
          have a1 : gs t * 100 ≤ gs t * dl := Nat.mul_le_mul_left _ hdl.1
          have a2 : x.2.2.1 t * 100 ≤ x.2.2.1 t * dl := Nat.mul_le_mul_left _ hdl.1
          by_cases c : gs t ≤ x.2.2.1 t
          · rw [Nat.min_eq_left c, Nat.max_eq_right c]
            have a3 : gs t * dl ≤ x.2.2.1 t * dl := Nat.mul_le_mul_right _ c
            omega
          · rw [Nat.min_eq_right (by omega), Nat.max_eq_left (by omega)]
            have a3 : x.2.2.1 t * dl ≤ gs t * dl := Nat.mul_le_mul_right _ (by omega)
            omega
        have hc : cond gs dl x t = decide (min (gs t) (x.2.2.1 t) * dl < max (gs t) (x.2.2.1 t) * 100) := by
          unfold cond
          rw [q]
          rfl
        by_cases c1 : x.2.2.1 t * dl < gs t * 100
        · rw [if_pos (show nI (x.2.2.1 t) * nI dl < nI (gs t) * (100 : Int32) by rw [e1]; exact c1)]
          exact hit (by rw [hc]; exact decide_eq_true (hmm.mpr (Or.inl c1)))
        · rw [if_neg (show ¬ nI (x.2.2.1 t) * nI dl < nI (gs t) * (100 : Int32) by rw [e1]; exact c1)]
          refine rdA ha (k := 35) rfl (by decide) (by decide) hd ?_
          by_cases c2 : x.2.2.1 t * 100 ≤ gs t * dl
          · rw [if_pos (show nI (x.2.2.1 t) * (100 : Int32) ≤ nI (gs t) * nI dl by rw [e2]; exact c2)]
            exact go (by rw [hc]; exact decide_eq_false (fun z => (hmm.mp z).elim c1 (fun y => y c2)))
          · rw [if_neg (show ¬ nI (x.2.2.1 t) * (100 : Int32) ≤ nI (gs t) * nI dl by rw [e2]; exact c2)]
            exact hit (by rw [hc]; exact decide_eq_true (hmm.mpr (Or.inr c2)))
      · rw [if_neg (bit0 hx.2.1 ht q)]
        exact go (by unfold cond; rw [beq_eq_false_iff_ne.mpr q]; rfl)
theorem l_drifted {gs : Nat → Nat} {dl : Nat} {pf at' : Nat} {F : Nat → Int32} {x : PL} (ha : h pa = some (.inl (ct 0, 36, .inl A))) (hg : ∀ t, t < 5 → A (5 + t) = nI (gs t)) (hd : A 35 = nI dl) (hf : h pf = some (.inl (ct 0, 56, .inl F))) (hat : at' + 14 ≤ 56) (hF : FP F at' x) (hx : POK x) (hng : NB gs) (hdl : 100 ≤ dl ∧ dl ≤ 1000) {Post : Int32 → KH → Prop} (hP : Post (nI (if drB gs dl x then 1 else 0)) h) : g_L_drifted ct a0 pa pf (nI at') h Post := l_drifted2 ha hg hd hf hat hF hx hng hdl hP 1024 0 (by decide) (by decide) rfl
/-- the plans as the law keeps them -/
def PF (F : Nat → Int32) (l : List PL) : Prop := ∀ i x, l[i]? = some x → FP F (14 * i) x
theorem l_place2 {pf pt : Nat} {F T : Nat → Int32} {l : List PL} (hf : h pf = some (.inl (ct 0, 56, .inl F))) (ht : h pt = some (.inl (ct 0, 8, .inl T))) (hT : T 0 = nI l.length) (h4 : l.length ≤ 4) (hF : PF F l) (hok : ∀ x ∈ l, x.1 < 32) {s : Nat} (hs : s < 32) {Post : Int32 → KH → Prop} (h1 : ∀ i x, l[i]? = some x → x.1 = s → Post (nI i) h) (h2 : (∀ x ∈ l, x.1 ≠ s) → Post (-1) h) : ∀ (n k : Nat), k ≤ l.length → l.length < n + k → (∀ j x, j < k → l[j]? = some x → x.1 ≠ s) → g_L_place_L2 ct a0 pf pt (nI s) Post n (nI k) h
  | 0, k, a1, a2, a3 => by omega
  | n + 1, k, a1, a2, a3 => by
    show g_L_place_L2b _ _ _ _ _ _ _ _ _
    unfold g_L_place_L2b
    refine rdA ht (k := 0) rfl (by decide) (by decide) hT ?_
    by_cases q : l.length ≤ k
    · rw [if_pos (nI_le q (by omega))]
      refine h2 (fun x hx => ?_)
      obtain ⟨i, hi⟩ := List.getElem?_of_mem hx
      have := (List.getElem?_eq_some_iff.mp hi).1
      exact a3 i x (by omega) hi
    · rw [if_neg (nI_ge (by omega) (by omega))]
      have hi : l[k]? = some l[k] := List.getElem?_eq_getElem (by omega)
      generalize l[k] = x at hi
      refine rdA hf (k := 14 * k) (ix14o k) (by omega) (by decide) (hF k x hi).1 ?_
      have hx32 := hok x (List.mem_of_getElem? hi)
      by_cases c : x.1 = s
      · rw [if_pos (by rw [c])]
        exact h1 k x hi c
      · rw [if_neg (fun z => c (nI_inj31 (by omega) (by omega) z)), nI_s1]
        refine l_place2 hf ht hT h4 hF hok hs h1 h2 n (k + 1) (by omega) (by omega) (fun j y hj hy => ?_)
        rcases (show j < k ∨ j = k by omega) with z | z
        · exact a3 j y z hy
        · subst z
          rw [hi] at hy
          cases hy
          exact c
theorem l_place {pf pt : Nat} {F T : Nat → Int32} {l : List PL} (hf : h pf = some (.inl (ct 0, 56, .inl F))) (ht : h pt = some (.inl (ct 0, 8, .inl T))) (hT : T 0 = nI l.length) (h4 : l.length ≤ 4) (hF : PF F l) (hok : ∀ x ∈ l, x.1 < 32) {s : Nat} (hs : s < 32) {Post : Int32 → KH → Prop} (h1 : ∀ i x, l[i]? = some x → x.1 = s → Post (nI i) h) (h2 : (∀ x ∈ l, x.1 ≠ s) → Post (-1) h) : g_L_place ct a0 pf pt (nI s) h Post := l_place2 hf ht hT h4 hF hok hs h1 h2 1024 0 (Nat.zero_le _) (by omega) (fun j x hj => absurd hj (Nat.not_lt_zero _))
end LONE
