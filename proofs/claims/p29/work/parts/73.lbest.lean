/-! the law's best plan is the class's -/
theorem oct_foldl : ∀ (p : List Nat) (a : Nat), p.foldl (fun a t => a * 8 + t) a = a * 8 ^ p.length + oct p
  | [], a => by simp [oct]
  | x :: p, a => by
    have h1 := oct_foldl p (a * 8 + x)
    have h2 := oct_foldl p (0 * 8 + x)
    unfold oct
    rw [List.foldl_cons, List.foldl_cons, h1, h2, List.length_cons, Nat.pow_succ, Nat.add_mul, Nat.mul_assoc, Nat.mul_comm 8, Nat.zero_mul, Nat.zero_add, Nat.add_assoc]
theorem oct_cons (t : Nat) (p : List Nat) : oct (t :: p) = t * 8 ^ p.length + oct p := by
  have h := oct_foldl p (0 * 8 + t)
  rw [Nat.zero_mul, Nat.zero_add] at h
  exact (show oct (t :: p) = p.foldl (fun a t => a * 8 + t) (0 * 8 + t) from rfl).trans (by rw [Nat.zero_mul, Nat.zero_add]; exact h)
theorem oct_lt8 : ∀ (p : List Nat), (∀ t ∈ p, t < 8) → oct p < 8 ^ p.length
  | [], _ => by decide
  | x :: p, h => by
    have h1 := oct_lt8 p (fun t ht => h t (List.mem_cons_of_mem _ ht))
    have h2 := h x List.mem_cons_self
    rw [oct_cons, List.length_cons, Nat.pow_succ]
    have h3 : x * 8 ^ p.length ≤ 7 * 8 ^ p.length := Nat.mul_le_mul_right _ (by omega)
    omega
/-- r is the best way on from dn through rem -/
def Bs (w : Nat → Nat) (dn rem : Nat) (r : List Nat) : Prop := r ∈ perms rem ∧ ∀ q ∈ perms rem, costG w dn r < costG w dn q ∨ (costG w dn r = costG w dn q ∧ oct r ≤ oct q)
theorem Bs.ini {w : Nat → Nat} {sh : Nat} (hsh : sh < 32) : Bs w 0 sh (bestP w sh) := bestP_bst w hsh
theorem Bs.cons {w : Nat → Nat} {dn rem : Nat} {r : List Nat} (hr : rem < 32) (h0 : rem ≠ 0) (h : Bs w dn rem r) : ∃ t r', r = t :: r' ∧ t < 5 ∧ bi rem t = 1 ∧ Bs w (dn ||| 2 ^ t) (rem - 2 ^ t) r' ∧ ∀ u, u < 5 → bi rem u = 1 → (∃ q ∈ perms (rem - 2 ^ u), costG w dn (u :: q) = costG w dn r) → t ≤ u := by
  obtain ⟨h1, h2⟩ := h
  obtain ⟨t, r', ht, hb, hp, rfl⟩ := (perms_first hr h0).mp h1
  have hrt : rem - 2 ^ t < 32 := sub_lt32 _ hr
  have hl := perms_len _ hrt _ hp
  refine ⟨t, r', rfl, ht, hb, ⟨hp, fun q hq => ?_⟩, fun u hu hbu hex => ?_⟩
  · have hlq := perms_len _ hrt _ hq
    have h3 := h2 (t :: q) ((perms_first hr h0).mpr ⟨t, q, ht, hb, hq, rfl⟩)
    rw [oct_cons, oct_cons, hl, hlq] at h3
    have e1 : costG w dn (t :: r') = w (dn ||| 2 ^ t) + costG w (dn ||| 2 ^ t) r' := rfl
    have e2 : costG w dn (t :: q) = w (dn ||| 2 ^ t) + costG w (dn ||| 2 ^ t) q := rfl
    rw [e1, e2] at h3
    rcases h3 with h3 | ⟨h3, h4⟩
    · exact Or.inl (by omega)
    · exact Or.inr ⟨by omega, by omega⟩
  · refine Nat.le_of_not_lt (fun hlt => ?_)
    obtain ⟨q, hq, e⟩ := hex
    have hru : rem - 2 ^ u < 32 := sub_lt32 _ hr
    have hm : (u :: q) ∈ perms rem := (perms_first hr h0).mpr ⟨u, q, hu, hbu, hq, rfl⟩
    have l1 := perms_len rem hr _ hm
    have l2 := perms_len rem hr _ h1
    rw [List.length_cons] at l1 l2
    have hql : q.length = r'.length := by omega
    rcases h2 _ hm with h3 | ⟨h3, h4⟩
    · omega
    · rw [oct_cons, oct_cons, hql] at h4
      have h5 := oct_lt8 q (fun x hx => Nat.lt_trans (perms_tab _ hru q hq x hx) (by decide))
      rw [hql] at h5
      have h6 : (u + 1) * 8 ^ r'.length ≤ t * 8 ^ r'.length := Nat.mul_le_mul_right _ hlt
      rw [Nat.add_mul, Nat.one_mul] at h6
      omega
theorem bi_same : ∀ s, s < 32 → ∀ u, u < 5 → bi s u = 1 → ¬ bi s u = 0 := by decide +kernel
section LBE
variable {ct : Nat → ClassId} {a0 : Nat} {pa pf pt pl pw q N : Nat} {hc : KH} {A F T : Nat → Int32} {L : Nat → Int64} {nm : Nat → Nat} {pr : Nat → Nat → Nat} {b : Nat}
/-- the step's end, the table t found -/
theorem l_bestJ (hA : AV A b nm pr) (hb5 : b ≤ 5) (hn : NB nm) (hp : PB pr) (hN : 5 ≤ N) (hN2 : N < 1000) {dn k t : Nat} (hk5 : k < 5) (hdn : dn < 32) (ht : t < 5) {sh : Int32} {all : Int64} {paid : Nat} {Post : Unit → KH → Prop} {k18 : Int64 → Int32 → Int64 → Int32 → KH → Prop} {Pn : Nat → Int32} {V : Nat → Int64} {h : KH} (hl : LH ct pa pf pt pl pw hc [(q, .inl (ct 0, N, .inl Pn))] A F T L V h) (hP : Pn k = nI t)
    (hk : k18 all (nI (dn ||| 2 ^ t)) (lN (paid + szN nm pr (dn ||| 2 ^ t))) (nI (k + 1)) h) : g_L_best_J150 ct a0 pa sh (nI b) pw q Post k18 all (lN paid) (nI k) (nI dn) ((1 : Int32) <<< (nI t &&& 31)) h := by
  unfold g_L_best_J150
  refine rdA hl.x (k := k) rfl (by omega) (by omega) hP ?_
  rw [if_pos (show (0 : Int32) ≤ nI t from nI_le (a := 0) (Nat.zero_le _) (by omega)), show ((1 : Int32) <<< (nI t &&& 31)) = nI (2 ^ t) from bit_int t ht, or_int dn hdn _ (pow_lt32 t ht)]
  refine l_size hl.a hA hb5 hn hp (or_lt32 dn hdn _ (pow_lt32 t ht)) ?_
  rw [lN_add, nI_s1]
  exact hk
theorem l_best34 (hA : AV A b nm pr) (hb5 : b ≤ 5) (hn : NB nm) (hp : PB pr) (hN : 5 ≤ N) (hN2 : N < 1000) {sh dn k t0 paid all : Nat} {r' : List Nat} (hsh : sh < 32) (hdn : dn < 32) (hsub : dn &&& sh = dn) (hk5 : k < 5) (ht0 : t0 < 5) (hbt : bi (sh - dn) t0 = 1)
    (hB : Bs (szN nm pr) dn (sh - dn) (t0 :: r')) (hmin : ∀ u, u < 5 → bi (sh - dn) u = 1 → (∃ q ∈ perms (sh - dn - 2 ^ u), costG (szN nm pr) dn (u :: q) = costG (szN nm pr) dn (t0 :: r')) → t0 ≤ u) (hr' : r' ∈ perms (sh - dn - 2 ^ t0)) (hall : all = paid + costG (szN nm pr) dn (t0 :: r')) (hab : all ≤ 5 * 2 ^ 46)
    {Post : Unit → KH → Prop} {k18 : Int64 → Int32 → Int64 → Int32 → KH → Prop} {Pn : Nat → Int32} (hP4 : Pn k = -4)
    (hk : ∀ V h, LH ct pa pf pt pl pw hc [(q, .inl (ct 0, N, .inl (upd Pn k (nI t0))))] A F T L V h → k18 (lN all) (nI (dn ||| 2 ^ t0)) (lN (paid + szN nm pr (dn ||| 2 ^ t0))) (nI (k + 1)) h) : ∀ (n u : Nat) (V : Nat → Int64) (h : KH), u ≤ t0 → 6 < n + u → LH ct pa pf pt pl pw hc [(q, .inl (ct 0, N, .inl Pn))] A F T L V h →
    g_L_best_L34 ct a0 pa (nI sh) (nI b) pw q Post k18 n (lN all) (nI dn) (lN paid) (nI k) (nI u) h
  | 0, u, V, h, h1, h2, hl => by omega
  | n + 1, u, V, h, h1, h2, hl => by
    show g_L_best_L34b _ _ _ _ _ _ _ _ _ _ _ _ _ _ _ _
    unfold g_L_best_L34b
    have hu : u < 5 := by omega
    have hw := szN_WB hn hp
    have h32u := pow_lt32 u hu
    have hmo := or_lt32 dn hdn _ h32u
    obtain ⟨f1, f2⟩ := sub_facts sh hsh dn hdn hsub u hu
    rw [if_neg (show ¬ (5 : Int32) ≤ nI u from nI_ge (b := 5) (by omega) (by decide))]
    refine rdA hl.x (k := k) rfl (by omega) (by omega) hP4 ?_
    rw [if_neg (show ¬ (0 : Int32) ≤ -4 by decide)]
    have next : u < t0 → ∀ V h, LH ct pa pf pt pl pw hc [(q, .inl (ct 0, N, .inl Pn))] A F T L V h → g_L_best_L34 ct a0 pa (nI sh) (nI b) pw q Post k18 n (lN all) (nI dn) (lN paid) (nI k) (nI u + 1) h := fun hlt V h hl => by
      rw [nI_s1]
      exact l_best34 hA hb5 hn hp hN hN2 hsh hdn hsub hk5 ht0 hbt hB hmin hr' hall hab hP4 hk n (u + 1) V h (by omega) (by omega) hl
    have skip : bi (sh - dn) u ≠ 1 → g_L_best_J73 ct a0 pa (nI sh) (nI b) pw q Post k18 (g_L_best_L34 ct a0 pa (nI sh) (nI b) pw q Post k18 n) (lN all) (nI dn) (lN paid) (nI k) (nI u) (0 : Int32) h := fun hb => by
      unfold g_L_best_J73
      rw [if_pos rfl]
      refine next ?_ V h hl
      rcases (show u < t0 ∨ u = t0 by omega) with z | z
      · exact z
      · subst z; exact absurd hbt hb
    have hbs := bi_lt sh u
    have hbd := bi_lt dn u
    by_cases q1 : bi sh u = 1
    · rw [if_pos (bit1 hsh hu q1)]
      by_cases q2 : bi dn u = 0
      · rw [if_pos (bit00 hdn hu q2)]
        have hb : bi (sh - dn) u = 1 := f1.mpr ⟨by omega, q2⟩
        obtain ⟨f3, f4, f5⟩ := f2 hb
        unfold g_L_best_J73
        rw [if_neg (show ¬ (1 : Int32) = 0 by decide)]
        have em : (nI dn ||| ((1 : Int32) <<< (nI u &&& 31))) = nI (dn ||| 2 ^ u) := by rw [show ((1 : Int32) <<< (nI u &&& 31)) = nI (2 ^ u) from bit_int u hu, or_int dn hdn _ h32u]
        rw [em]
        refine l_size hl.a hA hb5 hn hp hmo ?_
        refine l_rest hA hb5 hn hp hsh hmo f3 hl (fun m V h hm hl => ?_)
        have hmb := hm.bd hw hmo (sub_lt32 _ hsh)
        have hsz := (hw _ hmo).2
        have hpd : paid ≤ all := by omega
        rw [lN_add, lN_add]
        have hex : ∃ z ∈ perms (sh - dn - 2 ^ u), costG (szN nm pr) dn (u :: z) = szN nm pr (dn ||| 2 ^ u) + m := by
          obtain ⟨⟨z, hz, e⟩, -⟩ := hm
          rw [f4] at hz
          exact ⟨z, hz, by show _ + _ = _; rw [e]⟩
        have hge : costG (szN nm pr) dn (t0 :: r') ≤ szN nm pr (dn ||| 2 ^ u) + m := by
          obtain ⟨z, hz, e⟩ := hex
          rw [← e]
          have hr0 : sh - dn ≠ 0 := fun y => by rw [y] at hbt; exact absurd hbt (by revert ht0; exact (by decide : ∀ t, t < 5 → ¬ bi 0 t = 1) t0)
          rcases hB.2 (u :: z) ((perms_first (sub_lt32 _ hsh) hr0).mpr ⟨u, z, hu, hb, hz, rfl⟩) with y | y
          · omega
          · omega
        by_cases q3 : paid + szN nm pr (dn ||| 2 ^ u) + m = all
        · rw [if_pos ((lg_cmp_eq _ _).mpr (by rw [q3]))]
          have hut : u = t0 := by
            have := hmin u hu hb (by
              obtain ⟨z, hz, e⟩ := hex
              exact ⟨z, hz, by omega⟩)
            omega
          subst hut
          refine wrA hl.x (k := k) rfl (by omega) (by omega) ?_
          have hl2 := hl.ux (.inl (ct 0, N, .inl (upd Pn k (nI u))))
          have hPk : upd Pn k (nI u) k = nI u := if_pos rfl
          rw [nI_s1]
          cases n with
          | zero => omega
          | succ n =>
            show g_L_best_L34b _ _ _ _ _ _ _ _ _ _ _ _ _ _ _ _
            unfold g_L_best_L34b
            have h0u : (0 : Int32) ≤ nI u := nI_le (a := 0) (Nat.zero_le _) (by omega)
            by_cases q5 : (5 : Int32) ≤ nI (u + 1)
            · rw [if_pos q5]
              refine rdA hl2.x (k := k) rfl (by omega) (by omega) hPk ?_
              rw [if_pos h0u]
              refine rdA hl2.x (k := k) rfl (by omega) (by omega) hPk ?_
              exact l_bestJ hA hb5 hn hp hN hN2 hk5 hdn hu hl2 hPk (hk _ _ hl2)
            · rw [if_neg q5]
              refine rdA hl2.x (k := k) rfl (by omega) (by omega) hPk ?_
              rw [if_pos h0u]
              refine rdA hl2.x (k := k) rfl (by omega) (by omega) hPk ?_
              rw [if_pos h0u]
              refine rdA hl2.x (k := k) rfl (by omega) (by omega) hPk ?_
              exact l_bestJ hA hb5 hn hp hN hN2 hk5 hdn hu hl2 hPk (hk _ _ hl2)
        · rw [if_neg (fun z => q3 ((pk_lEQ (by omega) (by omega)).mp ((lg_cmp_eq _ _).mp z)))]
          refine next ?_ _ _ hl
          rcases (show u < t0 ∨ u = t0 by omega) with z | z
          · exact z
          · subst z
            have hle := hm.2 r' (by rw [f4]; exact hr')
            have e9 : costG (szN nm pr) dn (u :: r') = szN nm pr (dn ||| 2 ^ u) + costG (szN nm pr) (dn ||| 2 ^ u) r' := rfl
            omega
      · rw [if_neg (bit01 hdn hu (by omega))]
        exact skip (fun z => q2 (f1.mp z).2)
    · rw [if_neg (bit0 hsh hu q1)]
      exact skip (fun z => (f1.mp z).1 (by omega))
theorem l_best34z (hN : 5 ≤ N) (hN2 : N < 1000) {sh k : Nat} {paid all : Int64} (hsh : sh < 32) (hk5 : k < 5) {Post : Unit → KH → Prop} {k18 : Int64 → Int32 → Int64 → Int32 → KH → Prop} {Pn : Nat → Int32} (hP4 : Pn k = -4) {V : Nat → Int64} {h : KH} (hl : LH ct pa pf pt pl pw hc [(q, .inl (ct 0, N, .inl Pn))] A F T L V h)
    (hk : k18 all (nI sh) paid (nI (k + 1)) h) : ∀ (n u : Nat), u ≤ 5 → 5 < n + u → g_L_best_L34 ct a0 pa (nI sh) (nI b) pw q Post k18 n all (nI sh) paid (nI k) (nI u) h
  | 0, u, h1, h2 => by omega
  | n + 1, u, h1, h2 => by
    show g_L_best_L34b _ _ _ _ _ _ _ _ _ _ _ _ _ _ _ _
    unfold g_L_best_L34b
    by_cases he : 5 ≤ u
    · have e0 : u = 5 := by omega
      subst e0
      rw [if_pos (show (5 : Int32) ≤ nI 5 by decide +kernel)]
      refine rdA hl.x (k := k) rfl (by omega) (by omega) hP4 ?_
      rw [if_neg (show ¬ (0 : Int32) ≤ -4 by decide)]
      unfold g_L_best_J150
      refine rdA hl.x (k := k) rfl (by omega) (by omega) hP4 ?_
      rw [if_neg (show ¬ (0 : Int32) ≤ -4 by decide), show (nI sh ||| (0 : Int32)) = nI sh from (or_int sh hsh 0 (by decide)).trans (by rw [Nat.or_zero]), Int64.add_zero, nI_s1]
      exact hk
    · have hu : u < 5 := by omega
      rw [if_neg (show ¬ (5 : Int32) ≤ nI u from nI_ge (b := 5) (by omega) (by decide))]
      refine rdA hl.x (k := k) rfl (by omega) (by omega) hP4 ?_
      rw [if_neg (show ¬ (0 : Int32) ≤ -4 by decide)]
      have skip : g_L_best_J73 ct a0 pa (nI sh) (nI b) pw q Post k18 (g_L_best_L34 ct a0 pa (nI sh) (nI b) pw q Post k18 n) all (nI sh) paid (nI k) (nI u) (0 : Int32) h := by
        unfold g_L_best_J73
        rw [if_pos rfl, nI_s1]
        exact l_best34z hN hN2 hsh hk5 hP4 hl hk n (u + 1) (by omega) (by omega)
      by_cases q1 : bi sh u = 1
      · rw [if_pos (bit1 hsh hu q1), if_neg (bit01 hsh hu q1)]
        exact skip
      · rw [if_neg (bit0 hsh hu q1)]
        exact skip
theorem sub_self' : ∀ sh, sh < 32 → sh &&& sh = sh := by decide +kernel
/-- what the plan at q tells below k -/
def PnOK (Pn Pn0 : Nat → Int32) (p : List Nat) (k : Nat) : Prop := (∀ j, j < k → Pn j = if j < p.length then nI (p.getD j 0) else -4) ∧ ∀ j, 5 ≤ j → Pn j = Pn0 j
theorem l_best18 (hA : AV A b nm pr) (hb5 : b ≤ 5) (hn : NB nm) (hp : PB pr) (hN : 5 ≤ N) (hN2 : N < 1000) {sh all : Nat} (hsh : sh < 32) (hab : all ≤ 5 * 2 ^ 46) {Pn0 : Nat → Int32} {Post : Unit → KH → Prop}
    (hP : ∀ Pn V h, LH ct pa pf pt pl pw hc [(q, .inl (ct 0, N, .inl Pn))] A F T L V h → PnOK Pn Pn0 (bestP (szN nm pr) sh) 5 → Post () h) : ∀ (n k dn paid : Nat) (r : List Nat) (Pn : Nat → Int32) (V : Nat → Int64) (h : KH), k ≤ 5 → 5 < n + k → dn < 32 → dn &&& sh = dn → Bs (szN nm pr) dn (sh - dn) r → r = (bestP (szN nm pr) sh).drop k → all = paid + costG (szN nm pr) dn r → PnOK Pn Pn0 (bestP (szN nm pr) sh) k → LH ct pa pf pt pl pw hc [(q, .inl (ct 0, N, .inl Pn))] A F T L V h →
    g_L_best_L18 ct a0 pa (nI sh) (nI b) pw q Post n (lN all) (nI dn) (lN paid) (nI k) h
  | 0, k, dn, paid, r, Pn, V, h, h1, h2, _, _, _, _, _, _, _ => by omega
  | n + 1, k, dn, paid, r, Pn, V, h, h1, h2, hdn, hsub, hB, hr, hall, hPn, hl => by
    show g_L_best_L18b _ _ _ _ _ _ _ _ _ _ _ _ _ _
    unfold g_L_best_L18b
    by_cases he : 5 ≤ k
    · have e0 : k = 5 := by omega
      subst e0
      rw [if_pos (show (5 : Int32) ≤ nI 5 by decide +kernel)]
      exact hP Pn V h hl hPn
    · have hk5 : k < 5 := by omega
      rw [if_neg (show ¬ (5 : Int32) ≤ nI k from nI_ge (b := 5) (by omega) (by decide))]
      refine wrA hl.x (k := k) rfl (by omega) (by omega) ?_
      have hl2 := hl.ux (.inl (ct 0, N, .inl (upd Pn k (-4))))
      have hP4 : upd Pn k (-4) k = -4 := if_pos rfl
      by_cases h0 : sh - dn = 0
      · have hds : dn = sh := (sub_eq sh hsh dn hdn hsub).1.mp h0
        subst hds
        have hre : r = [] := by
          have := perms_len _ (sub_lt32 _ hsh) _ hB.1
          rw [h0] at this
          exact List.length_eq_zero_iff.mp this
        have hlen : (bestP (szN nm pr) dn).length ≤ k := by
          rw [hre] at hr
          exact List.drop_eq_nil_iff.mp hr.symm
        refine l_best34z hN hN2 hsh hk5 hP4 hl2 ?_ 1024 0 (by decide) (by decide)
        refine l_best18 hA hb5 hn hp hN hN2 hsh hab hP n (k + 1) dn paid r _ V _ (by omega) (by omega) hdn hsub hB (by rw [hre, List.drop_eq_nil_of_le (by omega)]) hall ⟨fun j hj => ?_, fun j hj => (if_neg (by omega)).trans (hPn.2 j hj)⟩ hl2
        rcases (show j < k ∨ j = k by omega) with z | z
        · exact (if_neg (by omega)).trans (hPn.1 j z)
        · subst z
          exact (if_pos rfl).trans (if_neg (by omega)).symm
      · obtain ⟨t0, r', er, ht0, hbt, hB2, hmin⟩ := hB.cons (sub_lt32 _ hsh) h0
        subst er
        obtain ⟨f1, f2⟩ := sub_facts sh hsh dn hdn hsub t0 ht0
        obtain ⟨f3, f4, f5⟩ := f2 hbt
        have hkl : k < (bestP (szN nm pr) sh).length := by
          refine Nat.lt_of_not_le (fun z => ?_)
          rw [List.drop_eq_nil_of_le z] at hr
          cases hr
        rw [drop_at hkl] at hr
        obtain ⟨hr1, hr2⟩ := List.cons.inj hr
        refine l_best34 hA hb5 hn hp hN hN2 hsh hdn hsub hk5 ht0 hbt hB hmin hB2.1 hall hab hP4 (fun V' h' hl' => ?_) 1024 0 V _ (Nat.zero_le _) (by omega) hl2
        refine l_best18 hA hb5 hn hp hN hN2 hsh hab hP n (k + 1) _ _ r' _ V' h' (by omega) (by omega) (or_lt32 dn hdn _ (pow_lt32 t0 ht0)) f3 (by rw [f4]; exact hB2) hr2 (by rw [hall]; show _ + (_ + _) = _ + _ + _; omega) ⟨fun j hj => ?_, fun j hj => ?_⟩ hl'
        · rcases (show j < k ∨ j = k by omega) with z | z
          · exact (if_neg (by omega)).trans ((if_neg (by omega)).trans (hPn.1 j z))
          · subst z
            rw [if_pos hkl, ← hr1]
            exact if_pos rfl
        · exact (if_neg (by omega)).trans ((if_neg (by omega)).trans (hPn.2 j hj))
theorem l_best (hA : AV A b nm pr) (hb5 : b ≤ 5) (hn : NB nm) (hp : PB pr) (hN : 5 ≤ N) (hN2 : N < 1000) {sh : Nat} (hsh : sh < 32) {Pn0 : Nat → Int32} {V : Nat → Int64} {h : KH} (hl : LH ct pa pf pt pl pw hc [(q, .inl (ct 0, N, .inl Pn0))] A F T L V h) {Post : Unit → KH → Prop}
    (hP : ∀ Pn V h, LH ct pa pf pt pl pw hc [(q, .inl (ct 0, N, .inl Pn))] A F T L V h → PnOK Pn Pn0 (bestP (szN nm pr) sh) 5 → Post () h) : g_L_best ct a0 pa (nI sh) (nI b) pw q h Post := by
  have hw := szN_WB hn hp
  unfold g_L_best
  refine l_least hA hb5 hn hp hsh hl (fun V h hl => ?_)
  exact l_best18 hA hb5 hn hp hN hN2 hsh (minC_bd hw hsh) hP 1024 0 0 0 _ _ V h (by decide) (by decide) (by decide) (Nat.zero_and _) (by rw [Nat.sub_zero]; exact Bs.ini hsh) rfl (by rw [Nat.zero_add]; rfl) ⟨fun j hj => by omega, fun j _ => rfl⟩ hl
end LBE
