/-! the law's least cost by sets, and what the sets behind one cost -/
theorem lg_lt0 {c : Nat} (hc : c < 2 ^ 63) : ¬ lg_cmp (lN c) (0 : Int64) < (0 : Int32) := fun z => by
  have := (pk_lLT (a := c) (b := 0) hc (by decide)).mp ((lg_cmp_lt _ _).mp z)
  omega
theorem lg_m1 : lg_cmp (-1 : Int64) (0 : Int64) < (0 : Int32) := by decide +kernel
theorem lg_ge {a b : Nat} (ha : a < 2 ^ 63) (hb : b < 2 ^ 63) : ((0 : Int32) ≤ lg_cmp (lN a) (lN b)) ↔ b ≤ a := (lg_cmp_ge _ _).trans (pk_lLE hb ha)
theorem ah_int : ∀ s, s < 32 → ∀ t, t < 5 → (nI s &&& (((1 : Int32) <<< (nI t &&& 31)) ^^^ (-1 : Int32))) = nI (if bi s t = 1 then s - 2 ^ t else s) := by decide +kernel
theorem bi_sub : ∀ s, s < 32 → ∀ t, t < 5 → bi s t = 1 → s - 2 ^ t < s := by decide +kernel
section LLE
variable {ct : Nat → ClassId} {a0 : Nat} {pa pf pt pl pw : Nat} {hc : KH} {X : va_W} {A F T : Nat → Int32} {L : Nat → Int64} {nm : Nat → Nat} {pr : Nat → Nat → Nat} {b : Nat}
/-- the least of the sets before s, the tables below t tried -/
def MsOK (w : Nat → Nat) (s t : Nat) (v : Int64) : Prop := (v = -1 ∧ ∀ u, u < t → bi s u = 1 → False) ∨ (∃ c, v = lN c ∧ (∃ u, u < t ∧ bi s u = 1 ∧ c = minC w (s - 2 ^ u)) ∧ ∀ u, u < t → bi s u = 1 → c ≤ minC w (s - 2 ^ u))
theorem MsOK.skip {w : Nat → Nat} {s t : Nat} {v : Int64} (h : MsOK w s t v) (hb : bi s t ≠ 1) : MsOK w s (t + 1) v := by
  rcases h with ⟨h1, h2⟩ | ⟨c, h1, ⟨u, h2, h3, h4⟩, h5⟩
  · refine Or.inl ⟨h1, fun u hu hbu => ?_⟩
    rcases (show u < t ∨ u = t by omega) with z | z
    · exact h2 u z hbu
    · subst z; exact hb hbu
  · refine Or.inr ⟨c, h1, ⟨u, by omega, h3, h4⟩, fun u hu hbu => ?_⟩
    rcases (show u < t ∨ u = t by omega) with z | z
    · exact h5 u z hbu
    · subst z; exact absurd hbu hb
theorem MsOK.fin {w : Nat → Nat} {s : Nat} {v : Int64} (hs : s < 32) (h0 : s ≠ 0) (h : MsOK w s 5 v) : ∃ c, v = lN c ∧ c + w s = minC w s := by
  rcases h with ⟨h1, h2⟩ | ⟨c, h1, ⟨u, h2, h3, h4⟩, h5⟩
  · obtain ⟨u, hu, hb⟩ := bi_some s hs h0
    exact (h2 u hu hb).elim
  · exact ⟨c, h1, minC_dp hs h0 ⟨u, h2, h3, h4⟩ h5⟩
theorem l_least23 (hA : AV A b nm pr) (hb5 : b ≤ 5) (hn : NB nm) (hp : PB pr) {s : Nat} (hs : s < 32) (s1 : 1 ≤ s) {sh : Int32} {Post : Int64 → KH → Prop} {k7 : Int32 → KH → Prop}
    (hk : ∀ V h, LH ct pa pf pt pl pw hc X A F T L V h → (∀ u, u < s + 1 → V u = lN (minC (szN nm pr) u)) → k7 (nI (s + 1)) h) : ∀ (n t : Nat) (V : Nat → Int64) (h : KH), t ≤ 5 → 5 < n + t → LH ct pa pf pt pl pw hc X A F T L V h → (∀ u, u < s → V u = lN (minC (szN nm pr) u)) → MsOK (szN nm pr) s t (V s) →
    g_L_least_L23 ct a0 pa sh (nI b) pw Post k7 n (nI s) (nI t) h
  | 0, t, V, h, h1, h2, hl, hV, hM => by omega
  | n + 1, t, V, h, h1, h2, hl, hV, hM => by
    show g_L_least_L23b _ _ _ _ _ _ _ _ _ _ _ _
    unfold g_L_least_L23b
    have hw := szN_WB hn hp
    by_cases he : 5 ≤ t
    · have e0 : t = 5 := by omega
      subst e0
      rw [if_pos (show (5 : Int32) ≤ nI 5 by decide +kernel)]
      obtain ⟨c, ec, hcs⟩ := hM.fin hs (by omega)
      refine rdV hl.w (k := s) rfl (by omega) (by decide) ec ?_
      refine l_size hl.a hA hb5 hn hp hs ?_
      refine wrV hl.w (k := s) rfl (by omega) (by decide) ?_
      rw [lN_add, hcs, nI_s1]
      refine hk _ _ (hl.uw _) (fun u hu => ?_)
      rcases (show u < s ∨ u = s by omega) with z | z
      · exact (if_neg (by omega)).trans (hV u z)
      · subst z; exact if_pos rfl
    · have ht : t < 5 := by omega
      rw [if_neg (show ¬ (5 : Int32) ≤ nI t from nI_ge (b := 5) (by omega) (by decide)), nI_s1]
      have ea := ah_int s hs t ht
      have go : ∀ (v : Int64), MsOK (szN nm pr) s (t + 1) v → g_L_least_L23 ct a0 pa sh (nI b) pw Post k7 n (nI s) (nI (t + 1)) (hup h pw (.inl (ct 1, 64, .inr (.inl (vp_updL V s v))))) := fun v hv =>
        l_least23 hA hb5 hn hp hs s1 hk n (t + 1) _ _ (by omega) (by omega) (hl.uw _) (fun u hu => (if_neg (by omega)).trans (hV u hu)) (by rw [show vp_updL V s v s = v from if_pos rfl]; exact hv)
      by_cases q : bi s t = 1
      · rw [if_pos q] at ea
        have hlt := bi_sub s hs t ht q
        have hvv := hV (s - 2 ^ t) hlt
        have hmb := minC_bd hw (s := s - 2 ^ t) (by omega)
        rw [if_neg (show ¬ (nI s &&& (((1 : Int32) <<< (nI t &&& 31)) ^^^ (-1 : Int32))) = nI s from fun z => by
          have := nI_inj31 (by omega) (by omega) (ea.symm.trans z)
          omega)]
        rcases hM with ⟨m1, m2⟩ | ⟨c, m1, ⟨u, m2, m3, m4⟩, m5⟩
        · refine rdV hl.w (k := s) rfl (by omega) (by decide) m1 ?_
          rw [if_pos lg_m1]
          refine rdV hl.w (k := s - 2 ^ t) ea (by omega) (by decide) hvv ?_
          refine wrV hl.w (k := s) rfl (by omega) (by decide) ?_
          refine go _ (Or.inr ⟨_, rfl, ⟨t, by omega, q, rfl⟩, fun u hu hbu => ?_⟩)
          rcases (show u < t ∨ u = t by omega) with z | z
          · exact (m2 u z hbu).elim
          · subst z; exact Nat.le_refl _
        · have hcb : c ≤ 5 * 2 ^ 46 := by rw [m4]; exact minC_bd hw (sub_lt32 _ hs)
          refine rdV hl.w (k := s) rfl (by omega) (by decide) m1 ?_
          rw [if_neg (lg_lt0 (by omega))]
          refine rdV hl.w (k := s - 2 ^ t) ea (by omega) (by decide) hvv ?_
          refine rdV hl.w (k := s) rfl (by omega) (by decide) m1 ?_
          by_cases c1 : c ≤ minC (szN nm pr) (s - 2 ^ t)
          · rw [if_pos ((lg_ge (by omega) (by omega)).mpr c1)]
            refine rdV hl.w (k := s) rfl (by omega) (by decide) m1 ?_
            refine wrV hl.w (k := s) rfl (by omega) (by decide) ?_
            refine go _ (Or.inr ⟨c, rfl, ⟨u, by omega, m3, m4⟩, fun u hu hbu => ?_⟩)
            rcases (show u < t ∨ u = t by omega) with z | z
            · exact m5 u z hbu
            · subst z; exact c1
          · rw [if_neg (fun z => c1 ((lg_ge (by omega) (by omega)).mp z))]
            refine rdV hl.w (k := s - 2 ^ t) ea (by omega) (by decide) hvv ?_
            refine wrV hl.w (k := s) rfl (by omega) (by decide) ?_
            refine go _ (Or.inr ⟨_, rfl, ⟨t, by omega, q, rfl⟩, fun u hu hbu => ?_⟩)
            rcases (show u < t ∨ u = t by omega) with z | z
            · have := m5 u z hbu; omega
            · subst z; exact Nat.le_refl _
      · rw [if_neg q] at ea
        rw [if_pos ea]
        refine rdV hl.w (k := s) rfl (by omega) (by decide) rfl ?_
        refine wrV hl.w (k := s) rfl (by omega) (by decide) ?_
        exact go _ (hM.skip q)
theorem l_least7 (hA : AV A b nm pr) (hb5 : b ≤ 5) (hn : NB nm) (hp : PB pr) {sh : Nat} (hsh : sh < 32) {Post : Int64 → KH → Prop}
    (hP : ∀ V h, LH ct pa pf pt pl pw hc X A F T L V h → Post (lN (minC (szN nm pr) sh)) h) : ∀ (n s : Nat) (V : Nat → Int64) (h : KH), 1 ≤ s → s ≤ sh + 1 → sh + 1 < n + s → LH ct pa pf pt pl pw hc X A F T L V h → (∀ u, u < s → V u = lN (minC (szN nm pr) u)) →
    g_L_least_L7 ct a0 pa (nI sh) (nI b) pw Post n (nI s) h
  | 0, s, V, h, h0, h1, h2, hl, hV => by omega
  | n + 1, s, V, h, h0, h1, h2, hl, hV => by
    show g_L_least_L7b _ _ _ _ _ _ _ _ _ _
    unfold g_L_least_L7b
    by_cases he : sh < s
    · rw [if_pos (nI_lt he (by omega))]
      exact rdV hl.w (k := sh) rfl (by omega) (by decide) (hV sh he) (hP V h hl)
    · rw [if_neg (fun z => absurd ((nI_ltI (by omega) (by omega)).mp z) he)]
      refine wrV hl.w (k := s) rfl (by omega) (by decide) ?_
      refine l_least23 hA hb5 hn hp (by omega) h0 (fun V' h' hl' hV' => l_least7 hA hb5 hn hp hsh hP n (s + 1) V' h' (by omega) (by omega) (by omega) hl' hV') 1024 0 _ _ (by decide) (by decide) (hl.uw _) (fun u hu => (if_neg (by omega)).trans (hV u hu)) (Or.inl ⟨if_pos rfl, fun u hu => by omega⟩)
theorem l_least (hA : AV A b nm pr) (hb5 : b ≤ 5) (hn : NB nm) (hp : PB pr) {sh : Nat} (hsh : sh < 32) {V : Nat → Int64} {h : KH} (hl : LH ct pa pf pt pl pw hc X A F T L V h) {Post : Int64 → KH → Prop}
    (hP : ∀ V h, LH ct pa pf pt pl pw hc X A F T L V h → Post (lN (minC (szN nm pr) sh)) h) : g_L_least ct a0 pa (nI sh) (nI b) pw h Post := by
  unfold g_L_least
  refine wrV hl.w (k := 0) rfl (by decide) (by decide) ?_
  refine l_least7 hA hb5 hn hp hsh hP 1024 1 _ _ (Nat.le_refl _) (by omega) (by omega) (hl.uw _) (fun u hu => ?_)
  rw [show u = 0 by omega]
  exact (if_pos rfl : vp_updL V 0 (0 : Int64) 0 = 0)
/-! the rest -/
theorem or_sub : ∀ sh, sh < 32 → ∀ s, s < 32 → ((s ||| sh = sh) ↔ s &&& sh = s) := by decide +kernel
theorem or_mo1 : ∀ sh, sh < 32 → ∀ s, s < 32 → ∀ t, t < 5 → s &&& sh = s → bi (sh - s) t = 1 → ¬ (s ||| 2 ^ t) = s := by decide +kernel
theorem or_mo2 : ∀ sh, sh < 32 → ∀ s, s < 32 → ∀ t, t < 5 → s &&& sh = s → bi (sh - s) t = 1 → ((s ||| 2 ^ t) ||| sh) = sh := by decide +kernel
theorem or_eq1 : ∀ s, s < 32 → ∀ t, t < 5 → bi s t = 1 → (s ||| 2 ^ t) = s := by decide +kernel
theorem or_ne0b : ∀ sh, sh < 32 → ∀ s, s < 32 → ∀ t, t < 5 → ((s ||| 2 ^ t) ||| sh) = sh → bi sh t = 1 := by decide +kernel
theorem or_more (sh : Nat) (h1 : sh < 32) (s : Nat) (h2 : s < 32) (t : Nat) (h3 : t < 5) (h4 : s &&& sh = s) : bi (sh - s) t = 1 ↔ (s ||| 2 ^ t ≠ s ∧ (s ||| 2 ^ t) ||| sh = sh) :=
  ⟨fun h => ⟨or_mo1 sh h1 s h2 t h3 h4 h, or_mo2 sh h1 s h2 t h3 h4 h⟩, fun h => (sub_facts sh h1 s h2 h4 t h3).1.mpr ⟨by rw [or_ne0b sh h1 s h2 t h3 h.2]; decide, by have := bi_lt s t; exact (show bi s t = 0 ∨ bi s t = 1 by omega).resolve_right (fun z => h.1 (or_eq1 s h2 t h3 z))⟩⟩
theorem or_gt : ∀ s, s < 32 → ∀ t, t < 5 → s ||| 2 ^ t ≠ s → s < s ||| 2 ^ t := by decide +kernel
theorem dec32 : ∀ m, m < 33 → m ≠ 0 → nI m + (-1 : Int32) = nI (m - 1) := by decide +kernel
def RV (w : Nat → Nat) (sh u : Nat) (v : Int64) : Prop := (u &&& sh = u → ∃ m, v = lN m ∧ LoOK w u (sh - u) m) ∧ (u &&& sh ≠ u → v = -1)
def RsOK (w : Nat → Nat) (sh s t : Nat) (v : Int64) : Prop := (v = -1 ∧ ∀ u, u < t → bi (sh - s) u = 1 → False) ∨ (∃ c, v = lN c ∧ (∃ u, u < t ∧ bi (sh - s) u = 1 ∧ ∃ q ∈ perms (sh - s - 2 ^ u), costG w s (u :: q) = c) ∧ ∀ u, u < t → bi (sh - s) u = 1 → ∀ q ∈ perms (sh - s - 2 ^ u), c ≤ costG w s (u :: q))
theorem RsOK.skip {w : Nat → Nat} {sh s t : Nat} {v : Int64} (h : RsOK w sh s t v) (hb : bi (sh - s) t ≠ 1) : RsOK w sh s (t + 1) v := by
  rcases h with ⟨h1, h2⟩ | ⟨c, h1, ⟨u, h2, h3, h4⟩, h5⟩
  · refine Or.inl ⟨h1, fun u hu hbu => ?_⟩
    rcases (show u < t ∨ u = t by omega) with z | z
    · exact h2 u z hbu
    · subst z; exact hb hbu
  · refine Or.inr ⟨c, h1, ⟨u, by omega, h3, h4⟩, fun u hu hbu => ?_⟩
    rcases (show u < t ∨ u = t by omega) with z | z
    · exact h5 u z hbu
    · subst z; exact absurd hbu hb
theorem LoOK.bd {w : Nat → Nat} (hw : WB w) {s rem m : Nat} (hs : s < 32) (hr : rem < 32) (h : LoOK w s rem m) : m ≤ 5 * 2 ^ 46 := by
  obtain ⟨⟨q, hq, e⟩, -⟩ := h
  have h1 := costG_bd hw q s hs (perms_tab rem hr q hq)
  have h2 := perms_len rem hr q hq
  have h3 := pc_le rem hr
  rw [← e]
  exact Nat.le_trans h1 (Nat.mul_le_mul_right _ (by omega))
theorem RsOK.fin {w : Nat → Nat} {sh s : Nat} {v : Int64} (hsh : sh < 32) (h0 : sh - s ≠ 0) (h : RsOK w sh s 5 v) : ∃ m, v = lN m ∧ LoOK w s (sh - s) m := by
  have hr : sh - s < 32 := by omega
  rcases h with ⟨h1, h2⟩ | ⟨c, h1, ⟨u, h2, h3, q, h4, h6⟩, h5⟩
  · obtain ⟨u, hu, hb⟩ := bi_some _ hr h0
    exact (h2 u hu hb).elim
  · refine ⟨c, h1, ⟨u :: q, (perms_first hr h0).mpr ⟨u, q, h2, h3, h4, rfl⟩, h6⟩, fun z hz => ?_⟩
    obtain ⟨t, p, ht, hb, hp, e⟩ := (perms_first hr h0).mp hz
    rw [e]
    exact h5 t ht hb p hp
theorem ix32 (k : Nat) : (32 : Int32) + nI k = nI (32 + k) := nI_add 32 k
theorem l_rest33 (hA : AV A b nm pr) (hb5 : b ≤ 5) (hn : NB nm) (hp : PB pr) {sh s : Nat} (hsh : sh < 32) (hs : s < 32) (hsub : s &&& sh = s) (hne : s ≠ sh) {a4 : Int32} {Post : Int64 → KH → Prop} {k4 : Int32 → KH → Prop}
    (hk : ∀ V h, LH ct pa pf pt pl pw hc X A F T L V h → (∀ u, s ≤ u → u < 32 → RV (szN nm pr) sh u (V (32 + u))) → k4 (nI s + (-1 : Int32)) h) : ∀ (n t : Nat) (V : Nat → Int64) (h : KH), t ≤ 5 → 5 < n + t → LH ct pa pf pt pl pw hc X A F T L V h → (∀ u, s < u → u < 32 → RV (szN nm pr) sh u (V (32 + u))) → RsOK (szN nm pr) sh s t (V (32 + s)) →
    g_L_rest_L33 ct a0 pa (nI sh) a4 (nI b) pw Post k4 n (nI s) (nI t) h
  | 0, t, V, h, h1, h2, hl, hV, hM => by omega
  | n + 1, t, V, h, h1, h2, hl, hV, hM => by
    show g_L_rest_L33b _ _ _ _ _ _ _ _ _ _ _ _ _
    unfold g_L_rest_L33b
    have hw := szN_WB hn hp
    have hr0 : sh - s ≠ 0 := fun z => hne ((sub_eq sh hsh s hs hsub).1.mp z)
    by_cases he : 5 ≤ t
    · have e0 : t = 5 := by omega
      subst e0
      rw [if_pos (show (5 : Int32) ≤ nI 5 by decide +kernel)]
      refine hk V h hl (fun u hu h32 => ?_)
      rcases (show s < u ∨ u = s by omega) with z | z
      · exact hV u z h32
      · subst z
        exact ⟨fun _ => hM.fin hsh hr0, fun z => absurd hsub z⟩
    · have ht : t < 5 := by omega
      have h32t := pow_lt32 t ht
      have hmo := or_lt32 s hs _ h32t
      rw [if_neg (show ¬ (5 : Int32) ≤ nI t from nI_ge (b := 5) (by omega) (by decide))]
      have e1 : (nI s ||| nI sh) = nI sh := by rw [or_int s hs sh hsh, (or_sub sh hsh s hs).mpr hsub]
      rw [if_pos e1, if_neg (show ¬ nI s = nI sh from fun z => hne (nI_inj31 (by omega) (by omega) z))]
      have em : (nI s ||| ((1 : Int32) <<< (nI t &&& 31))) = nI (s ||| 2 ^ t) := by rw [show ((1 : Int32) <<< (nI t &&& 31)) = nI (2 ^ t) from bit_int t ht, or_int s hs _ h32t]
      have go : ∀ (v : Int64), RsOK (szN nm pr) sh s (t + 1) v → g_L_rest_L33 ct a0 pa (nI sh) a4 (nI b) pw Post k4 n (nI s) (nI t + 1) (hup h pw (.inl (ct 1, 64, .inr (.inl (vp_updL V (32 + s) v))))) := fun v hv => by
        rw [nI_s1]
        exact l_rest33 hA hb5 hn hp hsh hs hsub hne hk n (t + 1) _ _ (by omega) (by omega) (hl.uw _) (fun u hu h32 => by rw [show vp_updL V (32 + s) v (32 + u) = V (32 + u) from if_neg (by omega)]; exact hV u hu h32) (by rw [show vp_updL V (32 + s) v (32 + s) = v from if_pos rfl]; exact hv)
      have hkeep : ∀ (x7 : Int32), bi (sh - s) t ≠ 1 → g_L_rest_J95 ct a0 pa (nI sh) a4 (nI b) pw Post k4 (g_L_rest_L33 ct a0 pa (nI sh) a4 (nI b) pw Post k4 n) (nI s) (nI t) x7 (0 : Int32) h := fun x7 hb => by
        unfold g_L_rest_J95
        rw [if_pos rfl]
        unfold g_L_rest_J124
        rw [if_pos rfl]
        refine rdV hl.w (k := 32 + s) (ix32 s) (by omega) (by decide) rfl ?_
        refine wrV hl.w (k := 32 + s) (ix32 s) (by omega) (by decide) ?_
        exact go _ (hM.skip hb)
      by_cases q1 : s ||| 2 ^ t = s
      · rw [if_pos (em.trans (by rw [q1]))]
        exact hkeep _ (fun z => ((or_more sh hsh s hs t ht hsub).mp z).1 q1)
      · rw [if_neg (fun z => q1 (nI_inj31 (by omega) (by omega) (em.symm.trans z)))]
        have em2 : ((nI s ||| ((1 : Int32) <<< (nI t &&& 31))) ||| nI sh) = nI ((s ||| 2 ^ t) ||| sh) := by rw [em, or_int _ hmo sh hsh]
        have hosh := or_lt32 _ hmo sh hsh
        by_cases q2 : (s ||| 2 ^ t) ||| sh = sh
        · rw [if_pos (em2.trans (by rw [q2]))]
          have hb := (or_more sh hsh s hs t ht hsub).mpr ⟨q1, q2⟩
          have hgt := or_gt s hs t ht q1
          obtain ⟨m, em9, hm⟩ := (hV (s ||| 2 ^ t) hgt hmo).1 ((or_sub sh hsh _ hmo).mp q2)
          obtain ⟨f1, f2⟩ := sub_facts sh hsh s hs hsub t ht
          obtain ⟨f3, f4, f5⟩ := f2 hb
          have hmb := hm.bd hw hmo (by omega)
          have ixm : (32 : Int32) + (nI s ||| ((1 : Int32) <<< (nI t &&& 31))) = nI (32 + (s ||| 2 ^ t)) := by rw [em, ix32]
          refine rdV hl.w (k := 32 + (s ||| 2 ^ t)) ixm (by omega) (by decide) em9 ?_
          rw [if_neg (lg_lt0 (by omega))]
          unfold g_L_rest_J95
          rw [if_neg (show ¬ (1 : Int32) = 0 by decide)]
          refine rdV hl.w (k := 32 + (s ||| 2 ^ t)) ixm (by omega) (by decide) em9 ?_
          rw [em]
          refine l_size hl.a hA hb5 hn hp hmo ?_
          rw [lN_add]
          unfold g_L_rest_J124
          rw [if_neg (show ¬ (1 : Int32) = 0 by decide)]
          have hsz := (hw _ hmo).2
          have hex : ∃ q ∈ perms (sh - s - 2 ^ t), costG (szN nm pr) s (t :: q) = m + szN nm pr (s ||| 2 ^ t) := by
            obtain ⟨⟨q, hq, e⟩, -⟩ := hm
            rw [f4] at hq
            exact ⟨q, hq, by show _ + _ = _; rw [e]; omega⟩
          have hall : ∀ q ∈ perms (sh - s - 2 ^ t), m + szN nm pr (s ||| 2 ^ t) ≤ costG (szN nm pr) s (t :: q) := fun q hq => by
            have h9 := hm.2 q (by rw [f4]; exact hq)
            show _ ≤ _ + _
            omega
          rcases hM with ⟨m1, m2⟩ | ⟨c, m1, ⟨u, m2, m3, m4⟩, m5⟩
          · refine rdV hl.w (k := 32 + s) (ix32 s) (by omega) (by decide) m1 ?_
            rw [if_pos lg_m1]
            refine wrV hl.w (k := 32 + s) (ix32 s) (by omega) (by decide) ?_
            refine go _ (Or.inr ⟨_, rfl, ⟨t, by omega, hb, hex⟩, fun u hu hbu => ?_⟩)
            rcases (show u < t ∨ u = t by omega) with z | z
            · exact (m2 u z hbu).elim
            · subst z; exact hall
          · have hcb : c < 2 ^ 62 := by
              obtain ⟨q, hq, e⟩ := m4
              have a := costG_bd hw (u :: q) s hs (fun y hy => by
                rcases List.mem_cons.mp hy with z | z
                · rw [z]; omega
                · exact perms_tab _ (sub_lt32 _ (sub_lt32 _ hsh)) q hq y z)
              have a2 := perms_len _ (sub_lt32 _ (sub_lt32 _ hsh)) q hq
              have a3 := pc_le (sh - s - 2 ^ u) (sub_lt32 _ (sub_lt32 _ hsh))
              rw [e, List.length_cons] at a
              have a4 : (q.length + 1) * 2 ^ 46 ≤ 6 * 2 ^ 46 := Nat.mul_le_mul_right _ (by omega)
              omega
            refine rdV hl.w (k := 32 + s) (ix32 s) (by omega) (by decide) m1 ?_
            rw [if_neg (lg_lt0 (by omega))]
            refine rdV hl.w (k := 32 + s) (ix32 s) (by omega) (by decide) m1 ?_
            by_cases c1 : c ≤ m + szN nm pr (s ||| 2 ^ t)
            · rw [if_pos ((lg_ge (by omega) (by omega)).mpr c1)]
              refine rdV hl.w (k := 32 + s) (ix32 s) (by omega) (by decide) m1 ?_
              refine wrV hl.w (k := 32 + s) (ix32 s) (by omega) (by decide) ?_
              refine go _ (Or.inr ⟨c, rfl, ⟨u, by omega, m3, m4⟩, fun u hu hbu => ?_⟩)
              rcases (show u < t ∨ u = t by omega) with z | z
              · exact m5 u z hbu
              · subst z; exact fun q hq => Nat.le_trans c1 (hall q hq)
            · rw [if_neg (fun z => c1 ((lg_ge (by omega) (by omega)).mp z))]
              refine wrV hl.w (k := 32 + s) (ix32 s) (by omega) (by decide) ?_
              refine go _ (Or.inr ⟨_, rfl, ⟨t, by omega, hb, hex⟩, fun u hu hbu => ?_⟩)
              rcases (show u < t ∨ u = t by omega) with z | z
              · exact fun q hq => Nat.le_trans (by omega) (m5 u z hbu q hq)
              · subst z; exact hall
        · rw [if_neg (fun z => q2 (nI_inj31 (by omega) (by omega) (em2.symm.trans z)))]
          exact hkeep _ (fun z => q2 ((or_more sh hsh s hs t ht hsub).mp z).2)
theorem l_rest4 (hA : AV A b nm pr) (hb5 : b ≤ 5) (hn : NB nm) (hp : PB pr) {sh fr : Nat} (hsh : sh < 32) (hfr : fr < 32) (hsub : fr &&& sh = fr) {Post : Int64 → KH → Prop}
    (hP : ∀ m V h, LoOK (szN nm pr) fr (sh - fr) m → LH ct pa pf pt pl pw hc X A F T L V h → Post (lN m) h) : ∀ (n m : Nat) (x5 : Int32) (V : Nat → Int64) (h : KH), x5 = nI m + (-1 : Int32) → m ≤ 32 → m < n → LH ct pa pf pt pl pw hc X A F T L V h → (∀ u, m ≤ u → u < 32 → RV (szN nm pr) sh u (V (32 + u))) →
    g_L_rest_L4 ct a0 pa (nI sh) (nI fr) (nI b) pw Post n x5 h
  | 0, m, x5, V, h, e5, h1, h2, hl, hV => by omega
  | n + 1, m, x5, V, h, e5, h1, h2, hl, hV => by
    show g_L_rest_L4b _ _ _ _ _ _ _ _ _ _ _
    unfold g_L_rest_L4b
    by_cases hm0 : m = 0
    · subst hm0
      rw [if_pos (show x5 < (0 : Int32) by rw [e5]; exact m1_lt)]
      obtain ⟨m, em, hm⟩ := (hV fr (Nat.zero_le _) hfr).1 hsub
      exact rdV hl.w (k := 32 + fr) (ix32 fr) (by omega) (by decide) em (hP m V h hm hl)
    · have e6 : x5 = nI (m - 1) := by rw [e5, dec32 m (by omega) hm0]
      have hs : m - 1 < 32 := by omega
      generalize hsm : m - 1 = s at e6 hs
      have hms : m = s + 1 := by omega
      subst hms
      clear e5
      subst e6
      have hend : ∀ V h, LH ct pa pf pt pl pw hc X A F T L V h → (∀ u, s ≤ u → u < 32 → RV (szN nm pr) sh u (V (32 + u))) → g_L_rest_L4 ct a0 pa (nI sh) (nI fr) (nI b) pw Post n (nI s + (-1 : Int32)) h := fun V h hl hV =>
        l_rest4 hA hb5 hn hp hsh hfr hsub hP n s _ V h rfl (by omega) (by omega) hl hV
      rw [if_neg (show ¬ nI s < (0 : Int32) from nI_pos (by omega))]
      by_cases q : s = sh
      · subst q
        rw [if_pos rfl]
        refine wrV hl.w (k := 32 + s) (ix32 s) (by omega) (by decide) ?_
        show g_L_rest_L33b _ _ _ _ _ _ _ _ _ _ _ _ _
        unfold g_L_rest_L33b
        rw [if_neg (show ¬ (5 : Int32) ≤ 0 by decide), if_pos (show (nI s ||| nI s) = nI s by rw [or_int s hs s hs, Nat.or_self]), if_pos rfl]
        refine hend _ _ (hl.uw _) (fun u hu h32 => ?_)
        rcases (show s + 1 ≤ u ∨ u = s by omega) with z | z
        · rw [show vp_updL V (32 + s) (0 : Int64) (32 + u) = V (32 + u) from if_neg (by omega)]
          exact hV u z h32
        · subst z
          rw [show vp_updL V (32 + u) (0 : Int64) (32 + u) = 0 from if_pos rfl]
          refine ⟨fun _ => ⟨0, rfl, ?_⟩, fun z => absurd (Nat.and_self u) z⟩
          rw [Nat.sub_self]
          exact ⟨⟨[], by decide, rfl⟩, fun _ _ => Nat.zero_le _⟩
      · rw [if_neg (fun z => q (nI_inj31 (by omega) (by omega) z))]
        refine wrV hl.w (k := 32 + s) (ix32 s) (by omega) (by decide) ?_
        have hV1 : ∀ u, s < u → u < 32 → RV (szN nm pr) sh u (vp_updL V (32 + s) (-1 : Int64) (32 + u)) := fun u hu h32 => by
          rw [show vp_updL V (32 + s) (-1 : Int64) (32 + u) = V (32 + u) from if_neg (by omega)]
          exact hV u hu h32
        by_cases q2 : s &&& sh = s
        · exact l_rest33 hA hb5 hn hp hsh hs q2 q hend 1024 0 _ _ (by decide) (by decide) (hl.uw _) hV1 (Or.inl ⟨if_pos rfl, fun u hu => by omega⟩)
        · show g_L_rest_L33b _ _ _ _ _ _ _ _ _ _ _ _ _
          unfold g_L_rest_L33b
          rw [if_neg (show ¬ (5 : Int32) ≤ 0 by decide), if_neg (show ¬ (nI s ||| nI sh) = nI sh from fun z => q2 ((or_sub sh hsh s hs).mp (by
            rw [or_int s hs sh hsh] at z
            exact nI_inj31 (by have := or_lt32 s hs sh hsh; omega) (by omega) z)))]
          refine hend _ _ (hl.uw _) (fun u hu h32 => ?_)
          rcases (show s < u ∨ u = s by omega) with z | z
          · exact hV1 u z h32
          · subst z
            rw [show vp_updL V (32 + u) (-1 : Int64) (32 + u) = -1 from if_pos rfl]
            exact ⟨fun z => absurd z q2, fun _ => rfl⟩
theorem l_rest (hA : AV A b nm pr) (hb5 : b ≤ 5) (hn : NB nm) (hp : PB pr) {sh fr : Nat} (hsh : sh < 32) (hfr : fr < 32) (hsub : fr &&& sh = fr) {V : Nat → Int64} {h : KH} (hl : LH ct pa pf pt pl pw hc X A F T L V h) {Post : Int64 → KH → Prop}
    (hP : ∀ m V h, LoOK (szN nm pr) fr (sh - fr) m → LH ct pa pf pt pl pw hc X A F T L V h → Post (lN m) h) : g_L_rest ct a0 pa (nI sh) (nI fr) (nI b) pw h Post :=
  l_rest4 hA hb5 hn hp hsh hfr hsub hP 1024 32 (31 : Int32) V h (by decide +kernel) (Nat.le_refl _) (by decide) hl (fun u hu h32 => by omega)
end LLE
