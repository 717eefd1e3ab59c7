/-! the model's search by all orders, and by sets -/
theorem all_range {n : Nat} {f : Nat → Bool} (h : (List.range n).all f = true) {i : Nat} (hi : i < n) : f i = true := List.all_eq_true.mp h i (List.mem_range.mpr hi)
theorem nextOK_nil {p : List Nat} (h5 : p.length ≤ 5) (h1 : 1 ≤ p.length) (h : nextOK p [] = true) {o : Nat → Int32} (ho : AG o p) : ∃ r, f_X6_hasNext o (nI p.length) = some (nI 0, r) := by
  unfold nextOK at h
  cases e : f_X6_hasNext (arr p) (nI p.length) with
  | none => rw [e] at h; cases h
  | some q =>
    rw [e] at h
    obtain ⟨r, e1, -⟩ := hn_all h5 h1 (fun i hi => ho i hi) e
    exact ⟨r, by rw [e1, eq_of_beq h]⟩
theorem nextOK_cons {p x : List Nat} {l : List (List Nat)} (h5 : p.length ≤ 5) (h1 : 1 ≤ p.length) (hx : x.length = p.length) (h : nextOK p (x :: l) = true) {o : Nat → Int32} (ho : AG o p) : ∃ r, f_X6_hasNext o (nI p.length) = some (nI 1, r) ∧ AG r x := by
  unfold nextOK at h
  cases e : f_X6_hasNext (arr p) (nI p.length) with
  | none => rw [e] at h; cases h
  | some q =>
    rw [e] at h
    obtain ⟨h2, h3⟩ := Bool.and_eq_true_iff.mp h
    obtain ⟨r, e1, e2⟩ := hn_all h5 h1 (fun i hi => ho i hi) e
    exact ⟨r, by rw [e1, eq_of_beq h2], fun i hi => (e2 i (by omega)).trans (eq_of_beq (all_range h3 (by omega)))⟩
theorem m_finds85 (a1 a2 : Int32) (s : Nat → Int32) (k54 : Int64 → Int32 → (Nat → Int32) → (Nat → Int32) → Int32 → Option (Int64 × (Nat → Int32) × (Nat → Int32) × (Int32))) (x3 : Int64) {p : List Nat} (h5 : p.length ≤ 5) {o : Nat → Int32} (ho : AG o p) : ∀ (n k : Nat) (b : Nat → Int32), k ≤ p.length → p.length < n + k → (∀ i, i < k → b i = nI (p.getD i 0)) →
    ∃ b1, AG b1 p ∧ f_X6_finds_L85 a1 a2 s k54 n x3 (nI k) o b (nI p.length) = bnd (f_X6_hasNext o (nI p.length)) (fun q6 => k54 x3 q6.1 q6.2 b1 (nI p.length))
  | 0, k, b, h1, h2, _ => by omega
  | n + 1, k, b, h1, h2, hb => by
    show ∃ b1, _ ∧ f_X6_finds_L85b _ _ _ _ _ _ _ _ _ _ = _
    unfold f_X6_finds_L85b
    by_cases he : p.length ≤ k
    · rw [if_pos (nI_le he (by omega))]
      exact ⟨b, fun i hi => hb i (by omega), rfl⟩
    · rw [if_neg (nI_ge (by omega) (by omega))]
      simp (disch := omega) only [grd_inb, nI_clamp]
      rw [show nI k + (1 : Int32) = nI (k + 1) from nI_1 k]
      refine m_finds85 a1 a2 s k54 x3 h5 ho n (k + 1) _ (by omega) (by omega) (fun i hi => ?_)
      by_cases e : i = k
      · subst e; rw [pk_us]; exact ho i (by omega)
      · rw [pk_un e]; exact hb i (by omega)
section FI
variable {base : Nat} {s : Nat → Int32} {w : Nat → Nat} {sh : Nat}
theorem m_finds54 (hw : WB w) (hsz : MS base s w) (hsh : sh < 32) (h0 : sh ≠ 0) (hpc : 1 ≤ pc sh) : ∀ (l : List (List Nat)) (n : Nat) (b : List Nat) (o bs : Nat → Int32) (fl : Int32), l.length < n → (∀ p ∈ b :: l, p ∈ perms sh) → chain l = true → AG bs b → (l = [] → fl = nI 0) → (∀ x l', l = x :: l' → fl = nI 1 ∧ AG o x) →
    ∃ o1 b1, f_X6_finds_L54 (nI sh) (nI base) s n (lN (costN w b)) fl o bs (nI (pc sh)) = some (lN (costN w (minBy w b l)), o1, b1, nI (pc sh)) ∧ AG b1 (minBy w b l)
  | [], n, b, o, bs, fl, hn, hm, hc, hb, hf, _ => by
    cases n with
    | zero => exact absurd hn (Nat.not_lt_zero _)
    | succ n =>
      refine ⟨o, bs, ?_, hb⟩
      show f_X6_finds_L54b _ _ _ _ _ _ _ _ _ = _
      unfold f_X6_finds_L54b
      rw [hf rfl, if_pos (show nI 0 = (0 : Int32) from rfl)]
      rfl
  | x :: l, n, b, o, bs, fl, hn, hm, hc, hb, _, hf => by
    cases n with
    | zero => exact absurd hn (Nat.not_lt_zero _)
    | succ n =>
      obtain ⟨hf1, hox⟩ := hf x l rfl
      have hxm := hm x (List.mem_cons_of_mem _ List.mem_cons_self)
      have hlx := perms_len sh hsh x hxm
      have h5 := pc_le sh hsh
      have hbm := hm b List.mem_cons_self
      have cx := costN_bd hw hsh hxm
      have cb := costN_bd hw hsh hbm
      have hc2 : nextOK x l = true ∧ chain l = true := Bool.and_eq_true_iff.mp hc
      show ∃ o1 b1, f_X6_finds_L54b _ _ _ _ _ _ _ _ _ = _ ∧ _
      unfold f_X6_finds_L54b
      rw [hf1, if_neg (by decide +kernel), m_cost hsz hsh hxm hox, bnd_s]
      simp (disch := omega) only [lg_cmp_lt, lg_cmp_ge, lN_ler]
      rw [if_neg (show ¬ lN (costN w b) < 0 from fun z => by rw [show (0 : Int64) = lN 0 from rfl, lN_ltr (by omega) (by omega)] at z; exact Nat.not_lt_zero _ z)]
      -- what the next order says
      have nxt : ∀ (x3 : Int64) (b1 : Nat → Int32), ∃ fl2 o2, bnd (f_X6_hasNext o (nI (pc sh))) (fun q10 => f_X6_finds_L54 (nI sh) (nI base) s n x3 q10.1 q10.2 b1 (nI (pc sh))) = f_X6_finds_L54 (nI sh) (nI base) s n x3 fl2 o2 b1 (nI (pc sh)) ∧ (l = [] → fl2 = nI 0) ∧ (∀ y l', l = y :: l' → fl2 = nI 1 ∧ AG o2 y) := by
        intro x3 b1
        cases l with
        | nil =>
          obtain ⟨r, e⟩ := nextOK_nil (by omega) (by omega) hc2.1 hox
          rw [hlx] at e
          rw [e]
          exact ⟨_, _, rfl, (fun _ => rfl), (fun y l' z => by cases z)⟩
        | cons y l2 =>
          have hym := hm y (List.mem_cons_of_mem _ (List.mem_cons_of_mem _ List.mem_cons_self))
          obtain ⟨r, e, e2⟩ := nextOK_cons (by omega) (by omega) (by rw [perms_len sh hsh y hym, hlx]) hc2.1 hox
          rw [hlx] at e
          rw [e]
          exact ⟨_, _, rfl, (fun z => by cases z), (fun y' l' z => by cases z; exact ⟨rfl, e2⟩)⟩
      unfold minBy
      by_cases q : costN w x < costN w b
      · rw [if_neg (by omega), if_pos q]
        obtain ⟨b1, g1, g2⟩ := m_finds85 (nI sh) (nI base) s (f_X6_finds_L54 (nI sh) (nI base) s n) (lN (costN w x)) (by omega) hox 1024 0 bs (Nat.zero_le _) (by omega) (fun i hi => absurd hi (Nat.not_lt_zero _))
        rw [hlx] at g2
        obtain ⟨fl2, o2, e1, e2, e3⟩ := nxt (lN (costN w x)) b1
        rw [show (0 : Int32) = nI 0 from rfl, g2, e1]
        exact m_finds54 hw hsz hsh h0 hpc l n x o2 b1 fl2 (by simp at hn; omega) (fun p hp => hm p (List.mem_cons_of_mem _ hp)) hc2.2 g1 e2 e3
      · rw [if_pos (by omega), if_neg q]
        obtain ⟨fl2, o2, e1, e2, e3⟩ := nxt (lN (costN w b)) bs
        rw [e1]
        refine m_finds54 hw hsz hsh h0 hpc l n b o2 bs fl2 (by simp at hn; omega) (fun p hp => ?_) hc2.2 hb e2 e3
        rcases List.mem_cons.mp hp with hp | hp
        · rw [hp]; exact hbm
        · exact hm p (List.mem_cons_of_mem _ (List.mem_cons_of_mem _ hp))
theorem pc_pos : ∀ s, s < 32 → s ≠ 0 → 1 ≤ pc s := by decide +kernel
theorem m_finds54s (hw : WB w) (hsz : MS base s w) (hsh : sh < 32) (h0 : sh ≠ 0) {o : Nat → Int32} (bs : Nat → Int32) (ho : AG o ((perms sh).headD [])) :
    ∃ o1 b1, f_X6_finds_L54 (nI sh) (nI base) s 1024 (-1) (nI 1) o bs (nI (pc sh)) = some (lN (minC w sh), o1, b1, nI (pc sh)) ∧ AG b1 (bestP w sh) := by
  have hpc := pc_pos sh hsh h0
  have hp := perms_cons hsh
  generalize hx : (perms sh).headD [] = x at hp ho
  generalize hl : (perms sh).tail = l at hp
  have hmem : ∀ p ∈ x :: l, p ∈ perms sh := fun p h => by rw [hp]; exact h
  have hxm := hmem x List.mem_cons_self
  have hlx := perms_len sh hsh x hxm
  have h5 := pc_le sh hsh
  have hc := chain_all sh hsh h0
  rw [hp] at hc
  have hc2 : nextOK x l = true ∧ chain l = true := Bool.and_eq_true_iff.mp hc
  have hcnt := perms_cnt sh hsh
  rw [hp, List.length_cons] at hcnt
  show ∃ o1 b1, f_X6_finds_L54b _ _ _ (f_X6_finds_L54 (nI sh) (nI base) s 1023) _ _ _ _ _ = _ ∧ _
  unfold f_X6_finds_L54b
  rw [if_neg (by decide +kernel), m_cost hsz hsh hxm ho, bnd_s, if_pos (by decide +kernel)]
  obtain ⟨b1, g1, g2⟩ := m_finds85 (nI sh) (nI base) s (f_X6_finds_L54 (nI sh) (nI base) s 1023) (lN (costN w x)) (by omega) ho 1024 0 bs (Nat.zero_le _) (by omega) (fun i hi => absurd hi (Nat.not_lt_zero _))
  rw [hlx] at g2
  rw [show (0 : Int32) = nI 0 from rfl, g2]
  have hb : bestP w sh = minBy w x l := by unfold bestP; rw [hx, hl]
  unfold minC
  rw [hb]
  cases hll : l with
  | nil =>
    subst hll
    obtain ⟨r, e⟩ := nextOK_nil (by omega) (by omega) hc2.1 ho
    rw [hlx] at e
    rw [e]
    exact m_finds54 hw hsz hsh h0 hpc [] 1023 x r b1 (nI 0) (by decide) hmem hc2.2 g1 (fun _ => rfl) (fun y l' z => by cases z)
  | cons y l2 =>
    subst hll
    have hym := hmem y (List.mem_cons_of_mem _ List.mem_cons_self)
    obtain ⟨r, e, e2⟩ := nextOK_cons (by omega) (by omega) (by rw [perms_len sh hsh y hym, hlx]) hc2.1 ho
    rw [hlx] at e
    rw [e]
    exact m_finds54 hw hsz hsh h0 hpc (y :: l2) 1023 x r b1 (nI 1) (by omega) hmem hc2.2 g1 (fun z => by cases z) (fun y' l' z => by cases z; exact ⟨rfl, e2⟩)
def asc (s t : Nat) : List Nat := (List.range t).filter (fun u => bi s u == 1)
theorem asc_head : ∀ s, s < 32 → (perms s).headD [] = asc s 5 ∧ (asc s 5).length = pc s := by decide +kernel
theorem asc_len (s : Nat) : ∀ t, (asc s t).length ≤ t := fun t => by
  have := List.length_filter_le (fun u => bi s u == 1) (List.range t)
  rw [List.length_range] at this
  exact this
theorem asc_succ (s t : Nat) : asc s (t + 1) = if bi s t = 1 then asc s t ++ [t] else asc s t := by
  unfold asc
  rw [List.range_succ, List.filter_append]
  by_cases h : bi s t = 1
  · rw [if_pos h]; simp [h]
  · rw [if_neg h]; simp [h]
theorem AG.snoc {o : Nat → Int32} {p : List Nat} {t : Nat} (h : AG o p) : AG (upd o p.length (nI t)) (p ++ [t]) := fun i hi => by
  by_cases e : i = p.length
  · subst e
    rw [pk_us, List.getD_eq_getElem?_getD, List.getElem?_append_right (Nat.le_refl _), Nat.sub_self]
    rfl
  · have hi2 : i < p.length := by simp at hi; omega
    rw [pk_un e, h i hi2, List.getD_eq_getElem?_getD, List.getD_eq_getElem?_getD, List.getElem?_append_left hi2]
theorem m_finds7 (hw : WB w) (hsz : MS base s w) (hsh : sh < 32) (h0 : sh ≠ 0) (bs : Nat → Int32) : ∀ (n t : Nat) (o : Nat → Int32), t ≤ 5 → 5 < n + t → AG o (asc sh t) →
    ∃ o1 b1, f_X6_finds_L7 (nI sh) (nI base) s n (nI t) o bs (nI (asc sh t).length) = some (lN (minC w sh), o1, b1, nI (pc sh)) ∧ AG b1 (bestP w sh)
  | 0, t, o, h1, h2, _ => by omega
  | n + 1, t, o, h1, h2, ho => by
    show ∃ o1 b1, f_X6_finds_L7b _ _ _ _ _ _ _ _ = _ ∧ _
    unfold f_X6_finds_L7b
    by_cases he : 5 ≤ t
    · have e0 : t = 5 := by omega
      subst e0
      rw [if_pos (by decide +kernel), (asc_head sh hsh).2]
      exact m_finds54s hw hsz hsh h0 bs ((asc_head sh hsh).1 ▸ ho)
    · have hbl := bi_lt sh t
      have hal := asc_len sh t
      have hb := bi_int sh hsh t (by omega)
      have ih := fun o => m_finds7 hw hsz hsh h0 bs n (t + 1) o (by omega) (by omega)
      rw [asc_succ] at ih
      rw [if_neg (show ¬ (5 : Int32) ≤ nI t from nI_ge (b := 5) (by omega) (by decide))]
      simp (disch := omega) only [iv, hb, nI_eqr, grd_inb, nI_clamp, nI_add]
      by_cases hb1 : bi sh t = 1
      · rw [if_pos hb1] at ih ⊢
        rw [List.length_append] at ih
        exact ih _ ho.snoc
      · rw [if_neg hb1] at ih ⊢
        exact ih o ho
theorem m_finds (hw : WB w) (hsz : MS base s w) (hsh : sh < 32) (h0 : sh ≠ 0) (o bs : Nat → Int32) (mm : Int32) : ∃ o1 b1, f_X6_finds (nI sh) (nI base) s o bs mm = some (lN (minC w sh), o1, b1, nI (pc sh)) ∧ AG b1 (bestP w sh) :=
  m_finds7 hw hsz hsh h0 bs 1024 0 o (by decide) (by decide) (fun i hi => absurd hi (Nat.not_lt_zero _))
/-! by sets -/
def McOK (w : Nat → Nat) (u t : Nat) (x : Int64) : Prop := (x = -1 ∧ ∀ v, v < t → bi u v = 1 → False) ∨ ∃ c, x = lN c ∧ c ≤ 5 * 2 ^ 46 ∧ (∃ v, v < t ∧ bi u v = 1 ∧ c = minC w (u - 2 ^ v)) ∧ ∀ v, v < t → bi u v = 1 → c ≤ minC w (u - 2 ^ v)
theorem m_sets22 (hw : WB w) (hsz : MS base s w) {u : Nat} (hu : u < 32) (h0 : u ≠ 0) (k9 : Int32 → (Nat → Int64) → Option (Int64 × (Nat → Int64))) {B : Nat → Int64} (hB : ∀ v, v < u → B v = lN (minC w v)) : ∀ (n t : Nat) (x : Int64), t ≤ 5 → 5 < n + t → McOK w u t x →
    f_X6_findsBySets_L22 (nI sh) (nI base) s k9 n (nI u) x (nI t) B = k9 (nI (u + 1)) (vp_updL B u (lN (minC w u)))
  | 0, t, x, h1, h2, _ => by omega
  | n + 1, t, x, h1, h2, hI => by
    show f_X6_findsBySets_L22b _ _ _ _ _ _ _ _ _ = _
    unfold f_X6_findsBySets_L22b
    by_cases he : 5 ≤ t
    · have e0 : t = 5 := by omega
      subst e0
      rw [if_pos (by decide +kernel), hsz u hu, bnd_s]
      rcases hI with ⟨-, h⟩ | ⟨c, e, hcb, h3, h4⟩
      · obtain ⟨v, a, b⟩ := bi_some u hu h0
        exact absurd b (fun b => h v a b)
      · simp (disch := omega) only [grd_inb, nI_clamp]
        rw [e, lN_add, minC_dp hu h0 h3 h4, show nI u + (1 : Int32) = nI (u + 1) from nI_1 u]
    · have ht : t < 5 := by omega
      have hbl := bi_lt u t
      have hb := bi_int u hu t ht
      have ih := fun x => m_sets22 hw hsz hu h0 k9 hB n (t + 1) x (by omega) (by omega)
      rw [if_neg (show ¬ (5 : Int32) ≤ nI t from nI_ge (b := 5) (by omega) (by decide))]
      have hbi := bit_int t ht
      rw [show nI t + (1 : Int32) = nI (t + 1) from nI_1 t]
      have hcnd : ((nI u >>> (nI t &&& 31)) &&& (1 : Int32)) = nI (bi u t) := hb
      rw [hcnd, show ((1 : Int32) <<< (nI t &&& 31)) = nI (2 ^ t) from hbi]
      by_cases hb1 : bi u t = 1
      · have hle := bi_le u hu t ht hb1
        have hpos : 0 < 2 ^ t := Nat.two_pow_pos t
        have hlt : u - 2 ^ t < u := by generalize 2 ^ t = b at *; omega
        have hlt32 : u - 2 ^ t < 32 := by generalize 2 ^ t = b at *; omega
        have hc := minC_bd hw hlt32
        rw [if_pos (by rw [hb1]; rfl), pk_sub hle, grd_inb (by omega) (by decide), nI_clamp (by omega), hB _ hlt]
        have new : (∀ v, v < t → bi u v = 1 → minC w (u - 2 ^ t) ≤ minC w (u - 2 ^ v)) → McOK w u (t + 1) (lN (minC w (u - 2 ^ t))) := fun h => Or.inr ⟨_, rfl, hc, ⟨t, by omega, hb1, rfl⟩, fun v a b => by
          by_cases e : v = t
          · subst e; exact Nat.le_refl _
          · exact h v (by omega) b⟩
        rcases hI with ⟨e, h⟩ | ⟨c, e, hcb, ⟨v, a1, a2, a3⟩, h4⟩
        · rw [e, if_pos (by decide +kernel)]
          exact ih _ (new (fun v a b => absurd b (fun b => h v a b)))
        · rw [e, if_neg (by rw [lg_cmp_lt]; intro z; rw [show (0 : Int64) = lN 0 from rfl, lN_ltr (by omega) (by omega)] at z; omega)]
          simp (disch := omega) only [lg_cmp_ge, lN_ler]
          by_cases q : c ≤ minC w (u - 2 ^ t)
          · rw [if_pos q]
            refine ih _ (Or.inr ⟨c, rfl, hcb, ⟨v, by omega, a2, a3⟩, fun v a b => ?_⟩)
            by_cases e : v = t
            · subst e; exact q
            · exact h4 v (by omega) b
          · rw [if_neg q]
            exact ih _ (new (fun v a b => Nat.le_trans (by omega) (h4 v a b)))
      · rw [if_neg (by rw [show bi u t = 0 by omega]; decide +kernel)]
        refine ih _ ?_
        have key : ∀ v, v < t + 1 → bi u v = 1 → v < t := fun v a b => by
          by_cases e : v = t
          · subst e; exact absurd b hb1
          · omega
        rcases hI with ⟨e, h⟩ | ⟨c, e, hcb, ⟨v, a1, a2, a3⟩, h4⟩
        · exact Or.inl ⟨e, fun v x y => h v (key v x y) y⟩
        · exact Or.inr ⟨c, e, hcb, ⟨v, by omega, a2, a3⟩, fun v x y => h4 v (key v x y) y⟩
theorem m_sets9 (hw : WB w) (hsz : MS base s w) (hsh : sh < 32) : ∀ (n u : Nat) (B : Nat → Int64), 1 ≤ u → u ≤ sh + 1 → sh + 1 < n + u → (∀ v, v < u → B v = lN (minC w v)) → ∃ B1, f_X6_findsBySets_L9 (nI sh) (nI base) s n (nI u) B = some (lN (minC w sh), B1)
  | 0, u, B, _, h1, h2, _ => by omega
  | n + 1, u, B, h0, h1, h2, hB => by
    show ∃ B1, f_X6_findsBySets_L9b _ _ _ _ _ _ = _
    unfold f_X6_findsBySets_L9b
    by_cases he : sh < u
    · rw [if_pos (nI_lt he (by omega)), grd_inb (by omega) (by decide), nI_clamp (by omega), hB sh he]
      exact ⟨_, rfl⟩
    · rw [if_neg (nI_nlt (by omega) (by omega))]
      have g := m_sets22 (sh := sh) hw hsz (u := u) (by omega) (by omega) (f_X6_findsBySets_L9 (nI sh) (nI base) s n) hB 1024 0 (-1) (by decide) (by decide) (Or.inl ⟨rfl, fun v a => absurd a (Nat.not_lt_zero _)⟩)
      rw [show (0 : Int32) = nI 0 from rfl, g]
      refine m_sets9 hw hsz hsh n (u + 1) _ (by omega) (by omega) (by omega) (fun v hv => ?_)
      by_cases e : v = u
      · subst e; rw [pk_uLs]
      · rw [pk_uLn e]; exact hB v (by omega)
theorem m_sets (hw : WB w) (hsz : MS base s w) (hsh : sh < 32) (h0 : sh ≠ 0) (B : Nat → Int64) : ∃ B1, f_X6_findsBySets (nI sh) (nI base) s B = some (lN (minC w sh), B1) := by
  unfold f_X6_findsBySets
  rw [grd_t (by decide +kernel)]
  refine m_sets9 hw hsz hsh 1024 1 _ (Nat.le_refl _) (by omega) (by omega) (fun v hv => ?_)
  have : v = 0 := by omega
  subst this
  rfl
end FI
