/-! texts: what a script is, and how the class reads it -/
def sa (sgn : Nat → Nat) (len i : Nat) : Nat := if i < len then sgn i else 0
/-- signs are between 33 and 126, or 0 beyond the end -/
def SaOK (s : Nat → Nat) (len : Nat) : Prop := len ≤ 60 ∧ (∀ i, i < len → 33 ≤ s i ∧ s i ≤ 126) ∧ ∀ i, len ≤ i → s i = 0
def digs (s : Nat → Nat) : Nat → Nat → Nat → Nat → Nat × Nat
  | 0, p, _, set => (p, set)
  | n + 1, p, low, set => if 48 + low ≤ s p ∧ s p ≤ 52 then digs s n (p + 1) (s p - 48 + 1) (set ||| 2 ^ (s p - 48)) else (p, set)
def numS (s : Nat → Nat) : Nat → Nat → Nat → Nat × Nat
  | 0, p, v => (p, v)
  | n + 1, p, v => if 48 ≤ s p ∧ s p ≤ 57 ∧ 1 ≤ v * 10 + (s p - 48) ∧ v * 10 + (s p - 48) ≤ 500 then numS s n (p + 1) (v * 10 + (s p - 48)) else (p, v)
/-- a deed: whether it is one, where its reading ends, its letter, its tables or table, its number -/
abbrev RD : Type := Bool × Nat × Nat × Nat × Nat
def rdS (s : Nat → Nat) (p : Nat) : RD :=
  if s p = 99 then (if 48 ≤ s (p + 1) ∧ s (p + 1) ≤ 52 then (true, p + 2, 99, s (p + 1) - 48, 0) else (false, p + 1, 99, 0, 0))
  else if s p = 112 ∨ s p = 113 then (decide (0 < (digs s 5 (p + 1) 0 0).2), (digs s 5 (p + 1) 0 0).1, s p, (digs s 5 (p + 1) 0 0).2, 0)
  else if s p = 114 then (if 48 ≤ s (p + 1) ∧ s (p + 1) ≤ 52 then (if s (p + 2) = 61 then (decide (0 < (numS s 3 (p + 3) 0).2), (numS s 3 (p + 3) 0).1, 114, s (p + 1) - 48, (numS s 3 (p + 3) 0).2) else (false, p + 2, 114, s (p + 1) - 48, 0)) else (false, p + 1, 114, 0, 0))
  else (false, p, s p, 0, 0)
section TX
variable {s : Nat → Nat} {len : Nat} {SIG : Nat → Int32}
theorem digs_pos : ∀ (n p low set : Nat), p ≤ (digs s n p low set).1 ∧ (digs s n p low set).1 ≤ p + n
  | 0, p, low, set => ⟨Nat.le_refl _, Nat.le_refl _⟩
  | n + 1, p, low, set => by
    unfold digs
    split
    · have := digs_pos n (p + 1) (s p - 48 + 1) (set ||| 2 ^ (s p - 48))
      omega
    · exact ⟨Nat.le_refl _, Nat.le_add_right _ _⟩
theorem digs_len (h : SaOK s len) : ∀ (n p low set : Nat), p ≤ len → (digs s n p low set).1 ≤ len
  | 0, p, low, set, hp => hp
  | n + 1, p, low, set, hp => by
    unfold digs
    split
    · next q =>
      refine digs_len h n _ _ _ ?_
      by_cases e : p < len
      · omega
      · have := h.2.2 p (by omega); omega
    · exact hp
theorem digs_set : ∀ (n p low set : Nat), set < 32 → (digs s n p low set).2 < 32
  | 0, p, low, set, h => h
  | n + 1, p, low, set, h => by
    unfold digs
    split
    · next q => exact digs_set n _ _ _ (or_lt32 set h _ (pow_lt32 _ (by omega)))
    · exact h
theorem numS_pos : ∀ (n p v : Nat), p ≤ (numS s n p v).1 ∧ (numS s n p v).1 ≤ p + n
  | 0, p, v => ⟨Nat.le_refl _, Nat.le_refl _⟩
  | n + 1, p, v => by
    unfold numS
    split
    · have := numS_pos n (p + 1) (v * 10 + (s p - 48))
      omega
    · exact ⟨Nat.le_refl _, Nat.le_add_right _ _⟩
theorem numS_len (h : SaOK s len) : ∀ (n p v : Nat), p ≤ len → (numS s n p v).1 ≤ len
  | 0, p, v, hp => hp
  | n + 1, p, v, hp => by
    unfold numS
    split
    · next q =>
      refine numS_len h n _ _ ?_
      by_cases e : p < len
      · omega
      · have := h.2.2 p (by omega); omega
    · exact hp
theorem numS_val : ∀ (n p v : Nat), v ≤ 500 → (numS s n p v).2 ≤ 500
  | 0, p, v, h => h
  | n + 1, p, v, h => by
    unfold numS
    split
    · next q => exact numS_val n _ _ q.2.2.2
    · exact h
/-- the deed's place and numbers -/
theorem rdS_ok (h : SaOK s len) {p : Nat} (hp : p ≤ len) : (rdS s p).2.1 ≤ len ∧ p ≤ (rdS s p).2.1 ∧ ((rdS s p).1 = true → p + 2 ≤ (rdS s p).2.1 ∧ (((rdS s p).2.2.1 = 99 ∧ (rdS s p).2.2.2.1 < 5) ∨ (((rdS s p).2.2.1 = 112 ∨ (rdS s p).2.2.1 = 113) ∧ 0 < (rdS s p).2.2.2.1 ∧ (rdS s p).2.2.2.1 < 32) ∨ ((rdS s p).2.2.1 = 114 ∧ (rdS s p).2.2.2.1 < 5 ∧ 1 ≤ (rdS s p).2.2.2.2 ∧ (rdS s p).2.2.2.2 ≤ 500))) := by
  have lt : ∀ i, s i ≠ 0 → i < len := fun i hi => by
    by_cases e : i < len
    · exact e
    · exact absurd (h.2.2 i (by omega)) hi
  unfold rdS
  by_cases q1 : s p = 99
  · rw [if_pos q1]
    have l1 := lt p (by omega)
    split
    · next q2 =>
      have l2 := lt (p + 1) (by omega)
      exact ⟨by show p + 2 ≤ len; omega, by show p ≤ p + 2; omega, fun _ => ⟨Nat.le_refl _, Or.inl ⟨rfl, by show s (p + 1) - 48 < 5; omega⟩⟩⟩
    · exact ⟨l1, Nat.le_succ _, fun z => by cases z⟩
  · rw [if_neg q1]
    by_cases q2 : s p = 112 ∨ s p = 113
    · rw [if_pos q2]
      have l1 := lt p (by omega)
      have d1 := digs_pos (s := s) 5 (p + 1) 0 0
      have d2 := digs_len h 5 (p + 1) 0 0 (by omega)
      refine ⟨d2, by show p ≤ (digs s 5 (p + 1) 0 0).1; omega, fun z => ?_⟩
      have z1 : 0 < (digs s 5 (p + 1) 0 0).2 := of_decide_eq_true z
      have z2 : (digs s 5 (p + 1) 0 0).2 < 32 := digs_set 5 _ _ _ (by decide)
      refine ⟨?_, Or.inr (Or.inl ⟨q2, z1, z2⟩)⟩
      show p + 2 ≤ (digs s 5 (p + 1) 0 0).1
      unfold digs at z1 ⊢
      split
      · next w =>
        have := digs_pos (s := s) 4 (p + 1 + 1) (s (p + 1) - 48 + 1) (0 ||| 2 ^ (s (p + 1) - 48))
        omega
      · next w =>
        rw [if_neg w] at z1
        exact absurd z1 (Nat.lt_irrefl _)
    · rw [if_neg q2]
      by_cases q3 : s p = 114
      · rw [if_pos q3]
        have l1 := lt p (by omega)
        by_cases q4 : 48 ≤ s (p + 1) ∧ s (p + 1) ≤ 52
        · rw [if_pos q4]
          have l2 := lt (p + 1) (by omega)
          by_cases q5 : s (p + 2) = 61
          · rw [if_pos q5]
            have l3 := lt (p + 2) (by omega)
            have d1 := numS_pos (s := s) 3 (p + 3) 0
            have d2 := numS_len h 3 (p + 3) 0 (by omega)
            refine ⟨d2, by show p ≤ (numS s 3 (p + 3) 0).1; omega, fun z => ?_⟩
            have z1 : 0 < (numS s 3 (p + 3) 0).2 := of_decide_eq_true z
            exact ⟨by show p + 2 ≤ (numS s 3 (p + 3) 0).1; omega, Or.inr (Or.inr ⟨rfl, by show s (p + 1) - 48 < 5; omega, z1, numS_val 3 _ _ (by decide)⟩)⟩
          · rw [if_neg q5]
            exact ⟨by show p + 2 ≤ len; omega, by show p ≤ p + 2; omega, fun z => by cases z⟩
        · rw [if_neg q4]
          exact ⟨l1, Nat.le_succ _, fun z => by cases z⟩
      · rw [if_neg q3]
        exact ⟨hp, Nat.le_refl _, fun z => by cases z⟩
/-! the class's reader -/
def SgR (SIG : Nat → Int32) (s : Nat → Nat) (len : Nat) : Prop := ∀ i, i < len → SIG i = nI (s i)
theorem isC_sm {n : Nat} (h : n < 128) : isC (nI n) = true := (by decide +kernel : ∀ n, n < 128 → isC (nI n) = true) n h
theorem c_signAt (h : SaOK s len) (hs : SgR SIG s len) {i : Nat} (hi : i < 2 ^ 30) : f_X1_signAt (nI i) SIG (nI len) = some (nI (s i)) := by
  have h60 := h.1
  unfold f_X1_signAt
  rw [if_neg (nI_pos (by omega))]
  by_cases q : len ≤ i
  · rw [if_pos (nI_le q (by omega)), h.2.2 i q, grd_t (by decide +kernel)]
    rfl
  · have hb := h.2.1 i (by omega)
    rw [if_neg (nI_ge (by omega) (by omega)), if_neg (show ¬ (60 : Int32) ≤ nI i from nI_ge (b := 60) (by omega) (by decide)), grd_inb (by omega) (by decide), nI_clamp (by omega), hs i (by omega), grd_t (isC_sm (by omega))]
/-- a sign less 48 -/
def dgI (x : Nat) : Int32 := nI x - 48
theorem dg_facts : ∀ x, x < 128 → (f_X5_isTable (dgI x) = some (nI (if 48 ≤ x ∧ x ≤ 52 then 1 else 0))) ∧ (48 ≤ x → dgI x = nI (x - 48)) ∧ (dgI x < 0 ↔ x < 48) ∧ (x < 48 → dgI x < nI 0) := by decide +kernel
theorem c_digit (h : SaOK s len) (hs : SgR SIG s len) {i : Nat} (hi : i < 2 ^ 30) : f_X2_digit (nI i) SIG (nI len) = some (dgI (s i)) := by
  unfold f_X2_digit
  rw [c_signAt h hs hi]
  rfl
theorem sa_lt (h : SaOK s len) (i : Nat) : s i < 128 := by
  by_cases e : i < len
  · have := h.2.1 i e; omega
  · rw [h.2.2 i (by omega)]; decide
theorem c_readTable (h : SaOK s len) (hs : SgR SIG s len) {i : Nat} (hi : i < 2 ^ 30) (tb : Int32) : f_X2_readTable (nI i) tb SIG (nI len) = if 48 ≤ s i ∧ s i ≤ 52 then some (nI 1, nI (i + 1), nI (s i - 48)) else some (nI 0, nI i, tb) := by
  have hlt := sa_lt h i
  obtain ⟨f1, f2, f3, f4⟩ := dg_facts (s i) hlt
  unfold f_X2_readTable
  rw [c_digit h hs hi, bnd_s, f1, bnd_s]
  by_cases q : 48 ≤ s i ∧ s i ≤ 52
  · rw [if_pos q, if_pos q, if_neg (by decide +kernel), bnd_s, f2 q.1, show nI i + (1 : Int32) = nI (i + 1) from nI_1 i]
    rfl
  · rw [if_neg q, if_neg q, if_pos (by rfl)]
    rfl
theorem dg_low : ∀ x, x < 128 → ∀ low, low ≤ 5 → (dgI x < nI low ↔ x < 48 + low) := by decide +kernel
theorem c_tablesL (h : SaOK s len) (hs : SgR SIG s len) : ∀ (n k p low set : Nat) (tb : Int32), k ≤ 5 → 5 < n + k → p + (5 - k) < 2 ^ 29 → low ≤ 5 → set < 32 →
    ∃ tb1, f_X2_readTables_L9 SIG (nI len) n (nI low) (nI k) (nI p) (nI set) tb = some (nI (if 0 < (digs s (5 - k) p low set).2 then 1 else 0), nI (digs s (5 - k) p low set).1, nI (digs s (5 - k) p low set).2, tb1)
  | 0, k, p, low, set, tb, h1, h2, _, _, _ => by omega
  | n + 1, k, p, low, set, tb, h1, h2, hp, hlo, hset => by
    have hlt := sa_lt h p
    have fin : ∀ tb : Int32, ∃ tb1 : Int32, (if nI set ≤ (0 : Int32) then some ((0 : Int32), nI p, nI set, tb) else some ((1 : Int32), nI p, nI set, tb)) = some (nI (if 0 < set then 1 else 0), nI p, nI set, tb1) := fun tb => by
      refine ⟨tb, ?_⟩
      by_cases q : 0 < set
      · rw [if_neg (nI_nle q (by omega)), if_pos q]; rfl
      · rw [if_pos (show nI set ≤ (0 : Int32) from nI_le (b := 0) (by omega) (by decide)), if_neg q]; rfl
    show ∃ tb1, f_X2_readTables_L9b _ _ _ _ _ _ _ _ = _
    unfold f_X2_readTables_L9b
    by_cases q5 : 5 ≤ k
    · have e : k = 5 := by omega
      subst e
      rw [if_pos (by decide +kernel)]
      exact fin tb
    · rw [if_neg (show ¬ (5 : Int32) ≤ nI k from nI_ge (b := 5) (by omega) (by decide)), c_digit h hs (by omega), bnd_s]
      rw [show 5 - k = (5 - (k + 1)) + 1 by omega]
      unfold digs
      by_cases q1 : s p < 48 + low
      · rw [if_pos ((dg_low _ hlt low hlo).mpr q1), if_neg (show ¬ (48 + low ≤ s p ∧ s p ≤ 52) by omega)]
        exact fin tb
      · rw [if_neg (fun z => q1 ((dg_low _ hlt low hlo).mp z)), c_readTable h hs (by omega)]
        by_cases q2 : s p ≤ 52
        · have hb := bit_int (s p - 48) (by omega)
          rw [if_pos (show 48 ≤ s p ∧ s p ≤ 52 by omega), if_pos (show 48 + low ≤ s p ∧ s p ≤ 52 by omega), bnd_s, if_neg (show ¬ nI 1 = (0 : Int32) by decide +kernel), c_bit (s p - 48) (by omega), bnd_s]
          show ∃ tb1, f_X2_readTables_L9 SIG (nI len) n (nI (s p - 48) + 1) (nI k + 1) (nI (p + 1)) (nI set ||| nI (2 ^ (s p - 48))) (nI (s p - 48)) = _
          rw [show nI (s p - 48) + (1 : Int32) = nI (s p - 48 + 1) from nI_1 _, show nI k + (1 : Int32) = nI (k + 1) from nI_1 k, or_int set hset _ (pow_lt32 (s p - 48) (by omega))]
          exact c_tablesL h hs n (k + 1) (p + 1) (s p - 48 + 1) _ _ (by omega) (by omega) (by omega) (by omega) (or_lt32 set hset _ (pow_lt32 (s p - 48) (by omega)))
        · rw [if_neg (show ¬ (48 ≤ s p ∧ s p ≤ 52) by omega), if_neg (show ¬ (48 + low ≤ s p ∧ s p ≤ 52) by omega), bnd_s, if_pos (show nI 0 = (0 : Int32) from rfl)]
          exact fin tb
theorem c_readTables (h : SaOK s len) (hs : SgR SIG s len) {p : Nat} (hp : p + 5 < 2 ^ 29) (ts tb : Int32) : ∃ tb1, f_X2_readTables (nI p) ts tb SIG (nI len) = some (nI (if 0 < (digs s 5 p 0 0).2 then 1 else 0), nI (digs s 5 p 0 0).1, nI (digs s 5 p 0 0).2, tb1) :=
  c_tablesL h hs 1024 0 p 0 0 tb (by decide) (by decide) hp (by decide) (by decide)
theorem c_readSign (h : SaOK s len) (hs : SgR SIG s len) {i x : Nat} (hi : i < 2 ^ 30) (hx : x < 128) : f_X2_readSign (nI x) (nI i) SIG (nI len) = if s i = x then some (nI 1, nI (i + 1)) else some (nI 0, nI i) := by
  have hlt := sa_lt h i
  unfold f_X2_readSign
  rw [c_signAt h hs hi, bnd_s]
  by_cases q : s i = x
  · rw [if_pos (by rw [q]), if_pos q, show nI i + (1 : Int32) = nI (i + 1) from nI_1 i]; rfl
  · rw [if_neg (fun z => q (nI_inj31 (by omega) (by omega) z)), if_neg q]; rfl
theorem c_numL (h : SaOK s len) (hs : SgR SIG s len) : ∀ (n k p v : Nat), k ≤ 3 → 3 < n + k → p + (3 - k) < 2 ^ 29 → v ≤ 500 →
    f_X2_readNumber_L7 SIG (nI len) n (nI k) (nI p) (nI v) = some (nI (if 0 < (numS s (3 - k) p v).2 then 1 else 0), nI (numS s (3 - k) p v).1, nI (numS s (3 - k) p v).2)
  | 0, k, p, v, h1, h2, _, _ => by omega
  | n + 1, k, p, v, h1, h2, hp, hv => by
    have hlt := sa_lt h p
    obtain ⟨f1, f2, f3, f4⟩ := dg_facts (s p) hlt
    have fin : f_X2_readNumber_J77 SIG (nI len) (nI p) (nI v) = some (nI (if 0 < v then 1 else 0), nI p, nI v) := by
      unfold f_X2_readNumber_J77
      by_cases q : 0 < v
      · rw [if_neg (nI_nle q (by omega)), if_pos q]; rfl
      · rw [if_pos (show nI v ≤ (0 : Int32) from nI_le (b := 0) (by omega) (by decide)), if_neg q]; rfl
    show f_X2_readNumber_L7b _ _ _ _ _ _ = _
    unfold f_X2_readNumber_L7b
    by_cases q5 : 3 ≤ k
    · have e : k = 3 := by omega
      subst e
      rw [if_pos (by decide +kernel)]
      exact fin
    · rw [if_neg (show ¬ (3 : Int32) ≤ nI k from nI_ge (b := 3) (by omega) (by decide)), c_digit h hs (by omega), bnd_s, bnd_s]
      rw [show 3 - k = (3 - (k + 1)) + 1 by omega]
      unfold numS
      by_cases q1 : s p < 48
      · rw [if_pos (f3.mpr q1), if_neg (show ¬ (48 ≤ s p ∧ s p ≤ 57 ∧ 1 ≤ v * 10 + (s p - 48) ∧ v * 10 + (s p - 48) ≤ 500) by omega)]
        exact fin
      · rw [if_neg (fun z => q1 (f3.mp z)), bnd_s, f2 (by omega)]
        simp (disch := omega) only [iv, nI_ltr, pk_mul, nI_add, nI_ler]
        by_cases q2 : 9 < s p - 48
        · rw [if_pos q2, if_neg (show ¬ (48 ≤ s p ∧ s p ≤ 57 ∧ 1 ≤ v * 10 + (s p - 48) ∧ v * 10 + (s p - 48) ≤ 500) by omega)]
          exact fin
        · rw [if_neg q2]
          by_cases q3 : v * 10 + (s p - 48) < 1
          · rw [if_pos q3, if_neg (show ¬ (48 ≤ s p ∧ s p ≤ 57 ∧ 1 ≤ v * 10 + (s p - 48) ∧ v * 10 + (s p - 48) ≤ 500) by omega)]
            exact fin
          · rw [if_neg q3]
            by_cases q4 : v * 10 + (s p - 48) ≤ 500
            · rw [if_pos q4, if_pos (show 48 ≤ s p ∧ s p ≤ 57 ∧ 1 ≤ v * 10 + (s p - 48) ∧ v * 10 + (s p - 48) ≤ 500 by omega)]
              exact c_numL h hs n (k + 1) (p + 1) _ (by omega) (by omega) (by omega) q4
            · rw [if_neg q4, if_neg (show ¬ (48 ≤ s p ∧ s p ≤ 57 ∧ 1 ≤ v * 10 + (s p - 48) ∧ v * 10 + (s p - 48) ≤ 500) by omega)]
              exact fin
theorem c_readNumber (h : SaOK s len) (hs : SgR SIG s len) {p : Nat} (hp : p + 3 < 2 ^ 29) (nb : Int32) : f_X2_readNumber (nI p) nb SIG (nI len) = some (nI (if 0 < (numS s 3 p 0).2 then 1 else 0), nI (numS s 3 p 0).1, nI (numS s 3 p 0).2) :=
  c_numL h hs 1024 0 p 0 (by decide) (by decide) hp (by decide)
/-- the class's reading of a deed -/
def RdR (q : Int32 × (Int32) × (Int32) × (Int32) × (Int32) × (Int32) × (Int32)) (s : Nat → Nat) (p : Nat) : Prop := q.1 = nI (if (rdS s p).1 = true then 1 else 0) ∧ q.2.1 = nI (rdS s p).2.1 ∧ q.2.2.1 = nI p ∧ ((rdS s p).1 = true → q.2.2.2.1 = nI (rdS s p).2.2.1 ∧
  ((rdS s p).2.2.1 = 99 → q.2.2.2.2.2.1 = nI (rdS s p).2.2.2.1) ∧ ((rdS s p).2.2.1 = 112 ∨ (rdS s p).2.2.1 = 113 → q.2.2.2.2.1 = nI (rdS s p).2.2.2.1) ∧ ((rdS s p).2.2.1 = 114 → q.2.2.2.2.2.1 = nI (rdS s p).2.2.2.1 ∧ q.2.2.2.2.2.2 = nI (rdS s p).2.2.2.2))
theorem c_readDeed (h : SaOK s len) (hs : SgR SIG s len) {p : Nat} (hp : p ≤ len) (st lt ts tb nb : Int32) : ∃ q, f_X2_readDeed (nI p) st lt ts tb nb SIG (nI len) = some q ∧ RdR q s p := by
  have h60 := h.1
  have hlt := sa_lt h p
  unfold f_X2_readDeed RdR rdS
  rw [c_signAt h hs (by omega), bnd_s, grd_t (isC_sm hlt), show nI p + (1 : Int32) = nI (p + 1) from nI_1 p]
  have Y : ∀ x, x < 128 → s p = x → nI (s p) = nI x := fun x _ e => by rw [e]
  have Z : ∀ x, x < 128 → s p ≠ x → ¬ nI (s p) = nI x := fun x hx e z => e (nI_inj31 (by omega) (by omega) z)
  by_cases q1 : s p = 99
  · rw [if_pos (show nI (s p) = (99 : Int32) from Y 99 (by decide) q1), if_pos q1, c_readTable h hs (by omega)]
    by_cases q2 : 48 ≤ s (p + 1) ∧ s (p + 1) ≤ 52
    · rw [if_pos q2, if_pos q2, bnd_s, grd_t (show isB (nI 1) = true by decide +kernel)]
      exact ⟨_, rfl, rfl, rfl, rfl, fun _ => ⟨(by rw [q1]), (fun _ => rfl), (fun z => by rcases z with z | z <;> cases z), (fun z => by cases z)⟩⟩
    · rw [if_neg q2, if_neg q2, bnd_s, grd_t (show isB (nI 0) = true by decide +kernel)]
      exact ⟨_, rfl, rfl, rfl, rfl, fun z => by cases z⟩
  · rw [if_neg (show ¬ nI (s p) = (99 : Int32) from Z 99 (by decide) q1), if_neg q1]
    obtain ⟨tb1, g⟩ := c_readTables h hs (p := p + 1) (by omega) ts tb
    have two : ∀ z : Nat, (s p = 112 ∨ s p = 113) → ∃ q, bnd (f_X2_readTables (nI (p + 1)) ts tb SIG (nI len)) (fun q7 => grd (isB q7.1) (some (q7.1, q7.2.1, nI p, nI (s p), q7.2.2.1, q7.2.2.2, nb))) = some q ∧ RdR q s p := fun _ hz => by
      rw [g, bnd_s, grd_t (by
        show isB (nI (if 0 < (digs s 5 (p + 1) 0 0).2 then 1 else 0)) = true
        split <;> decide +kernel)]
      unfold RdR rdS
      rw [if_neg q1, if_pos hz]
      refine ⟨_, rfl, ?_, rfl, rfl, fun z => ⟨rfl, (fun z => by rcases hz with hz | hz <;> (simp only at z; omega)), (fun _ => rfl), (fun z => by rcases hz with hz | hz <;> (simp only at z; omega))⟩⟩
      show nI (if 0 < (digs s 5 (p + 1) 0 0).2 then 1 else 0) = nI (if decide (0 < (digs s 5 (p + 1) 0 0).2) = true then 1 else 0)
      simp only [decide_eq_true_eq]
    by_cases q2 : s p = 112
    · rw [if_pos (show nI (s p) = (112 : Int32) from Y 112 (by decide) q2)]
      have := two 0 (Or.inl q2)
      unfold RdR rdS at this
      rw [if_neg q1] at this
      exact this
    · rw [if_neg (show ¬ nI (s p) = (112 : Int32) from Z 112 (by decide) q2)]
      by_cases q3 : s p = 113
      · rw [if_pos (show nI (s p) = (113 : Int32) from Y 113 (by decide) q3)]
        have := two 0 (Or.inr q3)
        unfold RdR rdS at this
        rw [if_neg q1] at this
        exact this
      · rw [if_neg (show ¬ nI (s p) = (113 : Int32) from Z 113 (by decide) q3), if_neg (show ¬ (s p = 112 ∨ s p = 113) by omega)]
        by_cases q4 : s p = 114
        · rw [if_pos (show nI (s p) = (114 : Int32) from Y 114 (by decide) q4), if_pos q4, c_readTable h hs (by omega)]
          by_cases q5 : 48 ≤ s (p + 1) ∧ s (p + 1) ≤ 52
          · rw [if_pos q5, if_pos q5, bnd_s, if_neg (show ¬ (nI 1, nI (p + 1 + 1), nI (s (p + 1) - 48)).1 = (0 : Int32) from (by decide +kernel : ¬ nI 1 = (0 : Int32)))]
            have g2 := c_readSign (x := 61) h hs (i := p + 1 + 1) (by omega) (by decide)
            rw [show (61 : Int32) = nI 61 from rfl]
            show ∃ q, bnd (f_X2_readSign (nI 61) (nI (p + 1 + 1)) SIG (nI len)) _ = some q ∧ _
            rw [g2]
            by_cases q6 : s (p + 1 + 1) = 61
            · rw [if_pos q6, if_pos (show s (p + 2) = 61 from q6), bnd_s, if_neg (show ¬ (nI 1, nI (p + 1 + 1 + 1)).1 = (0 : Int32) from (by decide +kernel : ¬ nI 1 = (0 : Int32)))]
              show ∃ q, bnd (f_X2_readNumber (nI (p + 3)) nb SIG (nI len)) _ = some q ∧ _
              rw [c_readNumber h hs (by omega), bnd_s]
              by_cases q7 : 0 < (numS s 3 (p + 3) 0).2
              · rw [decide_eq_true q7]
                simp only [if_pos q7]
                rw [if_neg (show ¬ (nI 1, nI (numS s 3 (p + 3) 0).1, nI (numS s 3 (p + 3) 0).2).1 = (0 : Int32) from (by decide +kernel : ¬ nI 1 = (0 : Int32)))]
                exact ⟨_, rfl, rfl, rfl, rfl, fun _ => ⟨(by rw [q4]), (fun z => by cases z), (fun z => by rcases z with z | z <;> cases z), (fun _ => ⟨rfl, rfl⟩)⟩⟩
              · rw [decide_eq_false q7]
                simp only [if_neg q7]
                rw [if_pos (show (nI 0, nI (numS s 3 (p + 3) 0).1, nI (numS s 3 (p + 3) 0).2).1 = (0 : Int32) from rfl)]
                exact ⟨_, rfl, rfl, rfl, rfl, fun z => by cases z⟩
            · rw [if_neg q6, if_neg (show ¬ s (p + 2) = 61 from q6), bnd_s, if_pos (show (nI 0, nI (p + 1 + 1)).1 = (0 : Int32) from rfl)]
              exact ⟨_, rfl, rfl, rfl, rfl, fun z => by cases z⟩
          · rw [if_neg q5, if_neg q5, bnd_s, if_pos (show (nI 0, nI (p + 1), tb).1 = (0 : Int32) from rfl)]
            exact ⟨_, rfl, rfl, rfl, rfl, fun z => by cases z⟩
        · rw [if_neg (show ¬ nI (s p) = (114 : Int32) from Z 114 (by decide) q4), if_neg q4]
          exact ⟨_, rfl, rfl, rfl, rfl, fun z => by cases z⟩
end TX
