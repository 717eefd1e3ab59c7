/-! the fault of a text: the class's and the model's -/
def scan (s : Nat → Nat) (len : Nat) : Nat → Nat → List Nat × Option Nat
  | 0, p => ([], some p)
  | n + 1, p => if (rdS s p).1 = true then (if (rdS s p).2.1 < len then (if s (rdS s p).2.1 = 59 then (p :: (scan s len n ((rdS s p).2.1 + 1)).1, (scan s len n ((rdS s p).2.1 + 1)).2) else ([p], some (rdS s p).2.1)) else ([p], none)) else ([], some (rdS s p).2.1)
def fcI (x : Option Nat) : Int32 := match x with
  | none => -1
  | some p => nI p
def fmI (x : Option Nat) : Int32 := match x with
  | none => -4
  | some p => nI p
section SC
variable {s : Nat → Nat} {len : Nat} {SIG : Nat → Int32}
theorem scan_len (h : SaOK s len) : ∀ (n p : Nat), p ≤ len → (scan s len n p).1.length ≤ n ∧ ∀ x, (scan s len n p).2 = some x → x ≤ len
  | 0, p, hp => ⟨Nat.le_refl _, fun x hx => by cases hx; exact hp⟩
  | n + 1, p, hp => by
    obtain ⟨r1, r2, r3⟩ := rdS_ok h hp
    unfold scan
    by_cases q1 : (rdS s p).1 = true
    · rw [if_pos q1]
      by_cases q2 : (rdS s p).2.1 < len
      · rw [if_pos q2]
        by_cases q3 : s (rdS s p).2.1 = 59
        · rw [if_pos q3]
          obtain ⟨i1, i2⟩ := scan_len h n ((rdS s p).2.1 + 1) q2
          exact ⟨Nat.succ_le_succ i1, i2⟩
        · rw [if_neg q3]
          exact ⟨Nat.succ_le_succ (Nat.zero_le _), fun x hx => by cases hx; exact r1⟩
      · rw [if_neg q2]
        exact ⟨Nat.succ_le_succ (Nat.zero_le _), fun x hx => by cases hx⟩
    · rw [if_neg q1]
      exact ⟨Nat.zero_le _, fun x hx => by cases hx; exact r1⟩
theorem c_scanL (h : SaOK s len) (hs : SgR SIG s len) : ∀ (n m i p : Nat) (st lt ts tb nb : Int32), p ≤ len → len < p + 3 * n → n ≤ m → i + n ≤ 60 →
    ∃ q, f_X2_findFault_L2 SIG (nI len) m (nI i) (nI p) st lt ts tb nb = some q ∧ q.1 = fcI (scan s len n p).2
  | 0, m, i, p, st, lt, ts, tb, nb, hp, h1, h2, h3 => by omega
  | n + 1, 0, i, p, st, lt, ts, tb, nb, hp, h1, h2, h3 => by omega
  | n + 1, m + 1, i, p, st, lt, ts, tb, nb, hp, h1, h2, h3 => by
    have h60 := h.1
    obtain ⟨r1, r2, r3⟩ := rdS_ok h hp
    show ∃ q, f_X2_findFault_L2b _ _ _ _ _ _ _ _ _ _ = some q ∧ _
    unfold f_X2_findFault_L2b
    rw [if_neg (show ¬ (60 : Int32) ≤ nI i from nI_ge (b := 60) (by omega) (by decide))]
    obtain ⟨q, e, d1, d2, d3, d4⟩ := c_readDeed h hs hp st lt ts tb nb
    rw [e, bnd_s]
    unfold scan
    by_cases q1 : (rdS s p).1 = true
    · rw [if_neg (show ¬ q.1 = (0 : Int32) by rw [d1, if_pos q1]; decide +kernel), if_pos q1, d2]
      obtain ⟨r4, -⟩ := r3 q1
      by_cases q2 : (rdS s p).2.1 < len
      · rw [if_pos (nI_lt q2 (by omega)), if_pos q2, show (59 : Int32) = nI 59 from rfl, c_readSign h hs (by omega) (by decide)]
        by_cases q3 : s (rdS s p).2.1 = 59
        · rw [if_pos q3, if_pos q3, bnd_s, if_neg (show ¬ (nI 1, nI ((rdS s p).2.1 + 1)).1 = (0 : Int32) from (by decide +kernel : ¬ nI 1 = (0 : Int32)))]
          show ∃ q5, f_X2_findFault_L2 SIG (nI len) m (nI i + 1) (nI ((rdS s p).2.1 + 1)) _ _ _ _ _ = some q5 ∧ _
          rw [nI_1]
          exact c_scanL h hs n m (i + 1) _ _ _ _ _ _ q2 (by omega) (by omega) (by omega)
        · rw [if_neg q3, if_neg q3, bnd_s, if_pos (show (nI 0, nI (rdS s p).2.1).1 = (0 : Int32) from rfl)]
          exact ⟨_, rfl, rfl⟩
      · rw [if_neg (show ¬ nI (rdS s p).2.1 < nI len from fun z => q2 ((nI_ltI (by omega) (by omega)).mp z)), if_neg q2]
        exact ⟨_, rfl, rfl⟩
    · rw [if_pos (show q.1 = (0 : Int32) by rw [d1, if_neg q1]; rfl), if_neg q1]
      exact ⟨_, rfl, d2⟩
theorem c_findFault (h : SaOK s len) (hs : SgR SIG s len) (st lt ts tb nb : Int32) : ∃ q, f_X2_findFault (0 : Int32) st lt ts tb nb SIG (nI len) = some q ∧ q.1 = fcI (scan s len 21 0).2 :=
  c_scanL h hs 21 1024 0 0 st lt ts tb nb (Nat.zero_le _) (by have := h.1; omega) (by decide) (by decide)
theorem m_scanL (h : SaOK s len) (hs : SgR SIG s len) : ∀ (n m d p : Nat) (dd : Nat → Int32), p ≤ len → len < p + 3 * n → n < m → d + n ≤ 31 →
    ∃ sp dd1, f_X6_fault_L12 SIG (nI len) m (1 : Int32) (nI p) (nI d) dd = some (fmI (scan s len n p).2, sp, nI (d + (scan s len n p).1.length), dd1) ∧ (∀ k, k < 4 * d → dd1 k = dd k) ∧ ∀ i x, (scan s len n p).1[i]? = some x → DdR dd1 (d + i) s x
  | 0, m, d, p, dd, hp, h1, h2, h3 => by omega
  | n + 1, 0, d, p, dd, hp, h1, h2, h3 => by omega
  | n + 1, m + 1, d, p, dd, hp, h1, h2, h3 => by
    have h60 := h.1
    obtain ⟨r1, r2, r3⟩ := rdS_ok h hp
    show ∃ sp dd1, f_X6_fault_L12b _ _ _ _ _ _ _ = _ ∧ _
    unfold f_X6_fault_L12b
    rw [if_neg (show ¬ (1 : Int32) = 0 by decide +kernel)]
    obtain ⟨dd1, e, e1, e2⟩ := m_reads (dd := dd) h hs (d := d) (by omega) hp
    rw [e, bnd_s]
    unfold scan
    by_cases q1 : (rdS s p).1 = true
    · obtain ⟨r4, -⟩ := r3 q1
      simp only [if_pos q1]
      rw [if_neg (show ¬ (nI 1, nI (rdS s p).2.1, dd1).1 = (0 : Int32) from (by decide +kernel : ¬ nI 1 = (0 : Int32)))]
      show ∃ sp dd1', bnd (f_X6_sign (59 : Int32) SIG (nI len) (nI (rdS s p).2.1)) (fun q5 => f_X6_fault_L12 SIG (nI len) m q5.1 q5.2 (nI d + (1 : Int32)) dd1) = _ ∧ _
      rw [show (59 : Int32) = nI 59 from rfl, m_sign h hs r1 (by decide) (by decide), show nI d + (1 : Int32) = nI (d + 1) from nI_1 d]
      by_cases q3 : s (rdS s p).2.1 = 59
      · have q2 := h.lt (p := (rdS s p).2.1) (by omega)
        rw [if_pos q3, bnd_s]
        simp only [if_pos q2, if_pos q3]
        obtain ⟨sp, dd2, i1, i2, i3⟩ := m_scanL h hs n m (d + 1) ((rdS s p).2.1 + 1) dd1 q2 (by omega) (by omega) (by omega)
        refine ⟨sp, dd2, ?_, fun k hk => (i2 k (by omega)).trans (e1 k hk), fun i x hx => ?_⟩
        · show f_X6_fault_L12 SIG (nI len) m (1 : Int32) _ _ _ = _
          rw [i1]
          simp only [List.length_cons]
          rw [show d + 1 + (scan s len n ((rdS s p).2.1 + 1)).1.length = d + ((scan s len n ((rdS s p).2.1 + 1)).1.length + 1) by omega]
        · cases i with
          | zero =>
            cases hx
            obtain ⟨a1, a2, a3, a4⟩ := e2 q1
            exact ⟨(i2 _ (by omega)).trans a1, (i2 _ (by omega)).trans a2, fun z => (i2 _ (by omega)).trans (a3 z), (i2 _ (by omega)).trans a4⟩
          | succ i =>
            have := i3 i x hx
            rw [show d + 1 + i = d + (i + 1) by omega] at this
            exact this
      · rw [if_neg q3, bnd_s]
        obtain ⟨k, rfl⟩ : ∃ k, m = k + 1 := ⟨m - 1, by omega⟩
        have one : ∀ (i x : Nat), ([p] : List Nat)[i]? = some x → DdR dd1 (d + i) s x := fun i x hx => by
          cases i with
          | zero => cases hx; exact e2 q1
          | succ i => cases hx
        show ∃ sp dd1', f_X6_fault_L12b SIG (nI len) (f_X6_fault_L12 SIG (nI len) k) (nI 0) (nI (rdS s p).2.1) (nI (d + 1)) dd1 = _ ∧ _
        unfold f_X6_fault_L12b
        rw [if_pos (show nI 0 = (0 : Int32) from rfl)]
        by_cases q2 : (rdS s p).2.1 < len
        · simp only [if_pos q2, if_neg q3]
          rw [if_neg (show ¬ nI (rdS s p).2.1 = nI len from fun z => absurd ((nI_eq (by omega) (by omega)).mp z) (by omega))]
          exact ⟨_, dd1, rfl, e1, one⟩
        · simp only [if_neg q2]
          rw [if_pos (show nI (rdS s p).2.1 = nI len from congrArg nI (by omega))]
          exact ⟨_, dd1, rfl, e1, one⟩
    · simp only [if_neg q1]
      rw [if_pos (show (nI 0, nI (rdS s p).2.1, dd1).1 = (0 : Int32) from rfl)]
      exact ⟨_, dd1, rfl, e1, fun i x hx => by cases hx⟩
theorem m_fault (h : SaOK s len) (hs : SgR SIG s len) (sp0 d0 : Int32) (dd : Nat → Int32) : ∃ sp dd1, f_X6_fault SIG (nI len) sp0 d0 dd = some (fmI (scan s len 21 0).2, sp, nI (scan s len 21 0).1.length, dd1) ∧ ∀ i x, (scan s len 21 0).1[i]? = some x → DdR dd1 i s x := by
  obtain ⟨sp, dd1, e, -, e2⟩ := m_scanL h hs 21 1024 0 0 dd (Nat.zero_le _) (by have := h.1; omega) (by decide) (by decide)
  rw [Nat.zero_add] at e
  exact ⟨sp, dd1, e, fun i x hx => by have := e2 i x hx; rwa [Nat.zero_add] at this⟩
theorem fm_some {x : Option Nat} (hx : ∀ p, x = some p → p ≤ 60) : (fmI x = (-4 : Int32) ↔ x = none) ∧ (fcI x = (-1 : Int32) ↔ x = none) ∧ (x ≠ none → fmI x = fcI x) := by
  cases x with
  | none => exact ⟨⟨fun _ => rfl, fun _ => rfl⟩, ⟨fun _ => rfl, fun _ => rfl⟩, fun z => absurd rfl z⟩
  | some p =>
    have hp := hx p rfl
    have key : ∀ p, p ≤ 60 → ¬ nI p = (-4 : Int32) ∧ ¬ nI p = (-1 : Int32) := by decide +kernel
    exact ⟨⟨fun z => absurd z (key p hp).1, fun z => by cases z⟩, ⟨fun z => absurd z (key p hp).2, fun z => by cases z⟩, fun _ => rfl⟩
end SC
