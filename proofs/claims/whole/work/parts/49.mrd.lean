/-! the model reads a text -/
theorem nI_subS {a b : Nat} (h : b ≤ a) : nI a - nI b = nI (a - b) := by
  have e : nI a = nI (a - b) + nI b := by rw [nI_add]; congr 1; omega
  rw [e, Int32.add_sub_cancel]
section RM
variable {s : Nat → Nat} {len : Nat} {PD : Nat → Int32} {dd : Nat → Int32}
theorem SaOK.lt (h : SaOK s len) {p : Nat} (hp : s p ≠ 0) : p < len := by
  by_cases e : p < len
  · exact e
  · exact absurd (h.2.2 p (by omega)) hp
theorem m_isAt (h : SaOK s len) (hs : SgR PD s len) {p a b : Nat} (hp : p ≤ len) (ha : 1 ≤ a) (ha2 : a < 128) (hb : b < 128) : f_X6_isAt (nI a) (nI b) PD (nI len) (nI p) = some (nI (if a ≤ s p ∧ s p ≤ b then 1 else 0)) := by
  have h60 := h.1
  have hlt := sa_lt h p
  unfold f_X6_isAt
  by_cases q : len ≤ p
  · rw [if_pos (nI_le q (by omega)), h.2.2 p q, if_neg (by omega)]; rfl
  · rw [if_neg (nI_ge (by omega) (by omega)), grd_inb (by omega) (by decide)]
    have e : PD (nI p).toNatClampNeg = nI (s p) := by rw [nI_clamp (by omega)]; exact hs p (by omega)
    rw [e]
    unfold f_X6_in
    by_cases q1 : s p < a
    · rw [if_pos (nI_lt q1 (by omega)), bnd_s, if_pos rfl, if_neg (by omega)]; rfl
    · rw [if_neg (fun z => q1 ((nI_ltI (by omega) (by omega)).mp z))]
      by_cases q2 : b < s p
      · rw [if_pos (nI_lt q2 (by omega)), bnd_s, if_pos rfl, if_neg (by omega)]; rfl
      · rw [if_neg (fun z => q2 ((nI_ltI (by omega) (by omega)).mp z)), bnd_s, if_neg (by decide), if_pos (by omega)]; rfl
theorem m_sign (h : SaOK s len) (hs : SgR PD s len) {p a : Nat} (hp : p ≤ len) (ha : 1 ≤ a) (ha2 : a < 128) : f_X6_sign (nI a) PD (nI len) (nI p) = if s p = a then some (nI 1, nI (p + 1)) else some (nI 0, nI p) := by
  unfold f_X6_sign
  rw [m_isAt h hs hp ha ha2 ha2, bnd_s]
  by_cases q : s p = a
  · rw [if_pos (show a ≤ s p ∧ s p ≤ a by omega), if_pos q, if_neg (show ¬ nI 1 = (0 : Int32) by decide +kernel), grd_t (show isB (nI 1) = true by decide +kernel), show nI p + (1 : Int32) = nI (p + 1) from nI_1 p]
  · rw [if_neg (show ¬ (a ≤ s p ∧ s p ≤ a) by omega), if_neg q, if_pos (show nI 0 = (0 : Int32) from rfl), grd_t (show isB (nI 0) = true by decide +kernel), show nI p + (0 : Int32) = nI (p + 0) from nI_add p 0]; rfl
theorem m_cell {d i : Nat} (hd : d ≤ 30) (hi : i ≤ 3) : ((4 : Int32) * nI d + nI i) = nI (4 * d + i) := by rw [show (4 : Int32) = nI 4 from rfl, pk_mul, nI_add]
theorem m_cell0 {d : Nat} : ((4 : Int32) * nI d) = nI (4 * d) := by rw [show (4 : Int32) = nI 4 from rfl, pk_mul]
theorem m_digL (h : SaOK s len) (hs : SgR PD s len) {d : Nat} (hd : d ≤ 30) : ∀ (n m p low set : Nat), n < m → 5 ≤ low + n → low ≤ 5 → p ≤ len → set < 32 →
    f_X6_digits_L5 PD (nI len) (nI d) m (nI set) (nI (48 + low)) (nI p) dd = some (nI (if 0 < (digs s n p low set).2 then 1 else 0), nI (digs s n p low set).1, upd dd (4 * d + 1) (nI (digs s n p low set).2))
  | n, 0, p, low, set, h1, _, _, _, _ => by omega
  | n, m + 1, p, low, set, h1, h2, hlo, hp, hset => by
    have h60 := h.1
    have hlt := sa_lt h p
    show f_X6_digits_L5b _ _ _ _ _ _ _ _ = _
    unfold f_X6_digits_L5b
    rw [show (52 : Int32) = nI 52 from rfl, m_isAt h hs hp (by omega) (by omega) (by decide), bnd_s]
    have fin : (digs s n p low set) = (p, set) → (grd (inb (((4 : Int32) * nI d) + (1 : Int32)) 124) (if nI set ≤ (0 : Int32) then some ((0 : Int32), nI p, (upd dd (((4 : Int32) * nI d) + (1 : Int32)).toNatClampNeg (nI set))) else some ((1 : Int32), nI p, (upd dd (((4 : Int32) * nI d) + (1 : Int32)).toNatClampNeg (nI set))))) = some (nI (if 0 < (digs s n p low set).2 then 1 else 0), nI (digs s n p low set).1, upd dd (4 * d + 1) (nI (digs s n p low set).2)) := fun e => by
      rw [e, show ((4 : Int32) * nI d + (1 : Int32)) = nI (4 * d + 1) from m_cell hd (by decide), grd_inb (by omega) (by decide), nI_clamp (by omega)]
      by_cases q : 0 < set
      · rw [if_neg (nI_nle q (by omega)), if_pos q]; rfl
      · rw [if_pos (show nI set ≤ (0 : Int32) from nI_le (b := 0) (by omega) (by decide)), if_neg q]; rfl
    by_cases q : 48 + low ≤ s p ∧ s p ≤ 52
    · have hpl := h.lt (p := p) (by omega)
      rw [if_pos q, if_neg (show ¬ nI 1 = (0 : Int32) by decide +kernel), grd_inb (by omega) (by decide), grd_inb (by omega) (by decide), show PD (nI p).toNatClampNeg = nI (s p) by rw [nI_clamp (by omega)]; exact hs p hpl]
      obtain ⟨k, rfl⟩ : ∃ k, n = k + 1 := ⟨n - 1, by omega⟩
      unfold digs
      rw [if_pos q]
      have hb := bit_int (s p - 48) (by omega)
      rw [show nI (s p) - (48 : Int32) = nI (s p - 48) from nI_subS (b := 48) (by omega), show ((1 : Int32) <<< (nI (s p - 48) &&& 31)) = nI (2 ^ (s p - 48)) from hb, or_int set hset _ (pow_lt32 _ (by omega)), show nI (s p) + (1 : Int32) = nI (48 + (s p - 48 + 1)) from (nI_1 _).trans (congrArg nI (by omega)), show nI p + (1 : Int32) = nI (p + 1) from nI_1 p]
      exact m_digL h hs hd k m (p + 1) (s p - 48 + 1) _ (by omega) (by omega) (by omega) (by omega) (or_lt32 set hset _ (pow_lt32 _ (by omega)))
    · rw [if_neg q, if_pos (show nI 0 = (0 : Int32) from rfl)]
      refine fin ?_
      cases n with
      | zero => rfl
      | succ k => unfold digs; rw [if_neg q]
theorem m_digits (h : SaOK s len) (hs : SgR PD s len) {d p : Nat} (hd : d ≤ 30) (hp : p ≤ len) : f_X6_digits PD (nI len) (nI p) (nI d) dd = some (nI (if 0 < (digs s 5 p 0 0).2 then 1 else 0), nI (digs s 5 p 0 0).1, upd dd (4 * d + 1) (nI (digs s 5 p 0 0).2)) :=
  m_digL h hs hd 5 1024 p 0 0 (by decide) (by decide) (by decide) hp (by decide)
theorem m_oneTable (h : SaOK s len) (hs : SgR PD s len) {d p : Nat} (hd : d ≤ 30) (hp : p ≤ len) : f_X6_oneTable PD (nI len) (nI p) (nI d) dd = if 48 ≤ s p ∧ s p ≤ 52 then some (nI 1, nI (p + 1), upd dd (4 * d + 1) (nI (s p - 48))) else some (nI 0, nI p, upd dd (4 * d + 1) (nI 0)) := by
  have h60 := h.1
  unfold f_X6_oneTable
  rw [show (48 : Int32) = nI 48 from rfl, show (52 : Int32) = nI 52 from rfl, m_isAt h hs hp (by decide) (by decide) (by decide), bnd_s, show ((4 : Int32) * nI d + (1 : Int32)) = nI (4 * d + 1) from m_cell hd (by decide)]
  unfold f_X6_oneTable_J41
  by_cases q : 48 ≤ s p ∧ s p ≤ 52
  · have hpl := h.lt (p := p) (by omega)
    rw [if_pos q, if_pos q, if_neg (show ¬ nI 1 = (0 : Int32) by decide +kernel), grd_inb (by omega) (by decide), show PD (nI p).toNatClampNeg = nI (s p) by rw [nI_clamp (by omega)]; exact hs p hpl, grd_inb (by omega) (by decide), if_neg (show ¬ nI 1 = (0 : Int32) by decide +kernel), grd_t (show isB (nI 1) = true by decide +kernel), nI_subS q.1, show nI p + (1 : Int32) = nI (p + 1) from nI_1 p, nI_clamp (by omega)]
  · rw [if_neg q, if_neg q, if_pos (show nI 0 = (0 : Int32) from rfl), grd_inb (by omega) (by decide), if_pos (show nI 0 = (0 : Int32) from rfl), grd_t (show isB (nI 0) = true by decide +kernel), show nI p + (0 : Int32) = nI (p + 0) from nI_add p 0, nI_clamp (by omega)]; rfl
theorem m_numL (h : SaOK s len) (hs : SgR PD s len) {d : Nat} (hd : d ≤ 30) : ∀ (n m p v : Nat), n < m → (v = 0 → n = 3 ∧ 49 ≤ s p ∧ s p ≤ 57) → 51 ≤ v * 10 ^ n → v ≤ 500 → p ≤ len →
    f_X6_number_L15 PD (nI len) (nI d) m (nI v) (nI p) dd = some (nI 1, nI (numS s n p v).1, upd dd (4 * d + 2) (nI (numS s n p v).2))
  | n, 0, p, v, h1, _, _, _, _ => by omega
  | n, m + 1, p, v, h1, h0, h2, hv, hp => by
    have h60 := h.1
    have hlt := sa_lt h p
    show f_X6_number_L15b _ _ _ _ _ _ _ = _
    unfold f_X6_number_L15b
    rw [show (48 : Int32) = nI 48 from rfl, show (57 : Int32) = nI 57 from rfl, m_isAt h hs hp (by decide) (by decide) (by decide), bnd_s, show ((4 : Int32) * nI d + (2 : Int32)) = nI (4 * d + 2) from m_cell hd (by decide)]
    have v0 : 0 < v := by
      by_cases e : v = 0
      · subst e; simp at h2
      · omega
    by_cases q : 48 ≤ s p ∧ s p ≤ 57
    · have hpl := h.lt (p := p) (by omega)
      rw [if_pos q, if_neg (show ¬ nI 1 = (0 : Int32) by decide +kernel), grd_inb (by omega) (by decide), show PD (nI p).toNatClampNeg = nI (s p) by rw [nI_clamp (by omega)]; exact hs p hpl]
      rw [show ((10 : Int32) * nI v + nI (s p) - nI 48) = nI (v * 10 + (s p - 48)) by rw [show (10 : Int32) = nI 10 from rfl, pk_mul, nI_add, nI_subS (by omega)]; exact congrArg nI (by omega)]
      by_cases q2 : v * 10 + (s p - 48) ≤ 500
      · rw [if_neg (show ¬ (500 : Int32) < nI (v * 10 + (s p - 48)) from fun z => absurd ((nI_ltI (a := 500) (by decide) (by omega)).mp z) (by omega)), grd_inb (by omega) (by decide), show nI p + (1 : Int32) = nI (p + 1) from nI_1 p]
        obtain ⟨k, rfl⟩ : ∃ k, n = k + 1 := by
          cases n with
          | zero => exfalso; simp at h2; omega
          | succ k => exact ⟨k, rfl⟩
        unfold numS
        rw [if_pos (show 48 ≤ s p ∧ s p ≤ 57 ∧ 1 ≤ v * 10 + (s p - 48) ∧ v * 10 + (s p - 48) ≤ 500 by omega)]
        refine m_numL h hs hd k m (p + 1) _ (by omega) (fun e => by omega) ?_ q2 (by omega)
        have e1 : v * 10 ^ (k + 1) = (v * 10) * 10 ^ k := by rw [Nat.pow_succ, Nat.mul_assoc, Nat.mul_comm 10]
        rw [e1] at h2
        exact Nat.le_trans h2 (Nat.mul_le_mul_right _ (Nat.le_add_right _ _))
      · rw [if_pos (show (500 : Int32) < nI (v * 10 + (s p - 48)) from nI_lt (a := 500) (by omega) (by omega)), grd_inb (by omega) (by decide), nI_clamp (by omega)]
        have e : numS s n p v = (p, v) := by
          cases n with
          | zero => rfl
          | succ k => unfold numS; rw [if_neg (by omega)]
        rw [e]; rfl
    · rw [if_neg q, if_pos (show nI 0 = (0 : Int32) from rfl), grd_inb (by omega) (by decide), nI_clamp (by omega)]
      have e : numS s n p v = (p, v) := by
        cases n with
        | zero => rfl
        | succ k => unfold numS; rw [if_neg (by omega)]
      rw [e]; rfl
theorem m_number (h : SaOK s len) (hs : SgR PD s len) {d p : Nat} (hd : d ≤ 30) (hp : p ≤ len) : ∃ dd1, f_X6_number PD (nI len) (nI p) (nI d) dd = some (nI (if 0 < (numS s 3 p 0).2 then 1 else 0), nI (numS s 3 p 0).1, dd1) ∧ (∀ k, k ≠ 4 * d + 2 → dd1 k = dd k) ∧ (0 < (numS s 3 p 0).2 → dd1 (4 * d + 2) = nI (numS s 3 p 0).2) := by
  have h60 := h.1
  have hlt := sa_lt h p
  unfold f_X6_number
  rw [show (49 : Int32) = nI 49 from rfl, show (57 : Int32) = nI 57 from rfl, m_isAt h hs hp (by decide) (by decide) (by decide), bnd_s]
  by_cases q : 49 ≤ s p ∧ s p ≤ 57
  · have hpl := h.lt (p := p) (by omega)
    rw [if_pos q, if_neg (show ¬ nI 1 = (0 : Int32) by decide +kernel)]
    have st : f_X6_number_L15 PD (nI len) (nI d) 1024 (0 : Int32) (nI p) dd = f_X6_number_L15 PD (nI len) (nI d) 1023 (nI (s p - 48)) (nI (p + 1)) dd := by
      show f_X6_number_L15b _ _ _ _ _ _ _ = _
      unfold f_X6_number_L15b
      rw [show (48 : Int32) = nI 48 from rfl, show (57 : Int32) = nI 57 from rfl, m_isAt h hs hp (by decide) (by decide) (by decide), bnd_s, if_pos (show 48 ≤ s p ∧ s p ≤ 57 by omega), if_neg (show ¬ nI 1 = (0 : Int32) by decide +kernel), grd_inb (by omega) (by decide), show PD (nI p).toNatClampNeg = nI (s p) by rw [nI_clamp (by omega)]; exact hs p hpl]
      rw [show ((10 : Int32) * (0 : Int32) + nI (s p) - nI 48) = nI (s p - 48) by rw [show (10 : Int32) = nI 10 from rfl, show (0 : Int32) = nI 0 from rfl, pk_mul, nI_add, nI_subS (by omega)]; exact congrArg nI (by omega)]
      rw [if_neg (show ¬ (500 : Int32) < nI (s p - 48) from fun z => absurd ((nI_ltI (a := 500) (by decide) (by omega)).mp z) (by omega)), grd_inb (by omega) (by decide), show nI p + (1 : Int32) = nI (p + 1) from nI_1 p]
    have sn : numS s 3 p 0 = numS s 2 (p + 1) (s p - 48) := by
      conv => lhs; unfold numS
      rw [if_pos (show 48 ≤ s p ∧ s p ≤ 57 ∧ 1 ≤ 0 * 10 + (s p - 48) ∧ 0 * 10 + (s p - 48) ≤ 500 by omega)]
      simp only [Nat.zero_mul, Nat.zero_add]
    have pos : ∀ (n p v : Nat), 0 < v → 0 < (numS s n p v).2 := by
      intro n
      induction n with
      | zero => exact fun p v hv => hv
      | succ n ih => exact fun p v hv => by unfold numS; split; exact ih _ _ (by omega); exact hv
    have hp2 := pos 2 (p + 1) (s p - 48) (by omega)
    rw [st, m_numL h hs hd 2 1023 (p + 1) (s p - 48) (by decide) (fun e => by omega) (by omega) (by omega) (by omega), sn, if_pos hp2]
    exact ⟨_, rfl, fun k hk => if_neg hk, fun _ => if_pos rfl⟩
  · have e : numS s 3 p 0 = (p, 0) := by unfold numS; rw [if_neg (by omega)]
    rw [if_neg q, if_pos (show nI 0 = (0 : Int32) from rfl), e]
    exact ⟨dd, rfl, fun k hk => rfl, fun z => absurd z (Nat.lt_irrefl _)⟩
/-- the model's row of a deed -/
def DdR (dd : Nat → Int32) (d : Nat) (s : Nat → Nat) (p : Nat) : Prop := dd (4 * d) = nI (rdS s p).2.2.1 ∧ dd (4 * d + 1) = nI (rdS s p).2.2.2.1 ∧ ((rdS s p).2.2.1 = 114 → dd (4 * d + 2) = nI (rdS s p).2.2.2.2) ∧ dd (4 * d + 3) = nI p
theorem m_reads (h : SaOK s len) (hs : SgR PD s len) {d p : Nat} (hd : d ≤ 30) (hp : p ≤ len) : ∃ dd1, f_X6_reads PD (nI len) (nI p) (nI d) dd = some (nI (if (rdS s p).1 = true then 1 else 0), nI (rdS s p).2.1, dd1) ∧ (∀ k, k < 4 * d → dd1 k = dd k) ∧ ((rdS s p).1 = true → DdR dd1 d s p) := by
  have h60 := h.1
  have hlt := sa_lt h p
  have J : f_X6_reads PD (nI len) (nI p) (nI d) dd = f_X6_reads_J24 PD (nI len) (nI d) (nI (s p)) (nI p) dd := by
    unfold f_X6_reads
    by_cases q : len ≤ p
    · rw [if_pos (nI_le q (by omega)), h.2.2 p q]; rfl
    · rw [if_neg (nI_ge (by omega) (by omega)), grd_inb (by omega) (by decide), show PD (nI p).toNatClampNeg = nI (s p) by rw [nI_clamp (by omega)]; exact hs p (by omega)]
  rw [J]
  unfold f_X6_reads_J24
  rw [show ((4 : Int32) * nI d + (3 : Int32)) = nI (4 * d + 3) from m_cell hd (by decide), m_cell0, grd_inb (by omega) (by decide), grd_inb (by omega) (by decide), nI_clamp (show 4 * d < 2 ^ 31 by omega), nI_clamp (show 4 * d + 3 < 2 ^ 31 by omega), show nI p + (1 : Int32) = nI (p + 1) from nI_1 p]
  have Y : ∀ x, x < 128 → s p = x → nI (s p) = nI x := fun x _ e => by rw [e]
  have Z : ∀ x, x < 128 → s p ≠ x → ¬ nI (s p) = nI x := fun x hx e z => e (nI_inj31 (by omega) (by omega) z)
  generalize hD : upd (upd dd (4 * d) (nI (s p))) (4 * d + 3) (nI p) = D
  have D0 : D (4 * d) = nI (s p) := by rw [← hD]; exact (if_neg (by omega)).trans (if_pos rfl)
  have D3 : D (4 * d + 3) = nI p := by rw [← hD]; exact if_pos rfl
  have Dk : ∀ k, k < 4 * d → D k = dd k := fun k hk => by rw [← hD]; exact (if_neg (by omega)).trans (if_neg (by omega))
  have U : ∀ (x : Int32) k, k ≠ 4 * d + 1 → upd D (4 * d + 1) x k = D k := fun x k hk => if_neg hk
  unfold DdR rdS
  by_cases q1 : s p = 99
  · have hpl := h.lt (p := p) (by omega)
    rw [if_pos (show nI (s p) = (99 : Int32) from Y 99 (by decide) q1), m_oneTable h hs hd (by omega), if_pos q1]
    by_cases q2 : 48 ≤ s (p + 1) ∧ s (p + 1) ≤ 52
    · rw [if_pos q2, if_pos q2, bnd_s, grd_t (show isB (nI 1) = true by decide +kernel)]
      exact ⟨_, rfl, fun k hk => (U _ k (by omega)).trans (Dk k hk), fun _ => ⟨(U _ _ (by omega)).trans (D0.trans (by rw [q1])), if_pos rfl, (fun z => by cases z), (U _ _ (by omega)).trans D3⟩⟩
    · rw [if_neg q2, if_neg q2, bnd_s, grd_t (show isB (nI 0) = true by decide +kernel)]
      exact ⟨_, rfl, fun k hk => (U _ k (by omega)).trans (Dk k hk), fun z => by cases z⟩
  · rw [if_neg (show ¬ nI (s p) = (99 : Int32) from Z 99 (by decide) q1), if_neg q1]
    have two : (s p = 112 ∨ s p = 113) → ∃ dd1, bnd (f_X6_digits PD (nI len) (nI (p + 1)) (nI d) D) (fun q8 => grd (isB q8.1) (some (q8.1, q8.2.1, q8.2.2))) = some (nI (if decide (0 < (digs s 5 (p + 1) 0 0).2) = true then 1 else 0), nI (digs s 5 (p + 1) 0 0).1, dd1) ∧ (∀ k, k < 4 * d → dd1 k = dd k) ∧ (decide (0 < (digs s 5 (p + 1) 0 0).2) = true → dd1 (4 * d) = nI (s p) ∧ dd1 (4 * d + 1) = nI (digs s 5 (p + 1) 0 0).2 ∧ (s p = 114 → dd1 (4 * d + 2) = nI 0) ∧ dd1 (4 * d + 3) = nI p) := fun hz => by
      have hpl := h.lt (p := p) (by omega)
      rw [m_digits h hs hd (by omega), bnd_s, grd_t (by
        show isB (nI (if 0 < (digs s 5 (p + 1) 0 0).2 then 1 else 0)) = true
        split <;> decide +kernel)]
      refine ⟨upd D (4 * d + 1) (nI (digs s 5 (p + 1) 0 0).2), ?_, fun k hk => (U _ k (by omega)).trans (Dk k hk), fun _ => ⟨(U _ _ (by omega)).trans D0, if_pos rfl, (fun z => by omega), (U _ _ (by omega)).trans D3⟩⟩
      simp only [decide_eq_true_eq]
    by_cases q2 : s p = 112
    · rw [if_pos (show nI (s p) = (112 : Int32) from Y 112 (by decide) q2), if_pos (Or.inl q2)]
      exact two (Or.inl q2)
    · rw [if_neg (show ¬ nI (s p) = (112 : Int32) from Z 112 (by decide) q2)]
      by_cases q3 : s p = 113
      · rw [if_pos (show nI (s p) = (113 : Int32) from Y 113 (by decide) q3), if_pos (Or.inr q3)]
        exact two (Or.inr q3)
      · rw [if_neg (show ¬ nI (s p) = (113 : Int32) from Z 113 (by decide) q3), if_neg (show ¬ (s p = 112 ∨ s p = 113) by omega)]
        by_cases q4 : s p = 114
        · have hpl := h.lt (p := p) (by omega)
          rw [if_pos (show nI (s p) = (114 : Int32) from Y 114 (by decide) q4), if_pos q4, m_oneTable h hs hd (by omega)]
          by_cases q5 : 48 ≤ s (p + 1) ∧ s (p + 1) ≤ 52
          · have hpl1 := h.lt (p := p + 1) (by omega)
            rw [if_pos q5, if_pos q5, bnd_s, if_neg (show ¬ (nI 1, nI (p + 1 + 1), upd D (4 * d + 1) (nI (s (p + 1) - 48))).1 = (0 : Int32) from (by decide +kernel : ¬ nI 1 = (0 : Int32)))]
            show ∃ dd1, bnd (f_X6_sign (nI 61) PD (nI len) (nI (p + 1 + 1))) _ = some _ ∧ _
            rw [m_sign h hs (by omega) (by decide) (by decide)]
            by_cases q6 : s (p + 1 + 1) = 61
            · have hpl2 := h.lt (p := p + 1 + 1) (by omega)
              rw [if_pos q6, if_pos (show s (p + 2) = 61 from q6), bnd_s, if_neg (show ¬ (nI 1, nI (p + 1 + 1 + 1)).1 = (0 : Int32) from (by decide +kernel : ¬ nI 1 = (0 : Int32)))]
              obtain ⟨dd1, e1, e2, e3⟩ := m_number (dd := upd D (4 * d + 1) (nI (s (p + 1) - 48))) h hs hd (p := p + 3) (by omega)
              show ∃ dd1, bnd (f_X6_number PD (nI len) (nI (p + 3)) (nI d) (upd D (4 * d + 1) (nI (s (p + 1) - 48)))) _ = some _ ∧ _
              rw [e1, bnd_s]
              by_cases q7 : 0 < (numS s 3 (p + 3) 0).2
              · rw [decide_eq_true q7]
                simp only [if_pos q7]
                rw [if_neg (show ¬ (nI 1, nI (numS s 3 (p + 3) 0).1, dd1).1 = (0 : Int32) from (by decide +kernel : ¬ nI 1 = (0 : Int32)))]
                exact ⟨dd1, rfl, fun k hk => (e2 k (by omega)).trans ((U _ k (by omega)).trans (Dk k hk)), fun _ => ⟨(e2 _ (by omega)).trans ((U _ _ (by omega)).trans (D0.trans (by rw [q4]))), (e2 _ (by omega)).trans (if_pos rfl), (fun _ => e3 q7), (e2 _ (by omega)).trans ((U _ _ (by omega)).trans D3)⟩⟩
              · rw [decide_eq_false q7]
                simp only [if_neg q7]
                rw [if_pos (show (nI 0, nI (numS s 3 (p + 3) 0).1, dd1).1 = (0 : Int32) from rfl)]
                exact ⟨dd1, rfl, fun k hk => (e2 k (by omega)).trans ((U _ k (by omega)).trans (Dk k hk)), fun z => by cases z⟩
            · rw [if_neg q6, if_neg (show ¬ s (p + 2) = 61 from q6), bnd_s, if_pos (show (nI 0, nI (p + 1 + 1)).1 = (0 : Int32) from rfl)]
              exact ⟨_, rfl, fun k hk => (U _ k (by omega)).trans (Dk k hk), fun z => by cases z⟩
          · rw [if_neg q5, if_neg q5, bnd_s, if_pos (show (nI 0, nI (p + 1), upd D (4 * d + 1) (nI 0)).1 = (0 : Int32) from rfl)]
            exact ⟨_, rfl, fun k hk => (U _ k (by omega)).trans (Dk k hk), fun z => by cases z⟩
        · rw [if_neg (show ¬ nI (s p) = (114 : Int32) from Z 114 (by decide) q4), if_neg q4]
          exact ⟨_, rfl, Dk, fun z => by cases z⟩
end RM
