/-! the model's costs, its best order by all orders, its least cost by sets -/
/-- the array o tells the order p -/
def AG (o : Nat → Int32) (p : List Nat) : Prop := ∀ i, i < p.length → o i = nI (p.getD i 0)
def MS (base : Nat) (s : Nat → Int32) (w : Nat → Nat) : Prop := ∀ u, u < 32 → f_X6_sizeOf (nI u) (nI base) s = some (lN (w u))
theorem m_cost8 {base : Nat} {s : Nat → Int32} {w : Nat → Nat} (hsz : MS base s w) {p : List Nat} (hl : p.length ≤ 5) (ht5 : ∀ t ∈ p, t < 5) {o : Nat → Int32} (ho : AG o p) : ∀ (n k set acc : Nat), k ≤ p.length → p.length < n + k → set < 32 →
    f_X6_costOf_L8 (nI base) s o (nI p.length) n (lN acc) (nI set) (nI k) = some (lN (acc + costG w set (p.drop k)))
  | 0, k, set, acc, h1, h2, _ => by omega
  | n + 1, k, set, acc, h1, h2, h3 => by
    show f_X6_costOf_L8b _ _ _ _ _ _ _ _ = _
    unfold f_X6_costOf_L8b
    by_cases he : p.length ≤ k
    · rw [if_pos (nI_le he (by omega)), List.drop_eq_nil_of_le he]
      rfl
    · have hk : k < p.length := by omega
      have ht := ht5 _ (getD_mem hk)
      have h32 := pow_lt32 _ ht
      have hor := or_lt32 set h3 _ h32
      have hb := bit_int _ ht
      rw [if_neg (nI_ge hk (by omega)), grd_inb (by omega) (by decide), nI_clamp (by omega), ho k hk, show ((1 : Int32) <<< (nI (p.getD k 0) &&& 31)) = nI (2 ^ p.getD k 0) from hb, or_int set h3 _ h32, hsz _ hor, bnd_s, lN_add, show nI k + (1 : Int32) = nI (k + 1) from nI_1 k, m_cost8 hsz hl ht5 ho n (k + 1) _ _ (by omega) (by omega) hor, drop_at hk]
      show some (lN (acc + _ + _)) = some (lN (acc + (_ + _)))
      rw [Nat.add_assoc]
theorem m_cost {base : Nat} {s : Nat → Int32} {w : Nat → Nat} (hsz : MS base s w) {sh : Nat} (hsh : sh < 32) {p : List Nat} (hpm : p ∈ perms sh) {o : Nat → Int32} (ho : AG o p) : f_X6_costOf (nI base) s o (nI (pc sh)) = some (lN (costN w p)) := by
  have hl := perms_len sh hsh p hpm
  have hl5 := pc_le sh hsh
  have h := m_cost8 hsz (by omega) (perms_tab sh hsh p hpm) ho 1024 0 0 0 (Nat.zero_le _) (by omega) (by decide)
  rw [Nat.zero_add, hl] at h
  exact h
/-! the next order: of arrays that agree -/
def AE (m : Nat) (o o' : Nat → Int32) : Prop := ∀ i, i < m → o i = o' i
theorem AE.up {m a : Nat} {o o' : Nat → Int32} {x y : Int32} (h : AE m o o') (e : x = y) : AE m (upd o a x) (upd o' a y) := fun i hi => by
  by_cases q : i = a
  · subst q; rw [pk_us, pk_us, e]
  · rw [pk_un q, pk_un q]; exact h i hi
theorem hn_swaps {m a b : Nat} (hm : m ≤ 5) (ha : a < m) (hb : b < m) {o o' : Nat → Int32} (h : AE m o o') : ∃ r r', f_X6_swaps (nI a) (nI b) o = some r ∧ f_X6_swaps (nI a) (nI b) o' = some r' ∧ AE m r r' := by
  unfold f_X6_swaps
  simp (disch := omega) only [grd_inb, nI_clamp]
  exact ⟨_, _, rfl, rfl, (h.up (h b hb)).up (h a ha)⟩
theorem hn_86 {m : Nat} (hm : m ≤ 5) : ∀ (n a b : Nat) (o o' : Nat → Int32) (q : Int32 × (Nat → Int32)), b < m → a ≤ 5 → AE m o o' → f_X6_hasNext_L86 (nI m) n (nI a) (nI b) o' = some q → ∃ r, f_X6_hasNext_L86 (nI m) n (nI a) (nI b) o = some (q.1, r) ∧ AE m r q.2
  | 0, a, b, o, o', q, _, _, _, h => by cases h
  | n + 1, a, b, o, o', q, hb, ha, hA, h => by
    have h' : f_X6_hasNext_L86b (nI m) (f_X6_hasNext_L86 (nI m) n) (nI a) (nI b) o' = some q := h
    show ∃ r, f_X6_hasNext_L86b (nI m) (f_X6_hasNext_L86 (nI m) n) (nI a) (nI b) o = some (q.1, r) ∧ _
    unfold f_X6_hasNext_L86b at h' ⊢
    by_cases hab : b ≤ a
    · rw [if_pos (nI_le hab (by omega))] at h' ⊢
      cases h'
      exact ⟨o, rfl, hA⟩
    · rw [if_neg (nI_ge (by omega) (by omega))] at h' ⊢
      obtain ⟨r, r', e1, e2, e3⟩ := hn_swaps hm (a := a) (b := b) (by omega) hb hA
      rw [e2, bnd_s, show nI a + (1 : Int32) = nI (a + 1) from nI_1 a, sb_m1 (by omega)] at h'
      rw [e1, bnd_s, show nI a + (1 : Int32) = nI (a + 1) from nI_1 a, sb_m1 (by omega)]
      exact hn_86 hm n (a + 1) (b - 1) r r' q (by omega) (by omega) e3 h'
theorem inb_m1 (n : Nat) : inb (-1) n = false := by
  unfold inb
  exact decide_eq_false (fun z => z (Or.inl (by decide)))
theorem hn_47 {m : Nat} (hm : m ≤ 5) : ∀ (n a b : Nat) (o o' : Nat → Int32) (q : Int32 × (Nat → Int32)), b < m → a + 1 < m → AE m o o' → f_X6_hasNext_L47 (nI m) n (nI a) (nI b) o' = some q → ∃ r, f_X6_hasNext_L47 (nI m) n (nI a) (nI b) o = some (q.1, r) ∧ AE m r q.2
  | 0, a, b, o, o', q, _, _, _, h => by cases h
  | n + 1, a, b, o, o', q, hb, ha, hA, h => by
    have h' : f_X6_hasNext_L47b (nI m) (f_X6_hasNext_L47 (nI m) n) (nI a) (nI b) o' = some q := h
    show ∃ r, f_X6_hasNext_L47b (nI m) (f_X6_hasNext_L47 (nI m) n) (nI a) (nI b) o = some (q.1, r) ∧ _
    unfold f_X6_hasNext_L47b at h' ⊢
    simp (disch := omega) only [grd_inb, nI_clamp] at h' ⊢
    rw [hA a (by omega), hA b hb]
    by_cases hab : o' a ≤ o' b
    · rw [if_pos hab] at h' ⊢
      obtain ⟨r, r', e1, e2, e3⟩ := hn_swaps hm (a := a) (b := b) (by omega) hb hA
      rw [e2, bnd_s, show nI a + (1 : Int32) = nI (a + 1) from nI_1 a, show nI m - (1 : Int32) = nI (m - 1) from pk_sub (b := 1) (by omega)] at h'
      rw [e1, bnd_s, show nI a + (1 : Int32) = nI (a + 1) from nI_1 a, show nI m - (1 : Int32) = nI (m - 1) from pk_sub (b := 1) (by omega)]
      exact hn_86 hm 1024 (a + 1) (m - 1) r r' q (by omega) (by omega) e3 h'
    · rw [if_neg hab] at h' ⊢
      by_cases hb0 : b = 0
      · subst hb0
        rw [show nI 0 + (-1 : Int32) = -1 from by decide +kernel] at h'
        cases n with
        | zero => cases h'
        | succ n =>
          have h2 : f_X6_hasNext_L47b (nI m) (f_X6_hasNext_L47 (nI m) n) (nI a) (-1) o' = some q := h'
          unfold f_X6_hasNext_L47b grd at h2
          rw [inb_m1] at h2
          cases h2
      · rw [sb_m1 (by omega)] at h' ⊢
        exact hn_47 hm n a (b - 1) o o' q (by omega) ha hA h'
theorem hn_7 {m : Nat} (hm : m ≤ 5) : ∀ (n : Nat) (x : Int32) (o o' : Nat → Int32) (q : Int32 × (Nat → Int32)), (x < 0 ∨ ∃ a, x = nI a ∧ a + 1 < m) → AE m o o' → f_X6_hasNext_L7 (nI m) n x o' = some q → ∃ r, f_X6_hasNext_L7 (nI m) n x o = some (q.1, r) ∧ AE m r q.2
  | 0, x, o, o', q, _, _, h => by cases h
  | n + 1, x, o, o', q, hx, hA, h => by
    have h' : f_X6_hasNext_L7b (nI m) (f_X6_hasNext_L7 (nI m) n) x o' = some q := h
    show ∃ r, f_X6_hasNext_L7b (nI m) (f_X6_hasNext_L7 (nI m) n) x o = some (q.1, r) ∧ _
    unfold f_X6_hasNext_L7b at h' ⊢
    rcases hx with hx | ⟨a, hx, ha⟩
    · rw [if_pos hx] at h' ⊢
      have hn : ¬ (0 : Int32) ≤ x := fun z => Int32.not_lt.mpr z hx
      rw [if_neg hn] at h' ⊢
      cases h'
      exact ⟨o, rfl, hA⟩
    · subst hx
      rw [if_neg (nI_pos (by omega)), show nI a + (1 : Int32) = nI (a + 1) from nI_1 a, if_pos (show (0 : Int32) ≤ nI a from nI_pos' (by omega)), show nI m - (1 : Int32) = nI (m - 1) from pk_sub (b := 1) (by omega)] at h' ⊢
      simp (disch := omega) only [grd_inb, nI_clamp] at h' ⊢
      rw [hA a (by omega), hA (a + 1) ha]
      by_cases hab : o' a ≤ o' (a + 1)
      · rw [if_pos hab] at h' ⊢
        exact hn_47 hm 1024 a (m - 1) o o' q (by omega) ha hA h'
      · rw [if_neg hab] at h' ⊢
        refine hn_7 hm n _ o o' q ?_ hA h'
        by_cases ha0 : a = 0
        · subst ha0; exact Or.inl (by decide +kernel)
        · exact Or.inr ⟨a - 1, sb_m1 (by omega), by omega⟩
theorem hn_all {m : Nat} (hm : m ≤ 5) (h1 : 1 ≤ m) {o o' : Nat → Int32} {q : Int32 × (Nat → Int32)} (hA : AE m o o') (h : f_X6_hasNext o' (nI m) = some q) : ∃ r, f_X6_hasNext o (nI m) = some (q.1, r) ∧ AE m r q.2 := by
  refine hn_7 hm 1024 _ o o' q ?_ hA h
  by_cases h2 : m = 1
  · subst h2; exact Or.inl (by decide +kernel)
  · exact Or.inr ⟨m - 2, pk_sub (b := 2) (by omega), by omega⟩
def arr (p : List Nat) : Nat → Int32 := fun i => nI (p.getD i 0)
def nextOK (p : List Nat) (nx : List (List Nat)) : Bool := match f_X6_hasNext (arr p) (nI p.length) with
  | none => false
  | some q => match nx with
    | [] => q.1 == nI 0
    | r :: _ => q.1 == nI 1 && (List.range p.length).all fun i => q.2 i == nI (r.getD i 0)
def chain : List (List Nat) → Bool
  | [] => true
  | p :: l => nextOK p l && chain l
theorem chain_all : ∀ s, s < 32 → s ≠ 0 → chain (perms s) = true := by decide +kernel
