/-! sizes: of the class (products) and of the model -/
/-- the product goes on by the table t: what earlier tables of s let through -/
def prE (pt : Nat → Nat → Nat) (s t : Nat) : Nat → Nat → Nat
  | 0, x => x
  | e + 1, x => if bi s e = 1 then prE pt s t e x * pt e t / 100 else prE pt s t e x
def prU (nm : Nat → Nat) (pt : Nat → Nat → Nat) (s : Nat) : Nat → Nat
  | 0 => 1
  | t + 1 => if bi s t = 1 then prE pt s t t (prU nm pt s t * nm t) else prU nm pt s t
def szN (nm : Nat → Nat) (pt : Nat → Nat → Nat) (s : Nat) : Nat := if prU nm pt s 5 < 1 then 1 else prU nm pt s 5
def NB (nm : Nat → Nat) : Prop := ∀ t, t < 5 → 1 ≤ nm t ∧ nm t ≤ 500
def PB (pt : Nat → Nat → Nat) : Prop := ∀ e t, e < 5 → t < 5 → 1 ≤ pt e t ∧ pt e t ≤ 100
theorem prE_bd {pt : Nat → Nat → Nat} (hp : PB pt) (s t : Nat) (ht : t < 5) (x : Nat) : ∀ e, e ≤ 5 → prE pt s t e x ≤ x
  | 0, _ => Nat.le_refl _
  | e + 1, he => by
    have h := prE_bd hp s t ht x e (by omega)
    unfold prE
    split
    · have h2 := (hp e t (by omega) ht).2
      have : prE pt s t e x * pt e t ≤ x * 100 := Nat.mul_le_mul h h2
      omega
    · exact h
def pw5 (t : Nat) : Nat := 500 ^ t
theorem prU_bd {nm : Nat → Nat} {pt : Nat → Nat → Nat} (hn : NB nm) (hp : PB pt) (s : Nat) : ∀ t, t ≤ 5 → prU nm pt s t ≤ pw5 t
  | 0, _ => Nat.le_refl _
  | t + 1, ht => by
    have h := prU_bd hn hp s t (by omega)
    have h2 := (hn t (by omega)).2
    have h3 : pw5 (t + 1) = pw5 t * 500 := Nat.pow_succ _ _
    have h4 : prU nm pt s t * nm t ≤ pw5 t * 500 := Nat.mul_le_mul h h2
    unfold prU
    split
    · exact Nat.le_trans (prE_bd hp s t (by omega) _ t (by omega)) (h3 ▸ h4)
    · rw [h3]; omega
theorem pw5_le {t : Nat} (h : t ≤ 5) : pw5 t ≤ 31250000000000 := Nat.le_trans (Nat.pow_le_pow_right (by decide) h) (by decide)
theorem szN_WB {nm : Nat → Nat} {pt : Nat → Nat → Nat} (hn : NB nm) (hp : PB pt) : WB (szN nm pt) := fun s _ => by
  have h := Nat.le_trans (prU_bd hn hp s 5 (Nat.le_refl _)) (pw5_le (Nat.le_refl _))
  unfold szN
  split
  · exact ⟨Nat.le_refl _, by decide⟩
  · exact ⟨by omega, Nat.lt_of_le_of_lt h (by decide)⟩
theorem lN_div100 {a : Nat} (h : a < 2 ^ 63) : lN a / lN 100 = lN (a / 100) := pk_lDiv h (by decide) (by decide)
/-! the model's -/
theorem m_size37 (s base t : Nat) (v : Nat → Nat) (pt : Nat → Nat → Nat) (hs : s < 32) (ht : t < 5) (hp : PB pt) (hv : ∀ e t, e < 5 → t < 5 → v (10 + 5 * e + t) = pt e t) (k5 : Int64 → Int32 → Option Int64) (x : Nat) (hx : x ≤ 31250000000000) : ∀ (n e : Nat), e ≤ t → t < n + e →
    f_X6_sizeOf_L37 (nI s) (nI base) (SI v) k5 n (lN (prE pt s t e x)) (nI t) (nI e) = k5 (lN (prE pt s t t x)) (nI (t + 1))
  | 0, e, h1, h2 => by omega
  | n + 1, e, h1, h2 => by
    show f_X6_sizeOf_L37b _ _ _ _ _ _ _ _ = _
    unfold f_X6_sizeOf_L37b
    by_cases he : t ≤ e
    · have e0 : e = t := by omega
      subst e0
      rw [if_pos (nI_le (Nat.le_refl _) (by omega)), nI_1]
    · rw [if_neg (nI_ge (by omega) (by omega))]
      have ih := m_size37 s base t v pt hs ht hp hv k5 x hx n (e + 1) (by omega) (by omega)
      have hb := bi_int s hs e (by omega)
      have hbl := bi_lt s e
      simp (disch := omega) only [iv, hb, nI_eqr]
      have hbd := prE_bd hp s t ht x e (by omega)
      by_cases hb1 : bi s e = 1
      · rw [if_pos hb1]
        have hpe := hp e t (by omega) ht
        simp (disch := omega) only [pk_mul, nI_add, grd_inb, nI_clamp, SI_at, hv, nI_l, lN_mul, lv]
        have h3 : prE pt s t e x * pt e t ≤ 31250000000000 * 100 := Nat.mul_le_mul (Nat.le_trans hbd hx) (hp e t (by omega) ht).2
        rw [lN_div100 (by omega)]
        rw [show prE pt s t (e + 1) x = prE pt s t e x * pt e t / 100 from if_pos hb1] at ih
        exact ih
      · rw [if_neg hb1, nI_add]
        rw [show prE pt s t (e + 1) x = prE pt s t e x from if_neg hb1] at ih
        exact ih
theorem m_size5 (s base : Nat) (v : Nat → Nat) (nm : Nat → Nat) (pt : Nat → Nat → Nat) (hs : s < 32) (hbase : base ≤ 5) (hn : NB nm) (hp : PB pt) (hv : ∀ e t, e < 5 → t < 5 → v (10 + 5 * e + t) = pt e t) (hvn : ∀ t, t < 5 → v (base + t) = nm t) : ∀ (n t : Nat), t ≤ 5 → 5 < n + t →
    f_X6_sizeOf_L5 (nI s) (nI base) (SI v) n (lN (prU nm pt s t)) (nI t) = some (lN (szN nm pt s))
  | 0, t, h1, h2 => by omega
  | n + 1, t, h1, h2 => by
    show f_X6_sizeOf_L5b _ _ _ _ _ _ = _
    unfold f_X6_sizeOf_L5b
    have hbd := Nat.le_trans (prU_bd hn hp s t h1) (pw5_le h1)
    by_cases he : 5 ≤ t
    · have e0 : t = 5 := by omega
      subst e0
      simp (disch := omega) only [iv, lv, lgc_ge, lN_ler, nI_ler, Nat.le_refl, if_true]
      unfold szN
      by_cases h : 1 ≤ prU nm pt s 5
      · rw [if_pos h, if_neg (by omega)]
      · rw [if_neg h, if_pos (by omega)]
    · have ih := m_size5 s base v nm pt hs hbase hn hp hv hvn n (t + 1) (by omega) (by omega)
      have hb := bi_int s hs t (by omega)
      have hbl := bi_lt s t
      simp (disch := omega) only [iv, hb, nI_eqr, nI_ler, he, if_false]
      by_cases hb1 : bi s t = 1
      · have h3 := hn t (by omega)
        have h4 : prU nm pt s t * nm t ≤ 31250000000000 := by
          have := Nat.mul_le_mul (prU_bd hn hp s t h1) h3.2
          have e5 : pw5 (t + 1) = pw5 t * 500 := Nat.pow_succ _ _
          exact Nat.le_trans this (e5 ▸ pw5_le (t := t + 1) (by omega))
        rw [if_pos hb1]
        simp (disch := omega) only [nI_add, grd_inb, nI_clamp, SI_at, hvn, nI_l, lN_mul]
        rw [show prU nm pt s (t + 1) = prE pt s t t (prU nm pt s t * nm t) from if_pos hb1] at ih
        exact (m_size37 s base t v pt hs (by omega) hp hv _ _ h4 1024 0 (by omega) (by omega)).trans ih
      · rw [if_neg hb1, nI_add]
        rw [show prU nm pt s (t + 1) = prU nm pt s t from if_neg hb1] at ih
        exact ih
theorem m_size {s base : Nat} {v : Nat → Nat} {nm : Nat → Nat} {pt : Nat → Nat → Nat} (hs : s < 32) (hbase : base ≤ 5) (hn : NB nm) (hp : PB pt) (hv : ∀ e t, e < 5 → t < 5 → v (10 + 5 * e + t) = pt e t) (hvn : ∀ t, t < 5 → v (base + t) = nm t) :
    f_X6_sizeOf (nI s) (nI base) (SI v) = some (lN (szN nm pt s)) := m_size5 s base v nm pt hs hbase hn hp hv hvn 1024 0 (by decide) (by decide)
