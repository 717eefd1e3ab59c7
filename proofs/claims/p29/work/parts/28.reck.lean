/-! the class's reckoning: products, least costs, best orders of all sets -/
theorem c_has : ∀ s, s < 32 → ∀ t, t < 5 → f_X5_has (nI s) (nI t) = some (nI (bi s t)) := by decide +kernel
theorem c_bit : ∀ t, t < 5 → f_X5_bit (nI t) = some (nI (2 ^ t)) := by decide +kernel
theorem c_isSet : ∀ s, s < 32 → f_X5_isSet (nI s) = some (nI (if s = 0 then 0 else 1)) := by decide +kernel
theorem c_longer {o t : Nat} (ho : o < 2 ^ 20) : f_X5_longerOrder (nI o) (nI t) = some (nI (o * 8 + t)) := by
  unfold f_X5_longerOrder
  rw [pk_shlN ((3 : Int32) &&& 31) 3 (by decide +kernel) (by omega), nI_add]
theorem bi_lo : ∀ t, t < 5 → ∀ lo, lo < 2 ^ t → (∀ e, e < t → bi (lo + 2 ^ t) e = bi lo e) ∧ bi (lo + 2 ^ t) t = 1 ∧ (∀ e, e < 5 → t < e → bi (lo + 2 ^ t) e = 0) ∧ (∀ e, e < 5 → t ≤ e → bi lo e = 0) := by decide +kernel
theorem prE_congr {pt : Nat → Nat → Nat} {s s' t x : Nat} : ∀ {n : Nat}, (∀ e, e < n → bi s e = bi s' e) → prE pt s t n x = prE pt s' t n x
  | 0, _ => rfl
  | n + 1, h => by
    have ih := prE_congr (pt := pt) (s := s) (s' := s') (t := t) (x := x) (n := n) (fun e he => h e (by omega))
    unfold prE
    rw [ih, h n (by omega)]
theorem prU_congr {nm : Nat → Nat} {pt : Nat → Nat → Nat} {s s' : Nat} : ∀ {n : Nat}, (∀ e, e < n → bi s e = bi s' e) → prU nm pt s n = prU nm pt s' n
  | 0, _ => rfl
  | n + 1, h => by
    have ih := prU_congr (nm := nm) (pt := pt) (s := s) (s' := s') (n := n) (fun e he => h e (by omega))
    have h2 := prE_congr (pt := pt) (s := s) (s' := s') (t := n) (x := prU nm pt s' n * nm n) (n := n) (fun e he => h e (by omega))
    unfold prU
    rw [ih, h n (by omega), h2]
theorem prU_zero {nm : Nat → Nat} {pt : Nat → Nat → Nat} {s t : Nat} (h : ∀ e, e < 5 → t ≤ e → bi s e = 0) : ∀ (d : Nat), t + d ≤ 5 → prU nm pt s (t + d) = prU nm pt s t
  | 0, _ => rfl
  | d + 1, hd => by
    have ih := prU_zero (nm := nm) (pt := pt) h d (by omega)
    show (if bi s (t + d) = 1 then _ else prU nm pt s (t + d)) = _
    rw [if_neg (by rw [h (t + d) (by omega) (by omega)]; decide), ih]
/-- the products below m are right -/
def PrOK (nm : Nat → Nat) (pt : Nat → Nat → Nat) (m : Nat) (P : Nat → Int64) : Prop := ∀ s, s < m → P s = lN (prU nm pt s 5)
section RK
variable {nm : Nat → Nat} {pt : Nat → Nat → Nat}
theorem c_r36 (hp : PB pt) {t lo x : Nat} (ht : t < 5) (hlo : lo < 2 ^ t) (hx : x ≤ 31250000000000) (k2 : Int32 → (Nat → Int64) → (Nat → Int64) → (Nat → Int32) → Option ((Nat → Int64) × (Nat → Int64) × (Nat → Int32))) (k10 : Int32 → Int32 → (Nat → Int64) → (Nat → Int64) → (Nat → Int32) → Option ((Nat → Int64) × (Nat → Int64) × (Nat → Int32))) (P LC : Nat → Int64) (BO : Nat → Int32) : ∀ (n e : Nat), e ≤ t → t < n + e →
    f_X3_reckon_L36 (SI nm) (fun i => SI (pt i)) k2 k10 n (nI t) (nI lo) (lN (prE pt lo t e x)) (nI e) P LC BO = k10 (nI t) (nI (lo + 1)) (vp_updL P (lo + 2 ^ t) (lN (prE pt lo t t x))) LC BO
  | 0, e, h1, h2 => by omega
  | n + 1, e, h1, h2 => by
    have h32 := pow_lt32 t ht
    have hlt : lo + 2 ^ t < 32 := by
      have : 2 ^ t ≤ 16 := (by decide : ∀ t, t < 5 → 2 ^ t ≤ 16) t ht
      generalize 2 ^ t = b at *
      omega
    have hl : lo < 32 := Nat.lt_trans hlo h32
    show f_X3_reckon_L36b _ _ _ _ _ _ _ _ _ _ _ _ = _
    unfold f_X3_reckon_L36b
    by_cases he : t ≤ e
    · have e0 : e = t := by omega
      subst e0
      rw [if_pos (nI_le (Nat.le_refl _) (by omega)), c_bit e ht]
      generalize 2 ^ e = b at *
      simp (disch := omega) only [bnd_s, nI_add, grd_inb, nI_clamp, iv]
    · rw [if_neg (nI_ge (by omega) (by omega)), c_has lo hl e (by omega)]
      have ih := c_r36 hp ht hlo hx k2 k10 P LC BO n (e + 1) (by omega) (by omega)
      have hbl := bi_lt lo e
      have hbd := prE_bd hp lo t ht x e (by omega)
      have hpe := hp e t (by omega) ht
      have h3 : prE pt lo t e x * pt e t ≤ 31250000000000 * 100 := Nat.mul_le_mul (Nat.le_trans hbd hx) hpe.2
      simp (disch := omega) only [bnd_s, iv, lv, nI_eqr, nI_add, grd_inb, nI_clamp, SI_at, nI_l, lN_mul, lN_div100]
      by_cases hb : bi lo e = 0
      · rw [if_pos hb]
        rw [show prE pt lo t (e + 1) x = prE pt lo t e x from if_neg (by omega)] at ih
        exact ih
      · rw [if_neg hb]
        rw [show prE pt lo t (e + 1) x = prE pt lo t e x * pt e t / 100 from if_pos (by omega)] at ih
        exact ih
theorem c_r10 (hn : NB nm) (hp : PB pt) {t : Nat} (ht : t < 5) (k2 : Int32 → (Nat → Int64) → (Nat → Int64) → (Nat → Int32) → Option ((Nat → Int64) × (Nat → Int64) × (Nat → Int32))) (LC : Nat → Int64) (BO : Nat → Int32) : ∀ (n lo : Nat) (P : Nat → Int64), lo ≤ 2 ^ t → 2 ^ t < n + lo → PrOK nm pt (lo + 2 ^ t) P →
    ∃ P1, f_X3_reckon_L10 (SI nm) (fun i => SI (pt i)) k2 n (nI t) (nI lo) P LC BO = k2 (nI (t + 1)) P1 LC BO ∧ PrOK nm pt (2 ^ (t + 1)) P1
  | 0, lo, P, h1, h2, _ => by omega
  | n + 1, lo, P, h1, h2, hP => by
    have h16 : 2 ^ t ≤ 16 := (by decide : ∀ t, t < 5 → 2 ^ t ≤ 16) t ht
    have hpw : 2 ^ (t + 1) = 2 ^ t + 2 ^ t := by rw [Nat.pow_succ]; omega
    show ∃ P1, f_X3_reckon_L10b _ _ _ _ _ _ _ _ _ = _ ∧ _
    unfold f_X3_reckon_L10b
    by_cases he : 2 ^ t ≤ lo
    · refine ⟨P, ?_, fun s hs => hP s (by omega)⟩
      rw [c_bit t ht]
      generalize 2 ^ t = b at *
      simp (disch := omega) only [bnd_s, iv, nI_ler, nI_add, he, if_true]
    · have hlt : lo < 2 ^ t := by omega
      obtain ⟨b1, b2, b3, b4⟩ := bi_lo t ht lo hlt
      have e0 : prU nm pt lo 5 = prU nm pt lo t := by
        have := prU_zero (nm := nm) (pt := pt) b4 (5 - t) (by omega)
        rw [show t + (5 - t) = 5 by omega] at this
        exact this
      have e1 : prU nm pt (lo + 2 ^ t) 5 = prU nm pt (lo + 2 ^ t) (t + 1) := by
        have := prU_zero (nm := nm) (pt := pt) (s := lo + 2 ^ t) (t := t + 1) (fun e a b => b3 e a (by omega)) (5 - (t + 1)) (by omega)
        rw [show t + 1 + (5 - (t + 1)) = 5 by omega] at this
        exact this
      have e2 : prU nm pt (lo + 2 ^ t) (t + 1) = prE pt lo t t (prU nm pt lo t * nm t) := by
        show (if bi (lo + 2 ^ t) t = 1 then prE pt (lo + 2 ^ t) t t (prU nm pt (lo + 2 ^ t) t * nm t) else _) = _
        rw [if_pos b2, prU_congr b1, prE_congr b1]
      have h3 := hn t ht
      have h4 : prU nm pt lo t * nm t ≤ 31250000000000 := by
        have := Nat.mul_le_mul (prU_bd hn hp lo t (by omega)) h3.2
        have e5 : pw5 (t + 1) = pw5 t * 500 := Nat.pow_succ _ _
        exact Nat.le_trans this (e5 ▸ pw5_le (t := t + 1) (by omega))
      have hP1 : PrOK nm pt (lo + 1 + 2 ^ t) (vp_updL P (lo + 2 ^ t) (lN (prE pt lo t t (prU nm pt lo t * nm t)))) := fun s hs => by
        by_cases hs1 : s = lo + 2 ^ t
        · subst hs1
          rw [pk_uLs, e1, e2]
        · rw [pk_uLn hs1]
          exact hP s (by omega)
      obtain ⟨P1, g1, g2⟩ := c_r10 hn hp ht k2 LC BO n (lo + 1) _ (by omega) (by omega) hP1
      refine ⟨P1, ?_, g2⟩
      have g3 := c_r36 (nm := nm) hp ht hlt h4 k2 (f_X3_reckon_L10 (SI nm) (fun i => SI (pt i)) k2 n) P LC BO 1024 0 (by omega) (by omega)
      rw [c_bit t ht]
      have hPl := (hP lo (by omega)).trans (congrArg lN e0)
      rw [bnd_s, if_neg (nI_ge hlt (by omega))]
      simp (disch := omega) only [grd_inb, nI_clamp, SI_at, nI_l, hPl, lN_mul]
      exact g3.trans g1
/-- what a reckoning leaves -/
def RkOK (nm : Nat → Nat) (pt : Nat → Nat → Nat) (P LC : Nat → Int64) (BO : Nat → Int32) : Prop := ∀ s, s < 32 → P s = lN (prU nm pt s 5) ∧ LC s = lN (minC (szN nm pt) s) ∧ BO s = nI (oct (bestP (szN nm pt) s))
/-- the best of the tables below t -/
def PsOK (w : Nat → Nat) (s t c o : Nat) : Prop := (c = 2 ^ 63 - 1 ∧ o = 0 ∧ ∀ u, u < t → bi s u = 1 → False) ∨ ((∃ u, u < t ∧ bi s u = 1 ∧ c = minC w (s - 2 ^ u) ∧ o = oct (bestP w (s - 2 ^ u)) * 8 + u) ∧ ∀ u, u < t → bi s u = 1 → c < minC w (s - 2 ^ u) ∨ (c = minC w (s - 2 ^ u) ∧ o ≤ oct (bestP w (s - 2 ^ u)) * 8 + u))
theorem bi_some : ∀ s, s < 32 → s ≠ 0 → ∃ u, u < 5 ∧ bi s u = 1 := by decide +kernel
theorem bestP_octl {w : Nat → Nat} {s : Nat} (hs : s < 32) : oct (bestP w s) < 32768 := perms_octl s hs _ (bestP_bst w hs).1
theorem PsOK.end {w : Nat → Nat} {s c o : Nat} (hs : s < 32) (h0 : s ≠ 0) (h : PsOK w s 5 c o) : c + w s = minC w s ∧ o = oct (bestP w s) := by
  rcases h with ⟨-, -, h⟩ | ⟨h1, h2⟩
  · obtain ⟨u, a, b⟩ := bi_some s hs h0
    exact absurd b (fun b => h u a b)
  · exact bestP_dp hs h0 h1 h2
theorem PsOK.skip {w : Nat → Nat} {s t c o : Nat} (h : PsOK w s t c o) (hb : bi s t = 0) : PsOK w s (t + 1) c o := by
  have key : ∀ u, u < t + 1 → bi s u = 1 → u < t := fun u a b => by
    by_cases e : u = t
    · subst e; omega
    · omega
  rcases h with ⟨a, b, h⟩ | ⟨⟨u, a1, a2, a3⟩, h2⟩
  · exact Or.inl ⟨a, b, fun u x y => h u (key u x y) y⟩
  · exact Or.inr ⟨⟨u, by omega, a2, a3⟩, fun u x y => h2 u (key u x y) y⟩
theorem c_plan10 {w : Nat → Nat} (hw : WB w) {s : Nat} (hs : s < 32) (h0 : s ≠ 0) {P LC : Nat → Int64} {BO : Nat → Int32} (hP : (if (1 : Int64) < P s then P s else 1) = lN (w s)) (hL : ∀ u, u < s → LC u = lN (minC w u)) (hB : ∀ u, u < s → BO u = nI (oct (bestP w u))) : ∀ (n t c o : Nat), t ≤ 5 → 5 < n + t → PsOK w s t c o →
    f_X3_planSet_L10 (nI s) P n (lN c) (nI o) (nI t) LC BO = some (vp_updL LC s (lN (minC w s)), upd BO s (nI (oct (bestP w s))))
  | 0, t, c, o, h1, h2, _ => by omega
  | n + 1, t, c, o, h1, h2, hI => by
    show f_X3_planSet_L10b _ _ _ _ _ _ _ _ = _
    unfold f_X3_planSet_L10b
    by_cases he : 5 ≤ t
    · have e0 : t = 5 := by omega
      subst e0
      obtain ⟨g1, g2⟩ := hI.end hs h0
      rw [if_pos (show (5 : Int32) ≤ nI 5 by rw [iv]; exact nI_le (Nat.le_refl _) (by decide)), c_isSet s hs, if_neg h0, bnd_s, if_neg (by decide +kernel)]
      simp (disch := omega) only [grd_inb, nI_clamp]
      rw [hP, lN_add, g1, g2]
    · rw [if_neg (show ¬ (5 : Int32) ≤ nI t from nI_ge (b := 5) (by omega) (by omega)), c_bit t (by omega), c_has s hs t (by omega), bnd_s, bnd_s]
      have hbl := bi_lt s t
      by_cases hb : bi s t = 0
      · rw [if_pos (by rw [hb]; rfl), show nI t + (1 : Int32) = nI (t + 1) from nI_1 t]
        exact c_plan10 hw hs h0 hP hL hB n (t + 1) c o (by omega) (by omega) (hI.skip hb)
      · have hb1 : bi s t = 1 := by omega
        have hle := bi_le s hs t (by omega) hb1
        have hpos : 0 < 2 ^ t := Nat.two_pow_pos t
        have hlt : s - 2 ^ t < s := by generalize 2 ^ t = b at *; omega
        have hlt32 : s - 2 ^ t < 32 := by generalize 2 ^ t = b at *; omega
        have hc := minC_bd hw hlt32
        have ho := bestP_octl (w := w) hlt32
        rw [if_neg (by rw [hb1]; decide +kernel), pk_sub hle, if_neg (nI_pos (by omega)), if_neg (show ¬ (32 : Int32) ≤ nI (s - 2 ^ t) by rw [iv]; exact nI_ge hlt32 (by decide)), grd_inb (by omega) (by decide), nI_clamp (by omega), hL _ hlt, hB _ hlt, c_longer (by omega), bnd_s, grd_inb (by omega) (by decide), show nI t + (1 : Int32) = nI (t + 1) from nI_1 t]
        have hk := fun c o => c_plan10 hw hs h0 hP hL hB n (t + 1) c o (by omega) (by omega)
        have hcc : c < 2 ^ 63 ∧ o < 2 ^ 31 := by
          rcases hI with ⟨a, b, -⟩ | ⟨⟨u, a1, a2, a3, a4⟩, -⟩
          · omega
          · have x1 := minC_bd hw (sub_lt32 (2 ^ u) hs)
            have x2 := bestP_octl (w := w) (sub_lt32 (2 ^ u) hs)
            omega
        have key : ∀ u, u < t + 1 → bi s u = 1 → u = t ∨ u < t := fun u a b => by omega
        have new : (∀ u, u < t → bi s u = 1 → minC w (s - 2 ^ t) < minC w (s - 2 ^ u) ∨ (minC w (s - 2 ^ t) = minC w (s - 2 ^ u) ∧ oct (bestP w (s - 2 ^ t)) * 8 + t ≤ oct (bestP w (s - 2 ^ u)) * 8 + u)) → PsOK w s (t + 1) (minC w (s - 2 ^ t)) (oct (bestP w (s - 2 ^ t)) * 8 + t) := fun h => Or.inr ⟨⟨t, by omega, hb1, rfl, rfl⟩, fun u a b => by
          rcases key u a b with e | e
          · subst e; exact Or.inr ⟨rfl, Nat.le_refl _⟩
          · exact h u e b⟩
        simp (disch := omega) only [lg_cmp_lt, lg_cmp_eq, lN_ltr, lN_eqr, nI_ler]
        by_cases q1 : minC w (s - 2 ^ t) < c
        · rw [if_pos q1]
          refine hk _ _ (new (fun u a b => ?_))
          rcases hI with ⟨-, -, h⟩ | ⟨-, h⟩
          · exact absurd b (fun b => h u a b)
          · rcases h u a b with h | h
            · exact Or.inl (by omega)
            · exact Or.inl (by omega)
        · rw [if_neg q1]
          have old : (c < minC w (s - 2 ^ t) ∨ (c = minC w (s - 2 ^ t) ∧ o ≤ oct (bestP w (s - 2 ^ t)) * 8 + t)) → PsOK w s (t + 1) c o := fun hx => by
            rcases hI with ⟨a, -, -⟩ | ⟨⟨u, a1, a2, a3⟩, h⟩
            · omega
            · refine Or.inr ⟨⟨u, by omega, a2, a3⟩, fun u a b => ?_⟩
              rcases key u a b with e | e
              · subst e; exact hx
              · exact h u e b
          by_cases q2 : minC w (s - 2 ^ t) = c
          · rw [if_pos q2]
            by_cases q3 : o ≤ oct (bestP w (s - 2 ^ t)) * 8 + t
            · rw [if_pos q3]
              exact hk _ _ (old (Or.inr ⟨q2.symm, q3⟩))
            · rw [if_neg q3]
              refine hk _ _ (new (fun u a b => ?_))
              rcases hI with ⟨-, -, h⟩ | ⟨-, h⟩
              · exact absurd b (fun b => h u a b)
              · rcases h u a b with h | ⟨h, h'⟩
                · exact Or.inl (by omega)
                · exact Or.inr ⟨by omega, by omega⟩
          · rw [if_neg q2]
            exact hk _ _ (old (Or.inl (by omega)))
theorem szN_max {s : Nat} (h : prU nm pt s 5 < 2 ^ 63) : (if (1 : Int64) < lN (prU nm pt s 5) then lN (prU nm pt s 5) else 1) = lN (szN nm pt s) := by
  unfold szN
  rw [lv 1]
  simp (disch := omega) only [lN_ltr]
  by_cases h1 : 1 < prU nm pt s 5
  · rw [if_pos h1, if_neg (by omega)]
  · rw [if_neg h1]
    by_cases h2 : prU nm pt s 5 < 1
    · rw [if_pos h2]
    · rw [if_neg h2, show prU nm pt s 5 = 1 by omega]
theorem c_r102 (hn : NB nm) (hp : PB pt) (P : Nat → Int64) (hP : PrOK nm pt 32 P) : ∀ (n s : Nat) (LC : Nat → Int64) (BO : Nat → Int32), 1 ≤ s → s ≤ 32 → 32 < n + s → (∀ u, u < s → LC u = lN (minC (szN nm pt) u) ∧ BO u = nI (oct (bestP (szN nm pt) u))) →
    ∃ q, f_X3_reckon_L102 (SI nm) (fun i => SI (pt i)) n (nI s) P LC BO = some q ∧ RkOK nm pt q.1 q.2.1 q.2.2
  | 0, s, LC, BO, _, h1, h2, _ => by omega
  | n + 1, s, LC, BO, h0, h1, h2, hI => by
    show ∃ q, f_X3_reckon_L102b _ _ _ _ _ _ _ = _ ∧ _
    unfold f_X3_reckon_L102b
    by_cases he : 32 ≤ s
    · have e0 : s = 32 := by omega
      subst e0
      exact ⟨_, if_pos (by decide +kernel), fun s hs => ⟨hP s hs, hI s hs⟩⟩
    · have hs : s < 32 := by omega
      rw [if_neg (show ¬ (32 : Int32) ≤ nI s by rw [iv]; exact nI_ge hs (by decide))]
      have hw := szN_WB hn hp
      have hpl := c_plan10 hw hs (by omega) (P := P) (LC := LC) (BO := BO) (by rw [hP s hs]; exact szN_max (by have := Nat.le_trans (prU_bd hn hp s 5 (Nat.le_refl _)) (pw5_le (Nat.le_refl _)); omega)) (fun u hu => (hI u hu).1) (fun u hu => (hI u hu).2) 1024 0 (2 ^ 63 - 1) 0 (by decide) (by decide) (Or.inl ⟨rfl, rfl, fun u hu => by omega⟩)
      have hpl2 : f_X3_planSet (nI s) P LC BO = _ := hpl
      rw [hpl2, bnd_s, show nI s + (1 : Int32) = nI (s + 1) from nI_1 s]
      refine c_r102 hn hp P hP n (s + 1) _ _ (by omega) (by omega) (by omega) (fun u hu => ?_)
      by_cases e : u = s
      · subst e
        exact ⟨pk_uLs, pk_us⟩
      · exact ⟨(pk_uLn e).trans (hI u (by omega)).1, (pk_un e).trans (hI u (by omega)).2⟩
theorem c_r2 (hn : NB nm) (hp : PB pt) (LC : Nat → Int64) (BO : Nat → Int32) (hL : LC 0 = 0) (hB : BO 0 = 0) : ∀ (n t : Nat) (P : Nat → Int64), t ≤ 5 → 5 < n + t → PrOK nm pt (2 ^ t) P → ∃ q, f_X3_reckon_L2 (SI nm) (fun i => SI (pt i)) n (nI t) P LC BO = some q ∧ RkOK nm pt q.1 q.2.1 q.2.2
  | 0, t, P, h1, h2, _ => by omega
  | n + 1, t, P, h1, h2, hP => by
    show ∃ q, f_X3_reckon_L2b _ _ _ _ _ _ _ = _ ∧ _
    unfold f_X3_reckon_L2b
    by_cases he : 5 ≤ t
    · have e0 : t = 5 := by omega
      subst e0
      rw [if_pos (by decide +kernel)]
      exact c_r102 hn hp P hP 1024 1 LC BO (by decide) (by decide) (by decide) (fun u hu => by
        have : u = 0 := by omega
        subst this
        exact ⟨hL.trans rfl, hB.trans rfl⟩)
    · rw [if_neg (show ¬ (5 : Int32) ≤ nI t from nI_ge (b := 5) (by omega) (by decide))]
      have h16 : 2 ^ t ≤ 16 := (by decide : ∀ t, t < 5 → 2 ^ t ≤ 16) t (by omega)
      obtain ⟨P1, g1, g2⟩ := c_r10 hn hp (t := t) (by omega) (f_X3_reckon_L2 (SI nm) (fun i => SI (pt i)) n) LC BO 1024 0 P (Nat.zero_le _) (by omega) (by rw [Nat.zero_add]; exact hP)
      obtain ⟨q, g3, g4⟩ := c_r2 hn hp LC BO hL hB n (t + 1) P1 (by omega) (by omega) g2
      exact ⟨q, g1.trans g3, g4⟩
theorem c_reckon (hn : NB nm) (hp : PB pt) (P LC : Nat → Int64) (BO : Nat → Int32) (hP : P 0 = 1) (hL : LC 0 = 0) (hB : BO 0 = 0) : ∃ q, f_X3_reckon P LC BO (SI nm) (fun i => SI (pt i)) = some q ∧ RkOK nm pt q.1 q.2.1 q.2.2 :=
  c_r2 hn hp LC BO hL hB 1024 0 P (by decide) (by decide) (fun s hs => by
    have : s = 0 := by simpa using hs
    subst this
    exact hP.trans rfl)
end RK
