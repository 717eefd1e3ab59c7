/-! costs of the class out of a reckoning; all orders tried onward -/
theorem or_ne0 : ∀ s, s < 32 → ∀ t, t < 5 → s ||| 2 ^ t ≠ 0 := by decide +kernel
theorem drop_at {p : List Nat} {k : Nat} (h : k < p.length) : p.drop k = p.getD k 0 :: p.drop (k + 1) := by
  rw [List.drop_eq_getElem_cons h, List.getD_eq_getElem?_getD, List.getElem?_eq_getElem h]
  rfl
theorem getD_mem {p : List Nat} {k : Nat} (h : k < p.length) : p.getD k 0 ∈ p := by
  rw [List.getD_eq_getElem?_getD, List.getElem?_eq_getElem h]
  exact List.getElem_mem h
section CO
variable {nm : Nat → Nat} {pt : Nat → Nat → Nat} {P LC : Nat → Int64} {BO : Nat → Int32}
theorem c_sizeOf (hn : NB nm) (hp : PB pt) (hR : RkOK nm pt P LC BO) {s : Nat} (hs : s < 32) (h0 : s ≠ 0) : f_X3_sizeOf (nI s) P = some (lN (szN nm pt s)) := by
  unfold f_X3_sizeOf
  rw [c_isSet s hs, if_neg h0, bnd_s, if_neg (by decide +kernel)]
  simp (disch := omega) only [grd_inb, nI_clamp]
  rw [(hR s hs).1, szN_max (by have := Nat.le_trans (prU_bd hn hp s 5 (Nat.le_refl _)) (pw5_le (Nat.le_refl _)); omega)]
theorem c_least (hR : RkOK nm pt P LC BO) {s : Nat} (hs : s < 32) (h0 : s ≠ 0) : f_X3_leastBySets (nI s) LC = some (lN (minC (szN nm pt) s)) := by
  unfold f_X3_leastBySets
  rw [c_isSet s hs, if_neg h0, bnd_s, if_neg (by decide +kernel)]
  simp (disch := omega) only [grd_inb, nI_clamp]
  rw [(hR s hs).2.1]
theorem c_best (hR : RkOK nm pt P LC BO) {s : Nat} (hs : s < 32) (h0 : s ≠ 0) : f_X3_bestOrder (nI s) BO = some (nI (oct (bestP (szN nm pt) s))) := by
  unfold f_X3_bestOrder
  rw [c_isSet s hs, if_neg h0, bnd_s, if_neg (by decide +kernel)]
  simp (disch := omega) only [grd_inb, nI_clamp]
  rw [(hR s hs).2.2]
theorem c_cost14 (hn : NB nm) (hp : PB pt) (hR : RkOK nm pt P LC BO) {sh : Nat} (hsh : sh < 32) {p : List Nat} (hpm : p ∈ perms sh) : ∀ (n k set acc : Nat), k ≤ p.length → p.length < n + k → set < 32 →
    f_X3_costOf_L14 (nI sh) (nI (oct p)) P n (nI p.length) (lN acc) (nI set) (nI k) = some (lN (acc + costG (szN nm pt) set (p.drop k)))
  | 0, k, set, acc, h1, h2, _ => by omega
  | n + 1, k, set, acc, h1, h2, h3 => by
    have hl := perms_len sh hsh p hpm
    have hl5 := pc_le sh hsh
    show f_X3_costOf_L14b _ _ _ _ _ _ _ _ = _
    unfold f_X3_costOf_L14b
    by_cases he : p.length ≤ k
    · rw [if_pos (nI_le he (by omega)), List.drop_eq_nil_of_le he]
      rfl
    · have hk : k < p.length := by omega
      have ht := perms_tab sh hsh p hpm _ (getD_mem hk)
      have h32 := pow_lt32 _ ht
      have ho := or_lt32 set h3 _ h32
      rw [if_neg (nI_ge hk (by omega)), perms_at sh hsh p hpm k hk, bnd_s, c_bit _ ht, bnd_s, or_int set h3 _ h32, c_sizeOf hn hp hR ho (or_ne0 set h3 _ ht), bnd_s, lN_add, show nI k + (1 : Int32) = nI (k + 1) from nI_1 k, c_cost14 hn hp hR hsh hpm n (k + 1) _ _ (by omega) (by omega) ho, drop_at hk]
      show some (lN (acc + _ + _)) = some (lN (acc + (_ + _)))
      rw [Nat.add_assoc]
theorem c_cost (hn : NB nm) (hp : PB pt) (hR : RkOK nm pt P LC BO) {sh : Nat} (hsh : sh < 32) {p : List Nat} (hpm : p ∈ perms sh) : f_X3_costOf (nI sh) (nI (oct p)) P = some (lN (costN (szN nm pt) p)) := by
  unfold f_X3_costOf
  rw [c_bitCount sh hsh, bnd_s, ← perms_len sh hsh p hpm]
  have h := c_cost14 hn hp hR hsh hpm 1024 0 0 0 (Nat.zero_le _) (by rw [perms_len sh hsh p hpm]; have := pc_le sh hsh; omega) (by decide)
  rw [Nat.zero_add] at h
  exact h
theorem c_excess (hn : NB nm) (hp : PB pt) (hR : RkOK nm pt P LC BO) {sh : Nat} (hsh : sh < 32) (h0 : sh ≠ 0) {p : List Nat} (hpm : p ∈ perms sh) : f_X3_excessOf (nI sh) (nI (oct p)) P LC = some (lN (costN (szN nm pt) p - minC (szN nm pt) sh)) := by
  unfold f_X3_excessOf
  rw [c_cost hn hp hR hsh hpm, bnd_s, c_least hR hsh h0, bnd_s, lN_sub (minC_le hsh hpm)]
/-- set lies in sh -/
def sub5 (set sh : Nat) : Prop := set &&& sh = set
theorem sub_f1 : ∀ sh, sh < 32 → ∀ set, set < 32 → ∀ t, t < 5 → set &&& sh = set → bi (sh - set) t = bi sh t - bi set t := by decide +kernel
theorem sub_f2 : ∀ sh, sh < 32 → ∀ set, set < 32 → ∀ t, t < 5 → set &&& sh = set → bi (sh - set) t = 1 → (set ||| 2 ^ t) &&& sh = (set ||| 2 ^ t) := by decide +kernel
theorem sub_f3 : ∀ sh, sh < 32 → ∀ set, set < 32 → ∀ t, t < 5 → set &&& sh = set → bi (sh - set) t = 1 → sh - (set ||| 2 ^ t) = sh - set - 2 ^ t := by decide +kernel
theorem sub_f4 : ∀ sh, sh < 32 → ∀ t, t < 5 → bi sh t = 1 → pc sh = pc (sh - 2 ^ t) + 1 := by decide +kernel
theorem sub_facts (sh : Nat) (h1 : sh < 32) (set : Nat) (h2 : set < 32) (h3 : set &&& sh = set) (t : Nat) (h4 : t < 5) : (bi (sh - set) t = 1 ↔ bi sh t ≠ 0 ∧ bi set t = 0) ∧ (bi (sh - set) t = 1 → ((set ||| 2 ^ t) &&& sh = (set ||| 2 ^ t)) ∧ sh - (set ||| 2 ^ t) = sh - set - 2 ^ t ∧ pc (sh - set) = pc (sh - set - 2 ^ t) + 1) :=
  ⟨by rw [sub_f1 sh h1 set h2 t h4 h3]; have := bi_lt sh t; have := bi_lt set t; omega, fun h => ⟨sub_f2 sh h1 set h2 t h4 h3 h, sub_f3 sh h1 set h2 t h4 h3 h, sub_f4 _ (sub_lt32 _ h1) t h4 h⟩⟩
theorem sub_eq : ∀ sh, sh < 32 → ∀ set, set < 32 → set &&& sh = set → (sh - set = 0 ↔ set = sh) ∧ (set ≠ sh → pc (sh - set) ≠ 0) := by decide +kernel
/-- m is the least cost onward from set by the orders of rem -/
def LoOK (w : Nat → Nat) (set rem m : Nat) : Prop := (∃ q ∈ perms rem, costG w set q = m) ∧ ∀ q ∈ perms rem, m ≤ costG w set q
def LlOK (w : Nat → Nat) (set rem t c : Nat) : Prop := (c = 9223372036854775807 ∧ ∀ u, u < t → bi rem u = 1 → False) ∨ ((∃ u, u < t ∧ bi rem u = 1 ∧ ∃ q ∈ perms (rem - 2 ^ u), costG w set (u :: q) = c) ∧ ∀ u, u < t → bi rem u = 1 → ∀ q ∈ perms (rem - 2 ^ u), c ≤ costG w set (u :: q))
theorem c_onward20 {w : Nat → Nat} (hw : WB w) {sh set placed : Nat} (hsh : sh < 32) (hset : set < 32) (hsub : set &&& sh = set) (hne : set ≠ sh) (hsz : ∀ s, s < 32 → s ≠ 0 → f_X3_sizeOf (nI s) P = some (lN (w s))) (rec_ : Int32 → Int32 → Int32 → Option Int64)
    (hrec : ∀ t, t < 5 → bi (sh - set) t = 1 → ∃ m, rec_ (nI sh) (nI (set ||| 2 ^ t)) (nI (placed + 1)) = some (lN m) ∧ LoOK w (set ||| 2 ^ t) (sh - (set ||| 2 ^ t)) m) : ∀ (n t c : Nat), t ≤ 5 → 5 < n + t → LlOK w set (sh - set) t c →
    ∃ m, f_X3_leastOnward_L20 rec_ (nI sh) (nI set) (nI placed) P n (lN c) (nI t) = some (lN m) ∧ LoOK w set (sh - set) m
  | 0, t, c, h1, h2, _ => by omega
  | n + 1, t, c, h1, h2, hI => by
    have hrem : sh - set < 32 := sub_lt32 _ hsh
    have hr0 : sh - set ≠ 0 := fun z => hne ((sub_eq sh hsh set hset hsub).1.mp z)
    show ∃ m, f_X3_leastOnward_L20b _ _ _ _ _ _ _ _ = _ ∧ _
    unfold f_X3_leastOnward_L20b
    by_cases he : 5 ≤ t
    · have e0 : t = 5 := by omega
      subst e0
      rw [if_pos (show (5 : Int32) ≤ nI 5 from by decide +kernel)]
      refine ⟨c, rfl, ?_⟩
      rcases hI with ⟨-, h⟩ | ⟨⟨u, a1, a2, q, a3, a4⟩, h⟩
      · obtain ⟨u, a, b⟩ := bi_some _ hrem hr0
        exact absurd b (fun b => h u a b)
      · refine ⟨⟨u :: q, (perms_first hrem hr0).mpr ⟨u, q, a1, a2, a3, rfl⟩, a4⟩, fun z hz => ?_⟩
        obtain ⟨u2, q2, b1, b2, b3, b4⟩ := (perms_first hrem hr0).mp hz
        subst b4
        exact h u2 b1 b2 q2 b3
    · have ht : t < 5 := by omega
      obtain ⟨f1, f2⟩ := sub_facts sh hsh set hset hsub t ht
      have hk := fun c => c_onward20 hw hsh hset hsub hne hsz rec_ hrec n (t + 1) c (by omega) (by omega)
      have hskip : bi (sh - set) t ≠ 1 → LlOK w set (sh - set) (t + 1) c := fun hb => by
        have key : ∀ u, u < t + 1 → bi (sh - set) u = 1 → u < t := fun u a b => by
          by_cases e : u = t
          · subst e; exact absurd b hb
          · omega
        rcases hI with ⟨a, h⟩ | ⟨⟨u, a1, a2⟩, h⟩
        · exact Or.inl ⟨a, fun u x y => h u (key u x y) y⟩
        · exact Or.inr ⟨⟨u, by omega, a2⟩, fun u x y => h u (key u x y) y⟩
      have hbl := bi_lt set t
      rw [if_neg (show ¬ (5 : Int32) ≤ nI t from nI_ge (b := 5) ht (by decide)), c_has sh hsh t ht, bnd_s, show nI t + (1 : Int32) = nI (t + 1) from nI_1 t]
      have hbs := bi_lt sh t
      by_cases hb : bi sh t = 0
      · rw [if_pos (by rw [hb]; rfl)]
        exact hk c (hskip (fun z => (f1.mp z).1 hb))
      · rw [if_neg (by rw [show bi sh t = 1 by omega]; decide +kernel), c_has set hset t ht, bnd_s]
        by_cases hb2 : bi set t = 0
        · have hb3 : bi (sh - set) t = 1 := f1.mpr ⟨hb, hb2⟩
          obtain ⟨g1, g2, g3⟩ := f2 hb3
          obtain ⟨m, r1, r2, r3⟩ := hrec t ht hb3
          have h32 := pow_lt32 t ht
          have ho := or_lt32 set hset _ h32
          rw [if_pos (by rw [hb2]; rfl), c_bit t ht, bnd_s, or_int set hset _ h32, hsz _ ho (or_ne0 set hset t ht), bnd_s, show nI placed + (1 : Int32) = nI (placed + 1) from nI_1 placed, r1, bnd_s, lN_add]
          rw [g2] at r2 r3
          have hwb := hw _ ho
          have hmb : m ≤ 5 * 2 ^ 46 := by
            obtain ⟨q, q1, q2⟩ := r2
            have hl := perms_len _ (sub_lt32 (2 ^ t) hrem) q q1
            have := pc_le _ (sub_lt32 (2 ^ t) hrem)
            have b := costG_bd hw q _ ho (perms_tab _ (sub_lt32 (2 ^ t) hrem) q q1)
            rw [← q2]
            exact Nat.le_trans b (Nat.mul_le_mul_right _ (by omega))
          have hcb : c < 2 ^ 63 := by
            rcases hI with ⟨a, -⟩ | ⟨⟨u, a1, a2, q, a3, a4⟩, -⟩
            · omega
            · have hqm : u :: q ∈ perms (sh - set) := (perms_first hrem hr0).mpr ⟨u, q, by omega, a2, a3, rfl⟩
              have hl := perms_len _ hrem _ hqm
              have h5 := pc_le _ hrem
              have b := costG_bd hw (u :: q) set hset (perms_tab _ hrem _ hqm)
              rw [a4] at b
              have : (u :: q).length * 2 ^ 46 ≤ 5 * 2 ^ 46 := Nat.mul_le_mul_right _ (by omega)
              omega
          have key : ∀ u, u < t + 1 → u = t ∨ u < t := fun u a => by omega
          rw [← apply_ite lN]
          simp (disch := omega) only [lN_ltr]
          refine hk _ ?_
          by_cases q1 : w (set ||| 2 ^ t) + m < c
          · rw [if_pos q1]
            refine Or.inr ⟨⟨t, by omega, hb3, ?_⟩, fun u a b q hq => ?_⟩
            · obtain ⟨q, a, b⟩ := r2
              exact ⟨q, a, by show w _ + _ = _; rw [b]⟩
            · rcases key u a with e | e
              · subst e
                have := r3 q hq
                show _ ≤ w _ + costG w _ q
                omega
              · rcases hI with ⟨-, h⟩ | ⟨-, h⟩
                · exact absurd b (fun b => h u e b)
                · have := h u e b q hq
                  omega
          · rw [if_neg q1]
            rcases hI with ⟨a, -⟩ | ⟨⟨u, a1, a2⟩, h⟩
            · omega
            · refine Or.inr ⟨⟨u, by omega, a2⟩, fun u a b q hq => ?_⟩
              rcases key u a with e | e
              · subst e
                have := r3 q hq
                show _ ≤ w _ + costG w _ q
                omega
              · exact h u e b q hq
        · rw [if_neg (by rw [show bi set t = 1 by omega]; decide +kernel)]
          exact hk c (hskip (fun z => hb2 (f1.mp z).2))
theorem c_onward {w : Nat → Nat} (hw : WB w) {sh : Nat} (hsh : sh < 32) (hsz : ∀ s, s < 32 → s ≠ 0 → f_X3_sizeOf (nI s) P = some (lN (w s))) : ∀ (n set placed : Nat), set < 32 → set &&& sh = set → pc (sh - set) < n → placed + pc (sh - set) ≤ 5 →
    ∃ m, f_X3_leastOnward P n (nI sh) (nI set) (nI placed) = some (lN m) ∧ LoOK w set (sh - set) m
  | 0, set, placed, _, _, h, _ => by omega
  | n + 1, set, placed, hset, hsub, h1, h2 => by
    show ∃ m, f_X3_leastOnward_b (f_X3_leastOnward P n) _ _ _ _ = _ ∧ _
    unfold f_X3_leastOnward_b
    obtain ⟨e1, e2⟩ := sub_eq sh hsh set hset hsub
    by_cases he : set = sh
    · subst he
      rw [if_pos rfl, Nat.sub_self]
      exact ⟨0, rfl, ⟨[], by decide, rfl⟩, fun q _ => Nat.zero_le _⟩
    · have h3 := e2 he
      rw [if_neg (fun z => he ((nI_eq (by omega) (by omega)).mp z)), if_pos (show nI placed < (5 : Int32) from nI_lt (b := 5) (by omega) (by decide))]
      refine c_onward20 (P := P) hw hsh hset hsub he hsz (f_X3_leastOnward P n) (fun t ht hb => ?_) 1024 0 9223372036854775807 (by decide) (by decide) (Or.inl ⟨rfl, fun u hu => by omega⟩)
      obtain ⟨f1, f2⟩ := sub_facts sh hsh set hset hsub t ht
      obtain ⟨g1, g2, g3⟩ := f2 hb
      have ih := c_onward hw hsh hsz n (set ||| 2 ^ t) (placed + 1) (or_lt32 set hset _ (pow_lt32 t ht)) g1 (by rw [g2]; omega) (by rw [g2]; omega)
      exact ih
theorem c_byOrders (hn : NB nm) (hp : PB pt) (hR : RkOK nm pt P LC BO) {sh : Nat} (hsh : sh < 32) : f_X3_leastByOrders (nI sh) P = some (lN (minC (szN nm pt) sh)) := by
  have h5 := pc_le sh hsh
  obtain ⟨m, h1, h2, h3⟩ := c_onward (P := P) (szN_WB hn hp) hsh (fun s a b => c_sizeOf hn hp hR a b) 6 0 0 (by decide) (by rw [Nat.zero_and]) (by rw [Nat.sub_zero]; omega) (by rw [Nat.sub_zero]; omega)
  unfold f_X3_leastByOrders
  rw [show (0 : Int32) = nI 0 from rfl, h1, bnd_s]
  rw [Nat.sub_zero] at h2 h3
  rw [minC_eq hsh h2 h3]
end CO
