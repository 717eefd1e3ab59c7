/-! calls that change nothing -/
section LK
variable {ct : Nat → ClassId} {a0 : Nat}
theorem ne10 : ¬ (1 : Int32) = 0 := by decide +kernel
theorem c_driftDown {u v : Nat} (hu : 1 ≤ u ∧ u ≤ 500) (hv : 1 ≤ v ∧ v ≤ 500) : f_X5_driftDown (nI u) (nI v) = some (nI (max u v * 100 / min u v)) := by
  unfold f_X5_driftDown
  rw [minI (by omega) (by omega), maxI (by omega) (by omega)]
  have h1 : 1 ≤ min u v := Nat.le_min.mpr ⟨hu.1, hv.1⟩
  have h2 : min u v ≤ 500 := Nat.le_trans (Nat.min_le_left _ _) hu.2
  have h3 : max u v ≤ 500 := Nat.max_le.mpr ⟨hu.2, hv.2⟩
  rw [if_neg (nI_nle h1 (by omega)), grd_t (by simp [nI_ne0 (show 0 < min u v from h1) (by omega)]), iv 100, pk_mul, pk_div (by omega) h1 (by omega)]
theorem c_keptWith {own : Nat → Nat} {h : KH} {a : Nat} {st : DS} (hs : isSt ct a0 own h a st) (hS : SOK st) {t : Nat} (ht : t < 32) {Post : Int32 → KH → Prop} (hP : Post (nI (sumL (fun x : PL => if x.1 &&& t = t then 1 else 0) st.2.2.2.1)) h) : g_X4_keptWith ct a0 a (nI t) h Post := by
  obtain ⟨r, g, p, l, pr, kas, hs⟩ := hs
  have hl := hs.len
  refine p_keptWith hs (fun x hx => hS.2.2.2.1 _ (by rw [hs.kpe]; exact List.mem_map_of_mem hx)) ht 1024 0 0 (Nat.zero_le _) (by omega) ?_
  rw [Nat.zero_add, List.drop_zero]
  rw [hs.kpe] at hP
  unfold sumL at hP ⊢
  rw [List.map_map] at hP
  exact hP
theorem c_countPinned {own : Nat → Nat} {h : KH} {a : Nat} {st : DS} (hs : isSt ct a0 own h a st) (hS : SOK st) {Post : Int32 → KH → Prop} (hP : Post (nI (sumL (fun x : PL => if x.2.2.2.2 = 0 then 0 else 1) st.2.2.2.1)) h) : g_X4_countPinned ct a0 a h Post := by
  obtain ⟨r, g, p, l, pr, kas, hs⟩ := hs
  have hl := hs.len
  refine p_countPinned hs (fun x hx => hS.2.2.2.1 _ (by rw [hs.kpe]; exact List.mem_map_of_mem hx)) 1024 0 0 (Nat.zero_le _) (by omega) ?_
  rw [Nat.zero_add, List.drop_zero]
  rw [hs.kpe] at hP
  unfold sumL at hP ⊢
  rw [List.map_map] at hP
  exact hP
theorem sumL_map {α β : Type} (f : β → Nat) (g : α → β) (l : List α) : sumL f (l.map g) = sumL (fun x => f (g x)) l := by
  unfold sumL
  rw [List.map_map]
  rfl
theorem sumL_congr {α : Type} {f g : α → Nat} : ∀ {l : List α}, (∀ x ∈ l, f x = g x) → sumL f l = sumL g l
  | [], _ => rfl
  | x :: l, h => by
    rw [sumL_c, sumL_c, h x List.mem_cons_self, sumL_congr (fun y hy => h y (List.mem_cons_of_mem _ hy))]
theorem and_pow : ∀ s, s < 32 → ∀ t, t < 5 → (if s &&& 2 ^ t = 2 ^ t then 1 else 0) = bi s t := by decide +kernel
set_option maxHeartbeats 1000000 in
theorem sq_table : St_table ct a0 (Rel ct a0) := by
  intro j hj ax h M a1 a2 hr
  have hr1 := hr.up
  obtain ⟨own, A, ⟨nw, snO, hl, hks, rk, b1, b2, b3, pd, sg, P, LC, BO, SIG, hc⟩, ⟨m1, m2, m3, m4, m5, m6⟩, hG⟩ := hr
  obtain ⟨v, E, eM, ⟨hE, hn, hv⟩, hkp, hpa⟩ := m1.opn
  obtain ⟨r, g, p, l, pr, kas, hs⟩ := hc.2.2.2.2.1
  have hS := hG.1.1
  have fin : ∀ (z : Int32), f_X6_table a1 a2 M.1 = some z → ∃ q : Int32, f_X6_table a1 a2 M.1 = some q ∧ q = z ∧ Rel ct a0 (j + 1) ax h M := fun z e => ⟨z, e, rfl, hr1⟩
  rcases tbl_or a1 with ⟨t, ht, rfl, e1, e2⟩ | ⟨e1, e2⟩
  · refine ⟨1, e1, ?_⟩
    rw [if_neg ne10]
    have hM : ∀ k, f_X6_table (nI t) a2 M.1 = some k ↔ (bnd (f_X6_in a2 (0 : Int32) (3 : Int32)) (fun q3 => if q3 = (0 : Int32) then some (-1 : Int32) else grd (inb ((0 : Int32) + nI t) 100) (grd (inb ((5 : Int32) + nI t) 100) (if a2 = (3 : Int32) then bnd (f_X6_plansWith (nI t) M.1) (fun q13 => some q13) else if a2 = (0 : Int32) then some (M.1 ((0 : Int32) + nI t).toNatClampNeg) else if a2 = (1 : Int32) then some (M.1 ((5 : Int32) + nI t).toNatClampNeg) else if (M.1 ((0 : Int32) + nI t).toNatClampNeg) ≤ (M.1 ((5 : Int32) + nI t).toNatClampNeg) then grd (!decide ((M.1 ((0 : Int32) + nI t).toNatClampNeg) = 0)) (some (((100 : Int32) * (M.1 ((5 : Int32) + nI t).toNatClampNeg)) / (M.1 ((0 : Int32) + nI t).toNatClampNeg))) else grd (!decide ((M.1 ((5 : Int32) + nI t).toNatClampNeg) = 0)) (some (((100 : Int32) * (M.1 ((0 : Int32) + nI t).toNatClampNeg)) / (M.1 ((5 : Int32) + nI t).toNatClampNeg))))))) = some k := fun k => by
      unfold f_X6_table
      rw [e2, bnd_s, if_neg ne10]
    have E0 : M.1 ((0 : Int32) + nI t).toNatClampNeg = nI (A.1.1 t) := by
      rw [z_add, nI_clamp (by omega), eM]
      exact congrArg nI (hn.1 t ht).1
    have E5 : M.1 ((5 : Int32) + nI t).toNatClampNeg = nI (A.1.2.1 t) := by
      rw [show (5 : Int32) = nI 5 from rfl, nI_add, nI_clamp (by omega), eM]
      exact congrArg nI (hn.1 t ht).2
    rw [z_add] at hM E0
    rw [show (5 : Int32) = nI 5 from rfl, nI_add] at hM E5
    rcases in_or a2 (lo := 0) (hi := 3) (by decide) (by decide) with ⟨n, n0, n3, rfl, n4⟩ | ⟨n0, n4⟩
    · rw [show f_X6_in (nI n) (0 : Int32) (3 : Int32) = some 1 from n4] at hM
      have hM : ∀ k, f_X6_table (nI t) (nI n) M.1 = some k ↔ _ := hM
      simp only [bnd_s, if_neg ne10, E0, E5] at hM
      rw [grd_inb (by omega) (by decide), grd_inb (by omega) (by decide)] at hM
      rcases (show n = 0 ∨ n = 1 ∨ n = 2 ∨ n = 3 by omega) with rfl | rfl | rfl | rfl
      · rw [if_pos (show nI 0 = (0 : Int32) from rfl)]
        rw [if_neg (show ¬ nI 0 = (3 : Int32) by decide +kernel), if_pos (show nI 0 = (0 : Int32) from rfl)] at hM
        exact hc.nowR (hs.rI (hs.rv ht (fin _ ((hM _).mpr rfl))))
      · rw [if_neg (show ¬ nI 1 = (0 : Int32) by decide +kernel), if_pos (show nI 1 = (1 : Int32) from rfl)]
        rw [if_neg (show ¬ nI 1 = (3 : Int32) by decide +kernel), if_neg (show ¬ nI 1 = (0 : Int32) by decide +kernel), if_pos (show nI 1 = (1 : Int32) from rfl)] at hM
        exact hc.nowR (hs.gI (hs.gv ht (fin _ ((hM _).mpr rfl))))
      · rw [if_neg (show ¬ nI 2 = (0 : Int32) by decide +kernel), if_neg (show ¬ nI 2 = (1 : Int32) by decide +kernel), if_pos (show nI 2 = (2 : Int32) from rfl)]
        rw [if_neg (show ¬ nI 2 = (3 : Int32) by decide +kernel), if_neg (show ¬ nI 2 = (0 : Int32) by decide +kernel), if_neg (show ¬ nI 2 = (1 : Int32) by decide +kernel)] at hM
        have hu := hS.1 t ht
        have hw := hS.2.1 t ht
        refine hc.nowR (hs.rI (hs.rv ht (hc.nowR (hs.gI (hs.gv ht ⟨_, c_driftDown hu hw, fin _ ((hM _).mpr ?_)⟩)))))
        by_cases q : A.1.1 t ≤ A.1.2.1 t
        · rw [if_pos (nI_le q (by omega)), grd_t (by simp [nI_ne0 (show 0 < A.1.1 t from hu.1) (by omega)]), iv 100, pk_mul, pk_div (by omega) hu.1 (by omega), Nat.max_eq_right q, Nat.min_eq_left q, Nat.mul_comm]
        · rw [if_neg (nI_ge (by omega) (by omega)), grd_t (by simp [nI_ne0 (show 0 < A.1.2.1 t from hw.1) (by omega)]), iv 100, pk_mul, pk_div (by omega) hw.1 (by omega), Nat.max_eq_left (by omega), Nat.min_eq_right (by omega), Nat.mul_comm]
      · rw [if_neg (show ¬ nI 3 = (0 : Int32) by decide +kernel), if_neg (show ¬ nI 3 = (1 : Int32) by decide +kernel), if_neg (show ¬ nI 3 = (2 : Int32) by decide +kernel), if_pos (show nI 3 = (3 : Int32) from rfl)]
        rw [if_pos (show nI 3 = (3 : Int32) from rfl)] at hM
        refine hc.nowR ⟨_, c_bit t ht, hs.o (c_keptWith hc.2.2.2.2.1 hS (pow_lt32 t ht) (fin _ ((hM _).mpr ?_)))⟩
        rw [eM, m_with hE ht, bnd_s, hkp, sumL_map]
        congr 2
        exact sumL_congr (fun e he => (and_pow _ (hE.1 e he).2.1.2.1 t ht).symm)
    · rw [show f_X6_in a2 (0 : Int32) (3 : Int32) = some 0 from n4] at hM
      have nn : ∀ n, n ≤ 3 → ¬ a2 = nI n := fun n hn z => by
        subst z
        rcases n0 with n0 | n0
        · exact absurd ((nI_ltI (by omega) (by decide)).mp n0) (by omega)
        · exact absurd ((nI_ltI (by decide) (by omega)).mp n0) (by omega)
      rw [if_neg (show ¬ a2 = (0 : Int32) from nn 0 (by decide)), if_neg (show ¬ a2 = (1 : Int32) from nn 1 (by decide)), if_neg (show ¬ a2 = (2 : Int32) from nn 2 (by decide)), if_neg (show ¬ a2 = (3 : Int32) from nn 3 (by decide))]
      exact fin _ ((hM _).mpr rfl)
  · refine ⟨0, e1, ?_⟩
    rw [if_pos rfl]
    exact fin _ (by unfold f_X6_table; rw [e2, bnd_s, if_pos rfl])
theorem join_or (x y : Int32) : (∃ t u, t < 5 ∧ u < 5 ∧ t ≠ u ∧ x = nI t ∧ y = nI u ∧ f_X5_isJoin x y = some 1) ∨ f_X5_isJoin x y = some 0 := by
  unfold f_X5_isJoin
  rcases tbl_or x with ⟨t, ht, rfl, e1, e2⟩ | ⟨e1, e2⟩
  · rw [e1, bnd_s, if_neg ne10]
    rcases tbl_or y with ⟨u, hu, rfl, e3, e4⟩ | ⟨e3, e4⟩
    · rw [e3, bnd_s, if_neg ne10]
      by_cases q : nI t = nI u
      · rw [if_pos q]; exact Or.inr rfl
      · rw [if_neg q]; exact Or.inl ⟨t, u, ht, hu, fun z => q (by rw [z]), rfl, rfl, rfl⟩
    · rw [e3, bnd_s, if_pos rfl]; exact Or.inr rfl
  · rw [e1, bnd_s, if_pos rfl]; exact Or.inr rfl
theorem m_join {α : Type} {x y : Int32} {P Q : Option α} : bnd (f_X6_isTable x) (fun q1 => if q1 = (0 : Int32) then P else bnd (f_X6_isTable y) (fun q3 => if q3 = (0 : Int32) then P else if x = y then P else Q)) = if f_X5_isJoin x y = some 0 then P else Q := by
  unfold f_X5_isJoin
  rcases tbl_or x with ⟨t, ht, rfl, e1, e2⟩ | ⟨e1, e2⟩
  · rw [e1, e2, bnd_s, bnd_s, if_neg ne10, if_neg ne10]
    rcases tbl_or y with ⟨u, hu, rfl, e3, e4⟩ | ⟨e3, e4⟩
    · rw [e3, e4, bnd_s, bnd_s, if_neg ne10, if_neg ne10]
      by_cases q : nI t = nI u
      · rw [if_pos q, if_pos q, if_pos rfl]
      · rw [if_neg q, if_neg q, if_neg (fun z => ne10 (Option.some.inj z))]
    · rw [e3, e4, bnd_s, bnd_s, if_pos rfl, if_pos rfl, if_pos rfl]
  · rw [e1, e2, bnd_s, bnd_s, if_pos rfl, if_pos rfl, if_pos rfl]
theorem sq_partOf : St_partOf ct a0 (Rel ct a0) := by
  intro j hj ax h M a1 a2 hr
  have hr1 := hr.up
  obtain ⟨own, A, ⟨nw, snO, hl, hks, rk, b1, b2, b3, pd, sg, P, LC, BO, SIG, hc⟩, ⟨m1, m2, m3, m4, m5, m6⟩, hG⟩ := hr
  obtain ⟨v, E, eM, ⟨hE, hn, hv⟩, hkp, hpa⟩ := m1.opn
  obtain ⟨r, g, p, l, pr, kas, hs⟩ := hc.2.2.2.2.1
  have fin : ∀ (z : Int32), f_X6_partOf a1 a2 M.1 = some z → ∃ q : Int32, f_X6_partOf a1 a2 M.1 = some q ∧ q = z ∧ Rel ct a0 (j + 1) ax h M := fun z e => ⟨z, e, rfl, hr1⟩
  rcases join_or a1 a2 with ⟨t, u, ht, hu, hne, rfl, rfl, e1⟩ | e1
  · refine ⟨1, e1, ?_⟩
    rw [if_neg ne10]
    refine hc.nowR (hs.pI (hs.parR ht (hs.parV ht hu (fin _ ?_))))
    unfold f_X6_partOf
    rw [m_join, e1, if_neg (fun z => ne10 (Option.some.inj z))]
    simp (disch := omega) only [iv, pk_mul, nI_add, grd_inb, nI_clamp]
    rw [eM, SI_at, hn.2.1 t u ht hu]
  · refine ⟨0, e1, ?_⟩
    rw [if_pos rfl]
    refine fin _ ?_
    unfold f_X6_partOf
    rw [m_join, e1, if_pos rfl]
theorem sq_why : St_why ct a0 (Rel ct a0) := by
  intro j hj ax h M a1 hr
  have hr1 := hr.up
  obtain ⟨own, A, ⟨nw, snO, hl, hks, rk, b1, b2, b3, pd, sg, P, LC, BO, SIG, hc⟩, ⟨m1, m2, m3, m4, m5, m6⟩, hG⟩ := hr
  have fin : ∀ (z : Int32), f_X6_why a1 M.2.2.2.2.2.2.2.2.2.2.2.2.2.1 M.2.2.2.2.2.2.2.2.2.2.2.2.2.2.1 = some z → ∃ q : Int32, f_X6_why a1 M.2.2.2.2.2.2.2.2.2.2.2.2.2.1 M.2.2.2.2.2.2.2.2.2.2.2.2.2.2.1 = some q ∧ q = z ∧ Rel ct a0 (j + 1) ax h M := fun z e => ⟨z, e, rfl, hr1⟩
  unfold g_X5_why
  rcases in_or a1 (lo := 0) (hi := 1) (by decide) (by decide) with ⟨n, n0, n1, rfl, n2⟩ | ⟨n0, n2⟩
  · rw [show ∀ P Q : Prop, (if nI n < (0 : Int32) then P else if nI n ≤ (1 : Int32) then Q else P) = Q from fun P Q => if_in n0 n1 (by decide)]
    refine ⟨_, _, hc.1, rfl, ?_⟩
    cases hx : A.2.2.2.2.2 with
    | none =>
      rw [hx] at m6
      rw [if_pos (show sdI none = (-1 : Int32) from rfl)]
      refine fin _ ?_
      unfold f_X6_why
      rw [show f_X6_in (nI n) (0 : Int32) (1 : Int32) = some 1 from n2, bnd_s, if_neg ne10, if_pos (show _ = (0 : Int32) from m6)]
    | some y =>
      rw [hx] at m6
      obtain ⟨k1, k2, k3, k4, k5⟩ := m6
      have key : ∀ p, p ≤ 60 → ¬ nI p = (-1 : Int32) := by decide +kernel
      rw [if_neg (show ¬ sdI (some y) = (-1 : Int32) from key _ k4)]
      have hM : f_X6_why (nI n) M.2.2.2.2.2.2.2.2.2.2.2.2.2.1 M.2.2.2.2.2.2.2.2.2.2.2.2.2.2.1 = some (M.2.2.2.2.2.2.2.2.2.2.2.2.2.2.1 n) := by
        unfold f_X6_why
        rw [show f_X6_in (nI n) (0 : Int32) (1 : Int32) = some 1 from n2, bnd_s, if_neg ne10, k1, if_neg ne10, grd_inb (by omega) (by decide), nI_clamp (by omega)]
      rcases (show n = 0 ∨ n = 1 by omega) with rfl | rfl
      · rw [if_pos (show nI 0 = (0 : Int32) from rfl)]
        refine ⟨_, _, hc.1, rfl, ?_⟩
        rw [hx]
        exact fin _ (hM.trans (by rw [k2]; rfl))
      · rw [if_neg (show ¬ nI 1 = (0 : Int32) by decide +kernel)]
        refine ⟨_, _, hc.1, rfl, ?_⟩
        rw [hx]
        exact fin _ (hM.trans (by rw [k3]; rfl))
  · rw [show ∀ P Q : Prop, (if a1 < (0 : Int32) then P else if a1 ≤ (1 : Int32) then Q else P) = P from fun P Q => if_out n0]
    refine fin _ ?_
    unfold f_X6_why
    rw [show f_X6_in a1 (0 : Int32) (1 : Int32) = some 0 from n2, bnd_s, if_pos rfl]
end LK
