/-! calls that change nothing -/
section LK
variable {ct : Nat → ClassId} {a0 : Nat}
theorem ne10 : ¬ (1 : Int32) = 0 := by decide +kernel
theorem c_driftDown {u v : Nat} (hu : 1 ≤ u ∧ u ≤ 500) (hv : 1 ≤ v ∧ v ≤ 500) : f_X5_driftDown (nI u) (nI v) = some (nI (max u v * 100 / min u v)) := by
  unfold f_X5_driftDown
  rw [minI (by omega) (by omega), maxI (by omega) (by omega)]
  have h1 : 1 ≤ min u v := Nat.le_min.mpr ⟨hu.1, hv.1⟩
  have h2 : min u v ≤ 500 := Nat.le_trans (Nat.min_le_left _ _) hu.2
  have h3 : max u v ≤ 500 := Nat.max_le.mpr ⟨hu.2, hv.2⟩
  rw [if_neg (nI_nle h1 (by omega)), grd_t (by simp [nI_ne0 (show 0 < min u v from h1) (by omega)]), iv 100, pk_mul, pk_div (by omega) h1 (by omega)]
theorem c_keptWith {own : Nat → Nat} {h : KH} {a : Nat} {st : DS} (hs : isSt ct a0 own h a st) (hS : SOK st) {t : Nat} (ht : t < 32) {Post : Int32 → KH → Prop} (hP : Post (nI (sumL (fun x : PL => if x.1 &&& t = t then 1 else 0) st.2.2.2.1)) h) : g_X4_keptWith ct a0 a (nI t) h Post := by
  obtain ⟨r, g, p, l, pr, kas, hs⟩ := hs
  have hl := hs.len
  refine p_keptWith hs (fun x hx => hS.2.2.2.1 _ (by rw [hs.kpe]; exact List.mem_map_of_mem hx)) ht 1024 0 0 (Nat.zero_le _) (by omega) ?_
  rw [Nat.zero_add, List.drop_zero]
  rw [hs.kpe] at hP
  unfold sumL at hP ⊢
  rw [List.map_map] at hP
  exact hP
theorem c_countPinned {own : Nat → Nat} {h : KH} {a : Nat} {st : DS} (hs : isSt ct a0 own h a st) (hS : SOK st) {Post : Int32 → KH → Prop} (hP : Post (nI (sumL (fun x : PL => if x.2.2.2.2 = 0 then 0 else 1) st.2.2.2.1)) h) : g_X4_countPinned ct a0 a h Post := by
  obtain ⟨r, g, p, l, pr, kas, hs⟩ := hs
  have hl := hs.len
  refine p_countPinned hs (fun x hx => hS.2.2.2.1 _ (by rw [hs.kpe]; exact List.mem_map_of_mem hx)) 1024 0 0 (Nat.zero_le _) (by omega) ?_
  rw [Nat.zero_add, List.drop_zero]
  rw [hs.kpe] at hP
  unfold sumL at hP ⊢
  rw [List.map_map] at hP
  exact hP
theorem sumL_map {α β : Type} (f : β → Nat) (g : α → β) (l : List α) : sumL f (l.map g) = sumL (fun x => f (g x)) l := by
  unfold sumL
  rw [List.map_map]
  rfl
theorem sumL_congr {α : Type} {f g : α → Nat} : ∀ {l : List α}, (∀ x ∈ l, f x = g x) → sumL f l = sumL g l
  | [], _ => rfl
  | x :: l, h => by
    rw [sumL_c, sumL_c, h x List.mem_cons_self, sumL_congr (fun y hy => h y (List.mem_cons_of_mem _ hy))]
theorem and_pow : ∀ s, s < 32 → ∀ t, t < 5 → (if s &&& 2 ^ t = 2 ^ t then 1 else 0) = bi s t := by decide +kernel
theorem join_or (x y : Int32) : (∃ t u, t < 5 ∧ u < 5 ∧ t ≠ u ∧ x = nI t ∧ y = nI u ∧ f_X5_isJoin x y = some 1) ∨ f_X5_isJoin x y = some 0 := by
  unfold f_X5_isJoin
  rcases tbl_or x with ⟨t, ht, rfl, e1, e2⟩ | ⟨e1, e2⟩
  · rw [e1, bnd_s, if_neg ne10]
    rcases tbl_or y with ⟨u, hu, rfl, e3, e4⟩ | ⟨e3, e4⟩
    · rw [e3, bnd_s, if_neg ne10]
      by_cases q : nI t = nI u
      · rw [if_pos q]; exact Or.inr rfl
      · rw [if_neg q]; exact Or.inl ⟨t, u, ht, hu, fun z => q (by rw [z]), rfl, rfl, rfl⟩
    · rw [e3, bnd_s, if_pos rfl]; exact Or.inr rfl
  · rw [e1, bnd_s, if_pos rfl]; exact Or.inr rfl
theorem m_join {α : Type} {x y : Int32} {P Q : Option α} : bnd (f_X6_isTable x) (fun q1 => if q1 = (0 : Int32) then P else bnd (f_X6_isTable y) (fun q3 => if q3 = (0 : Int32) then P else if x = y then P else Q)) = if f_X5_isJoin x y = some 0 then P else Q := by
  unfold f_X5_isJoin
  rcases tbl_or x with ⟨t, ht, rfl, e1, e2⟩ | ⟨e1, e2⟩
  · rw [e1, e2, bnd_s, bnd_s, if_neg ne10, if_neg ne10]
    rcases tbl_or y with ⟨u, hu, rfl, e3, e4⟩ | ⟨e3, e4⟩
    · rw [e3, e4, bnd_s, bnd_s, if_neg ne10, if_neg ne10]
      by_cases q : nI t = nI u
      · rw [if_pos q, if_pos q, if_pos rfl]
      · rw [if_neg q, if_neg q, if_neg (fun z => ne10 (Option.some.inj z))]
    · rw [e3, e4, bnd_s, bnd_s, if_pos rfl, if_pos rfl, if_pos rfl]
  · rw [e1, e2, bnd_s, bnd_s, if_pos rfl, if_pos rfl, if_pos rfl]
end LK

