/-! a new state's numbers; a copy's -/
section I2
variable {ct : Nat → ClassId} {a0 : Nat} {a r g p l : Nat} {pr : Nat → Nat}
theorem StX.parR {own : Nat → Nat} {h : KH} {kas : List (Nat × PL)} {st : DS} (hs : StX ct a0 own h a r g p l pr kas st) {i : Nat} (hi : i < 5) {K : Nat → Prop} (hK : K (pr i)) : ldR h p (nI i) (ct 4) K :=
  ⟨5, _, _, hs.2.2.2.2.2.1, inb_nI hi (by decide), by rw [nI_clamp (by omega)]; exact if_pos hi, hK⟩
theorem StX.parV {own : Nat → Nat} {h : KH} {kas : List (Nat × PL)} {st : DS} (hs : StX ct a0 own h a r g p l pr kas st) {i j : Nat} (hi : i < 5) (hj : j < 5) {K : Int32 → Prop} (hK : K (nI (st.2.2.1 i j))) : ldI h (pr i) (nI j) (ct 0) K :=
  ⟨5, _, _, hs.2.2.2.2.2.2.1 i hi, inb_nI hj (by decide), rfl, by rw [nI_clamp (by omega)]; exact hK⟩
theorem StX.stR {own : Nat → Nat} {h : KH} {kas : List (Nat × PL)} {st : DS} (hs : StX ct a0 own h a r g p l pr kas st) {t x : Nat} (ht : t < 5) {K : KH → Prop} (hK : ∀ h1, StX ct a0 own h1 a r g p l pr kas (nu st.1 t x, st.2) → FrG (a + 1) own h own h1 → K h1) : stI h r (nI t) (ct 0) (nI x) K :=
  ⟨5, _, hs.2.2.2.1, inb_nI ht (by decide), fun h1 e1 => by
    rw [nI_clamp (by omega), SI_up] at e1
    obtain ⟨g1, g2⟩ := hs.rows (nu st.1 t x)
    subst e1
    exact hK _ g1 g2⟩
theorem StX.stG {own : Nat → Nat} {h : KH} {kas : List (Nat × PL)} {st : DS} (hs : StX ct a0 own h a r g p l pr kas st) {t x : Nat} (ht : t < 5) {K : KH → Prop} (hK : ∀ h1, StX ct a0 own h1 a r g p l pr kas (st.1, nu st.2.1 t x, st.2.2) → FrG (a + 1) own h own h1 → K h1) : stI h g (nI t) (ct 0) (nI x) K :=
  ⟨5, _, hs.2.2.2.2.1, inb_nI ht (by decide), fun h1 e1 => by
    rw [nI_clamp (by omega), SI_up] at e1
    obtain ⟨g1, g2⟩ := hs.gues (nu st.2.1 t x)
    subst e1
    exact hK _ g1 g2⟩
theorem StX.stP {own : Nat → Nat} {h : KH} {kas : List (Nat × PL)} {st : DS} (hs : StX ct a0 own h a r g p l pr kas st) {i t x : Nat} (hi : i < 5) (ht : t < 5) {K : KH → Prop} (hK : ∀ h1, StX ct a0 own h1 a r g p l pr kas (st.1, st.2.1, (fun j => if j = i then nu (st.2.2.1 i) t x else st.2.2.1 j), st.2.2.2) → FrG (a + 1) own h own h1 → K h1) : stI h (pr i) (nI t) (ct 0) (nI x) K :=
  ⟨5, _, hs.2.2.2.2.2.2.1 i hi, inb_nI ht (by decide), fun h1 e1 => by
    rw [nI_clamp (by omega), SI_up] at e1
    obtain ⟨g1, g2⟩ := hs.part hi (nu (st.2.2.1 i) t x)
    subst e1
    exact hK _ g1 g2⟩
theorem StX.stD {own : Nat → Nat} {h : KH} {kas : List (Nat × PL)} {st : DS} (hs : StX ct a0 own h a r g p l pr kas st) {x : Nat} {K : KH → Prop} (hK : ∀ h1, StX ct a0 own h1 a r g p l pr kas (st.1, st.2.1, st.2.2.1, st.2.2.2.1, x, st.2.2.2.2.2) → FrG (a + 1) own h own h1 → K h1) : wrF h a 5 4 (.int (nI x)) K :=
  ⟨_, hs.1, Nat.le_of_ble_eq_true rfl, fun h1 e1 => by
    obtain ⟨g1, g2⟩ := hs.obj x st.2.2.2.2.2
    subst e1
    exact hK _ g1 g2⟩
/-- a counter of the source is copied -/
theorem StX.cpy {own : Nat → Nat} {h : KH} {kas : List (Nat × PL)} {st : DS} (hs : StX ct a0 own h a r g p l pr kas st) {b r' g' p' l' : Nat} {pr' : Nat → Nat} {kas' : List (Nat × PL)} {st' : DS} (hs' : StX ct a0 own h b r' g' p' l' pr' kas' st') (hab : a ≠ b) {c : Nat} (hc : c < 9) {K : KH → Prop} (hK : ∀ h1, StX ct a0 own h1 a r g p l pr kas (st.1, st.2.1, st.2.2.1, st.2.2.2.1, st.2.2.2.2.1, nu st.2.2.2.2.2 c (st'.2.2.2.2.2 c)) → StX ct a0 own h1 b r' g' p' l' pr' kas' st' → FrG (a + 1) own h own h1 → K h1) : rdL h b 5 (5 + c) (fun v => wrF h a 5 (5 + c) (.long v) K) := by
  have e1 : (stF r' g' p' l' st'.2.2.2.2.1 st'.2.2.2.2.2)[5 + c]? = some (.long (lN (st'.2.2.2.2.2 c))) := by
    match c, hc with
    | 0, _ => rfl
    | 1, _ => rfl
    | 2, _ => rfl
    | 3, _ => rfl
    | 4, _ => rfl
    | 5, _ => rfl
    | 6, _ => rfl
    | 7, _ => rfl
    | 8, _ => rfl
  have e2 : (stF r g p l st.2.2.2.2.1 st.2.2.2.2.2).set (5 + c) (.long (lN (st'.2.2.2.2.2 c))) = stF r g p l st.2.2.2.2.1 (nu st.2.2.2.2.2 c (st'.2.2.2.2.2 c)) := by
    match c, hc with
    | 0, _ => rfl
    | 1, _ => rfl
    | 2, _ => rfl
    | 3, _ => rfl
    | 4, _ => rfl
    | 5, _ => rfl
    | 6, _ => rfl
    | 7, _ => rfl
    | 8, _ => rfl
  refine ⟨_, _, hs'.1, e1, _, hs.1, (show 5 + c < 14 by omega), fun h1 eh => ?_⟩
  obtain ⟨g1, g2⟩ := hs.obj st.2.2.2.2.1 (nu st.2.2.2.2.2 c (st'.2.2.2.2.2 c))
  rw [e2] at eh
  subst eh
  exact hK _ g1 (hs'.frg g2 (by omega) (by omega)) g2
def c10 : Nat → Nat := fun k => if k < 5 then 10 else 0
def c100 : Nat → Nat → Nat := fun i j => if i < 5 ∧ j < 5 then 100 else 0
abbrev DSn : DS := (c10, c10, c100, [], 200, fun _ => 0)
theorem c10_NZ : NZ 5 c10 := fun k hk => if_neg (by omega)
theorem c100_PZ : PZ c100 := fun i j h => if_neg (by omega)
theorem c10_v {t : Nat} (h : t < 5) : c10 t = 10 := if_pos h
theorem c100_v {t u : Nat} (h : t < 5) (hu : u < 5) : c100 t u = 100 := if_pos ⟨h, hu⟩
theorem p_i64 {k41 : Int32 → KH → Prop} {Post : Unit → KH → Prop} : ∀ (n t u : Nat) (own : Nat → Nat) (h : KH), t < 5 → u ≤ 5 → 5 < n + u → StX ct a0 own h a r g p l pr [] (pre c10 (t + 1), pre c10 (t + 1), pre2 c100 t u, [], 0, fun _ => 0) →
    (∀ h1, StX ct a0 own h1 a r g p l pr [] (pre c10 (t + 1), pre c10 (t + 1), pre2 c100 (t + 1) 0, [], 0, fun _ => 0) → FrG (a + 1) own h own h1 → k41 (nI (t + 1)) h1) → g_X4_init_L64 ct a0 a Post k41 n (nI t) (nI u) h
  | 0, t, u, own, h, a1, a2, a3, _, _ => by omega
  | n + 1, t, u, own, h, ht, a2, a3, hs, hK => by
    show g_X4_init_L64b _ _ _ _ _ _ _ _ _
    unfold g_X4_init_L64b
    by_cases he : 5 ≤ u
    · have e0 : u = 5 := by omega
      subst e0
      rw [if_pos (by decide +kernel), show nI t + (1 : Int32) = nI (t + 1) from nI_1 t]
      rw [pre2_n c100_PZ] at hs
      exact hK h hs FrG.refl
    · have hu : u < 5 := by omega
      rw [if_neg (show ¬ (5 : Int32) ≤ nI u from nI_ge (b := 5) hu (by decide)), show nI u + (1 : Int32) = nI (u + 1) from nI_1 u]
      refine hs.pI (hs.parR ht (hs.stP ht hu (x := 100) (fun h1 hs1 f1 => ?_)))
      refine p_i64 n t (u + 1) own h1 ht (by omega) (by omega) ?_ (fun h2 hs2 f2 => hK h2 hs2 (f1.trans f2))
      rw [← pre2_s, c100_v ht hu]
      exact hs1
theorem p_i41 {Post : Unit → KH → Prop} : ∀ (n t : Nat) (own : Nat → Nat) (h : KH), t ≤ 5 → 5 < n + t → StX ct a0 own h a r g p l pr [] (pre c10 t, pre c10 t, pre2 c100 t 0, [], 0, fun _ => 0) →
    (∀ h1, StX ct a0 own h1 a r g p l pr [] DSn → FrG (a + 1) own h own h1 → Post () h1) → g_X4_init_L41 ct a0 a Post n (nI t) h
  | 0, t, own, h, a1, a2, _, _ => by omega
  | n + 1, t, own, h, a1, a2, hs, hP => by
    show g_X4_init_L41b _ _ _ _ _ _ _
    unfold g_X4_init_L41b
    by_cases he : 5 ≤ t
    · have e0 : t = 5 := by omega
      subst e0
      rw [if_pos (by decide +kernel)]
      rw [pre_n c10_NZ, pre2_all c100_PZ] at hs
      exact hs.stD (x := 200) (fun h1 hs1 f1 => hP h1 hs1 f1)
    · have ht : t < 5 := by omega
      rw [if_neg (show ¬ (5 : Int32) ≤ nI t from nI_ge (b := 5) ht (by decide))]
      refine hs.rI (hs.stR ht (x := 10) (fun h1 hs1 f1 => hs1.gI (hs1.stG ht (x := 10) (fun h2 hs2 f2 => ?_))))
      refine p_i64 (r := r) (g := g) (p := p) (l := l) (pr := pr) 1024 t 0 own h2 ht (by decide) (by decide) ?_ (fun h3 hs3 f3 => p_i41 n (t + 1) own h3 (by omega) (by omega) hs3 (fun h4 hs4 f4 => hP h4 hs4 (f1.trans (f2.trans (f3.trans f4)))))
      have e := pre_s c10 t
      rw [c10_v ht] at e
      rw [← e]
      exact hs2
/-- a new state -/
theorem p_stInit {own : Nat → Nat} {h : KH} {a : Nat} (ha : h a = some stNew) (oa : own a = 2 * a + 2) {Post : Unit → KH → Prop} (hP : ∀ own1 h1, isSt ct a0 own1 h1 a DSn → FrG (a + 1) own h own1 h1 → Post () h1) : g_X4_init ct a0 a h Post := by
  unfold g_X4_init
  refine p_alloc ha oa (fun own1 h1 r g p l pr hs f => ?_)
  refine p_i41 (r := r) (g := g) (p := p) (l := l) (pr := pr) 1024 0 own1 h1 (by decide) (by decide) ?_ (fun h2 hs2 f2 => hP own1 h2 ⟨_, _, _, _, _, _, hs2⟩ (f.trans f2))
  rw [pre_0, pre2_0]
  exact hs
/-! the copy -/
variable {b r' g' p' l' : Nat} {pr' : Nat → Nat} {kas' : List (Nat × PL)} {st' : DS}
theorem p_c72 (hZ : ZOK st') (hab : a ≠ b) {k41 : Int32 → KH → Prop} {Post : Unit → KH → Prop} : ∀ (n t u : Nat) (own : Nat → Nat) (h : KH), t < 5 → u ≤ 5 → 5 < n + u → StX ct a0 own h a r g p l pr [] (pre st'.1 (t + 1), pre st'.2.1 (t + 1), pre2 st'.2.2.1 t u, [], 0, fun _ => 0) → StX ct a0 own h b r' g' p' l' pr' kas' st' →
    (∀ h1, StX ct a0 own h1 a r g p l pr [] (pre st'.1 (t + 1), pre st'.2.1 (t + 1), pre2 st'.2.2.1 (t + 1) 0, [], 0, fun _ => 0) → StX ct a0 own h1 b r' g' p' l' pr' kas' st' → FrG (a + 1) own h own h1 → k41 (nI (t + 1)) h1) → g_X4_init__L72 ct a0 a b Post k41 n (nI t) (nI u) h
  | 0, t, u, own, h, a1, a2, a3, _, _, _ => by omega
  | n + 1, t, u, own, h, ht, a2, a3, hs, hs', hK => by
    show g_X4_init__L72b _ _ _ _ _ _ _ _ _ _
    unfold g_X4_init__L72b
    by_cases he : 5 ≤ u
    · have e0 : u = 5 := by omega
      subst e0
      rw [if_pos (by decide +kernel), show nI t + (1 : Int32) = nI (t + 1) from nI_1 t]
      rw [pre2_n hZ.2.2.1] at hs
      exact hK h hs hs' FrG.refl
    · have hu : u < 5 := by omega
      rw [if_neg (show ¬ (5 : Int32) ≤ nI u from nI_ge (b := 5) hu (by decide)), show nI u + (1 : Int32) = nI (u + 1) from nI_1 u]
      refine hs.pI (hs.parR ht (hs'.pI (hs'.parR ht (hs'.parV ht hu (hs.stP ht hu (fun h1 hs1 f1 => ?_))))))
      refine p_c72 hZ hab n t (u + 1) own h1 ht (by omega) (by omega) ?_ (hs'.frg f1 (by omega) (by omega)) (fun h2 hs2 hs3 f2 => hK h2 hs2 hs3 (f1.trans f2))
      rw [← pre2_s]
      exact hs1
theorem take_s {α : Type} {l : List α} {i : Nat} {x : α} (h : l[i]? = some x) : l.take (i + 1) = l.take i ++ [x] := by
  obtain ⟨h1, h2⟩ := List.getElem?_eq_some_iff.mp h
  rw [List.take_succ, h]
  rfl
theorem p_c107 (hZ : ZOK st') (hab : a ≠ b) (hk4 : kas'.length ≤ 4) {Post : Unit → KH → Prop} : ∀ (n i : Nat) (own : Nat → Nat) (h : KH), i ≤ kas'.length → kas'.length < n + i → StX ct a0 own h a r g p l pr (kas'.take i) (st'.1, st'.2.1, st'.2.2.1, (kas'.take i).map Prod.snd, 0, fun _ => 0) → StX ct a0 own h b r' g' p' l' pr' kas' st' →
    (∀ own1 h1, StX ct a0 own1 h1 a r g p l pr kas' st' → FrG (a + 1) own h own1 h1 → Post () h1) → g_X4_init__L107 ct a0 a b Post n (nI i) h
  | 0, i, own, h, a1, a2, _, _, _ => by omega
  | n + 1, i, own, h, a1, a2, hs, hs', hP => by
    show g_X4_init__L107b _ _ _ _ _ _ _ _
    unfold g_X4_init__L107b
    refine hs'.sz ?_
    by_cases he : kas'.length ≤ i
    · rw [if_pos (nI_le he (by omega))]
      rw [List.take_of_length_le he] at hs
      refine hs'.dI (hs.stD (fun h1 hs1 f1 => ?_))
      refine hs1.cpy (hs'.frg f1 (by omega) (by omega)) hab (c := 0) (by decide) (fun h2 hs2 t2 f2 => ?_)
      refine hs2.cpy t2 hab (c := 1) (by decide) (fun h3 hs3 t3 f3 => ?_)
      refine hs3.cpy t3 hab (c := 2) (by decide) (fun h4 hs4 t4 f4 => ?_)
      refine hs4.cpy t4 hab (c := 3) (by decide) (fun h5 hs5 t5 f5 => ?_)
      refine hs5.cpy t5 hab (c := 4) (by decide) (fun h6 hs6 t6 f6 => ?_)
      refine hs6.cpy t6 hab (c := 5) (by decide) (fun h7 hs7 t7 f7 => ?_)
      refine hs7.cpy t7 hab (c := 6) (by decide) (fun h8 hs8 t8 f8 => ?_)
      refine hs8.cpy t8 hab (c := 7) (by decide) (fun h9 hs9 t9 f9 => ?_)
      refine hs9.cpy t9 hab (c := 8) (by decide) (fun h10 hs10 t10 f10 => ?_)
      refine hP own h10 ?_ (f1.trans (f2.trans (f3.trans (f4.trans (f5.trans (f6.trans (f7.trans (f8.trans (f9.trans f10)))))))))
      have e9 := pre_n hZ.2.2.2
      rw [← pre_s _ 8, ← pre_s _ 7, ← pre_s _ 6, ← pre_s _ 5, ← pre_s _ 4, ← pre_s _ 3, ← pre_s _ 2, ← pre_s _ 1, ← pre_s _ 0, pre_0] at e9
      have key : ∀ cs, cs = st'.2.2.2.2.2 → StX ct a0 own h10 a r g p l pr kas' (st'.1, st'.2.1, st'.2.2.1, kas'.map Prod.snd, st'.2.2.2.2.1, cs) → StX ct a0 own h10 a r g p l pr kas' st' := fun cs ec hh => by
        subst ec
        rw [← hs'.kpe] at hh
        exact hh
      exact key _ e9 hs10
    · rw [if_neg (nI_ge (by omega) (by omega)), show nI i + (1 : Int32) = nI (i + 1) from nI_1 i]
      have hi : kas'[i]? = some kas'[i] := List.getElem?_eq_getElem (by omega)
      generalize kas'[i] = x at hi
      have hx := hs'.kp x (List.mem_of_getElem? hi)
      obtain ⟨o1, gg, o2, e1, e2⟩ := hx
      have hx := hs'.kp x (List.mem_of_getElem? hi)
      have hlt : (kas'.take i).length ≤ 4 := by rw [List.length_take]; omega
      refine ⟨_, l, hs.1, rfl, hs'.gt hi ⟨hs.lis.obj, p_add (ci := 1) hs.lis (by rw [List.length_map]; omega) ⟨_, e1⟩ (Or.inl rfl) (fun own1 h1 hl f1 => ?_)⟩⟩
      obtain ⟨g1, g2⟩ := hs.list f1 (kas1 := kas'.take (i + 1)) (by rw [take_s hi, List.map_append]; exact hl) (fun y hy => by
        rw [take_s hi] at hy
        rcases List.mem_append.mp hy with hy | hy
        · exact Or.inl hy
        · rw [List.mem_singleton.mp hy]; exact Or.inr hx)
      exact p_c107 hZ hab hk4 n (i + 1) own1 h1 (by omega) (by omega) g1 (hs'.frg g2 (by omega) (by omega)) (fun own2 h2 hs2 f2 => hP own2 h2 hs2 (g2.trans f2))
theorem p_c41 (hZ : ZOK st') (hab : a ≠ b) (hk4 : kas'.length ≤ 4) {Post : Unit → KH → Prop} : ∀ (n t : Nat) (own : Nat → Nat) (h : KH), t ≤ 5 → 5 < n + t → StX ct a0 own h a r g p l pr [] (pre st'.1 t, pre st'.2.1 t, pre2 st'.2.2.1 t 0, [], 0, fun _ => 0) → StX ct a0 own h b r' g' p' l' pr' kas' st' →
    (∀ own1 h1, StX ct a0 own1 h1 a r g p l pr kas' st' → FrG (a + 1) own h own1 h1 → Post () h1) → g_X4_init__L41 ct a0 a b Post n (nI t) h
  | 0, t, own, h, a1, a2, _, _, _ => by omega
  | n + 1, t, own, h, a1, a2, hs, hs', hP => by
    show g_X4_init__L41b _ _ _ _ _ _ _ _
    unfold g_X4_init__L41b
    by_cases he : 5 ≤ t
    · have e0 : t = 5 := by omega
      subst e0
      rw [if_pos (by decide +kernel)]
      rw [pre_n hZ.1, pre_n hZ.2.1, pre2_all hZ.2.2.1] at hs
      exact p_c107 (r := r) (g := g) (p := p) (l := l) (pr := pr) (r' := r') (g' := g') (p' := p') (l' := l') (pr' := pr') hZ hab hk4 8 0 own h (Nat.zero_le _) (by omega) hs hs' hP
    · have ht : t < 5 := by omega
      rw [if_neg (show ¬ (5 : Int32) ≤ nI t from nI_ge (b := 5) ht (by decide))]
      refine hs.rI (hs'.rI (hs'.rv ht (hs.stR ht (fun h1 hs1 f1 => ?_))))
      have t1 := hs'.frg f1 (by omega) (by omega)
      refine hs1.gI (t1.gI (t1.gv ht (hs1.stG ht (fun h2 hs2 f2 => ?_))))
      refine p_c72 (r := r) (g := g) (p := p) (l := l) (pr := pr) (r' := r') (g' := g') (p' := p') (l' := l') (pr' := pr') hZ hab 1024 t 0 own h2 ht (by decide) (by decide) ?_ (t1.frg f2 (by omega) (by omega)) (fun h3 hs3 t3 f3 => p_c41 hZ hab hk4 n (t + 1) own h3 (by omega) (by omega) hs3 t3 (fun own4 h4 hs4 f4 => hP own4 h4 hs4 (f1.trans (f2.trans (f3.trans f4)))))
      rw [← pre_s, ← pre_s]
      exact hs2
end I2
theorem p_stCopy {ct : Nat → ClassId} {a0 : Nat} {own : Nat → Nat} {h : KH} {a b : Nat} {st' : DS} (ha : h a = some stNew) (oa : own a = 2 * a + 2) (hs' : isSt ct a0 own h b st') (hab : a ≠ b) (hZ : ZOK st') (hk4 : st'.2.2.2.1.length ≤ 4) {Post : Unit → KH → Prop} (hP : ∀ own1 h1, isSt ct a0 own1 h1 a st' → FrG (a + 1) own h own1 h1 → Post () h1) : g_X4_init_ ct a0 a b h Post := by
  unfold g_X4_init_
  refine p_alloc ha oa (fun own1 h1 r g p l pr hs f => ?_)
  obtain ⟨r', g', p', l', pr', kas', hs'⟩ := hs'
  have e0 : kas'.length = st'.2.2.2.1.length := by rw [hs'.kpe, List.length_map]
  refine p_c41 (r := r) (g := g) (p := p) (l := l) (pr := pr) (r' := r') (g' := g') (p' := p') (l' := l') (pr' := pr') hZ hab (by omega) 1024 0 own1 h1 (by decide) (by decide) ?_ (hs'.frg f (by omega) (by omega)) (fun own2 h2 hs2 f2 => hP own2 h2 ⟨_, _, _, _, _, _, hs2⟩ (f.trans f2))
  rw [pre_0, pre_0, pre2_0]
  exact hs
