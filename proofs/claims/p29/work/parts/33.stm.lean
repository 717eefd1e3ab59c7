/-! the state's methods over the known heap -/
theorem map_erase {α β : Type} (f : α → β) : ∀ (l : List α) (i : Nat), (l.map f).eraseIdx i = (l.eraseIdx i).map f
  | [], _ => rfl
  | _ :: _, 0 => rfl
  | x :: l, i + 1 => by
    show f x :: (l.map f).eraseIdx i = f x :: (l.eraseIdx i).map f
    rw [map_erase f l i]
theorem mem_erase {α : Type} {x : α} : ∀ {l : List α} {i : Nat}, x ∈ l.eraseIdx i → x ∈ l
  | [], _, h => h
  | _ :: _, 0, h => List.mem_cons_of_mem _ h
  | y :: l, i + 1, h => by
    rcases List.mem_cons.mp (show x ∈ y :: l.eraseIdx i from h) with h | h
    · rw [h]; exact List.mem_cons_self
    · exact List.mem_cons_of_mem _ (mem_erase h)
theorem mem_set {α : Type} {x y : α} : ∀ {l : List α} {i : Nat}, x ∈ l.set i y → x ∈ l ∨ x = y
  | [], _, h => Or.inl h
  | _ :: _, 0, h => by
    rcases List.mem_cons.mp h with h | h
    · exact Or.inr h
    · exact Or.inl (List.mem_cons_of_mem _ h)
  | z :: l, i + 1, h => by
    rcases List.mem_cons.mp (show x ∈ z :: l.set i y from h) with h | h
    · rw [h]; exact Or.inl List.mem_cons_self
    · exact (mem_set h).imp (List.mem_cons_of_mem _) id
theorem drop_get {α : Type} {l : List α} {i : Nat} {x : α} (h : l[i]? = some x) : l.drop i = x :: l.drop (i + 1) := by
  obtain ⟨h1, h2⟩ := List.getElem?_eq_some_iff.mp h
  rw [List.drop_eq_getElem_cons h1, h2]
def POK (p : PL) : Prop := 1 ≤ p.1 ∧ p.1 < 32 ∧ p.2.1 ∈ perms p.1 ∧ NB p.2.2.1 ∧ p.2.2.2.2 < 2
section SM
variable {ct : Nat → ClassId} {a0 : Nat} {own : Nat → Nat} {h : KH} {a r g p l : Nat} {pr : Nat → Nat} {kas : List (Nat × PL)} {st : DS}
theorem StX.lis (hs : StX ct a0 own h a r g p l pr kas st) : LiS ct a0 own (2 * a + 3) h l (kas.map Prod.fst) := hs.2.2.2.2.2.2.2.1
theorem StX.kp (hs : StX ct a0 own h a r g p l pr kas st) : ∀ x ∈ kas, isKp ct own h x.1 x.2 := hs.2.2.2.2.2.2.2.2.1
theorem StX.kpe (hs : StX ct a0 own h a r g p l pr kas st) : st.2.2.2.1 = kas.map Prod.snd := hs.2.2.2.2.2.2.2.2.2
theorem StX.len (hs : StX ct a0 own h a r g p l pr kas st) : kas.length ≤ 9 := by
  have := hs.lis.2.1
  rw [List.length_map] at this
  exact this
theorem StX.o (hs : StX ct a0 own h a r g p l pr kas st) {K : Prop} (hK : K) : isO h a 5 K := ⟨⟨_, hs.1⟩, hK⟩
theorem StX.sz (hs : StX ct a0 own h a r g p l pr kas st) {K : Int32 → KH → Prop} (hK : K (nI kas.length) h) : rdR h a 5 3 (fun v1 => isO h v1 0 (g_Jx4a65c_size_8abf5 ct a0 v1 h K)) :=
  ⟨_, l, hs.1, rfl, hs.lis.obj, p_size hs.lis (by rw [List.length_map]; exact hK)⟩
theorem StX.gt (hs : StX ct a0 own h a r g p l pr kas st) {i : Nat} {x : Nat × PL} (hi : kas[i]? = some x) {K : Nat → KH → Prop} (hK : K x.1 h) : rdR h a 5 3 (fun v4 => isO h v4 0 (g_Jx4a65c_get_915e3 ct a0 v4 (nI i) h (fun v5 h5 => isO h5 v5 1 (K v5 h5)))) := by
  obtain ⟨-, q, -, e1, -⟩ := hs.kp x (List.mem_of_getElem? hi)
  exact ⟨_, l, hs.1, rfl, hs.lis.obj, p_get hs.lis (by rw [List.getElem?_map, hi]; rfl) ⟨⟨_, e1⟩, hK⟩⟩
theorem StX.rm (hs : StX ct a0 own h a r g p l pr kas st) {i : Nat} {x : Nat × PL} (hi : kas[i]? = some x) {K : Nat → KH → Prop} (hK : ∀ h1, StX ct a0 own h1 a r g p l pr (kas.eraseIdx i) (st.1, st.2.1, st.2.2.1, (kas.eraseIdx i).map Prod.snd, st.2.2.2.2) → FrG (a + 1) own h own h1 → isKp ct own h1 x.1 x.2 → K x.1 h1) : rdR h a 5 3 (fun v4 => isO h v4 0 (g_Jx4a65c_remove_915e3 ct a0 v4 (nI i) h K)) := by
  have hx := hs.kp x (List.mem_of_getElem? hi)
  refine ⟨_, l, hs.1, rfl, hs.lis.obj, p_remove (ci := 1) hs.lis (by rw [List.getElem?_map, hi]; rfl) (fun k hk => ?_) (Or.inl rfl) (fun h1 hl f => ?_)⟩
  · obtain ⟨y, hy, e⟩ := List.mem_map.mp hk
    obtain ⟨-, q, -, e1, -⟩ := hs.kp y hy
    exact ⟨_, e ▸ e1⟩
  · obtain ⟨g1, g2⟩ := hs.list f (kas1 := kas.eraseIdx i) (by rw [← map_erase]; exact hl) (fun x hx => Or.inl (mem_erase hx))
    exact hK h1 g1 g2 (hx.frg g2 (by omega))
theorem isKp.sh {k : Nat} {x : PL} (hk : isKp ct own h k x) {K : Int32 → Prop} (hK : K (nI x.1)) : rdI h k 1 0 K := by
  obtain ⟨-, q, -, e1, -⟩ := hk
  exact ⟨_, _, e1, rfl, hK⟩
theorem isKp.ord {k : Nat} {x : PL} (hk : isKp ct own h k x) {K : Int32 → Prop} (hK : K (nI (oct x.2.1))) : rdI h k 1 1 K := by
  obtain ⟨-, q, -, e1, -⟩ := hk
  exact ⟨_, _, e1, rfl, hK⟩
theorem isKp.run {k : Nat} {x : PL} (hk : isKp ct own h k x) {K : Int64 → Prop} (hK : K (lN x.2.2.2.1)) : rdL h k 1 3 K := by
  obtain ⟨-, q, -, e1, -⟩ := hk
  exact ⟨_, _, e1, rfl, hK⟩
theorem isKp.pin {k : Nat} {x : PL} (hk : isKp ct own h k x) {K : Int32 → Prop} (hK : K (nI x.2.2.2.2)) : rdI h k 1 4 K := by
  obtain ⟨-, q, -, e1, -⟩ := hk
  exact ⟨_, _, e1, rfl, hK⟩
theorem p_placeOf (hs : StX ct a0 own h a r g p l pr kas st) (hok : ∀ x ∈ kas, POK x.2) {sh : Nat} (hsh : sh < 32) {Post : Int32 → KH → Prop} (h1 : ∀ i x, kas[i]? = some x → x.2.1 = sh → Post (nI i) h) (h2 : (∀ x ∈ kas, x.2.1 ≠ sh) → Post (-1) h) : ∀ (n i : Nat), i ≤ kas.length → kas.length < n + i → (∀ j x, j < i → kas[j]? = some x → x.2.1 ≠ sh) →
    g_X4_placeOf_L2 ct a0 a (nI sh) Post n (nI i) h
  | 0, i, a1, a2, _ => by omega
  | n + 1, i, a1, a2, hI => by
    have hlen := hs.len
    show g_X4_placeOf_L2b _ _ _ _ _ _ _ _
    unfold g_X4_placeOf_L2b
    refine hs.sz ?_
    by_cases he : kas.length ≤ i
    · rw [if_pos (nI_le he (by omega))]
      refine h2 (fun x hx => ?_)
      obtain ⟨j, hj⟩ := List.getElem?_of_mem hx
      have := (List.getElem?_eq_some_iff.mp hj).1
      exact hI j x (by omega) hj
    · rw [if_neg (nI_ge (by omega) (by omega))]
      have hi : kas[i]? = some kas[i] := List.getElem?_eq_getElem (by omega)
      generalize kas[i] = x at hi
      have hx := hs.kp x (List.mem_of_getElem? hi)
      have ho := hok x (List.mem_of_getElem? hi)
      refine hs.gt hi (hx.sh ?_)
      by_cases q : x.2.1 = sh
      · rw [if_pos (by rw [q])]
        exact h1 i x hi q
      · rw [if_neg (fun z => q ((nI_eq (by have := ho.2.1; omega) (by omega)).mp z)), show nI i + (1 : Int32) = nI (i + 1) from nI_1 i]
        refine p_placeOf hs hok hsh h1 h2 n (i + 1) (by omega) (by omega) (fun j y hj hy => ?_)
        by_cases e : j = i
        · subst e
          rw [hi] at hy
          cases hy
          exact q
        · exact hI j y (by omega) hy
theorem c_hasAll : ∀ s, s < 32 → ∀ t, t < 32 → f_X5_hasAll (nI s) (nI t) = some (nI (if s &&& t = t then 1 else 0)) := by decide +kernel
def cwith (t : Nat) (x : Nat × PL) : Nat := if x.2.1 &&& t = t then 1 else 0
def sumL {α : Type} (f : α → Nat) (l : List α) : Nat := (l.map f).sum
theorem sumL_c {α : Type} (f : α → Nat) (x : α) (l : List α) : sumL f (x :: l) = f x + sumL f l := by unfold sumL; rw [List.map_cons, List.sum_cons]
theorem sumL_le {α : Type} (f : α → Nat) (c : Nat) : ∀ (l : List α), (∀ x ∈ l, f x ≤ c) → sumL f l ≤ c * l.length
  | [], _ => by unfold sumL; simp
  | x :: l, h => by
    have := sumL_le f c l (fun y hy => h y (List.mem_cons_of_mem _ hy))
    have := h x List.mem_cons_self
    rw [sumL_c, List.length_cons, Nat.mul_succ]
    omega
theorem p_keptWith (hs : StX ct a0 own h a r g p l pr kas st) (hok : ∀ x ∈ kas, POK x.2) {t : Nat} (ht : t < 32) {Post : Int32 → KH → Prop} : ∀ (n i c : Nat), i ≤ kas.length → kas.length < n + i → Post (nI (c + sumL (cwith t) (kas.drop i))) h →
    g_X4_keptWith_L4 ct a0 a (nI t) Post n (nI c) (nI i) h
  | 0, i, c, a1, a2, _ => by omega
  | n + 1, i, c, a1, a2, hP => by
    have hlen := hs.len
    show g_X4_keptWith_L4b _ _ _ _ _ _ _ _ _
    unfold g_X4_keptWith_L4b
    refine hs.sz ?_
    by_cases he : kas.length ≤ i
    · rw [if_pos (nI_le he (by omega))]
      rw [List.drop_eq_nil_of_le he] at hP
      exact hP
    · rw [if_neg (nI_ge (by omega) (by omega))]
      have hi : kas[i]? = some kas[i] := List.getElem?_eq_getElem (by omega)
      generalize kas[i] = x at hi
      have hx := hs.kp x (List.mem_of_getElem? hi)
      have ho := hok x (List.mem_of_getElem? hi)
      refine hs.gt hi (hx.sh ⟨_, c_hasAll _ ho.2.1 t ht, ?_⟩)
      rw [drop_get hi, sumL_c] at hP
      rw [show nI i + (1 : Int32) = nI (i + 1) from nI_1 i, show nI c + (1 : Int32) = nI (c + 1) from nI_1 c]
      unfold cwith at hP
      by_cases q : x.2.1 &&& t = t
      · rw [if_pos q] at hP ⊢
        rw [if_neg (by decide +kernel)]
        exact p_keptWith hs hok ht n (i + 1) (c + 1) (by omega) (by omega) (by rw [Nat.add_assoc]; exact hP)
      · rw [if_neg q] at hP ⊢
        rw [if_pos (by rfl)]
        exact p_keptWith hs hok ht n (i + 1) c (by omega) (by omega) (by rw [Nat.zero_add] at hP; exact hP)
def cpin (x : Nat × PL) : Nat := if x.2.2.2.2.2 = 0 then 0 else 1
theorem p_countPinned (hs : StX ct a0 own h a r g p l pr kas st) (hok : ∀ x ∈ kas, POK x.2) {Post : Int32 → KH → Prop} : ∀ (n i c : Nat), i ≤ kas.length → kas.length < n + i → Post (nI (c + sumL cpin (kas.drop i))) h →
    g_X4_countPinned_L4 ct a0 a Post n (nI c) (nI i) h
  | 0, i, c, a1, a2, _ => by omega
  | n + 1, i, c, a1, a2, hP => by
    have hlen := hs.len
    show g_X4_countPinned_L4b _ _ _ _ _ _ _ _
    unfold g_X4_countPinned_L4b
    refine hs.sz ?_
    by_cases he : kas.length ≤ i
    · rw [if_pos (nI_le he (by omega))]
      rw [List.drop_eq_nil_of_le he] at hP
      exact hP
    · rw [if_neg (nI_ge (by omega) (by omega))]
      have hi : kas[i]? = some kas[i] := List.getElem?_eq_getElem (by omega)
      generalize kas[i] = x at hi
      have hx := hs.kp x (List.mem_of_getElem? hi)
      have ho := hok x (List.mem_of_getElem? hi)
      refine hs.gt hi (hx.pin ?_)
      rw [drop_get hi, sumL_c] at hP
      rw [show nI i + (1 : Int32) = nI (i + 1) from nI_1 i, show nI c + (1 : Int32) = nI (c + 1) from nI_1 c]
      unfold cpin at hP
      have h2 := ho.2.2.2.2
      by_cases q : x.2.2.2.2.2 = 0
      · rw [if_pos q] at hP
        rw [if_pos (by rw [q]; rfl)]
        exact p_countPinned hs hok n (i + 1) c (by omega) (by omega) (by rw [Nat.zero_add] at hP; exact hP)
      · rw [if_neg q] at hP
        rw [if_neg (nI_ne0 (by omega) (by omega))]
        exact p_countPinned hs hok n (i + 1) (c + 1) (by omega) (by omega) (by rw [Nat.add_assoc]; exact hP)
theorem hup_hup {h : KH} {q : Nat} {e e1 : va_E} : hup (hup h q e) q e1 = hup h q e1 := by
  funext z
  unfold hup
  split <;> rfl
/-- a kept plan is made -/
theorem p_x0 {q : Nat} {fs : List Value} (hq : h q = some (.inr (1, fs))) (hl : fs.length = 5) (s o gg pn : Nat) (hp2 : pn < 2) (rn : Nat) {Post : Unit → KH → Prop} (hP : Post () (hup h q (.inr (1, [.int (nI s), .int (nI o), .ref gg, .long (lN rn), .int (nI pn)])))) : g_X0_init ct a0 q (nI s) (nI o) gg (lN rn) (nI pn) h Post := by
  match fs, hl with
  | [x0, x1, x2, x3, x4], _ =>
    refine ⟨_, hq, Nat.le_of_ble_eq_true rfl, fun h2 e2 => ?_⟩
    have g2 : h2 q = some (.inr (1, [.int (nI s), x1, x2, x3, x4])) := by rw [e2]; exact hup_same
    refine ⟨_, g2, Nat.le_of_ble_eq_true rfl, fun h3 e3 => ?_⟩
    have g3 : h3 q = some (.inr (1, [.int (nI s), .int (nI o), x2, x3, x4])) := by rw [e3]; exact hup_same
    refine ⟨_, g3, Nat.le_of_ble_eq_true rfl, fun h4 e4 => ?_⟩
    have g4 : h4 q = some (.inr (1, [.int (nI s), .int (nI o), .ref gg, x3, x4])) := by rw [e4]; exact hup_same
    refine ⟨_, g4, Nat.le_of_ble_eq_true rfl, fun h5 e5 => ?_⟩
    have g5 : h5 q = some (.inr (1, [.int (nI s), .int (nI o), .ref gg, .long (lN rn), x4])) := by rw [e5]; exact hup_same
    refine ⟨(by decide +kernel : ∀ x, x < 2 → isB (nI x) = true) pn hp2, _, g5, Nat.le_of_ble_eq_true rfl, fun h6 e6 => ?_⟩
    rw [e6, e5, e4, e3, e2, hup_hup, hup_hup, hup_hup, hup_hup]
    exact hP
theorem p_setPinned (hs : StX ct a0 own h a r g p l pr kas st) {i : Nat} {x : Nat × PL} (hi : kas[i]? = some x) {pn : Nat} (hp2 : pn < 2) {Post : Unit → KH → Prop}
    (hP : ∀ own1 h1 k, StX ct a0 own1 h1 a r g p l pr (kas.set i (k, x.2.1, x.2.2.1, x.2.2.2.1, x.2.2.2.2.1, pn)) (st.1, st.2.1, st.2.2.1, (kas.set i (k, x.2.1, x.2.2.1, x.2.2.2.1, x.2.2.2.2.1, pn)).map Prod.snd, st.2.2.2.2) → FrG (a + 1) own h own1 h1 → Post () h1) : g_X4_setPinned ct a0 a (nI i) (nI pn) h Post := by
  have hlen := hs.len
  have hlt := (List.getElem?_eq_some_iff.mp hi).1
  have hx := hs.kp x (List.mem_of_getElem? hi)
  unfold g_X4_setPinned
  rw [if_neg (nI_pos (by omega))]
  refine hs.sz ?_
  rw [if_neg (nI_ge hlt (by omega))]
  refine hs.gt hi ⟨_, l, hs.1, rfl, fun q h9 hq e9 => ?_⟩
  have f9 : FrG (a + 1) own h (oup own q 0) h9 := by rw [e9]; exact FrG.new hq
  -- the plan and its guesses stand as before
  obtain ⟨o1, gg, o2, e1, e2⟩ := hx
  have n1 : x.1 ≠ q := fun z => by rw [z, hq] at e1; cases e1
  have n2 : gg ≠ q := fun z => by rw [z, hq] at e2; cases e2
  have e1' : h9 x.1 = some (.inr (1, kpF gg x.2)) := by rw [e9, hup_ne n1]; exact e1
  refine ⟨_, _, e1', rfl, ⟨_, _, e1', rfl, ⟨_, gg, e1', rfl, ⟨_, _, e1', rfl, ?_⟩⟩⟩⟩
  refine p_x0 (by rw [e9]; exact hup_same) rfl _ _ _ _ hp2 _ ?_
  rw [e9, hup_hup]
  generalize hE : (Sum.inr (1, [Value.int (nI x.2.1), .int (nI (oct x.2.2.1)), .ref gg, .long (lN x.2.2.2.2.1), .int (nI pn)]) : va_E) = E
  have fE : Fr (2 * a + 3) own h (oup own q 0) (hup h q E) := Fr.new hq
  have hkE : hup h q E q = some (.inr (1, kpF gg (x.2.1, x.2.2.1, x.2.2.2.1, x.2.2.2.2.1, pn))) := by rw [hup_same, ← hE]; rfl
  have hsE : StX ct a0 (oup own q 0) (hup h q E) a r g p l pr kas st := by
    have f0 : FrG (q + 1) own h (oup own q 0) (hup h q E) := FrG.new hq
    exact hs.frg f0 (fun z => by have e := hs.1; rw [show a = q by omega, hq] at e; cases e) (by omega)
  have hkp : isKp ct (oup own q 0) (hup h q E) q (x.2.1, x.2.2.1, x.2.2.2.1, x.2.2.2.2.1, pn) := ⟨oup_same, gg, (oup_ne n2).trans o2, hkE, (hup_ne n2).trans e2⟩
  refine ⟨hsE.lis.obj, p_set (ci := 1) hsE.lis (by rw [List.getElem?_map, hi]; rfl) ⟨_, hkE⟩ (Or.inl rfl) (fun h1 hl f1 => ?_)⟩
  obtain ⟨g1, g2⟩ := hsE.list f1 (kas1 := kas.set i (q, x.2.1, x.2.2.1, x.2.2.2.1, x.2.2.2.2.1, pn)) (by rw [List.map_set]; exact hl) (fun y hy => (mem_set hy).elim Or.inl (fun e => Or.inr (by rw [e]; exact hkp)))
  exact hP _ h1 q g1 ((FrG.new hq).trans g2)
theorem p_useAgain (hs : StX ct a0 own h a r g p l pr kas st) (hk4 : kas.length ≤ 4) {i : Nat} {x : Nat × PL} (hi : kas[i]? = some x) (hp2 : x.2.2.2.2.2 < 2) {Post : Unit → KH → Prop}
    (hP : ∀ own1 h1 k, StX ct a0 own1 h1 a r g p l pr (kas.eraseIdx i ++ [(k, x.2.1, x.2.2.1, x.2.2.2.1, x.2.2.2.2.1 + 1, x.2.2.2.2.2)]) (st.1, st.2.1, st.2.2.1, (kas.eraseIdx i ++ [(k, x.2.1, x.2.2.1, x.2.2.2.1, x.2.2.2.2.1 + 1, x.2.2.2.2.2)]).map Prod.snd, st.2.2.2.2.1, nu st.2.2.2.2.2 0 (st.2.2.2.2.2 0 + 1)) → FrG (a + 1) own h own1 h1 → Post () h1) : g_X4_useAgain ct a0 a (nI i) h Post := by
  have hlt := (List.getElem?_eq_some_iff.mp hi).1
  unfold g_X4_useAgain
  rw [if_neg (nI_pos (by omega))]
  refine hs.sz ?_
  rw [if_neg (nI_ge hlt (by omega))]
  refine hs.rm hi (fun h6 hs6 f6 hx => ?_)
  obtain ⟨o1, gg, o2, e1, e2⟩ := hx
  refine ⟨⟨_, e1⟩, ⟨_, l, hs6.1, rfl, fun q h9 hq e9 => ?_⟩⟩
  have n1 : x.1 ≠ q := fun z => by rw [z, hq] at e1; cases e1
  have n2 : gg ≠ q := fun z => by rw [z, hq] at e2; cases e2
  have e1' : h9 x.1 = some (.inr (1, kpF gg x.2)) := by rw [e9, hup_ne n1]; exact e1
  refine ⟨_, _, e1', rfl, ⟨_, _, e1', rfl, ⟨_, gg, e1', rfl, ⟨_, _, e1', rfl, ⟨_, _, e1', rfl, ?_⟩⟩⟩⟩⟩
  rw [show lN x.2.2.2.2.1 + (1 : Int64) = lN (x.2.2.2.2.1 + 1) from lN_1 _]
  refine p_x0 (by rw [e9]; exact hup_same) rfl _ _ _ _ hp2 _ ?_
  rw [e9, hup_hup]
  generalize hE : (Sum.inr (1, [Value.int (nI x.2.1), .int (nI (oct x.2.2.1)), .ref gg, .long (lN (x.2.2.2.2.1 + 1)), .int (nI x.2.2.2.2.2)]) : va_E) = E
  have hkE : hup h6 q E q = some (.inr (1, kpF gg (x.2.1, x.2.2.1, x.2.2.2.1, x.2.2.2.2.1 + 1, x.2.2.2.2.2))) := by rw [hup_same, ← hE]; rfl
  have hsE := hs6.frg (FrG.new (g := q + 1) (a := q) (lab2 := 0) (e := E) hq) (fun z => by have e := hs6.1; rw [show a = q by omega, hq] at e; cases e) (by omega)
  have hkp : isKp ct (oup own q 0) (hup h6 q E) q (x.2.1, x.2.2.1, x.2.2.2.1, x.2.2.2.2.1 + 1, x.2.2.2.2.2) := ⟨oup_same, gg, (oup_ne n2).trans o2, hkE, (hup_ne n2).trans e2⟩
  have hle : (kas.eraseIdx i).length ≤ 4 := by rw [List.length_eraseIdx_of_lt hlt]; omega
  refine ⟨hsE.lis.obj, p_add (ci := 1) hsE.lis (by rw [List.length_map]; omega) ⟨_, hkE⟩ (Or.inl rfl) (fun own1 h1 hl f1 => ?_)⟩
  obtain ⟨g1, g2⟩ := hsE.list f1 (kas1 := kas.eraseIdx i ++ [(q, x.2.1, x.2.2.1, x.2.2.2.1, x.2.2.2.2.1 + 1, x.2.2.2.2.2)]) (by rw [List.map_append]; exact hl) (fun y hy => by
    rcases List.mem_append.mp hy with hy | hy
    · exact Or.inl hy
    · rw [List.mem_singleton.mp hy]; exact Or.inr hkp)
  refine ⟨_, _, g1.1, rfl, _, g1.1, Nat.le_of_ble_eq_true rfl, fun h2 eh2 => ?_⟩
  obtain ⟨g3, g4⟩ := g1.obj st.2.2.2.2.1 (nu st.2.2.2.2.2 0 (st.2.2.2.2.2 0 + 1))
  have eF : (stF r g p l st.2.2.2.2.1 st.2.2.2.2.2).set 5 (.long (lN (st.2.2.2.2.2 0) + 1)) = stF r g p l st.2.2.2.2.1 (nu st.2.2.2.2.2 0 (st.2.2.2.2.2 0 + 1)) := by
    rw [show lN (st.2.2.2.2.2 0) + (1 : Int64) = lN (st.2.2.2.2.2 0 + 1) from lN_1 _]
    rfl
  have eh : h2 = hup h1 a (.inr (5, stF r g p l st.2.2.2.2.1 (nu st.2.2.2.2.2 0 (st.2.2.2.2.2 0 + 1)))) := by rw [eh2]; exact congrArg (fun z => hup h1 a (.inr (5, z))) eF
  rw [eh]
  exact hP own1 _ q g3 (f6.trans ((FrG.new hq).trans (g2.trans g4)))
end SM
