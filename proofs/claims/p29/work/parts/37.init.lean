/-! states are made, and copied -/
def NZ (n : Nat) (v : Nat → Nat) : Prop := ∀ k, n ≤ k → v k = 0
def PZ (pt : Nat → Nat → Nat) : Prop := ∀ i j, 5 ≤ i ∨ 5 ≤ j → pt i j = 0
def ZOK (st : DS) : Prop := NZ 5 st.1 ∧ NZ 5 st.2.1 ∧ PZ st.2.2.1 ∧ NZ 9 st.2.2.2.2.2
def pre (v : Nat → Nat) (t : Nat) : Nat → Nat := fun k => if k < t then v k else 0
theorem pre_0 (v : Nat → Nat) : pre v 0 = fun _ => 0 := by
  funext k
  exact if_neg (Nat.not_lt_zero _)
theorem pre_s (v : Nat → Nat) (t : Nat) : nu (pre v t) t (v t) = pre v (t + 1) := by
  funext k
  unfold nu pre
  by_cases e : k = t
  · subst e; rw [if_pos rfl, if_pos (Nat.lt_succ_self _)]
  · rw [if_neg e]
    by_cases q : k < t
    · rw [if_pos q, if_pos (by omega)]
    · rw [if_neg q, if_neg (by omega)]
theorem pre_n {v : Nat → Nat} {n : Nat} (h : NZ n v) : pre v n = v := by
  funext k
  unfold pre
  by_cases q : k < n
  · rw [if_pos q]
  · rw [if_neg q, h k (by omega)]
def pre2 (pt : Nat → Nat → Nat) (t u : Nat) : Nat → Nat → Nat := fun i j => if i < t ∨ (i = t ∧ j < u) then pt i j else 0
theorem pre2_s (pt : Nat → Nat → Nat) (t u : Nat) : (fun i => if i = t then nu (pre2 pt t u t) u (pt t u) else pre2 pt t u i) = pre2 pt t (u + 1) := by
  funext i j
  by_cases e : i = t
  · subst e
    show (if i = i then nu (pre2 pt i u i) u (pt i u) else _) j = _
    rw [if_pos rfl]
    unfold nu pre2
    by_cases e2 : j = u
    · subst e2; rw [if_pos rfl, if_pos (Or.inr ⟨rfl, Nat.lt_succ_self _⟩)]
    · rw [if_neg e2]
      by_cases q : i < i ∨ (i = i ∧ j < u)
      · rw [if_pos q, if_pos (by omega)]
      · rw [if_neg q, if_neg (by omega)]
  · show (if i = t then nu (pre2 pt t u t) u (pt t u) else pre2 pt t u i) j = _
    rw [if_neg e]
    unfold pre2
    by_cases q : i < t ∨ (i = t ∧ j < u)
    · rw [if_pos q, if_pos (by omega)]
    · rw [if_neg q, if_neg (by omega)]
theorem pre2_n {pt : Nat → Nat → Nat} (h : PZ pt) (t : Nat) : pre2 pt t 5 = pre2 pt (t + 1) 0 := by
  funext i j
  unfold pre2
  by_cases q : i < t ∨ (i = t ∧ j < 5)
  · rw [if_pos q, if_pos (by omega)]
  · rw [if_neg q]
    by_cases q2 : i < t + 1 ∨ (i = t + 1 ∧ j < 0)
    · rw [if_pos q2, h i j (by omega)]
    · rw [if_neg q2]
theorem pre2_all {pt : Nat → Nat → Nat} (h : PZ pt) : pre2 pt 5 0 = pt := by
  funext i j
  unfold pre2
  by_cases q : i < 5 ∨ (i = 5 ∧ j < 0)
  · rw [if_pos q]
  · rw [if_neg q, h i j (by omega)]
theorem pre2_0 (pt : Nat → Nat → Nat) : pre2 pt 0 0 = fun _ _ => 0 := by
  funext i j
  exact if_neg (by omega)
abbrev DS0 : DS := (fun _ => 0, fun _ => 0, fun _ _ => 0, [], 0, fun _ => 0)
abbrev stNew : va_E := .inr (5, [.null, .null, .null, .null, .int 0, .long 0, .long 0, .long 0, .long 0, .long 0, .long 0, .long 0, .long 0, .long 0])
theorem hups_at {h : KH} {c : ClassId} : ∀ (n : Nat) (r : Nat → Nat), (∀ i j, i < n → j < n → r i = r j → i = j) → ∀ q, (∀ i, i < n → q = r i → hups h ((List.range n).map fun i => (r i, .inl (c, 5, .inl (fun _ => 0)))) q = some (.inl (c, 5, .inl (fun _ => 0)))) ∧ ((∀ i, i < n → q ≠ r i) → hups h ((List.range n).map fun i => (r i, .inl (c, 5, .inl (fun _ => 0)))) q = h q)
  | 0, r, _, q => ⟨fun i hi => absurd hi (Nat.not_lt_zero _), fun _ => rfl⟩
  | n + 1, r, hr, q => by
    obtain ⟨i1, i2⟩ := hups_at (h := h) (c := c) n r (fun i j a b => hr i j (by omega) (by omega)) q
    have e : hups h ((List.range (n + 1)).map fun i => (r i, .inl (c, 5, .inl (fun _ => 0)))) = hup (hups h ((List.range n).map fun i => (r i, .inl (c, 5, .inl (fun _ => 0))))) (r n) (.inl (c, 5, .inl (fun _ => 0))) := by
      unfold hups
      rw [List.range_succ, List.map_append, List.foldl_append]
      rfl
    rw [e]
    constructor
    · intro i hi hq
      by_cases e2 : q = r n
      · rw [e2]; exact hup_same
      · rw [hup_ne e2]
        refine i1 i ?_ hq
        have : i ≠ n := fun z => e2 (by rw [hq, z])
        omega
    · intro hq
      rw [hup_ne (hq n (Nat.lt_succ_self _))]
      exact i2 (fun i hi => hq i (by omega))
def olab (own : Nat → Nat) (r : Nat → Nat) (lab : Nat) : Nat → Nat := fun z => if z = r 0 ∨ z = r 1 ∨ z = r 2 ∨ z = r 3 ∨ z = r 4 then lab else own z
theorem olab_in {own r : Nat → Nat} {lab i : Nat} (hi : i < 5) : olab own r lab (r i) = lab := if_pos (by
  match i, hi with
  | 0, _ => exact Or.inl rfl
  | 1, _ => exact Or.inr (Or.inl rfl)
  | 2, _ => exact Or.inr (Or.inr (Or.inl rfl))
  | 3, _ => exact Or.inr (Or.inr (Or.inr (Or.inl rfl)))
  | 4, _ => exact Or.inr (Or.inr (Or.inr (Or.inr rfl))))
theorem olab_out {own r : Nat → Nat} {lab z : Nat} (h : ∀ i, i < 5 → z ≠ r i) : olab own r lab z = own z := if_neg (by
  rintro (e | e | e | e | e)
  · exact h 0 (by decide) e
  · exact h 1 (by decide) e
  · exact h 2 (by decide) e
  · exact h 3 (by decide) e
  · exact h 4 (by decide) e)
section IN
variable {ct : Nat → ClassId} {a0 : Nat}
/-- the arrays and the list of a new state -/
theorem p_alloc {own : Nat → Nat} {h : KH} {a : Nat} (ha : h a = some stNew) (oa : own a = 2 * a + 2) {K : KH → Prop}
    (hK : ∀ own1 h1 r g p l pr, StX ct a0 own1 h1 a r g p l pr [] DS0 → FrG (a + 1) own h own1 h1 → K h1) :
    nwC h (.inl (ct 0, 5, .inl (fun _ => 0))) (fun q2 h2 => wrF h2 a 5 0 (.ref q2) (fun h3 => nwC h3 (.inl (ct 0, 5, .inl (fun _ => 0))) (fun q4 h4 => wrF h4 a 5 1 (.ref q4) (fun h5 => nwG h5 ct (fun q6 h6 => wrF h6 a 5 2 (.ref q6) (fun h7 => nwC h7 (.inr (0, [.int 0, .null, .int 0])) (fun q8 h8 => g_Jx4a65c_init_da8c8 ct a0 q8 h8 (fun _ h9 => wrF h9 a 5 3 (.ref q8) K)))))))) := by
  intro q2 h2 n2 e2
  have d2 : a ≠ q2 := fun z => by rw [z, n2] at ha; cases ha
  have a2 : h2 a = some stNew := by rw [e2, hup_ne d2]; exact ha
  refine ⟨_, a2, Nat.le_of_ble_eq_true rfl, fun h3 e3 => ?_⟩
  have b2 : h2 q2 = some (.inl (ct 0, 5, .inl (fun _ => 0))) := by rw [e2]; exact hup_same
  have b3 : h3 q2 = some (.inl (ct 0, 5, .inl (fun _ => 0))) := by rw [e3, hup_ne (Ne.symm d2)]; exact b2
  have a3 : h3 a = some (.inr (5, [.ref q2, .null, .null, .null, .int 0, .long 0, .long 0, .long 0, .long 0, .long 0, .long 0, .long 0, .long 0, .long 0])) := by rw [e3]; exact hup_same
  intro q4 h4 n4 e4
  have d4 : a ≠ q4 := fun z => by rw [z, n4] at a3; cases a3
  have d42 : q2 ≠ q4 := fun z => by rw [z, n4] at b3; cases b3
  have a4 := (show h4 a = h3 a by rw [e4, hup_ne d4]).trans a3
  have b4 := (show h4 q2 = h3 q2 by rw [e4, hup_ne d42]).trans b3
  have c4 : h4 q4 = some (.inl (ct 0, 5, .inl (fun _ => 0))) := by rw [e4]; exact hup_same
  refine ⟨_, a4, Nat.le_of_ble_eq_true rfl, fun h5 e5 => ?_⟩
  have a5 : h5 a = some (.inr (5, [.ref q2, .ref q4, .null, .null, .int 0, .long 0, .long 0, .long 0, .long 0, .long 0, .long 0, .long 0, .long 0, .long 0])) := by rw [e5]; exact hup_same
  have b5 := (show h5 q2 = h4 q2 by rw [e5, hup_ne (Ne.symm d2)]).trans b4
  have c5 := (show h5 q4 = h4 q4 by rw [e5, hup_ne (Ne.symm d4)]).trans c4
  intro q6 pr h6 n6 m6 k6 j6 e6
  have out : ∀ z, h5 z ≠ none → z ≠ q6 ∧ (∀ i, i < 5 → z ≠ pr i) ∧ h6 z = h5 z := fun z hz => by
    have z1 : z ≠ q6 := fun e => hz (by rw [e]; exact n6)
    have z2 : ∀ i, i < 5 → z ≠ pr i := fun i hi e => hz (by rw [e]; exact m6 i hi)
    refine ⟨z1, z2, ?_⟩
    rw [e6, (hups_at 5 pr j6 z).2 z2, hup_ne z1]
  have a6 := (show h6 a = h5 a by rw [(out a (by rw [a5]; exact fun z => by cases z)).2.2]).trans a5
  have b6 := (show h6 q2 = h5 q2 by rw [(out q2 (by rw [b5]; exact fun z => by cases z)).2.2]).trans b5
  have c6 := (show h6 q4 = h5 q4 by rw [(out q4 (by rw [c5]; exact fun z => by cases z)).2.2]).trans c5
  have p6 : h6 q6 = some (.inl (ct 4, 5, .inr (.inr (.inr (.inr (fun i => if i < 5 then some (pr i) else none)))))) := by
    rw [e6, (hups_at 5 pr j6 q6).2 (fun i hi => Ne.symm (k6 i hi))]
    exact hup_same
  have r6 : ∀ i, i < 5 → h6 (pr i) = some (.inl (ct 0, 5, .inl (fun _ => 0))) := fun i hi => by
    rw [e6]
    exact (hups_at 5 pr j6 (pr i)).1 i hi rfl
  refine ⟨_, a6, Nat.le_of_ble_eq_true rfl, fun h7 e7 => ?_⟩
  have na : ∀ {z : Nat} {x : ClassId × vp_A}, h6 z = some (.inl x) → h7 z = some (.inl x) := fun hz => by
    rw [e7, hup_ne (fun e => by rw [e, a6] at hz; cases hz)]
    exact hz
  have a7 : h7 a = some (.inr (5, [.ref q2, .ref q4, .ref q6, .null, .int 0, .long 0, .long 0, .long 0, .long 0, .long 0, .long 0, .long 0, .long 0, .long 0])) := by rw [e7]; exact hup_same
  intro q8 h8 n8 e8
  have nb : ∀ {z : Nat} {x : va_E}, h7 z = some x → z ≠ q8 := fun hz e => by rw [e, n8] at hz; cases hz
  have g8 : h8 q8 = some (.inr (0, [.int 0, .null, .int 0])) := by rw [e8]; exact hup_same
  refine ⟨_, g8, Nat.le_of_ble_eq_true rfl, fun h9 e9 => ⟨[.int 0, .null, .int 0], by rw [e9]; exact hup_same, Nat.le_of_ble_eq_true rfl, fun h10 e10 => ?_⟩⟩
  have e10' : h10 = hup h7 q8 (.inr (0, [.int 0, .ref a0, .int 0])) := by rw [e10, e9, e8, hup_hup, hup_hup]; rfl
  have a10 := (show h10 a = h7 a by rw [e10', hup_ne (nb a7)]).trans a7
  refine ⟨_, a10, Nat.le_of_ble_eq_true rfl, fun h11 e11 => ?_⟩
  have nc : ∀ {z : Nat} {x : ClassId × vp_A}, h6 z = some (.inl x) → h11 z = some (.inl x) := fun hz => by
    have hz7 := na hz
    rw [e11, hup_ne (fun e => by rw [e, a6] at hz; cases hz), e10', hup_ne (nb hz7)]
    exact hz7
  have l11 : h11 q8 = some (.inr (0, [.int 0, .ref a0, .int (nI 0)])) := by
    rw [e11, hup_ne (Ne.symm (nb a7)), e10']
    exact hup_same
  -- owners
  have q6a : q6 ≠ a ∧ q6 ≠ q2 ∧ q6 ≠ q4 := ⟨Ne.symm (out a (by rw [a5]; exact fun z => by cases z)).1, Ne.symm (out q2 (by rw [b5]; exact fun z => by cases z)).1, Ne.symm (out q4 (by rw [c5]; exact fun z => by cases z)).1⟩
  have oa2 := out a (by rw [a5]; exact fun z => by cases z)
  have ob2 := out q2 (by rw [b5]; exact fun z => by cases z)
  have oc2 := out q4 (by rw [c5]; exact fun z => by cases z)
  have w2 := nb (na b6)
  have w4 := nb (na c6)
  have w6 := nb (na p6)
  have wr := fun i hi => nb (na (r6 i hi))
  let o1 : Nat → Nat := oup (oup (oup (olab own pr (2 * a + 2)) q2 (2 * a + 2)) q4 (2 * a + 2)) q6 (2 * a + 2)
  let o2 : Nat → Nat := oup o1 q8 (2 * a + 3)
  have s8 : o2 q8 = 2 * a + 3 := oup_same
  have s6 : o2 q6 = 2 * a + 2 := (oup_ne w6).trans oup_same
  have s4 : o2 q4 = 2 * a + 2 := (oup_ne w4).trans ((oup_ne (Ne.symm q6a.2.2)).trans oup_same)
  have s2 : o2 q2 = 2 * a + 2 := (oup_ne w2).trans ((oup_ne (Ne.symm q6a.2.1)).trans ((oup_ne d42).trans oup_same))
  have sr : ∀ i, i < 5 → o2 (pr i) = 2 * a + 2 := fun i hi => (oup_ne (wr i hi)).trans ((oup_ne (k6 i hi)).trans ((oup_ne (Ne.symm (oc2.2.1 i hi))).trans ((oup_ne (Ne.symm (ob2.2.1 i hi))).trans (olab_in hi))))
  have sa : o2 a = 2 * a + 2 := (oup_ne (nb a7)).trans ((oup_ne (Ne.symm q6a.1)).trans ((oup_ne d4).trans ((oup_ne d2).trans ((olab_out oa2.2.1).trans oa))))
  refine hK o2 h11 q2 q4 q6 q8 pr ⟨by rw [e11]; exact hup_same, ⟨sa, s2, s4, s6, sr⟩, ⟨d42, fun i hi => ⟨Ne.symm (ob2.2.1 i hi), Ne.symm (oc2.2.1 i hi)⟩, j6⟩, nc b6, nc c6, nc p6, fun i hi => nc (r6 i hi), ⟨s8, Nat.zero_le _, 0, a0, l11, Or.inl ⟨rfl, rfl⟩⟩, (fun x hx => by cases hx), rfl⟩ (fun z hz => ?_)
  have z2 : z ≠ q2 := fun e => hz (by rw [e]; exact n2)
  have y2 : h2 z = h z := by rw [e2, hup_ne z2]
  by_cases za : z = a
  · subst za
    exact ⟨sa.trans oa.symm, by rw [e11, hup_same]; exact (fun z => by cases z), fun hg => absurd (by rw [oa]; omega) hg⟩
  have y3 : h3 z = h z := by rw [e3, hup_ne za]; exact y2
  have z4 : z ≠ q4 := fun e => hz (by rw [← y3, e]; exact n4)
  have y4 : h4 z = h z := by rw [e4, hup_ne z4]; exact y3
  have y5 : h5 z = h z := by rw [e5, hup_ne za]; exact y4
  have o5 := out z (by rw [y5]; exact hz)
  have y6 : h6 z = h z := o5.2.2.trans y5
  have y7 : h7 z = h z := by rw [e7, hup_ne za]; exact y6
  have z8 : z ≠ q8 := fun e => hz (by rw [← y7, e]; exact n8)
  have y11 : h11 z = h z := by rw [e11, hup_ne za, e10', hup_ne z8]; exact y7
  exact ⟨(oup_ne z8).trans ((oup_ne o5.1).trans ((oup_ne z4).trans ((oup_ne z2).trans (olab_out o5.2.1)))), by rw [y11]; exact hz, fun _ => y11⟩
end IN
