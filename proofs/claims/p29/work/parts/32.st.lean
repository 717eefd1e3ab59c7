/-! states of the class over the known heap: groups of cells, kept plans, the state's cells -/
abbrev PL : Type := Nat × List Nat × (Nat → Nat) × Nat × Nat
abbrev DS : Type := (Nat → Nat) × (Nat → Nat) × (Nat → Nat → Nat) × List PL × Nat × (Nat → Nat)
def FrG (g : Nat) (own : Nat → Nat) (h : KH) (own1 : Nat → Nat) (h1 : KH) : Prop := ∀ q : Nat, h q ≠ none → own1 q = own q ∧ h1 q ≠ none ∧ (own q / 2 ≠ g → h1 q = h q)
theorem FrG.refl {g : Nat} {own : Nat → Nat} {h : KH} : FrG g own h own h := fun _ hq => ⟨rfl, hq, fun _ => rfl⟩
theorem FrG.trans {g : Nat} {own own1 own2 : Nat → Nat} {h h1 h2 : KH} (f : FrG g own h own1 h1) (f2 : FrG g own1 h1 own2 h2) : FrG g own h own2 h2 := fun q hq => by
  obtain ⟨a1, a2, a3⟩ := f q hq
  obtain ⟨b1, b2, b3⟩ := f2 q a2
  exact ⟨b1.trans a1, b2, fun hl => (b3 (by rw [a1]; exact hl)).trans (a3 hl)⟩
theorem Fr.g {lab g : Nat} {own own1 : Nat → Nat} {h h1 : KH} (f : Fr lab own h own1 h1) (hg : lab / 2 = g) : FrG g own h own1 h1 := fun q hq => by
  obtain ⟨a1, a2, a3⟩ := f q hq
  exact ⟨a1, a2, fun hl => a3 (fun z => hl (by rw [z]; exact hg))⟩
theorem FrG.new {g : Nat} {own : Nat → Nat} {h : KH} {a lab2 : Nat} {e : va_E} (ha : h a = none) : FrG g own h (oup own a lab2) (hup h a e) := (Fr.new (lab := 2 * g) ha).g (by omega)
theorem FrG.up {g : Nat} {own : Nat → Nat} {h : KH} {a : Nat} {e : va_E} (ha : own a / 2 = g) : FrG g own h own (hup h a e) := fun q hq => by
  by_cases hqa : q = a
  · subst hqa
    exact ⟨rfl, by rw [hup_same]; exact (fun z => by cases z), fun hl => absurd ha hl⟩
  · exact ⟨rfl, by rw [hup_ne hqa]; exact hq, fun _ => hup_ne hqa⟩
theorem FrG.at {g : Nat} {own own1 : Nat → Nat} {h h1 : KH} (f : FrG g own h own1 h1) {q : Nat} {e : va_E} (hq : h q = some e) (hg : own q / 2 ≠ g) : h1 q = some e ∧ own1 q = own q := by
  obtain ⟨a, b, c⟩ := f q (by rw [hq]; exact fun z => by cases z)
  exact ⟨(c hg).trans hq, a⟩
theorem LiS.frg {ct : Nat → ClassId} {a0 lab g : Nat} {own own1 : Nat → Nat} {h h1 : KH} {l : Nat} {ks : List Nat} (hl : LiS ct a0 own lab h l ks) (f : FrG g own h own1 h1) (hne : lab / 2 ≠ g) : LiS ct a0 own1 lab h1 l ks := by
  obtain ⟨o1, hn, mo, el, e1, hr⟩ := hl
  obtain ⟨a1, a2⟩ := f.at e1 (by rw [o1]; exact hne)
  refine ⟨a2.trans o1, hn, mo, el, a1, ?_⟩
  rcases hr with hr | ⟨r1, r2, x, r3, r4⟩
  · exact Or.inl hr
  · obtain ⟨b1, b2⟩ := f.at r3 (by rw [r2]; exact hne)
    exact Or.inr ⟨r1, b2.trans r2, x, b1, r4⟩
/-- a cell of another kind is changed -/
theorem LiS.oth {ct : Nat → ClassId} {a0 lab b : Nat} {own : Nat → Nat} {h : KH} {l : Nat} {ks : List Nat} {e0 e : va_E} (hl : LiS ct a0 own lab h l ks) (hb : h b = some e0) (h1 : ∀ fs, e0 ≠ .inr (0, fs)) (h2 : ∀ f, e0 ≠ .inl (ct 3, 10, .inr (.inr (.inr (.inr f))))) : LiS ct a0 own lab (hup h b e) l ks := by
  obtain ⟨o1, hn, mo, el, e1, hr⟩ := hl
  have n1 : l ≠ b := fun z => by rw [z, hb] at e1; exact h1 _ (Option.some.inj e1)
  refine ⟨o1, hn, mo, el, (hup_ne n1).trans e1, ?_⟩
  rcases hr with hr | ⟨r1, r2, x, r3, r4⟩
  · exact Or.inl hr
  · have n2 : el ≠ b := fun z => by rw [z, hb] at r3; exact h2 _ (Option.some.inj r3)
    exact Or.inr ⟨r1, r2, x, (hup_ne n2).trans r3, r4⟩
theorem va_ne {c c' : ClassId} {n n' : Nat} {f : Nat → Int32} {g : (Nat → Int64) ⊕ _} (z : (Sum.inl (c, n, Sum.inl f) : va_E) = Sum.inl (c', n', Sum.inr g)) : False := by
  have z2 := (Prod.mk.inj (Prod.mk.inj (Sum.inl.inj z)).2).2
  cases z2
def kpF (g : Nat) (p : PL) : List Value := [.int (nI p.1), .int (nI (oct p.2.1)), .ref g, .long (lN p.2.2.2.1), .int (nI p.2.2.2.2)]
def isKp (ct : Nat → ClassId) (own : Nat → Nat) (h : KH) (k : Nat) (p : PL) : Prop := own k = 0 ∧ ∃ g, own g = 0 ∧ h k = some (.inr (1, kpF g p)) ∧ h g = some (.inl (ct 0, 5, .inl (SI p.2.2.1)))
theorem isKp.frg {ct : Nat → ClassId} {own own1 : Nat → Nat} {h h1 : KH} {k g : Nat} {p : PL} (hk : isKp ct own h k p) (f : FrG g own h own1 h1) (hg : g ≠ 0) : isKp ct own1 h1 k p := by
  obtain ⟨o1, q, o2, e1, e2⟩ := hk
  obtain ⟨a1, a2⟩ := f.at e1 (by rw [o1]; omega)
  obtain ⟨b1, b2⟩ := f.at e2 (by rw [o2]; omega)
  exact ⟨a2.trans o1, q, b2.trans o2, a1, b1⟩
def stF (r g p l : Nat) (dl : Nat) (cs : Nat → Nat) : List Value := [.ref r, .ref g, .ref p, .ref l, .int (nI dl), .long (lN (cs 0)), .long (lN (cs 1)), .long (lN (cs 2)), .long (lN (cs 3)), .long (lN (cs 4)), .long (lN (cs 5)), .long (lN (cs 6)), .long (lN (cs 7)), .long (lN (cs 8))]
/-- the cells of a state: r its rows, g its guesses, p its parts with their rows pr, l its list of kept plans -/
def StX (ct : Nat → ClassId) (a0 : Nat) (own : Nat → Nat) (h : KH) (a r g p l : Nat) (pr : Nat → Nat) (kas : List (Nat × PL)) (st : DS) : Prop :=
  h a = some (.inr (5, stF r g p l st.2.2.2.2.1 st.2.2.2.2.2)) ∧ (own a = 2 * a + 2 ∧ own r = 2 * a + 2 ∧ own g = 2 * a + 2 ∧ own p = 2 * a + 2 ∧ ∀ i, i < 5 → own (pr i) = 2 * a + 2) ∧
  (r ≠ g ∧ (∀ i, i < 5 → pr i ≠ r ∧ pr i ≠ g) ∧ ∀ i j, i < 5 → j < 5 → pr i = pr j → i = j) ∧
  h r = some (.inl (ct 0, 5, .inl (SI st.1))) ∧ h g = some (.inl (ct 0, 5, .inl (SI st.2.1))) ∧ h p = some (.inl (ct 4, 5, .inr (.inr (.inr (.inr (fun i => if i < 5 then some (pr i) else none)))))) ∧
  (∀ i, i < 5 → h (pr i) = some (.inl (ct 0, 5, .inl (SI (st.2.2.1 i))))) ∧ LiS ct a0 own (2 * a + 3) h l (kas.map Prod.fst) ∧ (∀ x ∈ kas, isKp ct own h x.1 x.2) ∧ st.2.2.2.1 = kas.map Prod.snd
def isSt (ct : Nat → ClassId) (a0 : Nat) (own : Nat → Nat) (h : KH) (a : Nat) (st : DS) : Prop := ∃ r g p l pr kas, StX ct a0 own h a r g p l pr kas st
section ST
variable {ct : Nat → ClassId} {a0 : Nat} {own own1 : Nat → Nat} {h h1 : KH} {a r g p l : Nat} {pr : Nat → Nat} {kas : List (Nat × PL)} {st : DS}
theorem StX.frg (hs : StX ct a0 own h a r g p l pr kas st) {G : Nat} (f : FrG G own h own1 h1) (hG : G ≠ a + 1) (h0 : G ≠ 0) : StX ct a0 own1 h1 a r g p l pr kas st := by
  obtain ⟨e1, ⟨o1, o2, o3, o4, o5⟩, hd, e2, e3, e4, e5, hl, hk, he⟩ := hs
  have key : ∀ {q : Nat} {e : va_E}, h q = some e → own q = 2 * a + 2 → h1 q = some e ∧ own1 q = 2 * a + 2 := fun hq ho => by
    obtain ⟨x, y⟩ := f.at hq (by rw [ho]; omega)
    exact ⟨x, y.trans ho⟩
  obtain ⟨a1, b1⟩ := key e1 o1
  obtain ⟨a2, b2⟩ := key e2 o2
  obtain ⟨a3, b3⟩ := key e3 o3
  obtain ⟨a4, b4⟩ := key e4 o4
  exact ⟨a1, ⟨b1, b2, b3, b4, fun i hi => (key (e5 i hi) (o5 i hi)).2⟩, hd, a2, a3, a4, fun i hi => (key (e5 i hi) (o5 i hi)).1, hl.frg f (by omega), fun x hx => (hk x hx).frg f h0, he⟩
theorem isSt.frg (hs : isSt ct a0 own h a st) {G : Nat} (f : FrG G own h own1 h1) (hG : G ≠ a + 1) (h0 : G ≠ 0) : isSt ct a0 own1 h1 a st := by
  obtain ⟨r, g, p, l, pr, kas, hs⟩ := hs
  exact ⟨r, g, p, l, pr, kas, hs.frg f hG h0⟩
/-- its object is written -/
theorem StX.obj (hs : StX ct a0 own h a r g p l pr kas st) (dl : Nat) (cs : Nat → Nat) : StX ct a0 own (hup h a (.inr (5, stF r g p l dl cs))) a r g p l pr kas (st.1, st.2.1, st.2.2.1, st.2.2.2.1, dl, cs) ∧ FrG (a + 1) own h own (hup h a (.inr (5, stF r g p l dl cs))) := by
  obtain ⟨e1, ⟨o1, o2, o3, o4, o5⟩, hd, e2, e3, e4, e5, hl, hk, he⟩ := hs
  have f : FrG (a + 1) own h own (hup h a (.inr (5, stF r g p l dl cs))) := FrG.up (by rw [o1]; omega)
  have ne : ∀ {q : Nat} {x : ClassId × vp_A}, h q = some (.inl x) → q ≠ a := fun hq z => by rw [z, e1] at hq; cases hq
  refine ⟨⟨hup_same, ⟨o1, o2, o3, o4, o5⟩, hd, (hup_ne (ne e2)).trans e2, (hup_ne (ne e3)).trans e3, (hup_ne (ne e4)).trans e4, fun i hi => (hup_ne (ne (e5 i hi))).trans (e5 i hi), hl.oth e1 (fun fs z => by cases z) (fun fs z => by cases z), fun x hx => ?_, he⟩, f⟩
  obtain ⟨w1, q, w2, w3, w4⟩ := hk x hx
  exact ⟨w1, q, w2, (hup_ne (fun z => by rw [z, o1] at w1; omega)).trans w3, (hup_ne (fun z => by rw [z, o1] at w2; omega)).trans w4⟩
/-- one of its arrays is written -/
theorem StX.rows (hs : StX ct a0 own h a r g p l pr kas st) (v : Nat → Nat) : StX ct a0 own (hup h r (.inl (ct 0, 5, .inl (SI v)))) a r g p l pr kas (v, st.2) ∧ FrG (a + 1) own h own (hup h r (.inl (ct 0, 5, .inl (SI v)))) := by
  obtain ⟨e1, ⟨o1, o2, o3, o4, o5⟩, ⟨d1, d2, d3⟩, e2, e3, e4, e5, hl, hk, he⟩ := hs
  refine ⟨⟨(hup_ne (fun z => by rw [z, e2] at e1; cases e1)).trans e1, ⟨o1, o2, o3, o4, o5⟩, ⟨d1, d2, d3⟩, hup_same, (hup_ne (Ne.symm d1)).trans e3, (hup_ne (fun z => by rw [z, e2] at e4; exact va_ne (Option.some.inj e4))).trans e4, fun i hi => (hup_ne (d2 i hi).1).trans (e5 i hi), hl.oth e2 (fun fs z => by cases z) (fun fs z => va_ne z), fun x hx => ?_, he⟩, FrG.up (by rw [o2]; omega)⟩
  obtain ⟨w1, q, w2, w3, w4⟩ := hk x hx
  exact ⟨w1, q, w2, (hup_ne (fun z => by rw [z, o2] at w1; omega)).trans w3, (hup_ne (fun z => by rw [z, o2] at w2; omega)).trans w4⟩
theorem StX.gues (hs : StX ct a0 own h a r g p l pr kas st) (v : Nat → Nat) : StX ct a0 own (hup h g (.inl (ct 0, 5, .inl (SI v)))) a r g p l pr kas (st.1, v, st.2.2) ∧ FrG (a + 1) own h own (hup h g (.inl (ct 0, 5, .inl (SI v)))) := by
  obtain ⟨e1, ⟨o1, o2, o3, o4, o5⟩, ⟨d1, d2, d3⟩, e2, e3, e4, e5, hl, hk, he⟩ := hs
  refine ⟨⟨(hup_ne (fun z => by rw [z, e3] at e1; cases e1)).trans e1, ⟨o1, o2, o3, o4, o5⟩, ⟨d1, d2, d3⟩, (hup_ne d1).trans e2, hup_same, (hup_ne (fun z => by rw [z, e3] at e4; exact va_ne (Option.some.inj e4))).trans e4, fun i hi => (hup_ne (d2 i hi).2).trans (e5 i hi), hl.oth e3 (fun fs z => by cases z) (fun fs z => va_ne z), fun x hx => ?_, he⟩, FrG.up (by rw [o3]; omega)⟩
  obtain ⟨w1, q, w2, w3, w4⟩ := hk x hx
  exact ⟨w1, q, w2, (hup_ne (fun z => by rw [z, o3] at w1; omega)).trans w3, (hup_ne (fun z => by rw [z, o3] at w2; omega)).trans w4⟩
theorem StX.part (hs : StX ct a0 own h a r g p l pr kas st) {i : Nat} (hi : i < 5) (v : Nat → Nat) : StX ct a0 own (hup h (pr i) (.inl (ct 0, 5, .inl (SI v)))) a r g p l pr kas (st.1, st.2.1, (fun j => if j = i then v else st.2.2.1 j), st.2.2.2) ∧ FrG (a + 1) own h own (hup h (pr i) (.inl (ct 0, 5, .inl (SI v)))) := by
  obtain ⟨e1, ⟨o1, o2, o3, o4, o5⟩, ⟨d1, d2, d3⟩, e2, e3, e4, e5, hl, hk, he⟩ := hs
  have ei := e5 i hi
  have oi := o5 i hi
  refine ⟨⟨(hup_ne (fun z => by rw [z, ei] at e1; cases e1)).trans e1, ⟨o1, o2, o3, o4, o5⟩, ⟨d1, d2, d3⟩, (hup_ne (Ne.symm (d2 i hi).1)).trans e2, (hup_ne (Ne.symm (d2 i hi).2)).trans e3, (hup_ne (fun z => by rw [z, ei] at e4; exact va_ne (Option.some.inj e4))).trans e4, fun j hj => ?_, hl.oth ei (fun fs z => by cases z) (fun fs z => va_ne z), fun x hx => ?_, he⟩, FrG.up (by rw [oi]; omega)⟩
  · by_cases hji : j = i
    · subst hji
      rw [hup_same]
      show _ = some (Sum.inl (ct 0, 5, Sum.inl (SI (if j = j then v else _))))
      rw [if_pos rfl]
    · rw [hup_ne (fun z => hji (d3 j i hj hi z)), e5 j hj]
      show _ = some (Sum.inl (ct 0, 5, Sum.inl (SI (if j = i then v else _))))
      rw [if_neg hji]
  · obtain ⟨w1, q, w2, w3, w4⟩ := hk x hx
    exact ⟨w1, q, w2, (hup_ne (fun z => by rw [z, oi] at w1; omega)).trans w3, (hup_ne (fun z => by rw [z, oi] at w2; omega)).trans w4⟩
/-- its list is changed -/
theorem StX.list (hs : StX ct a0 own h a r g p l pr kas st) (f : Fr (2 * a + 3) own h own1 h1) {kas1 : List (Nat × PL)} (hl : LiS ct a0 own1 (2 * a + 3) h1 l (kas1.map Prod.fst)) (hk1 : ∀ x ∈ kas1, x ∈ kas ∨ isKp ct own h x.1 x.2) : StX ct a0 own1 h1 a r g p l pr kas1 (st.1, st.2.1, st.2.2.1, kas1.map Prod.snd, st.2.2.2.2) ∧ FrG (a + 1) own h own1 h1 := by
  obtain ⟨e1, ⟨o1, o2, o3, o4, o5⟩, hd, e2, e3, e4, e5, -, hk, he⟩ := hs
  have key : ∀ {q : Nat} {e : va_E}, h q = some e → own q ≠ 2 * a + 3 → h1 q = some e ∧ own1 q = own q := fun hq ho => by
    obtain ⟨x, y, z⟩ := f _ (by rw [hq]; exact fun z => by cases z)
    exact ⟨(z ho).trans hq, x⟩
  obtain ⟨a1, b1⟩ := key e1 (by omega)
  obtain ⟨a2, b2⟩ := key e2 (by omega)
  obtain ⟨a3, b3⟩ := key e3 (by omega)
  obtain ⟨a4, b4⟩ := key e4 (by omega)
  refine ⟨⟨a1, ⟨b1.trans o1, b2.trans o2, b3.trans o3, b4.trans o4, fun i hi => (key (e5 i hi) (by rw [o5 i hi]; omega)).2.trans (o5 i hi)⟩, hd, a2, a3, a4, fun i hi => (key (e5 i hi) (by rw [o5 i hi]; omega)).1, hl, fun x hx => ?_, rfl⟩, f.g (by omega)⟩
  have hx1 : isKp ct own h x.1 x.2 := (hk1 x hx).elim (hk x) id
  obtain ⟨w1, q, w2, w3, w4⟩ := hx1
  obtain ⟨c1, c2⟩ := key w3 (by omega)
  obtain ⟨c3, c4⟩ := key w4 (by omega)
  exact ⟨c2.trans w1, q, c4.trans w2, c1, c3⟩
end ST
