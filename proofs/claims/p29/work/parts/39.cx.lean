/-! the object over the known heap: its states, its history, its reckoner, its pad -/
abbrev AS : Type := DS × Option DS × List DS × (Nat → Nat) × Nat × Option (Nat × Nat)
def sdI (s : Option (Nat × Nat)) : Int32 := match s with
  | none => -1
  | some x => nI x.1
def spI (s : Option (Nat × Nat)) : Int32 := match s with
  | none => -1
  | some x => nI x.2
def RkX (ct : Nat → ClassId) (own : Nat → Nat) (h : KH) (lab rk b1 b2 b3 : Nat) (P LC : Nat → Int64) (BO : Nat → Int32) : Prop :=
  (own rk = lab ∧ own b1 = lab ∧ own b2 = lab ∧ own b3 = lab) ∧ h rk = some (.inr (4, [.ref b1, .ref b2, .ref b3])) ∧ h b1 = some (.inl (ct 1, 32, .inr (.inl P))) ∧ h b2 = some (.inl (ct 1, 32, .inr (.inl LC))) ∧ h b3 = some (.inl (ct 0, 32, .inl BO)) ∧ b1 ≠ b2 ∧ P 0 = 1 ∧ LC 0 = 0 ∧ BO 0 = 0
def PdX (ct : Nat → ClassId) (own : Nat → Nat) (h : KH) (lab pd sg : Nat) (SIG : Nat → Int32) (sgn : Nat → Nat) (len : Nat) : Prop :=
  (own pd = lab ∧ own sg = lab) ∧ h pd = some (.inr (2, [.ref sg, .int (nI len)])) ∧ h sg = some (.inl (ct 2, 60, .inl SIG)) ∧ len ≤ 60 ∧ ∀ i, i < len → SIG i = nI (sgn i) ∧ 33 ≤ sgn i ∧ sgn i ≤ 126
def axF (nw : Nat) (snO : Option Nat) (hl rk pd : Nat) (s : Option (Nat × Nat)) : List Value := [.ref nw, va_rf snO, .ref hl, .ref rk, .ref pd, .int (sdI s), .int (spI s)]
def SnX (ct : Nat → ClassId) (a0 : Nat) (own : Nat → Nat) (h : KH) (nw : Nat) (snO : Option Nat) (sn : Option DS) : Prop := (snO = none ∧ sn = none) ∨ ∃ a d, snO = some a ∧ sn = some d ∧ isSt ct a0 own h a d ∧ a ≠ nw
def CX (ct : Nat → ClassId) (a0 : Nat) (own : Nat → Nat) (h : KH) (ax nw : Nat) (snO : Option Nat) (hl : Nat) (hks : List (Nat × DS)) (rk b1 b2 b3 pd sg : Nat) (P LC : Nat → Int64) (BO SIG : Nat → Int32) (A : AS) : Prop :=
  h ax = some (.inr (6, axF nw snO hl rk pd A.2.2.2.2.2)) ∧ own ax = 2 * ax + 2 ∧ RkX ct own h (2 * ax + 2) rk b1 b2 b3 P LC BO ∧ PdX ct own h (2 * ax + 2) pd sg SIG A.2.2.2.1 A.2.2.2.2.1 ∧ isSt ct a0 own h nw A.1 ∧ SnX ct a0 own h nw snO A.2.1 ∧
  LiS ct a0 own (2 * ax + 3) h hl (hks.map Prod.fst) ∧ (∀ x ∈ hks, isSt ct a0 own h x.1 x.2 ∧ x.1 ≠ nw ∧ snO ≠ some x.1) ∧ (hks.map Prod.fst).Nodup ∧ A.2.2.1 = hks.map Prod.snd
def isCx (ct : Nat → ClassId) (a0 : Nat) (own : Nat → Nat) (h : KH) (ax : Nat) (A : AS) : Prop := ∃ nw snO hl hks rk b1 b2 b3 pd sg P LC BO SIG, CX ct a0 own h ax nw snO hl hks rk b1 b2 b3 pd sg P LC BO SIG A
section CXS
variable {ct : Nat → ClassId} {a0 : Nat} {own own1 : Nat → Nat} {h h1 : KH} {ax nw : Nat} {snO : Option Nat} {hl : Nat} {hks : List (Nat × DS)} {rk b1 b2 b3 pd sg : Nat} {P LC : Nat → Int64} {BO SIG : Nat → Int32} {A : AS}
theorem isSt.obj {a : Nat} {d : DS} (hs : isSt ct a0 own h a d) : ∃ fs, h a = some (.inr (5, fs)) := by
  obtain ⟨r, g, p, l, pr, kas, hs⟩ := hs
  exact ⟨_, hs.1⟩
theorem RkX.frg {lab G : Nat} (hr : RkX ct own h lab rk b1 b2 b3 P LC BO) (f : FrG G own h own1 h1) (hG : lab / 2 ≠ G) : RkX ct own1 h1 lab rk b1 b2 b3 P LC BO := by
  obtain ⟨⟨o1, o2, o3, o4⟩, e1, e2, e3, e4, rest⟩ := hr
  have key : ∀ {q : Nat} {e : va_E}, h q = some e → own q = lab → h1 q = some e ∧ own1 q = lab := fun hq ho => by
    obtain ⟨x, y⟩ := f.at hq (by rw [ho]; exact hG)
    exact ⟨x, y.trans ho⟩
  exact ⟨⟨(key e1 o1).2, (key e2 o2).2, (key e3 o3).2, (key e4 o4).2⟩, (key e1 o1).1, (key e2 o2).1, (key e3 o3).1, (key e4 o4).1, rest⟩
theorem PdX.frg {lab G len : Nat} {sgn : Nat → Nat} (hr : PdX ct own h lab pd sg SIG sgn len) (f : FrG G own h own1 h1) (hG : lab / 2 ≠ G) : PdX ct own1 h1 lab pd sg SIG sgn len := by
  obtain ⟨⟨o1, o2⟩, e1, e2, rest⟩ := hr
  have key : ∀ {q : Nat} {e : va_E}, h q = some e → own q = lab → h1 q = some e ∧ own1 q = lab := fun hq ho => by
    obtain ⟨x, y⟩ := f.at hq (by rw [ho]; exact hG)
    exact ⟨x, y.trans ho⟩
  exact ⟨⟨(key e1 o1).2, (key e2 o2).2⟩, (key e1 o1).1, (key e2 o2).1, rest⟩
theorem SnX.frg {G : Nat} {sn : Option DS} (hs : SnX ct a0 own h nw snO sn) (f : FrG G own h own1 h1) (hG : ∀ a, snO = some a → G ≠ a + 1) (h0 : G ≠ 0) : SnX ct a0 own1 h1 nw snO sn := by
  rcases hs with hs | ⟨a, d, e1, e2, e3, e4⟩
  · exact Or.inl hs
  · exact Or.inr ⟨a, d, e1, e2, e3.frg f (hG a e1) h0, e4⟩
/-- the group G is nobody's -/
theorem CX.fr (hc : CX ct a0 own h ax nw snO hl hks rk b1 b2 b3 pd sg P LC BO SIG A) {G : Nat} (f : FrG G own h own1 h1) (h0 : G ≠ 0) (g1 : G ≠ ax + 1) (g2 : G ≠ nw + 1) (g3 : ∀ a, snO = some a → G ≠ a + 1) (g4 : ∀ x ∈ hks, G ≠ x.1 + 1) : CX ct a0 own1 h1 ax nw snO hl hks rk b1 b2 b3 pd sg P LC BO SIG A := by
  obtain ⟨c1, c2, c3, c4, c5, c6, c7, c8, c9⟩ := hc
  obtain ⟨d1, d2⟩ := f.at c1 (by rw [c2]; omega)
  exact ⟨d1, d2.trans c2, c3.frg f (by omega), c4.frg f (by omega), c5.frg f g2 h0, c6.frg f g3 h0, c7.frg f (by omega), fun x hx => ⟨(c8 x hx).1.frg f (g4 x hx) h0, (c8 x hx).2⟩, c9⟩
/-- a fresh group -/
theorem CX.new (hc : CX ct a0 own h ax nw snO hl hks rk b1 b2 b3 pd sg P LC BO SIG A) {q : Nat} (hq : h q = none) (f : FrG (q + 1) own h own1 h1) : CX ct a0 own1 h1 ax nw snO hl hks rk b1 b2 b3 pd sg P LC BO SIG A := by
  have key : ∀ {z : Nat} {e : va_E}, h z = some e → q + 1 ≠ z + 1 := fun {z} {_} hz e => by rw [show z = q by omega, hq] at hz; cases hz
  have hcc := hc
  obtain ⟨c1, c2, c3, c4, c5, c6, c7, c8, c9⟩ := hc
  obtain ⟨_, e5⟩ := c5.obj
  refine hcc.fr f (by omega) (key c1) (key e5) (fun a ea => ?_) (fun x hx => ?_)
  · rcases c6 with ⟨z, -⟩ | ⟨a', d, z1, z2, z3, z4⟩
    · rw [z] at ea; cases ea
    · rw [z1] at ea; cases ea
      obtain ⟨_, e6⟩ := z3.obj
      exact key e6
  · obtain ⟨_, e6⟩ := (c8 x hx).1.obj
    exact key e6
theorem CX.nwax (hc : CX ct a0 own h ax nw snO hl hks rk b1 b2 b3 pd sg P LC BO SIG A) : nw ≠ ax := fun z => by
  obtain ⟨_, e⟩ := hc.2.2.2.2.1.obj
  rw [z, hc.1] at e
  cases e
/-- the state of now is changed -/
theorem CX.now (hc : CX ct a0 own h ax nw snO hl hks rk b1 b2 b3 pd sg P LC BO SIG A) (f : FrG (nw + 1) own h own1 h1) {d : DS} (hd : isSt ct a0 own1 h1 nw d) : CX ct a0 own1 h1 ax nw snO hl hks rk b1 b2 b3 pd sg P LC BO SIG (d, A.2) := by
  have hne := hc.nwax
  obtain ⟨c1, c2, c3, c4, c5, c6, c7, c8, c9⟩ := hc
  obtain ⟨d1, d2⟩ := f.at c1 (by rw [c2]; omega)
  refine ⟨d1, d2.trans c2, c3.frg f (by omega), c4.frg f (by omega), hd, c6.frg f (fun a ea => ?_) (by omega), c7.frg f (by omega), fun x hx => ⟨(c8 x hx).1.frg f (by have := (c8 x hx).2.1; omega) (by omega), (c8 x hx).2⟩, c9⟩
  rcases c6 with ⟨z, -⟩ | ⟨a', d', z1, z2, z3, z4⟩
  · rw [z] at ea; cases ea
  · rw [z1] at ea; cases ea; omega
/-- cells of the object's own group are changed, its states are not -/
theorem CX.ow (hc : CX ct a0 own h ax nw snO hl hks rk b1 b2 b3 pd sg P LC BO SIG A) (f : FrG (ax + 1) own h own1 h1) : isSt ct a0 own1 h1 nw A.1 ∧ SnX ct a0 own1 h1 nw snO A.2.1 ∧ ∀ x ∈ hks, isSt ct a0 own1 h1 x.1 x.2 ∧ x.1 ≠ nw ∧ snO ≠ some x.1 := by
  have hne := hc.nwax
  obtain ⟨c1, c2, c3, c4, c5, c6, c7, c8, c9⟩ := hc
  have key : ∀ {a d}, isSt ct a0 own h a d → ax + 1 ≠ a + 1 := fun {a} {_} hs z => by
    obtain ⟨_, e⟩ := hs.obj
    rw [show a = ax by omega, c1] at e
    cases e
  refine ⟨c5.frg f (by omega) (by omega), c6.frg f (fun a ea => ?_) (by omega), fun x hx => ⟨(c8 x hx).1.frg f (key (c8 x hx).1) (by omega), (c8 x hx).2⟩⟩
  rcases c6 with ⟨z, -⟩ | ⟨a', d', z1, z2, z3, z4⟩
  · rw [z] at ea; cases ea
  · rw [z1] at ea; cases ea; exact key z3
theorem CX.nowR (hc : CX ct a0 own h ax nw snO hl hks rk b1 b2 b3 pd sg P LC BO SIG A) {K : Nat → Prop} (hK : K nw) : rdR h ax 6 0 K := ⟨_, _, hc.1, rfl, hK⟩
theorem CX.hisR (hc : CX ct a0 own h ax nw snO hl hks rk b1 b2 b3 pd sg P LC BO SIG A) {K : Nat → Prop} (hK : K hl) : rdR h ax 6 2 K := ⟨_, _, hc.1, rfl, hK⟩
theorem CX.rkR (hc : CX ct a0 own h ax nw snO hl hks rk b1 b2 b3 pd sg P LC BO SIG A) {K : Nat → Prop} (hK : K rk) : rdR h ax 6 3 K := ⟨_, _, hc.1, rfl, hK⟩
theorem CX.pdR (hc : CX ct a0 own h ax nw snO hl hks rk b1 b2 b3 pd sg P LC BO SIG A) {K : Nat → Prop} (hK : K pd) : rdR h ax 6 4 K := ⟨_, _, hc.1, rfl, hK⟩
theorem CX.o (hc : CX ct a0 own h ax nw snO hl hks rk b1 b2 b3 pd sg P LC BO SIG A) {K : Prop} (hK : K) : isO h ax 6 K := ⟨⟨_, hc.1⟩, hK⟩
/-- the object's fields are written: another state of now, another snapshot, another stop -/
theorem CX.obj (hc : CX ct a0 own h ax nw snO hl hks rk b1 b2 b3 pd sg P LC BO SIG A) {nw' : Nat} {snO' : Option Nat} {now' : DS} {sn' : Option DS} {s' : Option (Nat × Nat)} (g1 : isSt ct a0 own h nw' now') (g2 : SnX ct a0 own h nw' snO' sn') (g3 : ∀ x ∈ hks, x.1 ≠ nw' ∧ snO' ≠ some x.1) : CX ct a0 own (hup h ax (.inr (6, axF nw' snO' hl rk pd s'))) ax nw' snO' hl hks rk b1 b2 b3 pd sg P LC BO SIG (now', sn', A.2.2.1, A.2.2.2.1, A.2.2.2.2.1, s') := by
  obtain ⟨c1, c2, c3, c4, c5, c6, c7, c8, c9⟩ := hc
  have f : FrG (ax + 1) own h own (hup h ax (.inr (6, axF nw' snO' hl rk pd s'))) := FrG.up (by rw [c2]; omega)
  have key : ∀ {a d}, isSt ct a0 own h a d → ax + 1 ≠ a + 1 := fun {a} {_} hs z => by
    obtain ⟨_, e⟩ := hs.obj
    rw [show a = ax by omega, c1] at e
    cases e
  have n1 : ∀ {z : Nat} {x : ClassId × vp_A}, h z = some (.inl x) → hup h ax (.inr (6, axF nw' snO' hl rk pd s')) z = some (.inl x) := fun hz => (hup_ne (fun e => by rw [e, c1] at hz; cases hz)).trans hz
  obtain ⟨q1, q2, q3, q4, q5, q6⟩ := c3
  obtain ⟨w1, w2, w3, w4⟩ := c4
  refine ⟨hup_same, c2, ⟨q1, (hup_ne (fun e => by rw [e, c1] at q2; cases q2)).trans q2, n1 q3, n1 q4, n1 q5, q6⟩, ⟨w1, (hup_ne (fun e => by rw [e, c1] at w2; cases w2)).trans w2, n1 w3, w4⟩, g1.frg f (key g1) (by omega), g2.frg f (fun a ea => ?_) (by omega), c7.oth c1 (fun fs z => by cases z) (fun fs z => by cases z), fun x hx => ⟨(c8 x hx).1.frg f (key (c8 x hx).1) (by omega), g3 x hx⟩, c9⟩
  rcases g2 with ⟨z, -⟩ | ⟨a', d', z1, z2, z3, z4⟩
  · rw [z] at ea; cases ea
  · rw [z1] at ea; cases ea; exact key z3
end CXS
