/-! remembering, reckoning -/
def pushH (l : List DS) (d : DS) : List DS := if l.length ≤ 3 then l ++ [d] else (l ++ [d]).eraseIdx 0
section CY
variable {ct : Nat → ClassId} {a0 : Nat} {own own1 : Nat → Nat} {h h1 : KH} {ax nw : Nat} {snO : Option Nat} {hl : Nat} {hks : List (Nat × DS)} {rk b1 b2 b3 pd sg : Nat} {P LC : Nat → Int64} {BO SIG : Nat → Int32} {A : AS}
/-- its history is changed -/
theorem CX.his (hc : CX ct a0 own h ax nw snO hl hks rk b1 b2 b3 pd sg P LC BO SIG A) (f : Fr (2 * ax + 3) own h own1 h1) {hks1 : List (Nat × DS)} (hL : LiS ct a0 own1 (2 * ax + 3) h1 hl (hks1.map Prod.fst)) (g3 : ∀ x ∈ hks1, x ∈ hks ∨ (isSt ct a0 own h x.1 x.2 ∧ x.1 ≠ nw ∧ snO ≠ some x.1)) (hn : (hks1.map Prod.fst).Nodup) : CX ct a0 own1 h1 ax nw snO hl hks1 rk b1 b2 b3 pd sg P LC BO SIG (A.1, A.2.1, hks1.map Prod.snd, A.2.2.2) := by
  obtain ⟨i1, i2, i3⟩ := hc.ow (f.g (by omega))
  obtain ⟨c1, c2, c3, c4, c5, c6, c7, c8, c9, c10⟩ := hc
  have key : ∀ {q : Nat} {e : va_E}, h q = some e → own q = 2 * ax + 2 → h1 q = some e ∧ own1 q = 2 * ax + 2 := fun {q} {_} hq ho => by
    obtain ⟨x, y, z⟩ := f q (by rw [hq]; exact fun z => by cases z)
    exact ⟨(z (by omega)).trans hq, x.trans ho⟩
  obtain ⟨⟨o1, o2, o3, o4⟩, e1, e2, e3, e4, rest⟩ := c3
  obtain ⟨⟨p1, p2⟩, w1, w2, w3⟩ := c4
  refine ⟨(key c1 c2).1, (key c1 c2).2, ⟨⟨(key e1 o1).2, (key e2 o2).2, (key e3 o3).2, (key e4 o4).2⟩, (key e1 o1).1, (key e2 o2).1, (key e3 o3).1, (key e4 o4).1, rest⟩, ⟨⟨(key w1 p1).2, (key w2 p2).2⟩, (key w1 p1).1, (key w2 p2).1, w3⟩, i1, i2, hL, fun x hx => ?_, hn, rfl⟩
  rcases g3 x hx with hx | ⟨y1, y2, y3⟩
  · exact i3 x hx
  · refine ⟨y1.frg (f.g (g := ax + 1) (by omega)) (fun z => ?_) (by omega), y2, y3⟩
    obtain ⟨_, e⟩ := y1.obj
    rw [show x.1 = ax by omega, c1] at e
    cases e
theorem nodup_erase {l : List Nat} (h : l.Nodup) : ∀ (i : Nat), (l.eraseIdx i).Nodup := fun i => by
  induction l generalizing i with
  | nil => exact h
  | cons x l ih =>
    obtain ⟨h1, h2⟩ := List.nodup_cons.mp h
    cases i with
    | zero => exact h2
    | succ i => exact List.nodup_cons.mpr ⟨fun z => h1 (mem_erase z), ih h2 i⟩
theorem p_remember (hc : CX ct a0 own h ax nw snO hl hks rk b1 b2 b3 pd sg P LC BO SIG A) (hS : SOK A.1) (hZ : ZOK A.1) (h4 : A.2.2.1.length ≤ 4) {Post : Unit → KH → Prop} (hP : ∀ own1 h1 hks1, CX ct a0 own1 h1 ax nw snO hl hks1 rk b1 b2 b3 pd sg P LC BO SIG (A.1, A.2.1, pushH A.2.2.1 A.1, A.2.2.2) → Post () h1) : g_X5_remember ct a0 ax h Post := by
  unfold g_X5_remember
  have e10 : A.2.2.1 = hks.map Prod.snd := hc.2.2.2.2.2.2.2.2.2
  have el : A.2.2.1.length = hks.length := by rw [e10, List.length_map]
  refine hc.hisR (fun q h2 hq e2 => ?_)
  have hc2 : CX ct a0 (oup own q (2 * q + 2)) h2 ax nw snO hl hks rk b1 b2 b3 pd sg P LC BO SIG A := hc.new hq (by rw [e2]; exact FrG.new hq)
  refine hc2.nowR ?_
  have hst2 := hc2.2.2.2.2.1
  have nq : ∀ {z : Nat} {e : va_E}, h z = some e → q ≠ z := fun {z} {_} hz e => by rw [← e, hq] at hz; cases hz
  have qnw : q ≠ nw := by
    obtain ⟨_, e⟩ := hc.2.2.2.2.1.obj
    exact nq e
  refine p_stCopy (b := nw) (by rw [e2]; exact hup_same) oup_same hst2 qnw hZ hS.2.2.2.2.1 (fun own3 h3 hs3 f3 => ?_)
  have hc3 : CX ct a0 own3 h3 ax nw snO hl hks rk b1 b2 b3 pd sg P LC BO SIG A := hc2.fr f3 (by omega) (by have := nq hc.1; omega) (by omega) (fun a ea => by
      rcases hc.2.2.2.2.2.1 with ⟨z, -⟩ | ⟨a', d', z1, z2, z3, z4⟩
      · rw [z] at ea; cases ea
      · rw [z1] at ea; cases ea
        obtain ⟨_, e⟩ := z3.obj
        have := nq e
        omega) (fun x hx => by
      obtain ⟨_, e⟩ := (hc.2.2.2.2.2.2.2.1 x hx).1.obj
      have := nq e
      omega)
  obtain ⟨fs3, e3⟩ := hs3.obj
  have hL3 := hc3.2.2.2.2.2.2.1
  refine ⟨hL3.obj, p_add (ci := 5) hL3 (by rw [List.length_map]; omega) ⟨_, e3⟩ (Or.inr rfl) (fun own4 h5 hL4 f4 => ?_)⟩
  have qsn : snO ≠ some q := fun z => by
    rcases hc.2.2.2.2.2.1 with ⟨w, -⟩ | ⟨a', d', z1, z2, z3, z4⟩
    · rw [w] at z; cases z
    · rw [z1] at z; cases z
      obtain ⟨_, e⟩ := z3.obj
      exact nq e rfl
  have hc4 := hc3.his f4 (hks1 := hks ++ [(q, A.1)]) (by rw [List.map_append]; exact hL4) (fun x hx => by
    rcases List.mem_append.mp hx with hx | hx
    · exact Or.inl hx
    · rw [List.mem_singleton.mp hx]
      exact Or.inr ⟨hs3, qnw, qsn⟩) (by
    rw [List.map_append]
    refine List.nodup_append.mpr ⟨hc.2.2.2.2.2.2.2.2.1, by simp, fun a ha b hb z => ?_⟩
    obtain ⟨x, hx, ex⟩ := List.mem_map.mp ha
    have hb1 : b = q := by simpa using hb
    obtain ⟨_, e⟩ := (hc.2.2.2.2.2.2.2.1 x hx).1.obj
    exact nq e (by omega))
  have hL5 := hc4.2.2.2.2.2.2.1
  refine hc4.hisR ⟨hL5.obj, p_size hL5 ?_⟩
  rw [List.length_map, List.length_append]
  show if nI (hks.length + 1) ≤ (4 : Int32) then _ else _
  unfold pushH at hP
  rw [List.map_append, ← e10] at hc4
  by_cases q3 : A.2.2.1.length ≤ 3
  · rw [if_pos q3] at hP
    rw [if_pos (show nI (hks.length + 1) ≤ (4 : Int32) from nI_le (b := 4) (by omega) (by decide))]
    exact hP _ _ _ hc4
  · rw [if_neg q3] at hP
    rw [if_neg (show ¬ nI (hks.length + 1) ≤ (4 : Int32) from nI_ge (a := 4) (by omega) (by omega))]
    refine hc4.hisR ⟨hL5.obj, ?_⟩
    have hlen : (hks ++ [(q, A.1)]).length = hks.length + 1 := by rw [List.length_append]; rfl
    have hi : (hks ++ [(q, A.1)])[0]? = some (hks ++ [(q, A.1)])[0] := List.getElem?_eq_getElem (by omega)
    refine p_remove (ci := 5) (i := 0) hL5 (by rw [List.getElem?_map, hi]; rfl) (fun k hk => ?_) (Or.inr rfl) (fun h6 hL6 f6 => ?_)
    · obtain ⟨y, hy, e⟩ := List.mem_map.mp hk
      rw [← e]
      exact (hc4.2.2.2.2.2.2.2.1 y hy).1.obj
    · have hc6 := hc4.his f6 (hks1 := (hks ++ [(q, A.1)]).eraseIdx 0) (by rw [← map_erase]; exact hL6) (fun x hx => Or.inl (mem_erase hx)) (by rw [← map_erase]; exact nodup_erase hc4.2.2.2.2.2.2.2.2.1 0)
      rw [← map_erase, List.map_append, ← e10] at hc6
      exact hP _ _ _ hc6
def qwo (rk b1 b2 b3 : Nat) (m : Nat) (q : Nat) (pr : Nat → Nat) : Nat → Nat := fun i => if i = 0 then rk else if i = 1 then b1 else if i = 2 then b2 else if i = 3 then b3 else if i = 4 then m else if i = 5 then q else pr (i - 6)
theorem RkX.qw {lab : Nat} (hr : RkX ct own h lab rk b1 b2 b3 P LC BO) : inW h (QW (qwo rk b1 b2 b3 0 0 (fun _ => 0)) ct P LC BO) := by
  obtain ⟨-, e1, e2, e3, e4, e5, -⟩ := hr
  have n1 : rk ≠ b1 := fun z => by rw [z, e2] at e1; cases e1
  have n2 : rk ≠ b2 := fun z => by rw [z, e3] at e1; cases e1
  have n3 : rk ≠ b3 := fun z => by rw [z, e4] at e1; cases e1
  have n4 : b1 ≠ b3 := fun z => by rw [z, e4] at e2; exact va_ne (Option.some.inj e2)
  have n5 : b2 ≠ b3 := fun z => by rw [z, e4] at e3; exact va_ne (Option.some.inj e3)
  refine ⟨fun a e hm => ?_, ?_⟩
  · simp only [List.mem_cons, Prod.mk.injEq, List.not_mem_nil, or_false] at hm
    rcases hm with ⟨x, y⟩ | ⟨x, y⟩ | ⟨x, y⟩ | ⟨x, y⟩
    · rw [x, y]; exact e1
    · rw [x, y]; exact e2
    · rw [x, y]; exact e3
    · rw [x, y]; exact e4
  · show [rk, b1, b2, b3].Nodup
    simp only [List.nodup_cons, List.mem_cons, List.not_mem_nil, or_false, not_or, List.nodup_nil, and_true, not_false_eq_true]
    exact ⟨⟨n1, n2, n3⟩, ⟨e5, n4⟩, n5⟩
theorem p_reckonX (hc : CX ct a0 own h ax nw snO hl hks rk b1 b2 b3 pd sg P LC BO SIG A) {r g p l : Nat} {pr : Nat → Nat} {kas : List (Nat × PL)} (hs : StX ct a0 own h nw r g p l pr kas A.1) {m : Nat} {nm : Nat → Nat} (hm : h m = some (.inl (ct 0, 5, .inl (SI nm)))) (hmo : own m = 2 * nw + 2) (hmp : ∀ i, i < 5 → pr i ≠ m) (hn : NB nm) (hp : PB A.1.2.2.1) {K : KH → Prop}
    (hK : ∀ h1 P' LC' BO', RkOK nm A.1.2.2.1 P' LC' BO' → CX ct a0 own h1 ax nw snO hl hks rk b1 b2 b3 pd sg P' LC' BO' SIG A → FrG (ax + 1) own h own h1 → K h1) :
    ∃ (o7 : Nat → Nat) (k1 : Nat → Int64) (k2 : Nat → Int64) (k3 : Nat → Int32) (k4 : Nat → Int32) (k5 : Nat → Nat → Int32) (q7 : (Nat → Int64) × (Nat → Int64) × (Nat → Int32)), (o7 0 = rk ∧ o7 4 = m ∧ o7 5 = p) ∧ inW h (QW2 o7 ct k1 k2 k3 k4 k5) ∧ f_X3_reckon k1 k2 k3 k4 k5 = some q7 ∧ (∀ h7 : KH, h7 = hupw h (QW2 o7 ct q7.1 q7.2.1 q7.2.2 k4 k5) → K h7) := by
  have hne := hc.nwax
  have hcc := hc
  obtain ⟨c1, c2, ⟨⟨o1, o2, o3, o4⟩, e1, e2, e3, e4, e5, e6, e7, e8⟩, c4, c5, c6, c7, c8, c9⟩ := hc
  obtain ⟨x1, ⟨y1, y2, y3, y4, y5⟩, ⟨d1, d2, d3⟩, x2, x3, x4, x5, x6⟩ := hs
  obtain ⟨q7, g1, g2⟩ := c_reckon hn hp P LC BO e6 e7 e8
  have n1 : rk ≠ b1 := fun z => by rw [z, e2] at e1; cases e1
  have n2 : rk ≠ b2 := fun z => by rw [z, e3] at e1; cases e1
  have n3 : rk ≠ b3 := fun z => by rw [z, e4] at e1; cases e1
  have n4 : b1 ≠ b3 := fun z => by rw [z, e4] at e2; exact va_ne (Option.some.inj e2)
  have n5 : b2 ≠ b3 := fun z => by rw [z, e4] at e3; exact va_ne (Option.some.inj e3)
  have ow : ∀ {u v : Nat}, own u = 2 * ax + 2 → own v = 2 * nw + 2 → u ≠ v := fun hu hv z => by rw [z, hv] at hu; omega
  have mp : m ≠ p := fun z => by rw [z, x4] at hm; exact va_ne (Option.some.inj hm).symm
  have pp : ∀ i, i < 5 → p ≠ pr i := fun i hi z => by rw [z, x5 i hi] at x4; exact va_ne (Option.some.inj x4)
  have nd : (qwo rk b1 b2 b3 m p pr |> fun o => [o 0, o 1, o 2, o 3, o 4, o 5, o 6, o 7, o 8, o 9, o 10]).Nodup := by
    show [rk, b1, b2, b3, m, p, pr 0, pr 1, pr 2, pr 3, pr 4].Nodup
    have dj : ∀ i j, i < 5 → j < 5 → i ≠ j → pr i ≠ pr j := fun i j hi hj hij z => hij (d3 i j hi hj z)
    simp only [List.nodup_cons, List.mem_cons, List.not_mem_nil, or_false, not_or, List.nodup_nil, and_true, not_false_eq_true]
    exact ⟨⟨n1, n2, n3, ow o1 hmo, ow o1 y4, ow o1 (y5 0 (by decide)), ow o1 (y5 1 (by decide)), ow o1 (y5 2 (by decide)), ow o1 (y5 3 (by decide)), ow o1 (y5 4 (by decide))⟩,
      ⟨e5, n4, ow o2 hmo, ow o2 y4, ow o2 (y5 0 (by decide)), ow o2 (y5 1 (by decide)), ow o2 (y5 2 (by decide)), ow o2 (y5 3 (by decide)), ow o2 (y5 4 (by decide))⟩,
      ⟨n5, ow o3 hmo, ow o3 y4, ow o3 (y5 0 (by decide)), ow o3 (y5 1 (by decide)), ow o3 (y5 2 (by decide)), ow o3 (y5 3 (by decide)), ow o3 (y5 4 (by decide))⟩,
      ⟨ow o4 hmo, ow o4 y4, ow o4 (y5 0 (by decide)), ow o4 (y5 1 (by decide)), ow o4 (y5 2 (by decide)), ow o4 (y5 3 (by decide)), ow o4 (y5 4 (by decide))⟩,
      ⟨mp, Ne.symm (hmp 0 (by decide)), Ne.symm (hmp 1 (by decide)), Ne.symm (hmp 2 (by decide)), Ne.symm (hmp 3 (by decide)), Ne.symm (hmp 4 (by decide))⟩,
      ⟨pp 0 (by decide), pp 1 (by decide), pp 2 (by decide), pp 3 (by decide), pp 4 (by decide)⟩,
      ⟨dj 0 1 (by decide) (by decide) (by decide), dj 0 2 (by decide) (by decide) (by decide), dj 0 3 (by decide) (by decide) (by decide), dj 0 4 (by decide) (by decide) (by decide)⟩,
      ⟨dj 1 2 (by decide) (by decide) (by decide), dj 1 3 (by decide) (by decide) (by decide), dj 1 4 (by decide) (by decide) (by decide)⟩,
      ⟨dj 2 3 (by decide) (by decide) (by decide), dj 2 4 (by decide) (by decide) (by decide)⟩,
      dj 3 4 (by decide) (by decide) (by decide)⟩
  refine ⟨qwo rk b1 b2 b3 m p pr, P, LC, BO, SI nm, fun i => SI (A.1.2.2.1 i), q7, ⟨rfl, rfl, rfl⟩, ⟨fun a e hx => ?_, nd⟩, g1, fun h7 eh7 => ?_⟩
  · simp only [List.mem_cons, Prod.mk.injEq, List.not_mem_nil, or_false] at hx
    rcases hx with ⟨x, y⟩ | ⟨x, y⟩ | ⟨x, y⟩ | ⟨x, y⟩ | ⟨x, y⟩ | ⟨x, y⟩ | ⟨x, y⟩ | ⟨x, y⟩ | ⟨x, y⟩ | ⟨x, y⟩ | ⟨x, y⟩
    · rw [x, y]; exact e1
    · rw [x, y]; exact e2
    · rw [x, y]; exact e3
    · rw [x, y]; exact e4
    · rw [x, y]; exact hm
    · rw [x, y]; exact x4
    · rw [x, y]; exact x5 0 (by decide)
    · rw [x, y]; exact x5 1 (by decide)
    · rw [x, y]; exact x5 2 (by decide)
    · rw [x, y]; exact x5 3 (by decide)
    · rw [x, y]; exact x5 4 (by decide)
  · have hin : ∀ {a : Nat} {e : va_E}, (a, e) ∈ QW2 (qwo rk b1 b2 b3 m p pr) ct q7.1 q7.2.1 q7.2.2 (SI nm) (fun i => SI (A.1.2.2.1 i)) → h7 a = some e := fun hx => by rw [eh7]; exact hupw_in nd hx
    have hb1 : h7 b1 = some (.inl (ct 1, 32, .inr (.inl q7.1))) := hin (List.mem_cons_of_mem _ List.mem_cons_self)
    have hb2 : h7 b2 = some (.inl (ct 1, 32, .inr (.inl q7.2.1))) := hin (List.mem_cons_of_mem _ (List.mem_cons_of_mem _ List.mem_cons_self))
    have hb3 : h7 b3 = some (.inl (ct 0, 32, .inl q7.2.2)) := hin (List.mem_cons_of_mem _ (List.mem_cons_of_mem _ (List.mem_cons_of_mem _ List.mem_cons_self)))
    -- all else stays
    have stay : ∀ z, z ≠ b1 → z ≠ b2 → z ≠ b3 → h7 z = h z := fun z z1 z2 z3 => by
      by_cases hz : z ∈ (QW2 (qwo rk b1 b2 b3 m p pr) ct q7.1 q7.2.1 q7.2.2 (SI nm) (fun i => SI (A.1.2.2.1 i))).map Prod.fst
      · obtain ⟨⟨a, e⟩, hx, ez⟩ := List.mem_map.mp hz
        have h9 := hin hx
        simp only at ez
        subst ez
        rw [h9]
        simp only [List.mem_cons, Prod.mk.injEq, List.not_mem_nil, or_false] at hx
        rcases hx with ⟨x, y⟩ | ⟨x, y⟩ | ⟨x, y⟩ | ⟨x, y⟩ | ⟨x, y⟩ | ⟨x, y⟩ | ⟨x, y⟩ | ⟨x, y⟩ | ⟨x, y⟩ | ⟨x, y⟩ | ⟨x, y⟩
        · rw [x, y]; exact e1.symm
        · exact absurd x z1
        · exact absurd x z2
        · exact absurd x z3
        · rw [x, y]; exact hm.symm
        · rw [x, y]; exact x4.symm
        · rw [x, y]; exact (x5 0 (by decide)).symm
        · rw [x, y]; exact (x5 1 (by decide)).symm
        · rw [x, y]; exact (x5 2 (by decide)).symm
        · rw [x, y]; exact (x5 3 (by decide)).symm
        · rw [x, y]; exact (x5 4 (by decide)).symm
      · rw [eh7]
        exact hupw_out hz
    have f : FrG (ax + 1) own h own h7 := fun z hz => by
      by_cases z1 : z = b1
      · subst z1; exact ⟨rfl, by rw [hb1]; exact (fun q => by cases q), fun hg => absurd (by rw [o2]; omega) hg⟩
      by_cases z2 : z = b2
      · subst z2; exact ⟨rfl, by rw [hb2]; exact (fun q => by cases q), fun hg => absurd (by rw [o3]; omega) hg⟩
      by_cases z3 : z = b3
      · subst z3; exact ⟨rfl, by rw [hb3]; exact (fun q => by cases q), fun hg => absurd (by rw [o4]; omega) hg⟩
      have e := stay z z1 z2 z3
      exact ⟨rfl, by rw [e]; exact hz, fun _ => e⟩
    obtain ⟨i1, i2, i3⟩ := hcc.ow f
    have st2 : ∀ {z : Nat} {e : va_E}, h z = some e → (∀ v, e ≠ .inl (ct 1, 32, .inr (.inl v))) → (∀ v, e ≠ .inl (ct 0, 32, .inl v)) → h7 z = some e := fun {z} {_} hz k1 k2 => by
      rw [stay z (fun q => by rw [q, e2] at hz; exact k1 _ (Option.some.inj hz).symm) (fun q => by rw [q, e3] at hz; exact k1 _ (Option.some.inj hz).symm) (fun q => by rw [q, e4] at hz; exact k2 _ (Option.some.inj hz).symm)]
      exact hz
    obtain ⟨w0, w1, w2, w3⟩ := c4
    refine hK h7 q7.1 q7.2.1 q7.2.2 g2 ⟨st2 c1 (fun v z => by cases z) (fun v z => by cases z), c2, ⟨⟨o1, o2, o3, o4⟩, st2 e1 (fun v z => by cases z) (fun v z => by cases z), hb1, hb2, hb3, e5, ?_, ?_, ?_⟩, ⟨w0, st2 w1 (fun v z => by cases z) (fun v z => by cases z), st2 w2 (fun v z => va_ne z) (fun v z => ?_), w3⟩, i1, i2, ?_, i3, c9⟩ f
    · exact (g2 0 (by decide)).1
    · exact (g2 0 (by decide)).2.1
    · exact (g2 0 (by decide)).2.2
    · have z2 : (60 : Nat) = 32 := congrArg (fun q : va_E => match q with | .inl x => x.2.1 | .inr _ => 0) z
      exact absurd z2 (by decide)
    · obtain ⟨l1, l2, mo, el, l3, l4⟩ := c7
      refine ⟨l1, l2, mo, el, st2 l3 (fun v z => by cases z) (fun v z => by cases z), ?_⟩
      rcases l4 with l4 | ⟨l4, l5, fx, l6, l7⟩
      · exact Or.inl l4
      · have no : own el = 2 * ax + 3 := l5
        refine Or.inr ⟨l4, l5, fx, ?_, l7⟩
        rw [stay el (fun q => by rw [q, o2] at no; omega) (fun q => by rw [q, o3] at no; omega) (fun q => by rw [q, o4] at no; omega)]
        exact l6
theorem p_reckoned (hc : CX ct a0 own h ax nw snO hl hks rk b1 b2 b3 pd sg P LC BO SIG A) (hS : SOK A.1) {a1 : Int32} {Post : Nat → KH → Prop}
    (hP : ∀ h1 P' LC' BO', RkOK (if a1 = 0 then A.1.2.1 else A.1.1) A.1.2.2.1 P' LC' BO' → CX ct a0 own h1 ax nw snO hl hks rk b1 b2 b3 pd sg P' LC' BO' SIG A → FrG (ax + 1) own h own h1 → Post rk h1) : g_X5_reckoned ct a0 ax a1 h Post := by
  obtain ⟨r, g, p, l, pr, kas, hs⟩ := hc.2.2.2.2.1
  unfold g_X5_reckoned
  refine hc.rkR ?_
  by_cases q : a1 = 0
  · rw [if_pos q] at hP
    rw [if_pos q]
    refine hc.nowR (hs.gI (hc.nowR (hs.pI ?_)))
    exact p_reckonX hc hs hs.2.2.2.2.1 hs.2.1.2.2.1 (fun i hi => (hs.2.2.1.2.1 i hi).2) hS.2.1 hS.2.2.1 (fun h1 P' LC' BO' hR hc1 f1 => hc1.rkR (hP h1 P' LC' BO' hR hc1 f1))
  · rw [if_neg q] at hP
    rw [if_neg q]
    refine hc.nowR (hs.rI (hc.nowR (hs.pI ?_)))
    exact p_reckonX hc hs hs.2.2.2.1 hs.2.1.2.1 (fun i hi => (hs.2.2.1.2.1 i hi).1) hS.1 hS.2.2.1 (fun h1 P' LC' BO' hR hc1 f1 => hc1.rkR (hP h1 P' LC' BO' hR hc1 f1))
end CY
