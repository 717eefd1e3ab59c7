/-! counted, append, clear, fault -/
section CD
variable {ct : Nat → ClassId} {a0 : Nat} {own own1 : Nat → Nat} {h h1 : KH} {ax nw : Nat} {snO : Option Nat} {hl : Nat} {hks : List (Nat × DS)} {rk b1 b2 b3 pd sg : Nat} {P LC : Nat → Int64} {BO SIG : Nat → Int32} {A : AS}
set_option maxHeartbeats 2000000 in
theorem sq_counted : St_counted ct a0 (Rel ct a0) := by
  intro j hj ax h M a1 hr
  have hr1 := hr.up
  obtain ⟨own, A, ⟨nw, snO, hl, hks, rk, b1, b2, b3, pd, sg, P, LC, BO, SIG, hc⟩, ⟨m1, m2, m3, m4, m5, m6⟩, hG⟩ := hr
  obtain ⟨v, E, eM, hR, hkp, hpa⟩ := m1.opn
  obtain ⟨r, g, p, l, pr, kas, hs⟩ := hc.2.2.2.2.1
  have hN : 200 * j < 2 ^ 28 := by omega
  have hS := hG.1.1
  have nn := hR.2.1
  generalize hF : f_X6_counted a1 M.1 M.2.2.2.2.1 M.2.2.2.2.2.2.2.2.2.1 M.2.2.2.2.2.2.2.2.2.2.2.2.1 = F
  have fin : ∀ (z : Int32), F = some z → ∃ q : Int32, F = some q ∧ q = z ∧ Rel ct a0 (j + 1) ax h M := fun z e => ⟨z, e, rfl, hr1⟩
  unfold f_X6_counted at hF
  unfold g_X5_counted
  rw [eM] at hF
  by_cases q0 : a1 = (0 : Int32)
  · rw [if_pos q0] at hF ⊢
    refine hc.nowR (hs.sz (fin _ ?_))
    rw [m_plans hR.1 hR.2.2 hN, bnd_s] at hF
    have e := hs.kpe
    have e5 : A.1.2.2.2.1.length = kas.length := by rw [e, List.length_map]
    rw [hkp, List.length_map] at e5
    rw [← hF, e5]
  rw [if_neg q0] at hF ⊢
  by_cases q1 : a1 = (1 : Int32)
  · rw [if_pos q1] at hF ⊢
    refine hc.nowR (hs.o (c_countPinned hc.2.2.2.2.1 hS (fin _ ?_)))
    rw [m_pinned hR.1, bnd_s] at hF
    rw [← hF, hkp, sumL_map]
    congr 2
    refine sumL_congr (fun e he => ?_)
    have := (hR.1.1 e he).2.1.2.2.2.2
    by_cases q : e.1.2.2.2.2 = 0
    · rw [if_pos q, q]
    · rw [if_neg q]; omega
  rw [if_neg q1] at hF ⊢
  by_cases q2 : a1 = (2 : Int32)
  · rw [if_pos q2] at hF ⊢
    refine hc.nowR (hs.dI (fin _ ?_))
    rw [show (35 : Int32) = nI 35 from rfl, grd_inb (by decide) (by decide), nI_clamp (by decide), SI_at, nn.2.2.1] at hF
    exact hF.symm
  rw [if_neg q2] at hF ⊢
  by_cases q3 : a1 = (3 : Int32)
  · rw [if_pos q3] at hF ⊢
    have ev : v 93 = A.1.2.2.2.2.2 0 := nn.2.2.2.1
    have et := told_v hR.2.2 hN (i := 93) (by decide)
    rw [ev] at et
    refine hc.nowR ⟨_, _, hs.1, rfl, _, et, fin _ ?_⟩
    rw [q3, show ((93 : Int32) + (3 : Int32) - (3 : Int32)) = nI 93 by decide +kernel, grd_inb (by decide) (by decide), nI_clamp (by decide), SI_at, ev] at hF
    exact hF.symm
  rw [if_neg q3] at hF ⊢
  by_cases q4 : a1 = (4 : Int32)
  · rw [if_pos q4] at hF ⊢
    have ev : v 94 = A.1.2.2.2.2.2 1 := nn.2.2.2.2.1
    have et := told_v hR.2.2 hN (i := 94) (by decide)
    rw [ev] at et
    refine hc.nowR ⟨_, _, hs.1, rfl, _, et, fin _ ?_⟩
    rw [q4, show ((93 : Int32) + (4 : Int32) - (3 : Int32)) = nI 94 by decide +kernel, grd_inb (by decide) (by decide), nI_clamp (by decide), SI_at, ev] at hF
    exact hF.symm
  rw [if_neg q4] at hF ⊢
  by_cases q5 : a1 = (5 : Int32)
  · rw [if_pos q5] at hF ⊢
    refine hc.nowR ⟨_, _, hs.1, rfl, _, rfl, fin _ ?_⟩
    rw [q5, show ((5 : Int32) - (5 : Int32)) = nI 0 by decide +kernel, grd_inb (by decide) (by decide), nI_clamp (by decide), hpa.1, told_cut] at hF
    exact hF.symm
  rw [if_neg q5] at hF ⊢
  by_cases q6 : a1 = (6 : Int32)
  · rw [if_pos q6] at hF ⊢
    refine hc.nowR ⟨_, _, hs.1, rfl, _, rfl, fin _ ?_⟩
    rw [q6, show ((6 : Int32) - (5 : Int32)) = nI 1 by decide +kernel, grd_inb (by decide) (by decide), nI_clamp (by decide), hpa.2, told_cut] at hF
    exact hF.symm
  rw [if_neg q6] at hF ⊢
  by_cases q7 : a1 = (7 : Int32)
  · rw [if_pos q7] at hF ⊢
    have ev : v 95 = A.1.2.2.2.2.2 4 := nn.2.2.2.2.2.1
    have et := told_v hR.2.2 hN (i := 95) (by decide)
    rw [ev] at et
    refine hc.nowR ⟨_, _, hs.1, rfl, _, et, fin _ ?_⟩
    unfold f_X6_counted_J114 at hF
    rw [q7, show ((95 : Int32) + (7 : Int32) - (7 : Int32)) = nI 95 by decide +kernel, grd_inb (by decide) (by decide), nI_clamp (by decide), SI_at, ev] at hF
    exact hF.symm
  rw [if_neg q7] at hF ⊢
  by_cases q8 : a1 = (8 : Int32)
  · rw [if_pos q8] at hF ⊢
    have ev : v 96 = A.1.2.2.2.2.2 5 := nn.2.2.2.2.2.2.1
    have et := told_v hR.2.2 hN (i := 96) (by decide)
    rw [ev] at et
    refine hc.nowR ⟨_, _, hs.1, rfl, _, et, fin _ ?_⟩
    unfold f_X6_counted_J114 at hF
    rw [q8, show ((95 : Int32) + (8 : Int32) - (7 : Int32)) = nI 96 by decide +kernel, grd_inb (by decide) (by decide), nI_clamp (by decide), SI_at, ev] at hF
    exact hF.symm
  rw [if_neg q8] at hF ⊢
  by_cases q9 : a1 = (9 : Int32)
  · rw [if_pos q9] at hF ⊢
    have ev : v 97 = A.1.2.2.2.2.2 6 := nn.2.2.2.2.2.2.2.1
    have et := told_v hR.2.2 hN (i := 97) (by decide)
    rw [ev] at et
    refine hc.nowR ⟨_, _, hs.1, rfl, _, et, fin _ ?_⟩
    unfold f_X6_counted_J114 at hF
    rw [q9, show ((95 : Int32) + (9 : Int32) - (7 : Int32)) = nI 97 by decide +kernel, grd_inb (by decide) (by decide), nI_clamp (by decide), SI_at, ev] at hF
    exact hF.symm
  rw [if_neg q9] at hF ⊢
  by_cases q10 : a1 = (10 : Int32)
  · rw [if_pos q10] at hF ⊢
    have ev : v 98 = A.1.2.2.2.2.2 7 := nn.2.2.2.2.2.2.2.2.1
    have et := told_v hR.2.2 hN (i := 98) (by decide)
    rw [ev] at et
    refine hc.nowR ⟨_, _, hs.1, rfl, _, et, fin _ ?_⟩
    unfold f_X6_counted_J114 at hF
    rw [q10, show ((95 : Int32) + (10 : Int32) - (7 : Int32)) = nI 98 by decide +kernel, grd_inb (by decide) (by decide), nI_clamp (by decide), SI_at, ev] at hF
    exact hF.symm
  rw [if_neg q10] at hF ⊢
  by_cases q11 : a1 = (11 : Int32)
  · rw [if_pos q11] at hF ⊢
    have ev : v 99 = A.1.2.2.2.2.2 8 := nn.2.2.2.2.2.2.2.2.2
    have et := told_v hR.2.2 hN (i := 99) (by decide)
    rw [ev] at et
    refine hc.nowR ⟨_, _, hs.1, rfl, _, et, fin _ ?_⟩
    unfold f_X6_counted_J114 at hF
    rw [q11, show ((95 : Int32) + (11 : Int32) - (7 : Int32)) = nI 99 by decide +kernel, grd_inb (by decide) (by decide), nI_clamp (by decide), SI_at, ev] at hF
    exact hF.symm
  rw [if_neg q11] at hF ⊢
  by_cases q12 : a1 = (12 : Int32)
  · rw [if_pos q12] at hF ⊢
    exact hc.pdR ⟨_, _, hc.2.2.2.1.2.1, rfl, fin _ (by rw [← hF, m5.1])⟩
  rw [if_neg q12] at hF ⊢
  by_cases q13 : a1 = (13 : Int32)
  · rw [if_pos q13] at hF ⊢
    exact hc.unS (fin _ (by rw [← hF, m2.1]))
  rw [if_neg q13] at hF ⊢
  exact fin _ hF.symm
theorem va_len {c c' : ClassId} {n n' : Nat} {f g : (Nat → Int32) ⊕ (Nat → Int64) ⊕ (Nat → UInt32) ⊕ (Nat → UInt64) ⊕ (Nat → Option Nat)} (z : (Sum.inl (c, n, f) : va_E) = Sum.inl (c', n', g)) : n = n' := congrArg (fun q : va_E => match q with | .inl x => x.2.1 | .inr _ => 0) z
theorem hupw_nil : hupw h [] = h := rfl
theorem hupw_cons {a : Nat} {e : va_E} {w : va_W} : hupw h ((a, e) :: w) = hup (hupw h w) a e := by
  funext q
  show (match (if a = q then some e else lkw w q) with | some e => some e | none => h q) = if q = a then some e else (match lkw w q with | some e => some e | none => h q)
  by_cases c : a = q
  · rw [if_pos c, if_pos c.symm]
  · rw [if_neg c, if_neg (fun z => c z.symm)]
theorem hup_id {a : Nat} {e : va_E} (ha : h a = some e) : hup h a e = h := by
  funext q
  show (if q = a then some e else h q) = h q
  by_cases c : q = a
  · rw [if_pos c, c, ha]
  · rw [if_neg c]
theorem CX.pdsg (hc : CX ct a0 own h ax nw snO hl hks rk b1 b2 b3 pd sg P LC BO SIG A) : pd ≠ sg := fun z => by
  have e1 := hc.2.2.2.1.2.1
  have e2 := hc.2.2.2.1.2.2.1
  rw [z, e2] at e1; cases e1
/-- another text -/
theorem CX.pad (hc : CX ct a0 own h ax nw snO hl hks rk b1 b2 b3 pd sg P LC BO SIG A) {SIG' : Nat → Int32} {sgn' : Nat → Nat} {len' : Nat} (hlen : len' ≤ 60) (hsig : ∀ i, i < len' → SIG' i = nI (sgn' i) ∧ 33 ≤ sgn' i ∧ sgn' i ≤ 126) : CX ct a0 own (hup (hup h sg (.inl (ct 2, 60, .inl SIG'))) pd (.inr (2, [.ref sg, .int (nI len')]))) ax nw snO hl hks rk b1 b2 b3 pd sg P LC BO SIG' (A.1, A.2.1, A.2.2.1, sgn', len', A.2.2.2.2.2) := by
  have hcc := hc
  have npd := hc.pdsg
  obtain ⟨c1, c2, c3, ⟨⟨o1, o2⟩, p1, p2, p3⟩, c5, c6, c7, c8, c9⟩ := hc
  have f : FrG (ax + 1) own h own (hup (hup h sg (.inl (ct 2, 60, .inl SIG'))) pd (.inr (2, [.ref sg, .int (nI len')]))) := (FrG.up (by omega)).trans (FrG.up (by omega))
  obtain ⟨w1, w2, w3⟩ := hcc.ow f
  have k : ∀ {z : Nat} {e : va_E}, h z = some e → (∀ l, e ≠ .inr (2, l)) → (∀ f, e ≠ .inl (ct 2, 60, .inl f)) → hup (hup h sg (.inl (ct 2, 60, .inl SIG'))) pd (.inr (2, [.ref sg, .int (nI len')])) z = some e := fun {z} {e} hz n1 n2 => by
    rw [hup_ne (fun y => n1 _ (by rw [y, p1] at hz; exact (Option.some.inj hz).symm)), hup_ne (fun y => n2 _ (by rw [y, p2] at hz; exact (Option.some.inj hz).symm))]
    exact hz
  obtain ⟨⟨r1, r2, r3, r4⟩, e1, e2, e3, e4, e5⟩ := c3
  refine ⟨k c1 (fun l z => by cases z) (fun l z => by cases z), c2, ⟨⟨r1, r2, r3, r4⟩, k e1 (fun l z => by cases z) (fun l z => by cases z), k e2 (fun l z => by cases z) (fun l z => absurd (va_len z) (by decide)), k e3 (fun l z => by cases z) (fun l z => absurd (va_len z) (by decide)), k e4 (fun l z => by cases z) (fun l z => absurd (va_len z) (by decide)), e5⟩, ⟨⟨o1, o2⟩, hup_same, ?_, hlen, hsig⟩, w1, w2, (c7.oth p2 (fun l z => by cases z) (fun l z => absurd (va_len z) (by decide))).oth ((hup_ne npd).trans p1) (fun l z => by cases z) (fun l z => by cases z), w3, c9⟩
  rw [hup_ne (Ne.symm npd)]
  exact hup_same
end CD
