/-! carryOut -/
section CA
variable {ct : Nat → ClassId} {a0 : Nat} {own own1 : Nat → Nat} {h h1 : KH} {ax nw : Nat} {snO : Option Nat} {hl : Nat} {hks : List (Nat × DS)} {rk b1 b2 b3 pd sg : Nat} {P LC : Nat → Int64} {BO SIG : Nat → Int32} {A : AS}
theorem CX.rne (hc : CX ct a0 own h ax nw snO hl hks rk b1 b2 b3 pd sg P LC BO SIG A) {q : Nat} {fs : List Value} (hq : h q = some (.inr (3, fs))) : q ≠ ax ∧ q ≠ nw := by
  refine ⟨fun z => ?_, fun z => ?_⟩
  · have := hc.1
    rw [← z, hq] at this; cases this
  · obtain ⟨_, e⟩ := hc.2.2.2.2.1.obj
    rw [← z, hq] at e; cases e
theorem CX.sd (hc : CX ct a0 own h ax nw snO hl hks rk b1 b2 b3 pd sg P LC BO SIG A) {K : Int32 → Prop} (hK : K (sdI A.2.2.2.2.2)) : rdI h ax 6 5 K := ⟨_, _, hc.1, rfl, hK⟩
set_option maxHeartbeats 1000000 in
/-- a deed of the class -/
theorem p_deed (hc : CX ct a0 own h ax nw snO hl hks rk b1 b2 b3 pd sg P LC BO SIG A) (hI : IV A.1) {q : Nat} {n s0 lt ts tb nb : Int32} (hq : h q = some (RDv pd n s0 lt ts tb nb)) (oq : own q = 2 * q + 2) {r : RD} (hr : VR r) (k1 : lt = nI r.2.2.1) (k2 : r.2.2.1 = 99 → tb = nI r.2.2.2.1) (k3 : r.2.2.1 = 112 ∨ r.2.2.1 = 113 → ts = nI r.2.2.2.1) (k4 : r.2.2.1 = 114 → tb = nI r.2.2.2.1 ∧ nb = nI r.2.2.2.2) {Post : Int32 → KH → Prop}
    (h1 : ∀ st', deedD A.1 r = some st' → ∀ own1 h1 P' LC' BO', CX ct a0 own1 h1 ax nw snO hl hks rk b1 b2 b3 pd sg P' LC' BO' SIG (st', A.2) → h1 q = some (RDv pd n s0 lt ts tb nb) → own1 q = own q → Post 1 h1) (h0 : deedD A.1 r = none → Post 0 h) : g_X5_carryOutDeed ct a0 ax q h Post := by
  obtain ⟨qax, qnw⟩ := hc.rne hq
  have S := hI.1
  have st2 : ∀ {own2 h2}, FrG (nw + 1) own h own2 h2 → h2 q = some (RDv pd n s0 lt ts tb nb) ∧ own2 q = own q := fun f => f.at hq (by rw [oq]; omega)
  obtain ⟨rr, g, p, l, pr, kas, hs⟩ := hc.2.2.2.2.1
  unfold deedD at h1 h0
  unfold g_X5_carryOutDeed
  refine ⟨_, _, hq, rfl, ?_⟩
  rcases hr with ⟨e, e1⟩ | ⟨e, e1, e2⟩ | ⟨e, e1, e2, e3⟩
  · rw [k1, e, if_pos (show nI 99 = (99 : Int32) from rfl)]
    rw [if_pos e] at h1
    refine hc.nowR ⟨_, _, hq, rfl, _, by rw [k2 e]; exact c_bit _ e1, hs.o (p_count hs S (pow_lt32 _ e1) (fun own2 h2 hs2 f2 => ?_))⟩
    obtain ⟨kas2, hs2⟩ := hs2
    exact h1 _ rfl _ _ _ _ _ (hc.now f2 ⟨_, _, _, _, _, _, hs2⟩) (st2 f2).1 (st2 f2).2
  · rcases e with e | e
    · rw [k1, e, if_neg (show ¬ nI 112 = (99 : Int32) by decide +kernel), if_neg (show ¬ nI 112 = (113 : Int32) by decide +kernel), if_neg (show ¬ nI 112 = (114 : Int32) by decide +kernel)]
      rw [if_neg (by omega), if_neg (by omega), if_neg (by omega)] at h1 h0
      refine hc.nowR ⟨_, _, hq, rfl, hs.o ?_⟩
      rw [k3 (Or.inl e)]
      refine c_placeOf ⟨_, _, _, _, _, _, hs⟩ S e2 (fun i x hi hx => ?_) (fun hno => ?_)
      · have hil := (List.getElem?_eq_some_iff.mp hi).1
        have h4 := S.2.2.2.2.1
        rw [if_neg (nI_m1 (by omega))]
        obtain ⟨k, hk⟩ := getK hs (i := i) (x := x) hi
        refine hc.nowR (hs.o (p_setPinned hs hk (pn := 1) (by decide) (fun own2 h2 k2 hs2 f2 => ?_)))
        have ekp : (kas.set i (k2, x.1, x.2.1, x.2.2.1, x.2.2.2.1, 1)).map Prod.snd = A.1.2.2.2.1.set i (pinP 1 x) := by
          rw [List.map_set, ← hs.kpe]
          rfl
        have hkey : ∀ kk, kk = A.1.2.2.2.1.set i (pinP 1 x) → StX ct a0 own2 h2 nw rr g p l pr (kas.set i (k2, x.1, x.2.1, x.2.2.1, x.2.2.2.1, 1)) (A.1.1, A.1.2.1, A.1.2.2.1, kk, A.1.2.2.2.2) → StX ct a0 own2 h2 nw rr g p l pr (kas.set i (k2, x.1, x.2.1, x.2.2.1, x.2.2.2.1, 1)) (A.1.1, A.1.2.1, A.1.2.2.1, A.1.2.2.2.1.set i (pinP 1 x), A.1.2.2.2.2) := fun kk e h => by subst e; exact h
        exact h1 _ (pinS_some hI.2.2.1 hi hx) own2 h2 P LC BO (hc.now f2 ⟨_, _, _, _, _, _, hkey _ ekp hs2⟩) (st2 f2).1 (st2 f2).2
      · rw [if_pos rfl]
        exact h0 (pinS_none hno)
    · rw [k1, e, if_neg (show ¬ nI 113 = (99 : Int32) by decide +kernel), if_pos (show nI 113 = (113 : Int32) from rfl)]
      rw [if_neg (by omega), if_pos e] at h1
      refine ⟨_, _, hq, rfl, hc.o ?_⟩
      rw [k3 (Or.inr e)]
      refine p_runQuery hc hI e2 (by omega) (fun own2 h2 P' LC' BO' hc2 f2 => ?_)
      obtain ⟨f3, f4, f5⟩ := f2 q (by rw [hq]; exact fun z => by cases z)
      exact h1 _ rfl _ _ _ _ _ hc2 ((f5 (by rw [oq]; omega) (by rw [oq]; omega)).trans hq) f3
  · rw [k1, e, if_neg (show ¬ nI 114 = (99 : Int32) by decide +kernel), if_neg (show ¬ nI 114 = (113 : Int32) by decide +kernel), if_pos (show nI 114 = (114 : Int32) from rfl)]
    rw [if_neg (by omega), if_neg (by omega), if_pos e] at h1
    obtain ⟨k5, k6⟩ := k4 e
    refine ⟨_, _, hq, rfl, 1, by rw [k5]; exact (by decide +kernel : ∀ n, n < 5 → f_X5_isTable (nI n) = some 1) _ e1, ?_⟩
    rw [if_neg ne10]
    refine hc.nowR (hs.rI ⟨_, _, hq, rfl, _, _, hq, rfl, ?_⟩)
    rw [k5, k6]
    exact hs.stR e1 (fun h2 hs2 f2 => h1 _ rfl _ _ _ _ _ (hc.now f2 ⟨_, _, _, _, _, _, hs2⟩) (st2 f2).1 (st2 f2).2)
theorem VR_of {s : Nat → Nat} {len p : Nat} (h : SaOK s len) (hp : p ≤ len) (hv : (rdS s p).1 = true) : VR (rdS s p) ∧ p + 2 ≤ (rdS s p).2.1 ∧ (rdS s p).2.1 ≤ len := by
  obtain ⟨r1, r2, r3⟩ := rdS_ok h hp
  obtain ⟨a, b⟩ := r3 hv
  exact ⟨b, a, r1⟩
theorem rd_end {s : Nat → Nat} {len : Nat} (h : SaOK s len) : (rdS s len).1 = false := by
  have e := h.2.2 len (Nat.le_refl _)
  unfold rdS
  rw [e, if_neg (by decide), if_neg (by decide), if_neg (by decide)]
/-- the end of the deeds -/
theorem c_end (hc : CX ct a0 own h ax nw snO hl hks rk b1 b2 b3 pd sg P LC BO SIG A) (hn : A.2.2.2.2.2 = none) {q : Nat} {s0 lt ts tb nb : Int32} (hq : h q = some (RDv pd (nI A.2.2.2.2.1) s0 lt ts tb nb)) (oq : own q = 2 * q + 2) {m d : Nat} (hm : 0 < m) (hd : d < 60) {Post : Int32 → KH → Prop}
    (hP : ∀ h1, CX ct a0 own h1 ax nw snO hl hks rk b1 b2 b3 pd sg P LC BO SIG (A.1, A.2.1, A.2.2.1, A.2.2.2.1, 0, none) → Post (nI d) h1) : g_X5_carryOut_L49 ct a0 ax Post m q (nI d) h := by
  obtain ⟨k, rfl⟩ : ∃ k, m = k + 1 := ⟨m - 1, by omega⟩
  obtain ⟨s1, s2⟩ := hc.saX
  show g_X5_carryOut_L49b _ _ _ _ _ _ _ _
  unfold g_X5_carryOut_L49b
  rw [if_neg (show ¬ (60 : Int32) ≤ nI d from nI_ge (b := 60) hd (by decide))]
  refine hc.sd ?_
  rw [hn, if_pos (show sdI none = (-1 : Int32) from rfl)]
  obtain ⟨w1, w2⟩ := hc.rdW hq
  obtain ⟨q19, e1, d1, d2, d3, d4⟩ := c_readDeed s1 s2 (Nat.le_refl _) s0 lt ts tb nb
  refine ⟨_, _, _, _, _, _, _, _, _, q19, rfl, w1, e1, fun h19 e19 => ?_⟩
  rw [if_pos (show q19.1 = (0 : Int32) by rw [d1, rd_end s1]; rfl)]
  have hc19 : CX ct a0 own h19 ax nw snO hl hks rk b1 b2 b3 pd sg P LC BO SIG A := by
    rw [e19, w2]; exact hc.rdU hq oq _
  refine hc19.pad0 (fun h2 hc2 => hP h2 ?_)
  rw [hn] at hc2
  exact hc2
set_option maxHeartbeats 1000000 in
theorem c_exec : ∀ (n m p d : Nat) (own : Nat → Nat) (h : KH) (P LC : Nat → Int64) (BO : Nat → Int32) (A : AS) (q : Nat) (s0 lt ts tb nb : Int32), (scan (sa A.2.2.2.1 A.2.2.2.2.1) A.2.2.2.2.1 n p).2 = none → p ≤ A.2.2.2.2.1 → n < m → d + n < 60 → CX ct a0 own h ax nw snO hl hks rk b1 b2 b3 pd sg P LC BO SIG A → A.2.2.2.2.2 = none → IV A.1 →
    h q = some (RDv pd (nI p) s0 lt ts tb nb) → own q = 2 * q + 2 → ∀ {Post : Int32 → KH → Prop},
    (∀ own1 h1 P' LC' BO', CX ct a0 own1 h1 ax nw snO hl hks rk b1 b2 b3 pd sg P' LC' BO' SIG ((execS (sa A.2.2.2.1 A.2.2.2.2.1) (scan (sa A.2.2.2.1 A.2.2.2.2.1) A.2.2.2.2.1 n p).1 A.1 d).1, A.2.1, A.2.2.1, A.2.2.2.1, 0, (execS (sa A.2.2.2.1 A.2.2.2.2.1) (scan (sa A.2.2.2.1 A.2.2.2.2.1) A.2.2.2.2.1 n p).1 A.1 d).2.2) → Post (nI (execS (sa A.2.2.2.1 A.2.2.2.2.1) (scan (sa A.2.2.2.1 A.2.2.2.2.1) A.2.2.2.2.1 n p).1 A.1 d).2.1) h1) → g_X5_carryOut_L49 ct a0 ax Post m q (nI d) h
  | 0, m, p, d, own, h, P, LC, BO, A, q, s0, lt, ts, tb, nb, hsc, _, _, _, _, _, _, _, _, Post, _ => by cases hsc
  | n + 1, 0, p, d, own, h, P, LC, BO, A, q, s0, lt, ts, tb, nb, _, _, hm, _, _, _, _, _, _, Post, _ => by omega
  | n + 1, m + 1, p, d, own, h, P, LC, BO, A, q, s0, lt, ts, tb, nb, hsc, hp, hm, hd, hc, hn, hI, hq, oq, Post, hP => by
    obtain ⟨s1, s2⟩ := hc.saX
    have h60 := s1.1
    unfold scan at hsc hP
    by_cases q1 : (rdS (sa A.2.2.2.1 A.2.2.2.2.1) p).1 = true
    rotate_left
    · rw [if_neg q1] at hsc; cases hsc
    rw [if_pos q1] at hsc hP
    obtain ⟨hv, hp2, hpl⟩ := VR_of s1 hp q1
    show g_X5_carryOut_L49b _ _ _ _ _ _ _ _
    unfold g_X5_carryOut_L49b
    rw [if_neg (show ¬ (60 : Int32) ≤ nI d from nI_ge (b := 60) (by omega) (by decide))]
    refine hc.sd ?_
    rw [hn, if_pos (show sdI none = (-1 : Int32) from rfl)]
    obtain ⟨w1, w2⟩ := hc.rdW hq
    obtain ⟨q19, e1, d1, d2, d3, d4⟩ := c_readDeed s1 s2 hp s0 lt ts tb nb
    refine ⟨_, _, _, _, _, _, _, _, _, q19, rfl, w1, e1, fun h19 e19 => ?_⟩
    rw [if_neg (show ¬ q19.1 = (0 : Int32) by rw [d1, if_pos q1]; decide +kernel)]
    rw [w2] at e19
    have hc19 : CX ct a0 own h19 ax nw snO hl hks rk b1 b2 b3 pd sg P LC BO SIG A := by
      rw [e19]; exact hc.rdU hq oq _
    have hq19 : h19 q = some (RDv pd q19.2.1 q19.2.2.1 q19.2.2.2.1 q19.2.2.2.2.1 q19.2.2.2.2.2.1 q19.2.2.2.2.2.2) := by rw [e19]; exact hup_same
    obtain ⟨d5, d6, d7, d8⟩ := d4 q1
    refine hc19.o (p_deed hc19 hI hq19 oq hv d5 d6 d7 d8 (fun st' hst own2 h2 P' LC' BO' hc2 hq2 oq2 => ?_) (fun hst => ?_))
    · -- done
      rw [if_neg ne10]
      have hI2 := deed_I hI hv hst
      obtain ⟨w3, w4⟩ := hc2.rdW hq2
      have hrs := c_readSign (x := 59) s1 s2 (i := (rdS (sa A.2.2.2.1 A.2.2.2.2.1) p).2.1) (by omega) (by decide)
      rw [← d2] at hrs
      have go : ∀ e', ∀ h28, h28 = hup h2 q (RDv pd (nI e') q19.2.2.1 q19.2.2.2.1 q19.2.2.2.2.1 q19.2.2.2.2.2.1 q19.2.2.2.2.2.2) → CX ct a0 own2 h28 ax nw snO hl hks rk b1 b2 b3 pd sg P' LC' BO' SIG (st', A.2) ∧ h28 q = some (RDv pd (nI e') q19.2.2.1 q19.2.2.2.1 q19.2.2.2.2.1 q19.2.2.2.2.2.1 q19.2.2.2.2.2.2) := fun e' h28 e28 => by
        rw [e28]
        exact ⟨hc2.rdU hq2 (oq2.trans oq) _, hup_same⟩
      by_cases q2 : (rdS (sa A.2.2.2.1 A.2.2.2.2.1) p).2.1 < A.2.2.2.2.1
      · rw [if_pos q2] at hsc hP
        by_cases q3 : sa A.2.2.2.1 A.2.2.2.2.1 (rdS (sa A.2.2.2.1 A.2.2.2.2.1) p).2.1 = 59
        · rw [if_pos q3] at hsc hP hrs
          refine ⟨_, _, _, _, _, _, _, _, _, _, rfl, w3, hrs, fun h28 e28 => ?_⟩
          rw [w4] at e28
          obtain ⟨hc28, hq28⟩ := go ((rdS (sa A.2.2.2.1 A.2.2.2.2.1) p).2.1 + 1) h28 e28
          rw [show nI d + (1 : Int32) = nI (d + 1) from nI_1 d]
          refine c_exec n m ((rdS (sa A.2.2.2.1 A.2.2.2.2.1) p).2.1 + 1) (d + 1) own2 h28 P' LC' BO' (st', A.2) q _ _ _ _ _ hsc q2 (by omega) (by omega) hc28 hn hI2 hq28 (oq2.trans oq) (fun own3 h3 P3 LC3 BO3 hc3 => ?_)
          have hP := hP own3 h3 P3 LC3 BO3
          simp only [execS, hst] at hP
          exact hP hc3
        · rw [if_neg q3] at hsc; cases hsc
      · rw [if_neg q2] at hsc hP
        have eE : (rdS (sa A.2.2.2.1 A.2.2.2.2.1) p).2.1 = A.2.2.2.2.1 := by omega
        rw [if_neg (by rw [eE, s1.2.2 _ (Nat.le_refl _)]; decide)] at hrs
        refine ⟨_, _, _, _, _, _, _, _, _, _, rfl, w3, hrs, fun h28 e28 => ?_⟩
        rw [w4] at e28
        obtain ⟨hc28, hq28⟩ := go ((rdS (sa A.2.2.2.1 A.2.2.2.2.1) p).2.1) h28 (e28.trans (by
          show hup h2 q (RDv pd q19.2.1 q19.2.2.1 q19.2.2.2.1 q19.2.2.2.2.1 q19.2.2.2.2.2.1 q19.2.2.2.2.2.2) = _
          rw [d2]))
        rw [eE] at hq28
        rw [show nI d + (1 : Int32) = nI (d + 1) from nI_1 d]
        refine c_end hc28 hn hq28 (oq2.trans oq) (by omega) (by omega) (fun h3 hc3 => ?_)
        have hP := hP own2 h3 P' LC' BO'
        simp only [execS, hst] at hP
        exact hP hc3
    · -- stopped
      rw [if_pos rfl]
      obtain ⟨qax, qnw⟩ := hc19.rne hq19
      refine ⟨_, hc19.1, (by decide : 5 < 7), fun h25 e25 => ?_⟩
      have hq25 : h25 q = some (RDv pd q19.2.1 q19.2.2.1 q19.2.2.2.1 q19.2.2.2.2.1 q19.2.2.2.2.2.1 q19.2.2.2.2.2.2) := by rw [e25, hup_ne qax]; exact hq19
      have hax25 : h25 ax = some (.inr (6, (axF nw snO hl rk pd A.2.2.2.2.2).set 5 (.int (nI d)))) := by rw [e25]; exact hup_same
      refine ⟨_, _, hq25, rfl, _, hax25, (by decide : 6 < 7), fun h27 e27 => ?_⟩
      have e27b : h27 = hup h19 ax (.inr (6, axF nw snO hl rk pd (some (d, p)))) := by
        rw [e27, e25, hup_hup, d3]
        rfl
      have hc27 : CX ct a0 own h27 ax nw snO hl hks rk b1 b2 b3 pd sg P LC BO SIG (A.1, A.2.1, A.2.2.1, A.2.2.2.1, A.2.2.2.2.1, some (d, p)) := by
        rw [e27b]
        exact hc19.obj hc19.2.2.2.2.1 hc19.2.2.2.2.2.1 (fun x hx => (hc19.2.2.2.2.2.2.2.1 x hx).2)
      have eX : ∀ l, execS (sa A.2.2.2.1 A.2.2.2.2.1) (p :: l) A.1 d = (A.1, d, some (d, p)) := fun l => by
        simp only [execS, hst]
      have hP2 : ∀ h1, CX ct a0 own h1 ax nw snO hl hks rk b1 b2 b3 pd sg P LC BO SIG (A.1, A.2.1, A.2.2.1, A.2.2.2.1, 0, some (d, p)) → Post (nI d) h1 := fun h1 hc1 => by
        have hP := hP own h1 P LC BO
        by_cases q2 : (rdS (sa A.2.2.2.1 A.2.2.2.2.1) p).2.1 < A.2.2.2.2.1
        · rw [if_pos q2] at hP
          by_cases q3 : sa A.2.2.2.1 A.2.2.2.2.1 (rdS (sa A.2.2.2.1 A.2.2.2.2.1) p).2.1 = 59
          · rw [if_pos q3] at hP
            simp only [eX] at hP
            exact hP hc1
          · rw [if_neg q3] at hP
            simp only [eX] at hP
            exact hP hc1
        · rw [if_neg q2] at hP
          simp only [eX] at hP
          exact hP hc1
      obtain ⟨k, rfl⟩ : ∃ k, m = k + 1 := ⟨m - 1, by omega⟩
      show g_X5_carryOut_L49b _ _ _ _ _ _ _ _
      unfold g_X5_carryOut_L49b
      rw [if_neg (show ¬ (60 : Int32) ≤ nI d from nI_ge (b := 60) (by omega) (by decide))]
      refine hc27.sd ?_
      have key : ∀ d, d < 60 → ¬ nI d = (-1 : Int32) := by decide +kernel
      rw [if_neg (show ¬ sdI (some (d, p)) = (-1 : Int32) from key d (by omega))]
      exact hc27.pad0 (fun h3 hc3 => hP2 h3 hc3)
end CA
