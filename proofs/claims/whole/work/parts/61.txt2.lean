/-! append, clear, fault -/
section TT
variable {ct : Nat → ClassId} {a0 : Nat} {own own1 : Nat → Nat} {h h1 : KH} {ax nw : Nat} {snO : Option Nat} {hl : Nat} {hks : List (Nat × DS)} {rk b1 b2 b3 pd sg : Nat} {P LC : Nat → Int64} {BO SIG : Nat → Int32} {A : AS}
theorem put_nar : ∀ n, n < 127 → ((nI n).toUInt32 % 65536).toInt32 = nI n ∧ vp_nar .char (nI n) = nI n := by decide +kernel
theorem c_put {len n : Nat} (hn : n < 127) (hl : len ≤ 60) : f_X1_put ((nI n).toUInt32 % 65536).toInt32 SIG (nI len) = if len < 60 then some (1, upd SIG len (nI n), nI (len + 1)) else some (0, SIG, nI len) := by
  unfold f_X1_put
  rw [(put_nar n hn).1, (put_nar n hn).2, if_neg (show ¬ nI len < (0 : Int32) from fun z => absurd ((nI_ltI (b := 0) (by omega) (by decide)).mp z) (by omega))]
  by_cases q : len < 60
  · rw [if_pos (show nI len < (60 : Int32) from nI_lt (b := 60) q (by decide)), if_pos q, grd_inb q (by decide), nI_clamp (by omega), show nI len + (1 : Int32) = nI (len + 1) from nI_1 len]
  · rw [if_neg (show ¬ nI len < (60 : Int32) from fun z => q ((nI_ltI (b := 60) (by omega) (by decide)).mp z)), if_neg q]
theorem sq_append : St_append ct a0 (Rel ct a0) := by
  intro j hj ax h M a1 hr
  have hr1 := hr.up
  obtain ⟨own, A, ⟨nw, snO, hl, hks, rk, b1, b2, b3, pd, sg, P, LC, BO, SIG, hc⟩, ⟨m1, m2, m3, m4, m5, m6⟩, hG⟩ := hr
  have hpd := hc.2.2.2.1
  have hl60 := hpd.2.2.2.1
  unfold g_X5_append
  rcases in_or a1 (lo := 33) (hi := 126) (by decide) (by decide) with ⟨n, n0, n1, rfl, n2⟩ | ⟨n0, n2⟩
  · rw [show ∀ P Q : Prop, (if nI n < (33 : Int32) then P else if nI n ≤ (126 : Int32) then Q else P) = Q from fun P Q => if_in n0 n1 (by decide)]
    have hin : inW h (PW (fun i => if i = 0 then pd else sg) ct SIG (nI A.2.2.2.2.1)) := by
      refine ⟨fun a e hx => ?_, ?_⟩
      · simp only [List.mem_cons, Prod.mk.injEq, List.not_mem_nil, or_false] at hx
        rcases hx with ⟨x, y⟩ | ⟨x, y⟩
        · rw [x, y]; exact hpd.2.1
        · rw [x, y]; exact hpd.2.2.1
      · show [pd, sg].Nodup
        simp [hc.pdsg]
    have hcp := c_put (SIG := SIG) (n := n) (by omega) hl60
    by_cases q : A.2.2.2.2.1 < 60
    · rw [if_pos q] at hcp
      refine hc.pdR ⟨_, _, _, _, rfl, hin, hcp, fun h4 e4 => ?_⟩
      rw [if_neg ne10]
      have hc4 : CX ct a0 own h4 ax nw snO hl hks rk b1 b2 b3 pd sg P LC BO (upd SIG A.2.2.2.2.1 (nI n)) (A.1, A.2.1, A.2.2.1, nu A.2.2.2.1 A.2.2.2.2.1 n, A.2.2.2.2.1 + 1, A.2.2.2.2.2) := by
        rw [e4.trans (hupw_cons.trans (by rw [hupw_cons, hupw_nil]))]
        refine hc.pad q (fun i hi => ?_)
        show (if i = A.2.2.2.2.1 then nI n else SIG i) = nI (nu A.2.2.2.1 A.2.2.2.2.1 n i) ∧ _
        unfold nu
        by_cases q2 : i = A.2.2.2.2.1
        · rw [if_pos q2, if_pos q2]; exact ⟨rfl, n0, n1⟩
        · rw [if_neg q2, if_neg q2]; exact hpd.2.2.2.2 i (by omega)
      refine hc4.pdR ⟨_, _, hc4.2.2.2.1.2.1, rfl, ?_⟩
      refine ⟨(nI (A.2.2.2.2.1 + 1), upd M.2.2.2.2.2.2.2.2.2.2.2.1 A.2.2.2.2.1 (nI n), nI (A.2.2.2.2.1 + 1)), ?_, rfl, own, _, ⟨_, _, _, _, _, _, _, _, _, _, _, _, _, _, hc4⟩, ⟨m1.mono (by omega), m2.mono (by omega), m3.mono (by omega), m4, ⟨rfl, fun i hi => ?_⟩, m6⟩, hG⟩
      · unfold f_X6_append
        rw [show f_X6_in (nI n) (33 : Int32) (126 : Int32) = some 1 from n2, bnd_s, if_neg ne10, m5.1, if_neg (show ¬ nI A.2.2.2.2.1 = (60 : Int32) from fun z => absurd ((nI_eq (b := 60) (by omega) (by decide)).mp z) (by omega)), grd_inb q (by decide), nI_clamp (by omega), show nI A.2.2.2.2.1 + (1 : Int32) = nI (A.2.2.2.2.1 + 1) from nI_1 _]
      · show (if i = A.2.2.2.2.1 then nI n else M.2.2.2.2.2.2.2.2.2.2.2.1 i) = nI (nu A.2.2.2.1 A.2.2.2.2.1 n i)
        unfold nu
        have hi2 : i < A.2.2.2.2.1 + 1 := hi
        by_cases q2 : i = A.2.2.2.2.1
        · rw [if_pos q2, if_pos q2]
        · rw [if_neg q2, if_neg q2]; exact m5.2 i (by omega)
    · rw [if_neg q] at hcp
      refine hc.pdR ⟨_, _, _, _, rfl, hin, hcp, fun h4 e4 => ?_⟩
      rw [if_pos rfl]
      have eh : h4 = h := by
        rw [e4.trans (hupw_cons.trans (by rw [hupw_cons, hupw_nil]))]
        show hup (hup h sg (.inl (ct 2, 60, .inl SIG))) pd (.inr (2, [.ref sg, .int (nI A.2.2.2.2.1)])) = h
        rw [hup_id hpd.2.2.1]
        exact hup_id hpd.2.1
      rw [eh]
      refine ⟨(-3, M.2.2.2.2.2.2.2.2.2.2.2.1, M.2.2.2.2.2.2.2.2.2.2.2.2.1), ?_, rfl, hr1⟩
      unfold f_X6_append
      rw [show f_X6_in (nI n) (33 : Int32) (126 : Int32) = some 1 from n2, bnd_s, if_neg ne10, if_pos (show M.2.2.2.2.2.2.2.2.2.2.2.2.1 = (60 : Int32) by rw [m5.1, show A.2.2.2.2.1 = 60 by omega]; rfl)]
  · rw [show ∀ P Q : Prop, (if a1 < (33 : Int32) then P else if a1 ≤ (126 : Int32) then Q else P) = P from fun P Q => if_out n0]
    exact ⟨_, by unfold f_X6_append; rw [show f_X6_in a1 (33 : Int32) (126 : Int32) = some 0 from n2, bnd_s, if_pos rfl], rfl, hr1⟩
theorem CX.pad0 (hc : CX ct a0 own h ax nw snO hl hks rk b1 b2 b3 pd sg P LC BO SIG A) {K : KH → Prop} (hK : ∀ h1, CX ct a0 own h1 ax nw snO hl hks rk b1 b2 b3 pd sg P LC BO SIG (A.1, A.2.1, A.2.2.1, A.2.2.2.1, 0, A.2.2.2.2.2) → K h1) : rdR h ax 6 4 (fun v3 => wrF h v3 2 1 (.int (0 : Int32)) K) := by
  have hpd := hc.2.2.2.1
  refine hc.pdR ⟨_, hpd.2.1, (by decide : 1 < 2), fun h1 e1 => hK h1 ?_⟩
  have := hc.pad (SIG' := SIG) (sgn' := A.2.2.2.1) (len' := 0) (Nat.zero_le _) (fun i hi => absurd hi (Nat.not_lt_zero _))
  rw [hup_id hpd.2.2.1] at this
  rw [e1]
  exact this
theorem sq_clear : St_clear ct a0 (Rel ct a0) := by
  intro j hj ax h M hr
  obtain ⟨own, A, ⟨nw, snO, hl, hks, rk, b1, b2, b3, pd, sg, P, LC, BO, SIG, hc⟩, ⟨m1, m2, m3, m4, m5, m6⟩, hG⟩ := hr
  have hpd := hc.2.2.2.1
  refine hc.pdR ⟨_, _, hpd.2.1, rfl, hc.pad0 (fun h1 hc1 => ?_)⟩
  exact ⟨(M.2.2.2.2.2.2.2.2.2.2.2.2.1, 0), rfl, m5.1, own, _, ⟨_, _, _, _, _, _, _, _, _, _, _, _, _, _, hc1⟩, ⟨m1.mono (by omega), m2.mono (by omega), m3.mono (by omega), m4, ⟨rfl, fun i hi => absurd hi (Nat.not_lt_zero _)⟩, m6⟩, hG⟩
/-- a reader -/
abbrev RDv (pd : Nat) (n st lt ts tb nb : Int32) : va_E := .inr (3, [.ref pd, .int n, .int st, .int lt, .int ts, .int tb, .int nb])
theorem p_x2 {q pd : Nat} {Post : Unit → KH → Prop} (hq : h q = some (.inr (3, [.null, .int 0, .int 0, .int 0, .int 0, .int 0, .int 0]))) (hP : Post () (hup h q (RDv pd 0 0 0 0 0 0))) : g_X2_init ct a0 q pd h Post := by
  unfold g_X2_init
  refine ⟨_, hq, by decide, fun h2 e2 => ?_⟩
  rw [e2.trans (hup_id hq)]
  refine ⟨_, hq, by decide, fun h2 e2 => ?_⟩
  rw [e2.trans (hup_id hq)]
  refine ⟨_, hq, by decide, fun h2 e2 => ?_⟩
  rw [e2.trans (hup_id hq)]
  refine ⟨_, hq, by decide, fun h2 e2 => ?_⟩
  rw [e2.trans (hup_id hq)]
  refine ⟨_, hq, by decide, fun h2 e2 => ?_⟩
  rw [e2.trans (hup_id hq)]
  refine ⟨_, hq, by decide, fun h2 e2 => ?_⟩
  rw [e2.trans (hup_id hq)]
  refine ⟨_, hq, by decide, fun h2 e2 => ?_⟩
  rw [e2]
  exact hP
def rwo (q pd sg : Nat) : Nat → Nat := fun i => if i = 0 then q else if i = 1 then pd else sg
theorem CX.rdW (hc : CX ct a0 own h ax nw snO hl hks rk b1 b2 b3 pd sg P LC BO SIG A) {q : Nat} {n st lt ts tb nb : Int32} (hq : h q = some (RDv pd n st lt ts tb nb)) : inW h (RW (rwo q pd sg) ct n st lt ts tb nb SIG (nI A.2.2.2.2.1)) ∧ ∀ n' st' lt' ts' tb' nb', hupw h (RW (rwo q pd sg) ct n' st' lt' ts' tb' nb' SIG (nI A.2.2.2.2.1)) = hup h q (RDv pd n' st' lt' ts' tb' nb') := by
  have hpd := hc.2.2.2.1
  refine ⟨⟨fun a e hx => ?_, ?_⟩, fun n' st' lt' ts' tb' nb' => ?_⟩
  · simp only [List.mem_cons, Prod.mk.injEq, List.not_mem_nil, or_false] at hx
    rcases hx with ⟨x, y⟩ | ⟨x, y⟩ | ⟨x, y⟩
    · rw [x, y]; exact hq
    · rw [x, y]; exact hpd.2.1
    · rw [x, y]; exact hpd.2.2.1
  · show [q, pd, sg].Nodup
    have n1 : q ≠ pd := fun z => by rw [z, hpd.2.1] at hq; cases hq
    have n2 : q ≠ sg := fun z => by rw [z, hpd.2.2.1] at hq; cases hq
    simp [hc.pdsg, n1, n2]
  · rw [hupw_cons, hupw_cons, hupw_cons, hupw_nil]
    show hup (hup (hup h sg (.inl (ct 2, 60, .inl SIG))) pd (.inr (2, [.ref sg, .int (nI A.2.2.2.2.1)]))) q (RDv pd n' st' lt' ts' tb' nb') = _
    rw [hup_id hpd.2.2.1, hup_id hpd.2.1]
theorem CX.rdU (hc : CX ct a0 own h ax nw snO hl hks rk b1 b2 b3 pd sg P LC BO SIG A) {q : Nat} {fs : List Value} (hq : h q = some (.inr (3, fs))) (oq : own q = 2 * q + 2) (e : va_E) : CX ct a0 own (hup h q e) ax nw snO hl hks rk b1 b2 b3 pd sg P LC BO SIG A := by
  have no : ∀ {a d}, isSt ct a0 own h a d → q ≠ a := fun {a d} hs z => by
    obtain ⟨_, e⟩ := hs.obj
    rw [← z, hq] at e; cases e
  refine hc.fr (FrG.up (g := q + 1) (by omega)) (by omega) (fun z => ?_) (fun z => no hc.2.2.2.2.1 (by omega)) (fun a ea z => ?_) (fun x hx z => no (hc.2.2.2.2.2.2.2.1 x hx).1 (by omega))
  · have := hc.1
    rw [show ax = q by omega, hq] at this; cases this
  · rcases hc.2.2.2.2.2.1 with ⟨w, -⟩ | ⟨a', d', z1, z2, z3, z4⟩
    · rw [w] at ea; cases ea
    · rw [z1] at ea; cases ea; exact no z3 (by omega)
/-- a new reader -/
theorem CX.rdN (hc : CX ct a0 own h ax nw snO hl hks rk b1 b2 b3 pd sg P LC BO SIG A) {K : Nat → KH → Prop}
    (hK : ∀ q h3, h q = none → CX ct a0 (oup own q (2 * q + 2)) h3 ax nw snO hl hks rk b1 b2 b3 pd sg P LC BO SIG A → h3 q = some (RDv pd 0 0 0 0 0 0) → K q h3) :
    nwC h (.inr (3, [.null, .int 0, .int 0, .int 0, .int 0, .int 0, .int 0])) (fun q1 h1 => rdR h1 ax 6 4 (fun v2 => g_X2_init ct a0 q1 v2 h1 (fun _ h3 => K q1 h3))) := by
  intro q h1 hq e1
  have f2 : FrG (q + 1) own h (oup own q (2 * q + 2)) h1 := by rw [e1]; exact FrG.new hq
  have hc1 := hc.new hq f2
  refine hc1.pdR (p_x2 (by rw [e1]; exact hup_same) (hK q _ hq ?_ hup_same))
  exact hc1.rdU (by rw [e1]; exact hup_same) oup_same _
theorem CX.saX (hc : CX ct a0 own h ax nw snO hl hks rk b1 b2 b3 pd sg P LC BO SIG A) : SaOK (sa A.2.2.2.1 A.2.2.2.2.1) A.2.2.2.2.1 ∧ SgR SIG (sa A.2.2.2.1 A.2.2.2.2.1) A.2.2.2.2.1 := by
  have hpd := hc.2.2.2.1
  refine ⟨⟨hpd.2.2.2.1, fun i hi => ?_, fun i hi => if_neg (by omega)⟩, fun i hi => ?_⟩
  · unfold sa; rw [if_pos hi]; exact (hpd.2.2.2.2 i hi).2
  · unfold sa; rw [if_pos hi]; exact (hpd.2.2.2.2 i hi).1
theorem TxR.sgX {pad : Nat → Int32} {typed : Int32} {sgn : Nat → Nat} {len : Nat} (h : TxR pad typed sgn len) : SgR pad (sa sgn len) len := fun i hi => by
  unfold sa; rw [if_pos hi]; exact h.2 i hi
theorem sq_fault : St_fault ct a0 (Rel ct a0) := by
  intro j hj ax h M hr
  obtain ⟨own, A, ⟨nw, snO, hl, hks, rk, b1, b2, b3, pd, sg, P, LC, BO, SIG, hc⟩, ⟨m1, m2, m3, m4, m5, m6⟩, hG⟩ := hr
  refine hc.rdN (fun q h3 hq hc3 e3 => ?_)
  obtain ⟨s1, s2⟩ := hc.saX
  obtain ⟨w1, w2⟩ := hc3.rdW e3
  obtain ⟨q4, f1, f2⟩ := c_findFault s1 s2 0 0 0 0 0
  refine ⟨_, _, _, _, _, _, _, _, _, q4, rfl, w1, f1, fun h4 e4 => ?_⟩
  have hc4 : CX ct a0 (oup own q (2 * q + 2)) h4 ax nw snO hl hks rk b1 b2 b3 pd sg P LC BO SIG A := by
    rw [e4, w2]
    exact hc3.rdU e3 oup_same _
  obtain ⟨sp, dd1, g1, -⟩ := m_fault s1 (TxR.sgX m5) M.2.2.2.2.2.2.2.2.2.2.2.2.2.2.2.2.2.2.2.1 M.2.2.2.2.2.2.2.2.2.2.2.2.2.2.2.2.2.2.2.2.1 M.2.2.2.2.2.2.2.2.2.2.2.2.2.2.2.2.2.2.2.2.2
  rw [← m5.1] at g1
  have hx := (scan_len s1 21 0 (Nat.zero_le _)).2
  obtain ⟨k1, k2, k3⟩ := fm_some (x := (scan (sa A.2.2.2.1 A.2.2.2.2.1) A.2.2.2.2.1 21 0).2) (fun p hp => Nat.le_trans (hx p hp) s1.1)
  have rel : ∀ z, fmI (scan (sa A.2.2.2.1 A.2.2.2.2.1) A.2.2.2.2.1 21 0).2 = z → ∃ q : Int32 × (Int32) × (Int32) × (Nat → Int32), f_X6_fault M.2.2.2.2.2.2.2.2.2.2.2.1 M.2.2.2.2.2.2.2.2.2.2.2.2.1 M.2.2.2.2.2.2.2.2.2.2.2.2.2.2.2.2.2.2.2.1 M.2.2.2.2.2.2.2.2.2.2.2.2.2.2.2.2.2.2.2.2.1 M.2.2.2.2.2.2.2.2.2.2.2.2.2.2.2.2.2.2.2.2.2 = some q ∧ q.1 = z ∧ Rel ct a0 (j + 1) ax h4 (M.1, M.2.1, M.2.2.1, M.2.2.2.1, M.2.2.2.2.1, M.2.2.2.2.2.1, M.2.2.2.2.2.2.1, M.2.2.2.2.2.2.2.1, M.2.2.2.2.2.2.2.2.1, M.2.2.2.2.2.2.2.2.2.1, M.2.2.2.2.2.2.2.2.2.2.1, M.2.2.2.2.2.2.2.2.2.2.2.1, M.2.2.2.2.2.2.2.2.2.2.2.2.1, M.2.2.2.2.2.2.2.2.2.2.2.2.2.1, M.2.2.2.2.2.2.2.2.2.2.2.2.2.2.1, M.2.2.2.2.2.2.2.2.2.2.2.2.2.2.2.1, M.2.2.2.2.2.2.2.2.2.2.2.2.2.2.2.2.1, M.2.2.2.2.2.2.2.2.2.2.2.2.2.2.2.2.2.1, M.2.2.2.2.2.2.2.2.2.2.2.2.2.2.2.2.2.2.1, q.2.1, q.2.2.1, q.2.2.2) := fun z hz =>
    ⟨_, g1, hz, _, A, ⟨_, _, _, _, _, _, _, _, _, _, _, _, _, _, hc4⟩, MR.mono (N := 200 * j) ⟨m1, m2, m3, m4, m5, m6⟩ (by omega), hG⟩
  by_cases q5 : (scan (sa A.2.2.2.1 A.2.2.2.2.1) A.2.2.2.2.1 21 0).2 = none
  · rw [if_pos (show q4.1 = (-1 : Int32) by rw [f2]; exact k2.mpr q5)]
    exact rel _ (k1.mpr q5)
  · rw [if_neg (show ¬ q4.1 = (-1 : Int32) by rw [f2]; exact fun z => q5 (k2.mp z))]
    exact rel _ (by rw [f2]; exact k3 q5)
end TT
