/-! the model's states: now, those before, the kept one; how they are copied -/
def StR (N : Nat) (f : Nat → Int32) (b : Nat) (pf : Nat → Int64) (pb : Nat) (d : DS) : Prop := ∃ v E, (∀ i, i < 100 → f (b + i) = nI (v i)) ∧ SR N v E d ∧ d.2.2.2.1 = E.map Prod.fst ∧ pf pb = lN (d.2.2.2.2.2 2) ∧ pf (pb + 1) = lN (d.2.2.2.2.2 3)
section CO
variable {N : Nat} {f : Nat → Int32} {pf : Nat → Int64} {d : DS}
theorem SR.congr {v v' : Nat → Nat} {E : List ME} (h : SR N v E d) (e : ∀ i, i < 100 → v' i = v i) : SR N v' E d := by
  obtain ⟨⟨h1, h2, h3⟩, ⟨n1, n2, n3, n4, n5, n6, n7, n8, n9, n10⟩, hv⟩ := h
  have P : ∀ (x : PL) b, b ≤ 78 → PlR v b x → x.2.1.length ≤ 5 → PlR v' b x := fun x b hb ⟨p1, p2, p3, p4, p5⟩ hl =>
    ⟨(e _ (by omega)).trans p1, fun i hi => (e _ (by omega)).trans (p2 i hi), fun t ht => (e _ (by omega)).trans (p3 t ht), (e _ (by omega)).trans p4, (e _ (by omega)).trans p5⟩
  refine ⟨⟨fun x hx => ?_, h2, fun k hk hz i hi => (e _ (by omega)).trans (h3 k hk hz i hi)⟩, ⟨fun t ht => ⟨(e _ (by omega)).trans (n1 t ht).1, (e _ (by omega)).trans (n1 t ht).2⟩, fun i j hi hj => (e _ (by omega)).trans (n2 i j hi hj), (e _ (by omega)).trans n3, (e _ (by omega)).trans n4, (e _ (by omega)).trans n5, (e _ (by omega)).trans n6, (e _ (by omega)).trans n7, (e _ (by omega)).trans n8, (e _ (by omega)).trans n9, (e _ (by omega)).trans n10⟩, fun i hi => by rw [e i hi]; exact hv i hi⟩
  obtain ⟨a1, a2, a3, a4, a5⟩ := h1 x hx
  have hl := perms_len _ a2.2.1 _ a2.2.2.1
  have hp := pc_le _ a2.2.1
  exact ⟨a1, a2, P _ _ (by omega) a3 (by omega), (e _ (by omega)).trans a4, by rw [e 92 (by omega)]; exact a5⟩
theorem SR.mono {v : Nat → Nat} {E : List ME} (h : SR N v E d) {M : Nat} (hM : N ≤ M) : SR M v E d := ⟨h.1, h.2.1, h.2.2.mono hM⟩
theorem StR.mono {b pb : Nat} (h : StR N f b pf pb d) {M : Nat} (hM : N ≤ M) : StR M f b pf pb d := by
  obtain ⟨v, E, a, r, k⟩ := h
  exact ⟨v, E, a, r.mono hM, k⟩
theorem StR.cp {b pb : Nat} (h : StR N f b pf pb d) {f' : Nat → Int32} {pf' : Nat → Int64} {b' pb' : Nat} (e : ∀ i, i < 100 → f' (b' + i) = f (b + i)) (e1 : pf' pb' = pf pb) (e2 : pf' (pb' + 1) = pf (pb + 1)) : StR N f' b' pf' pb' d := by
  obtain ⟨v, E, a, r, k, k1, k2⟩ := h
  exact ⟨v, E, fun i hi => (e i hi).trans (a i hi), r, k, e1.trans k1, e2.trans k2⟩
theorem nI_all (x : Int32) : nI x.toUInt32.toNat = x := by
  have e : nI x.toUInt32.toNat = (UInt32.ofNat x.toUInt32.toNat).toInt32 := by first | rfl | simp [nI, Int32.ofNat]
  rw [e, UInt32.ofNat_toNat]
  first | rfl | exact Int32.toInt32_toUInt32 x | simp
theorem StR.opn (h : StR N f 0 pf 0 d) : ∃ v E, f = SI v ∧ SR N v E d ∧ d.2.2.2.1 = E.map Prod.fst ∧ PaR pf d := by
  obtain ⟨v, E, a, r, k, k1, k2⟩ := h
  refine ⟨fun k => if k < 100 then v k else (f k).toUInt32.toNat, E, funext fun i => ?_, r.congr (fun i hi => if_pos hi), k, k1, k2⟩
  show f i = nI (if i < 100 then v i else (f i).toUInt32.toNat)
  by_cases q : i < 100
  · rw [if_pos q]; have := a i q; rwa [Nat.zero_add] at this
  · rw [if_neg q, nI_all]
theorem StR.mk0 {v : Nat → Nat} {E : List ME} (r : SR N v E d) (k : d.2.2.2.1 = E.map Prod.fst) (p : PaR pf d) : StR N (SI v) 0 pf 0 d := ⟨v, E, fun i _ => by rw [Nat.zero_add]; rfl, r, k, p.1, p.2⟩
end CO
def cpy (a : Nat → Int32) (b : Nat) (src : Nat → Int32) (i : Nat) : Nat → Int32 := fun k => if b ≤ k ∧ k < b + i then src (k - b) else a k
theorem cpy_0 (a : Nat → Int32) (b : Nat) (src : Nat → Int32) : cpy a b src 0 = a := funext fun k => if_neg (by omega)
theorem cpy_s (a : Nat → Int32) (b : Nat) (src : Nat → Int32) (i : Nat) : upd (cpy a b src i) (b + i) (src i) = cpy a b src (i + 1) := by
  funext k
  show (if k = b + i then src i else cpy a b src i k) = cpy a b src (i + 1) k
  unfold cpy
  by_cases q : k = b + i
  · subst q
    rw [if_pos rfl, if_pos (by omega), show b + i - b = i by omega]
  · rw [if_neg q]
    by_cases q2 : b ≤ k ∧ k < b + i
    · rw [if_pos q2, if_pos (by omega)]
    · rw [if_neg q2, if_neg (by omega)]
theorem cpy_in {a : Nat → Int32} {b : Nat} {src : Nat → Int32} {n i : Nat} (h : i < n) : cpy a b src n (b + i) = src i := by
  unfold cpy
  rw [if_pos (by omega), show b + i - b = i by omega]
theorem cpy_out {a : Nat → Int32} {b : Nat} {src : Nat → Int32} {n k : Nat} (h : k < b ∨ b + n ≤ k) : cpy a b src n k = a k := if_neg (by omega)
def shf {α : Type} (a : Nat → α) (c i : Nat) : Nat → α := fun k => if k < i then a (k + c) else a k
theorem shf_0 {α : Type} (a : Nat → α) (c : Nat) : shf a c 0 = a := funext fun k => if_neg (by omega)
theorem shf_s (a : Nat → Int32) (c i : Nat) : upd (shf a c i) i (shf a c i (i + c)) = shf a c (i + 1) := by
  funext k
  show (if k = i then shf a c i (i + c) else shf a c i k) = shf a c (i + 1) k
  unfold shf
  by_cases q : k = i
  · subst q
    rw [if_pos rfl, if_neg (by omega), if_pos (by omega)]
  · rw [if_neg q]
    by_cases q2 : k < i
    · rw [if_pos q2, if_pos (by omega)]
    · rw [if_neg q2, if_neg (by omega)]
theorem shf_sL (a : Nat → Int64) (c i : Nat) : vp_updL (shf a c i) i (shf a c i (i + c)) = shf a c (i + 1) := by
  funext k
  show (if k = i then shf a c i (i + c) else shf a c i k) = shf a c (i + 1) k
  unfold shf
  by_cases q : k = i
  · subst q
    rw [if_pos rfl, if_neg (by omega), if_pos (by omega)]
  · rw [if_neg q]
    by_cases q2 : k < i
    · rw [if_pos q2, if_pos (by omega)]
    · rw [if_neg q2, if_neg (by omega)]
def up2 (a : Nat → Int64) (b : Nat) (x y : Int64) : Nat → Int64 := vp_updL (vp_updL a b x) (b + 1) y
theorem up2_0 {a : Nat → Int64} {b : Nat} {x y : Int64} : up2 a b x y b = x := (if_neg (by omega)).trans (if_pos rfl)
theorem up2_1 {a : Nat → Int64} {b : Nat} {x y : Int64} : up2 a b x y (b + 1) = y := if_pos rfl
theorem up2_n {a : Nat → Int64} {b k : Nat} {x y : Int64} (h : k < b ∨ b + 2 ≤ k) : up2 a b x y k = a k := (if_neg (by omega)).trans (if_neg (by omega))
theorem z_add (n : Nat) : (0 : Int32) + nI n = nI n := by rw [show (0 : Int32) = nI 0 from rfl, nI_add, Nat.zero_add]
section CP
variable {s kept spare : Nat → Int32} {past : Nat → Int32} {paid pp kp sp : Nat → Int64}
theorem m_ch86 {p : Nat} (hp : p ≤ 3) (rn : Int32) : ∀ (n i : Nat), i ≤ 100 → 100 < n + i → f_X6_changes_L86 s paid rn n (nI i) (cpy past (100 * p) s i) pp (nI p) = some (cpy past (100 * p) s 100, up2 pp (2 * p) (paid 0) (paid 1), nI (p + 1))
  | 0, i, h1, h2 => by omega
  | n + 1, i, h1, h2 => by
    show f_X6_changes_L86b _ _ _ _ _ _ _ _ = _
    unfold f_X6_changes_L86b
    by_cases q : 100 ≤ i
    · have e : i = 100 := by omega
      subst e
      rw [if_pos (by decide +kernel)]
      simp (disch := omega) only [iv, pk_mul, nI_add, grd_inb, nI_clamp]
      rfl
    · rw [if_neg (show ¬ (100 : Int32) ≤ nI i from nI_ge (b := 100) (by omega) (by decide))]
      simp (disch := omega) only [iv, pk_mul, nI_add, grd_inb, nI_clamp]
      rw [cpy_s]
      exact m_ch86 hp rn n (i + 1) (by omega) (by omega)
theorem m_ch48 (rn : Int32) : ∀ (n i : Nat), i ≤ 6 → 6 < n + i → f_X6_changes_L48 s paid rn n (nI i) past (shf pp 2 i) (nI 4) = f_X6_changes_L86 s paid rn 1024 (0 : Int32) past (shf pp 2 6) (nI 3)
  | 0, i, h1, h2 => by omega
  | n + 1, i, h1, h2 => by
    show f_X6_changes_L48b _ _ _ _ _ _ _ _ = _
    unfold f_X6_changes_L48b
    by_cases q : 6 ≤ i
    · have e : i = 6 := by omega
      subst e
      rw [if_pos (by decide +kernel)]
      rfl
    · rw [if_neg (show ¬ (6 : Int32) ≤ nI i from nI_ge (b := 6) (by omega) (by decide))]
      simp (disch := omega) only [iv, pk_mul, nI_add, grd_inb, nI_clamp]
      rw [shf_sL]
      exact m_ch48 rn n (i + 1) (by omega) (by omega)
theorem m_ch18 (rn : Int32) : ∀ (n i : Nat), i ≤ 300 → 300 < n + i → f_X6_changes_L18 s paid rn n (nI i) (shf past 100 i) pp (nI 4) = f_X6_changes_L48 s paid rn 1024 (0 : Int32) (shf past 100 300) pp (nI 4)
  | 0, i, h1, h2 => by omega
  | n + 1, i, h1, h2 => by
    show f_X6_changes_L18b _ _ _ _ _ _ _ _ = _
    unfold f_X6_changes_L18b
    by_cases q : 300 ≤ i
    · have e : i = 300 := by omega
      subst e
      rw [if_pos (by decide +kernel)]
    · rw [if_neg (show ¬ (300 : Int32) ≤ nI i from nI_ge (b := 300) (by omega) (by decide))]
      simp (disch := omega) only [iv, pk_mul, nI_add, grd_inb, nI_clamp]
      rw [shf_s]
      exact m_ch18 rn n (i + 1) (by omega) (by omega)
theorem m_aside {spare : Nat → Int32} : ∀ (n i : Nat), i ≤ 100 → 100 < n + i → f_X6_putsAside_L2 s paid n (nI i) (cpy spare 0 s i) sp = some (cpy spare 0 s 100, up2 sp 0 (paid 0) (paid 1))
  | 0, i, h1, h2 => by omega
  | n + 1, i, h1, h2 => by
    show f_X6_putsAside_L2b _ _ _ _ _ _ = _
    unfold f_X6_putsAside_L2b
    by_cases q : 100 ≤ i
    · have e : i = 100 := by omega
      subst e
      rw [if_pos (by decide +kernel)]
      simp (disch := omega) only [iv, pk_mul, nI_add, grd_inb, nI_clamp]
      rfl
    · rw [if_neg (show ¬ (100 : Int32) ≤ nI i from nI_ge (b := 100) (by omega) (by decide))]
      simp (disch := omega) only [iv, pk_mul, nI_add, grd_inb, nI_clamp]
      have e := cpy_s spare 0 s i
      rw [Nat.zero_add] at e
      rw [e]
      exact m_aside n (i + 1) (by omega) (by omega)
theorem m_back {spare : Nat → Int32} : ∀ (n i : Nat), i ≤ 100 → 100 < n + i → f_X6_putsBack_L2 spare sp n (nI i) (cpy s 0 spare i) paid = some (cpy s 0 spare 100, up2 paid 0 (sp 0) (sp 1))
  | 0, i, h1, h2 => by omega
  | n + 1, i, h1, h2 => by
    show f_X6_putsBack_L2b _ _ _ _ _ _ = _
    unfold f_X6_putsBack_L2b
    by_cases q : 100 ≤ i
    · have e : i = 100 := by omega
      subst e
      rw [if_pos (by decide +kernel)]
      simp (disch := omega) only [iv, pk_mul, nI_add, grd_inb, nI_clamp]
      rfl
    · rw [if_neg (show ¬ (100 : Int32) ≤ nI i from nI_ge (b := 100) (by omega) (by decide))]
      simp (disch := omega) only [iv, pk_mul, nI_add, grd_inb, nI_clamp]
      have e := cpy_s s 0 spare i
      rw [Nat.zero_add] at e
      rw [e]
      exact m_back n (i + 1) (by omega) (by omega)
theorem m_undoL {p : Nat} (hp : p ≤ 3) : ∀ (n i : Nat), i ≤ 100 → 100 < n + i → f_X6_undo_L22 past pp n (nI i) (cpy s 0 (fun k => past (100 * p + k)) i) paid (nI p) = some (nI p, cpy s 0 (fun k => past (100 * p + k)) 100, up2 paid 0 (pp (2 * p)) (pp (2 * p + 1)), nI p)
  | 0, i, h1, h2 => by omega
  | n + 1, i, h1, h2 => by
    show f_X6_undo_L22b _ _ _ _ _ _ _ = _
    unfold f_X6_undo_L22b
    by_cases q : 100 ≤ i
    · have e : i = 100 := by omega
      subst e
      rw [if_pos (by decide +kernel)]
      simp (disch := omega) only [iv, pk_mul, nI_add, grd_inb, nI_clamp]
      rfl
    · rw [if_neg (show ¬ (100 : Int32) ≤ nI i from nI_ge (b := 100) (by omega) (by decide))]
      simp (disch := omega) only [iv, pk_mul, nI_add, grd_inb, nI_clamp]
      have e := cpy_s s 0 (fun k => past (100 * p + k)) i
      rw [Nat.zero_add] at e
      rw [e]
      exact m_undoL hp n (i + 1) (by omega) (by omega)
theorem m_saveL {z : Int32} {pl : Int32} (hpl : f_X6_plans s = some pl) {kept : Nat → Int32} : ∀ (n i : Nat), i ≤ 100 → 100 < n + i → f_X6_save_L7 s paid n (nI i) (cpy kept 0 s i) kp z = some (pl, cpy kept 0 s 100, up2 kp 0 (paid 0) (paid 1), z)
  | 0, i, h1, h2 => by omega
  | n + 1, i, h1, h2 => by
    show f_X6_save_L7b _ _ _ _ _ _ _ = _
    unfold f_X6_save_L7b
    by_cases q : 100 ≤ i
    · have e : i = 100 := by omega
      subst e
      rw [if_pos (by decide +kernel), hpl]
      simp (disch := omega) only [iv, pk_mul, nI_add, grd_inb, nI_clamp]
      rfl
    · rw [if_neg (show ¬ (100 : Int32) ≤ nI i from nI_ge (b := 100) (by omega) (by decide))]
      simp (disch := omega) only [iv, pk_mul, nI_add, grd_inb, nI_clamp]
      have e := cpy_s kept 0 s i
      rw [Nat.zero_add] at e
      rw [e]
      exact m_saveL hpl n (i + 1) (by omega) (by omega)
theorem m_restL {z rn pl : Int32} {kept : Nat → Int32} (hpl : f_X6_plans (cpy s 0 kept 100) = some pl) {q3 : Int32} : ∀ (n i : Nat), i ≤ 100 → 100 < n + i → f_X6_restore_L16 kept kp z rn n (nI i) (cpy s 0 kept i) past paid pp q3 = some (pl, cpy s 0 kept 100, past, up2 paid 0 (kp 0) (kp 1), pp, q3)
  | 0, i, h1, h2 => by omega
  | n + 1, i, h1, h2 => by
    show f_X6_restore_L16b _ _ _ _ _ _ _ _ _ _ _ = _
    unfold f_X6_restore_L16b
    by_cases q : 100 ≤ i
    · have e : i = 100 := by omega
      subst e
      rw [if_pos (by decide +kernel), hpl]
      simp (disch := omega) only [iv, pk_mul, nI_add, grd_inb, nI_clamp]
      rfl
    · rw [if_neg (show ¬ (100 : Int32) ≤ nI i from nI_ge (b := 100) (by omega) (by decide))]
      simp (disch := omega) only [iv, pk_mul, nI_add, grd_inb, nI_clamp]
      have e := cpy_s s 0 kept i
      rw [Nat.zero_add] at e
      rw [e]
      exact m_restL hpl n (i + 1) (by omega) (by omega)
end CP
def HiR (N : Nat) (past : Nat → Int32) (pp : Nat → Int64) (pasts : Int32) (hist : List DS) : Prop := pasts = nI hist.length ∧ hist.length ≤ 4 ∧ ∀ i d, hist[i]? = some d → StR N past (100 * i) pp (2 * i) d
theorem HiR.mono {N M : Nat} {past : Nat → Int32} {pp : Nat → Int64} {pasts : Int32} {hist : List DS} (h : HiR N past pp pasts hist) (hM : N ≤ M) : HiR M past pp pasts hist := ⟨h.1, h.2.1, fun i d hi => (h.2.2 i d hi).mono hM⟩
theorem m_changes {N : Nat} {s past : Nat → Int32} {paid pp : Nat → Int64} {pasts : Int32} {hist : List DS} {d : DS} (hs : StR N s 0 paid 0 d) (hh : HiR N past pp pasts hist) : ∃ past' pp', f_X6_changes s past paid pp pasts (0 : Int32) = some (past', pp', nI (pushH hist d).length) ∧ HiR N past' pp' (nI (pushH hist d).length) (pushH hist d) := by
  obtain ⟨h1, h2, h3⟩ := hh
  subst h1
  unfold f_X6_changes
  rw [if_pos rfl]
  unfold pushH
  by_cases q : hist.length ≤ 3
  · rw [if_neg (show ¬ nI hist.length = (4 : Int32) from fun z => absurd ((nI_eq (b := 4) (by omega) (by decide)).mp z) (by omega)), if_pos q]
    have e := m_ch86 (s := s) (past := past) (paid := paid) (pp := pp) q 0 1024 0 (by decide) (by decide)
    rw [cpy_0] at e
    rw [show f_X6_changes_L86 s paid 0 1024 (0 : Int32) past pp (nI hist.length) = _ from e]
    refine ⟨_, _, by rw [List.length_append]; rfl, rfl, by rw [List.length_append]; exact Nat.succ_le_succ q, fun i d' hi => ?_⟩
    by_cases q2 : i < hist.length
    · rw [List.getElem?_append_left q2] at hi
      exact (h3 i d' hi).cp (fun k hk => cpy_out (by omega)) (up2_n (by omega)) (up2_n (by omega))
    · have hl := (List.getElem?_eq_some_iff.mp hi).1
      rw [List.length_append] at hl
      have e2 : i = hist.length := by simp at hl; omega
      subst e2
      rw [List.getElem?_append_right (Nat.le_refl _), Nat.sub_self] at hi
      cases hi
      exact hs.cp (fun k hk => by rw [cpy_in hk, Nat.zero_add]) up2_0 up2_1
  · have e4 : hist.length = 4 := by omega
    rw [e4, if_pos (show nI 4 = (4 : Int32) from rfl), if_neg (by omega)]
    have a1 := m_ch18 (s := s) (past := past) (paid := paid) (pp := pp) 0 1024 0 (by decide) (by decide)
    rw [shf_0] at a1
    have a2 := m_ch48 (s := s) (past := shf past 100 300) (paid := paid) (pp := pp) 0 1024 0 (by decide) (by decide)
    rw [shf_0] at a2
    have a3 := m_ch86 (s := s) (past := shf past 100 300) (paid := paid) (pp := shf pp 2 6) (p := 3) (by decide) 0 1024 0 (by decide) (by decide)
    rw [cpy_0] at a3
    rw [show f_X6_changes_L18 s paid 0 1024 (0 : Int32) past pp (nI 4) = _ from a1.trans (a2.trans a3)]
    have le : ((hist ++ [d]).eraseIdx 0).length = 4 := by
      cases hist with
      | nil => simp at e4
      | cons x l => simp at e4 ⊢; omega
    refine ⟨_, _, by rw [le], rfl, by rw [le]; decide, fun i d' hi => ?_⟩
    have hi2 : (hist ++ [d])[i + 1]? = some d' := by
      cases hist with
      | nil => simp at e4
      | cons x l => exact hi
    by_cases q2 : i + 1 < hist.length
    · rw [List.getElem?_append_left q2] at hi2
      refine (h3 (i + 1) d' hi2).cp (fun k hk => (cpy_out (by omega)).trans ((if_pos (by omega)).trans ?_)) ((up2_n (by omega)).trans ((if_pos (by omega)).trans ?_)) ((up2_n (by omega)).trans ((if_pos (by omega)).trans ?_))
      · exact congrArg past (by omega)
      · exact congrArg pp (by omega)
      · exact congrArg pp (by omega)
    · have hl := (List.getElem?_eq_some_iff.mp hi).1
      rw [le] at hl
      have e2 : i = 3 := by omega
      subst e2
      rw [List.getElem?_append_right (by omega), e4] at hi2
      cases hi2
      exact hs.cp (fun k hk => by rw [cpy_in hk, Nat.zero_add]) up2_0 up2_1

