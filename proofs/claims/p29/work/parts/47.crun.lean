/-! the class runs queries and carries out deeds; what its states keep to -/
def Fr2 (nw ax : Nat) (own : Nat → Nat) (h : KH) (own1 : Nat → Nat) (h1 : KH) : Prop := ∀ q : Nat, h q ≠ none → own1 q = own q ∧ h1 q ≠ none ∧ (own q / 2 ≠ nw + 1 → own q / 2 ≠ ax + 1 → h1 q = h q)
theorem Fr2.refl {nw ax : Nat} {own : Nat → Nat} {h : KH} : Fr2 nw ax own h own h := fun _ hq => ⟨rfl, hq, fun _ _ => rfl⟩
theorem Fr2.trans {nw ax : Nat} {own own1 own2 : Nat → Nat} {h h1 h2 : KH} (f : Fr2 nw ax own h own1 h1) (f2 : Fr2 nw ax own1 h1 own2 h2) : Fr2 nw ax own h own2 h2 := fun q hq => by
  obtain ⟨a1, a2, a3⟩ := f q hq
  obtain ⟨b1, b2, b3⟩ := f2 q a2
  exact ⟨b1.trans a1, b2, fun x y => (b3 (by rw [a1]; exact x) (by rw [a1]; exact y)).trans (a3 x y)⟩
theorem FrG.n2 {nw ax : Nat} {own own1 : Nat → Nat} {h h1 : KH} (f : FrG (nw + 1) own h own1 h1) : Fr2 nw ax own h own1 h1 := fun q hq => by
  obtain ⟨a1, a2, a3⟩ := f q hq
  exact ⟨a1, a2, fun x _ => a3 x⟩
theorem FrG.a2 {nw ax : Nat} {own own1 : Nat → Nat} {h h1 : KH} (f : FrG (ax + 1) own h own1 h1) : Fr2 nw ax own h own1 h1 := fun q hq => by
  obtain ⟨a1, a2, a3⟩ := f q hq
  exact ⟨a1, a2, fun _ y => a3 y⟩
def DOK (st : DS) : Prop := (st.2.2.2.1.map Prod.fst).Nodup
def LOK (st : DS) : Prop := ∀ x ∈ st.2.2.2.1, keepD st.2.1 st.2.2.2.2.1 x = true
def IV (st : DS) : Prop := SOK st ∧ ZOK st ∧ DOK st ∧ LOK st
theorem NZ.nu {n : Nat} {v : Nat → Nat} (h : NZ n v) {i x : Nat} (hi : i < n) : NZ n (nu v i x) := fun k hk => by
  rw [nu_n (by omega)]
  exact h k hk
theorem c_making : ∀ s, s < 32 → f_X5_makingCost (nI s) = some (lN (10 * pc s)) := by decide +kernel
theorem counted_kp (st : DS) (set : Nat) : (counted st set).2.2.2.1 = st.2.2.2.1.filter (keepD (gcnt st.1 st.2.1 set 5) st.2.2.2.2.1) := rfl
theorem sub_nodup {f : PL → Bool} {l : List PL} (h : (l.map Prod.fst).Nodup) : ((l.filter f).map Prod.fst).Nodup := h.sublist (List.filter_sublist.map _)
theorem gcnt_NZ {rw gs : Nat → Nat} (hg : NZ 5 gs) (set : Nat) : NZ 5 (gcnt rw gs set 5) := fun k hk => by
  unfold gcnt
  rw [if_neg (fun z => by omega)]
  exact hg k hk
theorem counted_ok {st : DS} (hS : SOK st) (hZ : ZOK st) (hD : DOK st) (set : Nat) : IV (counted st set) := by
  obtain ⟨s1, s2, s3, s4, s5, s6⟩ := hS
  obtain ⟨z1, z2, z3, z4⟩ := hZ
  refine ⟨⟨s1, gcnt_NB s1 s2 set 5, s3, fun x hx => s4 x (List.mem_filter.mp hx).1, Nat.le_trans (List.length_filter_le _ _) s5, s6⟩, ⟨z1, gcnt_NZ z2 set, z3, z4.nu (by decide)⟩, sub_nodup hD, fun x hx => (List.mem_filter.mp hx).2⟩
theorem nodup_shape_erase {l : List PL} (h : (l.map Prod.fst).Nodup) (i : Nat) : ((l.eraseIdx i).map Prod.fst).Nodup := by
  rw [← map_erase]
  exact nodup_erase h i
theorem erase_ne {l : List PL} (h : (l.map Prod.fst).Nodup) {i : Nat} {x y : PL} (hi : l[i]? = some x) (hy : y ∈ l.eraseIdx i) : y.1 ≠ x.1 := by
  induction l generalizing i with
  | nil => cases hi
  | cons z l ih =>
    rw [List.map_cons] at h
    obtain ⟨h1, h2⟩ := List.nodup_cons.mp h
    cases i with
    | zero =>
      cases hi
      exact fun e => h1 (List.mem_map.mpr ⟨y, hy, e⟩)
    | succ i =>
      have hx := List.mem_of_getElem? (show l[i]? = some x from hi)
      rcases List.mem_cons.mp (show y ∈ z :: l.eraseIdx i from hy) with hy | hy
      · rw [hy]
        exact fun e => h1 (List.mem_map.mpr ⟨x, hx, e.symm⟩)
      · exact ih h2 hi hy
theorem nodup_snoc {l : List PL} (h : (l.map Prod.fst).Nodup) {x : PL} (hx : ∀ y ∈ l, y.1 ≠ x.1) : ((l ++ [x]).map Prod.fst).Nodup := by
  rw [List.map_append]
  refine List.nodup_append.mpr ⟨h, by simp, fun a ha b hb z => ?_⟩
  obtain ⟨y, hy, e⟩ := List.mem_map.mp ha
  have hb1 : b = x.1 := by simpa using hb
  exact hx y hy (by omega)
theorem runA_D {st : DS} (hD : DOK st) (hZ : ZOK st) {sh : Nat} : DOK (runA st sh).2.2 ∧ ZOK (runA st sh).2.2 := by
  obtain ⟨z1, z2, z3, z4⟩ := hZ
  unfold runA
  split
  · next x hx => exact ⟨nodup_snoc (nodup_shape_erase hD _) (fun y hy => show y.1 ≠ x.1 from erase_ne hD hx hy), z1, z2, z3, z4.nu (by decide)⟩
  · next hx =>
    have hno : ∀ y ∈ st.2.2.2.1, y.1 ≠ sh := fun y hy e => by
      obtain ⟨i, hi⟩ := List.getElem?_of_mem hy
      rw [idxS_some _ i y hD hi e, hi] at hx
      cases hx
    unfold keptNew
    split
    · exact ⟨nodup_snoc hD hno, z1, z2, z3, (z4.nu (by decide)).nu (by decide)⟩
    · split
      · exact ⟨nodup_snoc (nodup_shape_erase hD _) (fun y hy => hno y (mem_erase hy)), z1, z2, z3, ((z4.nu (by decide)).nu (by decide)).nu (by decide)⟩
      · exact ⟨hD, z1, z2, z3, ((z4.nu (by decide)).nu (by decide)).nu (by decide)⟩
theorem runA_S {st : DS} (hS : SOK st) {sh : Nat} (hsh : sh < 32) (h0 : sh ≠ 0) : SOK (runA st sh).2.2 ∧ (runA st sh).1 ∈ perms sh ∨ SOK (runA st sh).2.2 := by
  obtain ⟨r1, r2, r3, r4, r5, r6⟩ := runA_e st sh
  obtain ⟨q1, q2, q3⟩ := runA_ok hS hsh h0
  obtain ⟨s1, s2, s3, s4, s5, s6⟩ := hS
  exact Or.inr ⟨by rw [r1]; exact s1, by rw [r2]; exact s2, by rw [r3]; exact s3, q1, q2, by rw [r4]; exact s6⟩
theorem runA_S2 {st : DS} (hS : SOK st) {sh : Nat} (hsh : sh < 32) (h0 : sh ≠ 0) : SOK (runA st sh).2.2 := (runA_S hS hsh h0).elim (fun h => h.1) (fun h => h)
theorem run_ok {st : DS} (h : IV st) {sh : Nat} (hsh : sh < 32) (h0 : sh ≠ 0) : IV (runD st sh) := by
  obtain ⟨hS, hZ, hD, -⟩ := h
  have a := runA_S2 hS hsh h0
  obtain ⟨d1, d2⟩ := runA_D hD hZ (sh := sh)
  exact counted_ok (st := addC (runA st sh).2.2 2 (costN (szN st.1 st.2.2.1) (runA st sh).1)) a ⟨d2.1, d2.2.1, d2.2.2.1, d2.2.2.2.nu (by decide)⟩ d1 sh
section CR
variable {ct : Nat → ClassId} {a0 : Nat} {own : Nat → Nat} {h : KH} {ax nw : Nat} {snO : Option Nat} {hl : Nat} {hks : List (Nat × DS)} {rk b1 b2 b3 pd sg : Nat} {P LC : Nat → Int64} {BO SIG : Nat → Int32} {A : AS}
theorem p_run73 (hc : CX ct a0 own h ax nw snO hl hks rk b1 b2 b3 pd sg P LC BO SIG A) (hS : SOK A.1) {sh mk : Nat} (hsh : sh < 32) {p : List Nat} (hp : p ∈ perms sh) {Post : Int64 → KH → Prop}
    (hP : ∀ own1 h1 P' LC' BO', CX ct a0 own1 h1 ax nw snO hl hks rk b1 b2 b3 pd sg P' LC' BO' SIG (counted (addC A.1 2 (costN (szN A.1.1 A.1.2.2.1) p)) sh, A.2) → Fr2 nw ax own h own1 h1 → Post (lN (mk + costN (szN A.1.1 A.1.2.2.1) p)) h1) : g_X5_runQuery_J73 ct a0 ax (nI sh) Post (nI (oct p)) (lN mk) h := by
  unfold g_X5_runQuery_J73
  refine hc.o (p_reckoned hc hS (fun h1 P' LC' BO' hR hc1 f1 => ?_))
  rw [if_neg (show ¬ (1 : Int32) = 0 by decide)] at hR
  refine ⟨_, P', LC', BO', _, rfl, hc1.2.2.1.qw, c_cost hS.1 hS.2.2.1 hR hsh hp, ?_⟩
  obtain ⟨r, g, pp, l, pr, kas, hs⟩ := hc1.2.2.2.2.1
  refine hc1.nowR (hs.cnt (c := 2) (by decide) (costN (szN A.1.1 A.1.2.2.1) p) (fun h2 hs2 f2 => ?_))
  have hc2 := hc1.now f2 (d := addC A.1 2 (costN (szN A.1.1 A.1.2.2.1) p)) ⟨_, _, _, _, _, _, hs2⟩
  have hS2 : SOK (addC A.1 2 (costN (szN A.1.1 A.1.2.2.1) p)) := hS
  refine hc2.nowR (hs2.o (p_count hs2 hS2 hsh (fun own3 h3 hs3 f3 => ?_)))
  obtain ⟨kas3, hs3⟩ := hs3
  rw [lN_add]
  exact hP own3 h3 P' LC' BO' (hc2.now f3 ⟨_, _, _, _, _, _, hs3⟩) (f1.a2.trans (f2.n2.trans f3.n2))
theorem p_runQuery (hc : CX ct a0 own h ax nw snO hl hks rk b1 b2 b3 pd sg P LC BO SIG A) (hI : IV A.1) {sh : Nat} (hsh : sh < 32) (h0 : sh ≠ 0) {Post : Int64 → KH → Prop}
    (hP : ∀ own1 h1 P' LC' BO', CX ct a0 own1 h1 ax nw snO hl hks rk b1 b2 b3 pd sg P' LC' BO' SIG (runD A.1 sh, A.2) → Fr2 nw ax own h own1 h1 → Post (lN (runC A.1 sh)) h1) : g_X5_runQuery ct a0 ax (nI sh) h Post := by
  obtain ⟨hS, hZ, hD, hL⟩ := hI
  obtain ⟨r, g, pp, l, pr, kas, hs⟩ := hc.2.2.2.2.1
  have hok : ∀ x ∈ kas, POK x.2 := fun x hx => hS.2.2.2.1 x.2 (by rw [hs.kpe]; exact List.mem_map_of_mem hx)
  have hlen := hs.len
  have e0 : kas.length = A.1.2.2.2.1.length := by rw [hs.kpe, List.length_map]
  obtain ⟨re1, re2, re3, re4, re5, re6⟩ := runA_e A.1 sh
  have hS2 := runA_S2 hS hsh h0
  unfold g_X5_runQuery
  refine hc.nowR (hs.o (p_placeOf hs hok hsh (fun i x hi hx => ?_) (fun hno => ?_) 1024 0 (Nat.zero_le _) (by omega) (fun j x hj => by omega)))
  · have hii : A.1.2.2.2.1[i]? = some x.2 := by rw [hs.kpe, List.getElem?_map, hi]; rfl
    have hidx := idxS_some (sh := sh) A.1.2.2.2.1 i x.2 hD hii hx
    have hA : runA A.1 sh = (x.2.2.1, 0, used A.1 i x.2) := by unfold runA; rw [hidx, hii]
    have hlt := (List.getElem?_eq_some_iff.mp hi).1
    have ho := hok x (List.mem_of_getElem? hi)
    have hkx := hs.kp x (List.mem_of_getElem? hi)
    rw [if_neg (fun z => absurd (show nI i < (0 : Int32) by rw [z]; decide) (nI_pos (by omega)))]
    refine hc.nowR (hs.gt hi (hkx.ord (hc.nowR (hs.o (p_useAgain hs (by rw [e0]; exact hS.2.2.2.2.1) hi ho.2.2.2.2 (fun own2 h2 k hs2 f2 => ?_))))))
    have hc2 := hc.now f2 (d := (runA A.1 sh).2.2) ⟨_, _, _, _, _, _, by
      rw [hA]
      have e : (kas.eraseIdx i ++ [(k, x.2.1, x.2.2.1, x.2.2.2.1, x.2.2.2.2.1 + 1, x.2.2.2.2.2)]).map Prod.snd = A.1.2.2.2.1.eraseIdx i ++ [(x.2.1, x.2.2.1, x.2.2.2.1, x.2.2.2.2.1 + 1, x.2.2.2.2.2)] := by
        rw [List.map_append, ← map_erase, ← hs.kpe]
        rfl
      rw [e] at hs2
      exact hs2⟩
    refine p_run73 hc2 hS2 (mk := 0) hsh (by rw [← hx]; exact ho.2.2.1) (fun own3 h3 P' LC' BO' hc3 f3 => ?_)
    have hPP := hP own3 h3 P' LC' BO'
    unfold runD runC at hPP
    rw [hA] at hPP hc3 ⊢
    exact hPP hc3 (f2.n2.trans f3)
  · have hnone := idxS_none (sh := sh) A.1.2.2.2.1 (fun x hx => by
      rw [hs.kpe] at hx
      obtain ⟨e, he, ee⟩ := List.mem_map.mp hx
      rw [← ee]
      exact hno e he)
    have hA : runA A.1 sh = (bestP (szN A.1.2.1 A.1.2.2.1) sh, 10 * pc sh, keptNew A.1 (sh, bestP (szN A.1.2.1 A.1.2.2.1) sh, A.1.2.1, 1, 0) (10 * pc sh)) := by unfold runA; rw [hnone]
    rw [if_pos rfl]
    refine hc.o (p_reckoned hc hS (fun h1 P' LC' BO' hR hc1 f1 => ?_))
    rw [if_pos (show (0 : Int32) = 0 from rfl)] at hR
    refine ⟨_, P', LC', BO', _, rfl, hc1.2.2.1.qw, c_best hR hsh h0, _, c_making sh hsh, ?_⟩
    obtain ⟨r1, g1, pp1, l1, pr1, kas1, hs1⟩ := hc1.2.2.2.2.1
    refine hc1.nowR (hs1.o (p_keepNew hs1 hS (fun own2 h2 hs2 f2 => ?_)))
    obtain ⟨kas2, hs2⟩ := hs2
    have hc2 := hc1.now f2 (d := (runA A.1 sh).2.2) ⟨_, _, _, _, _, _, by rw [hA]; exact hs2⟩
    refine p_run73 hc2 hS2 (mk := 10 * pc sh) hsh (bestP_bst (szN A.1.2.1 A.1.2.2.1) hsh).1 (fun own3 h3 P'' LC'' BO'' hc3 f3 => ?_)
    have hPP := hP own3 h3 P'' LC'' BO''
    have e1 : (runA A.1 sh).2.2.1 = A.1.1 := re1
    have e3 : (runA A.1 sh).2.2.2.2.1 = A.1.2.2.1 := re3
    unfold runD runC at hPP
    rw [e1, e3] at hc3 ⊢
    rw [hA] at hPP hc3
    exact hPP hc3 (f1.a2.trans (f2.n2.trans f3))
end CR
