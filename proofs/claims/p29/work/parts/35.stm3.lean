/-! what throws out, counts, pushes out, keeps -/
theorem snoc_or {α : Type} : ∀ (l : List α), l = [] ∨ ∃ l' x, l = l' ++ [x]
  | [] => Or.inl rfl
  | x :: l => Or.inr (by
    rcases snoc_or l with h | ⟨l', y, h⟩
    · exact ⟨[], x, by rw [h]; rfl⟩
    · exact ⟨x :: l', y, by rw [h]; rfl⟩)
theorem get_mid {α : Type} {A B : List α} {x : α} : (A ++ [x] ++ B)[A.length]? = some x := by
  rw [List.append_assoc, List.getElem?_append_right (Nat.le_refl _), Nat.sub_self]
  rfl
theorem erase_mid {α : Type} {A B : List α} {x : α} : (A ++ [x] ++ B).eraseIdx A.length = A ++ B := by
  rw [List.append_assoc, List.eraseIdx_append_of_length_le (Nat.le_refl _), Nat.sub_self]
  rfl
theorem filt_t {α : Type} {f : α → Bool} {A B : List α} {x : α} (h : f x = true) : (A ++ [x]).filter f ++ B = A.filter f ++ x :: B := by
  rw [List.filter_append, List.filter_cons_of_pos h, List.filter_nil, List.append_assoc]
  rfl
theorem filt_f {α : Type} {f : α → Bool} {A B : List α} {x : α} (h : f x = false) : (A ++ [x]).filter f ++ B = A.filter f ++ B := by
  rw [List.filter_append, List.filter_cons_of_neg (by rw [h]; decide), List.filter_nil, List.append_nil]
theorem m1_lt : nI 0 + (-1 : Int32) < 0 := by decide +kernel
theorem sub1_int : ∀ n, n < 10 → nI n - (1 : Int32) = nI n + (-1) := by decide +kernel
def keepD (gv : Nat → Nat) (dl : Nat) (x : PL) : Bool := !(x.2.2.2.2 == 0 && drB gv dl x)
def keepJ (pair : Nat) (x : PL) : Bool := !(x.2.2.2.2 == 0 && decide (x.1 &&& pair = pair))
/-- the state behind a throwing out: f keeps, the counter c counts -/
def thrown (st : DS) (c : Nat) (f : PL → Bool) : DS := (st.1, st.2.1, st.2.2.1, st.2.2.2.1.filter f, st.2.2.2.2.1, nu st.2.2.2.2.2 c (st.2.2.2.2.2 c + (st.2.2.2.1.length - (st.2.2.2.1.filter f).length)))
section SQ
variable {ct : Nat → ClassId} {a0 : Nat} {a r g p l : Nat} {pr : Nat → Nat}
theorem StX.cnt {own : Nat → Nat} {h : KH} {kas : List (Nat × PL)} {st : DS} (hs : StX ct a0 own h a r g p l pr kas st) {c : Nat} (hc : c < 9) (x : Nat) {K : KH → Prop} (hK : ∀ h1, StX ct a0 own h1 a r g p l pr kas (st.1, st.2.1, st.2.2.1, st.2.2.2.1, st.2.2.2.2.1, nu st.2.2.2.2.2 c (st.2.2.2.2.2 c + x)) → FrG (a + 1) own h own h1 → K h1) : rdL h a 5 (5 + c) (fun v => wrF h a 5 (5 + c) (.long (v + lN x)) K) := by
  have e1 : (stF r g p l st.2.2.2.2.1 st.2.2.2.2.2)[5 + c]? = some (.long (lN (st.2.2.2.2.2 c))) := by
    match c, hc with
    | 0, _ => rfl
    | 1, _ => rfl
    | 2, _ => rfl
    | 3, _ => rfl
    | 4, _ => rfl
    | 5, _ => rfl
    | 6, _ => rfl
    | 7, _ => rfl
    | 8, _ => rfl
  have e2 : (stF r g p l st.2.2.2.2.1 st.2.2.2.2.2).set (5 + c) (.long (lN (st.2.2.2.2.2 c) + lN x)) = stF r g p l st.2.2.2.2.1 (nu st.2.2.2.2.2 c (st.2.2.2.2.2 c + x)) := by
    rw [lN_add]
    match c, hc with
    | 0, _ => rfl
    | 1, _ => rfl
    | 2, _ => rfl
    | 3, _ => rfl
    | 4, _ => rfl
    | 5, _ => rfl
    | 6, _ => rfl
    | 7, _ => rfl
    | 8, _ => rfl
  refine ⟨_, _, hs.1, e1, _, hs.1, (show 5 + c < 14 by omega), fun h1 eh => ?_⟩
  obtain ⟨g1, g2⟩ := hs.obj st.2.2.2.2.1 (nu st.2.2.2.2.2 c (st.2.2.2.2.2 c + x))
  rw [e2] at eh
  subst eh
  exact hK _ g1 g2
theorem p_thrD (N : Nat) (hN : N ≤ 9) {Post : Int32 → KH → Prop} : ∀ (n : Nat) (A B : List (Nat × PL)) (own : Nat → Nat) (h : KH) (st : DS) (x2 : Int32), x2 = nI A.length + (-1) → A.length < n → SOK st → A.length + B.length ≤ N → StX ct a0 own h a r g p l pr (A ++ B) st →
    (∀ own1 h1, StX ct a0 own1 h1 a r g p l pr (A.filter (fun x => keepD st.2.1 st.2.2.2.2.1 x.2) ++ B) (st.1, st.2.1, st.2.2.1, (A.filter (fun x => keepD st.2.1 st.2.2.2.2.1 x.2) ++ B).map Prod.snd, st.2.2.2.2.1, nu st.2.2.2.2.2 4 (st.2.2.2.2.2 4 + (N - (A.filter (fun x => keepD st.2.1 st.2.2.2.2.1 x.2) ++ B).length))) → FrG (a + 1) own h own1 h1 → Post (nI (N - (A.filter (fun x => keepD st.2.1 st.2.2.2.2.1 x.2) ++ B).length)) h1) →
    g_X4_throwOutDrifted_L12 ct a0 a Post n (nI N) x2 h
  | 0, A, B, own, h, st, x2, _, h1, _, _, _, _ => absurd h1 (Nat.not_lt_zero _)
  | n + 1, A, B, own, h, st, x2, hx2, h1, hS, hAB, hs, hP => by
    show g_X4_throwOutDrifted_L12b _ _ _ _ _ _ _ _
    unfold g_X4_throwOutDrifted_L12b
    rcases snoc_or A with e | ⟨A', x, e⟩
    · subst e
      rw [if_pos (hx2 ▸ m1_lt)]
      refine hs.sz ?_
      simp only [List.nil_append, List.filter_nil, List.length_nil, Nat.zero_add] at hP hAB ⊢
      rw [pk_sub hAB, nI_l (by omega)]
      refine hs.cnt (c := 4) (by decide) (N - B.length) (fun h1 hs1 f1 => hP _ h1 ?_ f1)
      have he := hs.kpe
      rw [List.nil_append] at he hs1
      rw [← he]
      exact hs1
    · have hal : A.length = A'.length + 1 := by rw [e, List.length_append]; rfl
      have hx3 : x2 = nI A'.length := by rw [hx2, hal]; exact pk_m1 _
      rw [if_neg (hx3 ▸ nI_pos (by omega))]
      clear hx2
      subst hx3
      subst e
      have hi : (A' ++ [x] ++ B)[A'.length]? = some x := get_mid
      have hxm := List.mem_of_getElem? hi
      have hx := hs.kp x hxm
      have ho : POK x.2 := hS.2.2.2.1 x.2 (by rw [hs.kpe]; exact List.mem_map_of_mem hxm)
      have hpn := ho.2.2.2.2
      have skip : keepD st.2.1 st.2.2.2.2.1 x.2 = true → ∀ k, k = nI A'.length + (-1 : Int32) → g_X4_throwOutDrifted_L12 ct a0 a Post n (nI N) k h := fun hk k ek => by
        rw [ek]
        refine p_thrD N hN n A' (x :: B) own h st _ rfl (by omega) hS (by rw [List.length_cons]; omega) (by rw [List.append_assoc] at hs; exact hs) ?_
        rw [show (A' ++ [x]).filter (fun x => keepD st.2.1 st.2.2.2.2.1 x.2) ++ B = A'.filter (fun x => keepD st.2.1 st.2.2.2.2.1 x.2) ++ x :: B from filt_t hk] at hP
        exact hP
      refine hs.gt hi (hx.pin ?_)
      by_cases q : x.2.2.2.2.2 = 0
      · rw [if_pos (by rw [q]; rfl)]
        refine hs.o ?_
        rw [show (0 : Int32) = nI 0 from rfl]
        refine p_drifts hs hS hx ho (by decide) ?_
        rw [gsel_0]
        by_cases q2 : drB st.2.1 st.2.2.2.2.1 x.2 = true
        · have hk : keepD st.2.1 st.2.2.2.2.1 x.2 = false := by unfold keepD; rw [q, q2]; rfl
          rw [if_pos q2, if_neg (by decide +kernel)]
          refine hs.rm hi (fun h1 hs1 f1 hx1 => ?_)
          rw [erase_mid] at hs1
          rw [show (A' ++ [x]).filter (fun x => keepD st.2.1 st.2.2.2.2.1 x.2) ++ B = A'.filter (fun x => keepD st.2.1 st.2.2.2.2.1 x.2) ++ B from filt_f hk] at hP
          have hS1 : SOK (st.1, st.2.1, st.2.2.1, (A' ++ B).map Prod.snd, st.2.2.2.2) := by
            obtain ⟨s1, s2, s3, s4, s5, s6⟩ := hS
            refine ⟨s1, s2, s3, fun y hy => ?_, ?_, s6⟩
            · refine s4 y ?_
              rw [hs.kpe]
              obtain ⟨z, hz, ez⟩ := List.mem_map.mp hy
              refine List.mem_map.mpr ⟨z, ?_, ez⟩
              rcases List.mem_append.mp hz with hz | hz
              · exact List.mem_append_left _ (List.mem_append_left _ hz)
              · exact List.mem_append_right _ hz
            · rw [hs.kpe, List.length_map] at s5
              show ((A' ++ B).map Prod.snd).length ≤ 4
              simp only [List.length_append, List.length_map, List.length_cons, List.length_nil] at s5 ⊢
              omega
          exact p_thrD N hN n A' B own h1 _ _ rfl (by omega) hS1 (by omega) hs1 (fun own2 h2 hs2 f2 => hP own2 h2 hs2 (f1.trans f2))
        · rw [if_neg q2, if_pos (by rfl)]
          exact skip (by unfold keepD; rw [Bool.not_eq_true _ |>.mp q2, Bool.and_false]; rfl) _ rfl
      · rw [if_neg (nI_ne0 (by omega) (by omega))]
        exact skip (by unfold keepD; rw [beq_eq_false_iff_ne.mpr q]; rfl) _ rfl
theorem filter_map2 {α : Type} (f : α → Bool) : ∀ (kas : List (Nat × α)), (kas.filter (fun x => f x.2)).map Prod.snd = (kas.map Prod.snd).filter f
  | [] => rfl
  | x :: l => by
    rw [List.map_cons, List.filter_cons, List.filter_cons]
    have ih := filter_map2 f l
    cases f x.2 with
    | true => rw [if_pos rfl, if_pos rfl, List.map_cons, ih]
    | false => rw [if_neg (by decide), if_neg (by decide), ih]
theorem p_throwD {own : Nat → Nat} {h : KH} {kas : List (Nat × PL)} {st : DS} (hs : StX ct a0 own h a r g p l pr kas st) (hS : SOK st) {Post : Int32 → KH → Prop}
    (hP : ∀ own1 h1, (∃ kas1, StX ct a0 own1 h1 a r g p l pr kas1 (thrown st 4 (keepD st.2.1 st.2.2.2.2.1))) → FrG (a + 1) own h own1 h1 → Post (nI (st.2.2.2.1.length - (st.2.2.2.1.filter (keepD st.2.1 st.2.2.2.2.1)).length)) h1) : g_X4_throwOutDrifted ct a0 a h Post := by
  have hlen := hs.len
  have he := hs.kpe
  have e2 := filter_map2 (keepD st.2.1 st.2.2.2.2.1) kas
  rw [← he] at e2
  have e1 : (kas.filter (fun x => keepD st.2.1 st.2.2.2.2.1 x.2)).length = (st.2.2.2.1.filter (keepD st.2.1 st.2.2.2.2.1)).length := by rw [← e2, List.length_map]
  have e0 : kas.length = st.2.2.2.1.length := by rw [he, List.length_map]
  unfold g_X4_throwOutDrifted
  refine hs.sz ?_
  have e9 := sub1_int kas.length (by omega)
  generalize nI kas.length - (1 : Int32) = x2 at e9
  refine p_thrD kas.length hlen 1024 kas [] own h st x2 e9 (by omega) hS (Nat.le_refl _) (by rw [List.append_nil]; exact hs) (fun own1 h1 hs1 f1 => ?_)
  rw [List.append_nil, e1, e0] at hs1 ⊢
  rw [e2] at hs1
  exact hP own1 h1 ⟨_, hs1⟩ f1
theorem p_thrJ (N pair : Nat) (hN : N ≤ 9) (hpr : pair < 32) {Post : Int32 → KH → Prop} : ∀ (n : Nat) (A B : List (Nat × PL)) (own : Nat → Nat) (h : KH) (st : DS) (x2 : Int32), x2 = nI A.length + (-1) → A.length < n → (∀ x ∈ A, POK x.2) → A.length + B.length ≤ N → StX ct a0 own h a r g p l pr (A ++ B) st →
    (∀ own1 h1, StX ct a0 own1 h1 a r g p l pr (A.filter (fun x => keepJ pair x.2) ++ B) (st.1, st.2.1, st.2.2.1, (A.filter (fun x => keepJ pair x.2) ++ B).map Prod.snd, st.2.2.2.2.1, nu st.2.2.2.2.2 6 (st.2.2.2.2.2 6 + (N - (A.filter (fun x => keepJ pair x.2) ++ B).length))) → FrG (a + 1) own h own1 h1 → Post (nI (N - (A.filter (fun x => keepJ pair x.2) ++ B).length)) h1) →
    g_X4_throwOutJoins_L12 ct a0 a (nI pair) Post n (nI N) x2 h
  | 0, A, B, own, h, st, x2, _, h1, _, _, _, _ => absurd h1 (Nat.not_lt_zero _)
  | n + 1, A, B, own, h, st, x2, hx2, h1, hS, hAB, hs, hP => by
    show g_X4_throwOutJoins_L12b _ _ _ _ _ _ _ _ _
    unfold g_X4_throwOutJoins_L12b
    rcases snoc_or A with e | ⟨A', x, e⟩
    · subst e
      rw [if_pos (hx2 ▸ m1_lt)]
      refine hs.sz ?_
      simp only [List.nil_append, List.filter_nil, List.length_nil, Nat.zero_add] at hP hAB ⊢
      rw [pk_sub hAB, nI_l (by omega)]
      refine hs.cnt (c := 6) (by decide) (N - B.length) (fun h1 hs1 f1 => hP _ h1 ?_ f1)
      have he := hs.kpe
      rw [List.nil_append] at he hs1
      rw [← he]
      exact hs1
    · have hal : A.length = A'.length + 1 := by rw [e, List.length_append]; rfl
      have hx3 : x2 = nI A'.length := by rw [hx2, hal]; exact pk_m1 _
      rw [if_neg (hx3 ▸ nI_pos (by omega))]
      clear hx2
      subst hx3
      subst e
      have hi : (A' ++ [x] ++ B)[A'.length]? = some x := get_mid
      have hxm := List.mem_of_getElem? hi
      have hx := hs.kp x hxm
      have ho : POK x.2 := hS x (List.mem_append_right _ (List.mem_singleton.mpr rfl))
      have hS' : ∀ x ∈ A', POK x.2 := fun y hy => hS y (List.mem_append_left _ hy)
      have hpn := ho.2.2.2.2
      have skip : keepJ pair x.2 = true → ∀ k, k = nI A'.length + (-1 : Int32) → g_X4_throwOutJoins_L12 ct a0 a (nI pair) Post n (nI N) k h := fun hk k ek => by
        rw [ek]
        refine p_thrJ N pair hN hpr n A' (x :: B) own h st _ rfl (by omega) hS' (by rw [List.length_cons]; omega) (by rw [List.append_assoc] at hs; exact hs) ?_
        rw [show (A' ++ [x]).filter (fun x => keepJ pair x.2) ++ B = A'.filter (fun x => keepJ pair x.2) ++ x :: B from filt_t hk] at hP
        exact hP
      refine hs.gt hi (hx.pin ?_)
      by_cases q : x.2.2.2.2.2 = 0
      · rw [if_pos (by rw [q]; rfl)]
        refine hx.sh ⟨_, c_hasAll _ ho.2.1 pair hpr, ?_⟩
        by_cases q2 : x.2.1 &&& pair = pair
        · have hk : keepJ pair x.2 = false := by unfold keepJ; rw [q, decide_eq_true q2]; rfl
          rw [if_pos q2, if_neg (by decide +kernel)]
          refine hs.rm hi (fun h1 hs1 f1 hx1 => ?_)
          rw [erase_mid] at hs1
          rw [show (A' ++ [x]).filter (fun x => keepJ pair x.2) ++ B = A'.filter (fun x => keepJ pair x.2) ++ B from filt_f hk] at hP
          exact p_thrJ N pair hN hpr n A' B own h1 _ _ rfl (by omega) hS' (by omega) hs1 (fun own2 h2 hs2 f2 => hP own2 h2 hs2 (f1.trans f2))
        · rw [if_neg q2, if_pos (by rfl)]
          exact skip (by unfold keepJ; rw [decide_eq_false q2, Bool.and_false]; rfl) _ rfl
      · rw [if_neg (nI_ne0 (by omega) (by omega))]
        exact skip (by unfold keepJ; rw [beq_eq_false_iff_ne.mpr q]; rfl) _ rfl
theorem p_throwJ {own : Nat → Nat} {h : KH} {kas : List (Nat × PL)} {st : DS} (hs : StX ct a0 own h a r g p l pr kas st) (hS : ∀ x ∈ st.2.2.2.1, POK x) {pair : Nat} (hpr : pair < 32) {Post : Int32 → KH → Prop}
    (hP : ∀ own1 h1, (∃ kas1, StX ct a0 own1 h1 a r g p l pr kas1 (thrown st 6 (keepJ pair))) → FrG (a + 1) own h own1 h1 → Post (nI (st.2.2.2.1.length - (st.2.2.2.1.filter (keepJ pair)).length)) h1) : g_X4_throwOutJoins ct a0 a (nI pair) h Post := by
  have hlen := hs.len
  have he := hs.kpe
  have e2 := filter_map2 (keepJ pair) kas
  rw [← he] at e2
  have e1 : (kas.filter (fun x => keepJ pair x.2)).length = (st.2.2.2.1.filter (keepJ pair)).length := by rw [← e2, List.length_map]
  have e0 : kas.length = st.2.2.2.1.length := by rw [he, List.length_map]
  unfold g_X4_throwOutJoins
  refine hs.sz ?_
  have e9 := sub1_int kas.length (by omega)
  generalize nI kas.length - (1 : Int32) = x2 at e9
  refine p_thrJ kas.length pair hlen hpr 1024 kas [] own h st x2 e9 (by omega) (fun x hx => hS x.2 (by rw [he]; exact List.mem_map_of_mem hx)) (Nat.le_refl _) (by rw [List.append_nil]; exact hs) (fun own1 h1 hs1 f1 => ?_)
  rw [List.append_nil, e1, e0] at hs1 ⊢
  rw [e2] at hs1
  exact hP own1 h1 ⟨_, hs1⟩ f1
/-- the guesses behind a counting of set below t -/
def gcnt (rw gs : Nat → Nat) (set t : Nat) : Nat → Nat := fun u => if u < t ∧ bi set u = 1 then rw u else gs u
theorem gcnt_0 (rw gs : Nat → Nat) (set : Nat) : gcnt rw gs set 0 = gs := by
  funext u
  unfold gcnt
  rw [if_neg (fun z => Nat.not_lt_zero _ z.1)]
theorem gcnt_s {rw gs : Nat → Nat} {set t : Nat} (h : bi set t = 1) : gcnt rw gs set (t + 1) = nu (gcnt rw gs set t) t (rw t) := by
  funext u
  unfold nu gcnt
  by_cases e : u = t
  · subst e
    rw [if_pos ⟨Nat.lt_succ_self _, h⟩, if_pos rfl]
  · rw [if_neg e]
    by_cases q : u < t ∧ bi set u = 1
    · rw [if_pos ⟨by omega, q.2⟩, if_pos q]
    · rw [if_neg (fun z => q ⟨by omega, z.2⟩), if_neg q]
theorem gcnt_n {rw gs : Nat → Nat} {set t : Nat} (h : bi set t ≠ 1) : gcnt rw gs set (t + 1) = gcnt rw gs set t := by
  funext u
  unfold gcnt
  by_cases q : u < t ∧ bi set u = 1
  · rw [if_pos q, if_pos ⟨by omega, q.2⟩]
  · rw [if_neg q, if_neg (fun z => q ⟨by
      by_cases e : u = t
      · subst e; exact absurd z.2 h
      · omega, z.2⟩)]
theorem gcnt_NB {rw gs : Nat → Nat} (hr : NB rw) (hg : NB gs) (set t : Nat) : NB (gcnt rw gs set t) := fun u hu => by
  unfold gcnt
  split
  · exact hr u hu
  · exact hg u hu
def counted (st : DS) (set : Nat) : DS := thrown (st.1, gcnt st.1 st.2.1 set 5, st.2.2) 4 (keepD (gcnt st.1 st.2.1 set 5) st.2.2.2.2.1)
def countedN (st : DS) (set : Nat) : Nat := st.2.2.2.1.length - (st.2.2.2.1.filter (keepD (gcnt st.1 st.2.1 set 5) st.2.2.2.2.1)).length
theorem p_countL {set : Nat} (hset : set < 32) {Post : Int32 → KH → Prop} {gs0 : Nat → Nat} : ∀ (n t : Nat) (own : Nat → Nat) (h : KH) (kas : List (Nat × PL)) (st : DS), t ≤ 5 → 5 < n + t → StX ct a0 own h a r g p l pr kas st → SOK st → st.2.1 = gcnt st.1 gs0 set t →
    (∀ own1 h1, (∃ kas1, StX ct a0 own1 h1 a r g p l pr kas1 (thrown (st.1, gcnt st.1 gs0 set 5, st.2.2) 4 (keepD (gcnt st.1 gs0 set 5) st.2.2.2.2.1))) → FrG (a + 1) own h own1 h1 → Post (nI (st.2.2.2.1.length - (st.2.2.2.1.filter (keepD (gcnt st.1 gs0 set 5) st.2.2.2.2.1)).length)) h1) →
    g_X4_countTables_L2 ct a0 a (nI set) Post n (nI t) h
  | 0, t, own, h, kas, st, h1, h2, _, _, _, _ => by omega
  | n + 1, t, own, h, kas, st, h1, h2, hs, hS, hg, hP => by
    show g_X4_countTables_L2b _ _ _ _ _ _ _ _
    unfold g_X4_countTables_L2b
    by_cases he : 5 ≤ t
    · have e0 : t = 5 := by omega
      subst e0
      rw [if_pos (by decide +kernel)]
      refine hs.o (p_throwD hs hS ?_)
      rw [hg]
      have e : st = (st.1, gcnt st.1 gs0 set 5, st.2.2) := by rw [← hg]
      rw [← e] at hP
      exact hP
    · have ht : t < 5 := by omega
      have hbl := bi_lt set t
      rw [if_neg (show ¬ (5 : Int32) ≤ nI t from nI_ge (b := 5) (by omega) (by decide))]
      refine ⟨_, c_has _ hset t ht, ?_⟩
      rw [show nI t + (1 : Int32) = nI (t + 1) from nI_1 t]
      by_cases q : bi set t = 0
      · rw [if_pos (by rw [q]; rfl)]
        exact p_countL hset n (t + 1) own h kas st (by omega) (by omega) hs hS (by rw [gcnt_n (by omega)]; exact hg) hP
      · rw [if_neg (by rw [show bi set t = 1 by omega]; decide +kernel)]
        refine hs.gI (hs.rI (hs.rv ht ⟨5, _, hs.2.2.2.2.1, inb_nI ht (by decide), fun h8 e8 => ?_⟩))
        rw [nI_clamp (by omega), SI_up] at e8
        subst e8
        obtain ⟨g1, g2⟩ := hs.gues (nu st.2.1 t (st.1 t))
        have hNB : NB (nu st.2.1 t (st.1 t)) := fun u hu => by
          unfold nu
          split
          · next e => subst e; exact hS.1 u hu
          · exact hS.2.1 u hu
        exact p_countL hset n (t + 1) own _ kas (st.1, nu st.2.1 t (st.1 t), st.2.2) (by omega) (by omega) g1 ⟨hS.1, hNB, hS.2.2⟩ (by rw [gcnt_s (by omega)]; show nu st.2.1 t (st.1 t) = nu (gcnt st.1 gs0 set t) t (st.1 t); rw [hg]) (fun own1 h1 hs1 f1 => hP own1 h1 hs1 (g2.trans f1))
theorem p_count {own : Nat → Nat} {h : KH} {kas : List (Nat × PL)} {st : DS} (hs : StX ct a0 own h a r g p l pr kas st) (hS : SOK st) {set : Nat} (hset : set < 32) {Post : Int32 → KH → Prop}
    (hP : ∀ own1 h1, (∃ kas1, StX ct a0 own1 h1 a r g p l pr kas1 (counted st set)) → FrG (a + 1) own h own1 h1 → Post (nI (countedN st set)) h1) : g_X4_countTables ct a0 a (nI set) h Post :=
  p_countL hset (gs0 := st.2.1) 1024 0 own h kas st (by decide) (by decide) hs hS (gcnt_0 _ _ _).symm hP
end SQ
