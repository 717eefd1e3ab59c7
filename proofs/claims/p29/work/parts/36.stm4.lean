/-! pushing out, keeping anew, making and copying states -/
def fstL : List PL → Nat
  | [] => 0
  | x :: l => if x.2.2.2.2 = 0 then 0 else fstL l + 1
theorem fstL_at : ∀ (l : List PL) (i : Nat) (x : PL), l[i]? = some x → x.2.2.2.2 = 0 → (∀ j y, j < i → l[j]? = some y → y.2.2.2.2 ≠ 0) → fstL l = i
  | [], i, x, h, _, _ => by cases h
  | z :: l, 0, x, h, h0, _ => by
    cases h
    exact if_pos h0
  | z :: l, i + 1, x, h, h0, hj => by
    have ih := fstL_at l i x h h0 (fun j y hl hy => hj (j + 1) y (by omega) hy)
    unfold fstL
    rw [if_neg (hj 0 z (by omega) rfl), ih]
theorem fstL_none : ∀ (l : List PL), (∀ x ∈ l, x.2.2.2.2 ≠ 0) → fstL l = l.length
  | [], _ => rfl
  | z :: l, h => by
    unfold fstL
    rw [if_neg (h z List.mem_cons_self), fstL_none l (fun x hx => h x (List.mem_cons_of_mem _ hx))]
    rfl
def keptNew (st : DS) (x : PL) (making : Nat) : DS :=
  if st.2.2.2.1.length < 4 then (st.1, st.2.1, st.2.2.1, st.2.2.2.1 ++ [x], st.2.2.2.2.1, nu (nu st.2.2.2.2.2 1 (st.2.2.2.2.2 1 + 1)) 3 (st.2.2.2.2.2 3 + making))
  else if fstL st.2.2.2.1 < st.2.2.2.1.length then (st.1, st.2.1, st.2.2.1, st.2.2.2.1.eraseIdx (fstL st.2.2.2.1) ++ [x], st.2.2.2.2.1, nu (nu (nu st.2.2.2.2.2 1 (st.2.2.2.2.2 1 + 1)) 3 (st.2.2.2.2.2 3 + making)) 5 (st.2.2.2.2.2 5 + 1))
  else (st.1, st.2.1, st.2.2.1, st.2.2.2.1, st.2.2.2.2.1, nu (nu (nu st.2.2.2.2.2 1 (st.2.2.2.2.2 1 + 1)) 3 (st.2.2.2.2.2 3 + making)) 8 (st.2.2.2.2.2 8 + 1))
section SR
variable {ct : Nat → ClassId} {a0 : Nat} {a r g p l : Nat} {pr : Nat → Nat}
theorem p_pushL {own : Nat → Nat} {h : KH} {kas : List (Nat × PL)} {st : DS} (hs : StX ct a0 own h a r g p l pr kas st) (hok : ∀ x ∈ kas, POK x.2) {Post : Int32 → KH → Prop}
    (h1 : fstL st.2.2.2.1 < st.2.2.2.1.length → ∀ h1, StX ct a0 own h1 a r g p l pr (kas.eraseIdx (fstL st.2.2.2.1)) (st.1, st.2.1, st.2.2.1, st.2.2.2.1.eraseIdx (fstL st.2.2.2.1), st.2.2.2.2.1, nu st.2.2.2.2.2 5 (st.2.2.2.2.2 5 + 1)) → FrG (a + 1) own h own h1 → Post 1 h1)
    (h2 : ¬ fstL st.2.2.2.1 < st.2.2.2.1.length → Post 0 h) : ∀ (n i : Nat), i ≤ kas.length → kas.length < n + i → (∀ j y, j < i → st.2.2.2.1[j]? = some y → y.2.2.2.2 ≠ 0) →
    g_X4_pushOneOut_L2 ct a0 a Post n (nI i) h
  | 0, i, a1, a2, _ => by omega
  | n + 1, i, a1, a2, hI => by
    have hlen := hs.len
    have he := hs.kpe
    have e0 : st.2.2.2.1.length = kas.length := by rw [he, List.length_map]
    show g_X4_pushOneOut_L2b _ _ _ _ _ _ _
    unfold g_X4_pushOneOut_L2b
    refine hs.sz ?_
    by_cases hle : kas.length ≤ i
    · rw [if_pos (nI_le hle (by omega))]
      refine h2 ?_
      rw [fstL_none _ (fun x hx => ?_)]
      · exact Nat.lt_irrefl _
      · obtain ⟨j, hj⟩ := List.getElem?_of_mem hx
        have := (List.getElem?_eq_some_iff.mp hj).1
        exact hI j x (by omega) hj
    · rw [if_neg (nI_ge (by omega) (by omega))]
      have hi : kas[i]? = some kas[i] := List.getElem?_eq_getElem (by omega)
      generalize kas[i] = x at hi
      have hx := hs.kp x (List.mem_of_getElem? hi)
      have ho := hok x (List.mem_of_getElem? hi)
      have hpn := ho.2.2.2.2
      have hi2 : st.2.2.2.1[i]? = some x.2 := by rw [he, List.getElem?_map, hi]; rfl
      refine hs.gt hi (hx.pin ?_)
      by_cases q : x.2.2.2.2.2 = 0
      · rw [if_pos (by rw [q]; rfl)]
        have hf := fstL_at _ i _ hi2 q hI
        refine hs.rm hi (fun h3 hs3 f3 hx3 => ?_)
        refine hs3.cnt (c := 5) (by decide) 1 (fun h4 hs4 f4 => h1 (by omega) h4 ?_ (f3.trans f4))
        rw [hf]
        rw [show (kas.eraseIdx i).map Prod.snd = st.2.2.2.1.eraseIdx i by rw [← map_erase, he]] at hs4
        exact hs4
      · rw [if_neg (nI_ne0 (by omega) (by omega)), show nI i + (1 : Int32) = nI (i + 1) from nI_1 i]
        refine p_pushL hs hok h1 h2 n (i + 1) (by omega) (by omega) (fun j y hj hy => ?_)
        by_cases e : j = i
        · subst e
          rw [hi2] at hy
          cases hy
          exact q
        · exact hI j y (by omega) hy
/-- a plan is made with a copy of the guesses and put at the end -/
theorem p_newP {own : Nat → Nat} {h : KH} {kas : List (Nat × PL)} {st : DS} (hs : StX ct a0 own h a r g p l pr kas st) (h3 : kas.length ≤ 3) {sh : Nat} {od : List Nat} {Post : Unit → KH → Prop}
    (hP : ∀ own1 h1 k, StX ct a0 own1 h1 a r g p l pr (kas ++ [(k, sh, od, st.2.1, 1, 0)]) (st.1, st.2.1, st.2.2.1, st.2.2.2.1 ++ [(sh, od, st.2.1, 1, 0)], st.2.2.2.2) → FrG (a + 1) own h own1 h1 → Post () h1) :
    rdR h a 5 3 (fun v8 => nwC h (.inr (1, [.int 0, .int 0, .null, .long 0, .int 0])) (fun q9 h9 => rdR h9 a 5 1 (fun v10 => clI h9 v10 (ct 0) (fun q11 h11 => isA h11 q11 (ct 0) (g_X0_init ct a0 q9 (nI sh) (nI (oct od)) q11 (1 : Int64) (0 : Int32) h11 (fun _ h13 => isO h13 v8 0 (g_Jx4a65c_add_9ea2d ct a0 v8 q9 h13 (fun v14 h14 => Post () h14)))))))) := by
  refine ⟨_, l, hs.1, rfl, fun q9 h9 hq9 e9 => ?_⟩
  have f9 : FrG (q9 + 1) own h (oup own q9 0) h9 := by rw [e9]; exact FrG.new hq9
  have hs9 := hs.frg f9 (fun z => by have e := hs.1; rw [show a = q9 by omega, hq9] at e; cases e) (by omega)
  refine hs9.gI ⟨_, hs9.2.2.2.2.1, fun q11 h11 hq11 e11 => ⟨⟨(5, .inl (SI st.2.1)), by rw [e11]; exact hup_same⟩, ?_⟩⟩
  have n1 : q9 ≠ q11 := fun z => by rw [← z, e9, hup_same] at hq11; cases hq11
  have e9q : h9 q9 = some (.inr (1, [.int 0, .int 0, .null, .long 0, .int 0])) := by rw [e9]; exact hup_same
  have e11q : h11 q9 = some (.inr (1, [.int 0, .int 0, .null, .long 0, .int 0])) := by rw [e11, hup_ne n1]; exact e9q
  have f11 : FrG (q11 + 1) (oup own q9 0) h9 (oup (oup own q9 0) q11 0) h11 := by rw [e11]; exact FrG.new hq11
  have hs11 := hs9.frg f11 (fun z => by have e := hs9.1; rw [show a = q11 by omega, hq11] at e; cases e) (by omega)
  refine p_x0 e11q rfl _ _ _ _ (by decide) 1 ?_
  generalize hE : (Sum.inr (1, [Value.int (nI sh), .int (nI (oct od)), .ref q11, .long (lN 1), .int (nI 0)]) : va_E) = E
  have o9 : (oup (oup own q9 0) q11 0) q9 = 0 := (oup_ne n1).trans oup_same
  have e11q2 : h11 q11 = some (.inl (ct 0, 5, .inl (SI st.2.1))) := by rw [e11]; exact hup_same
  have f13 : FrG (a + 1) (oup (oup own q9 0) q11 0) h11 (oup (oup own q9 0) q11 0) (hup h11 q9 E) → True := fun _ => trivial
  have hkE : hup h11 q9 E q9 = some (.inr (1, kpF q11 (sh, od, st.2.1, 1, 0))) := by rw [hup_same, ← hE]; rfl
  -- the state over the written plan
  have hsE : StX ct a0 (oup (oup own q9 0) q11 0) (hup h11 q9 E) a r g p l pr kas st := by
    obtain ⟨z1, ⟨z2, z3, z4, z5, z6⟩, z7, z8, z9, z10, z11, z12, z13, z14⟩ := hs11
    have k1 : ∀ {x : Nat} {e : va_E}, h11 x = some e → (oup (oup own q9 0) q11 0) x = 2 * a + 2 → hup h11 q9 E x = some e := fun hx ho => (hup_ne (fun z => by rw [z, o9] at ho; omega)).trans hx
    refine ⟨k1 z1 z2, ⟨z2, z3, z4, z5, z6⟩, z7, k1 z8 z3, k1 z9 z4, k1 z10 z5, fun i hi => k1 (z11 i hi) (z6 i hi), z12.oth e11q (fun fs z => by cases z) (fun f z => by cases z), fun x hx => ?_, z14⟩
    have hne : x.1 ≠ q9 := fun z => by
      obtain ⟨-, gg, -, w1, -⟩ := hs.kp x hx
      rw [z, hq9] at w1
      cases w1
    obtain ⟨w1, gg, w2, w3, w4⟩ := z13 x hx
    exact ⟨w1, gg, w2, (hup_ne hne).trans w3, (hup_ne (fun z => by rw [z, e11q] at w4; cases w4)).trans w4⟩
  have hkp : isKp ct (oup (oup own q9 0) q11 0) (hup h11 q9 E) q9 (sh, od, st.2.1, 1, 0) := ⟨o9, q11, oup_same, hkE, (hup_ne (Ne.symm n1)).trans e11q2⟩
  have fE : FrG (a + 1) own h (oup (oup own q9 0) q11 0) (hup h11 q9 E) := fun z hz => by
    have m1 : z ≠ q9 := fun e => hz (by rw [e]; exact hq9)
    have m2 : h9 z = h z := by rw [e9]; exact hup_ne m1
    have m3 : z ≠ q11 := fun e => hz (by rw [← m2, e]; exact hq11)
    have m4 : hup h11 q9 E z = h z := by rw [hup_ne m1, e11, hup_ne m3]; exact m2
    exact ⟨(oup_ne m3).trans (oup_ne m1), by rw [m4]; exact hz, fun _ => m4⟩
  refine ⟨hsE.lis.obj, p_add (ci := 1) hsE.lis (by rw [List.length_map]; omega) ⟨_, hkE⟩ (Or.inl rfl) (fun own1 h1 hl f1 => ?_)⟩
  obtain ⟨g1, g2⟩ := hsE.list f1 (kas1 := kas ++ [(q9, sh, od, st.2.1, 1, 0)]) (by rw [List.map_append]; exact hl) (fun y hy => by
    rcases List.mem_append.mp hy with hy | hy
    · exact Or.inl hy
    · rw [List.mem_singleton.mp hy]; exact Or.inr hkp)
  refine hP own1 h1 q9 ?_ (fE.trans g2)
  rw [List.map_append, ← hs.kpe] at g1
  exact g1
theorem p_keepNew {own : Nat → Nat} {h : KH} {kas : List (Nat × PL)} {st : DS} (hs : StX ct a0 own h a r g p l pr kas st) (hS : SOK st) {sh making : Nat} {od : List Nat} {Post : Unit → KH → Prop}
    (hP : ∀ own1 h1, (∃ kas1, StX ct a0 own1 h1 a r g p l pr kas1 (keptNew st (sh, od, st.2.1, 1, 0) making)) → FrG (a + 1) own h own1 h1 → Post () h1) : g_X4_keepNew ct a0 a (nI sh) (nI (oct od)) (lN making) h Post := by
  have h4 := hS.2.2.2.2.1
  have hok := hS.2.2.2.1
  have e0 : kas.length = st.2.2.2.1.length := by rw [hs.kpe, List.length_map]
  unfold g_X4_keepNew
  refine hs.cnt (c := 1) (by decide) 1 (fun h2 hs2 f2 => hs2.cnt (c := 3) (by decide) making (fun h4 hs4 f4 => ?_))
  have hs4 : StX ct a0 own h4 a r g p l pr kas (st.1, st.2.1, st.2.2.1, st.2.2.2.1, st.2.2.2.2.1, nu (nu st.2.2.2.2.2 1 (st.2.2.2.2.2 1 + 1)) 3 (st.2.2.2.2.2 3 + making)) := hs4
  refine hs4.sz ?_
  unfold keptNew at hP
  by_cases q : st.2.2.2.1.length < 4
  · rw [if_pos q] at hP
    rw [if_pos (show nI kas.length < (4 : Int32) from nI_lt (b := 4) (by omega) (by decide))]
    exact p_newP hs4 (by omega) (fun own1 h1 k hs5 f5 => hP own1 h1 ⟨_, hs5⟩ (f2.trans (f4.trans f5)))
  · rw [if_neg q] at hP
    rw [if_neg (show ¬ nI kas.length < (4 : Int32) from nI_nlt (b := 4) (by omega) (by omega))]
    refine hs4.o (p_pushL hs4 (fun x hx => hok x.2 (by rw [hs.kpe]; exact List.mem_map_of_mem hx)) (fun hf h5 hs5 f5 => ?_) (fun hf => ?_) 1024 0 (Nat.zero_le _) (by omega) (fun j y hj => by omega))
    · rw [if_pos hf] at hP
      rw [if_neg (by decide)]
      have hle : (kas.eraseIdx (fstL st.2.2.2.1)).length ≤ 3 := by rw [List.length_eraseIdx_of_lt (by rw [e0]; exact hf)]; omega
      refine p_newP hs5 hle (fun own1 h1 k hs6 f6 => hP own1 h1 ⟨_, hs6⟩ (f2.trans (f4.trans (f5.trans f6))))
    · rw [if_neg hf] at hP
      rw [if_pos rfl]
      exact hs4.cnt (c := 8) (by decide) 1 (fun h5 hs5 f5 => hP own h5 ⟨_, hs5⟩ (f2.trans (f4.trans f5)))
end SR
