/-! part, pin, forget -/
section C2
variable {ct : Nat → ClassId} {a0 : Nat} {N : Nat} {v : Nat → Nat} {E : List ME} {st : DS}
theorem m_partL {pair : Nat} (hpr : pair < 32) (a1 a2 a3 rn : Int32) (paid : Nat → Int64) (past : Nat → Int32) (pp : Nat → Int64) (ps : Int32) {L : Nat} (hL : L ≤ 4) : ∀ (n k x N : Nat) (v : Nat → Nat) (E : List ME), k ≤ 4 → 4 < n + k → N < 2 ^ 28 → SR N v E st → x + E.length = L → (∀ e ∈ E, e.2.1 < k → keepJ pair e.1 = true) →
    ∃ v', f_X6_part_L78 a1 a2 a3 paid rn n (nI pair) (nI x) (nI k) (SI v) past pp ps = some (nI (L - (E.filter (fun e => keepJ pair e.1)).length), SI v', past, pp, ps) ∧ SR (N + 4) v' (E.filter (fun e => keepJ pair e.1)) (st.1, st.2.1, st.2.2.1, st.2.2.2.1, st.2.2.2.2.1, nu st.2.2.2.2.2 6 (st.2.2.2.2.2 6 + (L - (E.filter (fun e => keepJ pair e.1)).length)))
  | 0, k, x, N, v, E, h1, h2, _, _, _, _ => by omega
  | n + 1, k, x, N, v, E, h1, h2, hN, hR, hx, hk => by
    obtain ⟨hE, hn, hv⟩ := hR
    show ∃ v', f_X6_part_L78b _ _ _ _ _ _ _ _ _ _ _ _ _ = _ ∧ _
    unfold f_X6_part_L78b
    by_cases h4 : 4 ≤ k
    · have e0 : E.filter (fun e => keepJ pair e.1) = E := List.filter_eq_self.mpr (fun e he => hk e he (by have := (hE.1 e he).1; omega))
      rw [e0, show L - E.length = x by omega]
      have h97 := hv 97 (by decide)
      refine ⟨nu v 97 (v 97 + x), ?_, hE.up (by omega), ?_, hv.up (by omega) (by omega)⟩
      · rw [if_pos (show (4 : Int32) ≤ nI k from nI_le (a := 4) h4 (by omega))]
        simp (disch := omega) only [iv, grd_inb, nI_clamp, SI_at, nI_add, SI_up]
      · have h9 : v 97 = st.2.2.2.2.2 6 := hn.2.2.2.2.2.2.2.1
        rw [h9]
        exact hn.c _ (Or.inr (Or.inr (Or.inr (Or.inr (Or.inl ⟨rfl, rfl⟩)))))
    · have hk4 : k < 4 := by omega
      rw [if_neg (show ¬ (4 : Int32) ≤ nI k from nI_ge (b := 4) hk4 (by decide)), show nI k + (1 : Int32) = nI (k + 1) from nI_1 k, show nI x + (1 : Int32) = nI (x + 1) from nI_1 x]
      rcases slot_or E k with ⟨e, he, ek⟩ | hno
      · subst ek
        have hl := hE.loose he hv (by omega)
        rw [hl, bnd_s]
        have keep : keepJ pair e.1 = true → ∃ v', f_X6_part_L78 a1 a2 a3 paid rn n (nI pair) (nI x) (nI (e.2.1 + 1)) (SI v) past pp ps = some (nI (L - (E.filter (fun e => keepJ pair e.1)).length), SI v', past, pp, ps) ∧ SR (N + 4) v' (E.filter (fun e => keepJ pair e.1)) (st.1, st.2.1, st.2.2.1, st.2.2.2.1, st.2.2.2.2.1, nu st.2.2.2.2.2 6 (st.2.2.2.2.2 6 + (L - (E.filter (fun e => keepJ pair e.1)).length))) := fun hkp =>
          m_partL hpr a1 a2 a3 rn paid past pp ps hL n (e.2.1 + 1) x N v E (by omega) (by omega) hN ⟨hE, hn, hv⟩ hx (fun e' he' hlt => by
            by_cases q : e'.2.1 = e.2.1
            · rw [hE.uniq he' he q]; exact hkp
            · exact hk e' he' (by omega))
        obtain ⟨w1, w2, w3, w4⟩ := hE.1 e he
        by_cases q : e.1.2.2.2.2 = 0
        · rw [if_pos q, if_neg (by decide +kernel), m_at, bnd_s, grd_inb (by omega) (by decide), nI_clamp (by omega), SI_at, w3.1, and_int _ w2.2.1 _ hpr]
          have ha := and_lt32 _ w2.2.1 _ hpr
          by_cases q2 : e.1.1 &&& pair = pair
          · have hkf : keepJ pair e.1 = false := by unfold keepJ; rw [q, decide_eq_true q2]; rfl
            rw [if_pos (congrArg nI q2), m_empties hk4, bnd_s]
            have hlen := filt_len E hE.2.1 ⟨e, he, rfl⟩
            have ef : (E.filter (fun e' => e'.2.1 != e.2.1)).filter (fun e => keepJ pair e.1) = E.filter (fun e => keepJ pair e.1) := by
              rw [List.filter_filter]
              refine List.filter_congr (fun e' he' => ?_)
              by_cases q3 : e'.2.1 = e.2.1
              · rw [hE.uniq he' he q3, hkf]; rfl
              · rw [(bne_iff_ne).mpr q3, Bool.and_true]
            have ih := m_partL hpr a1 a2 a3 rn paid past pp ps hL n (e.2.1 + 1) (x + 1) N (emp v e.2.1 14) (E.filter (fun e' => e'.2.1 != e.2.1)) (by omega) (by omega) hN ⟨hE.mt hk4, hn.mt hk4, hv.mt _ _⟩ (by omega) (fun e' he' hlt => by
              obtain ⟨he1, he2⟩ := List.mem_filter.mp he'
              have hne : e'.2.1 ≠ e.2.1 := by simpa using he2
              exact hk e' he1 (by omega))
            rw [ef] at ih
            exact ih
          · rw [if_neg (fun z => q2 (nI_inj31 (by omega) (by omega) z))]
            exact keep (by unfold keepJ; rw [decide_eq_false q2, Bool.and_false]; rfl)
        · rw [if_neg q, if_pos (show nI 0 = (0 : Int32) from rfl)]
          exact keep (by unfold keepJ; rw [beq_eq_false_iff_ne.mpr q]; rfl)
      · rw [hE.loose0 hk4 hno hv (by omega), bnd_s, if_pos (show nI 0 = (0 : Int32) from rfl)]
        exact m_partL hpr a1 a2 a3 rn paid past pp ps hL n (k + 1) x N v E (by omega) (by omega) hN ⟨hE, hn, hv⟩ hx (fun e' he' hlt => hk e' he' (by have := hno e' he'; omega))
theorem m_partT {pair : Nat} (hpr : pair < 32) (a1 a2 a3 rn : Int32) (paid : Nat → Int64) (past : Nat → Int32) (pp : Nat → Int64) (ps : Int32) (h4 : st.2.2.2.1.length ≤ 4) (hN : N < 2 ^ 28) (hR : SR N v E st) (hE : st.2.2.2.1 = E.map Prod.fst) :
    ∃ v' E', f_X6_part_L78 a1 a2 a3 paid rn 1024 (nI pair) (0 : Int32) (0 : Int32) (SI v) past pp ps = some (nI (st.2.2.2.1.length - (st.2.2.2.1.filter (keepJ pair)).length), SI v', past, pp, ps) ∧ SR (N + 4) v' E' (thrown st 6 (keepJ pair)) ∧ (thrown st 6 (keepJ pair)).2.2.2.1 = E'.map Prod.fst := by
  have e0 : E.length = st.2.2.2.1.length := by rw [hE, List.length_map]
  have e2 := filter_mapE (keepJ pair) E
  rw [← hE] at e2
  have e1 : (E.filter (fun x => keepJ pair x.1)).length = (st.2.2.2.1.filter (keepJ pair)).length := by rw [← e2, List.length_map]
  obtain ⟨v', g1, g2⟩ := m_partL hpr a1 a2 a3 rn paid past pp ps h4 1024 0 0 N v E (by decide) (by decide) hN hR (by omega) (fun e _ h => absurd h (Nat.not_lt_zero _))
  rw [e1] at g1 g2
  exact ⟨v', _, g1, g2, e2.symm⟩
def setP1 (pt : Nat → Nat → Nat) (t u x : Nat) : Nat → Nat → Nat := fun j => if j = t then nu (pt t) u x else pt j
theorem setP1_i {pt : Nat → Nat → Nat} {t u x i j : Nat} : setP1 pt t u x i j = if i = t ∧ j = u then x else pt i j := by
  unfold setP1
  by_cases q : i = t
  · subst q
    rw [if_pos rfl]
    unfold nu
    by_cases q2 : j = u
    · rw [if_pos q2, if_pos ⟨rfl, q2⟩]
    · rw [if_neg q2, if_neg (fun z => q2 z.2)]
  · rw [if_neg q, if_neg (fun z => q z.1)]
theorem setP1_B {pt : Nat → Nat → Nat} (h : PB pt) {t u x : Nat} (hx : 1 ≤ x ∧ x ≤ 100) : PB (setP1 pt t u x) := fun e w he hw => by
  rw [setP1_i]
  split
  · exact hx
  · exact h e w he hw
theorem setP1_Z {pt : Nat → Nat → Nat} (h : PZ pt) {t u x : Nat} (ht : t < 5) (hu : u < 5) : PZ (setP1 pt t u x) := fun i j hij => by
  rw [setP1_i, if_neg (by omega)]
  exact h i j hij
theorem NuR.p1 (hn : NuR v st) {t u x : Nat} (ht : t < 5) (hu : u < 5) : NuR (nu v (10 + 5 * t + u) x) (st.1, st.2.1, setP1 st.2.2.1 t u x, st.2.2.2) := by
  obtain ⟨a1, a2, a3, a4, a5, a6, a7, a8, a9, a10⟩ := hn
  refine ⟨fun w hw => ⟨(nu_n (by omega)).trans (a1 w hw).1, (nu_n (by omega)).trans (a1 w hw).2⟩, fun i j hi hj => ?_, (nu_n (by omega)).trans a3, (nu_n (by omega)).trans a4, (nu_n (by omega)).trans a5, (nu_n (by omega)).trans a6, (nu_n (by omega)).trans a7, (nu_n (by omega)).trans a8, (nu_n (by omega)).trans a9, (nu_n (by omega)).trans a10⟩
  show nu v _ x _ = setP1 st.2.2.1 t u x i j
  rw [setP1_i]
  by_cases q : i = t ∧ j = u
  · rw [if_pos q, q.1, q.2, nu_s]
  · rw [if_neg q, nu_n (fun z => q (by omega))]
    exact a2 i j hi hj
theorem part_I (hI : IV st) {t u x c : Nat} (hc : c < 9) {f : PL → Bool} (ht : t < 5) (hu : u < 5) (hx : 1 ≤ x ∧ x ≤ 100) : IV (thrown (st.1, st.2.1, setP1 (setP1 st.2.2.1 t u x) u t x, st.2.2.2) c f) := by
  obtain ⟨⟨s1, s2, s3, s4⟩, ⟨z1, z2, z3, z4⟩, hD, hL⟩ := hI
  have hS : SOK (st.1, st.2.1, setP1 (setP1 st.2.2.1 t u x) u t x, st.2.2.2) := ⟨s1, s2, setP1_B (setP1_B s3 hx) hx, s4⟩
  have hZ : ZOK (st.1, st.2.1, setP1 (setP1 st.2.2.1 t u x) u t x, st.2.2.2) := ⟨z1, z2, setP1_Z (setP1_Z z3 ht hu) hu ht, z4⟩
  have hD2 : DOK (st.1, st.2.1, setP1 (setP1 st.2.2.1 t u x) u t x, st.2.2.2) := hD
  have hL2 : LOK (st.1, st.2.1, setP1 (setP1 st.2.2.1 t u x) u t x, st.2.2.2) := hL
  exact ⟨thr_S hS, thr_Z hZ hc, thr_D hD2, thr_L2 hL2⟩
theorem c_placeOf {own : Nat → Nat} {h : KH} {a : Nat} (hs : isSt ct a0 own h a st) (hS : SOK st) {sh : Nat} (hsh : sh < 32) {Post : Int32 → KH → Prop} (h1 : ∀ i x, st.2.2.2.1[i]? = some x → x.1 = sh → Post (nI i) h) (h2 : (∀ x ∈ st.2.2.2.1, x.1 ≠ sh) → Post (-1) h) : g_X4_placeOf ct a0 a (nI sh) h Post := by
  obtain ⟨r, g, p, l, pr, kas, hs⟩ := hs
  have hl := hs.len
  have he := hs.kpe
  refine p_placeOf hs (fun x hx => hS.2.2.2.1 _ (by rw [he]; exact List.mem_map_of_mem hx)) hsh (fun i x hi hx => h1 i x.2 (by rw [he, List.getElem?_map, hi]; rfl) hx) (fun hno => h2 (fun x hx => ?_)) 1024 0 (Nat.zero_le _) (by omega) (fun j x hj => absurd hj (Nat.not_lt_zero _))
  rw [he] at hx
  obtain ⟨y, hy, rfl⟩ := List.mem_map.mp hx
  exact hno y hy
theorem nI_m1 {i : Nat} (h : i < 10) : ¬ nI i = (-1 : Int32) := (by decide +kernel : ∀ i, i < 10 → ¬ nI i = (-1 : Int32)) i h
theorem getE {i : Nat} {x : PL} (hkp : st.2.2.2.1 = E.map Prod.fst) (hi : st.2.2.2.1[i]? = some x) : ∃ e, E[i]? = some e ∧ e.1 = x := by
  rw [hkp, List.getElem?_map] at hi
  cases hE : E[i]? with
  | none => rw [hE] at hi; cases hi
  | some e => rw [hE] at hi; exact ⟨e, rfl, Option.some.inj hi⟩
theorem getK {own : Nat → Nat} {h : KH} {a r g p l : Nat} {pr : Nat → Nat} {kas : List (Nat × PL)} (hs : StX ct a0 own h a r g p l pr kas st) {i : Nat} {x : PL} (hi : st.2.2.2.1[i]? = some x) : ∃ k, kas[i]? = some (k, x) := by
  rw [hs.kpe, List.getElem?_map] at hi
  cases hE : kas[i]? with
  | none => rw [hE] at hi; cases hi
  | some e => rw [hE] at hi; obtain ⟨k, y⟩ := e; exact ⟨k, by rw [show y = x from Option.some.inj hi]⟩
theorem m_slotI (hR : SR N v E st) (hkp : st.2.2.2.1 = E.map Prod.fst) (hD : DOK st) (hN : N < 2 ^ 28) {e : ME} (he : e ∈ E) : f_X6_slotOf (nI e.1.1) (SI v) = some (nI e.2.1) :=
  hR.1.slot he (fun e' he' h => uniqE (by rw [← hkp]; exact hD) he' he h) hR.2.2 hN
theorem m_slotN (hR : SR N v E st) (hkp : st.2.2.2.1 = E.map Prod.fst) (hN : N < 2 ^ 28) {sh : Nat} (hsh : sh < 32) (h0 : sh ≠ 0) (hno : ∀ x ∈ st.2.2.2.1, x.1 ≠ sh) : f_X6_slotOf (nI sh) (SI v) = some (-4) := by
  rcases m_slot hsh hR.2.2 hN with ⟨j, hj, h1, -, h2⟩ | ⟨h, h2⟩
  · rcases slot_or E j with ⟨e, he, ej⟩ | hn
    · have h3 := (hR.1.1 e he).2.2.1.1
      rw [ej, h1] at h3
      exact absurd h3.symm (hno e.1 (by rw [hkp]; exact List.mem_map_of_mem he))
    · have := hR.1.2.2 j hj hn 0 (by decide)
      rw [Nat.add_zero, h1] at this
      exact absurd this h0
  · exact h2
theorem told_v (hv : VB N v) (hN : N < 2 ^ 28) {i : Nat} (hi : i < 100) : f_X5_told (lN (v i)) = some (nI (v i)) := told_sm (by have := hv i hi; omega)
def dropD (st : DS) (i : Nat) : DS := (st.1, st.2.1, st.2.2.1, st.2.2.2.1.eraseIdx i, st.2.2.2.2.1, nu st.2.2.2.2.2 7 (st.2.2.2.2.2 7 + 1))
theorem drop_I (hI : IV st) (i : Nat) : IV (dropD st i) := by
  obtain ⟨⟨s1, s2, s3, s4, s5, s6⟩, ⟨z1, z2, z3, z4⟩, hD, hL⟩ := hI
  refine ⟨⟨s1, s2, s3, fun x hx => s4 x (mem_erase hx), ?_, s6⟩, ⟨z1, z2, z3, z4.nu (by decide)⟩, nodup_shape_erase hD i, fun x hx => hL x (mem_erase hx)⟩
  show (st.2.2.2.1.eraseIdx i).length ≤ 4
  have := List.length_eraseIdx_le st.2.2.2.1 i
  omega
end C2

