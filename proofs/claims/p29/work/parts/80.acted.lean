/-! what the law does in a step -/
theorem modI {y m : Nat} (hy : y < 2 ^ 31) (h0 : 0 < m) (hm : m < 2 ^ 31) : nI y - ((nI y / nI m) * nI m) = nI (y % m) := by
  have h := Nat.div_add_mod y m
  rw [Nat.mul_comm] at h
  rw [pk_div hy h0 hm, pk_mul, pk_sub (by omega)]
  congr 1
  omega
theorem div5 {y : Nat} (hy : y < 2 ^ 31) : nI y / (5 : Int32) = nI (y / 5) := pk_div (d := 5) hy (by decide) (by decide)
theorem div15 {y : Nat} (hy : y < 2 ^ 31) : nI y / (15 : Int32) = nI (y / 15) := pk_div (d := 15) hy (by decide) (by decide)
theorem div25 {y : Nat} (hy : y < 2 ^ 31) : nI y / (25 : Int32) = nI (y / 25) := pk_div (d := 25) hy (by decide) (by decide)
section LAE
variable {ct : Nat → ClassId} {a0 ax : Nat} {pa pf pt pl pw : Nat} {hc h : KH} {A F T : Nat → Int32} {L V : Nat → Int64} {d : DS} {N : Nat}
theorem l_act48 (hR : RA d A F T L) (hCB : CB N d) {y n : Nat} (hy : y < 2 ^ 31) (n0 : 1 ≤ n) (n1 : n ≤ 500) (hl : LH ct pa pf pt pl pw hc [] A F T L V h) (hO : OD ct a0 ax hc d) {a7 : Int32} {Post : Int32 → KH → Prop} (hP : StO ct a0 ax pa pf pt pl pw N Post) : g_L_isActed_J48 ct a0 ax pa pf pt pl pw a7 (nI y) Post (nI n) h := by
  obtain ⟨⟨r1, r2, r3, r4, r5, r6⟩, r7, r8⟩ := hR
  have ht : y % 5 < 5 := Nat.mod_lt _ (by decide)
  unfold g_L_isActed_J48
  rw [show nI y - ((nI y / (5 : Int32)) * (5 : Int32)) = nI (y % 5) from modI (m := 5) hy (by decide) (by decide)]
  generalize y % 5 = t at ht
  have ek := r1.1 t ht
  rw [Nat.zero_add] at ek
  refine rdA hl.a (k := t) rfl (by omega) (by decide) ek ?_
  refine wrA hl.a (k := t) rfl (by omega) (by decide) ?_
  have hl1 := hl.ua (upd A t (nI n))
  refine SPL.frc hl1 hO (fun P hP => u_rows hO ht n0 n1 hP) (fun h2 hc2 hl2 hO2 => ?_)
  rw [if_pos rfl]
  refine hP hc2 _ _ F T L V h2 hl2 hO2 ⟨⟨⟨fun i hi => ?_, fun i j hi hj => (if_neg (by omega)).trans (r1.2 i j hi hj)⟩, ⟨fun i hi => (if_neg (by omega)).trans (r2.1 i hi), fun i j hi hj => (if_neg (by omega)).trans (r2.2 i j hi hj)⟩, (if_neg (by omega)).trans r3, r4, r5, r6⟩, r7, r8⟩ (CB.mono (d := (nu d.1 t n, d.2)) hCB (by omega))
  show (if 0 + i = t then nI n else A (0 + i)) = nI (nu d.1 t n i)
  unfold nu
  by_cases q : i = t
  · rw [if_pos (by omega), if_pos q]
  · rw [if_neg (by omega), if_neg q]
    exact r1.1 i hi
theorem l_act206 (hR : RA d A F T L) (hCB : CB N d) {s : Nat} (hs : s < 32) (s1 : 1 ≤ s) (hl : LH ct pa pf pt pl pw hc [] A F T L V h) (hO : OD ct a0 ax hc d) {a7 a8 : Int32} {Post : Int32 → KH → Prop} (hP : StO ct a0 ax pa pf pt pl pw N Post) : g_L_isActed_J206 ct a0 ax pa pf pt pl pw a7 a8 Post (nI s) h := by
  unfold g_L_isActed_J206
  refine l_run hO.I hs s1 hO hl hR (fun hc' A' F' T' L' V' h' hl' hO' hR' => ?_)
  refine SPL.frc hl' hO' (fun P hP => u_run hO' hs s1 hP) (fun h2 hc2 hl2 hO2 => ?_)
  refine l_cut ?_
  rw [if_pos rfl]
  exact hP hc2 _ A' F' T' L' V' h2 hl2 hO2 hR' (hCB.rD hO.I.1 hs (by omega))
theorem l_act322 (hR : RA d A F T L) (hCB : CB N d) (hN : N ≤ 1000000000) {s : Nat} (hs : s < 32) (s1 : 1 ≤ s) (hl : LH ct pa pf pt pl pw hc [] A F T L V h) (hO : OD ct a0 ax hc d) {a7 a8 : Int32} {Post : Int32 → KH → Prop} (hP : StO ct a0 ax pa pf pt pl pw N Post) : g_L_isActed_J322 ct a0 ax pa pf pt pl pw a7 a8 Post (nI s) h := by
  have hR0 := hR
  obtain ⟨⟨r1, r2, r3, r4, r5, r6⟩, r7, r8⟩ := hR0
  have hI := hO.I
  have hS := hI.1
  have h4 := hS.2.2.2.2.1
  unfold g_L_isActed_J322
  refine l_place hl.f hl.t r5 h4 r4 (fun x hx => (hS.2.2.2.1 x hx).2.1) hs (fun i x hi hx => ?_) (fun hno => ?_)
  · have hil := (List.getElem?_eq_some_iff.mp hi).1
    have hFx := r4 i x hi
    rw [if_pos (show (0 : Int32) ≤ nI i from nI_le (a := 0) (Nat.zero_le _) (by omega))]
    refine rdA hl.f (k := 14 * i + 11) (ix14 i 11) (by omega) (by decide) hFx.2.2.2.1 ?_
    unfold g_L_isActed_J353
    rw [if_neg (show ¬ nI i < (0 : Int32) from nI_pos (by omega))]
    refine l_out h4 hil r5 hl (fun F' h' hl' g1 g2 => ?_)
    refine rdA hl'.t (k := 6) rfl (by decide) (by decide) ((if_neg (by decide)).trans r6.2.2.2.2.2.1) ?_
    refine wrA hl'.t (k := 6) rfl (by decide) (by decide) ?_
    have hl2 := hl'.ut (upd (upd T 0 (nI (d.2.2.2.1.length - 1))) 6 (nI (d.2.2.2.2.2 7) + 1))
    refine SPL.frc hl2 hO (fun P hP => u_forget hO hs s1 hi hx hP) (fun h3 hc3 hl3 hO3 => ?_)
    rw [if_pos (tv_sm (Nat.le_trans (hCB.1 x (List.mem_of_getElem? hi)) hN))]
    refine hP hc3 _ A F' _ L V h3 hl3 hO3 ⟨⟨r1, r2, r3, r4.erase hil g1 g2, ?_, (r6.t0 _).u6 (nI_s1 _)⟩, ?_, ?_⟩ ⟨fun y hy => Nat.le_trans (hCB.1 y (mem_erase hy)) (by omega), fun c h2 h3 => ?_⟩
    · show upd (upd T 0 (nI (d.2.2.2.1.length - 1))) 6 _ 0 = nI (d.2.2.2.1.eraseIdx i).length
      rw [List.length_eraseIdx_of_lt hil]
      exact (if_neg (by decide)).trans (if_pos rfl)
    · exact r7.trans (congrArg lN (show nu d.2.2.2.2.2 7 (d.2.2.2.2.2 7 + 1) 2 = d.2.2.2.2.2 2 from nu_n (by decide)).symm)
    · exact r8.trans (congrArg lN (show nu d.2.2.2.2.2 7 (d.2.2.2.2.2 7 + 1) 3 = d.2.2.2.2.2 3 from nu_n (by decide)).symm)
    · have := hCB.2 c h2 h3
      show nu d.2.2.2.2.2 7 (d.2.2.2.2.2 7 + 1) c ≤ _
      unfold nu
      by_cases q : c = 7
      · rw [if_pos q, ← q]; omega
      · rw [if_neg q]; omega
  · rw [if_neg (show ¬ (0 : Int32) ≤ -1 by decide)]
    unfold g_L_isActed_J353
    rw [if_pos (show (-1 : Int32) < 0 by decide)]
    refine SPL.frc hl hO (fun P hP => u_forget0 hO hs s1 hno hP) (fun h3 hc3 hl3 hO3 => ?_)
    rw [if_pos rfl]
    exact hP hc3 d A F T L V h3 hl3 hO3 hR (hCB.mono (by omega))
theorem l_actC (hR : RA d A F T L) (hCB : CB N d) {y : Nat} (hy : y < 2 ^ 31) (hl : LH ct pa pf pt pl pw hc [] A F T L V h) (hO : OD ct a0 ax hc d) {Post : Int32 → KH → Prop} (hP : StO ct a0 ax pa pf pt pl pw N Post) :
    ldI h pa (nI y - ((nI y / (5 : Int32)) * (5 : Int32))) (ct 0) (fun v51 => stI h pa ((5 : Int32) + (nI y - ((nI y / (5 : Int32)) * (5 : Int32)))) (ct 0) v51 (fun h52 => g_L_thrown ct a0 pa pf pt h52 (fun v53 h53 => frC h53 ax (fun hc P => g_X5_count ct a0 ax (nI y - ((nI y / (5 : Int32)) * (5 : Int32))) hc P) (fun v54 h54 => if v54 = v53 then Post (1 : Int32) h54 else Post (0 : Int32) h54)))) := by
  obtain ⟨⟨r1, r2, r3, r4, r5, r6⟩, r7, r8⟩ := hR
  have hI := hO.I
  have hS := hI.1
  have ht : y % 5 < 5 := Nat.mod_lt _ (by decide)
  rw [show nI y - ((nI y / (5 : Int32)) * (5 : Int32)) = nI (y % 5) from modI (m := 5) hy (by decide) (by decide)]
  generalize y % 5 = t at ht
  have ek := r1.1 t ht
  rw [Nat.zero_add] at ek
  refine rdA hl.a (k := t) rfl (by omega) (by decide) ek ?_
  refine wrA hl.a (k := 5 + t) (lit_add 5 t) (by omega) (by decide) ?_
  have hl1 := hl.ua (upd A (5 + t) (nI (d.1 t)))
  have eg := gcnt_pow d.1 d.2.1 ht
  have hS1 : SOK (d.1, nu d.2.1 t (d.1 t), d.2.2) := ⟨hS.1, nu_NB hS.2.1 (hS.1 t ht), hS.2.2⟩
  refine l_throwD (d := (d.1, nu d.2.1 t (d.1 t), d.2.2)) hS1 hl1 ⟨⟨⟨fun i hi => (if_neg (by omega)).trans (r1.1 i hi), fun i j hi hj => (if_neg (by omega)).trans (r1.2 i j hi hj)⟩, ⟨fun i hi => ?_, fun i j hi hj => (if_neg (by omega)).trans (r2.2 i j hi hj)⟩, (if_neg (by omega)).trans r3, r4, r5, r6⟩, r7, r8⟩ (fun F2 T2 h2 hl2 hR2 => ?_)
  · show (if 5 + i = 5 + t then nI (d.1 t) else A (5 + i)) = nI (nu d.2.1 t (d.1 t) i)
    unfold nu
    by_cases q : i = t
    · rw [if_pos (by omega), if_pos q]
    · rw [if_neg (by omega), if_neg q]
      exact r2.1 i hi
  · have hu : ∀ P : Int32 → KH → Prop, (∀ h1, OD ct a0 ax h1 (counted d (2 ^ t)) → P (nI (countedN d (2 ^ t))) h1) → g_X5_count ct a0 ax (nI t) hc P := fun P hP => u_count hO ht hP
    unfold counted countedN at hu
    rw [eg] at hu
    refine SPL.frc hl2 hO hu (fun h3 hc3 hl3 hO3 => ?_)
    rw [if_pos rfl]
    exact hP hc3 _ _ F2 T2 L V h3 hl3 hO3 hR2 ((CB.thr (d := (d.1, nu d.2.1 t (d.1 t), d.2.2)) hCB hS.2.2.2.2.1 4 _).mono (by omega))
theorem l_actD (hR : RA d A F T L) (hCB : CB N d) {n : Nat} (n0 : 100 ≤ n) (n1 : n ≤ 1000) (hl : LH ct pa pf pt pl pw hc [] A F T L V h) (hO : OD ct a0 ax hc d) {Post : Int32 → KH → Prop} (hP : StO ct a0 ax pa pf pt pl pw N Post) :
    stI h pa (35 : Int32) (ct 0) (nI n) (fun h7 => g_L_thrown ct a0 pa pf pt h7 (fun v8 h8 => ldI h8 pa (35 : Int32) (ct 0) (fun v9 => frC h8 ax (fun hc P => g_X5_drift ct a0 ax v9 hc P) (fun v10 h10 => if v10 = v8 then Post (1 : Int32) h10 else Post (0 : Int32) h10)))) := by
  obtain ⟨⟨r1, r2, r3, r4, r5, r6⟩, r7, r8⟩ := hR
  have hI := hO.I
  have hS := hI.1
  refine wrA hl.a (k := 35) rfl (by omega) (by decide) ?_
  have hl1 := hl.ua (upd A 35 (nI n))
  have hS1 : SOK (d.1, d.2.1, d.2.2.1, d.2.2.2.1, n, d.2.2.2.2.2) := ⟨hS.1, hS.2.1, hS.2.2.1, hS.2.2.2.1, hS.2.2.2.2.1, n0, n1⟩
  refine l_throwD (d := (d.1, d.2.1, d.2.2.1, d.2.2.2.1, n, d.2.2.2.2.2)) hS1 hl1 ⟨⟨⟨fun i hi => (if_neg (by omega)).trans (r1.1 i hi), fun i j hi hj => (if_neg (by omega)).trans (r1.2 i j hi hj)⟩, ⟨fun i hi => (if_neg (by omega)).trans (r2.1 i hi), fun i j hi hj => (if_neg (by omega)).trans (r2.2 i j hi hj)⟩, if_pos rfl, r4, r5, r6⟩, r7, r8⟩ (fun F2 T2 h2 hl2 hR2 => ?_)
  refine rdA hl2.a (k := 35) rfl (by decide) (by decide) (if_pos rfl) ?_
  refine SPL.frc hl2 hO (fun P hP => u_drift hO n0 n1 hP) (fun h3 hc3 hl3 hO3 => ?_)
  rw [if_pos rfl]
  exact hP hc3 _ _ F2 T2 L V h3 hl3 hO3 hR2 ((CB.thr (d := (d.1, d.2.1, d.2.2.1, d.2.2.2.1, n, d.2.2.2.2.2)) hCB hS.2.2.2.2.1 4 _).mono (by omega))
/-- a shape out of the plans -/
theorem l_pick (hR : RA d A F T L) {y : Nat} (hy : y < 2 ^ 31) (hl : LH ct pa pf pt pl pw hc [] A F T L V h) (hO : OD ct a0 ax hc d) (hne : d.2.2.2.1.length ≠ 0) {K : Int32 → Prop} (hK : ∀ s, s < 32 → 1 ≤ s → K (nI s)) :
    ¬ nI d.2.2.2.1.length = 0 ∧ ldI h pf ((14 : Int32) * (nI y - ((nI y / nI d.2.2.2.1.length) * nI d.2.2.2.1.length))) (ct 0) K := by
  obtain ⟨⟨r1, r2, r3, r4, r5, r6⟩, r7, r8⟩ := hR
  have hS := hO.I.1
  have h4 := hS.2.2.2.2.1
  refine ⟨nI_ne0 (by omega) (by omega), ?_⟩
  rw [modI hy (by omega) (by omega), ix14o]
  have hm : y % d.2.2.2.1.length < d.2.2.2.1.length := Nat.mod_lt _ (by omega)
  generalize y % d.2.2.2.1.length = i at hm
  have hi : d.2.2.2.1[i]? = some d.2.2.2.1[i] := List.getElem?_eq_getElem hm
  generalize d.2.2.2.1[i] = x at hi
  have hok := hS.2.2.2.1 x (List.mem_of_getElem? hi)
  exact rdA hl.f (k := 14 * i) rfl (by omega) (by decide) (r4 i x hi).1 (hK _ hok.2.1 hok.1)
theorem l_shape {y : Nat} (hy : y < 2 ^ 31) : (1 : Int32) + (nI y - ((nI y / (31 : Int32)) * (31 : Int32))) = nI (1 + y % 31) := by
  rw [show nI y - ((nI y / (31 : Int32)) * (31 : Int32)) = nI (y % 31) from modI (m := 31) hy (by decide) (by decide)]
  exact nI_add 1 _
theorem isB_1 : isB (1 : Int32) = true := by decide +kernel
theorem l_isActed (hR : RA d A F T L) (hCB : CB N d) (hN : N ≤ 1000000000) {w y : Nat} (hw : w < 16) (hy : y < 2 ^ 28) (hl : LH ct pa pf pt pl pw hc [] A F T L V h) (hO : OD ct a0 ax hc d) {Post : Int32 → KH → Prop} (hP : StO ct a0 ax pa pf pt pl pw N Post) : g_L_isActed ct a0 ax pa pf pt pl pw (nI w) (nI y) h Post := by
  have hy31 : y < 2 ^ 31 := by omega
  have hS := hO.I.1
  have h4 := hS.2.2.2.2.1
  have r5 := hR.1.2.2.2.2.1
  have hs31 : 1 + y % 31 < 32 := by have := Nat.mod_lt y (show 0 < 31 by decide); omega
  have hsh := l_shape hy31
  have hB : StO ct a0 ax pa pf pt pl pw N (fun v h => isB v = true ∧ Post v h) := fun hc d A F T L V h a b c e => ⟨isB_1, hP hc d A F T L V h a b c e⟩
  have hlen0 : ∀ {P Q : Prop}, (d.2.2.2.1.length = 0 → P) → (d.2.2.2.1.length ≠ 0 → Q) → (if nI d.2.2.2.1.length ≤ (0 : Int32) then P else Q) := fun {P Q} hp hq => by
    by_cases z : d.2.2.2.1.length = 0
    · rw [if_pos (show nI d.2.2.2.1.length ≤ (0 : Int32) from nI_le (b := 0) (by omega) (by decide))]
      exact hp z
    · rw [if_neg (show ¬ nI d.2.2.2.1.length ≤ (0 : Int32) from nI_ge (a := 0) (by omega) (by omega))]
      exact hq z
  unfold g_L_isActed
  by_cases w4 : 4 ≤ w
  · rw [if_pos (show (4 : Int32) ≤ nI w from nI_le (a := 4) w4 (by omega))]
    by_cases w6 : 6 ≤ w
    · rw [if_pos (show (6 : Int32) ≤ nI w from nI_le (a := 6) w6 (by omega))]
      by_cases e6 : w = 6
      · rw [if_pos (show nI w = (6 : Int32) by rw [e6]; rfl)]
        exact l_actC hR hCB hy31 hl hO hP
      · rw [if_neg (show ¬ nI w = (6 : Int32) from fun z => e6 (nI_inj31 (b := 6) (by omega) (by decide) z))]
        by_cases w12 : 12 ≤ w
        · rw [if_pos (show (12 : Int32) ≤ nI w from nI_le (a := 12) w12 (by omega))]
          by_cases w14 : 14 ≤ w
          · rw [if_pos (show (14 : Int32) ≤ nI w from nI_le (a := 14) w14 (by omega))]
            by_cases e14 : w = 14
            · rw [if_pos (show nI w = (14 : Int32) by rw [e14]; rfl)]
              refine rdA hl.t (k := 0) rfl (by decide) (by decide) r5 ?_
              rw [hsh]
              refine hlen0 (fun _ => l_act322 hR hCB hN hs31 (by omega) hl hO hP) (fun hne => ?_)
              have em : nI y - ((nI y / (4 : Int32)) * (4 : Int32)) = nI (y % 4) := modI (m := 4) hy31 (by decide) (by decide)
              by_cases q : nI y - ((nI y / (4 : Int32)) * (4 : Int32)) ≤ (0 : Int32)
              · rw [if_pos q]
                exact l_act322 hR hCB hN hs31 (by omega) hl hO hP
              · rw [if_neg q]
                refine rdA hl.t (k := 0) rfl (by decide) (by decide) r5 ?_
                exact l_pick hR hy31 hl hO hne (fun s hs s1 => l_act322 hR hCB hN hs s1 hl hO hP)
            · rw [if_neg (show ¬ nI w = (14 : Int32) from fun z => e14 (nI_inj31 (b := 14) (by omega) (by decide) z))]
              have hm := Nat.mod_lt y (show 0 < 901 by decide)
              have ed : (100 : Int32) + (nI y - ((nI y / (901 : Int32)) * (901 : Int32))) = nI (100 + y % 901) := by
                rw [show nI y - ((nI y / (901 : Int32)) * (901 : Int32)) = nI (y % 901) from modI (m := 901) hy31 (by decide) (by decide)]
                exact nI_add 100 _
              rw [ed]
              exact l_actD hR hCB (by omega) (by omega) hl hO hP
          · rw [if_neg (show ¬ (14 : Int32) ≤ nI w from nI_ge (b := 14) (by omega) (by decide)), hsh]
            by_cases q : nI y - ((nI y / (3 : Int32)) * (3 : Int32)) ≤ (0 : Int32)
            · rw [if_pos q]
              exact l_isPinned hR hCB hs31 (by omega) hl hO hB
            · rw [if_neg q]
              refine rdA hl.t (k := 0) rfl (by decide) (by decide) r5 ?_
              refine hlen0 (fun _ => l_isPinned hR hCB hs31 (by omega) hl hO hB) (fun hne => ?_)
              refine rdA hl.t (k := 0) rfl (by decide) (by decide) r5 ?_
              exact l_pick hR hy31 hl hO hne (fun s hs s1 => l_isPinned hR hCB hs s1 hl hO hB)
        · rw [if_neg (show ¬ (12 : Int32) ≤ nI w from nI_ge (b := 12) (by omega) (by decide)), hsh]
          by_cases w9 : 9 ≤ w
          · rw [if_pos (show (9 : Int32) ≤ nI w from nI_le (a := 9) w9 (by omega))]
            exact l_act206 hR hCB hs31 (by omega) hl hO hP
          · rw [if_neg (show ¬ (9 : Int32) ≤ nI w from nI_ge (b := 9) (by omega) (by decide))]
            refine rdA hl.t (k := 0) rfl (by decide) (by decide) r5 ?_
            refine hlen0 (fun _ => l_act206 hR hCB hs31 (by omega) hl hO hP) (fun hne => ?_)
            refine rdA hl.t (k := 0) rfl (by decide) (by decide) r5 ?_
            exact l_pick hR hy31 hl hO hne (fun s hs s1 => l_act206 hR hCB hs s1 hl hO hP)
    · rw [if_neg (show ¬ (6 : Int32) ≤ nI w from nI_ge (b := 6) (by omega) (by decide))]
      have h1 := Nat.mod_lt y (show 0 < 5 by decide)
      have h2 := Nat.mod_lt (y / 5) (show 0 < 5 by decide)
      have h3 := Nat.mod_lt (y / 25) (show 0 < 100 by decide)
      have l5 := Nat.div_le_self y 5
      have l25 := Nat.div_le_self y 25
      rw [div5 hy31, div25 hy31, show nI y - (nI (y / 5) * (5 : Int32)) = nI (y % 5) from (by
        have := modI (m := 5) hy31 (by decide) (by decide)
        rw [show nI y / nI 5 = nI (y / 5) from div5 hy31] at this
        exact this), show nI (y / 5) - ((nI (y / 5) / (5 : Int32)) * (5 : Int32)) = nI (y / 5 % 5) from modI (m := 5) (by omega) (by decide) (by decide), show nI (y / 25) - ((nI (y / 25) / (100 : Int32)) * (100 : Int32)) = nI (y / 25 % 100) from modI (m := 100) (by omega) (by decide) (by decide), show (1 : Int32) + nI (y / 25 % 100) = nI (1 + y / 25 % 100) from nI_add 1 _]
      exact l_isPart hR hCB h1 h2 (by omega) (by omega) hl hO hB
  · rw [if_neg (show ¬ (4 : Int32) ≤ nI w from nI_ge (b := 4) (by omega) (by decide))]
    have l15 := Nat.div_le_self y 15
    have h500 := Nat.mod_lt (y / 15) (show 0 < 500 by decide)
    have h30 := Nat.mod_lt (y / 15) (show 0 < 30 by decide)
    rw [div15 hy31, show nI (y / 15) - ((nI (y / 15) / (500 : Int32)) * (500 : Int32)) = nI (y / 15 % 500) from modI (m := 500) (by omega) (by decide) (by decide), show nI (y / 15) - ((nI (y / 15) / (30 : Int32)) * (30 : Int32)) = nI (y / 15 % 30) from modI (m := 30) (by omega) (by decide) (by decide), show (1 : Int32) + nI (y / 15 % 500) = nI (1 + y / 15 % 500) from nI_add 1 _, show (1 : Int32) + nI (y / 15 % 30) = nI (1 + y / 15 % 30) from nI_add 1 _]
    split
    · exact l_act48 hR hCB hy31 (by omega) (by omega) hl hO hP
    · exact l_act48 hR hCB hy31 (by omega) (by omega) hl hO hP
end LAE
