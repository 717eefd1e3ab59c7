/-! the start: the model; all steps -/
section SM
variable {ct : Nat → ClassId} {a0 : Nat}
def Sx (hF h : KH) (am : Nat) (fs : List Value) (l : va_W) : Prop := h am = some (.inr (7, fs)) ∧ (∀ a e, (a, e) ∈ l → h a = some e) ∧ (∀ z, z ≠ am → z ∉ l.map Prod.fst → h z = hF z) ∧ (∀ z ∈ l.map Prod.fst, hF z = none) ∧ (am :: l.map Prod.fst).Nodup
theorem Sx.new {hF h : KH} {am : Nat} {fs : List Value} {l : va_W} (S : Sx hF h am fs l) {e : va_E} {k : Nat} (hk : k < fs.length) {K : KH → Prop} (hK : ∀ q h2, Sx hF h2 am (fs.set k (.ref q)) (l ++ [(q, e)]) → K h2) : nwC h e (fun q h1 => wrF h1 am 7 k (.ref q) K) := by
  obtain ⟨s1, s2, s3, s4, s5⟩ := S
  intro q h1 hq e1
  have qa : am ≠ q := fun z => by rw [← z, s1] at hq; cases hq
  have ql : q ∉ l.map Prod.fst := fun z => by
    obtain ⟨⟨a, e'⟩, hx, rfl⟩ := List.mem_map.mp z
    rw [s2 a e' hx] at hq; cases hq
  refine ⟨fs, by rw [e1, hup_ne qa]; exact s1, hk, fun h2 e2 => hK q h2 ⟨by rw [e2]; exact hup_same, fun a e' hx => ?_, fun z hz hl => ?_, fun z hz => ?_, ?_⟩⟩
  · rcases List.mem_append.mp hx with hx | hx
    · have h0 := s2 a e' hx
      have ha : a ≠ am := fun z => (List.nodup_cons.mp s5).1 (by rw [← z]; exact List.mem_map.mpr ⟨_, hx, rfl⟩)
      rw [e2, hup_ne ha, e1, hup_ne (fun z => by rw [z, hq] at h0; cases h0)]
      exact h0
    · cases List.mem_singleton.mp hx
      rw [e2, hup_ne (Ne.symm qa), e1]
      exact hup_same
  · rw [List.map_append, List.mem_append] at hl
    rw [e2, hup_ne hz, e1, hup_ne (fun y => hl (Or.inr (by rw [y]; exact List.mem_cons_self)))]
    exact s3 z hz (fun y => hl (Or.inl y))
  · rw [List.map_append] at hz
    rcases List.mem_append.mp hz with hz | hz
    · exact s4 z hz
    · have : z = q := by simpa using hz
      subst this
      rw [← s3 z (Ne.symm qa) ql]
      exact hq
  · rw [List.map_append]
    obtain ⟨n1, n2⟩ := List.nodup_cons.mp s5
    refine List.nodup_cons.mpr ⟨fun y => ?_, List.nodup_append.mpr ⟨n2, by simp, fun a ha b hb z => ?_⟩⟩
    · rcases List.mem_append.mp y with y | y
      · exact n1 y
      · exact qa (by simpa using y)
    · have hb2 : b = q := by simpa using hb
      exact ql (by rw [← hb2, ← z]; exact ha)
theorem Sx.upd {hF h : KH} {am : Nat} {fs : List Value} {a : Nat} {e e' : va_E} {l : va_W} (S : Sx hF h am fs ((a, e) :: l)) : Sx hF (hup h a e') am fs ((a, e') :: l) := by
  obtain ⟨s1, s2, s3, s4, s5⟩ := S
  obtain ⟨n1, n2⟩ := List.nodup_cons.mp s5
  obtain ⟨n3, n4⟩ := List.nodup_cons.mp n2
  have qa : am ≠ a := fun z => n1 (by rw [z]; exact List.mem_cons_self)
  refine ⟨by rw [hup_ne qa]; exact s1, fun b eb hx => ?_, fun z hz hl => ?_, s4, s5⟩
  · rcases List.mem_cons.mp hx with hx | hx
    · cases hx; exact hup_same
    · rw [hup_ne (fun z => n3 (by rw [← z]; exact List.mem_map.mpr ⟨_, hx, rfl⟩))]
      exact s2 b eb (List.mem_cons_of_mem _ hx)
  · rw [hup_ne (fun y => hl (by rw [y]; exact List.mem_cons_self))]
    exact s3 z hz hl
def v1 (t : Nat) : Nat → Nat := fun k => if k < t ∨ (5 ≤ k ∧ k < 5 + t) then 10 else 0
def v2 (i : Nat) : Nat → Nat := fun k => if k < 10 then 10 else if k < 10 + i then 100 else 0
theorem v1_s {t : Nat} (ht : t < 5) : nu (nu (v1 t) t 10) (5 + t) 10 = v1 (t + 1) := by
  funext k
  unfold nu v1
  by_cases q1 : k = 5 + t
  · rw [if_pos q1, if_pos (by omega)]
  · rw [if_neg q1]
    by_cases q2 : k = t
    · rw [if_pos q2, if_pos (by omega)]
    · rw [if_neg q2]
      by_cases q3 : k < t ∨ (5 ≤ k ∧ k < 5 + t)
      · rw [if_pos q3, if_pos (by omega)]
      · rw [if_neg q3, if_neg (by omega)]
theorem v12 : v1 5 = v2 0 := by
  funext k
  unfold v1 v2
  by_cases q : k < 10
  · rw [if_pos q, if_pos (by omega)]
  · rw [if_neg q, if_neg (by omega), if_neg (by omega)]
theorem v2_s (i : Nat) : nu (v2 i) (10 + i) 100 = v2 (i + 1) := by
  funext k
  unfold nu v2
  by_cases q1 : k = 10 + i
  · rw [if_pos q1, if_neg (by omega), if_pos (by omega)]
  · rw [if_neg q1]
    by_cases q2 : k < 10
    · rw [if_pos q2, if_pos q2]
    · rw [if_neg q2, if_neg q2]
      by_cases q3 : k < 10 + i
      · rw [if_pos q3, if_pos (by omega)]
      · rw [if_neg q3, if_neg (by omega)]
theorem v1_0 : SI (v1 0) = fun _ => 0 := by
  funext k
  show nI (v1 0 k) = 0
  unfold v1
  rw [if_neg (by omega)]
  rfl
def vIn : Nat → Nat := nu (v2 25) 35 200
theorem SR_n : SR 0 vIn [] DSn := by
  refine ⟨⟨(fun e he => by cases he), List.Pairwise.nil, fun k hk _ i hi => ?_⟩, ⟨?_, ?_, ?_, ?_, ?_, ?_, ?_, ?_, ?_, ?_⟩, ?_⟩
  · unfold vIn nu v2
    rw [if_neg (by omega), if_neg (by omega), if_neg (by omega)]
  · exact (by decide +kernel : ∀ t, t < 5 → vIn t = c10 t ∧ vIn (5 + t) = c10 t)
  · exact fun i j hi hj => (by decide +kernel : ∀ i, i < 5 → ∀ j, j < 5 → vIn (10 + 5 * i + j) = c100 i j) i hi j hj
  · decide +kernel
  · decide +kernel
  · decide +kernel
  · decide +kernel
  · decide +kernel
  · decide +kernel
  · decide +kernel
  · decide +kernel
  · exact (by decide +kernel : ∀ i, i < 100 → vIn i ≤ 1000 + 0)
theorem m_i146 {hF : KH} {am a : Nat} {fs : List Value} {l : va_W} (hf : fs[0]? = some (.ref a)) {Post : Unit → KH → Prop} : ∀ (n i : Nat) (h : KH), i ≤ 25 → 25 < n + i → Sx hF h am fs ((a, .inl (ct 0, 100, .inl (SI (v2 i)))) :: l) → (∀ h1, Sx hF h1 am fs ((a, .inl (ct 0, 100, .inl (SI vIn))) :: l) → Post () h1) → g_X6_init_L146 ct a0 am Post n (nI i) h
  | 0, i, h, h1, h2, _, _ => by omega
  | n + 1, i, h, h1, h2, S, hP => by
    have ha := S.2.1 a _ List.mem_cons_self
    show g_X6_init_L146b _ _ _ _ _ _ _
    unfold g_X6_init_L146b
    by_cases q : 25 ≤ i
    · have e : i = 25 := by omega
      subst e
      rw [if_pos (show (25 : Int32) ≤ nI 25 by decide +kernel)]
      refine ⟨_, _, S.1, hf, _, _, ha, by decide +kernel, fun h3 e3 => hP h3 ?_⟩
      rw [e3, show (35 : Int32) = nI 35 from rfl, nI_clamp (by decide), show (200 : Int32) = nI 200 from rfl, SI_up]
      exact S.upd
    · rw [if_neg (show ¬ (25 : Int32) ≤ nI i from nI_ge (b := 25) (by omega) (by decide)), show nI i + (1 : Int32) = nI (i + 1) from nI_1 i, show ((10 : Int32) + nI i) = nI (10 + i) from nI_add 10 i]
      refine ⟨_, _, S.1, hf, _, _, ha, inb_nI (by omega) (by decide), fun h3 e3 => m_i146 hf n (i + 1) h3 (by omega) (by omega) ?_ hP⟩
      rw [e3, nI_clamp (by omega), show (100 : Int32) = nI 100 from rfl, SI_up, v2_s]
      exact S.upd
theorem m_i113 {hF : KH} {am a : Nat} {fs : List Value} {l : va_W} (hf : fs[0]? = some (.ref a)) {Post : Unit → KH → Prop} : ∀ (n t : Nat) (h : KH), t ≤ 5 → 5 < n + t → Sx hF h am fs ((a, .inl (ct 0, 100, .inl (SI (v1 t)))) :: l) → (∀ h1, Sx hF h1 am fs ((a, .inl (ct 0, 100, .inl (SI vIn))) :: l) → Post () h1) → g_X6_init_L113 ct a0 am Post n (nI t) h
  | 0, t, h, h1, h2, _, _ => by omega
  | n + 1, t, h, h1, h2, S, hP => by
    have ha := S.2.1 a _ List.mem_cons_self
    show g_X6_init_L113b _ _ _ _ _ _ _
    unfold g_X6_init_L113b
    by_cases q : 5 ≤ t
    · have e : t = 5 := by omega
      subst e
      rw [if_pos (show (5 : Int32) ≤ nI 5 by decide +kernel)]
      rw [v12] at S
      exact m_i146 hf 1024 0 h (by decide) (by decide) S hP
    · rw [if_neg (show ¬ (5 : Int32) ≤ nI t from nI_ge (b := 5) (by omega) (by decide)), show nI t + (1 : Int32) = nI (t + 1) from nI_1 t, show ((5 : Int32) + nI t) = nI (5 + t) from nI_add 5 t, z_add]
      refine ⟨_, _, S.1, hf, _, _, ha, inb_nI (by omega) (by decide), fun h3 e3 => ?_⟩
      rw [nI_clamp (by omega), show (10 : Int32) = nI 10 from rfl, SI_up] at e3
      have S3 : Sx hF h3 am fs ((a, .inl (ct 0, 100, .inl (SI (nu (v1 t) t 10)))) :: l) := by rw [e3]; exact S.upd
      refine ⟨_, _, S3.1, hf, _, _, S3.2.1 a _ List.mem_cons_self, inb_nI (by omega) (by decide), fun h4 e4 => m_i113 hf n (t + 1) h4 (by omega) (by omega) ?_ hP⟩
      rw [e4, nI_clamp (by omega), show (10 : Int32) = nI 10 from rfl, SI_up, v1_s (by omega)]
      exact S3.upd
abbrev zI : Nat → Int32 := fun _ => 0
abbrev zL : Nat → Int64 := fun _ => 0
abbrev Mn : MT := (SI vIn, zI, zI, zI, zL, zL, zL, zL, 0, 0, 0, zI, 0, 0, zI, zI, zI, 0, zL, 0, 0, zI)
theorem MR_n : MR (200 * 0) Mn A0 := by
  refine ⟨StR.mk0 SR_n rfl ⟨rfl, rfl⟩, ⟨rfl, Nat.zero_le _, fun i d hi => ?_⟩, Or.inl ⟨rfl, rfl⟩, rfl, ⟨rfl, fun i hi => absurd hi (Nat.not_lt_zero _)⟩, rfl⟩
  have hi : ([] : List DS)[i]? = some d := hi
  cases hi
set_option maxHeartbeats 1000000 in
theorem start_ok : StartOK ct a0 (Rel ct a0) := by
  intro ax
  refine c_start ax (fun own hF hc am h2 hn e2 => ?_)
  have S0 : Sx hF h2 am [.null, .null, .null, .null, .null, .null, .null, .null, .int 0, .int 0, .int 0, .null, .int 0, .int 0, .null, .null, .null, .int 0, .null, .int 0, .int 0, .null] [] := ⟨by rw [e2]; exact hup_same, (fun a e hx => by cases hx), fun z hz _ => by rw [e2, hup_ne hz], (fun z hz => by cases hz), by simp⟩
  refine S0.new (by decide) (fun q1 h3 S1 => ?_)
  refine S1.new (Nat.le_of_ble_eq_true rfl) (fun q2 h4 S2 => ?_)
  refine S2.new (Nat.le_of_ble_eq_true rfl) (fun q3 h5 S3 => ?_)
  refine S3.new (Nat.le_of_ble_eq_true rfl) (fun q4 h6 S4 => ?_)
  refine S4.new (Nat.le_of_ble_eq_true rfl) (fun q5 h7 S5 => ?_)
  refine S5.new (Nat.le_of_ble_eq_true rfl) (fun q6 h8 S6 => ?_)
  refine S6.new (Nat.le_of_ble_eq_true rfl) (fun q7 h9 S7 => ?_)
  refine S7.new (Nat.le_of_ble_eq_true rfl) (fun q8 h10 S8 => ?_)
  refine S8.new (Nat.le_of_ble_eq_true rfl) (fun q9 h11 S9 => ?_)
  refine S9.new (Nat.le_of_ble_eq_true rfl) (fun q10 h12 S10 => ?_)
  refine S10.new (Nat.le_of_ble_eq_true rfl) (fun q11 h13 S11 => ?_)
  refine S11.new (Nat.le_of_ble_eq_true rfl) (fun q12 h14 S12 => ?_)
  refine S12.new (Nat.le_of_ble_eq_true rfl) (fun q13 h15 S13 => ?_)
  refine S13.new (Nat.le_of_ble_eq_true rfl) (fun q14 h16 S14 => ?_)
  have SE : Sx hF h16 am [.ref q1, .ref q2, .ref q3, .ref q4, .ref q5, .ref q6, .ref q7, .ref q8, .int 0, .int 0, .int 0, .ref q9, .int 0, .int 0, .ref q10, .ref q11, .ref q12, .int 0, .ref q13, .int 0, .int 0, .ref q14] ((q1, .inl (ct 0, 100, .inl (SI (v1 0)))) :: [(q2, .inl (ct 0, 400, .inl zI)), (q3, .inl (ct 0, 100, .inl zI)), (q4, .inl (ct 0, 100, .inl zI)), (q5, .inl (ct 1, 2, .inr (.inl zL))), (q6, .inl (ct 1, 8, .inr (.inl zL))), (q7, .inl (ct 1, 2, .inr (.inl zL))), (q8, .inl (ct 1, 2, .inr (.inl zL))), (q9, .inl (ct 0, 60, .inl zI)), (q10, .inl (ct 0, 2, .inl zI)), (q11, .inl (ct 0, 5, .inl zI)), (q12, .inl (ct 0, 5, .inl zI)), (q13, .inl (ct 1, 32, .inr (.inl zL))), (q14, .inl (ct 0, 124, .inl zI))]) := by
    rw [v1_0]
    exact S14
  refine m_i113 rfl 1024 0 h16 (by decide) (by decide) SE (fun h17 S17 => ?_)
  obtain ⟨t1, t2, t3, t4, t5⟩ := S17
  refine ⟨fun i => [am, q1, q2, q3, q4, q5, q6, q7, q8, q9, q10, q11, q12, q13, q14].getD i 0, Mn, rfl, ⟨fun a e hx => ?_, t5⟩, own, A0, ?_, MR_n, IV_n, (fun d hd => by cases hd), (fun d hd => by cases hd), Nat.zero_le _⟩
  · rcases List.mem_cons.mp hx with hx | hx
    · cases hx; exact t1
    · exact t2 a e hx
  · have eq : (fun q => if q ∈ mad (fun i => [am, q1, q2, q3, q4, q5, q6, q7, q8, q9, q10, q11, q12, q13, q14].getD i 0) then none else h17 q) = hF := by
      funext z
      show (if z ∈ [am, q1, q2, q3, q4, q5, q6, q7, q8, q9, q10, q11, q12, q13, q14] then none else h17 z) = hF z
      by_cases q : z ∈ [am, q1, q2, q3, q4, q5, q6, q7, q8, q9, q10, q11, q12, q13, q14]
      · rw [if_pos q]
        rcases List.mem_cons.mp q with q | q
        · rw [q, hn]
        · exact (t4 z q).symm
      · rw [if_neg q]
        exact t3 z (fun y => q (by rw [y]; exact List.mem_cons_self)) (fun y => q (List.mem_cons_of_mem _ y))
    rw [eq]
    exact hc
theorem steps_ok : StepsOK ct a0 (Rel ct a0) := ⟨fun j ax h M hr => ⟨hr.obj, hr.up⟩, sq_rows, sq_part, sq_count, sq_run, sq_pin, sq_forget, sq_drift, sq_append, sq_clear, sq_fault, sq_carryOut, sq_why, sq_table, sq_partOf, sq_size, sq_least, sq_best, sq_plan, sq_counted, sq_fitness, sq_ifCounted, sq_ifRun, sq_leastDrift, sq_undo, sq_save, sq_restore⟩
theorem steps_allX : ∀ (ct : Nat → ClassId) (a0 : Nat), ∃ Rel : Nat → Nat → KH → MT → Prop, StartOK ct a0 Rel ∧ StepsOK ct a0 Rel := fun ct a0 => ⟨Rel ct a0, start_ok, steps_ok⟩
end SM
