/-! the class and the model side by side -/
theorem ofI {x : Int32} (h : ¬ x < 0) : ∃ n, n < 2 ^ 31 ∧ x = nI n := by
  have h0 : (0 : Int) ≤ x.toInt := by
    exact Int.not_lt.mp (fun z => h (Int32.lt_iff_toInt_lt.mpr z))
  have h1 : x.toInt < 2 ^ 31 := by have := Int32.toInt_lt x; omega
  refine ⟨x.toInt.toNat, by omega, ?_⟩
  apply Int32.toInt_inj.mp
  rw [nI_toInt (by omega)]
  omega
theorem in_or (x : Int32) {lo hi : Nat} (hl : lo ≤ hi) (hh : hi < 2 ^ 31) : (∃ n, lo ≤ n ∧ n ≤ hi ∧ x = nI n ∧ f_X6_in x (nI lo) (nI hi) = some 1) ∨ ((x < nI lo ∨ nI hi < x) ∧ f_X6_in x (nI lo) (nI hi) = some 0) := by
  unfold f_X6_in
  by_cases q1 : x < nI lo
  · exact Or.inr ⟨Or.inl q1, if_pos q1⟩
  · rw [if_neg q1]
    by_cases q2 : nI hi < x
    · exact Or.inr ⟨Or.inr q2, if_pos q2⟩
    · rw [if_neg q2]
      have q0 : ¬ x < 0 := fun z => q1 (by
        have a := Int32.lt_iff_toInt_lt.mp z
        refine Int32.lt_iff_toInt_lt.mpr ?_
        rw [nI_toInt (by omega)]
        rw [show (0 : Int32).toInt = 0 from rfl] at a
        omega)
      obtain ⟨n, hn, rfl⟩ := ofI q0
      refine Or.inl ⟨n, ?_, ?_, rfl, rfl⟩
      · exact Nat.le_of_not_lt fun z => q1 (nI_lt z (by omega))
      · exact Nat.le_of_not_lt fun z => q2 (nI_lt z (by omega))
theorem if_out {α : Sort _} {x lo hi : Int32} {P Q : α} (h : x < lo ∨ hi < x) : (if x < lo then P else if x ≤ hi then Q else P) = P := by
  rcases h with h | h
  · rw [if_pos h]
  · by_cases q : x < lo
    · rw [if_pos q]
    · rw [if_neg q, if_neg (fun z => by
        have a := Int32.lt_iff_toInt_lt.mp h
        have b := Int32.le_iff_toInt_le.mp z
        omega)]
theorem if_in {α : Sort _} {n lo hi : Nat} {P Q : α} (h1 : lo ≤ n) (h2 : n ≤ hi) (hh : hi < 2 ^ 31) : (if nI n < nI lo then P else if nI n ≤ nI hi then Q else P) = Q := by
  rw [if_neg (fun z => absurd ((nI_ltI (by omega) (by omega)).mp z) (by omega)), if_pos (nI_le h2 hh)]
theorem tbl_or (x : Int32) : (∃ t, t < 5 ∧ x = nI t ∧ f_X5_isTable x = some 1 ∧ f_X6_isTable x = some 1) ∨ (f_X5_isTable x = some 0 ∧ f_X6_isTable x = some 0) := by
  rcases in_or x (lo := 0) (hi := 4) (by decide) (by decide) with ⟨n, h1, h2, rfl, h3⟩ | ⟨h1, h3⟩
  · refine Or.inl ⟨n, by omega, rfl, ?_, ?_⟩
    · exact (by decide +kernel : ∀ n, n < 5 → f_X5_isTable (nI n) = some 1) n (by omega)
    · unfold f_X6_isTable
      rw [show f_X6_in (nI n) (0 : Int32) (4 : Int32) = some 1 from h3]
      rfl
  · refine Or.inr ⟨?_, ?_⟩
    · unfold f_X5_isTable
      rcases h1 with h1 | h1
      · rw [if_pos (show x < 0 from h1)]
      · by_cases q : x < 0
        · rw [if_pos q]
        · rw [if_neg q]
          obtain ⟨n, hn, rfl⟩ := ofI q
          have := (nI_ltI (by decide) hn).mp h1
          rw [if_pos (show (5 : Int32) ≤ nI n from nI_le (a := 5) this hn)]
    · unfold f_X6_isTable
      rw [show f_X6_in x (0 : Int32) (4 : Int32) = some 0 from h3]
      rfl
theorem set_or (x : Int32) : (∃ s, 1 ≤ s ∧ s < 32 ∧ x = nI s ∧ f_X5_isSet x = some 1 ∧ f_X6_isSet x = some 1) ∨ (f_X5_isSet x = some 0 ∧ f_X6_isSet x = some 0) := by
  rcases in_or x (lo := 1) (hi := 31) (by decide) (by decide) with ⟨n, h1, h2, rfl, h3⟩ | ⟨h1, h3⟩
  · refine Or.inl ⟨n, h1, by omega, rfl, ?_, ?_⟩
    · exact (by decide +kernel : ∀ n, n < 32 → 1 ≤ n → f_X5_isSet (nI n) = some 1) n (by omega) h1
    · unfold f_X6_isSet
      rw [show f_X6_in (nI n) (1 : Int32) (31 : Int32) = some 1 from h3]
      rfl
  · refine Or.inr ⟨?_, ?_⟩
    · unfold f_X5_isSet
      by_cases q0 : x ≤ 0
      · rw [if_pos q0]
      · rw [if_neg q0]
        have q : ¬ x < 0 := fun z => q0 (Int32.le_iff_toInt_le.mpr (by have := Int32.lt_iff_toInt_lt.mp z; omega))
        obtain ⟨n, hn, rfl⟩ := ofI q
        rcases h1 with h1 | h1
        · have := (nI_ltI hn (by decide)).mp h1
          exact absurd (show nI n ≤ (0 : Int32) from nI_le (b := 0) (by omega) (by decide)) q0
        · have := (nI_ltI (by decide) hn).mp h1
          rw [if_pos (show (32 : Int32) ≤ nI n from nI_le (a := 32) this hn)]
    · unfold f_X6_isSet
      rw [show f_X6_in x (1 : Int32) (31 : Int32) = some 0 from h3]
      rfl
theorem told_cut (x : Int64) : f_X6_cut x = f_X5_told x := by
  unfold f_X6_cut f_X5_told
  by_cases q : (1000000000 : Int64) < x
  · rw [if_pos q, if_neg (fun z => by
      have z1 := (lg_cmp_le _ _).mp z
      have a := Int64.lt_iff_toInt_lt.mp q
      have b := Int64.le_iff_toInt_le.mp z1
      omega)]
  · rw [if_neg q, if_pos ((lg_cmp_le _ _).mpr (Int64.le_iff_toInt_le.mpr (Int.not_lt.mp (fun z => q (Int64.lt_iff_toInt_lt.mpr z)))))]
theorem told_sm {n : Nat} (h : n ≤ 1000000000) : f_X5_told (lN n) = some (nI n) := by
  unfold f_X5_told
  rw [if_neg (show ¬ (1000000000 : Int64) < lN n from fun z => absurd ((pk_lLT (a := 1000000000) (by decide) (by omega)).mp z) (by omega))]
  congr 1
  apply Int32.toInt_inj.mp
  rw [nI_toInt (by omega), Int64.toInt_toInt32]
  have e : (lN n).toInt = (n : Int) := by
    have := pk_lLE (a := n) (b := n) (by omega) (by omega)
    exact pk_lT (by omega)
  rw [e]
  exact Int.bmod_eq_of_le (by omega) (by omega)
def GA (A : AS) : Prop := IV A.1 ∧ (∀ d, A.2.1 = some d → IV d) ∧ (∀ d ∈ A.2.2.1, IV d) ∧ A.2.2.1.length ≤ 4
theorem GA.push {A : AS} (g : GA A) : ∀ d ∈ pushH A.2.2.1 A.1, IV d := fun d hd => by
  unfold pushH at hd
  have m : d ∈ A.2.2.1 ++ [A.1] := by
    split at hd
    · exact hd
    · exact mem_erase hd
  rcases List.mem_append.mp m with m | m
  · exact g.2.2.1 d m
  · rw [List.mem_singleton.mp m]; exact g.1
theorem pushH_len {l : List DS} {d : DS} (h : l.length ≤ 4) : (pushH l d).length ≤ 4 := by
  unfold pushH
  by_cases q : l.length ≤ 3
  · rw [if_pos q, List.length_append]
    exact Nat.succ_le_succ q
  · rw [if_neg q, List.length_eraseIdx]
    simp
    omega

