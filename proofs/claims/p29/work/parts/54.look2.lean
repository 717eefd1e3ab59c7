/-! sizes and bests -/
section L2
variable {ct : Nat → ClassId} {a0 : Nat}
theorem base_or (a2 : Int32) : f_X6_base a2 = some (nI (if a2 = 0 then 5 else 0)) := by
  unfold f_X6_base
  by_cases q : a2 = 0
  · rw [if_pos q, if_pos q]; rfl
  · rw [if_neg q, if_neg q]; rfl
theorem NuR.msA {v : Nat → Nat} {st : DS} (hn : NuR v st) (hS : SOK st) (a2 : Int32) : MS (if a2 = 0 then 5 else 0) (SI v) (szN (if a2 = 0 then st.2.1 else st.1) st.2.2.1) := by
  by_cases q : a2 = 0
  · rw [if_pos q, if_pos q]; exact hn.ms5 hS.2.1 hS.2.2.1
  · rw [if_neg q, if_neg q]; exact hn.ms0 hS.1 hS.2.2.1
theorem NB_if {st : DS} (hS : SOK st) (a2 : Int32) : NB (if a2 = 0 then st.2.1 else st.1) := by
  by_cases q : a2 = 0
  · rw [if_pos q]; exact hS.2.1
  · rw [if_neg q]; exact hS.1
theorem cmp_lN0 {n : Nat} : ¬ lg_cmp (lN n) (0 : Int64) < (0 : Int32) ∨ 2 ^ 63 ≤ n := by
  by_cases q : n < 2 ^ 63
  · refine Or.inl fun z => ?_
    have := (lg_cmp_lt _ _).mp z
    have := (pk_lLT (a := n) (b := 0) q (by decide)).mp this
    omega
  · exact Or.inr (by omega)
end L2

