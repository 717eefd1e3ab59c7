/-! pin; undo, save, restore; append, clear -/
section P2
variable {ct : Nat → ClassId} {a0 : Nat} {N : Nat} {v : Nat → Nat} {E : List ME} {st : DS}
def pinD (st : DS) (E : List ME) (s pn : Nat) : DS := (st.1, st.2.1, st.2.2.1, (E.map (pinE s pn)).map Prod.fst, st.2.2.2.2)
theorem pin_mem {s pn : Nat} (hkp : st.2.2.2.1 = E.map Prod.fst) {x : PL} (hx : x ∈ (pinD st E s pn).2.2.2.1) : ∃ y ∈ st.2.2.2.1, x = y ∨ x = pinP pn y := by
  obtain ⟨e1, he1, rfl⟩ := List.mem_map.mp hx
  obtain ⟨e, he, rfl⟩ := List.mem_map.mp he1
  refine ⟨e.1, by rw [hkp]; exact List.mem_map_of_mem he, ?_⟩
  unfold pinE
  split
  · exact Or.inr rfl
  · exact Or.inl rfl
theorem pin_SZD {s pn : Nat} (hkp : st.2.2.2.1 = E.map Prod.fst) (hpn : pn < 2) (hI : IV st) : SOK (pinD st E s pn) ∧ ZOK (pinD st E s pn) ∧ DOK (pinD st E s pn) := by
  obtain ⟨⟨s1, s2, s3, s4, s5, s6⟩, hZ, hD, hL⟩ := hI
  refine ⟨⟨s1, s2, s3, fun x hx => ?_, ?_, s6⟩, hZ, ?_⟩
  · obtain ⟨y, hy, h | h⟩ := pin_mem hkp hx
    · rw [h]; exact s4 y hy
    · rw [h]
      obtain ⟨p1, p2, p3, p4, p5⟩ := s4 y hy
      exact ⟨p1, p2, p3, p4, hpn⟩
  · show ((E.map (pinE s pn)).map Prod.fst).length ≤ 4
    rw [List.length_map, List.length_map]
    rw [hkp, List.length_map] at s5
    exact s5
  · show (((E.map (pinE s pn)).map Prod.fst).map Prod.fst).Nodup
    have e : ((E.map (pinE s pn)).map Prod.fst).map Prod.fst = (E.map Prod.fst).map Prod.fst := by
      rw [List.map_map, List.map_map, List.map_map]
      refine List.map_congr_left (fun y hy => ?_)
      show (pinE s pn y).1.1 = y.1.1
      unfold pinE
      split <;> rfl
    rw [e, ← hkp]
    exact hD
theorem pin_L1 {s : Nat} (hkp : st.2.2.2.1 = E.map Prod.fst) (hL : LOK st) : LOK (pinD st E s 1) := fun x hx => by
  obtain ⟨y, hy, h | h⟩ := pin_mem hkp hx
  · rw [h]; exact hL y hy
  · rw [h]; rfl
theorem thr_id {c : Nat} (hL : LOK st) : thrown st c (keepD st.2.1 st.2.2.2.2.1) = st := by
  have e : st.2.2.2.1.filter (keepD st.2.1 st.2.2.2.2.1) = st.2.2.2.1 := List.filter_eq_self.mpr hL
  unfold thrown
  rw [e, Nat.sub_self, Nat.add_zero, nu_id]
theorem SR.pin (hR : SR N v E st) {s pn : Nat} (hs : ∃ e ∈ E, e.2.1 = s) (hpn : pn < 2) : SR N (nu v (36 + 14 * s + 13) pn) (E.map (pinE s pn)) (pinD st E s pn) := by
  have h4 : s < 4 := by
    obtain ⟨e, he, rfl⟩ := hs
    exact (hR.1.1 e he).1
  exact ⟨hR.1.pin hs hpn, hR.2.1.slot (by omega), hR.2.2.up (by omega) (Nat.le_refl _)⟩
end P2

