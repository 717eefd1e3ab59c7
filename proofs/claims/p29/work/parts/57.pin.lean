/-! pin; undo, save, restore -/
section PN
variable {ct : Nat → ClassId} {a0 : Nat} {N : Nat} {v : Nat → Nat} {E : List ME} {st : DS}
def pinP (pn : Nat) (x : PL) : PL := (x.1, x.2.1, x.2.2.1, x.2.2.2.1, pn)
def pinE (s pn : Nat) (e : ME) : ME := if e.2.1 = s then (pinP pn e.1, e.2) else e
theorem pinE_slot (s pn : Nat) (e : ME) : (pinE s pn e).2 = e.2 := by
  unfold pinE
  split <;> rfl
theorem pinE_map (pn : Nat) : ∀ (E : List ME) (i : Nat) (e : ME), E.Pairwise (fun a b => a.2.1 ≠ b.2.1 ∧ a.2.2 < b.2.2) → E[i]? = some e → (E.map (pinE e.2.1 pn)).map Prod.fst = (E.map Prod.fst).set i (pinP pn e.1)
  | [], i, e, _, h => by cases h
  | x :: l, 0, e, hp, h => by
    cases h
    obtain ⟨p1, p2⟩ := List.pairwise_cons.mp hp
    rw [List.map_cons, List.map_cons, List.map_cons, List.set_cons_zero]
    congr 1
    · unfold pinE; rw [if_pos rfl]
    · rw [List.map_map]
      refine List.map_congr_left (fun y hy => ?_)
      show (pinE x.2.1 pn y).1 = y.1
      unfold pinE
      rw [if_neg (fun z => (p1 y hy).1 z.symm)]
  | x :: l, i + 1, e, hp, h => by
    obtain ⟨p1, p2⟩ := List.pairwise_cons.mp hp
    have hm := List.mem_of_getElem? (show l[i]? = some e from h)
    rw [List.map_cons, List.map_cons, List.map_cons, List.set_cons_succ, pinE_map pn l i e p2 h]
    congr 1
    unfold pinE
    rw [if_neg (fun z => (p1 e hm).1 z)]
theorem SlR.pin (hE : SlR v E) {s pn : Nat} (hs : ∃ e ∈ E, e.2.1 = s) (hpn : pn < 2) : SlR (nu v (36 + 14 * s + 13) pn) (E.map (pinE s pn)) := by
  refine ⟨fun e1 he1 => ?_, ?_, fun k hk hno i hi => ?_⟩
  · obtain ⟨e, he, rfl⟩ := List.mem_map.mp he1
    obtain ⟨w1, w2, w3, w4, w5⟩ := hE.1 e he
    have hl := perms_len _ w2.2.1 _ w2.2.2.1
    have hp := pc_le _ w2.2.1
    rw [pinE_slot]
    have hP : POK (pinE s pn e).1 := by
      unfold pinE
      split
      · exact ⟨w2.1, w2.2.1, w2.2.2.1, w2.2.2.2.1, hpn⟩
      · exact w2
    refine ⟨w1, hP, ?_, (nu_n (by omega)).trans w4, by rw [nu_n (by omega)]; exact w5⟩
    obtain ⟨p1, p2, p3, p4, p5⟩ := w3
    unfold pinE
    by_cases q : e.2.1 = s
    · subst q
      rw [if_pos rfl]
      refine ⟨(nu_n (by omega)).trans p1, fun i hi => ?_, fun t ht => (nu_n (by omega)).trans (p3 t ht), (nu_n (by omega)).trans p4, nu_s⟩
      have hi2 : i < e.1.2.1.length := hi
      exact (nu_n (by omega)).trans (p2 i hi)
    · rw [if_neg q]
      exact ⟨(nu_n (by omega)).trans p1, fun i hi => (nu_n (by omega)).trans (p2 i hi), fun t ht => (nu_n (by omega)).trans (p3 t ht), (nu_n (by omega)).trans p4, (nu_n (by omega)).trans p5⟩
  · refine List.Pairwise.map _ (fun a b hab => ?_) hE.2.1
    rw [pinE_slot, pinE_slot]
    exact hab
  · have hno2 : ∀ e ∈ E, e.2.1 ≠ k := fun e he => by
      have := hno _ (List.mem_map_of_mem he)
      rwa [pinE_slot] at this
    by_cases q : k = s
    · obtain ⟨e, he, es⟩ := hs
      exact absurd (es.trans q.symm) (hno2 e he)
    · exact (nu_n (by omega)).trans (hE.2.2 k hk hno2 i hi)
end PN

