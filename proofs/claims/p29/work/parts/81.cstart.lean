/-! the start: a new object -/
section ST
variable {ct : Nat → ClassId} {a0 : Nat}
theorem p_listInit {h : KH} {q : Nat} (hq : h q = some (.inr (0, [.int 0, .null, .int 0]))) {Post : Unit → KH → Prop} (hP : ∀ h1, h1 = hup h q (.inr (0, [.int 0, .ref a0, .int (nI 0)])) → Post () h1) : g_Jx4a65c_init_da8c8 ct a0 q h Post := by
  refine ⟨_, hq, Nat.le_of_ble_eq_true rfl, fun h9 e9 => ⟨[.int 0, .null, .int 0], by rw [e9]; exact hup_same, Nat.le_of_ble_eq_true rfl, fun h10 e10 => hP h10 ?_⟩⟩
  rw [e10, e9, hup_hup]
  rfl
theorem p_padInit {h : KH} {q : Nat} (hq : h q = some (.inr (2, [.null, .int 0]))) {Post : Unit → KH → Prop} (hP : ∀ sg h1, h sg = none → h1 q = some (.inr (2, [.ref sg, .int 0])) → h1 sg = some (.inl (ct 2, 60, .inl (fun _ => 0))) → (∀ z e, z ≠ q → h z = some e → h1 z = some e) → Post () h1) : g_X1_init ct a0 q h Post := by
  intro sg h2 n2 e2
  have d : q ≠ sg := fun z => by rw [← z, hq] at n2; cases n2
  refine ⟨_, by rw [e2, hup_ne d]; exact hq, Nat.le_of_ble_eq_true rfl, fun h3 e3 => ⟨[.ref sg, .int 0], by rw [e3]; exact hup_same, Nat.le_of_ble_eq_true rfl, fun h4 e4 => ?_⟩⟩
  have e5 : h4 = hup h2 q (.inr (2, [.ref sg, .int 0])) := by
    rw [e4, e3, hup_hup]
    rfl
  refine hP sg h4 n2 (by rw [e5]; exact hup_same) (by rw [e5, hup_ne (Ne.symm d), e2]; exact hup_same) (fun z e hz hze => ?_)
  rw [e5, hup_ne hz, e2, hup_ne (fun y => by rw [y, n2] at hze; cases hze)]
  exact hze
theorem p_rkInit {h : KH} {q : Nat} (hq : h q = some (.inr (4, [.null, .null, .null]))) {Post : Unit → KH → Prop}
    (hP : ∀ b1 b2 b3 h1, h b1 = none → h b2 = none → h b3 = none → b1 ≠ b2 → h1 q = some (.inr (4, [.ref b1, .ref b2, .ref b3])) → h1 b1 = some (.inl (ct 1, 32, .inr (.inl (vp_updL (fun _ => 0) 0 1)))) → h1 b2 = some (.inl (ct 1, 32, .inr (.inl (fun _ => 0)))) → h1 b3 = some (.inl (ct 0, 32, .inl (fun _ => 0))) → (∀ z e, z ≠ q → h z = some e → h1 z = some e) → Post () h1) : g_X3_init ct a0 q h Post := by
  intro b1 h2 n2 e2
  have d1 : q ≠ b1 := fun z => by rw [← z, hq] at n2; cases n2
  refine ⟨_, by rw [e2, hup_ne d1]; exact hq, Nat.le_of_ble_eq_true rfl, fun h3 e3 => ?_⟩
  have q3 : h3 q = some (.inr (4, [.ref b1, .null, .null])) := by rw [e3]; exact hup_same
  have b31 : h3 b1 = some (.inl (ct 1, 32, .inr (.inl (fun _ => 0)))) := by rw [e3, hup_ne (Ne.symm d1), e2]; exact hup_same
  have k3 : ∀ z e, z ≠ q → h z = some e → h3 z = some e := fun z e hz hze => by
    rw [e3, hup_ne hz, e2, hup_ne (fun y => by rw [y, n2] at hze; cases hze)]
    exact hze
  intro b2 h4 n4 e4
  have d2 : q ≠ b2 := fun z => by rw [← z, q3] at n4; cases n4
  have d12 : b1 ≠ b2 := fun z => by rw [← z, b31] at n4; cases n4
  refine ⟨_, by rw [e4, hup_ne d2]; exact q3, Nat.le_of_ble_eq_true rfl, fun h5 e5 => ?_⟩
  have q5 : h5 q = some (.inr (4, [.ref b1, .ref b2, .null])) := by rw [e5]; exact hup_same
  have k5 : ∀ z e, z ≠ q → h3 z = some e → h5 z = some e := fun z e hz hze => by
    rw [e5, hup_ne hz, e4, hup_ne (fun y => by rw [y, n4] at hze; cases hze)]
    exact hze
  have b52 : h5 b2 = some (.inl (ct 1, 32, .inr (.inl (fun _ => 0)))) := by rw [e5, hup_ne (Ne.symm d2), e4]; exact hup_same
  intro b3 h6 n6 e6
  have d3 : q ≠ b3 := fun z => by rw [← z, q5] at n6; cases n6
  have d13 : b1 ≠ b3 := fun z => by rw [← z, k5 _ _ (Ne.symm d1) b31] at n6; cases n6
  have d23 : b2 ≠ b3 := fun z => by rw [← z, b52] at n6; cases n6
  refine ⟨_, by rw [e6, hup_ne d3]; exact q5, Nat.le_of_ble_eq_true rfl, fun h7 e7 => ?_⟩
  have q7 : h7 q = some (.inr (4, [.ref b1, .ref b2, .ref b3])) := by rw [e7]; exact hup_same
  have k7 : ∀ z e, z ≠ q → h5 z = some e → h7 z = some e := fun z e hz hze => by
    rw [e7, hup_ne hz, e6, hup_ne (fun y => by rw [y, n6] at hze; cases hze)]
    exact hze
  have b73 : h7 b3 = some (.inl (ct 0, 32, .inl (fun _ => 0))) := by rw [e7, hup_ne (Ne.symm d3), e6]; exact hup_same
  have b71 := k7 _ _ (Ne.symm d1) (k5 _ _ (Ne.symm d1) b31)
  refine ⟨_, _, q7, rfl, _, _, b71, by decide +kernel, fun h9 e9 => ?_⟩
  have no : ∀ z, h3 z = none → h z = none := fun z hz => by
    by_cases y : z = q
    · rw [y, q3] at hz; cases hz
    · cases w : h z with
      | none => rfl
      | some e => rw [k3 z e y w] at hz; cases hz
  have no5 : ∀ z, h5 z = none → h z = none := fun z hz => by
    refine no z ?_
    by_cases y : z = q
    · rw [y, q5] at hz; cases hz
    · cases w : h3 z with
      | none => rfl
      | some e => rw [k5 z e y w] at hz; cases hz
  refine hP b1 b2 b3 h9 n2 (no _ n4) (no5 _ n6) d12 (by rw [e9, hup_ne d1]; exact q7) (by rw [e9]; exact hup_same) (by rw [e9, hup_ne (Ne.symm d12)]; exact k7 _ _ (Ne.symm d2) b52) (by rw [e9, hup_ne (Ne.symm d13)]; exact b73) (fun z e hz hze => ?_)
  rw [e9, hup_ne (fun y => by rw [y, n2] at hze; cases hze)]
  exact k7 _ _ hz (k5 _ _ hz (k3 _ _ hz hze))
def A0 : AS := (DSn, none, [], fun _ => 0, 0, none)
theorem IV_n : IV DSn := ⟨⟨fun t ht => (by show 1 ≤ c10 t ∧ c10 t ≤ 500; rw [c10_v ht]; decide), fun t ht => (by show 1 ≤ c10 t ∧ c10 t ≤ 500; rw [c10_v ht]; decide), fun e t he ht => (by show 1 ≤ c100 e t ∧ c100 e t ≤ 100; rw [c100_v he ht]; decide), (fun x hx => by cases hx), Nat.zero_le _, by decide, by decide⟩, ⟨c10_NZ, c10_NZ, c100_PZ, fun k _ => rfl⟩, List.nodup_nil, (fun x hx => by cases hx)⟩
set_option maxHeartbeats 1000000 in
theorem c_start (ax : Nat) {Post : Unit → KH → Prop} (hP : ∀ own h1, isCx ct a0 own h1 ax A0 → Post () h1) : g_X5_init ct a0 ax (hup (fun _ => none) ax (.inr (6, [.null, .null, .null, .null, .null, .int 0, .int 0]))) Post := by
  intro q2 hA n2 eA
  have d2 : ax ≠ q2 := fun z => by rw [← z, hup_same] at n2; cases n2
  refine p_stInit (own := fun z => 2 * z + 2) (by rw [eA]; exact hup_same) rfl (fun own1 h1 hs1 f1 => ?_)
  have hAx : hA ax = some (.inr (6, [.null, .null, .null, .null, .null, .int 0, .int 0])) := by rw [eA, hup_ne d2]; exact hup_same
  obtain ⟨x1, o1⟩ := f1.at hAx (by show (2 * ax + 2) / 2 ≠ q2 + 1; omega)
  have x1 : h1 ax = some (.inr (6, [.null, .null, .null, .null, .null, .int 0, .int 0])) := x1
  have o1 : own1 ax = 2 * ax + 2 := o1
  refine ⟨_, x1, (by decide : 0 < 7), fun h2 e2 => ?_⟩
  have x2 : h2 ax = some (.inr (6, [.ref q2, .null, .null, .null, .null, .int 0, .int 0])) := by rw [e2]; exact hup_same
  have k2 : ∀ z e, z ≠ ax → h1 z = some e → h2 z = some e := fun z e hz hze => by rw [e2, hup_ne hz]; exact hze
  refine ⟨_, x2, (by decide : 1 < 7), fun h3 e3 => ?_⟩
  have x3 : h3 ax = some (.inr (6, [.ref q2, .null, .null, .null, .null, .int 0, .int 0])) := by rw [e3]; exact hup_same
  have k3 : ∀ z e, z ≠ ax → h1 z = some e → h3 z = some e := fun z e hz hze => by rw [e3, hup_ne hz]; exact k2 z e hz hze
  intro q6 h4 n6 e4
  have d6 : ax ≠ q6 := fun z => by rw [← z, x3] at n6; cases n6
  refine p_listInit (by rw [e4]; exact hup_same) (fun h5 e5 => ?_)
  have x5 : h5 ax = some (.inr (6, [.ref q2, .null, .null, .null, .null, .int 0, .int 0])) := by rw [e5, hup_ne d6, e4, hup_ne d6]; exact x3
  have k5 : ∀ z e, z ≠ ax → h1 z = some e → h5 z = some e := fun z e hz hze => by
    have h3z := k3 z e hz hze
    have zq : z ≠ q6 := fun y => by rw [y, n6] at h3z; cases h3z
    rw [e5, hup_ne zq, e4, hup_ne zq]; exact h3z
  have l5 : h5 q6 = some (.inr (0, [.int 0, .ref a0, .int (nI 0)])) := by rw [e5]; exact hup_same
  have f6 : h1 q6 = none := by
    cases w : h1 q6 with
    | none => rfl
    | some e => rw [k3 _ _ (Ne.symm d6) w] at n6; cases n6
  refine ⟨_, x5, (by decide : 2 < 7), fun h6 e6 => ?_⟩
  have x6 : h6 ax = some (.inr (6, [.ref q2, .null, .ref q6, .null, .null, .int 0, .int 0])) := by rw [e6]; exact hup_same
  have k6 : ∀ z e, z ≠ ax → h5 z = some e → h6 z = some e := fun z e hz hze => by rw [e6, hup_ne hz]; exact hze
  intro q9 h7 n9 e7
  have d9 : ax ≠ q9 := fun z => by rw [← z, x6] at n9; cases n9
  have k7 : ∀ z e, h6 z = some e → h7 z = some e := fun z e hze => by
    rw [e7, hup_ne (fun y => by rw [y, n9] at hze; cases hze)]; exact hze
  refine p_rkInit (by rw [e7]; exact hup_same) (fun b1 b2 b3 h8 nb1 nb2 nb3 db r8 r81 r82 r83 k8 => ?_)
  have q97 : h7 q9 = some (.inr (4, [.null, .null, .null])) := by rw [e7]; exact hup_same
  have nq9 : ∀ z e, h6 z = some e → z ≠ q9 := fun z e hz y => by rw [y, n9] at hz; cases hz
  have x8 := k8 _ _ d9 (k7 _ _ x6)
  refine ⟨_, x8, (by decide : 3 < 7), fun h9 e9 => ?_⟩
  have x9 : h9 ax = some (.inr (6, [.ref q2, .null, .ref q6, .ref q9, .null, .int 0, .int 0])) := by rw [e9]; exact hup_same
  have nx8 : ∀ z e, h8 z = some (.inl e) → z ≠ ax := fun z e hz y => by rw [y, x8] at hz; cases hz
  have k9 : ∀ z e, z ≠ ax → h8 z = some e → h9 z = some e := fun z e hz hze => by rw [e9, hup_ne hz]; exact hze
  intro q12 h10 n12 e10
  have d12 : ax ≠ q12 := fun z => by rw [← z, x9] at n12; cases n12
  have k10 : ∀ z e, h9 z = some e → h10 z = some e := fun z e hze => by
    rw [e10, hup_ne (fun y => by rw [y, n12] at hze; cases hze)]; exact hze
  have nq12 : ∀ z e, h9 z = some e → z ≠ q12 := fun z e hz y => by rw [y, n12] at hz; cases hz
  refine p_padInit (by rw [e10]; exact hup_same) (fun sg h11 nsg p11 s11 k11 => ?_)
  have x11 := k11 _ _ d12 (k10 _ _ x9)
  refine ⟨_, x11, (by decide : 4 < 7), fun h12 e12 => ?_⟩
  have x12 : h12 ax = some (.inr (6, [.ref q2, .null, .ref q6, .ref q9, .ref q12, .int 0, .int 0])) := by rw [e12]; exact hup_same
  refine ⟨_, x12, (by decide : 5 < 7), fun h13 e13 => ?_⟩
  have x13 : h13 ax = some (.inr (6, [.ref q2, .null, .ref q6, .ref q9, .ref q12, .int (-1), .int 0])) := by rw [e13]; exact hup_same
  refine ⟨_, x13, (by decide : 6 < 7), fun h14 e14 => ?_⟩
  have x14 : h14 ax = some (.inr (6, [.ref q2, .null, .ref q6, .ref q9, .ref q12, .int (-1), .int (-1)])) := by rw [e14]; exact hup_same
  have k14 : ∀ z e, z ≠ ax → h11 z = some e → h14 z = some e := fun z e hz hze => by rw [e14, hup_ne hz, e13, hup_ne hz, e12, hup_ne hz]; exact hze
  -- what stays
  have s8 : ∀ z e, z ≠ ax → z ≠ q9 → h6 z = some e → h9 z = some e := fun z e hz h9z hze => k9 z e hz (k8 z e h9z (k7 z e hze))
  have s14 : ∀ z e, z ≠ ax → h9 z = some e → h14 z = some e := fun z e hz hze => k14 z e hz (k11 z e (nq12 z e hze) (k10 z e hze))
  have s1 : ∀ z e, z ≠ ax → h1 z = some e → h9 z = some e := fun z e hz hze => by
    have h6z := k6 z e hz (k5 z e hz hze)
    exact s8 z e hz (nq9 z e h6z) h6z
  have nil1 : ∀ z, h9 z = none → h1 z = none := fun z hz => by
    cases w : h1 z with
    | none => rfl
    | some e =>
      by_cases y : z = ax
      · rw [y, x9] at hz; cases hz
      · rw [s1 z e y w] at hz; cases hz
  have nil7 : ∀ z, h7 z = none → h1 z = none := fun z hz => by
    cases w : h1 z with
    | none => rfl
    | some e =>
      by_cases y : z = ax
      · rw [y, k7 _ _ x6] at hz; cases hz
      · rw [k7 _ _ (k6 z e y (k5 z e y w))] at hz; cases hz
  have l6 := k6 _ _ (Ne.symm d6) l5
  have l9 := s8 _ _ (Ne.symm d6) (nq9 _ _ l6) l6
  have r9 := k9 _ _ (Ne.symm d9) r8
  have r91 := k9 _ _ (nx8 _ _ r81) r81
  have r92 := k9 _ _ (nx8 _ _ r82) r82
  have r93 := k9 _ _ (nx8 _ _ r83) r83
  have f9 : h1 q9 = none := by
    cases w : h1 q9 with
    | none => rfl
    | some e => rw [k6 _ _ (Ne.symm d9) (k5 _ _ (Ne.symm d9) w)] at n9; cases n9
  have f12 := nil1 _ n12
  have nx11 : ∀ z e, h11 z = some (.inl e) → z ≠ ax := fun z e hz y => by rw [y, x11] at hz; cases hz
  have fsg : h1 sg = none := nil1 _ (by
    cases w : h9 sg with
    | none => rfl
    | some e => rw [k10 _ _ w] at nsg; cases nsg)
  let own : Nat → Nat := fun z => match h1 z with
    | some _ => own1 z
    | none => if z = q6 then 2 * ax + 3 else 2 * ax + 2
  have oS : ∀ z, h1 z ≠ none → own z = own1 z := fun z hz => by
    show (match h1 z with | some _ => own1 z | none => if z = q6 then 2 * ax + 3 else 2 * ax + 2) = _
    cases w : h1 z with
    | none => exact absurd w hz
    | some e => rfl
  have oN : ∀ z, h1 z = none → z ≠ q6 → own z = 2 * ax + 2 := fun z hz hq => by
    show (match h1 z with | some _ => own1 z | none => if z = q6 then 2 * ax + 3 else 2 * ax + 2) = _
    rw [hz]
    exact if_neg hq
  have o6 : own q6 = 2 * ax + 3 := by
    show (match h1 q6 with | some _ => own1 q6 | none => if q6 = q6 then 2 * ax + 3 else 2 * ax + 2) = _
    rw [f6]
    exact if_pos rfl
  have fr : FrG (ax + 1) own1 h1 own h14 := fun z hz => by
    refine ⟨oS z hz, ?_, fun hg => ?_⟩
    · by_cases y : z = ax
      · rw [y, x14]; exact (fun w => by cases w)
      · cases w : h1 z with
        | none => exact absurd w hz
        | some e => rw [s14 z e y (s1 z e y w)]; exact (fun w => by cases w)
    · have y : z ≠ ax := fun y => hg (by rw [y, o1]; omega)
      cases w : h1 z with
      | none => exact absurd w hz
      | some e => rw [s14 z e y (s1 z e y w)]
  have l14 := s14 _ _ (Ne.symm d6) l9
  have ne6 : ∀ z e, h9 z = some e → (∀ fs, e ≠ .inr (0, fs)) → z ≠ q6 := fun z e hz he y => by
    rw [y, l9] at hz
    exact he _ (Option.some.inj hz).symm
  refine hP own h14 ⟨q2, none, q6, [], q9, b1, b2, b3, q12, sg, _, _, _, _, x14, (oS ax (by rw [x1]; exact (fun w => by cases w))).trans o1, ⟨⟨oN _ f9 (ne6 _ _ r9 (fun fs z => by cases z)), oN _ (nil7 _ nb1) (ne6 _ _ r91 (fun fs z => by cases z)), oN _ (nil7 _ nb2) (ne6 _ _ r92 (fun fs z => by cases z)), oN _ (nil7 _ nb3) (ne6 _ _ r93 (fun fs z => by cases z))⟩, s14 _ _ (Ne.symm d9) r9, s14 _ _ (nx8 _ _ r81) r91, s14 _ _ (nx8 _ _ r82) r92, s14 _ _ (nx8 _ _ r83) r93, db, rfl, rfl, rfl⟩, ⟨⟨oN _ f12 (fun y => by rw [y, l9] at n12; cases n12), oN _ fsg (fun y => by rw [y, k10 _ _ l9] at nsg; cases nsg)⟩, k14 _ _ (Ne.symm d12) p11, k14 _ _ (nx11 _ _ s11) s11, Nat.zero_le _, fun i hi => absurd hi (Nat.not_lt_zero _)⟩, hs1.frg fr (by omega) (by omega), Or.inl ⟨rfl, rfl⟩, ⟨o6, Nat.zero_le _, 0, a0, l14, Or.inl ⟨rfl, rfl⟩⟩, (fun x hx => by cases hx), List.nodup_nil, rfl⟩
end ST
