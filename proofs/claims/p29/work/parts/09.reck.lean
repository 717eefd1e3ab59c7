/-! Reckoner over its cells: laid by wip/whole/gen.py -/
abbrev QW (o : Nat → Nat) (ct : Nat → ClassId) (k_products : Nat → Int64) (k_leastCosts : Nat → Int64) (k_bestOrders : Nat → Int32) : va_W := [((o 0), .inr (4, [.ref (o 1), .ref (o 2), .ref (o 3)])), ((o 1), .inl ((ct 1), 32, .inr (.inl k_products))), ((o 2), .inl ((ct 1), 32, .inr (.inl k_leastCosts))), ((o 3), .inl ((ct 0), 32, .inl k_bestOrders))]
theorem k_X3_sizeOf : VOk yX3_sizeOf cX3_sizeOf 2 (some .long) 1 := ⟨q_16_5, q_16_3, q_16_4, q_1_23, by decide +kernel⟩
theorem k_X3_leastBySets : VOk yX3_leastBySets cX3_leastBySets 2 (some .long) 1 := ⟨q_18_12, q_18_10, q_18_11, q_1_23, by decide +kernel⟩
theorem k_X3_bestOrder : VOk yX3_bestOrder cX3_bestOrder 2 (some .int) 1 := ⟨q_14_17, q_14_15, q_14_16, q_1_23, by decide +kernel⟩
theorem k_X3_leastOnward : SOk yX3_leastOnward cX3_leastOnward 10 (some .long) 4 := ⟨q_21_7, q_21_6, q_1_23, by decide +kernel⟩
theorem k_X3_leastByOrders : VOk yX3_leastByOrders cX3_leastByOrders 2 (some .long) 1 := ⟨q_21_4, q_21_2, q_21_3, q_1_23, by decide +kernel⟩
theorem k_X3_costOf : VOk yX3_costOf cX3_costOf 8 (some .long) 2 := ⟨q_15_22, q_15_20, q_15_21, q_1_23, by decide +kernel⟩
theorem k_X3_excessOf : VOk yX3_excessOf cX3_excessOf 3 (some .long) 2 := ⟨q_18_7, q_18_5, q_18_6, q_1_23, by decide +kernel⟩
def f_X3_sizeOf (a1 : Int32) (k_products : Nat → Int64) : Option (Int64) :=
  bnd (f_X5_isSet a1 ) (fun q1 => if q1 = (0 : Int32) then some (0 : Int64)
  else grd (inb a1 32) (some (if (1 : Int64) < (k_products a1.toNatClampNeg) then (k_products a1.toNatClampNeg) else (1 : Int64))))
set_option maxRecDepth 100000 in
set_option maxHeartbeats 4000000 in
theorem c_X3_sizeOf (l : Launch) (D : va_G) (o : Nat → Nat) (ct : Nat → ClassId) (a1 : Int32) (k_products : Nat → Int64) (k_leastCosts : Nat → Int64) (k_bestOrders : Nat → Int32) (q : Int64) (h : f_X3_sizeOf a1 k_products = some q) : CG l yX3_sizeOf cX3_sizeOf 2 1 (some .long) D (tysK ct) [.ref (o 0), .int a1] (some (.long q)) (QW o ct k_products k_leastCosts k_bestOrders) (QW o ct k_products k_leastCosts k_bestOrders) := by
  refine CG.mkL (by decide) (Nat.le_of_ble_eq_true rfl) ?_
  intro p e s m below meth c Q A B hK hN hDD hA hret hP hS ls hl
  have B0 := B
  obtain ⟨hx, hb, hml, hown, hts⟩ := B0
  have hl : lv_has ls 2 [(0, .ref (o 0)), (1, .int a1)] := hl
  unfold f_X3_sizeOf at h
  refine lv_iload_n hx hb dX3_sizeOf_0 rfl (lv_at hl 1 rfl) ?_
  obtain ⟨q1, e1, h⟩ := bnd_some h
  refine n_call (As := [.int a1]) (rest := []) (c_X5_isSet l a1 q1 e1) B hN k_X5_isSet (List.mem_of_getElem? (i := 6) rfl) rfl ⟨Nat.le_of_ble_eq_true rfl, Nat.le_of_ble_eq_true rfl⟩ ⟨Nat.le_refl _, Nat.le_refl _⟩ hl.1 rfl (Nat.le_of_ble_eq_true rfl) dX3_sizeOf_1 ?_
  refine lv_if_eq (tgt := 20) hx hb dX3_sizeOf_4 (by decide) (fun c2 => ?_) (fun c2 => ?_)
  · have h := ift c2 h
    refine lv_lconst (v := (0 : Int64)) hx hb dX3_sizeOf_20 (by decide) ?_
    obtain rfl := Option.some.inj h
    exact hret _ _ _ _ dX3_sizeOf_21 hP hS
  · have h := ifn c2 h
    refine lv_aload_n hx hb dX3_sizeOf_7 rfl (lv_at hl 0 rfl) ?_
    refine va_get (D := D) (ci := 4) (v := .ref (o 1)) (C := RX3) (T := TX3) (N := 3) hx hb hts inlX3 hown hK hP 0 rfl rfl 0 (by decide) (hts _ q_3_14) (fun _ h9 => h9) rfl dX3_sizeOf_8 ?_
    refine lv_iload_n hx hb dX3_sizeOf_11 rfl (lv_at hl 1 rfl) ?_
    obtain ⟨g3, h⟩ := grd_some h
    refine va_lald hx hb hK hP 1 1 rfl rfl (inb_in g3) dX3_sizeOf_12 ?_
    refine lv_lconst (v := (1 : Int64)) hx hb dX3_sizeOf_13 (by decide) ?_
    refine va_mmax_long hx hb (hml.trans hl.1.symm) hown (hts _ q_14_9) (hts _ q_14_10) (hts _ q_7_1) (hts _ q_14_11) (Nat.le_of_ble_eq_true rfl) (Nat.le_of_ble_eq_true rfl) (Nat.le_refl _) (Nat.le_refl _) dX3_sizeOf_14 ?_
    refine lv_goto (tgt := 21) hx hb dX3_sizeOf_17 (by decide) ?_
    obtain rfl := Option.some.inj h
    exact hret _ _ _ _ dX3_sizeOf_21 hP hS

def f_X3_leastBySets (a1 : Int32) (k_leastCosts : Nat → Int64) : Option (Int64) :=
  bnd (f_X5_isSet a1 ) (fun q1 => if q1 = (0 : Int32) then some (0 : Int64)
  else grd (inb a1 32) (some (k_leastCosts a1.toNatClampNeg)))
set_option maxRecDepth 100000 in
set_option maxHeartbeats 4000000 in
theorem c_X3_leastBySets (l : Launch) (D : va_G) (o : Nat → Nat) (ct : Nat → ClassId) (a1 : Int32) (k_products : Nat → Int64) (k_leastCosts : Nat → Int64) (k_bestOrders : Nat → Int32) (q : Int64) (h : f_X3_leastBySets a1 k_leastCosts = some q) : CG l yX3_leastBySets cX3_leastBySets 2 1 (some .long) D (tysK ct) [.ref (o 0), .int a1] (some (.long q)) (QW o ct k_products k_leastCosts k_bestOrders) (QW o ct k_products k_leastCosts k_bestOrders) := by
  refine CG.mkL (by decide) (Nat.le_of_ble_eq_true rfl) ?_
  intro p e s m below meth c Q A B hK hN hDD hA hret hP hS ls hl
  have B0 := B
  obtain ⟨hx, hb, hml, hown, hts⟩ := B0
  have hl : lv_has ls 2 [(0, .ref (o 0)), (1, .int a1)] := hl
  unfold f_X3_leastBySets at h
  refine lv_iload_n hx hb dX3_leastBySets_0 rfl (lv_at hl 1 rfl) ?_
  obtain ⟨q1, e1, h⟩ := bnd_some h
  refine n_call (As := [.int a1]) (rest := []) (c_X5_isSet l a1 q1 e1) B hN k_X5_isSet (List.mem_of_getElem? (i := 6) rfl) rfl ⟨Nat.le_of_ble_eq_true rfl, Nat.le_of_ble_eq_true rfl⟩ ⟨Nat.le_refl _, Nat.le_refl _⟩ hl.1 rfl (Nat.le_of_ble_eq_true rfl) dX3_leastBySets_1 ?_
  refine lv_if_eq (tgt := 16) hx hb dX3_leastBySets_4 (by decide) (fun c2 => ?_) (fun c2 => ?_)
  · have h := ift c2 h
    refine lv_lconst (v := (0 : Int64)) hx hb dX3_leastBySets_16 (by decide) ?_
    obtain rfl := Option.some.inj h
    exact hret _ _ _ _ dX3_leastBySets_17 hP hS
  · have h := ifn c2 h
    refine lv_aload_n hx hb dX3_leastBySets_7 rfl (lv_at hl 0 rfl) ?_
    refine va_get (D := D) (ci := 4) (v := .ref (o 2)) (C := RX3) (T := TX3) (N := 3) hx hb hts inlX3 hown hK hP 0 rfl rfl 1 (by decide) (hts _ q_3_15) (fun _ h9 => h9) rfl dX3_leastBySets_8 ?_
    refine lv_iload_n hx hb dX3_leastBySets_11 rfl (lv_at hl 1 rfl) ?_
    obtain ⟨g3, h⟩ := grd_some h
    refine va_lald hx hb hK hP 2 1 rfl rfl (inb_in g3) dX3_leastBySets_12 ?_
    refine lv_goto (tgt := 17) hx hb dX3_leastBySets_13 (by decide) ?_
    obtain rfl := Option.some.inj h
    exact hret _ _ _ _ dX3_leastBySets_17 hP hS

def f_X3_bestOrder (a1 : Int32) (k_bestOrders : Nat → Int32) : Option (Int32) :=
  bnd (f_X5_isSet a1 ) (fun q1 => if q1 = (0 : Int32) then some (0 : Int32)
  else grd (inb a1 32) (some (k_bestOrders a1.toNatClampNeg)))
set_option maxRecDepth 100000 in
set_option maxHeartbeats 4000000 in
theorem c_X3_bestOrder (l : Launch) (D : va_G) (o : Nat → Nat) (ct : Nat → ClassId) (a1 : Int32) (k_products : Nat → Int64) (k_leastCosts : Nat → Int64) (k_bestOrders : Nat → Int32) (q : Int32) (h : f_X3_bestOrder a1 k_bestOrders = some q) : CG l yX3_bestOrder cX3_bestOrder 2 1 (some .int) D (tysK ct) [.ref (o 0), .int a1] (some (.int q)) (QW o ct k_products k_leastCosts k_bestOrders) (QW o ct k_products k_leastCosts k_bestOrders) := by
  refine CG.mkI (by decide) (Nat.le_of_ble_eq_true rfl) ?_
  intro p e s m below meth c Q A B hK hN hDD hA hret hP hS ls hl
  have B0 := B
  obtain ⟨hx, hb, hml, hown, hts⟩ := B0
  have hl : lv_has ls 2 [(0, .ref (o 0)), (1, .int a1)] := hl
  unfold f_X3_bestOrder at h
  refine lv_iload_n hx hb dX3_bestOrder_0 rfl (lv_at hl 1 rfl) ?_
  obtain ⟨q1, e1, h⟩ := bnd_some h
  refine n_call (As := [.int a1]) (rest := []) (c_X5_isSet l a1 q1 e1) B hN k_X5_isSet (List.mem_of_getElem? (i := 6) rfl) rfl ⟨Nat.le_of_ble_eq_true rfl, Nat.le_of_ble_eq_true rfl⟩ ⟨Nat.le_refl _, Nat.le_refl _⟩ hl.1 rfl (Nat.le_of_ble_eq_true rfl) dX3_bestOrder_1 ?_
  refine lv_if_eq (tgt := 16) hx hb dX3_bestOrder_4 (by decide) (fun c2 => ?_) (fun c2 => ?_)
  · have h := ift c2 h
    refine lv_iconst (v := (0 : Int32)) hx hb dX3_bestOrder_16 (by decide) ?_
    obtain rfl := Option.some.inj h
    exact hret _ _ _ _ (vp_nar_int _) dX3_bestOrder_17 hP hS
  · have h := ifn c2 h
    refine lv_aload_n hx hb dX3_bestOrder_7 rfl (lv_at hl 0 rfl) ?_
    refine va_get (D := D) (ci := 4) (v := .ref (o 3)) (C := RX3) (T := TX3) (N := 3) hx hb hts inlX3 hown hK hP 0 rfl rfl 2 (by decide) (hts _ q_3_16) (fun _ h9 => h9) rfl dX3_bestOrder_8 ?_
    refine lv_iload_n hx hb dX3_bestOrder_11 rfl (lv_at hl 1 rfl) ?_
    obtain ⟨g3, h⟩ := grd_some h
    refine va_iald hx hb hK hP 3 0 rfl rfl (inb_in g3) dX3_bestOrder_12 ?_
    refine lv_goto (tgt := 17) hx hb dX3_bestOrder_13 (by decide) ?_
    obtain rfl := Option.some.inj h
    exact hret _ _ _ _ (vp_nar_int _) dX3_bestOrder_17 hP hS

def f_X3_leastOnward_L20b (rec_ : (Int32 → Int32 → Int32 → Option (Int64))) (a1 : Int32) (a2 : Int32) (a3 : Int32) (k_products : Nat → Int64)  (k20 : Int64 → Int32 → Option (Int64)) (x4 : Int64) (x6 : Int32) : Option (Int64) :=
  if (5 : Int32) ≤ x6 then some x4
  else bnd (f_X5_has a1 x6 ) (fun q4 => if q4 = (0 : Int32) then k20 x4 (x6 + (1 : Int32))
  else bnd (f_X5_has a2 x6 ) (fun q6 => if q6 = (0 : Int32) then bnd (f_X5_bit x6 ) (fun q8 => bnd (f_X3_sizeOf (a2 ||| q8) k_products) (fun q9 => bnd (rec_ a1 (a2 ||| q8) (a3 + (1 : Int32))) (fun q10 => k20 (if (q9 + q10) < x4 then (q9 + q10) else x4) (x6 + (1 : Int32)))))
  else k20 x4 (x6 + (1 : Int32))))
def f_X3_leastOnward_L20 (rec_ : (Int32 → Int32 → Int32 → Option (Int64))) (a1 : Int32) (a2 : Int32) (a3 : Int32) (k_products : Nat → Int64)  : Nat → Int64 → Int32 → Option (Int64)
  | 0 => fun _ _ => none
  | n + 1 => f_X3_leastOnward_L20b rec_ a1 a2 a3 k_products  (f_X3_leastOnward_L20 rec_ a1 a2 a3 k_products  n)
def f_X3_leastOnward_b (rec_ : Int32 → Int32 → Int32 → Option (Int64)) (a1 : Int32) (a2 : Int32) (a3 : Int32) (k_products : Nat → Int64) : Option (Int64) :=
  if a2 = a1 then some (0 : Int64)
  else if a3 < (5 : Int32) then f_X3_leastOnward_L20 rec_ a1 a2 a3 k_products  1024 (9223372036854775807 : Int64) (0 : Int32)
  else some (0 : Int64)
def f_X3_leastOnward (k_products : Nat → Int64) : Nat → Int32 → Int32 → Int32 → Option (Int64)
  | 0 => fun _ _ _ => none
  | n + 1 => fun a1 a2 a3 => f_X3_leastOnward_b (f_X3_leastOnward k_products n) a1 a2 a3 k_products
set_option maxRecDepth 100000 in
set_option maxHeartbeats 4000000 in
theorem c_X3_leastOnward (l : Launch) (D : va_G) (o : Nat → Nat) (ct : Nat → ClassId) (k_products : Nat → Int64) (k_leastCosts : Nat → Int64) (k_bestOrders : Nat → Int32) : ∀ (n : Nat) (a1 : Int32) (a2 : Int32) (a3 : Int32) (q : Int64) (h : f_X3_leastOnward k_products n a1 a2 a3 = some q), CG l yX3_leastOnward cX3_leastOnward 10 (n + 2) (some .long) D (tysK ct) [.ref (o 0), .int a1, .int a2, .int a3] (some (.long q)) (QW o ct k_products k_leastCosts k_bestOrders) (QW o ct k_products k_leastCosts k_bestOrders) := by
  intro n
  induction n with
  | zero => intro a1 a2 a3 q h; exact absurd (show (none : Option (Int64)) = some q from h) (by intro h; cases h)
  | succ n ih =>
  intro a1 a2 a3 q h
  obtain ⟨rec_, hrec⟩ : ∃ z, z = f_X3_leastOnward k_products n := ⟨_, rfl⟩
  have h : f_X3_leastOnward_b rec_ a1 a2 a3 k_products = some q := by rw [hrec]; exact h
  rw [← hrec] at ih
  refine CG.mkL (by decide) (Nat.le_of_ble_eq_true rfl) ?_
  intro p e s m below meth c Q A B hK hN hDD hA hret hP hS ls hl
  have B0 := B
  obtain ⟨hx, hb, hml, hown, hts⟩ := B0
  have hl : lv_has ls 10 [(0, .ref (o 0)), (1, .int a1), (2, .int a2), (3, .int a3)] := hl
  have hL20 : ∀ (n20 : Nat) (x4 : Int64) (x6 : Int32) (ls : Array Slot) (H : Heap) (locs : List Loc), f_X3_leastOnward_L20 rec_ a1 a2 a3 k_products  n20 x4 x6 = some q → va_P D vwCl (QW o ct k_products k_leastCosts k_bestOrders) H → va_S A s.heap H locs → lv_has ls 10 [(0, .ref (o 0)), (1, .int a1), (2, .int a2), (3, .int a3), (4, .long x4), (6, .int x6)] → W p l e (rmF (n + 2 + 1) 0 0) s m ([.ref (o 0), .int a1, .int a2, .int a3] : List Value).toArray below meth c H locs 0 0 Q (F0 m 20 ls []) := by
    intro n20
    induction n20 with
    | zero =>
      intro x4 x6 ls H locs h
      exact absurd (show (none : Option (Int64)) = some q from h) (by intro h; cases h)
    | succ n20 ih20 =>
      intro x4 x6 ls H locs h hP hS hl
      have h : f_X3_leastOnward_L20b rec_ a1 a2 a3 k_products  (f_X3_leastOnward_L20 rec_ a1 a2 a3 k_products  n20) x4 x6 = some q := h
      unfold f_X3_leastOnward_L20b at h
      refine lv_iload hx hb dX3_leastOnward_20 (lv_at hl 5 rfl) ?_
      refine lv_iconst (v := (5 : Int32)) hx hb dX3_leastOnward_22 (by decide) ?_
      refine lv_icmp_ge (tgt := 87) hx hb dX3_leastOnward_23 (by decide) (fun c3 => ?_) (fun c3 => ?_)
      · have h := ift c3 h
        refine lv_lload hx hb dX3_leastOnward_87 (lv_at hl 4 rfl) ?_
        obtain rfl := Option.some.inj h
        exact hret _ _ _ _ dX3_leastOnward_89 hP hS
      · have h := ifn c3 h
        refine lv_iload_n hx hb dX3_leastOnward_26 rfl (lv_at hl 1 rfl) ?_
        refine lv_iload hx hb dX3_leastOnward_27 (lv_at hl 5 rfl) ?_
        obtain ⟨q4, e4, h⟩ := bnd_some h
        refine n_call (As := [.int a1, .int x6]) (rest := []) (c_X5_has l a1 x6 q4 e4) B hN k_X5_has (List.mem_of_getElem? (i := 4) rfl) rfl ⟨by show 0 + 1 ≤ n + 2 + 1; omega, by show 8 + (2 + 11) + 40 * 0 ≤ 40 * (n + 2 + 1); omega⟩ ⟨Nat.le_refl _, Nat.le_refl _⟩ hl.1 rfl (Nat.le_of_ble_eq_true rfl) dX3_leastOnward_29 ?_
        refine lv_if_eq (tgt := 81) hx hb dX3_leastOnward_32 (by decide) (fun c5 => ?_) (fun c5 => ?_)
        · have h := ift c5 h
          refine lv_iinc (v := (x6 + (1 : Int32))) (lv' := [(6, .int (x6 + (1 : Int32))), (0, .ref (o 0)), (1, .int a1), (2, .int a2), (3, .int a3), (4, .long x4)]) hx hb dX3_leastOnward_81 hl (k := 5) rfl (congrArg (HAdd.hAdd x6) (by decide)) (by decide) rfl (fun ls hl => ?_)
          refine lv_goto (tgt := 20) hx hb dX3_leastOnward_84 (by decide) ?_
          exact ih20 x4 (x6 + (1 : Int32)) _ _ _ h hP hS (lv_sub hl [1, 2, 3, 4, 5, 0] rfl)
        · have h := ifn c5 h
          refine lv_iload_n hx hb dX3_leastOnward_35 rfl (lv_at hl 2 rfl) ?_
          refine lv_iload hx hb dX3_leastOnward_36 (lv_at hl 5 rfl) ?_
          obtain ⟨q6, e6, h⟩ := bnd_some h
          refine n_call (As := [.int a2, .int x6]) (rest := []) (c_X5_has l a2 x6 q6 e6) B hN k_X5_has (List.mem_of_getElem? (i := 4) rfl) rfl ⟨by show 0 + 1 ≤ n + 2 + 1; omega, by show 8 + (2 + 11) + 40 * 0 ≤ 40 * (n + 2 + 1); omega⟩ ⟨Nat.le_refl _, Nat.le_refl _⟩ hl.1 rfl (Nat.le_of_ble_eq_true rfl) dX3_leastOnward_38 ?_
          refine lv_if_ne (tgt := 81) hx hb dX3_leastOnward_41 (by decide) (fun c7 => ?_) (fun c7 => ?_)
          · have h := ifn c7 h
            refine lv_iinc (v := (x6 + (1 : Int32))) (lv' := [(6, .int (x6 + (1 : Int32))), (0, .ref (o 0)), (1, .int a1), (2, .int a2), (3, .int a3), (4, .long x4)]) hx hb dX3_leastOnward_81 hl (k := 5) rfl (congrArg (HAdd.hAdd x6) (by decide)) (by decide) rfl (fun ls hl => ?_)
            refine lv_goto (tgt := 20) hx hb dX3_leastOnward_84 (by decide) ?_
            exact ih20 x4 (x6 + (1 : Int32)) _ _ _ h hP hS (lv_sub hl [1, 2, 3, 4, 5, 0] rfl)
          · have h := ift c7 h
            refine lv_iload_n hx hb dX3_leastOnward_44 rfl (lv_at hl 2 rfl) ?_
            refine lv_iload hx hb dX3_leastOnward_45 (lv_at hl 5 rfl) ?_
            obtain ⟨q8, e8, h⟩ := bnd_some h
            refine n_call (As := [.int x6]) (rest := [.int a2]) (c_X5_bit l x6 q8 e8) B hN k_X5_bit (List.mem_of_getElem? (i := 3) rfl) rfl ⟨by show 0 + 1 ≤ n + 2 + 1; omega, by show 8 + (1 + 11) + 40 * 0 ≤ 40 * (n + 2 + 1); omega⟩ ⟨Nat.le_refl _, Nat.le_refl _⟩ hl.1 rfl (Nat.le_of_ble_eq_true rfl) dX3_leastOnward_47 ?_
            refine lv_ior hx hb dX3_leastOnward_50 ?_
            refine lv_istore (lv' := [(7, .int (a2 ||| q8)), (0, .ref (o 0)), (1, .int a1), (2, .int a2), (3, .int a3), (4, .long x4), (6, .int x6)]) hx hb dX3_leastOnward_51 hl (by decide) rfl (fun ls hl => ?_)
            refine lv_aload_n hx hb dX3_leastOnward_53 rfl (lv_at hl 1 rfl) ?_
            refine lv_iload hx hb dX3_leastOnward_54 (lv_at hl 0 rfl) ?_
            obtain ⟨q9, e9, h⟩ := bnd_some h
            refine g_call (As := [.int (a2 ||| q8)]) (rest := []) (c_X3_sizeOf l D o ct (a2 ||| q8) k_products k_leastCosts k_bestOrders q9 e9) B hN hK hDD hA hP hS rfl (va_recv hK hP (ci := 4) (q0 := 0) rfl rfl) k_X3_sizeOf q_16_2 rfl ⟨by show 1 + 1 ≤ n + 2 + 1; omega, by show 8 + (2 + 11) + 40 * 1 ≤ 40 * (n + 2 + 1); omega⟩ ⟨Nat.le_refl _, Nat.le_refl _⟩ hl.1 rfl (Nat.le_of_ble_eq_true rfl) dX3_leastOnward_56 (fun H locs hP hS => ?_)
            refine lv_aload_n hx hb dX3_leastOnward_59 rfl (lv_at hl 1 rfl) ?_
            refine lv_iload_n hx hb dX3_leastOnward_60 rfl (lv_at hl 2 rfl) ?_
            refine lv_iload hx hb dX3_leastOnward_61 (lv_at hl 0 rfl) ?_
            refine lv_iload_n hx hb dX3_leastOnward_63 rfl (lv_at hl 4 rfl) ?_
            refine lv_iconst (v := (1 : Int32)) hx hb dX3_leastOnward_64 (by decide) ?_
            refine lv_iadd hx hb dX3_leastOnward_65 ?_
            obtain ⟨q10, e10, h⟩ := bnd_some h
            refine gs_call (As := [.ref (o 0), .int a1, .int (a2 ||| q8), .int (a3 + (1 : Int32))]) (rest := [.long q9]) (ih a1 (a2 ||| q8) (a3 + (1 : Int32)) q10 e10) B hN hK hDD hA hP hS rfl k_X3_leastOnward q_21_5 rfl ⟨by show _ + 1 ≤ _ + 1; omega, by show 8 + (_ + 11) + 40 * _ ≤ 40 * (_ + 1); omega⟩ ⟨Nat.le_refl _, Nat.le_refl _⟩ hl.1 rfl (Nat.le_of_ble_eq_true rfl) dX3_leastOnward_66 (fun H locs hP hS => ?_)
            refine lv_ladd hx hb dX3_leastOnward_69 ?_
            refine lv_lstore (lv' := [(8, .long (q9 + q10)), (7, .int (a2 ||| q8)), (0, .ref (o 0)), (1, .int a1), (2, .int a2), (3, .int a3), (4, .long x4), (6, .int x6)]) hx hb dX3_leastOnward_70 hl (by decide) rfl (fun ls hl => ?_)
            refine lv_lload hx hb dX3_leastOnward_72 (lv_at hl 6 rfl) ?_
            refine lv_lload hx hb dX3_leastOnward_74 (lv_at hl 0 rfl) ?_
            refine va_mmin_long hx hb (hml.trans hl.1.symm) hown (hts _ q_21_8) (hts _ q_16_11) (hts _ q_7_1) (hts _ q_16_12) (by show 1 ≤ n + 2 + 1; omega) (Nat.le_trans (m := 40) (Nat.le_of_ble_eq_true rfl) (by show 40 ≤ 40 * (n + 2 + 1); omega)) (Nat.le_refl _) (Nat.le_refl _) dX3_leastOnward_76 ?_
            refine lv_lstore (lv' := [(4, .long (if (q9 + q10) < x4 then (q9 + q10) else x4)), (8, .long (q9 + q10)), (7, .int (a2 ||| q8)), (0, .ref (o 0)), (1, .int a1), (2, .int a2), (3, .int a3), (6, .int x6)]) hx hb dX3_leastOnward_79 hl (by decide) rfl (fun ls hl => ?_)
            refine lv_iinc (v := (x6 + (1 : Int32))) (lv' := [(6, .int (x6 + (1 : Int32))), (4, .long (if (q9 + q10) < x4 then (q9 + q10) else x4)), (8, .long (q9 + q10)), (7, .int (a2 ||| q8)), (0, .ref (o 0)), (1, .int a1), (2, .int a2), (3, .int a3)]) hx hb dX3_leastOnward_81 hl (k := 7) rfl (congrArg (HAdd.hAdd x6) (by decide)) (by decide) rfl (fun ls hl => ?_)
            refine lv_goto (tgt := 20) hx hb dX3_leastOnward_84 (by decide) ?_
            exact ih20 (if (q9 + q10) < x4 then (q9 + q10) else x4) (x6 + (1 : Int32)) _ _ _ h hP hS (lv_sub hl [4, 5, 6, 7, 1, 0] rfl)
  unfold f_X3_leastOnward_b at h
  refine lv_iload_n hx hb dX3_leastOnward_0 rfl (lv_at hl 2 rfl) ?_
  refine lv_iload_n hx hb dX3_leastOnward_1 rfl (lv_at hl 1 rfl) ?_
  refine lv_icmp_eq (tgt := 10) hx hb dX3_leastOnward_2 (by decide) (fun c1 => ?_) (fun c1 => ?_)
  · have h := ift c1 h
    refine lv_lconst (v := (0 : Int64)) hx hb dX3_leastOnward_10 (by decide) ?_
    obtain rfl := Option.some.inj h
    exact hret _ _ _ _ dX3_leastOnward_11 hP hS
  · have h := ifn c1 h
    refine lv_iload_n hx hb dX3_leastOnward_5 rfl (lv_at hl 3 rfl) ?_
    refine lv_iconst (v := (5 : Int32)) hx hb dX3_leastOnward_6 (by decide) ?_
    refine lv_icmp_lt (tgt := 12) hx hb dX3_leastOnward_7 (by decide) (fun c2 => ?_) (fun c2 => ?_)
    · have h := ift c2 h
      refine lv_ldc2 (v := (9223372036854775807 : Int64)) hx hb hown (hts _ q_14_8) dX3_leastOnward_12 ?_
      refine lv_lstore (lv' := [(4, .long (9223372036854775807 : Int64)), (0, .ref (o 0)), (1, .int a1), (2, .int a2), (3, .int a3)]) hx hb dX3_leastOnward_15 hl (by decide) rfl (fun ls hl => ?_)
      refine lv_iconst (v := (0 : Int32)) hx hb dX3_leastOnward_17 (by decide) ?_
      refine lv_istore (lv' := [(6, .int (0 : Int32)), (4, .long (9223372036854775807 : Int64)), (0, .ref (o 0)), (1, .int a1), (2, .int a2), (3, .int a3)]) hx hb dX3_leastOnward_18 hl (by decide) rfl (fun ls hl => ?_)
      exact hL20 1024 (9223372036854775807 : Int64) (0 : Int32) _ _ _ h hP hS (lv_sub hl [2, 3, 4, 5, 1, 0] rfl)
    · have h := ifn c2 h
      refine lv_lconst (v := (0 : Int64)) hx hb dX3_leastOnward_10 (by decide) ?_
      obtain rfl := Option.some.inj h
      exact hret _ _ _ _ dX3_leastOnward_11 hP hS

def f_X3_leastByOrders (a1 : Int32) (k_products : Nat → Int64) : Option (Int64) :=
  bnd (f_X3_leastOnward k_products 6 a1 (0 : Int32) (0 : Int32)) (fun q1 => some q1)
set_option maxRecDepth 100000 in
set_option maxHeartbeats 4000000 in
theorem c_X3_leastByOrders (l : Launch) (D : va_G) (o : Nat → Nat) (ct : Nat → ClassId) (a1 : Int32) (k_products : Nat → Int64) (k_leastCosts : Nat → Int64) (k_bestOrders : Nat → Int32) (q : Int64) (h : f_X3_leastByOrders a1 k_products = some q) : CG l yX3_leastByOrders cX3_leastByOrders 2 9 (some .long) D (tysK ct) [.ref (o 0), .int a1] (some (.long q)) (QW o ct k_products k_leastCosts k_bestOrders) (QW o ct k_products k_leastCosts k_bestOrders) := by
  refine CG.mkL (by decide) (Nat.le_of_ble_eq_true rfl) ?_
  intro p e s m below meth c Q A B hK hN hDD hA hret hP hS ls hl
  have B0 := B
  obtain ⟨hx, hb, hml, hown, hts⟩ := B0
  have hl : lv_has ls 2 [(0, .ref (o 0)), (1, .int a1)] := hl
  unfold f_X3_leastByOrders at h
  refine lv_aload_n hx hb dX3_leastByOrders_0 rfl (lv_at hl 0 rfl) ?_
  refine lv_iload_n hx hb dX3_leastByOrders_1 rfl (lv_at hl 1 rfl) ?_
  refine lv_iconst (v := (0 : Int32)) hx hb dX3_leastByOrders_2 (by decide) ?_
  refine lv_iconst (v := (0 : Int32)) hx hb dX3_leastByOrders_3 (by decide) ?_
  obtain ⟨q1, e1, h⟩ := bnd_some h
  refine gs_call (As := [.ref (o 0), .int a1, .int (0 : Int32), .int (0 : Int32)]) (rest := []) (c_X3_leastOnward l D o ct k_products k_leastCosts k_bestOrders 6 a1 (0 : Int32) (0 : Int32) q1 e1) B hN hK hDD hA hP hS rfl k_X3_leastOnward q_21_5 rfl ⟨Nat.le_of_ble_eq_true rfl, Nat.le_of_ble_eq_true rfl⟩ ⟨Nat.le_refl _, Nat.le_refl _⟩ hl.1 rfl (Nat.le_of_ble_eq_true rfl) dX3_leastByOrders_4 (fun H locs hP hS => ?_)
  obtain rfl := Option.some.inj h
  exact hret _ _ _ _ dX3_leastByOrders_7 hP hS

def f_X3_costOf_L14b (a1 : Int32) (a2 : Int32) (k_products : Nat → Int64)  (k14 : Int32 → Int64 → Int32 → Int32 → Option (Int64)) (x3 : Int32) (x4 : Int64) (x6 : Int32) (x7 : Int32) : Option (Int64) :=
  if x3 ≤ x7 then some x4
  else bnd (f_X5_tableAt a2 x3 x7 ) (fun q3 => bnd (f_X5_bit q3 ) (fun q4 => bnd (f_X3_sizeOf (x6 ||| q4) k_products) (fun q5 => k14 x3 (x4 + q5) (x6 ||| q4) (x7 + (1 : Int32)))))
def f_X3_costOf_L14 (a1 : Int32) (a2 : Int32) (k_products : Nat → Int64)  : Nat → Int32 → Int64 → Int32 → Int32 → Option (Int64)
  | 0 => fun _ _ _ _ => none
  | n + 1 => f_X3_costOf_L14b a1 a2 k_products  (f_X3_costOf_L14 a1 a2 k_products  n)
def f_X3_costOf (a1 : Int32) (a2 : Int32) (k_products : Nat → Int64) : Option (Int64) :=
  bnd (f_J6_bitCount_0f7a4 a1 ) (fun q1 => f_X3_costOf_L14 a1 a2 k_products  1024 q1 (0 : Int64) (0 : Int32) (0 : Int32))
set_option maxRecDepth 100000 in
set_option maxHeartbeats 4000000 in
theorem c_X3_costOf (l : Launch) (D : va_G) (o : Nat → Nat) (ct : Nat → ClassId) (a1 : Int32) (a2 : Int32) (k_products : Nat → Int64) (k_leastCosts : Nat → Int64) (k_bestOrders : Nat → Int32) (q : Int64) (h : f_X3_costOf a1 a2 k_products = some q) : CG l yX3_costOf cX3_costOf 8 2 (some .long) D (tysK ct) [.ref (o 0), .int a1, .int a2] (some (.long q)) (QW o ct k_products k_leastCosts k_bestOrders) (QW o ct k_products k_leastCosts k_bestOrders) := by
  refine CG.mkL (by decide) (Nat.le_of_ble_eq_true rfl) ?_
  intro p e s m below meth c Q A B hK hN hDD hA hret hP hS ls hl
  have B0 := B
  obtain ⟨hx, hb, hml, hown, hts⟩ := B0
  have hl : lv_has ls 8 [(0, .ref (o 0)), (1, .int a1), (2, .int a2)] := hl
  have hL14 : ∀ (n14 : Nat) (x3 : Int32) (x4 : Int64) (x6 : Int32) (x7 : Int32) (ls : Array Slot) (H : Heap) (locs : List Loc), f_X3_costOf_L14 a1 a2 k_products  n14 x3 x4 x6 x7 = some q → va_P D vwCl (QW o ct k_products k_leastCosts k_bestOrders) H → va_S A s.heap H locs → lv_has ls 8 [(0, .ref (o 0)), (2, .int a2), (3, .int x3), (4, .long x4), (6, .int x6), (7, .int x7)] → W p l e (rmF 2 0 0) s m ([.ref (o 0), .int a1, .int a2] : List Value).toArray below meth c H locs 0 0 Q (F0 m 14 ls []) := by
    intro n14
    induction n14 with
    | zero =>
      intro x3 x4 x6 x7 ls H locs h
      exact absurd (show (none : Option (Int64)) = some q from h) (by intro h; cases h)
    | succ n14 ih14 =>
      intro x3 x4 x6 x7 ls H locs h hP hS hl
      have h : f_X3_costOf_L14b a1 a2 k_products  (f_X3_costOf_L14 a1 a2 k_products  n14) x3 x4 x6 x7 = some q := h
      unfold f_X3_costOf_L14b at h
      refine lv_iload hx hb dX3_costOf_14 (lv_at hl 5 rfl) ?_
      refine lv_iload_n hx hb dX3_costOf_16 rfl (lv_at hl 2 rfl) ?_
      refine lv_icmp_ge (tgt := 52) hx hb dX3_costOf_17 (by decide) (fun c2 => ?_) (fun c2 => ?_)
      · have h := ift c2 h
        refine lv_lload hx hb dX3_costOf_52 (lv_at hl 3 rfl) ?_
        obtain rfl := Option.some.inj h
        exact hret _ _ _ _ dX3_costOf_54 hP hS
      · have h := ifn c2 h
        refine lv_iload hx hb dX3_costOf_20 (lv_at hl 4 rfl) ?_
        refine lv_iload_n hx hb dX3_costOf_22 rfl (lv_at hl 1 rfl) ?_
        refine lv_iload_n hx hb dX3_costOf_23 rfl (lv_at hl 2 rfl) ?_
        refine lv_iload hx hb dX3_costOf_24 (lv_at hl 5 rfl) ?_
        obtain ⟨q3, e3, h⟩ := bnd_some h
        refine n_call (As := [.int a2, .int x3, .int x7]) (rest := [.int x6]) (c_X5_tableAt l a2 x3 x7 q3 e3) B hN k_X5_tableAt (List.mem_of_getElem? (i := 7) rfl) rfl ⟨Nat.le_of_ble_eq_true rfl, Nat.le_of_ble_eq_true rfl⟩ ⟨Nat.le_refl _, Nat.le_refl _⟩ hl.1 rfl (Nat.le_of_ble_eq_true rfl) dX3_costOf_26 ?_
        obtain ⟨q4, e4, h⟩ := bnd_some h
        refine n_call (As := [.int q3]) (rest := [.int x6]) (c_X5_bit l q3 q4 e4) B hN k_X5_bit (List.mem_of_getElem? (i := 3) rfl) rfl ⟨Nat.le_of_ble_eq_true rfl, Nat.le_of_ble_eq_true rfl⟩ ⟨Nat.le_refl _, Nat.le_refl _⟩ hl.1 rfl (Nat.le_of_ble_eq_true rfl) dX3_costOf_29 ?_
        refine lv_ior hx hb dX3_costOf_32 ?_
        refine lv_istore (lv' := [(6, .int (x6 ||| q4)), (0, .ref (o 0)), (2, .int a2), (3, .int x3), (4, .long x4), (7, .int x7)]) hx hb dX3_costOf_33 hl (by decide) rfl (fun ls hl => ?_)
        refine lv_lload hx hb dX3_costOf_35 (lv_at hl 4 rfl) ?_
        refine lv_aload_n hx hb dX3_costOf_37 rfl (lv_at hl 1 rfl) ?_
        refine lv_iload hx hb dX3_costOf_38 (lv_at hl 0 rfl) ?_
        obtain ⟨q5, e5, h⟩ := bnd_some h
        refine g_call (As := [.int (x6 ||| q4)]) (rest := [.long x4]) (c_X3_sizeOf l D o ct (x6 ||| q4) k_products k_leastCosts k_bestOrders q5 e5) B hN hK hDD hA hP hS rfl (va_recv hK hP (ci := 4) (q0 := 0) rfl rfl) k_X3_sizeOf q_16_2 rfl ⟨Nat.le_of_ble_eq_true rfl, Nat.le_of_ble_eq_true rfl⟩ ⟨Nat.le_refl _, Nat.le_refl _⟩ hl.1 rfl (Nat.le_of_ble_eq_true rfl) dX3_costOf_40 (fun H locs hP hS => ?_)
        refine lv_ladd hx hb dX3_costOf_43 ?_
        refine lv_lstore (lv' := [(4, .long (x4 + q5)), (6, .int (x6 ||| q4)), (0, .ref (o 0)), (2, .int a2), (3, .int x3), (7, .int x7)]) hx hb dX3_costOf_44 hl (by decide) rfl (fun ls hl => ?_)
        refine lv_iinc (v := (x7 + (1 : Int32))) (lv' := [(7, .int (x7 + (1 : Int32))), (4, .long (x4 + q5)), (6, .int (x6 ||| q4)), (0, .ref (o 0)), (2, .int a2), (3, .int x3)]) hx hb dX3_costOf_46 hl (k := 5) rfl (congrArg (HAdd.hAdd x7) (by decide)) (by decide) rfl (fun ls hl => ?_)
        refine lv_goto (tgt := 14) hx hb dX3_costOf_49 (by decide) ?_
        exact ih14 x3 (x4 + q5) (x6 ||| q4) (x7 + (1 : Int32)) _ _ _ h hP hS (lv_sub hl [3, 4, 5, 1, 2, 0] rfl)
  unfold f_X3_costOf at h
  refine lv_iload_n hx hb dX3_costOf_0 rfl (lv_at hl 1 rfl) ?_
  obtain ⟨q1, e1, h⟩ := bnd_some h
  refine s_call (As := [.int a1]) (rest := []) (c_J6_bitCount_0f7a4 l a1 q1 e1) B k_J6_bitCount_0f7a4 q_15_23 rfl ⟨Nat.le_of_ble_eq_true rfl, Nat.le_of_ble_eq_true rfl⟩ ⟨Nat.le_refl _, Nat.le_refl _⟩ hl.1 rfl (Nat.le_of_ble_eq_true rfl) dX3_costOf_1 ?_
  refine lv_istore_n (lv' := [(3, .int q1), (0, .ref (o 0)), (1, .int a1), (2, .int a2)]) hx hb dX3_costOf_4 rfl hl (by decide) rfl (fun ls hl => ?_)
  refine lv_lconst (v := (0 : Int64)) hx hb dX3_costOf_5 (by decide) ?_
  refine lv_lstore (lv' := [(4, .long (0 : Int64)), (3, .int q1), (0, .ref (o 0)), (1, .int a1), (2, .int a2)]) hx hb dX3_costOf_6 hl (by decide) rfl (fun ls hl => ?_)
  refine lv_iconst (v := (0 : Int32)) hx hb dX3_costOf_8 (by decide) ?_
  refine lv_istore (lv' := [(6, .int (0 : Int32)), (4, .long (0 : Int64)), (3, .int q1), (0, .ref (o 0)), (1, .int a1), (2, .int a2)]) hx hb dX3_costOf_9 hl (by decide) rfl (fun ls hl => ?_)
  refine lv_iconst (v := (0 : Int32)) hx hb dX3_costOf_11 (by decide) ?_
  refine lv_istore (lv' := [(7, .int (0 : Int32)), (6, .int (0 : Int32)), (4, .long (0 : Int64)), (3, .int q1), (0, .ref (o 0)), (1, .int a1), (2, .int a2)]) hx hb dX3_costOf_12 hl (by decide) rfl (fun ls hl => ?_)
  exact hL14 1024 q1 (0 : Int64) (0 : Int32) (0 : Int32) _ _ _ h hP hS (lv_sub hl [4, 6, 3, 2, 1, 0] rfl)

def f_X3_excessOf (a1 : Int32) (a2 : Int32) (k_products : Nat → Int64) (k_leastCosts : Nat → Int64) : Option (Int64) :=
  bnd (f_X3_costOf a1 a2 k_products) (fun q1 => bnd (f_X3_leastBySets a1 k_leastCosts) (fun q2 => some (q1 - q2)))
set_option maxRecDepth 100000 in
set_option maxHeartbeats 4000000 in
theorem c_X3_excessOf (l : Launch) (D : va_G) (o : Nat → Nat) (ct : Nat → ClassId) (a1 : Int32) (a2 : Int32) (k_products : Nat → Int64) (k_leastCosts : Nat → Int64) (k_bestOrders : Nat → Int32) (q : Int64) (h : f_X3_excessOf a1 a2 k_products k_leastCosts = some q) : CG l yX3_excessOf cX3_excessOf 3 3 (some .long) D (tysK ct) [.ref (o 0), .int a1, .int a2] (some (.long q)) (QW o ct k_products k_leastCosts k_bestOrders) (QW o ct k_products k_leastCosts k_bestOrders) := by
  refine CG.mkL (by decide) (Nat.le_of_ble_eq_true rfl) ?_
  intro p e s m below meth c Q A B hK hN hDD hA hret hP hS ls hl
  have B0 := B
  obtain ⟨hx, hb, hml, hown, hts⟩ := B0
  have hl : lv_has ls 3 [(0, .ref (o 0)), (1, .int a1), (2, .int a2)] := hl
  unfold f_X3_excessOf at h
  refine lv_aload_n hx hb dX3_excessOf_0 rfl (lv_at hl 0 rfl) ?_
  refine lv_iload_n hx hb dX3_excessOf_1 rfl (lv_at hl 1 rfl) ?_
  refine lv_iload_n hx hb dX3_excessOf_2 rfl (lv_at hl 2 rfl) ?_
  obtain ⟨q1, e1, h⟩ := bnd_some h
  refine g_call (As := [.int a1, .int a2]) (rest := []) (c_X3_costOf l D o ct a1 a2 k_products k_leastCosts k_bestOrders q1 e1) B hN hK hDD hA hP hS rfl (va_recv hK hP (ci := 4) (q0 := 0) rfl rfl) k_X3_costOf q_18_8 rfl ⟨Nat.le_of_ble_eq_true rfl, Nat.le_of_ble_eq_true rfl⟩ ⟨Nat.le_refl _, Nat.le_refl _⟩ hl.1 rfl (Nat.le_of_ble_eq_true rfl) dX3_excessOf_3 (fun H locs hP hS => ?_)
  refine lv_aload_n hx hb dX3_excessOf_6 rfl (lv_at hl 0 rfl) ?_
  refine lv_iload_n hx hb dX3_excessOf_7 rfl (lv_at hl 1 rfl) ?_
  obtain ⟨q2, e2, h⟩ := bnd_some h
  refine g_call (As := [.int a1]) (rest := [.long q1]) (c_X3_leastBySets l D o ct a1 k_products k_leastCosts k_bestOrders q2 e2) B hN hK hDD hA hP hS rfl (va_recv hK hP (ci := 4) (q0 := 0) rfl rfl) k_X3_leastBySets q_18_9 rfl ⟨Nat.le_of_ble_eq_true rfl, Nat.le_of_ble_eq_true rfl⟩ ⟨Nat.le_refl _, Nat.le_refl _⟩ hl.1 rfl (Nat.le_of_ble_eq_true rfl) dX3_excessOf_8 (fun H locs hP hS => ?_)
  refine lv_lsub hx hb dX3_excessOf_11 ?_
  obtain rfl := Option.some.inj h
  exact hret _ _ _ _ dX3_excessOf_12 hP hS
