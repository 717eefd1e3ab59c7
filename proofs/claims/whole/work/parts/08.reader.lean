/-! Reader over its cells: laid by wip/whole/gen.py -/
abbrev RW (o : Nat → Nat) (ct : Nat → ClassId) (r_next : Int32) (r_start : Int32) (r_letter : Int32) (r_tables : Int32) (r_table : Int32) (r_number : Int32) (r_signs : Nat → Int32) (r_length : Int32) : va_W := [((o 0), .inr (3, [.ref (o 1), .int r_next, .int r_start, .int r_letter, .int r_tables, .int r_table, .int r_number])), ((o 1), .inr (2, [.ref (o 2), .int r_length])), ((o 2), .inl ((ct 2), 60, .inl r_signs))]
theorem k_X1_signAt : VOk yX1_signAt cX1_signAt 2 (some .char) 1 := ⟨q_23_16, q_23_14, q_23_15, q_2_3, by decide +kernel⟩
theorem k_X2_digit : VOk yX2_digit cX2_digit 1 (some .int) 0 := ⟨q_24_0, q_23_22, q_23_23, q_22_16, by decide +kernel⟩
theorem k_X2_readTable : VOk yX2_readTable cX2_readTable 1 (some .boolean) 0 := ⟨q_24_4, q_24_2, q_24_3, q_22_16, by decide +kernel⟩
theorem k_X2_readTables : VOk yX2_readTables cX2_readTables 3 (some .boolean) 0 := ⟨q_23_20, q_23_18, q_23_19, q_22_16, by decide +kernel⟩
theorem k_X2_readSign : VOk yX2_readSign cX2_readSign 2 (some .boolean) 1 := ⟨q_24_8, q_24_6, q_24_7, q_22_16, by decide +kernel⟩
theorem k_X2_readNumber : VOk yX2_readNumber cX2_readNumber 3 (some .boolean) 0 := ⟨q_24_12, q_24_10, q_24_11, q_22_16, by decide +kernel⟩
theorem k_X2_readDeed : VOk yX2_readDeed cX2_readDeed 1 (some .boolean) 0 := ⟨q_23_12, q_23_10, q_23_11, q_22_16, by decide +kernel⟩
theorem k_X2_findFault : VOk yX2_findFault cX2_findFault 2 (some .int) 0 := ⟨q_23_7, q_23_5, q_23_6, q_22_16, by decide +kernel⟩
def f_X1_signAt (a1 : Int32) (r_signs : Nat → Int32) (r_length : Int32) : Option (Int32) :=
  if a1 < (0 : Int32) then grd (isC (0 : Int32)) (some (0 : Int32))
  else if r_length ≤ a1 then grd (isC (0 : Int32)) (some (0 : Int32))
  else if (60 : Int32) ≤ a1 then grd (isC (0 : Int32)) (some (0 : Int32))
  else grd (inb a1 60) (grd (isC (r_signs a1.toNatClampNeg)) (some (r_signs a1.toNatClampNeg)))
set_option maxRecDepth 100000 in
set_option maxHeartbeats 4000000 in
theorem c_X1_signAt (l : Launch) (D : va_G) (o : Nat → Nat) (ct : Nat → ClassId) (a1 : Int32) (r_next : Int32) (r_start : Int32) (r_letter : Int32) (r_tables : Int32) (r_table : Int32) (r_number : Int32) (r_signs : Nat → Int32) (r_length : Int32) (q : Int32) (h : f_X1_signAt a1 r_signs r_length = some q) : CG l yX1_signAt cX1_signAt 2 0 (some .char) D (tysK ct) [.ref (o 1), .int a1] (some (.int q)) (RW o ct r_next r_start r_letter r_tables r_table r_number r_signs r_length) (RW o ct r_next r_start r_letter r_tables r_table r_number r_signs r_length) := by
  refine CG.mkI (by decide) (Nat.le_of_ble_eq_true rfl) ?_
  intro p e s m below meth c Q A B hK hN hDD hA hret hP hS ls hl
  have B0 := B
  obtain ⟨hx, hb, hml, hown, hts⟩ := B0
  have hl : lv_has ls 2 [(0, .ref (o 1)), (1, .int a1)] := hl
  unfold f_X1_signAt at h
  refine lv_iload_n hx hb dX1_signAt_0 rfl (lv_at hl 1 rfl) ?_
  refine lv_if_lt (tgt := 30) hx hb dX1_signAt_1 (by decide) (fun c1 => ?_) (fun c1 => ?_)
  · have h := ift c1 h
    refine lv_iconst (v := (0 : Int32)) hx hb dX1_signAt_30 (by decide) ?_
    obtain ⟨g2, h⟩ := grd_some h
    obtain rfl := Option.some.inj h
    exact hret _ _ _ _ (isC_nar g2) dX1_signAt_31 hP hS
  · have h := ifn c1 h
    refine lv_iload_n hx hb dX1_signAt_4 rfl (lv_at hl 1 rfl) ?_
    refine lv_aload_n hx hb dX1_signAt_5 rfl (lv_at hl 0 rfl) ?_
    refine va_get (D := D) (ci := 2) (v := .int r_length) (C := RX1) (T := TX1) (N := 2) hx hb hts inlX1 hown hK hP 1 rfl rfl 1 (by decide) (hts _ q_4_0) (fun _ h9 => h9) rfl dX1_signAt_6 ?_
    refine lv_icmp_ge (tgt := 30) hx hb dX1_signAt_9 (by decide) (fun c3 => ?_) (fun c3 => ?_)
    · have h := ift c3 h
      refine lv_iconst (v := (0 : Int32)) hx hb dX1_signAt_30 (by decide) ?_
      obtain ⟨g4, h⟩ := grd_some h
      obtain rfl := Option.some.inj h
      exact hret _ _ _ _ (isC_nar g4) dX1_signAt_31 hP hS
    · have h := ifn c3 h
      refine lv_iload_n hx hb dX1_signAt_12 rfl (lv_at hl 1 rfl) ?_
      refine lv_aload_n hx hb dX1_signAt_13 rfl (lv_at hl 0 rfl) ?_
      refine va_get (D := D) (ci := 2) (v := .ref (o 2)) (C := RX1) (T := TX1) (N := 2) hx hb hts inlX1 hown hK hP 1 rfl rfl 0 (by decide) (hts _ q_3_23) (fun _ h9 => h9) rfl dX1_signAt_14 ?_
      refine va_alen hx hb hK hP 2 2 rfl rfl (v := (60 : Int32)) (show Int32.ofNat 60 = (60 : Int32) by decide) dX1_signAt_17 ?_
      refine lv_icmp_ge (tgt := 30) hx hb dX1_signAt_18 (by decide) (fun c5 => ?_) (fun c5 => ?_)
      · have h := ift c5 h
        refine lv_iconst (v := (0 : Int32)) hx hb dX1_signAt_30 (by decide) ?_
        obtain ⟨g6, h⟩ := grd_some h
        obtain rfl := Option.some.inj h
        exact hret _ _ _ _ (isC_nar g6) dX1_signAt_31 hP hS
      · have h := ifn c5 h
        refine lv_aload_n hx hb dX1_signAt_21 rfl (lv_at hl 0 rfl) ?_
        refine va_get (D := D) (ci := 2) (v := .ref (o 2)) (C := RX1) (T := TX1) (N := 2) hx hb hts inlX1 hown hK hP 1 rfl rfl 0 (by decide) (hts _ q_3_23) (fun _ h9 => h9) rfl dX1_signAt_22 ?_
        refine lv_iload_n hx hb dX1_signAt_25 rfl (lv_at hl 1 rfl) ?_
        obtain ⟨g7, h⟩ := grd_some h
        refine va_cald hx hb hK hP 2 2 rfl rfl (inb_in g7) dX1_signAt_26 ?_
        refine lv_goto (tgt := 31) hx hb dX1_signAt_27 (by decide) ?_
        obtain ⟨g8, h⟩ := grd_some h
        obtain rfl := Option.some.inj h
        exact hret _ _ _ _ (isC_nar g8) dX1_signAt_31 hP hS

def f_X2_digit  (r_next : Int32) (r_signs : Nat → Int32) (r_length : Int32) : Option (Int32) :=
  bnd (f_X1_signAt r_next r_signs r_length) (fun q1 => some (q1 - (48 : Int32)))
set_option maxRecDepth 100000 in
set_option maxHeartbeats 4000000 in
theorem c_X2_digit (l : Launch) (D : va_G) (o : Nat → Nat) (ct : Nat → ClassId)  (r_next : Int32) (r_start : Int32) (r_letter : Int32) (r_tables : Int32) (r_table : Int32) (r_number : Int32) (r_signs : Nat → Int32) (r_length : Int32) (q : Int32) (h : f_X2_digit  r_next r_signs r_length = some q) : CG l yX2_digit cX2_digit 1 1 (some .int) D (tysK ct) [.ref (o 0)] (some (.int q)) (RW o ct r_next r_start r_letter r_tables r_table r_number r_signs r_length) (RW o ct r_next r_start r_letter r_tables r_table r_number r_signs r_length) := by
  refine CG.mkI (by decide) (Nat.le_of_ble_eq_true rfl) ?_
  intro p e s m below meth c Q A B hK hN hDD hA hret hP hS ls hl
  have B0 := B
  obtain ⟨hx, hb, hml, hown, hts⟩ := B0
  have hl : lv_has ls 1 [(0, .ref (o 0))] := hl
  unfold f_X2_digit at h
  refine lv_aload_n hx hb dX2_digit_0 rfl (lv_at hl 0 rfl) ?_
  refine va_get (D := D) (ci := 3) (v := .ref (o 1)) (C := RX2) (T := TX2) (N := 7) hx hb hts inlX2 hown hK hP 0 rfl rfl 0 (by decide) (hts _ q_23_3) (fun _ h9 => h9) rfl dX2_digit_1 ?_
  refine lv_aload_n hx hb dX2_digit_4 rfl (lv_at hl 0 rfl) ?_
  refine va_get (D := D) (ci := 3) (v := .int r_next) (C := RX2) (T := TX2) (N := 7) hx hb hts inlX2 hown hK hP 0 rfl rfl 1 (by decide) (hts _ q_22_21) (fun _ h9 => h9) rfl dX2_digit_5 ?_
  obtain ⟨q1, e1, h⟩ := bnd_some h
  refine g_call (As := [.int r_next]) (rest := []) (c_X1_signAt l D o ct r_next r_next r_start r_letter r_tables r_table r_number r_signs r_length q1 e1) B hN hK hDD hA hP hS rfl (va_recv hK hP (ci := 2) (q0 := 1) rfl rfl) k_X1_signAt q_23_13 rfl ⟨Nat.le_of_ble_eq_true rfl, Nat.le_of_ble_eq_true rfl⟩ ⟨Nat.le_refl _, Nat.le_refl _⟩ hl.1 rfl (Nat.le_of_ble_eq_true rfl) dX2_digit_8 (fun H locs hP hS => ?_)
  refine lv_bipush (v := (48 : Int32)) hx hb dX2_digit_11 (by decide) ?_
  refine lv_isub hx hb dX2_digit_13 ?_
  obtain rfl := Option.some.inj h
  exact hret _ _ _ _ (vp_nar_int _) dX2_digit_14 hP hS

def f_X2_readTable  (r_next : Int32) (r_table : Int32) (r_signs : Nat → Int32) (r_length : Int32) : Option (Int32 × (Int32) × (Int32)) :=
  bnd (f_X2_digit  r_next r_signs r_length) (fun q1 => bnd (f_X5_isTable q1 ) (fun q2 => if q2 = (0 : Int32) then some ((0 : Int32), r_next, r_table)
  else bnd (f_X2_digit  r_next r_signs r_length) (fun q4 => some ((1 : Int32), (r_next + (1 : Int32)), q4))))
set_option maxRecDepth 100000 in
set_option maxHeartbeats 4000000 in
theorem c_X2_readTable (l : Launch) (D : va_G) (o : Nat → Nat) (ct : Nat → ClassId)  (r_next : Int32) (r_start : Int32) (r_letter : Int32) (r_tables : Int32) (r_table : Int32) (r_number : Int32) (r_signs : Nat → Int32) (r_length : Int32) (q : Int32 × (Int32) × (Int32)) (h : f_X2_readTable  r_next r_table r_signs r_length = some q) : CG l yX2_readTable cX2_readTable 1 2 (some .boolean) D (tysK ct) [.ref (o 0)] (some (.int q.1)) (RW o ct r_next r_start r_letter r_tables r_table r_number r_signs r_length) (RW o ct q.2.1 r_start r_letter r_tables q.2.2 r_number r_signs r_length) := by
  refine CG.mkI (by decide) (Nat.le_of_ble_eq_true rfl) ?_
  intro p e s m below meth c Q A B hK hN hDD hA hret hP hS ls hl
  have B0 := B
  obtain ⟨hx, hb, hml, hown, hts⟩ := B0
  have hl : lv_has ls 1 [(0, .ref (o 0))] := hl
  unfold f_X2_readTable at h
  refine lv_aload_n hx hb dX2_readTable_0 rfl (lv_at hl 0 rfl) ?_
  obtain ⟨q1, e1, h⟩ := bnd_some h
  refine g_call (As := []) (rest := []) (c_X2_digit l D o ct  r_next r_start r_letter r_tables r_table r_number r_signs r_length q1 e1) B hN hK hDD hA hP hS rfl (va_recv hK hP (ci := 3) (q0 := 0) rfl rfl) k_X2_digit q_23_21 rfl ⟨Nat.le_of_ble_eq_true rfl, Nat.le_of_ble_eq_true rfl⟩ ⟨Nat.le_refl _, Nat.le_refl _⟩ hl.1 rfl (Nat.le_of_ble_eq_true rfl) dX2_readTable_1 (fun H locs hP hS => ?_)
  obtain ⟨q2, e2, h⟩ := bnd_some h
  refine n_call (As := [.int q1]) (rest := []) (c_X5_isTable l q1 q2 e2) B hN k_X5_isTable (List.mem_of_getElem? (i := 1) rfl) rfl ⟨Nat.le_of_ble_eq_true rfl, Nat.le_of_ble_eq_true rfl⟩ ⟨Nat.le_refl _, Nat.le_refl _⟩ hl.1 rfl (Nat.le_of_ble_eq_true rfl) dX2_readTable_4 ?_
  refine lv_if_ne (tgt := 12) hx hb dX2_readTable_7 (by decide) (fun c3 => ?_) (fun c3 => ?_)
  · have h := ifn c3 h
    refine lv_aload_n hx hb dX2_readTable_12 rfl (lv_at hl 0 rfl) ?_
    refine lv_aload_n hx hb dX2_readTable_13 rfl (lv_at hl 0 rfl) ?_
    obtain ⟨q4, e4, h⟩ := bnd_some h
    refine g_call (As := []) (rest := [.ref (o 0)]) (c_X2_digit l D o ct  r_next r_start r_letter r_tables r_table r_number r_signs r_length q4 e4) B hN hK hDD hA hP hS rfl (va_recv hK hP (ci := 3) (q0 := 0) rfl rfl) k_X2_digit q_23_21 rfl ⟨Nat.le_of_ble_eq_true rfl, Nat.le_of_ble_eq_true rfl⟩ ⟨Nat.le_refl _, Nat.le_refl _⟩ hl.1 rfl (Nat.le_of_ble_eq_true rfl) dX2_readTable_14 (fun H locs hP hS => ?_)
    refine va_put (D := D) (ci := 3) (v := .int q4) (ty := .int) (C := RX2) (T := TX2) (N := 7) hx hb hts inlX2 tyX2 tyX2_ok nmX2 hown hK hP (hDD _ rfl) hS 0 rfl rfl 5 (by decide) (hts _ q_23_1) (fun _ h9 => h9) rfl (by decide +kernel) rfl rfl (Nat.le_of_ble_eq_true rfl) dX2_readTable_17 (fun H locs hP _ hS => ?_)
    have hP : va_P D vwCl (RW o ct r_next r_start r_letter r_tables q4 r_number r_signs r_length) H := hP
    refine lv_aload_n hx hb dX2_readTable_20 rfl (lv_at hl 0 rfl) ?_
    refine lv_dup hx hb dX2_readTable_21 rfl ?_
    refine va_get (D := D) (ci := 3) (v := .int r_next) (C := RX2) (T := TX2) (N := 7) hx hb hts inlX2 hown hK hP 0 rfl rfl 1 (by decide) (hts _ q_22_21) (fun _ h9 => h9) rfl dX2_readTable_22 ?_
    refine lv_iconst (v := (1 : Int32)) hx hb dX2_readTable_25 (by decide) ?_
    refine lv_iadd hx hb dX2_readTable_26 ?_
    refine va_put (D := D) (ci := 3) (v := .int (r_next + (1 : Int32))) (ty := .int) (C := RX2) (T := TX2) (N := 7) hx hb hts inlX2 tyX2 tyX2_ok nmX2 hown hK hP (hDD _ rfl) hS 0 rfl rfl 1 (by decide) (hts _ q_22_21) (fun _ h9 => h9) rfl (by decide +kernel) rfl rfl (Nat.le_of_ble_eq_true rfl) dX2_readTable_27 (fun H locs hP _ hS => ?_)
    have hP : va_P D vwCl (RW o ct (r_next + (1 : Int32)) r_start r_letter r_tables q4 r_number r_signs r_length) H := hP
    refine lv_iconst (v := (1 : Int32)) hx hb dX2_readTable_30 (by decide) ?_
    obtain rfl := Option.some.inj h
    exact hret _ _ _ _ nb1 dX2_readTable_31 hP hS
  · have h := ift c3 h
    refine lv_iconst (v := (0 : Int32)) hx hb dX2_readTable_10 (by decide) ?_
    obtain rfl := Option.some.inj h
    exact hret _ _ _ _ nb0 dX2_readTable_11 hP hS

def f_X2_readTables_L9b  (r_signs : Nat → Int32) (r_length : Int32)  (k9 : Int32 → Int32 → Int32 → Int32 → Int32 → Option (Int32 × (Int32) × (Int32) × (Int32))) (x1 : Int32) (x2 : Int32) (r_next : Int32) (r_tables : Int32) (r_table : Int32) : Option (Int32 × (Int32) × (Int32) × (Int32)) :=
  if (5 : Int32) ≤ x2 then if r_tables ≤ (0 : Int32) then some ((0 : Int32), r_next, r_tables, r_table)
  else some ((1 : Int32), r_next, r_tables, r_table)
  else bnd (f_X2_digit  r_next r_signs r_length) (fun q3 => if q3 < x1 then if r_tables ≤ (0 : Int32) then some ((0 : Int32), r_next, r_tables, r_table)
  else some ((1 : Int32), r_next, r_tables, r_table)
  else bnd (f_X2_readTable  r_next r_table r_signs r_length) (fun q6 => if q6.1 = (0 : Int32) then if r_tables ≤ (0 : Int32) then some ((0 : Int32), q6.2.1, r_tables, q6.2.2)
  else some ((1 : Int32), q6.2.1, r_tables, q6.2.2)
  else bnd (f_X5_bit q6.2.2 ) (fun q8 => k9 (q6.2.2 + (1 : Int32)) (x2 + (1 : Int32)) q6.2.1 (r_tables ||| q8) q6.2.2)))
def f_X2_readTables_L9  (r_signs : Nat → Int32) (r_length : Int32)  : Nat → Int32 → Int32 → Int32 → Int32 → Int32 → Option (Int32 × (Int32) × (Int32) × (Int32))
  | 0 => fun _ _ _ _ _ => none
  | n + 1 => f_X2_readTables_L9b r_signs r_length  (f_X2_readTables_L9 r_signs r_length  n)
def f_X2_readTables  (r_next : Int32) (r_tables : Int32) (r_table : Int32) (r_signs : Nat → Int32) (r_length : Int32) : Option (Int32 × (Int32) × (Int32) × (Int32)) :=
  f_X2_readTables_L9 r_signs r_length  1024 (0 : Int32) (0 : Int32) r_next (0 : Int32) r_table
set_option maxRecDepth 100000 in
set_option maxHeartbeats 4000000 in
theorem c_X2_readTables (l : Launch) (D : va_G) (o : Nat → Nat) (ct : Nat → ClassId)  (r_next : Int32) (r_start : Int32) (r_letter : Int32) (r_tables : Int32) (r_table : Int32) (r_number : Int32) (r_signs : Nat → Int32) (r_length : Int32) (q : Int32 × (Int32) × (Int32) × (Int32)) (h : f_X2_readTables  r_next r_tables r_table r_signs r_length = some q) : CG l yX2_readTables cX2_readTables 3 3 (some .boolean) D (tysK ct) [.ref (o 0)] (some (.int q.1)) (RW o ct r_next r_start r_letter r_tables r_table r_number r_signs r_length) (RW o ct q.2.1 r_start r_letter q.2.2.1 q.2.2.2 r_number r_signs r_length) := by
  refine CG.mkI (by decide) (Nat.le_of_ble_eq_true rfl) ?_
  intro p e s m below meth c Q A B hK hN hDD hA hret hP hS ls hl
  have B0 := B
  obtain ⟨hx, hb, hml, hown, hts⟩ := B0
  have hl : lv_has ls 3 [(0, .ref (o 0))] := hl
  have hL9 : ∀ (n9 : Nat) (x1 : Int32) (x2 : Int32) (r_next : Int32) (r_tables : Int32) (r_table : Int32) (ls : Array Slot) (H : Heap) (locs : List Loc), f_X2_readTables_L9 r_signs r_length  n9 x1 x2 r_next r_tables r_table = some q → va_P D vwCl (RW o ct r_next r_start r_letter r_tables r_table r_number r_signs r_length) H → va_S A s.heap H locs → lv_has ls 3 [(0, .ref (o 0)), (1, .int x1), (2, .int x2)] → W p l e (rmF 3 0 0) s m ([.ref (o 0)] : List Value).toArray below meth c H locs 0 0 Q (F0 m 9 ls []) := by
    intro n9
    induction n9 with
    | zero =>
      intro x1 x2 r_next r_tables r_table ls H locs h
      exact absurd (show (none : Option (Int32 × (Int32) × (Int32) × (Int32))) = some q from h) (by intro h; cases h)
    | succ n9 ih9 =>
      intro x1 x2 r_next r_tables r_table ls H locs h hP hS hl
      have h : f_X2_readTables_L9b r_signs r_length  (f_X2_readTables_L9 r_signs r_length  n9) x1 x2 r_next r_tables r_table = some q := h
      unfold f_X2_readTables_L9b at h
      refine lv_iload_n hx hb dX2_readTables_9 rfl (lv_at hl 2 rfl) ?_
      refine lv_iconst (v := (5 : Int32)) hx hb dX2_readTables_10 (by decide) ?_
      refine lv_icmp_ge (tgt := 61) hx hb dX2_readTables_11 (by decide) (fun c1 => ?_) (fun c1 => ?_)
      · have h := ift c1 h
        refine lv_aload_n hx hb dX2_readTables_61 rfl (lv_at hl 0 rfl) ?_
        refine va_get (D := D) (ci := 3) (v := .int r_tables) (C := RX2) (T := TX2) (N := 7) hx hb hts inlX2 hown hK hP 0 rfl rfl 4 (by decide) (hts _ q_23_0) (fun _ h9 => h9) rfl dX2_readTables_62 ?_
        refine lv_if_le (tgt := 72) hx hb dX2_readTables_65 (by decide) (fun c2 => ?_) (fun c2 => ?_)
        · have h := ift c2 h
          refine lv_iconst (v := (0 : Int32)) hx hb dX2_readTables_72 (by decide) ?_
          obtain rfl := Option.some.inj h
          exact hret _ _ _ _ nb0 dX2_readTables_73 hP hS
        · have h := ifn c2 h
          refine lv_iconst (v := (1 : Int32)) hx hb dX2_readTables_68 (by decide) ?_
          refine lv_goto (tgt := 73) hx hb dX2_readTables_69 (by decide) ?_
          obtain rfl := Option.some.inj h
          exact hret _ _ _ _ nb1 dX2_readTables_73 hP hS
      · have h := ifn c1 h
        refine lv_aload_n hx hb dX2_readTables_14 rfl (lv_at hl 0 rfl) ?_
        obtain ⟨q3, e3, h⟩ := bnd_some h
        refine g_call (As := []) (rest := []) (c_X2_digit l D o ct  r_next r_start r_letter r_tables r_table r_number r_signs r_length q3 e3) B hN hK hDD hA hP hS rfl (va_recv hK hP (ci := 3) (q0 := 0) rfl rfl) k_X2_digit q_23_21 rfl ⟨Nat.le_of_ble_eq_true rfl, Nat.le_of_ble_eq_true rfl⟩ ⟨Nat.le_refl _, Nat.le_refl _⟩ hl.1 rfl (Nat.le_of_ble_eq_true rfl) dX2_readTables_15 (fun H locs hP hS => ?_)
        refine lv_iload_n hx hb dX2_readTables_18 rfl (lv_at hl 1 rfl) ?_
        refine lv_icmp_lt (tgt := 61) hx hb dX2_readTables_19 (by decide) (fun c4 => ?_) (fun c4 => ?_)
        · have h := ift c4 h
          refine lv_aload_n hx hb dX2_readTables_61 rfl (lv_at hl 0 rfl) ?_
          refine va_get (D := D) (ci := 3) (v := .int r_tables) (C := RX2) (T := TX2) (N := 7) hx hb hts inlX2 hown hK hP 0 rfl rfl 4 (by decide) (hts _ q_23_0) (fun _ h9 => h9) rfl dX2_readTables_62 ?_
          refine lv_if_le (tgt := 72) hx hb dX2_readTables_65 (by decide) (fun c5 => ?_) (fun c5 => ?_)
          · have h := ift c5 h
            refine lv_iconst (v := (0 : Int32)) hx hb dX2_readTables_72 (by decide) ?_
            obtain rfl := Option.some.inj h
            exact hret _ _ _ _ nb0 dX2_readTables_73 hP hS
          · have h := ifn c5 h
            refine lv_iconst (v := (1 : Int32)) hx hb dX2_readTables_68 (by decide) ?_
            refine lv_goto (tgt := 73) hx hb dX2_readTables_69 (by decide) ?_
            obtain rfl := Option.some.inj h
            exact hret _ _ _ _ nb1 dX2_readTables_73 hP hS
        · have h := ifn c4 h
          refine lv_aload_n hx hb dX2_readTables_22 rfl (lv_at hl 0 rfl) ?_
          obtain ⟨q6, e6, h⟩ := bnd_some h
          refine g_call (As := []) (rest := []) (c_X2_readTable l D o ct  r_next r_start r_letter r_tables r_table r_number r_signs r_length q6 e6) B hN hK hDD hA hP hS rfl (va_recv hK hP (ci := 3) (q0 := 0) rfl rfl) k_X2_readTable q_24_1 rfl ⟨Nat.le_of_ble_eq_true rfl, Nat.le_of_ble_eq_true rfl⟩ ⟨Nat.le_refl _, Nat.le_refl _⟩ hl.1 rfl (Nat.le_of_ble_eq_true rfl) dX2_readTables_23 (fun H locs hP hS => ?_)
          refine lv_if_ne (tgt := 32) hx hb dX2_readTables_26 (by decide) (fun c7 => ?_) (fun c7 => ?_)
          · have h := ifn c7 h
            refine lv_aload_n hx hb dX2_readTables_32 rfl (lv_at hl 0 rfl) ?_
            refine lv_dup hx hb dX2_readTables_33 rfl ?_
            refine va_get (D := D) (ci := 3) (v := .int r_tables) (C := RX2) (T := TX2) (N := 7) hx hb hts inlX2 hown hK hP 0 rfl rfl 4 (by decide) (hts _ q_23_0) (fun _ h9 => h9) rfl dX2_readTables_34 ?_
            refine lv_aload_n hx hb dX2_readTables_37 rfl (lv_at hl 0 rfl) ?_
            refine va_get (D := D) (ci := 3) (v := .int q6.2.2) (C := RX2) (T := TX2) (N := 7) hx hb hts inlX2 hown hK hP 0 rfl rfl 5 (by decide) (hts _ q_23_1) (fun _ h9 => h9) rfl dX2_readTables_38 ?_
            obtain ⟨q8, e8, h⟩ := bnd_some h
            refine n_call (As := [.int q6.2.2]) (rest := [.int r_tables, .ref (o 0)]) (c_X5_bit l q6.2.2 q8 e8) B hN k_X5_bit (List.mem_of_getElem? (i := 2) rfl) rfl ⟨Nat.le_of_ble_eq_true rfl, Nat.le_of_ble_eq_true rfl⟩ ⟨Nat.le_refl _, Nat.le_refl _⟩ hl.1 rfl (Nat.le_of_ble_eq_true rfl) dX2_readTables_41 ?_
            refine lv_ior hx hb dX2_readTables_44 ?_
            refine va_put (D := D) (ci := 3) (v := .int (r_tables ||| q8)) (ty := .int) (C := RX2) (T := TX2) (N := 7) hx hb hts inlX2 tyX2 tyX2_ok nmX2 hown hK hP (hDD _ rfl) hS 0 rfl rfl 4 (by decide) (hts _ q_23_0) (fun _ h9 => h9) rfl (by decide +kernel) rfl rfl (Nat.le_of_ble_eq_true rfl) dX2_readTables_45 (fun H locs hP _ hS => ?_)
            have hP : va_P D vwCl (RW o ct q6.2.1 r_start r_letter (r_tables ||| q8) q6.2.2 r_number r_signs r_length) H := hP
            refine lv_aload_n hx hb dX2_readTables_48 rfl (lv_at hl 0 rfl) ?_
            refine va_get (D := D) (ci := 3) (v := .int q6.2.2) (C := RX2) (T := TX2) (N := 7) hx hb hts inlX2 hown hK hP 0 rfl rfl 5 (by decide) (hts _ q_23_1) (fun _ h9 => h9) rfl dX2_readTables_49 ?_
            refine lv_iconst (v := (1 : Int32)) hx hb dX2_readTables_52 (by decide) ?_
            refine lv_iadd hx hb dX2_readTables_53 ?_
            refine lv_istore_n (lv' := [(1, .int (q6.2.2 + (1 : Int32))), (0, .ref (o 0)), (2, .int x2)]) hx hb dX2_readTables_54 rfl hl (by decide) rfl (fun ls hl => ?_)
            refine lv_iinc (v := (x2 + (1 : Int32))) (lv' := [(2, .int (x2 + (1 : Int32))), (1, .int (q6.2.2 + (1 : Int32))), (0, .ref (o 0))]) hx hb dX2_readTables_55 hl (k := 2) rfl (congrArg (HAdd.hAdd x2) (by decide)) (by decide) rfl (fun ls hl => ?_)
            refine lv_goto (tgt := 9) hx hb dX2_readTables_58 (by decide) ?_
            exact ih9 (q6.2.2 + (1 : Int32)) (x2 + (1 : Int32)) q6.2.1 (r_tables ||| q8) q6.2.2 _ _ _ h hP hS (lv_sub hl [2, 1, 0] rfl)
          · have h := ift c7 h
            refine lv_goto (tgt := 61) hx hb dX2_readTables_29 (by decide) ?_
            refine lv_aload_n hx hb dX2_readTables_61 rfl (lv_at hl 0 rfl) ?_
            refine va_get (D := D) (ci := 3) (v := .int r_tables) (C := RX2) (T := TX2) (N := 7) hx hb hts inlX2 hown hK hP 0 rfl rfl 4 (by decide) (hts _ q_23_0) (fun _ h9 => h9) rfl dX2_readTables_62 ?_
            refine lv_if_le (tgt := 72) hx hb dX2_readTables_65 (by decide) (fun c9 => ?_) (fun c9 => ?_)
            · have h := ift c9 h
              refine lv_iconst (v := (0 : Int32)) hx hb dX2_readTables_72 (by decide) ?_
              obtain rfl := Option.some.inj h
              exact hret _ _ _ _ nb0 dX2_readTables_73 hP hS
            · have h := ifn c9 h
              refine lv_iconst (v := (1 : Int32)) hx hb dX2_readTables_68 (by decide) ?_
              refine lv_goto (tgt := 73) hx hb dX2_readTables_69 (by decide) ?_
              obtain rfl := Option.some.inj h
              exact hret _ _ _ _ nb1 dX2_readTables_73 hP hS
  unfold f_X2_readTables at h
  refine lv_aload_n hx hb dX2_readTables_0 rfl (lv_at hl 0 rfl) ?_
  refine lv_iconst (v := (0 : Int32)) hx hb dX2_readTables_1 (by decide) ?_
  refine va_put (D := D) (ci := 3) (v := .int (0 : Int32)) (ty := .int) (C := RX2) (T := TX2) (N := 7) hx hb hts inlX2 tyX2 tyX2_ok nmX2 hown hK hP (hDD _ rfl) hS 0 rfl rfl 4 (by decide) (hts _ q_23_0) (fun _ h9 => h9) rfl (by decide +kernel) rfl rfl (Nat.le_of_ble_eq_true rfl) dX2_readTables_2 (fun H locs hP _ hS => ?_)
  have hP : va_P D vwCl (RW o ct r_next r_start r_letter (0 : Int32) r_table r_number r_signs r_length) H := hP
  refine lv_iconst (v := (0 : Int32)) hx hb dX2_readTables_5 (by decide) ?_
  refine lv_istore_n (lv' := [(1, .int (0 : Int32)), (0, .ref (o 0))]) hx hb dX2_readTables_6 rfl hl (by decide) rfl (fun ls hl => ?_)
  refine lv_iconst (v := (0 : Int32)) hx hb dX2_readTables_7 (by decide) ?_
  refine lv_istore_n (lv' := [(2, .int (0 : Int32)), (1, .int (0 : Int32)), (0, .ref (o 0))]) hx hb dX2_readTables_8 rfl hl (by decide) rfl (fun ls hl => ?_)
  exact hL9 1024 (0 : Int32) (0 : Int32) r_next (0 : Int32) r_table _ _ _ h hP hS (lv_sub hl [2, 1, 0] rfl)

def f_X2_readSign (a1 : Int32) (r_next : Int32) (r_signs : Nat → Int32) (r_length : Int32) : Option (Int32 × (Int32)) :=
  bnd (f_X1_signAt r_next r_signs r_length) (fun q1 => if q1 = a1 then some ((1 : Int32), (r_next + (1 : Int32)))
  else some ((0 : Int32), r_next))
set_option maxRecDepth 100000 in
set_option maxHeartbeats 4000000 in
theorem c_X2_readSign (l : Launch) (D : va_G) (o : Nat → Nat) (ct : Nat → ClassId) (a1 : Int32) (r_next : Int32) (r_start : Int32) (r_letter : Int32) (r_tables : Int32) (r_table : Int32) (r_number : Int32) (r_signs : Nat → Int32) (r_length : Int32) (q : Int32 × (Int32)) (h : f_X2_readSign a1 r_next r_signs r_length = some q) : CG l yX2_readSign cX2_readSign 2 1 (some .boolean) D (tysK ct) [.ref (o 0), .int a1] (some (.int q.1)) (RW o ct r_next r_start r_letter r_tables r_table r_number r_signs r_length) (RW o ct q.2 r_start r_letter r_tables r_table r_number r_signs r_length) := by
  refine CG.mkI (by decide) (Nat.le_of_ble_eq_true rfl) ?_
  intro p e s m below meth c Q A B hK hN hDD hA hret hP hS ls hl
  have B0 := B
  obtain ⟨hx, hb, hml, hown, hts⟩ := B0
  have hl : lv_has ls 2 [(0, .ref (o 0)), (1, .int a1)] := hl
  unfold f_X2_readSign at h
  refine lv_aload_n hx hb dX2_readSign_0 rfl (lv_at hl 0 rfl) ?_
  refine va_get (D := D) (ci := 3) (v := .ref (o 1)) (C := RX2) (T := TX2) (N := 7) hx hb hts inlX2 hown hK hP 0 rfl rfl 0 (by decide) (hts _ q_23_3) (fun _ h9 => h9) rfl dX2_readSign_1 ?_
  refine lv_aload_n hx hb dX2_readSign_4 rfl (lv_at hl 0 rfl) ?_
  refine va_get (D := D) (ci := 3) (v := .int r_next) (C := RX2) (T := TX2) (N := 7) hx hb hts inlX2 hown hK hP 0 rfl rfl 1 (by decide) (hts _ q_22_21) (fun _ h9 => h9) rfl dX2_readSign_5 ?_
  obtain ⟨q1, e1, h⟩ := bnd_some h
  refine g_call (As := [.int r_next]) (rest := []) (c_X1_signAt l D o ct r_next r_next r_start r_letter r_tables r_table r_number r_signs r_length q1 e1) B hN hK hDD hA hP hS rfl (va_recv hK hP (ci := 2) (q0 := 1) rfl rfl) k_X1_signAt q_23_13 rfl ⟨Nat.le_of_ble_eq_true rfl, Nat.le_of_ble_eq_true rfl⟩ ⟨Nat.le_refl _, Nat.le_refl _⟩ hl.1 rfl (Nat.le_of_ble_eq_true rfl) dX2_readSign_8 (fun H locs hP hS => ?_)
  refine lv_iload_n hx hb dX2_readSign_11 rfl (lv_at hl 1 rfl) ?_
  refine lv_icmp_eq (tgt := 17) hx hb dX2_readSign_12 (by decide) (fun c2 => ?_) (fun c2 => ?_)
  · have h := ift c2 h
    refine lv_aload_n hx hb dX2_readSign_17 rfl (lv_at hl 0 rfl) ?_
    refine lv_dup hx hb dX2_readSign_18 rfl ?_
    refine va_get (D := D) (ci := 3) (v := .int r_next) (C := RX2) (T := TX2) (N := 7) hx hb hts inlX2 hown hK hP 0 rfl rfl 1 (by decide) (hts _ q_22_21) (fun _ h9 => h9) rfl dX2_readSign_19 ?_
    refine lv_iconst (v := (1 : Int32)) hx hb dX2_readSign_22 (by decide) ?_
    refine lv_iadd hx hb dX2_readSign_23 ?_
    refine va_put (D := D) (ci := 3) (v := .int (r_next + (1 : Int32))) (ty := .int) (C := RX2) (T := TX2) (N := 7) hx hb hts inlX2 tyX2 tyX2_ok nmX2 hown hK hP (hDD _ rfl) hS 0 rfl rfl 1 (by decide) (hts _ q_22_21) (fun _ h9 => h9) rfl (by decide +kernel) rfl rfl (Nat.le_of_ble_eq_true rfl) dX2_readSign_24 (fun H locs hP _ hS => ?_)
    have hP : va_P D vwCl (RW o ct (r_next + (1 : Int32)) r_start r_letter r_tables r_table r_number r_signs r_length) H := hP
    refine lv_iconst (v := (1 : Int32)) hx hb dX2_readSign_27 (by decide) ?_
    obtain rfl := Option.some.inj h
    exact hret _ _ _ _ nb1 dX2_readSign_28 hP hS
  · have h := ifn c2 h
    refine lv_iconst (v := (0 : Int32)) hx hb dX2_readSign_15 (by decide) ?_
    obtain rfl := Option.some.inj h
    exact hret _ _ _ _ nb0 dX2_readSign_16 hP hS

def f_X2_readNumber_J77  (r_signs : Nat → Int32) (r_length : Int32)  (r_next : Int32) (r_number : Int32) : Option (Int32 × (Int32) × (Int32)) :=
  if r_number ≤ (0 : Int32) then some ((0 : Int32), r_next, r_number)
  else some ((1 : Int32), r_next, r_number)
def f_X2_readNumber_L7b  (r_signs : Nat → Int32) (r_length : Int32)  (k7 : Int32 → Int32 → Int32 → Option (Int32 × (Int32) × (Int32))) (x1 : Int32) (r_next : Int32) (r_number : Int32) : Option (Int32 × (Int32) × (Int32)) :=
  if (3 : Int32) ≤ x1 then f_X2_readNumber_J77 r_signs r_length  r_next r_number
  else bnd (f_X2_digit  r_next r_signs r_length) (fun q3 => bnd (f_X2_digit  r_next r_signs r_length) (fun q4 => if q4 < (0 : Int32) then f_X2_readNumber_J77 r_signs r_length  r_next r_number
  else bnd (f_X2_digit  r_next r_signs r_length) (fun q6 => if (9 : Int32) < q6 then f_X2_readNumber_J77 r_signs r_length  r_next r_number
  else if ((r_number * (10 : Int32)) + q3) < (1 : Int32) then f_X2_readNumber_J77 r_signs r_length  r_next r_number
  else if ((r_number * (10 : Int32)) + q3) ≤ (500 : Int32) then k7 (x1 + (1 : Int32)) (r_next + (1 : Int32)) ((r_number * (10 : Int32)) + q3)
  else f_X2_readNumber_J77 r_signs r_length  r_next r_number)))
def f_X2_readNumber_L7  (r_signs : Nat → Int32) (r_length : Int32)  : Nat → Int32 → Int32 → Int32 → Option (Int32 × (Int32) × (Int32))
  | 0 => fun _ _ _ => none
  | n + 1 => f_X2_readNumber_L7b r_signs r_length  (f_X2_readNumber_L7 r_signs r_length  n)
def f_X2_readNumber  (r_next : Int32) (r_number : Int32) (r_signs : Nat → Int32) (r_length : Int32) : Option (Int32 × (Int32) × (Int32)) :=
  f_X2_readNumber_L7 r_signs r_length  1024 (0 : Int32) r_next (0 : Int32)
set_option maxRecDepth 100000 in
set_option maxHeartbeats 4000000 in
theorem c_X2_readNumber (l : Launch) (D : va_G) (o : Nat → Nat) (ct : Nat → ClassId)  (r_next : Int32) (r_start : Int32) (r_letter : Int32) (r_tables : Int32) (r_table : Int32) (r_number : Int32) (r_signs : Nat → Int32) (r_length : Int32) (q : Int32 × (Int32) × (Int32)) (h : f_X2_readNumber  r_next r_number r_signs r_length = some q) : CG l yX2_readNumber cX2_readNumber 3 2 (some .boolean) D (tysK ct) [.ref (o 0)] (some (.int q.1)) (RW o ct r_next r_start r_letter r_tables r_table r_number r_signs r_length) (RW o ct q.2.1 r_start r_letter r_tables r_table q.2.2 r_signs r_length) := by
  refine CG.mkI (by decide) (Nat.le_of_ble_eq_true rfl) ?_
  intro p e s m below meth c Q A B hK hN hDD hA hret hP hS ls hl
  have B0 := B
  obtain ⟨hx, hb, hml, hown, hts⟩ := B0
  have hl : lv_has ls 3 [(0, .ref (o 0))] := hl
  have hJ77 : ∀ (r_next : Int32) (r_number : Int32) (ls : Array Slot) (H : Heap) (locs : List Loc), f_X2_readNumber_J77 r_signs r_length  r_next r_number = some q → va_P D vwCl (RW o ct r_next r_start r_letter r_tables r_table r_number r_signs r_length) H → va_S A s.heap H locs → lv_has ls 3 [(0, .ref (o 0))] → W p l e (rmF 2 0 0) s m ([.ref (o 0)] : List Value).toArray below meth c H locs 0 0 Q (F0 m 77 ls []) := by
    intro r_next r_number ls H locs h hP hS hl
    unfold f_X2_readNumber_J77 at h
    refine lv_aload_n hx hb dX2_readNumber_77 rfl (lv_at hl 0 rfl) ?_
    refine va_get (D := D) (ci := 3) (v := .int r_number) (C := RX2) (T := TX2) (N := 7) hx hb hts inlX2 hown hK hP 0 rfl rfl 6 (by decide) (hts _ q_23_2) (fun _ h9 => h9) rfl dX2_readNumber_78 ?_
    refine lv_if_le (tgt := 88) hx hb dX2_readNumber_81 (by decide) (fun c2 => ?_) (fun c2 => ?_)
    · have h := ift c2 h
      refine lv_iconst (v := (0 : Int32)) hx hb dX2_readNumber_88 (by decide) ?_
      obtain rfl := Option.some.inj h
      exact hret _ _ _ _ nb0 dX2_readNumber_89 hP hS
    · have h := ifn c2 h
      refine lv_iconst (v := (1 : Int32)) hx hb dX2_readNumber_84 (by decide) ?_
      refine lv_goto (tgt := 89) hx hb dX2_readNumber_85 (by decide) ?_
      obtain rfl := Option.some.inj h
      exact hret _ _ _ _ nb1 dX2_readNumber_89 hP hS
  have hL7 : ∀ (n7 : Nat) (x1 : Int32) (r_next : Int32) (r_number : Int32) (ls : Array Slot) (H : Heap) (locs : List Loc), f_X2_readNumber_L7 r_signs r_length  n7 x1 r_next r_number = some q → va_P D vwCl (RW o ct r_next r_start r_letter r_tables r_table r_number r_signs r_length) H → va_S A s.heap H locs → lv_has ls 3 [(0, .ref (o 0)), (1, .int x1)] → W p l e (rmF 2 0 0) s m ([.ref (o 0)] : List Value).toArray below meth c H locs 0 0 Q (F0 m 7 ls []) := by
    intro n7
    induction n7 with
    | zero =>
      intro x1 r_next r_number ls H locs h
      exact absurd (show (none : Option (Int32 × (Int32) × (Int32))) = some q from h) (by intro h; cases h)
    | succ n7 ih7 =>
      intro x1 r_next r_number ls H locs h hP hS hl
      have h : f_X2_readNumber_L7b r_signs r_length  (f_X2_readNumber_L7 r_signs r_length  n7) x1 r_next r_number = some q := h
      unfold f_X2_readNumber_L7b at h
      refine lv_iload_n hx hb dX2_readNumber_7 rfl (lv_at hl 1 rfl) ?_
      refine lv_iconst (v := (3 : Int32)) hx hb dX2_readNumber_8 (by decide) ?_
      refine lv_icmp_ge (tgt := 77) hx hb dX2_readNumber_9 (by decide) (fun c1 => ?_) (fun c1 => ?_)
      · have h := ift c1 h
        exact hJ77 r_next r_number _ _ _ h hP hS (lv_sub hl [0] rfl)
      · have h := ifn c1 h
        refine lv_aload_n hx hb dX2_readNumber_12 rfl (lv_at hl 0 rfl) ?_
        refine va_get (D := D) (ci := 3) (v := .int r_number) (C := RX2) (T := TX2) (N := 7) hx hb hts inlX2 hown hK hP 0 rfl rfl 6 (by decide) (hts _ q_23_2) (fun _ h9 => h9) rfl dX2_readNumber_13 ?_
        refine lv_bipush (v := (10 : Int32)) hx hb dX2_readNumber_16 (by decide) ?_
        refine lv_imul hx hb dX2_readNumber_18 ?_
        refine lv_aload_n hx hb dX2_readNumber_19 rfl (lv_at hl 0 rfl) ?_
        obtain ⟨q3, e3, h⟩ := bnd_some h
        refine g_call (As := []) (rest := [.int (r_number * (10 : Int32))]) (c_X2_digit l D o ct  r_next r_start r_letter r_tables r_table r_number r_signs r_length q3 e3) B hN hK hDD hA hP hS rfl (va_recv hK hP (ci := 3) (q0 := 0) rfl rfl) k_X2_digit q_23_21 rfl ⟨Nat.le_of_ble_eq_true rfl, Nat.le_of_ble_eq_true rfl⟩ ⟨Nat.le_refl _, Nat.le_refl _⟩ hl.1 rfl (Nat.le_of_ble_eq_true rfl) dX2_readNumber_20 (fun H locs hP hS => ?_)
        refine lv_iadd hx hb dX2_readNumber_23 ?_
        refine lv_istore_n (lv' := [(2, .int ((r_number * (10 : Int32)) + q3)), (0, .ref (o 0)), (1, .int x1)]) hx hb dX2_readNumber_24 rfl hl (by decide) rfl (fun ls hl => ?_)
        refine lv_aload_n hx hb dX2_readNumber_25 rfl (lv_at hl 1 rfl) ?_
        obtain ⟨q4, e4, h⟩ := bnd_some h
        refine g_call (As := []) (rest := []) (c_X2_digit l D o ct  r_next r_start r_letter r_tables r_table r_number r_signs r_length q4 e4) B hN hK hDD hA hP hS rfl (va_recv hK hP (ci := 3) (q0 := 0) rfl rfl) k_X2_digit q_23_21 rfl ⟨Nat.le_of_ble_eq_true rfl, Nat.le_of_ble_eq_true rfl⟩ ⟨Nat.le_refl _, Nat.le_refl _⟩ hl.1 rfl (Nat.le_of_ble_eq_true rfl) dX2_readNumber_26 (fun H locs hP hS => ?_)
        refine lv_if_lt (tgt := 77) hx hb dX2_readNumber_29 (by decide) (fun c5 => ?_) (fun c5 => ?_)
        · have h := ift c5 h
          exact hJ77 r_next r_number _ _ _ h hP hS (lv_sub hl [1] rfl)
        · have h := ifn c5 h
          refine lv_aload_n hx hb dX2_readNumber_32 rfl (lv_at hl 1 rfl) ?_
          obtain ⟨q6, e6, h⟩ := bnd_some h
          refine g_call (As := []) (rest := []) (c_X2_digit l D o ct  r_next r_start r_letter r_tables r_table r_number r_signs r_length q6 e6) B hN hK hDD hA hP hS rfl (va_recv hK hP (ci := 3) (q0 := 0) rfl rfl) k_X2_digit q_23_21 rfl ⟨Nat.le_of_ble_eq_true rfl, Nat.le_of_ble_eq_true rfl⟩ ⟨Nat.le_refl _, Nat.le_refl _⟩ hl.1 rfl (Nat.le_of_ble_eq_true rfl) dX2_readNumber_33 (fun H locs hP hS => ?_)
          refine lv_bipush (v := (9 : Int32)) hx hb dX2_readNumber_36 (by decide) ?_
          refine lv_icmp_gt (tgt := 77) hx hb dX2_readNumber_38 (by decide) (fun c7 => ?_) (fun c7 => ?_)
          · have h := ift c7 h
            exact hJ77 r_next r_number _ _ _ h hP hS (lv_sub hl [1] rfl)
          · have h := ifn c7 h
            refine lv_iload_n hx hb dX2_readNumber_41 rfl (lv_at hl 0 rfl) ?_
            refine lv_iconst (v := (1 : Int32)) hx hb dX2_readNumber_42 (by decide) ?_
            refine lv_icmp_lt (tgt := 77) hx hb dX2_readNumber_43 (by decide) (fun c8 => ?_) (fun c8 => ?_)
            · have h := ift c8 h
              exact hJ77 r_next r_number _ _ _ h hP hS (lv_sub hl [1] rfl)
            · have h := ifn c8 h
              refine lv_iload_n hx hb dX2_readNumber_46 rfl (lv_at hl 0 rfl) ?_
              refine lv_sipush (v := (500 : Int32)) hx hb dX2_readNumber_47 (by decide) ?_
              refine lv_icmp_le (tgt := 56) hx hb dX2_readNumber_50 (by decide) (fun c9 => ?_) (fun c9 => ?_)
              · have h := ift c9 h
                refine lv_aload_n hx hb dX2_readNumber_56 rfl (lv_at hl 1 rfl) ?_
                refine lv_iload_n hx hb dX2_readNumber_57 rfl (lv_at hl 0 rfl) ?_
                refine va_put (D := D) (ci := 3) (v := .int ((r_number * (10 : Int32)) + q3)) (ty := .int) (C := RX2) (T := TX2) (N := 7) hx hb hts inlX2 tyX2 tyX2_ok nmX2 hown hK hP (hDD _ rfl) hS 0 rfl rfl 6 (by decide) (hts _ q_23_2) (fun _ h9 => h9) rfl (by decide +kernel) rfl rfl (Nat.le_of_ble_eq_true rfl) dX2_readNumber_58 (fun H locs hP _ hS => ?_)
                have hP : va_P D vwCl (RW o ct r_next r_start r_letter r_tables r_table ((r_number * (10 : Int32)) + q3) r_signs r_length) H := hP
                refine lv_aload_n hx hb dX2_readNumber_61 rfl (lv_at hl 1 rfl) ?_
                refine lv_dup hx hb dX2_readNumber_62 rfl ?_
                refine va_get (D := D) (ci := 3) (v := .int r_next) (C := RX2) (T := TX2) (N := 7) hx hb hts inlX2 hown hK hP 0 rfl rfl 1 (by decide) (hts _ q_22_21) (fun _ h9 => h9) rfl dX2_readNumber_63 ?_
                refine lv_iconst (v := (1 : Int32)) hx hb dX2_readNumber_66 (by decide) ?_
                refine lv_iadd hx hb dX2_readNumber_67 ?_
                refine va_put (D := D) (ci := 3) (v := .int (r_next + (1 : Int32))) (ty := .int) (C := RX2) (T := TX2) (N := 7) hx hb hts inlX2 tyX2 tyX2_ok nmX2 hown hK hP (hDD _ rfl) hS 0 rfl rfl 1 (by decide) (hts _ q_22_21) (fun _ h9 => h9) rfl (by decide +kernel) rfl rfl (Nat.le_of_ble_eq_true rfl) dX2_readNumber_68 (fun H locs hP _ hS => ?_)
                have hP : va_P D vwCl (RW o ct (r_next + (1 : Int32)) r_start r_letter r_tables r_table ((r_number * (10 : Int32)) + q3) r_signs r_length) H := hP
                refine lv_iinc (v := (x1 + (1 : Int32))) (lv' := [(1, .int (x1 + (1 : Int32))), (2, .int ((r_number * (10 : Int32)) + q3)), (0, .ref (o 0))]) hx hb dX2_readNumber_71 hl (k := 2) rfl (congrArg (HAdd.hAdd x1) (by decide)) (by decide) rfl (fun ls hl => ?_)
                refine lv_goto (tgt := 7) hx hb dX2_readNumber_74 (by decide) ?_
                exact ih7 (x1 + (1 : Int32)) (r_next + (1 : Int32)) ((r_number * (10 : Int32)) + q3) _ _ _ h hP hS (lv_sub hl [2, 0] rfl)
              · have h := ifn c9 h
                refine lv_goto (tgt := 77) hx hb dX2_readNumber_53 (by decide) ?_
                exact hJ77 r_next r_number _ _ _ h hP hS (lv_sub hl [1] rfl)
  unfold f_X2_readNumber at h
  refine lv_aload_n hx hb dX2_readNumber_0 rfl (lv_at hl 0 rfl) ?_
  refine lv_iconst (v := (0 : Int32)) hx hb dX2_readNumber_1 (by decide) ?_
  refine va_put (D := D) (ci := 3) (v := .int (0 : Int32)) (ty := .int) (C := RX2) (T := TX2) (N := 7) hx hb hts inlX2 tyX2 tyX2_ok nmX2 hown hK hP (hDD _ rfl) hS 0 rfl rfl 6 (by decide) (hts _ q_23_2) (fun _ h9 => h9) rfl (by decide +kernel) rfl rfl (Nat.le_of_ble_eq_true rfl) dX2_readNumber_2 (fun H locs hP _ hS => ?_)
  have hP : va_P D vwCl (RW o ct r_next r_start r_letter r_tables r_table (0 : Int32) r_signs r_length) H := hP
  refine lv_iconst (v := (0 : Int32)) hx hb dX2_readNumber_5 (by decide) ?_
  refine lv_istore_n (lv' := [(1, .int (0 : Int32)), (0, .ref (o 0))]) hx hb dX2_readNumber_6 rfl hl (by decide) rfl (fun ls hl => ?_)
  exact hL7 1024 (0 : Int32) r_next (0 : Int32) _ _ _ h hP hS (lv_sub hl [1, 0] rfl)

def f_X2_readDeed  (r_next : Int32) (r_start : Int32) (r_letter : Int32) (r_tables : Int32) (r_table : Int32) (r_number : Int32) (r_signs : Nat → Int32) (r_length : Int32) : Option (Int32 × (Int32) × (Int32) × (Int32) × (Int32) × (Int32) × (Int32)) :=
  bnd (f_X1_signAt r_next r_signs r_length) (fun q1 => grd (isC q1) (if q1 = (99 : Int32) then bnd (f_X2_readTable  (r_next + (1 : Int32)) r_table r_signs r_length) (fun q4 => grd (isB q4.1) (some (q4.1, q4.2.1, r_next, q1, r_tables, q4.2.2, r_number)))
  else if q1 = (112 : Int32) then bnd (f_X2_readTables  (r_next + (1 : Int32)) r_tables r_table r_signs r_length) (fun q7 => grd (isB q7.1) (some (q7.1, q7.2.1, r_next, q1, q7.2.2.1, q7.2.2.2, r_number)))
  else if q1 = (113 : Int32) then bnd (f_X2_readTables  (r_next + (1 : Int32)) r_tables r_table r_signs r_length) (fun q10 => grd (isB q10.1) (some (q10.1, q10.2.1, r_next, q1, q10.2.2.1, q10.2.2.2, r_number)))
  else if q1 = (114 : Int32) then bnd (f_X2_readTable  (r_next + (1 : Int32)) r_table r_signs r_length) (fun q13 => if q13.1 = (0 : Int32) then some ((0 : Int32), q13.2.1, r_next, q1, r_tables, q13.2.2, r_number)
  else bnd (f_X2_readSign (61 : Int32) q13.2.1 r_signs r_length) (fun q15 => if q15.1 = (0 : Int32) then some ((0 : Int32), q15.2, r_next, q1, r_tables, q13.2.2, r_number)
  else bnd (f_X2_readNumber  q15.2 r_number r_signs r_length) (fun q17 => if q17.1 = (0 : Int32) then some ((0 : Int32), q17.2.1, r_next, q1, r_tables, q13.2.2, q17.2.2)
  else some ((1 : Int32), q17.2.1, r_next, q1, r_tables, q13.2.2, q17.2.2))))
  else some ((0 : Int32), r_next, r_next, q1, r_tables, r_table, r_number)))
set_option maxRecDepth 100000 in
set_option maxHeartbeats 4000000 in
theorem c_X2_readDeed (l : Launch) (D : va_G) (o : Nat → Nat) (ct : Nat → ClassId)  (r_next : Int32) (r_start : Int32) (r_letter : Int32) (r_tables : Int32) (r_table : Int32) (r_number : Int32) (r_signs : Nat → Int32) (r_length : Int32) (q : Int32 × (Int32) × (Int32) × (Int32) × (Int32) × (Int32) × (Int32)) (h : f_X2_readDeed  r_next r_start r_letter r_tables r_table r_number r_signs r_length = some q) : CG l yX2_readDeed cX2_readDeed 1 4 (some .boolean) D (tysK ct) [.ref (o 0)] (some (.int q.1)) (RW o ct r_next r_start r_letter r_tables r_table r_number r_signs r_length) (RW o ct q.2.1 q.2.2.1 q.2.2.2.1 q.2.2.2.2.1 q.2.2.2.2.2.1 q.2.2.2.2.2.2 r_signs r_length) := by
  refine CG.mkI (by decide) (Nat.le_of_ble_eq_true rfl) ?_
  intro p e s m below meth c Q A B hK hN hDD hA hret hP hS ls hl
  have B0 := B
  obtain ⟨hx, hb, hml, hown, hts⟩ := B0
  have hl : lv_has ls 1 [(0, .ref (o 0))] := hl
  unfold f_X2_readDeed at h
  refine lv_aload_n hx hb dX2_readDeed_0 rfl (lv_at hl 0 rfl) ?_
  refine lv_aload_n hx hb dX2_readDeed_1 rfl (lv_at hl 0 rfl) ?_
  refine va_get (D := D) (ci := 3) (v := .int r_next) (C := RX2) (T := TX2) (N := 7) hx hb hts inlX2 hown hK hP 0 rfl rfl 1 (by decide) (hts _ q_22_21) (fun _ h9 => h9) rfl dX2_readDeed_2 ?_
  refine va_put (D := D) (ci := 3) (v := .int r_next) (ty := .int) (C := RX2) (T := TX2) (N := 7) hx hb hts inlX2 tyX2 tyX2_ok nmX2 hown hK hP (hDD _ rfl) hS 0 rfl rfl 2 (by decide) (hts _ q_22_22) (fun _ h9 => h9) rfl (by decide +kernel) rfl rfl (Nat.le_of_ble_eq_true rfl) dX2_readDeed_5 (fun H locs hP _ hS => ?_)
  have hP : va_P D vwCl (RW o ct r_next r_next r_letter r_tables r_table r_number r_signs r_length) H := hP
  refine lv_aload_n hx hb dX2_readDeed_8 rfl (lv_at hl 0 rfl) ?_
  refine lv_aload_n hx hb dX2_readDeed_9 rfl (lv_at hl 0 rfl) ?_
  refine va_get (D := D) (ci := 3) (v := .ref (o 1)) (C := RX2) (T := TX2) (N := 7) hx hb hts inlX2 hown hK hP 0 rfl rfl 0 (by decide) (hts _ q_23_3) (fun _ h9 => h9) rfl dX2_readDeed_10 ?_
  refine lv_aload_n hx hb dX2_readDeed_13 rfl (lv_at hl 0 rfl) ?_
  refine va_get (D := D) (ci := 3) (v := .int r_next) (C := RX2) (T := TX2) (N := 7) hx hb hts inlX2 hown hK hP 0 rfl rfl 1 (by decide) (hts _ q_22_21) (fun _ h9 => h9) rfl dX2_readDeed_14 ?_
  obtain ⟨q1, e1, h⟩ := bnd_some h
  refine g_call (As := [.int r_next]) (rest := [.ref (o 0)]) (c_X1_signAt l D o ct r_next r_next r_next r_letter r_tables r_table r_number r_signs r_length q1 e1) B hN hK hDD hA hP hS rfl (va_recv hK hP (ci := 2) (q0 := 1) rfl rfl) k_X1_signAt q_23_13 rfl ⟨Nat.le_of_ble_eq_true rfl, Nat.le_of_ble_eq_true rfl⟩ ⟨Nat.le_refl _, Nat.le_refl _⟩ hl.1 rfl (Nat.le_of_ble_eq_true rfl) dX2_readDeed_17 (fun H locs hP hS => ?_)
  obtain ⟨g2, h⟩ := grd_some h
  refine va_put (D := D) (ci := 3) (v := .int q1) (ty := .char) (C := RX2) (T := TX2) (N := 7) hx hb hts inlX2 tyX2 tyX2_ok nmX2 hown hK hP (hDD _ rfl) hS 0 rfl rfl 3 (by decide) (hts _ q_22_23) (fun _ h9 => h9) rfl (by decide +kernel) (isC_nar g2) (isC_fit g2) (Nat.le_of_ble_eq_true rfl) dX2_readDeed_20 (fun H locs hP _ hS => ?_)
  have hP : va_P D vwCl (RW o ct r_next r_next q1 r_tables r_table r_number r_signs r_length) H := hP
  refine lv_aload_n hx hb dX2_readDeed_23 rfl (lv_at hl 0 rfl) ?_
  refine va_get (D := D) (ci := 3) (v := .int q1) (C := RX2) (T := TX2) (N := 7) hx hb hts inlX2 hown hK hP 0 rfl rfl 3 (by decide) (hts _ q_22_23) (fun _ h9 => h9) rfl dX2_readDeed_24 ?_
  by_cases c3 : q1 = (99 : Int32)
  · have h := ift c3 h
    refine lv_lookup (off := 56) (tgt := 83) hx hb dX2_readDeed_27 (by decide) (by rw [c3]; decide) (by decide) ?_
    refine lv_aload_n hx hb dX2_readDeed_83 rfl (lv_at hl 0 rfl) ?_
    refine lv_dup hx hb dX2_readDeed_84 rfl ?_
    refine va_get (D := D) (ci := 3) (v := .int r_next) (C := RX2) (T := TX2) (N := 7) hx hb hts inlX2 hown hK hP 0 rfl rfl 1 (by decide) (hts _ q_22_21) (fun _ h9 => h9) rfl dX2_readDeed_85 ?_
    refine lv_iconst (v := (1 : Int32)) hx hb dX2_readDeed_88 (by decide) ?_
    refine lv_iadd hx hb dX2_readDeed_89 ?_
    refine va_put (D := D) (ci := 3) (v := .int (r_next + (1 : Int32))) (ty := .int) (C := RX2) (T := TX2) (N := 7) hx hb hts inlX2 tyX2 tyX2_ok nmX2 hown hK hP (hDD _ rfl) hS 0 rfl rfl 1 (by decide) (hts _ q_22_21) (fun _ h9 => h9) rfl (by decide +kernel) rfl rfl (Nat.le_of_ble_eq_true rfl) dX2_readDeed_90 (fun H locs hP _ hS => ?_)
    have hP : va_P D vwCl (RW o ct (r_next + (1 : Int32)) r_next q1 r_tables r_table r_number r_signs r_length) H := hP
    refine lv_aload_n hx hb dX2_readDeed_93 rfl (lv_at hl 0 rfl) ?_
    obtain ⟨q4, e4, h⟩ := bnd_some h
    refine g_call (As := []) (rest := []) (c_X2_readTable l D o ct  (r_next + (1 : Int32)) r_next q1 r_tables r_table r_number r_signs r_length q4 e4) B hN hK hDD hA hP hS rfl (va_recv hK hP (ci := 3) (q0 := 0) rfl rfl) k_X2_readTable q_24_1 rfl ⟨Nat.le_of_ble_eq_true rfl, Nat.le_of_ble_eq_true rfl⟩ ⟨Nat.le_refl _, Nat.le_refl _⟩ hl.1 rfl (Nat.le_of_ble_eq_true rfl) dX2_readDeed_94 (fun H locs hP hS => ?_)
    obtain ⟨g5, h⟩ := grd_some h
    obtain rfl := Option.some.inj h
    exact hret _ _ _ _ (isB_nar g5) dX2_readDeed_97 hP hS
  · have h := ifn c3 h
    by_cases c6 : q1 = (112 : Int32)
    · have h := ift c6 h
      refine lv_lookup (off := 41) (tgt := 68) hx hb dX2_readDeed_27 (by decide) (by rw [c6]; decide) (by decide) ?_
      refine lv_aload_n hx hb dX2_readDeed_68 rfl (lv_at hl 0 rfl) ?_
      refine lv_dup hx hb dX2_readDeed_69 rfl ?_
      refine va_get (D := D) (ci := 3) (v := .int r_next) (C := RX2) (T := TX2) (N := 7) hx hb hts inlX2 hown hK hP 0 rfl rfl 1 (by decide) (hts _ q_22_21) (fun _ h9 => h9) rfl dX2_readDeed_70 ?_
      refine lv_iconst (v := (1 : Int32)) hx hb dX2_readDeed_73 (by decide) ?_
      refine lv_iadd hx hb dX2_readDeed_74 ?_
      refine va_put (D := D) (ci := 3) (v := .int (r_next + (1 : Int32))) (ty := .int) (C := RX2) (T := TX2) (N := 7) hx hb hts inlX2 tyX2 tyX2_ok nmX2 hown hK hP (hDD _ rfl) hS 0 rfl rfl 1 (by decide) (hts _ q_22_21) (fun _ h9 => h9) rfl (by decide +kernel) rfl rfl (Nat.le_of_ble_eq_true rfl) dX2_readDeed_75 (fun H locs hP _ hS => ?_)
      have hP : va_P D vwCl (RW o ct (r_next + (1 : Int32)) r_next q1 r_tables r_table r_number r_signs r_length) H := hP
      refine lv_aload_n hx hb dX2_readDeed_78 rfl (lv_at hl 0 rfl) ?_
      obtain ⟨q7, e7, h⟩ := bnd_some h
      refine g_call (As := []) (rest := []) (c_X2_readTables l D o ct  (r_next + (1 : Int32)) r_next q1 r_tables r_table r_number r_signs r_length q7 e7) B hN hK hDD hA hP hS rfl (va_recv hK hP (ci := 3) (q0 := 0) rfl rfl) k_X2_readTables q_23_17 rfl ⟨Nat.le_of_ble_eq_true rfl, Nat.le_of_ble_eq_true rfl⟩ ⟨Nat.le_refl _, Nat.le_refl _⟩ hl.1 rfl (Nat.le_of_ble_eq_true rfl) dX2_readDeed_79 (fun H locs hP hS => ?_)
      obtain ⟨g8, h⟩ := grd_some h
      obtain rfl := Option.some.inj h
      exact hret _ _ _ _ (isB_nar g8) dX2_readDeed_82 hP hS
    · have h := ifn c6 h
      by_cases c9 : q1 = (113 : Int32)
      · have h := ift c9 h
        refine lv_lookup (off := 41) (tgt := 68) hx hb dX2_readDeed_27 (by decide) (by rw [c9]; decide) (by decide) ?_
        refine lv_aload_n hx hb dX2_readDeed_68 rfl (lv_at hl 0 rfl) ?_
        refine lv_dup hx hb dX2_readDeed_69 rfl ?_
        refine va_get (D := D) (ci := 3) (v := .int r_next) (C := RX2) (T := TX2) (N := 7) hx hb hts inlX2 hown hK hP 0 rfl rfl 1 (by decide) (hts _ q_22_21) (fun _ h9 => h9) rfl dX2_readDeed_70 ?_
        refine lv_iconst (v := (1 : Int32)) hx hb dX2_readDeed_73 (by decide) ?_
        refine lv_iadd hx hb dX2_readDeed_74 ?_
        refine va_put (D := D) (ci := 3) (v := .int (r_next + (1 : Int32))) (ty := .int) (C := RX2) (T := TX2) (N := 7) hx hb hts inlX2 tyX2 tyX2_ok nmX2 hown hK hP (hDD _ rfl) hS 0 rfl rfl 1 (by decide) (hts _ q_22_21) (fun _ h9 => h9) rfl (by decide +kernel) rfl rfl (Nat.le_of_ble_eq_true rfl) dX2_readDeed_75 (fun H locs hP _ hS => ?_)
        have hP : va_P D vwCl (RW o ct (r_next + (1 : Int32)) r_next q1 r_tables r_table r_number r_signs r_length) H := hP
        refine lv_aload_n hx hb dX2_readDeed_78 rfl (lv_at hl 0 rfl) ?_
        obtain ⟨q10, e10, h⟩ := bnd_some h
        refine g_call (As := []) (rest := []) (c_X2_readTables l D o ct  (r_next + (1 : Int32)) r_next q1 r_tables r_table r_number r_signs r_length q10 e10) B hN hK hDD hA hP hS rfl (va_recv hK hP (ci := 3) (q0 := 0) rfl rfl) k_X2_readTables q_23_17 rfl ⟨Nat.le_of_ble_eq_true rfl, Nat.le_of_ble_eq_true rfl⟩ ⟨Nat.le_refl _, Nat.le_refl _⟩ hl.1 rfl (Nat.le_of_ble_eq_true rfl) dX2_readDeed_79 (fun H locs hP hS => ?_)
        obtain ⟨g11, h⟩ := grd_some h
        obtain rfl := Option.some.inj h
        exact hret _ _ _ _ (isB_nar g11) dX2_readDeed_82 hP hS
      · have h := ifn c9 h
        by_cases c12 : q1 = (114 : Int32)
        · have h := ift c12 h
          refine lv_lookup (off := 71) (tgt := 98) hx hb dX2_readDeed_27 (by decide) (by rw [c12]; decide) (by decide) ?_
          refine lv_aload_n hx hb dX2_readDeed_98 rfl (lv_at hl 0 rfl) ?_
          refine lv_dup hx hb dX2_readDeed_99 rfl ?_
          refine va_get (D := D) (ci := 3) (v := .int r_next) (C := RX2) (T := TX2) (N := 7) hx hb hts inlX2 hown hK hP 0 rfl rfl 1 (by decide) (hts _ q_22_21) (fun _ h9 => h9) rfl dX2_readDeed_100 ?_
          refine lv_iconst (v := (1 : Int32)) hx hb dX2_readDeed_103 (by decide) ?_
          refine lv_iadd hx hb dX2_readDeed_104 ?_
          refine va_put (D := D) (ci := 3) (v := .int (r_next + (1 : Int32))) (ty := .int) (C := RX2) (T := TX2) (N := 7) hx hb hts inlX2 tyX2 tyX2_ok nmX2 hown hK hP (hDD _ rfl) hS 0 rfl rfl 1 (by decide) (hts _ q_22_21) (fun _ h9 => h9) rfl (by decide +kernel) rfl rfl (Nat.le_of_ble_eq_true rfl) dX2_readDeed_105 (fun H locs hP _ hS => ?_)
          have hP : va_P D vwCl (RW o ct (r_next + (1 : Int32)) r_next q1 r_tables r_table r_number r_signs r_length) H := hP
          refine lv_aload_n hx hb dX2_readDeed_108 rfl (lv_at hl 0 rfl) ?_
          obtain ⟨q13, e13, h⟩ := bnd_some h
          refine g_call (As := []) (rest := []) (c_X2_readTable l D o ct  (r_next + (1 : Int32)) r_next q1 r_tables r_table r_number r_signs r_length q13 e13) B hN hK hDD hA hP hS rfl (va_recv hK hP (ci := 3) (q0 := 0) rfl rfl) k_X2_readTable q_24_1 rfl ⟨Nat.le_of_ble_eq_true rfl, Nat.le_of_ble_eq_true rfl⟩ ⟨Nat.le_refl _, Nat.le_refl _⟩ hl.1 rfl (Nat.le_of_ble_eq_true rfl) dX2_readDeed_109 (fun H locs hP hS => ?_)
          refine lv_if_eq (tgt := 135) hx hb dX2_readDeed_112 (by decide) (fun c14 => ?_) (fun c14 => ?_)
          · have h := ift c14 h
            refine lv_iconst (v := (0 : Int32)) hx hb dX2_readDeed_135 (by decide) ?_
            obtain rfl := Option.some.inj h
            exact hret _ _ _ _ nb0 dX2_readDeed_136 hP hS
          · have h := ifn c14 h
            refine lv_aload_n hx hb dX2_readDeed_115 rfl (lv_at hl 0 rfl) ?_
            refine lv_bipush (v := (61 : Int32)) hx hb dX2_readDeed_116 (by decide) ?_
            obtain ⟨q15, e15, h⟩ := bnd_some h
            refine g_call (As := [.int (61 : Int32)]) (rest := []) (c_X2_readSign l D o ct (61 : Int32) q13.2.1 r_next q1 r_tables q13.2.2 r_number r_signs r_length q15 e15) B hN hK hDD hA hP hS rfl (va_recv hK hP (ci := 3) (q0 := 0) rfl rfl) k_X2_readSign q_24_5 rfl ⟨Nat.le_of_ble_eq_true rfl, Nat.le_of_ble_eq_true rfl⟩ ⟨Nat.le_refl _, Nat.le_refl _⟩ hl.1 rfl (Nat.le_of_ble_eq_true rfl) dX2_readDeed_118 (fun H locs hP hS => ?_)
            refine lv_if_eq (tgt := 135) hx hb dX2_readDeed_121 (by decide) (fun c16 => ?_) (fun c16 => ?_)
            · have h := ift c16 h
              refine lv_iconst (v := (0 : Int32)) hx hb dX2_readDeed_135 (by decide) ?_
              obtain rfl := Option.some.inj h
              exact hret _ _ _ _ nb0 dX2_readDeed_136 hP hS
            · have h := ifn c16 h
              refine lv_aload_n hx hb dX2_readDeed_124 rfl (lv_at hl 0 rfl) ?_
              obtain ⟨q17, e17, h⟩ := bnd_some h
              refine g_call (As := []) (rest := []) (c_X2_readNumber l D o ct  q15.2 r_next q1 r_tables q13.2.2 r_number r_signs r_length q17 e17) B hN hK hDD hA hP hS rfl (va_recv hK hP (ci := 3) (q0 := 0) rfl rfl) k_X2_readNumber q_24_9 rfl ⟨Nat.le_of_ble_eq_true rfl, Nat.le_of_ble_eq_true rfl⟩ ⟨Nat.le_refl _, Nat.le_refl _⟩ hl.1 rfl (Nat.le_of_ble_eq_true rfl) dX2_readDeed_125 (fun H locs hP hS => ?_)
              refine lv_if_eq (tgt := 135) hx hb dX2_readDeed_128 (by decide) (fun c18 => ?_) (fun c18 => ?_)
              · have h := ift c18 h
                refine lv_iconst (v := (0 : Int32)) hx hb dX2_readDeed_135 (by decide) ?_
                obtain rfl := Option.some.inj h
                exact hret _ _ _ _ nb0 dX2_readDeed_136 hP hS
              · have h := ifn c18 h
                refine lv_iconst (v := (1 : Int32)) hx hb dX2_readDeed_131 (by decide) ?_
                refine lv_goto (tgt := 136) hx hb dX2_readDeed_132 (by decide) ?_
                obtain rfl := Option.some.inj h
                exact hret _ _ _ _ nb1 dX2_readDeed_136 hP hS
        · have h := ifn c12 h
          refine lv_lookup (off := 110) (tgt := 137) hx hb dX2_readDeed_27 (by decide) (by show Op.lookupswitch.offset [(99, 56), (112, 41), (113, 41), (114, 71)] 110 _ = _; rw [lv_osw (k := (99 : Int32)) c3 (by decide), lv_osw (k := (112 : Int32)) c6 (by decide), lv_osw (k := (113 : Int32)) c9 (by decide), lv_osw (k := (114 : Int32)) c12 (by decide)]; rfl) (by decide) ?_
          refine lv_iconst (v := (0 : Int32)) hx hb dX2_readDeed_137 (by decide) ?_
          obtain rfl := Option.some.inj h
          exact hret _ _ _ _ nb0 dX2_readDeed_138 hP hS

def f_X2_findFault_L2b  (r_signs : Nat → Int32) (r_length : Int32)  (k2 : Int32 → Int32 → Int32 → Int32 → Int32 → Int32 → Int32 → Option (Int32 × (Int32) × (Int32) × (Int32) × (Int32) × (Int32) × (Int32))) (x1 : Int32) (r_next : Int32) (r_start : Int32) (r_letter : Int32) (r_tables : Int32) (r_table : Int32) (r_number : Int32) : Option (Int32 × (Int32) × (Int32) × (Int32) × (Int32) × (Int32) × (Int32)) :=
  if (60 : Int32) ≤ x1 then some (r_next, r_next, r_start, r_letter, r_tables, r_table, r_number)
  else bnd (f_X2_readDeed  r_next r_start r_letter r_tables r_table r_number r_signs r_length) (fun q2 => if q2.1 = (0 : Int32) then some (q2.2.1, q2.2.1, q2.2.2.1, q2.2.2.2.1, q2.2.2.2.2.1, q2.2.2.2.2.2.1, q2.2.2.2.2.2.2)
  else if q2.2.1 < r_length then bnd (f_X2_readSign (59 : Int32) q2.2.1 r_signs r_length) (fun q5 => if q5.1 = (0 : Int32) then some (q5.2, q5.2, q2.2.2.1, q2.2.2.2.1, q2.2.2.2.2.1, q2.2.2.2.2.2.1, q2.2.2.2.2.2.2)
  else k2 (x1 + (1 : Int32)) q5.2 q2.2.2.1 q2.2.2.2.1 q2.2.2.2.2.1 q2.2.2.2.2.2.1 q2.2.2.2.2.2.2)
  else some ((-1 : Int32), q2.2.1, q2.2.2.1, q2.2.2.2.1, q2.2.2.2.2.1, q2.2.2.2.2.2.1, q2.2.2.2.2.2.2))
def f_X2_findFault_L2  (r_signs : Nat → Int32) (r_length : Int32)  : Nat → Int32 → Int32 → Int32 → Int32 → Int32 → Int32 → Int32 → Option (Int32 × (Int32) × (Int32) × (Int32) × (Int32) × (Int32) × (Int32))
  | 0 => fun _ _ _ _ _ _ _ => none
  | n + 1 => f_X2_findFault_L2b r_signs r_length  (f_X2_findFault_L2 r_signs r_length  n)
def f_X2_findFault  (r_next : Int32) (r_start : Int32) (r_letter : Int32) (r_tables : Int32) (r_table : Int32) (r_number : Int32) (r_signs : Nat → Int32) (r_length : Int32) : Option (Int32 × (Int32) × (Int32) × (Int32) × (Int32) × (Int32) × (Int32)) :=
  f_X2_findFault_L2 r_signs r_length  1024 (0 : Int32) r_next r_start r_letter r_tables r_table r_number
set_option maxRecDepth 100000 in
set_option maxHeartbeats 4000000 in
theorem c_X2_findFault (l : Launch) (D : va_G) (o : Nat → Nat) (ct : Nat → ClassId)  (r_next : Int32) (r_start : Int32) (r_letter : Int32) (r_tables : Int32) (r_table : Int32) (r_number : Int32) (r_signs : Nat → Int32) (r_length : Int32) (q : Int32 × (Int32) × (Int32) × (Int32) × (Int32) × (Int32) × (Int32)) (h : f_X2_findFault  r_next r_start r_letter r_tables r_table r_number r_signs r_length = some q) : CG l yX2_findFault cX2_findFault 2 5 (some .int) D (tysK ct) [.ref (o 0)] (some (.int q.1)) (RW o ct r_next r_start r_letter r_tables r_table r_number r_signs r_length) (RW o ct q.2.1 q.2.2.1 q.2.2.2.1 q.2.2.2.2.1 q.2.2.2.2.2.1 q.2.2.2.2.2.2 r_signs r_length) := by
  refine CG.mkI (by decide) (Nat.le_of_ble_eq_true rfl) ?_
  intro p e s m below meth c Q A B hK hN hDD hA hret hP hS ls hl
  have B0 := B
  obtain ⟨hx, hb, hml, hown, hts⟩ := B0
  have hl : lv_has ls 2 [(0, .ref (o 0))] := hl
  have hL2 : ∀ (n2 : Nat) (x1 : Int32) (r_next : Int32) (r_start : Int32) (r_letter : Int32) (r_tables : Int32) (r_table : Int32) (r_number : Int32) (ls : Array Slot) (H : Heap) (locs : List Loc), f_X2_findFault_L2 r_signs r_length  n2 x1 r_next r_start r_letter r_tables r_table r_number = some q → va_P D vwCl (RW o ct r_next r_start r_letter r_tables r_table r_number r_signs r_length) H → va_S A s.heap H locs → lv_has ls 2 [(0, .ref (o 0)), (1, .int x1)] → W p l e (rmF 5 0 0) s m ([.ref (o 0)] : List Value).toArray below meth c H locs 0 0 Q (F0 m 2 ls []) := by
    intro n2
    induction n2 with
    | zero =>
      intro x1 r_next r_start r_letter r_tables r_table r_number ls H locs h
      exact absurd (show (none : Option (Int32 × (Int32) × (Int32) × (Int32) × (Int32) × (Int32) × (Int32))) = some q from h) (by intro h; cases h)
    | succ n2 ih2 =>
      intro x1 r_next r_start r_letter r_tables r_table r_number ls H locs h hP hS hl
      have h : f_X2_findFault_L2b r_signs r_length  (f_X2_findFault_L2 r_signs r_length  n2) x1 r_next r_start r_letter r_tables r_table r_number = some q := h
      unfold f_X2_findFault_L2b at h
      refine lv_iload_n hx hb dX2_findFault_2 rfl (lv_at hl 1 rfl) ?_
      refine lv_bipush (v := (60 : Int32)) hx hb dX2_findFault_3 (by decide) ?_
      refine lv_icmp_ge (tgt := 56) hx hb dX2_findFault_5 (by decide) (fun c1 => ?_) (fun c1 => ?_)
      · have h := ift c1 h
        refine lv_aload_n hx hb dX2_findFault_56 rfl (lv_at hl 0 rfl) ?_
        refine va_get (D := D) (ci := 3) (v := .int r_next) (C := RX2) (T := TX2) (N := 7) hx hb hts inlX2 hown hK hP 0 rfl rfl 1 (by decide) (hts _ q_22_21) (fun _ h9 => h9) rfl dX2_findFault_57 ?_
        obtain rfl := Option.some.inj h
        exact hret _ _ _ _ (vp_nar_int _) dX2_findFault_60 hP hS
      · have h := ifn c1 h
        refine lv_aload_n hx hb dX2_findFault_8 rfl (lv_at hl 0 rfl) ?_
        obtain ⟨q2, e2, h⟩ := bnd_some h
        refine g_call (As := []) (rest := []) (c_X2_readDeed l D o ct  r_next r_start r_letter r_tables r_table r_number r_signs r_length q2 e2) B hN hK hDD hA hP hS rfl (va_recv hK hP (ci := 3) (q0 := 0) rfl rfl) k_X2_readDeed q_23_9 rfl ⟨Nat.le_of_ble_eq_true rfl, Nat.le_of_ble_eq_true rfl⟩ ⟨Nat.le_refl _, Nat.le_refl _⟩ hl.1 rfl (Nat.le_of_ble_eq_true rfl) dX2_findFault_9 (fun H locs hP hS => ?_)
        refine lv_if_ne (tgt := 20) hx hb dX2_findFault_12 (by decide) (fun c3 => ?_) (fun c3 => ?_)
        · have h := ifn c3 h
          refine lv_aload_n hx hb dX2_findFault_20 rfl (lv_at hl 0 rfl) ?_
          refine va_get (D := D) (ci := 3) (v := .int q2.2.1) (C := RX2) (T := TX2) (N := 7) hx hb hts inlX2 hown hK hP 0 rfl rfl 1 (by decide) (hts _ q_22_21) (fun _ h9 => h9) rfl dX2_findFault_21 ?_
          refine lv_aload_n hx hb dX2_findFault_24 rfl (lv_at hl 0 rfl) ?_
          refine va_get (D := D) (ci := 3) (v := .ref (o 1)) (C := RX2) (T := TX2) (N := 7) hx hb hts inlX2 hown hK hP 0 rfl rfl 0 (by decide) (hts _ q_23_3) (fun _ h9 => h9) rfl dX2_findFault_25 ?_
          refine va_get (D := D) (ci := 2) (v := .int r_length) (C := RX1) (T := TX1) (N := 2) hx hb hts inlX1 hown hK hP 1 rfl rfl 1 (by decide) (hts _ q_23_8) (fun _ h9 => h9) rfl dX2_findFault_28 ?_
          refine lv_icmp_lt (tgt := 36) hx hb dX2_findFault_31 (by decide) (fun c4 => ?_) (fun c4 => ?_)
          · have h := ift c4 h
            refine lv_aload_n hx hb dX2_findFault_36 rfl (lv_at hl 0 rfl) ?_
            refine lv_bipush (v := (59 : Int32)) hx hb dX2_findFault_37 (by decide) ?_
            obtain ⟨q5, e5, h⟩ := bnd_some h
            refine g_call (As := [.int (59 : Int32)]) (rest := []) (c_X2_readSign l D o ct (59 : Int32) q2.2.1 q2.2.2.1 q2.2.2.2.1 q2.2.2.2.2.1 q2.2.2.2.2.2.1 q2.2.2.2.2.2.2 r_signs r_length q5 e5) B hN hK hDD hA hP hS rfl (va_recv hK hP (ci := 3) (q0 := 0) rfl rfl) k_X2_readSign q_24_5 rfl ⟨Nat.le_of_ble_eq_true rfl, Nat.le_of_ble_eq_true rfl⟩ ⟨Nat.le_refl _, Nat.le_refl _⟩ hl.1 rfl (Nat.le_of_ble_eq_true rfl) dX2_findFault_39 (fun H locs hP hS => ?_)
            refine lv_if_ne (tgt := 50) hx hb dX2_findFault_42 (by decide) (fun c6 => ?_) (fun c6 => ?_)
            · have h := ifn c6 h
              refine lv_iinc (v := (x1 + (1 : Int32))) (lv' := [(1, .int (x1 + (1 : Int32))), (0, .ref (o 0))]) hx hb dX2_findFault_50 hl (k := 1) rfl (congrArg (HAdd.hAdd x1) (by decide)) (by decide) rfl (fun ls hl => ?_)
              refine lv_goto (tgt := 2) hx hb dX2_findFault_53 (by decide) ?_
              exact ih2 (x1 + (1 : Int32)) q5.2 q2.2.2.1 q2.2.2.2.1 q2.2.2.2.2.1 q2.2.2.2.2.2.1 q2.2.2.2.2.2.2 _ _ _ h hP hS (lv_sub hl [1, 0] rfl)
            · have h := ift c6 h
              refine lv_aload_n hx hb dX2_findFault_45 rfl (lv_at hl 0 rfl) ?_
              refine va_get (D := D) (ci := 3) (v := .int q5.2) (C := RX2) (T := TX2) (N := 7) hx hb hts inlX2 hown hK hP 0 rfl rfl 1 (by decide) (hts _ q_22_21) (fun _ h9 => h9) rfl dX2_findFault_46 ?_
              obtain rfl := Option.some.inj h
              exact hret _ _ _ _ (vp_nar_int _) dX2_findFault_49 hP hS
          · have h := ifn c4 h
            refine lv_iconst (v := (-1 : Int32)) hx hb dX2_findFault_34 (by decide) ?_
            obtain rfl := Option.some.inj h
            exact hret _ _ _ _ (vp_nar_int _) dX2_findFault_35 hP hS
        · have h := ift c3 h
          refine lv_aload_n hx hb dX2_findFault_15 rfl (lv_at hl 0 rfl) ?_
          refine va_get (D := D) (ci := 3) (v := .int q2.2.1) (C := RX2) (T := TX2) (N := 7) hx hb hts inlX2 hown hK hP 0 rfl rfl 1 (by decide) (hts _ q_22_21) (fun _ h9 => h9) rfl dX2_findFault_16 ?_
          obtain rfl := Option.some.inj h
          exact hret _ _ _ _ (vp_nar_int _) dX2_findFault_19 hP hS
  unfold f_X2_findFault at h
  refine lv_iconst (v := (0 : Int32)) hx hb dX2_findFault_0 (by decide) ?_
  refine lv_istore_n (lv' := [(1, .int (0 : Int32)), (0, .ref (o 0))]) hx hb dX2_findFault_1 rfl hl (by decide) rfl (fun ls hl => ?_)
  exact hL2 1024 (0 : Int32) r_next r_start r_letter r_tables r_table r_number _ _ _ h hP hS (lv_sub hl [1, 0] rfl)
