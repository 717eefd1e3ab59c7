/-! the class: statics: laid by wip/whole/gen.py -/
theorem nb0 : narrow .boolean (.int (0 : Int32)) = .int 0 := rfl
theorem nb1 : narrow .boolean (.int (1 : Int32)) = .int 1 := rfl
abbrev tysK (ct : Nat → ClassId) : List (ClassId × FieldType) := [(ct 0, .int), (ct 1, .long), (ct 2, .char), (ct 3, .object "java/lang/Object"), (ct 4, .array .int)]
def isC (r : Int32) : Bool := (r.toUInt32 % 65536).toInt32 == r
theorem isC_nar {r : Int32} (h : isC r = true) : narrow .char (.int r) = .int r := by
  rw [← eq_of_beq h]; exact pk_nc r
theorem isC_fit {r : Int32} (h : isC r = true) : fits .char (.int r) = true := by
  rw [← eq_of_beq h]; exact pk_fc r
theorem vp_lt {i : Int32} {n : Nat} (h : vp_in i n) : i.toNatClampNeg < n := Nat.not_le.mp fun q => h (Or.inr q)
abbrev PW (o : Nat → Nat) (ct : Nat → ClassId) (r_signs : Nat → Int32) (r_length : Int32) : va_W := [((o 0), .inr (2, [.ref (o 1), .int r_length])), ((o 1), .inl ((ct 2), 60, .inl r_signs))]
theorem k_X5_told : SOk yX5_told cX5_told 2 (some .int) 1 := ⟨q_16_8, q_16_7, q_1_2, by decide +kernel⟩
theorem k_X5_isTable : SOk yX5_isTable cX5_isTable 1 (some .boolean) 1 := ⟨q_4_14, q_4_13, q_1_2, by decide +kernel⟩
theorem k_X5_isJoin : SOk yX5_isJoin cX5_isJoin 2 (some .boolean) 2 := ⟨q_9_6, q_9_5, q_1_2, by decide +kernel⟩
theorem k_X5_isSet : SOk yX5_isSet cX5_isSet 1 (some .boolean) 1 := ⟨q_12_10, q_12_9, q_1_2, by decide +kernel⟩
theorem k_X5_bit : SOk yX5_bit cX5_bit 1 (some .int) 1 := ⟨q_9_9, q_9_8, q_1_2, by decide +kernel⟩
theorem k_X5_has : SOk yX5_has cX5_has 2 (some .boolean) 2 := ⟨q_10_13, q_10_12, q_1_2, by decide +kernel⟩
theorem k_X5_hasAll : SOk yX5_hasAll cX5_hasAll 2 (some .boolean) 2 := ⟨q_9_17, q_9_16, q_1_2, by decide +kernel⟩
theorem k_J6_bitCount_0f7a4 : SOk yJ6_bitCount_0f7a4 cJ6_bitCount_0f7a4 1 (some .int) 1 := ⟨q_15_1, q_14_23, q_15_0, by decide +kernel⟩
theorem k_X5_makingCost : SOk yX5_makingCost cX5_makingCost 1 (some .long) 1 := ⟨q_14_20, q_14_19, q_1_2, by decide +kernel⟩
theorem k_X5_longerOrder : SOk yX5_longerOrder cX5_longerOrder 2 (some .int) 2 := ⟨q_14_13, q_14_12, q_1_2, by decide +kernel⟩
theorem k_X5_tableAt : SOk yX5_tableAt cX5_tableAt 3 (some .int) 3 := ⟨q_16_1, q_16_0, q_1_2, by decide +kernel⟩
theorem k_X5_driftDown : SOk yX5_driftDown cX5_driftDown 3 (some .int) 2 := ⟨q_19_22, q_19_21, q_1_2, by decide +kernel⟩
def f_X5_told (a1 : Int64)  : Option (Int32) :=
  some (if (1000000000 : Int64) < a1 then (1000000000 : Int64) else a1).toInt32
set_option maxRecDepth 100000 in
set_option maxHeartbeats 4000000 in
theorem c_X5_told (l : Launch) (a1 : Int64) (q : Int32) (h : f_X5_told a1  = some q) : CS l yX5_told cX5_told 2 1 (some .int) [.long a1] (some (.int q)) := by
  refine CS.mkI (by decide) (Nat.le_of_ble_eq_true rfl) ?_
  intro p e s m below meth c Q B hret ls hl
  have B0 := B
  obtain ⟨hx, hb, hml, hown, hts⟩ := B0
  have hl : lv_has ls 2 [(0, .long a1)] := hl
  unfold f_X5_told at h
  refine lv_lload_n hx hb dX5_told_0 rfl (lv_at hl 0 rfl) ?_
  refine lv_ldc2 (v := (1000000000 : Int64)) hx hb hown (hts _ q_16_9) dX5_told_1 ?_
  refine va_mmin_long hx hb (hml.trans hl.1.symm) hown (hts _ q_16_10) (hts _ q_16_11) (hts _ q_7_1) (hts _ q_16_12) (Nat.le_of_ble_eq_true rfl) (Nat.le_of_ble_eq_true rfl) (Nat.le_refl _) (Nat.le_refl _) dX5_told_4 ?_
  refine lv_l2i hx hb dX5_told_7 rfl ?_
  obtain rfl := Option.some.inj h
  exact hret _ _ (vp_nar_int _) dX5_told_8

def f_X5_isTable (a1 : Int32)  : Option (Int32) :=
  if a1 < (0 : Int32) then some (0 : Int32)
  else if (5 : Int32) ≤ a1 then some (0 : Int32)
  else some (1 : Int32)
set_option maxRecDepth 100000 in
set_option maxHeartbeats 4000000 in
theorem c_X5_isTable (l : Launch) (a1 : Int32) (q : Int32) (h : f_X5_isTable a1  = some q) : CS l yX5_isTable cX5_isTable 1 0 (some .boolean) [.int a1] (some (.int q)) := by
  refine CS.mkI (by decide) (Nat.le_of_ble_eq_true rfl) ?_
  intro p e s m below meth c Q B hret ls hl
  have B0 := B
  obtain ⟨hx, hb, hml, hown, hts⟩ := B0
  have hl : lv_has ls 1 [(0, .int a1)] := hl
  unfold f_X5_isTable at h
  refine lv_iload_n hx hb dX5_isTable_0 rfl (lv_at hl 0 rfl) ?_
  refine lv_if_lt (tgt := 13) hx hb dX5_isTable_1 (by decide) (fun c1 => ?_) (fun c1 => ?_)
  · have h := ift c1 h
    refine lv_iconst (v := (0 : Int32)) hx hb dX5_isTable_13 (by decide) ?_
    obtain rfl := Option.some.inj h
    exact hret _ _ nb0 dX5_isTable_14
  · have h := ifn c1 h
    refine lv_iload_n hx hb dX5_isTable_4 rfl (lv_at hl 0 rfl) ?_
    refine lv_iconst (v := (5 : Int32)) hx hb dX5_isTable_5 (by decide) ?_
    refine lv_icmp_ge (tgt := 13) hx hb dX5_isTable_6 (by decide) (fun c2 => ?_) (fun c2 => ?_)
    · have h := ift c2 h
      refine lv_iconst (v := (0 : Int32)) hx hb dX5_isTable_13 (by decide) ?_
      obtain rfl := Option.some.inj h
      exact hret _ _ nb0 dX5_isTable_14
    · have h := ifn c2 h
      refine lv_iconst (v := (1 : Int32)) hx hb dX5_isTable_9 (by decide) ?_
      refine lv_goto (tgt := 14) hx hb dX5_isTable_10 (by decide) ?_
      obtain rfl := Option.some.inj h
      exact hret _ _ nb1 dX5_isTable_14

def f_X5_isJoin (a1 : Int32) (a2 : Int32)  : Option (Int32) :=
  bnd (f_X5_isTable a1 ) (fun q1 => if q1 = (0 : Int32) then some (0 : Int32)
  else bnd (f_X5_isTable a2 ) (fun q3 => if q3 = (0 : Int32) then some (0 : Int32)
  else if a1 = a2 then some (0 : Int32)
  else some (1 : Int32)))
set_option maxRecDepth 100000 in
set_option maxHeartbeats 4000000 in
theorem c_X5_isJoin (l : Launch) (a1 : Int32) (a2 : Int32) (q : Int32) (h : f_X5_isJoin a1 a2  = some q) : CS l yX5_isJoin cX5_isJoin 2 1 (some .boolean) [.int a1, .int a2] (some (.int q)) := by
  refine CS.mkI (by decide) (Nat.le_of_ble_eq_true rfl) ?_
  intro p e s m below meth c Q B hret ls hl
  have B0 := B
  obtain ⟨hx, hb, hml, hown, hts⟩ := B0
  have hl : lv_has ls 2 [(0, .int a1), (1, .int a2)] := hl
  unfold f_X5_isJoin at h
  refine lv_iload_n hx hb dX5_isJoin_0 rfl (lv_at hl 0 rfl) ?_
  obtain ⟨q1, e1, h⟩ := bnd_some h
  refine s_call (As := [.int a1]) (rest := []) (c_X5_isTable l a1 q1 e1) B k_X5_isTable q_4_12 rfl ⟨Nat.le_of_ble_eq_true rfl, Nat.le_of_ble_eq_true rfl⟩ ⟨Nat.le_refl _, Nat.le_refl _⟩ hl.1 rfl (Nat.le_of_ble_eq_true rfl) dX5_isJoin_1 ?_
  refine lv_if_eq (tgt := 23) hx hb dX5_isJoin_4 (by decide) (fun c2 => ?_) (fun c2 => ?_)
  · have h := ift c2 h
    refine lv_iconst (v := (0 : Int32)) hx hb dX5_isJoin_23 (by decide) ?_
    obtain rfl := Option.some.inj h
    exact hret _ _ nb0 dX5_isJoin_24
  · have h := ifn c2 h
    refine lv_iload_n hx hb dX5_isJoin_7 rfl (lv_at hl 1 rfl) ?_
    obtain ⟨q3, e3, h⟩ := bnd_some h
    refine s_call (As := [.int a2]) (rest := []) (c_X5_isTable l a2 q3 e3) B k_X5_isTable q_4_12 rfl ⟨Nat.le_of_ble_eq_true rfl, Nat.le_of_ble_eq_true rfl⟩ ⟨Nat.le_refl _, Nat.le_refl _⟩ hl.1 rfl (Nat.le_of_ble_eq_true rfl) dX5_isJoin_8 ?_
    refine lv_if_eq (tgt := 23) hx hb dX5_isJoin_11 (by decide) (fun c4 => ?_) (fun c4 => ?_)
    · have h := ift c4 h
      refine lv_iconst (v := (0 : Int32)) hx hb dX5_isJoin_23 (by decide) ?_
      obtain rfl := Option.some.inj h
      exact hret _ _ nb0 dX5_isJoin_24
    · have h := ifn c4 h
      refine lv_iload_n hx hb dX5_isJoin_14 rfl (lv_at hl 0 rfl) ?_
      refine lv_iload_n hx hb dX5_isJoin_15 rfl (lv_at hl 1 rfl) ?_
      refine lv_icmp_eq (tgt := 23) hx hb dX5_isJoin_16 (by decide) (fun c5 => ?_) (fun c5 => ?_)
      · have h := ift c5 h
        refine lv_iconst (v := (0 : Int32)) hx hb dX5_isJoin_23 (by decide) ?_
        obtain rfl := Option.some.inj h
        exact hret _ _ nb0 dX5_isJoin_24
      · have h := ifn c5 h
        refine lv_iconst (v := (1 : Int32)) hx hb dX5_isJoin_19 (by decide) ?_
        refine lv_goto (tgt := 24) hx hb dX5_isJoin_20 (by decide) ?_
        obtain rfl := Option.some.inj h
        exact hret _ _ nb1 dX5_isJoin_24

def f_X5_isSet (a1 : Int32)  : Option (Int32) :=
  if a1 ≤ (0 : Int32) then some (0 : Int32)
  else if (32 : Int32) ≤ a1 then some (0 : Int32)
  else some (1 : Int32)
set_option maxRecDepth 100000 in
set_option maxHeartbeats 4000000 in
theorem c_X5_isSet (l : Launch) (a1 : Int32) (q : Int32) (h : f_X5_isSet a1  = some q) : CS l yX5_isSet cX5_isSet 1 0 (some .boolean) [.int a1] (some (.int q)) := by
  refine CS.mkI (by decide) (Nat.le_of_ble_eq_true rfl) ?_
  intro p e s m below meth c Q B hret ls hl
  have B0 := B
  obtain ⟨hx, hb, hml, hown, hts⟩ := B0
  have hl : lv_has ls 1 [(0, .int a1)] := hl
  unfold f_X5_isSet at h
  refine lv_iload_n hx hb dX5_isSet_0 rfl (lv_at hl 0 rfl) ?_
  refine lv_if_le (tgt := 14) hx hb dX5_isSet_1 (by decide) (fun c1 => ?_) (fun c1 => ?_)
  · have h := ift c1 h
    refine lv_iconst (v := (0 : Int32)) hx hb dX5_isSet_14 (by decide) ?_
    obtain rfl := Option.some.inj h
    exact hret _ _ nb0 dX5_isSet_15
  · have h := ifn c1 h
    refine lv_iload_n hx hb dX5_isSet_4 rfl (lv_at hl 0 rfl) ?_
    refine lv_bipush (v := (32 : Int32)) hx hb dX5_isSet_5 (by decide) ?_
    refine lv_icmp_ge (tgt := 14) hx hb dX5_isSet_7 (by decide) (fun c2 => ?_) (fun c2 => ?_)
    · have h := ift c2 h
      refine lv_iconst (v := (0 : Int32)) hx hb dX5_isSet_14 (by decide) ?_
      obtain rfl := Option.some.inj h
      exact hret _ _ nb0 dX5_isSet_15
    · have h := ifn c2 h
      refine lv_iconst (v := (1 : Int32)) hx hb dX5_isSet_10 (by decide) ?_
      refine lv_goto (tgt := 15) hx hb dX5_isSet_11 (by decide) ?_
      obtain rfl := Option.some.inj h
      exact hret _ _ nb1 dX5_isSet_15

def f_X5_bit (a1 : Int32)  : Option (Int32) :=
  some ((1 : Int32) <<< (a1 &&& 31))
set_option maxRecDepth 100000 in
set_option maxHeartbeats 4000000 in
theorem c_X5_bit (l : Launch) (a1 : Int32) (q : Int32) (h : f_X5_bit a1  = some q) : CS l yX5_bit cX5_bit 1 0 (some .int) [.int a1] (some (.int q)) := by
  refine CS.mkI (by decide) (Nat.le_of_ble_eq_true rfl) ?_
  intro p e s m below meth c Q B hret ls hl
  have B0 := B
  obtain ⟨hx, hb, hml, hown, hts⟩ := B0
  have hl : lv_has ls 1 [(0, .int a1)] := hl
  unfold f_X5_bit at h
  refine lv_iconst (v := (1 : Int32)) hx hb dX5_bit_0 (by decide) ?_
  refine lv_iload_n hx hb dX5_bit_1 rfl (lv_at hl 0 rfl) ?_
  refine lv_ishl hx hb dX5_bit_2 ?_
  obtain rfl := Option.some.inj h
  exact hret _ _ (vp_nar_int _) dX5_bit_3

def f_X5_has (a1 : Int32) (a2 : Int32)  : Option (Int32) :=
  if ((a1 >>> (a2 &&& 31)) &&& (1 : Int32)) = (1 : Int32) then some (1 : Int32)
  else some (0 : Int32)
set_option maxRecDepth 100000 in
set_option maxHeartbeats 4000000 in
theorem c_X5_has (l : Launch) (a1 : Int32) (a2 : Int32) (q : Int32) (h : f_X5_has a1 a2  = some q) : CS l yX5_has cX5_has 2 0 (some .boolean) [.int a1, .int a2] (some (.int q)) := by
  refine CS.mkI (by decide) (Nat.le_of_ble_eq_true rfl) ?_
  intro p e s m below meth c Q B hret ls hl
  have B0 := B
  obtain ⟨hx, hb, hml, hown, hts⟩ := B0
  have hl : lv_has ls 2 [(0, .int a1), (1, .int a2)] := hl
  unfold f_X5_has at h
  refine lv_iload_n hx hb dX5_has_0 rfl (lv_at hl 0 rfl) ?_
  refine lv_iload_n hx hb dX5_has_1 rfl (lv_at hl 1 rfl) ?_
  refine lv_ishr hx hb dX5_has_2 ?_
  refine lv_iconst (v := (1 : Int32)) hx hb dX5_has_3 (by decide) ?_
  refine lv_iand hx hb dX5_has_4 ?_
  refine lv_iconst (v := (1 : Int32)) hx hb dX5_has_5 (by decide) ?_
  refine lv_icmp_ne (tgt := 13) hx hb dX5_has_6 (by decide) (fun c1 => ?_) (fun c1 => ?_)
  · have h := ifn c1 h
    refine lv_iconst (v := (0 : Int32)) hx hb dX5_has_13 (by decide) ?_
    obtain rfl := Option.some.inj h
    exact hret _ _ nb0 dX5_has_14
  · have h := ift c1 h
    refine lv_iconst (v := (1 : Int32)) hx hb dX5_has_9 (by decide) ?_
    refine lv_goto (tgt := 14) hx hb dX5_has_10 (by decide) ?_
    obtain rfl := Option.some.inj h
    exact hret _ _ nb1 dX5_has_14

def f_X5_hasAll (a1 : Int32) (a2 : Int32)  : Option (Int32) :=
  if (a1 &&& a2) = a2 then some (1 : Int32)
  else some (0 : Int32)
set_option maxRecDepth 100000 in
set_option maxHeartbeats 4000000 in
theorem c_X5_hasAll (l : Launch) (a1 : Int32) (a2 : Int32) (q : Int32) (h : f_X5_hasAll a1 a2  = some q) : CS l yX5_hasAll cX5_hasAll 2 0 (some .boolean) [.int a1, .int a2] (some (.int q)) := by
  refine CS.mkI (by decide) (Nat.le_of_ble_eq_true rfl) ?_
  intro p e s m below meth c Q B hret ls hl
  have B0 := B
  obtain ⟨hx, hb, hml, hown, hts⟩ := B0
  have hl : lv_has ls 2 [(0, .int a1), (1, .int a2)] := hl
  unfold f_X5_hasAll at h
  refine lv_iload_n hx hb dX5_hasAll_0 rfl (lv_at hl 0 rfl) ?_
  refine lv_iload_n hx hb dX5_hasAll_1 rfl (lv_at hl 1 rfl) ?_
  refine lv_iand hx hb dX5_hasAll_2 ?_
  refine lv_iload_n hx hb dX5_hasAll_3 rfl (lv_at hl 1 rfl) ?_
  refine lv_icmp_ne (tgt := 11) hx hb dX5_hasAll_4 (by decide) (fun c1 => ?_) (fun c1 => ?_)
  · have h := ifn c1 h
    refine lv_iconst (v := (0 : Int32)) hx hb dX5_hasAll_11 (by decide) ?_
    obtain rfl := Option.some.inj h
    exact hret _ _ nb0 dX5_hasAll_12
  · have h := ift c1 h
    refine lv_iconst (v := (1 : Int32)) hx hb dX5_hasAll_7 (by decide) ?_
    refine lv_goto (tgt := 12) hx hb dX5_hasAll_8 (by decide) ?_
    obtain rfl := Option.some.inj h
    exact hret _ _ nb1 dX5_hasAll_12

def f_J6_bitCount_0f7a4 (a1 : Int32)  : Option (Int32) :=
  some ((((((((a1 - ((a1.toUInt32 >>> ((1 : Int32).toUInt32 &&& Int32.toUInt32 31)).toInt32 &&& (1431655765 : Int32))) &&& (858993459 : Int32)) + (((a1 - ((a1.toUInt32 >>> ((1 : Int32).toUInt32 &&& Int32.toUInt32 31)).toInt32 &&& (1431655765 : Int32))).toUInt32 >>> ((2 : Int32).toUInt32 &&& Int32.toUInt32 31)).toInt32 &&& (858993459 : Int32))) + ((((a1 - ((a1.toUInt32 >>> ((1 : Int32).toUInt32 &&& Int32.toUInt32 31)).toInt32 &&& (1431655765 : Int32))) &&& (858993459 : Int32)) + (((a1 - ((a1.toUInt32 >>> ((1 : Int32).toUInt32 &&& Int32.toUInt32 31)).toInt32 &&& (1431655765 : Int32))).toUInt32 >>> ((2 : Int32).toUInt32 &&& Int32.toUInt32 31)).toInt32 &&& (858993459 : Int32))).toUInt32 >>> ((4 : Int32).toUInt32 &&& Int32.toUInt32 31)).toInt32) &&& (252645135 : Int32)) + ((((((a1 - ((a1.toUInt32 >>> ((1 : Int32).toUInt32 &&& Int32.toUInt32 31)).toInt32 &&& (1431655765 : Int32))) &&& (858993459 : Int32)) + (((a1 - ((a1.toUInt32 >>> ((1 : Int32).toUInt32 &&& Int32.toUInt32 31)).toInt32 &&& (1431655765 : Int32))).toUInt32 >>> ((2 : Int32).toUInt32 &&& Int32.toUInt32 31)).toInt32 &&& (858993459 : Int32))) + ((((a1 - ((a1.toUInt32 >>> ((1 : Int32).toUInt32 &&& Int32.toUInt32 31)).toInt32 &&& (1431655765 : Int32))) &&& (858993459 : Int32)) + (((a1 - ((a1.toUInt32 >>> ((1 : Int32).toUInt32 &&& Int32.toUInt32 31)).toInt32 &&& (1431655765 : Int32))).toUInt32 >>> ((2 : Int32).toUInt32 &&& Int32.toUInt32 31)).toInt32 &&& (858993459 : Int32))).toUInt32 >>> ((4 : Int32).toUInt32 &&& Int32.toUInt32 31)).toInt32) &&& (252645135 : Int32)).toUInt32 >>> ((8 : Int32).toUInt32 &&& Int32.toUInt32 31)).toInt32) + (((((((a1 - ((a1.toUInt32 >>> ((1 : Int32).toUInt32 &&& Int32.toUInt32 31)).toInt32 &&& (1431655765 : Int32))) &&& (858993459 : Int32)) + (((a1 - ((a1.toUInt32 >>> ((1 : Int32).toUInt32 &&& Int32.toUInt32 31)).toInt32 &&& (1431655765 : Int32))).toUInt32 >>> ((2 : Int32).toUInt32 &&& Int32.toUInt32 31)).toInt32 &&& (858993459 : Int32))) + ((((a1 - ((a1.toUInt32 >>> ((1 : Int32).toUInt32 &&& Int32.toUInt32 31)).toInt32 &&& (1431655765 : Int32))) &&& (858993459 : Int32)) + (((a1 - ((a1.toUInt32 >>> ((1 : Int32).toUInt32 &&& Int32.toUInt32 31)).toInt32 &&& (1431655765 : Int32))).toUInt32 >>> ((2 : Int32).toUInt32 &&& Int32.toUInt32 31)).toInt32 &&& (858993459 : Int32))).toUInt32 >>> ((4 : Int32).toUInt32 &&& Int32.toUInt32 31)).toInt32) &&& (252645135 : Int32)) + ((((((a1 - ((a1.toUInt32 >>> ((1 : Int32).toUInt32 &&& Int32.toUInt32 31)).toInt32 &&& (1431655765 : Int32))) &&& (858993459 : Int32)) + (((a1 - ((a1.toUInt32 >>> ((1 : Int32).toUInt32 &&& Int32.toUInt32 31)).toInt32 &&& (1431655765 : Int32))).toUInt32 >>> ((2 : Int32).toUInt32 &&& Int32.toUInt32 31)).toInt32 &&& (858993459 : Int32))) + ((((a1 - ((a1.toUInt32 >>> ((1 : Int32).toUInt32 &&& Int32.toUInt32 31)).toInt32 &&& (1431655765 : Int32))) &&& (858993459 : Int32)) + (((a1 - ((a1.toUInt32 >>> ((1 : Int32).toUInt32 &&& Int32.toUInt32 31)).toInt32 &&& (1431655765 : Int32))).toUInt32 >>> ((2 : Int32).toUInt32 &&& Int32.toUInt32 31)).toInt32 &&& (858993459 : Int32))).toUInt32 >>> ((4 : Int32).toUInt32 &&& Int32.toUInt32 31)).toInt32) &&& (252645135 : Int32)).toUInt32 >>> ((8 : Int32).toUInt32 &&& Int32.toUInt32 31)).toInt32).toUInt32 >>> ((16 : Int32).toUInt32 &&& Int32.toUInt32 31)).toInt32) &&& (63 : Int32))
set_option maxRecDepth 100000 in
set_option maxHeartbeats 4000000 in
theorem c_J6_bitCount_0f7a4 (l : Launch) (a1 : Int32) (q : Int32) (h : f_J6_bitCount_0f7a4 a1  = some q) : CS l yJ6_bitCount_0f7a4 cJ6_bitCount_0f7a4 1 0 (some .int) [.int a1] (some (.int q)) := by
  refine CS.mkI (by decide) (Nat.le_of_ble_eq_true rfl) ?_
  intro p e s m below meth c Q B hret ls hl
  have B0 := B
  obtain ⟨hx, hb, hml, hown, hts⟩ := B0
  have hl : lv_has ls 1 [(0, .int a1)] := hl
  unfold f_J6_bitCount_0f7a4 at h
  refine lv_iload_n hx hb dJ6_bitCount_0f7a4_0 rfl (lv_at hl 0 rfl) ?_
  refine lv_iload_n hx hb dJ6_bitCount_0f7a4_1 rfl (lv_at hl 0 rfl) ?_
  refine lv_iconst (v := (1 : Int32)) hx hb dJ6_bitCount_0f7a4_2 (by decide) ?_
  refine lv_iushr hx hb dJ6_bitCount_0f7a4_3 rfl ?_
  refine lv_ldcw (v := (1431655765 : Int32)) hx hb hown (hts _ q_15_2) dJ6_bitCount_0f7a4_4 ?_
  refine lv_iand hx hb dJ6_bitCount_0f7a4_7 ?_
  refine lv_isub hx hb dJ6_bitCount_0f7a4_8 ?_
  refine lv_istore_n (lv' := [(0, .int (a1 - ((a1.toUInt32 >>> ((1 : Int32).toUInt32 &&& Int32.toUInt32 31)).toInt32 &&& (1431655765 : Int32))))]) hx hb dJ6_bitCount_0f7a4_9 rfl hl (by decide) rfl (fun ls hl => ?_)
  refine lv_iload_n hx hb dJ6_bitCount_0f7a4_10 rfl (lv_at hl 0 rfl) ?_
  refine lv_ldcw (v := (858993459 : Int32)) hx hb hown (hts _ q_15_3) dJ6_bitCount_0f7a4_11 ?_
  refine lv_iand hx hb dJ6_bitCount_0f7a4_14 ?_
  refine lv_iload_n hx hb dJ6_bitCount_0f7a4_15 rfl (lv_at hl 0 rfl) ?_
  refine lv_iconst (v := (2 : Int32)) hx hb dJ6_bitCount_0f7a4_16 (by decide) ?_
  refine lv_iushr hx hb dJ6_bitCount_0f7a4_17 rfl ?_
  refine lv_ldcw (v := (858993459 : Int32)) hx hb hown (hts _ q_15_3) dJ6_bitCount_0f7a4_18 ?_
  refine lv_iand hx hb dJ6_bitCount_0f7a4_21 ?_
  refine lv_iadd hx hb dJ6_bitCount_0f7a4_22 ?_
  refine lv_istore_n (lv' := [(0, .int (((a1 - ((a1.toUInt32 >>> ((1 : Int32).toUInt32 &&& Int32.toUInt32 31)).toInt32 &&& (1431655765 : Int32))) &&& (858993459 : Int32)) + (((a1 - ((a1.toUInt32 >>> ((1 : Int32).toUInt32 &&& Int32.toUInt32 31)).toInt32 &&& (1431655765 : Int32))).toUInt32 >>> ((2 : Int32).toUInt32 &&& Int32.toUInt32 31)).toInt32 &&& (858993459 : Int32))))]) hx hb dJ6_bitCount_0f7a4_23 rfl hl (by decide) rfl (fun ls hl => ?_)
  refine lv_iload_n hx hb dJ6_bitCount_0f7a4_24 rfl (lv_at hl 0 rfl) ?_
  refine lv_iload_n hx hb dJ6_bitCount_0f7a4_25 rfl (lv_at hl 0 rfl) ?_
  refine lv_iconst (v := (4 : Int32)) hx hb dJ6_bitCount_0f7a4_26 (by decide) ?_
  refine lv_iushr hx hb dJ6_bitCount_0f7a4_27 rfl ?_
  refine lv_iadd hx hb dJ6_bitCount_0f7a4_28 ?_
  refine lv_ldcw (v := (252645135 : Int32)) hx hb hown (hts _ q_15_4) dJ6_bitCount_0f7a4_29 ?_
  refine lv_iand hx hb dJ6_bitCount_0f7a4_32 ?_
  refine lv_istore_n (lv' := [(0, .int (((((a1 - ((a1.toUInt32 >>> ((1 : Int32).toUInt32 &&& Int32.toUInt32 31)).toInt32 &&& (1431655765 : Int32))) &&& (858993459 : Int32)) + (((a1 - ((a1.toUInt32 >>> ((1 : Int32).toUInt32 &&& Int32.toUInt32 31)).toInt32 &&& (1431655765 : Int32))).toUInt32 >>> ((2 : Int32).toUInt32 &&& Int32.toUInt32 31)).toInt32 &&& (858993459 : Int32))) + ((((a1 - ((a1.toUInt32 >>> ((1 : Int32).toUInt32 &&& Int32.toUInt32 31)).toInt32 &&& (1431655765 : Int32))) &&& (858993459 : Int32)) + (((a1 - ((a1.toUInt32 >>> ((1 : Int32).toUInt32 &&& Int32.toUInt32 31)).toInt32 &&& (1431655765 : Int32))).toUInt32 >>> ((2 : Int32).toUInt32 &&& Int32.toUInt32 31)).toInt32 &&& (858993459 : Int32))).toUInt32 >>> ((4 : Int32).toUInt32 &&& Int32.toUInt32 31)).toInt32) &&& (252645135 : Int32)))]) hx hb dJ6_bitCount_0f7a4_33 rfl hl (by decide) rfl (fun ls hl => ?_)
  refine lv_iload_n hx hb dJ6_bitCount_0f7a4_34 rfl (lv_at hl 0 rfl) ?_
  refine lv_iload_n hx hb dJ6_bitCount_0f7a4_35 rfl (lv_at hl 0 rfl) ?_
  refine lv_bipush (v := (8 : Int32)) hx hb dJ6_bitCount_0f7a4_36 (by decide) ?_
  refine lv_iushr hx hb dJ6_bitCount_0f7a4_38 rfl ?_
  refine lv_iadd hx hb dJ6_bitCount_0f7a4_39 ?_
  refine lv_istore_n (lv' := [(0, .int ((((((a1 - ((a1.toUInt32 >>> ((1 : Int32).toUInt32 &&& Int32.toUInt32 31)).toInt32 &&& (1431655765 : Int32))) &&& (858993459 : Int32)) + (((a1 - ((a1.toUInt32 >>> ((1 : Int32).toUInt32 &&& Int32.toUInt32 31)).toInt32 &&& (1431655765 : Int32))).toUInt32 >>> ((2 : Int32).toUInt32 &&& Int32.toUInt32 31)).toInt32 &&& (858993459 : Int32))) + ((((a1 - ((a1.toUInt32 >>> ((1 : Int32).toUInt32 &&& Int32.toUInt32 31)).toInt32 &&& (1431655765 : Int32))) &&& (858993459 : Int32)) + (((a1 - ((a1.toUInt32 >>> ((1 : Int32).toUInt32 &&& Int32.toUInt32 31)).toInt32 &&& (1431655765 : Int32))).toUInt32 >>> ((2 : Int32).toUInt32 &&& Int32.toUInt32 31)).toInt32 &&& (858993459 : Int32))).toUInt32 >>> ((4 : Int32).toUInt32 &&& Int32.toUInt32 31)).toInt32) &&& (252645135 : Int32)) + ((((((a1 - ((a1.toUInt32 >>> ((1 : Int32).toUInt32 &&& Int32.toUInt32 31)).toInt32 &&& (1431655765 : Int32))) &&& (858993459 : Int32)) + (((a1 - ((a1.toUInt32 >>> ((1 : Int32).toUInt32 &&& Int32.toUInt32 31)).toInt32 &&& (1431655765 : Int32))).toUInt32 >>> ((2 : Int32).toUInt32 &&& Int32.toUInt32 31)).toInt32 &&& (858993459 : Int32))) + ((((a1 - ((a1.toUInt32 >>> ((1 : Int32).toUInt32 &&& Int32.toUInt32 31)).toInt32 &&& (1431655765 : Int32))) &&& (858993459 : Int32)) + (((a1 - ((a1.toUInt32 >>> ((1 : Int32).toUInt32 &&& Int32.toUInt32 31)).toInt32 &&& (1431655765 : Int32))).toUInt32 >>> ((2 : Int32).toUInt32 &&& Int32.toUInt32 31)).toInt32 &&& (858993459 : Int32))).toUInt32 >>> ((4 : Int32).toUInt32 &&& Int32.toUInt32 31)).toInt32) &&& (252645135 : Int32)).toUInt32 >>> ((8 : Int32).toUInt32 &&& Int32.toUInt32 31)).toInt32))]) hx hb dJ6_bitCount_0f7a4_40 rfl hl (by decide) rfl (fun ls hl => ?_)
  refine lv_iload_n hx hb dJ6_bitCount_0f7a4_41 rfl (lv_at hl 0 rfl) ?_
  refine lv_iload_n hx hb dJ6_bitCount_0f7a4_42 rfl (lv_at hl 0 rfl) ?_
  refine lv_bipush (v := (16 : Int32)) hx hb dJ6_bitCount_0f7a4_43 (by decide) ?_
  refine lv_iushr hx hb dJ6_bitCount_0f7a4_45 rfl ?_
  refine lv_iadd hx hb dJ6_bitCount_0f7a4_46 ?_
  refine lv_istore_n (lv' := [(0, .int (((((((a1 - ((a1.toUInt32 >>> ((1 : Int32).toUInt32 &&& Int32.toUInt32 31)).toInt32 &&& (1431655765 : Int32))) &&& (858993459 : Int32)) + (((a1 - ((a1.toUInt32 >>> ((1 : Int32).toUInt32 &&& Int32.toUInt32 31)).toInt32 &&& (1431655765 : Int32))).toUInt32 >>> ((2 : Int32).toUInt32 &&& Int32.toUInt32 31)).toInt32 &&& (858993459 : Int32))) + ((((a1 - ((a1.toUInt32 >>> ((1 : Int32).toUInt32 &&& Int32.toUInt32 31)).toInt32 &&& (1431655765 : Int32))) &&& (858993459 : Int32)) + (((a1 - ((a1.toUInt32 >>> ((1 : Int32).toUInt32 &&& Int32.toUInt32 31)).toInt32 &&& (1431655765 : Int32))).toUInt32 >>> ((2 : Int32).toUInt32 &&& Int32.toUInt32 31)).toInt32 &&& (858993459 : Int32))).toUInt32 >>> ((4 : Int32).toUInt32 &&& Int32.toUInt32 31)).toInt32) &&& (252645135 : Int32)) + ((((((a1 - ((a1.toUInt32 >>> ((1 : Int32).toUInt32 &&& Int32.toUInt32 31)).toInt32 &&& (1431655765 : Int32))) &&& (858993459 : Int32)) + (((a1 - ((a1.toUInt32 >>> ((1 : Int32).toUInt32 &&& Int32.toUInt32 31)).toInt32 &&& (1431655765 : Int32))).toUInt32 >>> ((2 : Int32).toUInt32 &&& Int32.toUInt32 31)).toInt32 &&& (858993459 : Int32))) + ((((a1 - ((a1.toUInt32 >>> ((1 : Int32).toUInt32 &&& Int32.toUInt32 31)).toInt32 &&& (1431655765 : Int32))) &&& (858993459 : Int32)) + (((a1 - ((a1.toUInt32 >>> ((1 : Int32).toUInt32 &&& Int32.toUInt32 31)).toInt32 &&& (1431655765 : Int32))).toUInt32 >>> ((2 : Int32).toUInt32 &&& Int32.toUInt32 31)).toInt32 &&& (858993459 : Int32))).toUInt32 >>> ((4 : Int32).toUInt32 &&& Int32.toUInt32 31)).toInt32) &&& (252645135 : Int32)).toUInt32 >>> ((8 : Int32).toUInt32 &&& Int32.toUInt32 31)).toInt32) + (((((((a1 - ((a1.toUInt32 >>> ((1 : Int32).toUInt32 &&& Int32.toUInt32 31)).toInt32 &&& (1431655765 : Int32))) &&& (858993459 : Int32)) + (((a1 - ((a1.toUInt32 >>> ((1 : Int32).toUInt32 &&& Int32.toUInt32 31)).toInt32 &&& (1431655765 : Int32))).toUInt32 >>> ((2 : Int32).toUInt32 &&& Int32.toUInt32 31)).toInt32 &&& (858993459 : Int32))) + ((((a1 - ((a1.toUInt32 >>> ((1 : Int32).toUInt32 &&& Int32.toUInt32 31)).toInt32 &&& (1431655765 : Int32))) &&& (858993459 : Int32)) + (((a1 - ((a1.toUInt32 >>> ((1 : Int32).toUInt32 &&& Int32.toUInt32 31)).toInt32 &&& (1431655765 : Int32))).toUInt32 >>> ((2 : Int32).toUInt32 &&& Int32.toUInt32 31)).toInt32 &&& (858993459 : Int32))).toUInt32 >>> ((4 : Int32).toUInt32 &&& Int32.toUInt32 31)).toInt32) &&& (252645135 : Int32)) + ((((((a1 - ((a1.toUInt32 >>> ((1 : Int32).toUInt32 &&& Int32.toUInt32 31)).toInt32 &&& (1431655765 : Int32))) &&& (858993459 : Int32)) + (((a1 - ((a1.toUInt32 >>> ((1 : Int32).toUInt32 &&& Int32.toUInt32 31)).toInt32 &&& (1431655765 : Int32))).toUInt32 >>> ((2 : Int32).toUInt32 &&& Int32.toUInt32 31)).toInt32 &&& (858993459 : Int32))) + ((((a1 - ((a1.toUInt32 >>> ((1 : Int32).toUInt32 &&& Int32.toUInt32 31)).toInt32 &&& (1431655765 : Int32))) &&& (858993459 : Int32)) + (((a1 - ((a1.toUInt32 >>> ((1 : Int32).toUInt32 &&& Int32.toUInt32 31)).toInt32 &&& (1431655765 : Int32))).toUInt32 >>> ((2 : Int32).toUInt32 &&& Int32.toUInt32 31)).toInt32 &&& (858993459 : Int32))).toUInt32 >>> ((4 : Int32).toUInt32 &&& Int32.toUInt32 31)).toInt32) &&& (252645135 : Int32)).toUInt32 >>> ((8 : Int32).toUInt32 &&& Int32.toUInt32 31)).toInt32).toUInt32 >>> ((16 : Int32).toUInt32 &&& Int32.toUInt32 31)).toInt32))]) hx hb dJ6_bitCount_0f7a4_47 rfl hl (by decide) rfl (fun ls hl => ?_)
  refine lv_iload_n hx hb dJ6_bitCount_0f7a4_48 rfl (lv_at hl 0 rfl) ?_
  refine lv_bipush (v := (63 : Int32)) hx hb dJ6_bitCount_0f7a4_49 (by decide) ?_
  refine lv_iand hx hb dJ6_bitCount_0f7a4_51 ?_
  obtain rfl := Option.some.inj h
  exact hret _ _ (vp_nar_int _) dJ6_bitCount_0f7a4_52

def f_X5_makingCost (a1 : Int32)  : Option (Int64) :=
  bnd (f_J6_bitCount_0f7a4 a1 ) (fun q1 => some ((10 : Int64) * q1.toInt64))
set_option maxRecDepth 100000 in
set_option maxHeartbeats 4000000 in
theorem c_X5_makingCost (l : Launch) (a1 : Int32) (q : Int64) (h : f_X5_makingCost a1  = some q) : CS l yX5_makingCost cX5_makingCost 1 1 (some .long) [.int a1] (some (.long q)) := by
  refine CS.mkL (by decide) (Nat.le_of_ble_eq_true rfl) ?_
  intro p e s m below meth c Q B hret ls hl
  have B0 := B
  obtain ⟨hx, hb, hml, hown, hts⟩ := B0
  have hl : lv_has ls 1 [(0, .int a1)] := hl
  unfold f_X5_makingCost at h
  refine lv_ldc2 (v := (10 : Int64)) hx hb hown (hts _ q_14_21) dX5_makingCost_0 ?_
  refine lv_iload_n hx hb dX5_makingCost_3 rfl (lv_at hl 0 rfl) ?_
  obtain ⟨q1, e1, h⟩ := bnd_some h
  refine s_call (As := [.int a1]) (rest := [.long (10 : Int64)]) (c_J6_bitCount_0f7a4 l a1 q1 e1) B k_J6_bitCount_0f7a4 q_14_22 rfl ⟨Nat.le_of_ble_eq_true rfl, Nat.le_of_ble_eq_true rfl⟩ ⟨Nat.le_refl _, Nat.le_refl _⟩ hl.1 rfl (Nat.le_of_ble_eq_true rfl) dX5_makingCost_4 ?_
  refine lv_i2l hx hb dX5_makingCost_7 rfl ?_
  refine lv_lmul hx hb dX5_makingCost_8 ?_
  obtain rfl := Option.some.inj h
  exact hret _ _ dX5_makingCost_9

def f_X5_longerOrder (a1 : Int32) (a2 : Int32)  : Option (Int32) :=
  some ((a1 <<< ((3 : Int32) &&& 31)) + a2)
set_option maxRecDepth 100000 in
set_option maxHeartbeats 4000000 in
theorem c_X5_longerOrder (l : Launch) (a1 : Int32) (a2 : Int32) (q : Int32) (h : f_X5_longerOrder a1 a2  = some q) : CS l yX5_longerOrder cX5_longerOrder 2 0 (some .int) [.int a1, .int a2] (some (.int q)) := by
  refine CS.mkI (by decide) (Nat.le_of_ble_eq_true rfl) ?_
  intro p e s m below meth c Q B hret ls hl
  have B0 := B
  obtain ⟨hx, hb, hml, hown, hts⟩ := B0
  have hl : lv_has ls 2 [(0, .int a1), (1, .int a2)] := hl
  unfold f_X5_longerOrder at h
  refine lv_iload_n hx hb dX5_longerOrder_0 rfl (lv_at hl 0 rfl) ?_
  refine lv_iconst (v := (3 : Int32)) hx hb dX5_longerOrder_1 (by decide) ?_
  refine lv_ishl hx hb dX5_longerOrder_2 ?_
  refine lv_iload_n hx hb dX5_longerOrder_3 rfl (lv_at hl 1 rfl) ?_
  refine lv_iadd hx hb dX5_longerOrder_4 ?_
  obtain rfl := Option.some.inj h
  exact hret _ _ (vp_nar_int _) dX5_longerOrder_5

def f_X5_tableAt (a1 : Int32) (a2 : Int32) (a3 : Int32)  : Option (Int32) :=
  some ((a1 >>> (((3 : Int32) * ((a2 - (1 : Int32)) - a3)) &&& 31)) &&& (7 : Int32))
set_option maxRecDepth 100000 in
set_option maxHeartbeats 4000000 in
theorem c_X5_tableAt (l : Launch) (a1 : Int32) (a2 : Int32) (a3 : Int32) (q : Int32) (h : f_X5_tableAt a1 a2 a3  = some q) : CS l yX5_tableAt cX5_tableAt 3 0 (some .int) [.int a1, .int a2, .int a3] (some (.int q)) := by
  refine CS.mkI (by decide) (Nat.le_of_ble_eq_true rfl) ?_
  intro p e s m below meth c Q B hret ls hl
  have B0 := B
  obtain ⟨hx, hb, hml, hown, hts⟩ := B0
  have hl : lv_has ls 3 [(0, .int a1), (1, .int a2), (2, .int a3)] := hl
  unfold f_X5_tableAt at h
  refine lv_iload_n hx hb dX5_tableAt_0 rfl (lv_at hl 0 rfl) ?_
  refine lv_iconst (v := (3 : Int32)) hx hb dX5_tableAt_1 (by decide) ?_
  refine lv_iload_n hx hb dX5_tableAt_2 rfl (lv_at hl 1 rfl) ?_
  refine lv_iconst (v := (1 : Int32)) hx hb dX5_tableAt_3 (by decide) ?_
  refine lv_isub hx hb dX5_tableAt_4 ?_
  refine lv_iload_n hx hb dX5_tableAt_5 rfl (lv_at hl 2 rfl) ?_
  refine lv_isub hx hb dX5_tableAt_6 ?_
  refine lv_imul hx hb dX5_tableAt_7 ?_
  refine lv_ishr hx hb dX5_tableAt_8 ?_
  refine lv_bipush (v := (7 : Int32)) hx hb dX5_tableAt_9 (by decide) ?_
  refine lv_iand hx hb dX5_tableAt_11 ?_
  obtain rfl := Option.some.inj h
  exact hret _ _ (vp_nar_int _) dX5_tableAt_12

def f_X5_driftDown (a1 : Int32) (a2 : Int32)  : Option (Int32) :=
  if (if a2 < a1 then a2 else a1) ≤ (0 : Int32) then some (0 : Int32)
  else grd (!decide ((if a2 < a1 then a2 else a1) = 0)) (some (((if a1 < a2 then a2 else a1) * (100 : Int32)) / (if a2 < a1 then a2 else a1)))
set_option maxRecDepth 100000 in
set_option maxHeartbeats 4000000 in
theorem c_X5_driftDown (l : Launch) (a1 : Int32) (a2 : Int32) (q : Int32) (h : f_X5_driftDown a1 a2  = some q) : CS l yX5_driftDown cX5_driftDown 3 1 (some .int) [.int a1, .int a2] (some (.int q)) := by
  refine CS.mkI (by decide) (Nat.le_of_ble_eq_true rfl) ?_
  intro p e s m below meth c Q B hret ls hl
  have B0 := B
  obtain ⟨hx, hb, hml, hown, hts⟩ := B0
  have hl : lv_has ls 3 [(0, .int a1), (1, .int a2)] := hl
  unfold f_X5_driftDown at h
  refine lv_iload_n hx hb dX5_driftDown_0 rfl (lv_at hl 0 rfl) ?_
  refine lv_iload_n hx hb dX5_driftDown_1 rfl (lv_at hl 1 rfl) ?_
  refine va_mmin hx hb (hml.trans hl.1.symm) hown (hts _ q_19_23) (hts _ q_8_3) (hts _ q_7_1) (hts _ q_8_4) (Nat.le_of_ble_eq_true rfl) (Nat.le_of_ble_eq_true rfl) (Nat.le_refl _) (Nat.le_refl _) dX5_driftDown_2 ?_
  refine lv_istore_n (lv' := [(2, .int (if a2 < a1 then a2 else a1)), (0, .int a1), (1, .int a2)]) hx hb dX5_driftDown_5 rfl hl (by decide) rfl (fun ls hl => ?_)
  refine lv_iload_n hx hb dX5_driftDown_6 rfl (lv_at hl 0 rfl) ?_
  refine lv_if_le (tgt := 23) hx hb dX5_driftDown_7 (by decide) (fun c1 => ?_) (fun c1 => ?_)
  · have h := ift c1 h
    refine lv_iconst (v := (0 : Int32)) hx hb dX5_driftDown_23 (by decide) ?_
    obtain rfl := Option.some.inj h
    exact hret _ _ (vp_nar_int _) dX5_driftDown_24
  · have h := ifn c1 h
    refine lv_iload_n hx hb dX5_driftDown_10 rfl (lv_at hl 1 rfl) ?_
    refine lv_iload_n hx hb dX5_driftDown_11 rfl (lv_at hl 2 rfl) ?_
    refine va_mmax hx hb (hml.trans hl.1.symm) hown (hts _ q_20_0) (hts _ q_7_0) (hts _ q_7_1) (hts _ q_7_2) (Nat.le_of_ble_eq_true rfl) (Nat.le_of_ble_eq_true rfl) (Nat.le_refl _) (Nat.le_refl _) dX5_driftDown_12 ?_
    refine lv_bipush (v := (100 : Int32)) hx hb dX5_driftDown_15 (by decide) ?_
    refine lv_imul hx hb dX5_driftDown_17 ?_
    refine lv_iload_n hx hb dX5_driftDown_18 rfl (lv_at hl 0 rfl) ?_
    obtain ⟨g2, h⟩ := grd_some h
    refine lv_idiv hx hb dX5_driftDown_19 (by simpa using g2) ?_
    refine lv_goto (tgt := 24) hx hb dX5_driftDown_20 (by decide) ?_
    obtain rfl := Option.some.inj h
    exact hret _ _ (vp_nar_int _) dX5_driftDown_24
