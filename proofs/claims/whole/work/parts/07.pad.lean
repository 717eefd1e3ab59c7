/-! the class: statics, Pad.put over its cells: laid by wip/whole/gen.py -/
abbrev tysK (ct : Nat → ClassId) : List (ClassId × FieldType) := [(ct 0, .int), (ct 1, .long), (ct 2, .char), (ct 3, .object "java/lang/Object"), (ct 4, .array .int)]
def isC (r : Int32) : Bool := (r.toUInt32 % 65536).toInt32 == r
theorem isC_nar {r : Int32} (h : isC r = true) : narrow .char (.int r) = .int r := by
  rw [← eq_of_beq h]; exact pk_nc r
theorem isC_fit {r : Int32} (h : isC r = true) : fits .char (.int r) = true := by
  rw [← eq_of_beq h]; exact pk_fc r
theorem vp_lt {i : Int32} {n : Nat} (h : vp_in i n) : i.toNatClampNeg < n := Nat.not_le.mp fun q => h (Or.inr q)
abbrev PW (o : Nat → Nat) (ct : Nat → ClassId) (r_signs : Nat → Int32) (r_length : Int32) : va_W := [((o 0), .inr (2, [.ref (o 1), .int r_length])), ((o 1), .inl ((ct 2), 60, .inl r_signs))]
theorem k_X5_told : SOk yX5_told cX5_told 2 (some .int) 1 := ⟨q_17_4, q_17_3, q_1_2, by decide +kernel⟩
theorem k_X5_isTable : SOk yX5_isTable cX5_isTable 1 (some .boolean) 1 := ⟨q_5_2, q_5_1, q_1_2, by decide +kernel⟩
theorem k_X5_isJoin : SOk yX5_isJoin cX5_isJoin 2 (some .boolean) 2 := ⟨q_10_7, q_10_6, q_1_2, by decide +kernel⟩
theorem k_X5_isSet : SOk yX5_isSet cX5_isSet 1 (some .boolean) 1 := ⟨q_13_6, q_13_5, q_1_2, by decide +kernel⟩
theorem k_X5_bit : SOk yX5_bit cX5_bit 1 (some .int) 1 := ⟨q_10_10, q_10_9, q_1_2, by decide +kernel⟩
theorem k_X5_has : SOk yX5_has cX5_has 2 (some .boolean) 2 := ⟨q_11_20, q_11_19, q_1_2, by decide +kernel⟩
theorem k_X5_hasAll : SOk yX5_hasAll cX5_hasAll 2 (some .boolean) 2 := ⟨q_10_18, q_10_17, q_1_2, by decide +kernel⟩
theorem k_J6_bitCount_0f7a4 : SOk yJ6_bitCount_0f7a4 cJ6_bitCount_0f7a4 1 (some .int) 1 := ⟨q_15_21, q_15_19, q_15_20, by decide +kernel⟩
theorem k_X5_makingCost : SOk yX5_makingCost cX5_makingCost 1 (some .long) 1 := ⟨q_15_16, q_15_15, q_1_2, by decide +kernel⟩
theorem k_X5_longerOrder : SOk yX5_longerOrder cX5_longerOrder 2 (some .int) 2 := ⟨q_15_9, q_15_8, q_1_2, by decide +kernel⟩
theorem k_X5_tableAt : SOk yX5_tableAt cX5_tableAt 3 (some .int) 3 := ⟨q_16_21, q_16_20, q_1_2, by decide +kernel⟩
theorem k_X5_driftDown : SOk yX5_driftDown cX5_driftDown 3 (some .int) 2 := ⟨q_27_17, q_27_16, q_1_2, by decide +kernel⟩
theorem k_X5_driftUp : SOk yX5_driftUp cX5_driftUp 3 (some .int) 2 := ⟨q_34_13, q_34_12, q_1_2, by decide +kernel⟩
theorem k_X1_put : VOk yX1_put cX1_put 2 (some .boolean) 1 := ⟨q_21_20, q_21_18, q_21_19, q_2_3, by decide +kernel⟩
def f_X5_told (a1 : Int64)  : Option (Int32) :=
  some (if (1000000000 : Int64) < a1 then (1000000000 : Int64) else a1).toInt32
set_option maxRecDepth 100000 in
set_option maxHeartbeats 4000000 in
theorem c_X5_told (l : Launch) (a1 : Int64) (q : Int32) (h : f_X5_told a1  = some q) : CS l yX5_told cX5_told 2 1 (some .int) [.long a1] (some (.int q)) := by
  refine CS.mkI (by decide) (Nat.le_of_ble_eq_true rfl) ?_
  intro p e s m below meth c Q B hret ls hl
  have B0 := B
  obtain ⟨hx, hb, hml, hown, hts⟩ := B0
  have hl : lv_has ls 2 [(0, .long a1)] := hl
  unfold f_X5_told at h
  refine lv_lload_n hx hb dX5_told_0 rfl (lv_at hl 0 rfl) ?_
  refine lv_ldc2 (v := (1000000000 : Int64)) hx hb hown (hts _ q_17_5) dX5_told_1 ?_
  refine va_mmin_long hx hb (hml.trans hl.1.symm) hown (hts _ q_17_6) (hts _ q_17_7) (hts _ q_7_13) (hts _ q_17_8) (Nat.le_of_ble_eq_true rfl) (Nat.le_of_ble_eq_true rfl) (Nat.le_refl _) (Nat.le_refl _) dX5_told_4 ?_
  refine lv_l2i hx hb dX5_told_7 rfl ?_
  obtain rfl := Option.some.inj h
  exact hret _ _ (vp_nar_int _) dX5_told_8

def f_X5_isTable (a1 : Int32)  : Option (Int32) :=
  if a1 < (0 : Int32) then some (0 : Int32)
  else if (5 : Int32) ≤ a1 then some (0 : Int32)
  else some (1 : Int32)
set_option maxRecDepth 100000 in
set_option maxHeartbeats 4000000 in
theorem c_X5_isTable (l : Launch) (a1 : Int32) (q : Int32) (h : f_X5_isTable a1  = some q) : CS l yX5_isTable cX5_isTable 1 0 (some .boolean) [.int a1] (some (.int q)) := by
  refine CS.mkI (by decide) (Nat.le_of_ble_eq_true rfl) ?_
  intro p e s m below meth c Q B hret ls hl
  have B0 := B
  obtain ⟨hx, hb, hml, hown, hts⟩ := B0
  have hl : lv_has ls 1 [(0, .int a1)] := hl
  unfold f_X5_isTable at h
  refine lv_iload_n hx hb dX5_isTable_0 rfl (lv_at hl 0 rfl) ?_
  refine lv_if_lt (tgt := 13) hx hb dX5_isTable_1 (by decide) (fun c1 => ?_) (fun c1 => ?_)
  · have h := ift c1 h
    refine lv_iconst (v := (0 : Int32)) hx hb dX5_isTable_13 (by decide) ?_
    obtain rfl := Option.some.inj h
    exact hret _ _ nb0 dX5_isTable_14
  · have h := ifn c1 h
    refine lv_iload_n hx hb dX5_isTable_4 rfl (lv_at hl 0 rfl) ?_
    refine lv_iconst (v := (5 : Int32)) hx hb dX5_isTable_5 (by decide) ?_
    refine lv_icmp_ge (tgt := 13) hx hb dX5_isTable_6 (by decide) (fun c2 => ?_) (fun c2 => ?_)
    · have h := ift c2 h
      refine lv_iconst (v := (0 : Int32)) hx hb dX5_isTable_13 (by decide) ?_
      obtain rfl := Option.some.inj h
      exact hret _ _ nb0 dX5_isTable_14
    · have h := ifn c2 h
      refine lv_iconst (v := (1 : Int32)) hx hb dX5_isTable_9 (by decide) ?_
      refine lv_goto (tgt := 14) hx hb dX5_isTable_10 (by decide) ?_
      obtain rfl := Option.some.inj h
      exact hret _ _ nb1 dX5_isTable_14

def f_X5_isJoin (a1 : Int32) (a2 : Int32)  : Option (Int32) :=
  bnd (f_X5_isTable a1 ) (fun q1 => if q1 = (0 : Int32) then some (0 : Int32)
  else bnd (f_X5_isTable a2 ) (fun q3 => if q3 = (0 : Int32) then some (0 : Int32)
  else if a1 = a2 then some (0 : Int32)
  else some (1 : Int32)))
set_option maxRecDepth 100000 in
set_option maxHeartbeats 4000000 in
theorem c_X5_isJoin (l : Launch) (a1 : Int32) (a2 : Int32) (q : Int32) (h : f_X5_isJoin a1 a2  = some q) : CS l yX5_isJoin cX5_isJoin 2 1 (some .boolean) [.int a1, .int a2] (some (.int q)) := by
  refine CS.mkI (by decide) (Nat.le_of_ble_eq_true rfl) ?_
  intro p e s m below meth c Q B hret ls hl
  have B0 := B
  obtain ⟨hx, hb, hml, hown, hts⟩ := B0
  have hl : lv_has ls 2 [(0, .int a1), (1, .int a2)] := hl
  unfold f_X5_isJoin at h
  refine lv_iload_n hx hb dX5_isJoin_0 rfl (lv_at hl 0 rfl) ?_
  obtain ⟨q1, e1, h⟩ := bnd_some h
  refine s_call (As := [.int a1]) (rest := []) (c_X5_isTable l a1 q1 e1) B k_X5_isTable q_5_0 rfl ⟨Nat.le_of_ble_eq_true rfl, Nat.le_of_ble_eq_true rfl⟩ ⟨Nat.le_refl _, Nat.le_refl _⟩ hl.1 rfl (Nat.le_of_ble_eq_true rfl) dX5_isJoin_1 ?_
  refine lv_if_eq (tgt := 23) hx hb dX5_isJoin_4 (by decide) (fun c2 => ?_) (fun c2 => ?_)
  · have h := ift c2 h
    refine lv_iconst (v := (0 : Int32)) hx hb dX5_isJoin_23 (by decide) ?_
    obtain rfl := Option.some.inj h
    exact hret _ _ nb0 dX5_isJoin_24
  · have h := ifn c2 h
    refine lv_iload_n hx hb dX5_isJoin_7 rfl (lv_at hl 1 rfl) ?_
    obtain ⟨q3, e3, h⟩ := bnd_some h
    refine s_call (As := [.int a2]) (rest := []) (c_X5_isTable l a2 q3 e3) B k_X5_isTable q_5_0 rfl ⟨Nat.le_of_ble_eq_true rfl, Nat.le_of_ble_eq_true rfl⟩ ⟨Nat.le_refl _, Nat.le_refl _⟩ hl.1 rfl (Nat.le_of_ble_eq_true rfl) dX5_isJoin_8 ?_
    refine lv_if_eq (tgt := 23) hx hb dX5_isJoin_11 (by decide) (fun c4 => ?_) (fun c4 => ?_)
    · have h := ift c4 h
      refine lv_iconst (v := (0 : Int32)) hx hb dX5_isJoin_23 (by decide) ?_
      obtain rfl := Option.some.inj h
      exact hret _ _ nb0 dX5_isJoin_24
    · have h := ifn c4 h
      refine lv_iload_n hx hb dX5_isJoin_14 rfl (lv_at hl 0 rfl) ?_
      refine lv_iload_n hx hb dX5_isJoin_15 rfl (lv_at hl 1 rfl) ?_
      refine lv_icmp_eq (tgt := 23) hx hb dX5_isJoin_16 (by decide) (fun c5 => ?_) (fun c5 => ?_)
      · have h := ift c5 h
        refine lv_iconst (v := (0 : Int32)) hx hb dX5_isJoin_23 (by decide) ?_
        obtain rfl := Option.some.inj h
        exact hret _ _ nb0 dX5_isJoin_24
      · have h := ifn c5 h
        refine lv_iconst (v := (1 : Int32)) hx hb dX5_isJoin_19 (by decide) ?_
        refine lv_goto (tgt := 24) hx hb dX5_isJoin_20 (by decide) ?_
        obtain rfl := Option.some.inj h
        exact hret _ _ nb1 dX5_isJoin_24

def f_X5_isSet (a1 : Int32)  : Option (Int32) :=
  if a1 ≤ (0 : Int32) then some (0 : Int32)
  else if (32 : Int32) ≤ a1 then some (0 : Int32)
  else some (1 : Int32)
set_option maxRecDepth 100000 in
set_option maxHeartbeats 4000000 in
theorem c_X5_isSet (l : Launch) (a1 : Int32) (q : Int32) (h : f_X5_isSet a1  = some q) : CS l yX5_isSet cX5_isSet 1 0 (some .boolean) [.int a1] (some (.int q)) := by
  refine CS.mkI (by decide) (Nat.le_of_ble_eq_true rfl) ?_
  intro p e s m below meth c Q B hret ls hl
  have B0 := B
  obtain ⟨hx, hb, hml, hown, hts⟩ := B0
  have hl : lv_has ls 1 [(0, .int a1)] := hl
  unfold f_X5_isSet at h
  refine lv_iload_n hx hb dX5_isSet_0 rfl (lv_at hl 0 rfl) ?_
  refine lv_if_le (tgt := 14) hx hb dX5_isSet_1 (by decide) (fun c1 => ?_) (fun c1 => ?_)
  · have h := ift c1 h
    refine lv_iconst (v := (0 : Int32)) hx hb dX5_isSet_14 (by decide) ?_
    obtain rfl := Option.some.inj h
    exact hret _ _ nb0 dX5_isSet_15
  · have h := ifn c1 h
    refine lv_iload_n hx hb dX5_isSet_4 rfl (lv_at hl 0 rfl) ?_
    refine lv_bipush (v := (32 : Int32)) hx hb dX5_isSet_5 (by decide) ?_
    refine lv_icmp_ge (tgt := 14) hx hb dX5_isSet_7 (by decide) (fun c2 => ?_) (fun c2 => ?_)
    · have h := ift c2 h
      refine lv_iconst (v := (0 : Int32)) hx hb dX5_isSet_14 (by decide) ?_
      obtain rfl := Option.some.inj h
      exact hret _ _ nb0 dX5_isSet_15
    · have h := ifn c2 h
      refine lv_iconst (v := (1 : Int32)) hx hb dX5_isSet_10 (by decide) ?_
      refine lv_goto (tgt := 15) hx hb dX5_isSet_11 (by decide) ?_
      obtain rfl := Option.some.inj h
      exact hret _ _ nb1 dX5_isSet_15

def f_X5_bit (a1 : Int32)  : Option (Int32) :=
  some ((1 : Int32) <<< (a1 &&& 31))
set_option maxRecDepth 100000 in
set_option maxHeartbeats 4000000 in
theorem c_X5_bit (l : Launch) (a1 : Int32) (q : Int32) (h : f_X5_bit a1  = some q) : CS l yX5_bit cX5_bit 1 0 (some .int) [.int a1] (some (.int q)) := by
  refine CS.mkI (by decide) (Nat.le_of_ble_eq_true rfl) ?_
  intro p e s m below meth c Q B hret ls hl
  have B0 := B
  obtain ⟨hx, hb, hml, hown, hts⟩ := B0
  have hl : lv_has ls 1 [(0, .int a1)] := hl
  unfold f_X5_bit at h
  refine lv_iconst (v := (1 : Int32)) hx hb dX5_bit_0 (by decide) ?_
  refine lv_iload_n hx hb dX5_bit_1 rfl (lv_at hl 0 rfl) ?_
  refine lv_ishl hx hb dX5_bit_2 ?_
  obtain rfl := Option.some.inj h
  exact hret _ _ (vp_nar_int _) dX5_bit_3

def f_X5_has (a1 : Int32) (a2 : Int32)  : Option (Int32) :=
  if ((a1 >>> (a2 &&& 31)) &&& (1 : Int32)) = (1 : Int32) then some (1 : Int32)
  else some (0 : Int32)
set_option maxRecDepth 100000 in
set_option maxHeartbeats 4000000 in
theorem c_X5_has (l : Launch) (a1 : Int32) (a2 : Int32) (q : Int32) (h : f_X5_has a1 a2  = some q) : CS l yX5_has cX5_has 2 0 (some .boolean) [.int a1, .int a2] (some (.int q)) := by
  refine CS.mkI (by decide) (Nat.le_of_ble_eq_true rfl) ?_
  intro p e s m below meth c Q B hret ls hl
  have B0 := B
  obtain ⟨hx, hb, hml, hown, hts⟩ := B0
  have hl : lv_has ls 2 [(0, .int a1), (1, .int a2)] := hl
  unfold f_X5_has at h
  refine lv_iload_n hx hb dX5_has_0 rfl (lv_at hl 0 rfl) ?_
  refine lv_iload_n hx hb dX5_has_1 rfl (lv_at hl 1 rfl) ?_
  refine lv_ishr hx hb dX5_has_2 ?_
  refine lv_iconst (v := (1 : Int32)) hx hb dX5_has_3 (by decide) ?_
  refine lv_iand hx hb dX5_has_4 ?_
  refine lv_iconst (v := (1 : Int32)) hx hb dX5_has_5 (by decide) ?_
  refine lv_icmp_ne (tgt := 13) hx hb dX5_has_6 (by decide) (fun c1 => ?_) (fun c1 => ?_)
  · have h := ifn c1 h
    refine lv_iconst (v := (0 : Int32)) hx hb dX5_has_13 (by decide) ?_
    obtain rfl := Option.some.inj h
    exact hret _ _ nb0 dX5_has_14
  · have h := ift c1 h
    refine lv_iconst (v := (1 : Int32)) hx hb dX5_has_9 (by decide) ?_
    refine lv_goto (tgt := 14) hx hb dX5_has_10 (by decide) ?_
    obtain rfl := Option.some.inj h
    exact hret _ _ nb1 dX5_has_14

def f_X5_hasAll (a1 : Int32) (a2 : Int32)  : Option (Int32) :=
  if (a1 &&& a2) = a2 then some (1 : Int32)
  else some (0 : Int32)
set_option maxRecDepth 100000 in
set_option maxHeartbeats 4000000 in
theorem c_X5_hasAll (l : Launch) (a1 : Int32) (a2 : Int32) (q : Int32) (h : f_X5_hasAll a1 a2  = some q) : CS l yX5_hasAll cX5_hasAll 2 0 (some .boolean) [.int a1, .int a2] (some (.int q)) := by
  refine CS.mkI (by decide) (Nat.le_of_ble_eq_true rfl) ?_
  intro p e s m below meth c Q B hret ls hl
  have B0 := B
  obtain ⟨hx, hb, hml, hown, hts⟩ := B0
  have hl : lv_has ls 2 [(0, .int a1), (1, .int a2)] := hl
  unfold f_X5_hasAll at h
  refine lv_iload_n hx hb dX5_hasAll_0 rfl (lv_at hl 0 rfl) ?_
  refine lv_iload_n hx hb dX5_hasAll_1 rfl (lv_at hl 1 rfl) ?_
  refine lv_iand hx hb dX5_hasAll_2 ?_
  refine lv_iload_n hx hb dX5_hasAll_3 rfl (lv_at hl 1 rfl) ?_
  refine lv_icmp_ne (tgt := 11) hx hb dX5_hasAll_4 (by decide) (fun c1 => ?_) (fun c1 => ?_)
  · have h := ifn c1 h
    refine lv_iconst (v := (0 : Int32)) hx hb dX5_hasAll_11 (by decide) ?_
    obtain rfl := Option.some.inj h
    exact hret _ _ nb0 dX5_hasAll_12
  · have h := ift c1 h
    refine lv_iconst (v := (1 : Int32)) hx hb dX5_hasAll_7 (by decide) ?_
    refine lv_goto (tgt := 12) hx hb dX5_hasAll_8 (by decide) ?_
    obtain rfl := Option.some.inj h
    exact hret _ _ nb1 dX5_hasAll_12

def f_J6_bitCount_0f7a4 (a1 : Int32)  : Option (Int32) :=
  some ((((((((a1 - ((a1.toUInt32 >>> ((1 : Int32).toUInt32 &&& Int32.toUInt32 31)).toInt32 &&& (1431655765 : Int32))) &&& (858993459 : Int32)) + (((a1 - ((a1.toUInt32 >>> ((1 : Int32).toUInt32 &&& Int32.toUInt32 31)).toInt32 &&& (1431655765 : Int32))).toUInt32 >>> ((2 : Int32).toUInt32 &&& Int32.toUInt32 31)).toInt32 &&& (858993459 : Int32))) + ((((a1 - ((a1.toUInt32 >>> ((1 : Int32).toUInt32 &&& Int32.toUInt32 31)).toInt32 &&& (1431655765 : Int32))) &&& (858993459 : Int32)) + (((a1 - ((a1.toUInt32 >>> ((1 : Int32).toUInt32 &&& Int32.toUInt32 31)).toInt32 &&& (1431655765 : Int32))).toUInt32 >>> ((2 : Int32).toUInt32 &&& Int32.toUInt32 31)).toInt32 &&& (858993459 : Int32))).toUInt32 >>> ((4 : Int32).toUInt32 &&& Int32.toUInt32 31)).toInt32) &&& (252645135 : Int32)) + ((((((a1 - ((a1.toUInt32 >>> ((1 : Int32).toUInt32 &&& Int32.toUInt32 31)).toInt32 &&& (1431655765 : Int32))) &&& (858993459 : Int32)) + (((a1 - ((a1.toUInt32 >>> ((1 : Int32).toUInt32 &&& Int32.toUInt32 31)).toInt32 &&& (1431655765 : Int32))).toUInt32 >>> ((2 : Int32).toUInt32 &&& Int32.toUInt32 31)).toInt32 &&& (858993459 : Int32))) + ((((a1 - ((a1.toUInt32 >>> ((1 : Int32).toUInt32 &&& Int32.toUInt32 31)).toInt32 &&& (1431655765 : Int32))) &&& (858993459 : Int32)) + (((a1 - ((a1.toUInt32 >>> ((1 : Int32).toUInt32 &&& Int32.toUInt32 31)).toInt32 &&& (1431655765 : Int32))).toUInt32 >>> ((2 : Int32).toUInt32 &&& Int32.toUInt32 31)).toInt32 &&& (858993459 : Int32))).toUInt32 >>> ((4 : Int32).toUInt32 &&& Int32.toUInt32 31)).toInt32) &&& (252645135 : Int32)).toUInt32 >>> ((8 : Int32).toUInt32 &&& Int32.toUInt32 31)).toInt32) + (((((((a1 - ((a1.toUInt32 >>> ((1 : Int32).toUInt32 &&& Int32.toUInt32 31)).toInt32 &&& (1431655765 : Int32))) &&& (858993459 : Int32)) + (((a1 - ((a1.toUInt32 >>> ((1 : Int32).toUInt32 &&& Int32.toUInt32 31)).toInt32 &&& (1431655765 : Int32))).toUInt32 >>> ((2 : Int32).toUInt32 &&& Int32.toUInt32 31)).toInt32 &&& (858993459 : Int32))) + ((((a1 - ((a1.toUInt32 >>> ((1 : Int32).toUInt32 &&& Int32.toUInt32 31)).toInt32 &&& (1431655765 : Int32))) &&& (858993459 : Int32)) + (((a1 - ((a1.toUInt32 >>> ((1 : Int32).toUInt32 &&& Int32.toUInt32 31)).toInt32 &&& (1431655765 : Int32))).toUInt32 >>> ((2 : Int32).toUInt32 &&& Int32.toUInt32 31)).toInt32 &&& (858993459 : Int32))).toUInt32 >>> ((4 : Int32).toUInt32 &&& Int32.toUInt32 31)).toInt32) &&& (252645135 : Int32)) + ((((((a1 - ((a1.toUInt32 >>> ((1 : Int32).toUInt32 &&& Int32.toUInt32 31)).toInt32 &&& (1431655765 : Int32))) &&& (858993459 : Int32)) + (((a1 - ((a1.toUInt32 >>> ((1 : Int32).toUInt32 &&& Int32.toUInt32 31)).toInt32 &&& (1431655765 : Int32))).toUInt32 >>> ((2 : Int32).toUInt32 &&& Int32.toUInt32 31)).toInt32 &&& (858993459 : Int32))) + ((((a1 - ((a1.toUInt32 >>> ((1 : Int32).toUInt32 &&& Int32.toUInt32 31)).toInt32 &&& (1431655765 : Int32))) &&& (858993459 : Int32)) + (((a1 - ((a1.toUInt32 >>> ((1 : Int32).toUInt32 &&& Int32.toUInt32 31)).toInt32 &&& (1431655765 : Int32))).toUInt32 >>> ((2 : Int32).toUInt32 &&& Int32.toUInt32 31)).toInt32 &&& (858993459 : Int32))).toUInt32 >>> ((4 : Int32).toUInt32 &&& Int32.toUInt32 31)).toInt32) &&& (252645135 : Int32)).toUInt32 >>> ((8 : Int32).toUInt32 &&& Int32.toUInt32 31)).toInt32).toUInt32 >>> ((16 : Int32).toUInt32 &&& Int32.toUInt32 31)).toInt32) &&& (63 : Int32))
set_option maxRecDepth 100000 in
set_option maxHeartbeats 4000000 in
theorem c_J6_bitCount_0f7a4 (l : Launch) (a1 : Int32) (q : Int32) (h : f_J6_bitCount_0f7a4 a1  = some q) : CS l yJ6_bitCount_0f7a4 cJ6_bitCount_0f7a4 1 0 (some .int) [.int a1] (some (.int q)) := by
  refine CS.mkI (by decide) (Nat.le_of_ble_eq_true rfl) ?_
  intro p e s m below meth c Q B hret ls hl
  have B0 := B
  obtain ⟨hx, hb, hml, hown, hts⟩ := B0
  have hl : lv_has ls 1 [(0, .int a1)] := hl
  unfold f_J6_bitCount_0f7a4 at h
  refine lv_iload_n hx hb dJ6_bitCount_0f7a4_0 rfl (lv_at hl 0 rfl) ?_
  refine lv_iload_n hx hb dJ6_bitCount_0f7a4_1 rfl (lv_at hl 0 rfl) ?_
  refine lv_iconst (v := (1 : Int32)) hx hb dJ6_bitCount_0f7a4_2 (by decide) ?_
  refine lv_iushr hx hb dJ6_bitCount_0f7a4_3 rfl ?_
  refine lv_ldcw (v := (1431655765 : Int32)) hx hb hown (hts _ q_15_22) dJ6_bitCount_0f7a4_4 ?_
  refine lv_iand hx hb dJ6_bitCount_0f7a4_7 ?_
  refine lv_isub hx hb dJ6_bitCount_0f7a4_8 ?_
  refine lv_istore_n (lv' := [(0, .int (a1 - ((a1.toUInt32 >>> ((1 : Int32).toUInt32 &&& Int32.toUInt32 31)).toInt32 &&& (1431655765 : Int32))))]) hx hb dJ6_bitCount_0f7a4_9 rfl hl (by decide) rfl (fun ls hl => ?_)
  refine lv_iload_n hx hb dJ6_bitCount_0f7a4_10 rfl (lv_at hl 0 rfl) ?_
  refine lv_ldcw (v := (858993459 : Int32)) hx hb hown (hts _ q_15_23) dJ6_bitCount_0f7a4_11 ?_
  refine lv_iand hx hb dJ6_bitCount_0f7a4_14 ?_
  refine lv_iload_n hx hb dJ6_bitCount_0f7a4_15 rfl (lv_at hl 0 rfl) ?_
  refine lv_iconst (v := (2 : Int32)) hx hb dJ6_bitCount_0f7a4_16 (by decide) ?_
  refine lv_iushr hx hb dJ6_bitCount_0f7a4_17 rfl ?_
  refine lv_ldcw (v := (858993459 : Int32)) hx hb hown (hts _ q_15_23) dJ6_bitCount_0f7a4_18 ?_
  refine lv_iand hx hb dJ6_bitCount_0f7a4_21 ?_
  refine lv_iadd hx hb dJ6_bitCount_0f7a4_22 ?_
  refine lv_istore_n (lv' := [(0, .int (((a1 - ((a1.toUInt32 >>> ((1 : Int32).toUInt32 &&& Int32.toUInt32 31)).toInt32 &&& (1431655765 : Int32))) &&& (858993459 : Int32)) + (((a1 - ((a1.toUInt32 >>> ((1 : Int32).toUInt32 &&& Int32.toUInt32 31)).toInt32 &&& (1431655765 : Int32))).toUInt32 >>> ((2 : Int32).toUInt32 &&& Int32.toUInt32 31)).toInt32 &&& (858993459 : Int32))))]) hx hb dJ6_bitCount_0f7a4_23 rfl hl (by decide) rfl (fun ls hl => ?_)
  refine lv_iload_n hx hb dJ6_bitCount_0f7a4_24 rfl (lv_at hl 0 rfl) ?_
  refine lv_iload_n hx hb dJ6_bitCount_0f7a4_25 rfl (lv_at hl 0 rfl) ?_
  refine lv_iconst (v := (4 : Int32)) hx hb dJ6_bitCount_0f7a4_26 (by decide) ?_
  refine lv_iushr hx hb dJ6_bitCount_0f7a4_27 rfl ?_
  refine lv_iadd hx hb dJ6_bitCount_0f7a4_28 ?_
  refine lv_ldcw (v := (252645135 : Int32)) hx hb hown (hts _ q_16_0) dJ6_bitCount_0f7a4_29 ?_
  refine lv_iand hx hb dJ6_bitCount_0f7a4_32 ?_
  refine lv_istore_n (lv' := [(0, .int (((((a1 - ((a1.toUInt32 >>> ((1 : Int32).toUInt32 &&& Int32.toUInt32 31)).toInt32 &&& (1431655765 : Int32))) &&& (858993459 : Int32)) + (((a1 - ((a1.toUInt32 >>> ((1 : Int32).toUInt32 &&& Int32.toUInt32 31)).toInt32 &&& (1431655765 : Int32))).toUInt32 >>> ((2 : Int32).toUInt32 &&& Int32.toUInt32 31)).toInt32 &&& (858993459 : Int32))) + ((((a1 - ((a1.toUInt32 >>> ((1 : Int32).toUInt32 &&& Int32.toUInt32 31)).toInt32 &&& (1431655765 : Int32))) &&& (858993459 : Int32)) + (((a1 - ((a1.toUInt32 >>> ((1 : Int32).toUInt32 &&& Int32.toUInt32 31)).toInt32 &&& (1431655765 : Int32))).toUInt32 >>> ((2 : Int32).toUInt32 &&& Int32.toUInt32 31)).toInt32 &&& (858993459 : Int32))).toUInt32 >>> ((4 : Int32).toUInt32 &&& Int32.toUInt32 31)).toInt32) &&& (252645135 : Int32)))]) hx hb dJ6_bitCount_0f7a4_33 rfl hl (by decide) rfl (fun ls hl => ?_)
  refine lv_iload_n hx hb dJ6_bitCount_0f7a4_34 rfl (lv_at hl 0 rfl) ?_
  refine lv_iload_n hx hb dJ6_bitCount_0f7a4_35 rfl (lv_at hl 0 rfl) ?_
  refine lv_bipush (v := (8 : Int32)) hx hb dJ6_bitCount_0f7a4_36 (by decide) ?_
  refine lv_iushr hx hb dJ6_bitCount_0f7a4_38 rfl ?_
  refine lv_iadd hx hb dJ6_bitCount_0f7a4_39 ?_
  refine lv_istore_n (lv' := [(0, .int ((((((a1 - ((a1.toUInt32 >>> ((1 : Int32).toUInt32 &&& Int32.toUInt32 31)).toInt32 &&& (1431655765 : Int32))) &&& (858993459 : Int32)) + (((a1 - ((a1.toUInt32 >>> ((1 : Int32).toUInt32 &&& Int32.toUInt32 31)).toInt32 &&& (1431655765 : Int32))).toUInt32 >>> ((2 : Int32).toUInt32 &&& Int32.toUInt32 31)).toInt32 &&& (858993459 : Int32))) + ((((a1 - ((a1.toUInt32 >>> ((1 : Int32).toUInt32 &&& Int32.toUInt32 31)).toInt32 &&& (1431655765 : Int32))) &&& (858993459 : Int32)) + (((a1 - ((a1.toUInt32 >>> ((1 : Int32).toUInt32 &&& Int32.toUInt32 31)).toInt32 &&& (1431655765 : Int32))).toUInt32 >>> ((2 : Int32).toUInt32 &&& Int32.toUInt32 31)).toInt32 &&& (858993459 : Int32))).toUInt32 >>> ((4 : Int32).toUInt32 &&& Int32.toUInt32 31)).toInt32) &&& (252645135 : Int32)) + ((((((a1 - ((a1.toUInt32 >>> ((1 : Int32).toUInt32 &&& Int32.toUInt32 31)).toInt32 &&& (1431655765 : Int32))) &&& (858993459 : Int32)) + (((a1 - ((a1.toUInt32 >>> ((1 : Int32).toUInt32 &&& Int32.toUInt32 31)).toInt32 &&& (1431655765 : Int32))).toUInt32 >>> ((2 : Int32).toUInt32 &&& Int32.toUInt32 31)).toInt32 &&& (858993459 : Int32))) + ((((a1 - ((a1.toUInt32 >>> ((1 : Int32).toUInt32 &&& Int32.toUInt32 31)).toInt32 &&& (1431655765 : Int32))) &&& (858993459 : Int32)) + (((a1 - ((a1.toUInt32 >>> ((1 : Int32).toUInt32 &&& Int32.toUInt32 31)).toInt32 &&& (1431655765 : Int32))).toUInt32 >>> ((2 : Int32).toUInt32 &&& Int32.toUInt32 31)).toInt32 &&& (858993459 : Int32))).toUInt32 >>> ((4 : Int32).toUInt32 &&& Int32.toUInt32 31)).toInt32) &&& (252645135 : Int32)).toUInt32 >>> ((8 : Int32).toUInt32 &&& Int32.toUInt32 31)).toInt32))]) hx hb dJ6_bitCount_0f7a4_40 rfl hl (by decide) rfl (fun ls hl => ?_)
  refine lv_iload_n hx hb dJ6_bitCount_0f7a4_41 rfl (lv_at hl 0 rfl) ?_
  refine lv_iload_n hx hb dJ6_bitCount_0f7a4_42 rfl (lv_at hl 0 rfl) ?_
  refine lv_bipush (v := (16 : Int32)) hx hb dJ6_bitCount_0f7a4_43 (by decide) ?_
  refine lv_iushr hx hb dJ6_bitCount_0f7a4_45 rfl ?_
  refine lv_iadd hx hb dJ6_bitCount_0f7a4_46 ?_
  refine lv_istore_n (lv' := [(0, .int (((((((a1 - ((a1.toUInt32 >>> ((1 : Int32).toUInt32 &&& Int32.toUInt32 31)).toInt32 &&& (1431655765 : Int32))) &&& (858993459 : Int32)) + (((a1 - ((a1.toUInt32 >>> ((1 : Int32).toUInt32 &&& Int32.toUInt32 31)).toInt32 &&& (1431655765 : Int32))).toUInt32 >>> ((2 : Int32).toUInt32 &&& Int32.toUInt32 31)).toInt32 &&& (858993459 : Int32))) + ((((a1 - ((a1.toUInt32 >>> ((1 : Int32).toUInt32 &&& Int32.toUInt32 31)).toInt32 &&& (1431655765 : Int32))) &&& (858993459 : Int32)) + (((a1 - ((a1.toUInt32 >>> ((1 : Int32).toUInt32 &&& Int32.toUInt32 31)).toInt32 &&& (1431655765 : Int32))).toUInt32 >>> ((2 : Int32).toUInt32 &&& Int32.toUInt32 31)).toInt32 &&& (858993459 : Int32))).toUInt32 >>> ((4 : Int32).toUInt32 &&& Int32.toUInt32 31)).toInt32) &&& (252645135 : Int32)) + ((((((a1 - ((a1.toUInt32 >>> ((1 : Int32).toUInt32 &&& Int32.toUInt32 31)).toInt32 &&& (1431655765 : Int32))) &&& (858993459 : Int32)) + (((a1 - ((a1.toUInt32 >>> ((1 : Int32).toUInt32 &&& Int32.toUInt32 31)).toInt32 &&& (1431655765 : Int32))).toUInt32 >>> ((2 : Int32).toUInt32 &&& Int32.toUInt32 31)).toInt32 &&& (858993459 : Int32))) + ((((a1 - ((a1.toUInt32 >>> ((1 : Int32).toUInt32 &&& Int32.toUInt32 31)).toInt32 &&& (1431655765 : Int32))) &&& (858993459 : Int32)) + (((a1 - ((a1.toUInt32 >>> ((1 : Int32).toUInt32 &&& Int32.toUInt32 31)).toInt32 &&& (1431655765 : Int32))).toUInt32 >>> ((2 : Int32).toUInt32 &&& Int32.toUInt32 31)).toInt32 &&& (858993459 : Int32))).toUInt32 >>> ((4 : Int32).toUInt32 &&& Int32.toUInt32 31)).toInt32) &&& (252645135 : Int32)).toUInt32 >>> ((8 : Int32).toUInt32 &&& Int32.toUInt32 31)).toInt32) + (((((((a1 - ((a1.toUInt32 >>> ((1 : Int32).toUInt32 &&& Int32.toUInt32 31)).toInt32 &&& (1431655765 : Int32))) &&& (858993459 : Int32)) + (((a1 - ((a1.toUInt32 >>> ((1 : Int32).toUInt32 &&& Int32.toUInt32 31)).toInt32 &&& (1431655765 : Int32))).toUInt32 >>> ((2 : Int32).toUInt32 &&& Int32.toUInt32 31)).toInt32 &&& (858993459 : Int32))) + ((((a1 - ((a1.toUInt32 >>> ((1 : Int32).toUInt32 &&& Int32.toUInt32 31)).toInt32 &&& (1431655765 : Int32))) &&& (858993459 : Int32)) + (((a1 - ((a1.toUInt32 >>> ((1 : Int32).toUInt32 &&& Int32.toUInt32 31)).toInt32 &&& (1431655765 : Int32))).toUInt32 >>> ((2 : Int32).toUInt32 &&& Int32.toUInt32 31)).toInt32 &&& (858993459 : Int32))).toUInt32 >>> ((4 : Int32).toUInt32 &&& Int32.toUInt32 31)).toInt32) &&& (252645135 : Int32)) + ((((((a1 - ((a1.toUInt32 >>> ((1 : Int32).toUInt32 &&& Int32.toUInt32 31)).toInt32 &&& (1431655765 : Int32))) &&& (858993459 : Int32)) + (((a1 - ((a1.toUInt32 >>> ((1 : Int32).toUInt32 &&& Int32.toUInt32 31)).toInt32 &&& (1431655765 : Int32))).toUInt32 >>> ((2 : Int32).toUInt32 &&& Int32.toUInt32 31)).toInt32 &&& (858993459 : Int32))) + ((((a1 - ((a1.toUInt32 >>> ((1 : Int32).toUInt32 &&& Int32.toUInt32 31)).toInt32 &&& (1431655765 : Int32))) &&& (858993459 : Int32)) + (((a1 - ((a1.toUInt32 >>> ((1 : Int32).toUInt32 &&& Int32.toUInt32 31)).toInt32 &&& (1431655765 : Int32))).toUInt32 >>> ((2 : Int32).toUInt32 &&& Int32.toUInt32 31)).toInt32 &&& (858993459 : Int32))).toUInt32 >>> ((4 : Int32).toUInt32 &&& Int32.toUInt32 31)).toInt32) &&& (252645135 : Int32)).toUInt32 >>> ((8 : Int32).toUInt32 &&& Int32.toUInt32 31)).toInt32).toUInt32 >>> ((16 : Int32).toUInt32 &&& Int32.toUInt32 31)).toInt32))]) hx hb dJ6_bitCount_0f7a4_47 rfl hl (by decide) rfl (fun ls hl => ?_)
  refine lv_iload_n hx hb dJ6_bitCount_0f7a4_48 rfl (lv_at hl 0 rfl) ?_
  refine lv_bipush (v := (63 : Int32)) hx hb dJ6_bitCount_0f7a4_49 (by decide) ?_
  refine lv_iand hx hb dJ6_bitCount_0f7a4_51 ?_
  obtain rfl := Option.some.inj h
  exact hret _ _ (vp_nar_int _) dJ6_bitCount_0f7a4_52

def f_X5_makingCost (a1 : Int32)  : Option (Int64) :=
  bnd (f_J6_bitCount_0f7a4 a1 ) (fun q1 => some ((10 : Int64) * q1.toInt64))
set_option maxRecDepth 100000 in
set_option maxHeartbeats 4000000 in
theorem c_X5_makingCost (l : Launch) (a1 : Int32) (q : Int64) (h : f_X5_makingCost a1  = some q) : CS l yX5_makingCost cX5_makingCost 1 1 (some .long) [.int a1] (some (.long q)) := by
  refine CS.mkL (by decide) (Nat.le_of_ble_eq_true rfl) ?_
  intro p e s m below meth c Q B hret ls hl
  have B0 := B
  obtain ⟨hx, hb, hml, hown, hts⟩ := B0
  have hl : lv_has ls 1 [(0, .int a1)] := hl
  unfold f_X5_makingCost at h
  refine lv_ldc2 (v := (10 : Int64)) hx hb hown (hts _ q_15_17) dX5_makingCost_0 ?_
  refine lv_iload_n hx hb dX5_makingCost_3 rfl (lv_at hl 0 rfl) ?_
  obtain ⟨q1, e1, h⟩ := bnd_some h
  refine s_call (As := [.int a1]) (rest := [.long (10 : Int64)]) (c_J6_bitCount_0f7a4 l a1 q1 e1) B k_J6_bitCount_0f7a4 q_15_18 rfl ⟨Nat.le_of_ble_eq_true rfl, Nat.le_of_ble_eq_true rfl⟩ ⟨Nat.le_refl _, Nat.le_refl _⟩ hl.1 rfl (Nat.le_of_ble_eq_true rfl) dX5_makingCost_4 ?_
  refine lv_i2l hx hb dX5_makingCost_7 rfl ?_
  refine lv_lmul hx hb dX5_makingCost_8 ?_
  obtain rfl := Option.some.inj h
  exact hret _ _ dX5_makingCost_9

def f_X5_longerOrder (a1 : Int32) (a2 : Int32)  : Option (Int32) :=
  some ((a1 <<< ((3 : Int32) &&& 31)) + a2)
set_option maxRecDepth 100000 in
set_option maxHeartbeats 4000000 in
theorem c_X5_longerOrder (l : Launch) (a1 : Int32) (a2 : Int32) (q : Int32) (h : f_X5_longerOrder a1 a2  = some q) : CS l yX5_longerOrder cX5_longerOrder 2 0 (some .int) [.int a1, .int a2] (some (.int q)) := by
  refine CS.mkI (by decide) (Nat.le_of_ble_eq_true rfl) ?_
  intro p e s m below meth c Q B hret ls hl
  have B0 := B
  obtain ⟨hx, hb, hml, hown, hts⟩ := B0
  have hl : lv_has ls 2 [(0, .int a1), (1, .int a2)] := hl
  unfold f_X5_longerOrder at h
  refine lv_iload_n hx hb dX5_longerOrder_0 rfl (lv_at hl 0 rfl) ?_
  refine lv_iconst (v := (3 : Int32)) hx hb dX5_longerOrder_1 (by decide) ?_
  refine lv_ishl hx hb dX5_longerOrder_2 ?_
  refine lv_iload_n hx hb dX5_longerOrder_3 rfl (lv_at hl 1 rfl) ?_
  refine lv_iadd hx hb dX5_longerOrder_4 ?_
  obtain rfl := Option.some.inj h
  exact hret _ _ (vp_nar_int _) dX5_longerOrder_5

def f_X5_tableAt (a1 : Int32) (a2 : Int32) (a3 : Int32)  : Option (Int32) :=
  some ((a1 >>> (((3 : Int32) * ((a2 - (1 : Int32)) - a3)) &&& 31)) &&& (7 : Int32))
set_option maxRecDepth 100000 in
set_option maxHeartbeats 4000000 in
theorem c_X5_tableAt (l : Launch) (a1 : Int32) (a2 : Int32) (a3 : Int32) (q : Int32) (h : f_X5_tableAt a1 a2 a3  = some q) : CS l yX5_tableAt cX5_tableAt 3 0 (some .int) [.int a1, .int a2, .int a3] (some (.int q)) := by
  refine CS.mkI (by decide) (Nat.le_of_ble_eq_true rfl) ?_
  intro p e s m below meth c Q B hret ls hl
  have B0 := B
  obtain ⟨hx, hb, hml, hown, hts⟩ := B0
  have hl : lv_has ls 3 [(0, .int a1), (1, .int a2), (2, .int a3)] := hl
  unfold f_X5_tableAt at h
  refine lv_iload_n hx hb dX5_tableAt_0 rfl (lv_at hl 0 rfl) ?_
  refine lv_iconst (v := (3 : Int32)) hx hb dX5_tableAt_1 (by decide) ?_
  refine lv_iload_n hx hb dX5_tableAt_2 rfl (lv_at hl 1 rfl) ?_
  refine lv_iconst (v := (1 : Int32)) hx hb dX5_tableAt_3 (by decide) ?_
  refine lv_isub hx hb dX5_tableAt_4 ?_
  refine lv_iload_n hx hb dX5_tableAt_5 rfl (lv_at hl 2 rfl) ?_
  refine lv_isub hx hb dX5_tableAt_6 ?_
  refine lv_imul hx hb dX5_tableAt_7 ?_
  refine lv_ishr hx hb dX5_tableAt_8 ?_
  refine lv_bipush (v := (7 : Int32)) hx hb dX5_tableAt_9 (by decide) ?_
  refine lv_iand hx hb dX5_tableAt_11 ?_
  obtain rfl := Option.some.inj h
  exact hret _ _ (vp_nar_int _) dX5_tableAt_12

def f_X5_driftDown (a1 : Int32) (a2 : Int32)  : Option (Int32) :=
  if (if a2 < a1 then a2 else a1) ≤ (0 : Int32) then some (0 : Int32)
  else grd (!decide ((if a2 < a1 then a2 else a1) = 0)) (some (((if a1 < a2 then a2 else a1) * (100 : Int32)) / (if a2 < a1 then a2 else a1)))
set_option maxRecDepth 100000 in
set_option maxHeartbeats 4000000 in
theorem c_X5_driftDown (l : Launch) (a1 : Int32) (a2 : Int32) (q : Int32) (h : f_X5_driftDown a1 a2  = some q) : CS l yX5_driftDown cX5_driftDown 3 1 (some .int) [.int a1, .int a2] (some (.int q)) := by
  refine CS.mkI (by decide) (Nat.le_of_ble_eq_true rfl) ?_
  intro p e s m below meth c Q B hret ls hl
  have B0 := B
  obtain ⟨hx, hb, hml, hown, hts⟩ := B0
  have hl : lv_has ls 3 [(0, .int a1), (1, .int a2)] := hl
  unfold f_X5_driftDown at h
  refine lv_iload_n hx hb dX5_driftDown_0 rfl (lv_at hl 0 rfl) ?_
  refine lv_iload_n hx hb dX5_driftDown_1 rfl (lv_at hl 1 rfl) ?_
  refine va_mmin hx hb (hml.trans hl.1.symm) hown (hts _ q_27_18) (hts _ q_8_15) (hts _ q_7_13) (hts _ q_8_16) (Nat.le_of_ble_eq_true rfl) (Nat.le_of_ble_eq_true rfl) (Nat.le_refl _) (Nat.le_refl _) dX5_driftDown_2 ?_
  refine lv_istore_n (lv' := [(2, .int (if a2 < a1 then a2 else a1)), (0, .int a1), (1, .int a2)]) hx hb dX5_driftDown_5 rfl hl (by decide) rfl (fun ls hl => ?_)
  refine lv_iload_n hx hb dX5_driftDown_6 rfl (lv_at hl 0 rfl) ?_
  refine lv_if_le (tgt := 23) hx hb dX5_driftDown_7 (by decide) (fun c1 => ?_) (fun c1 => ?_)
  · have h := ift c1 h
    refine lv_iconst (v := (0 : Int32)) hx hb dX5_driftDown_23 (by decide) ?_
    obtain rfl := Option.some.inj h
    exact hret _ _ (vp_nar_int _) dX5_driftDown_24
  · have h := ifn c1 h
    refine lv_iload_n hx hb dX5_driftDown_10 rfl (lv_at hl 1 rfl) ?_
    refine lv_iload_n hx hb dX5_driftDown_11 rfl (lv_at hl 2 rfl) ?_
    refine va_mmax hx hb (hml.trans hl.1.symm) hown (hts _ q_27_19) (hts _ q_7_12) (hts _ q_7_13) (hts _ q_7_14) (Nat.le_of_ble_eq_true rfl) (Nat.le_of_ble_eq_true rfl) (Nat.le_refl _) (Nat.le_refl _) dX5_driftDown_12 ?_
    refine lv_bipush (v := (100 : Int32)) hx hb dX5_driftDown_15 (by decide) ?_
    refine lv_imul hx hb dX5_driftDown_17 ?_
    refine lv_iload_n hx hb dX5_driftDown_18 rfl (lv_at hl 0 rfl) ?_
    obtain ⟨g2, h⟩ := grd_some h
    refine lv_idiv hx hb dX5_driftDown_19 (by simpa using g2) ?_
    refine lv_goto (tgt := 24) hx hb dX5_driftDown_20 (by decide) ?_
    obtain rfl := Option.some.inj h
    exact hret _ _ (vp_nar_int _) dX5_driftDown_24

def f_X5_driftUp (a1 : Int32) (a2 : Int32)  : Option (Int32) :=
  if (if a2 < a1 then a2 else a1) ≤ (0 : Int32) then some (0 : Int32)
  else grd (!decide ((if a2 < a1 then a2 else a1) = 0)) (some (((((if a1 < a2 then a2 else a1) * (100 : Int32)) + (if a2 < a1 then a2 else a1)) - (1 : Int32)) / (if a2 < a1 then a2 else a1)))
set_option maxRecDepth 100000 in
set_option maxHeartbeats 4000000 in
theorem c_X5_driftUp (l : Launch) (a1 : Int32) (a2 : Int32) (q : Int32) (h : f_X5_driftUp a1 a2  = some q) : CS l yX5_driftUp cX5_driftUp 3 1 (some .int) [.int a1, .int a2] (some (.int q)) := by
  refine CS.mkI (by decide) (Nat.le_of_ble_eq_true rfl) ?_
  intro p e s m below meth c Q B hret ls hl
  have B0 := B
  obtain ⟨hx, hb, hml, hown, hts⟩ := B0
  have hl : lv_has ls 3 [(0, .int a1), (1, .int a2)] := hl
  unfold f_X5_driftUp at h
  refine lv_iload_n hx hb dX5_driftUp_0 rfl (lv_at hl 0 rfl) ?_
  refine lv_iload_n hx hb dX5_driftUp_1 rfl (lv_at hl 1 rfl) ?_
  refine va_mmin hx hb (hml.trans hl.1.symm) hown (hts _ q_27_18) (hts _ q_8_15) (hts _ q_7_13) (hts _ q_8_16) (Nat.le_of_ble_eq_true rfl) (Nat.le_of_ble_eq_true rfl) (Nat.le_refl _) (Nat.le_refl _) dX5_driftUp_2 ?_
  refine lv_istore_n (lv' := [(2, .int (if a2 < a1 then a2 else a1)), (0, .int a1), (1, .int a2)]) hx hb dX5_driftUp_5 rfl hl (by decide) rfl (fun ls hl => ?_)
  refine lv_iload_n hx hb dX5_driftUp_6 rfl (lv_at hl 0 rfl) ?_
  refine lv_if_le (tgt := 27) hx hb dX5_driftUp_7 (by decide) (fun c1 => ?_) (fun c1 => ?_)
  · have h := ift c1 h
    refine lv_iconst (v := (0 : Int32)) hx hb dX5_driftUp_27 (by decide) ?_
    obtain rfl := Option.some.inj h
    exact hret _ _ (vp_nar_int _) dX5_driftUp_28
  · have h := ifn c1 h
    refine lv_iload_n hx hb dX5_driftUp_10 rfl (lv_at hl 1 rfl) ?_
    refine lv_iload_n hx hb dX5_driftUp_11 rfl (lv_at hl 2 rfl) ?_
    refine va_mmax hx hb (hml.trans hl.1.symm) hown (hts _ q_27_19) (hts _ q_7_12) (hts _ q_7_13) (hts _ q_7_14) (Nat.le_of_ble_eq_true rfl) (Nat.le_of_ble_eq_true rfl) (Nat.le_refl _) (Nat.le_refl _) dX5_driftUp_12 ?_
    refine lv_bipush (v := (100 : Int32)) hx hb dX5_driftUp_15 (by decide) ?_
    refine lv_imul hx hb dX5_driftUp_17 ?_
    refine lv_iload_n hx hb dX5_driftUp_18 rfl (lv_at hl 0 rfl) ?_
    refine lv_iadd hx hb dX5_driftUp_19 ?_
    refine lv_iconst (v := (1 : Int32)) hx hb dX5_driftUp_20 (by decide) ?_
    refine lv_isub hx hb dX5_driftUp_21 ?_
    refine lv_iload_n hx hb dX5_driftUp_22 rfl (lv_at hl 0 rfl) ?_
    obtain ⟨g2, h⟩ := grd_some h
    refine lv_idiv hx hb dX5_driftUp_23 (by simpa using g2) ?_
    refine lv_goto (tgt := 28) hx hb dX5_driftUp_24 (by decide) ?_
    obtain rfl := Option.some.inj h
    exact hret _ _ (vp_nar_int _) dX5_driftUp_28

def f_X1_put (a1 : Int32) (r_signs : Nat → Int32) (r_length : Int32) : Option (Int32 × (Nat → Int32) × (Int32)) :=
  if r_length < (0 : Int32) then some ((0 : Int32), r_signs, r_length)
  else if r_length < (60 : Int32) then grd (inb r_length 60) (some ((1 : Int32), (upd r_signs r_length.toNatClampNeg (vp_nar .char a1)), (r_length + (1 : Int32))))
  else some ((0 : Int32), r_signs, r_length)
set_option maxRecDepth 100000 in
set_option maxHeartbeats 4000000 in
theorem c_X1_put (l : Launch) (D : va_G) (o : Nat → Nat) (ct : Nat → ClassId) (a1 : Int32) (r_signs : Nat → Int32) (r_length : Int32) (q : Int32 × (Nat → Int32) × (Int32)) (h : f_X1_put a1 r_signs r_length = some q) : CG l yX1_put cX1_put 2 0 (some .boolean) D (tysK ct) [.ref (o 0), .int a1] (some (.int q.1)) (PW o ct r_signs r_length) (PW o ct q.2.1 q.2.2) := by
  refine CG.mkI (by decide) (Nat.le_of_ble_eq_true rfl) ?_
  intro p e s m below meth c Q A B hK hN hDD hA hret hP hS ls hl
  have B0 := B
  obtain ⟨hx, hb, hml, hown, hts⟩ := B0
  have hl : lv_has ls 2 [(0, .ref (o 0)), (1, .int a1)] := hl
  unfold f_X1_put at h
  refine lv_aload_n hx hb dX1_put_0 rfl (lv_at hl 0 rfl) ?_
  refine va_get (D := D) (ci := 2) (v := .int r_length) (C := RX1) (T := TX1) (N := 2) hx hb hts inlX1 hown hK hP 0 rfl rfl 1 (by decide) (hts _ q_4_0) (fun _ h9 => h9) rfl dX1_put_1 ?_
  refine lv_if_lt (tgt := 19) hx hb dX1_put_4 (by decide) (fun c1 => ?_) (fun c1 => ?_)
  · have h := ift c1 h
    refine lv_iconst (v := (0 : Int32)) hx hb dX1_put_19 (by decide) ?_
    obtain rfl := Option.some.inj h
    exact hret _ _ _ _ nb0 dX1_put_20 hP hS
  · have h := ifn c1 h
    refine lv_aload_n hx hb dX1_put_7 rfl (lv_at hl 0 rfl) ?_
    refine va_get (D := D) (ci := 2) (v := .int r_length) (C := RX1) (T := TX1) (N := 2) hx hb hts inlX1 hown hK hP 0 rfl rfl 1 (by decide) (hts _ q_4_0) (fun _ h9 => h9) rfl dX1_put_8 ?_
    refine lv_aload_n hx hb dX1_put_11 rfl (lv_at hl 0 rfl) ?_
    refine va_get (D := D) (ci := 2) (v := .ref (o 1)) (C := RX1) (T := TX1) (N := 2) hx hb hts inlX1 hown hK hP 0 rfl rfl 0 (by decide) (hts _ q_3_23) (fun _ h9 => h9) rfl dX1_put_12 ?_
    refine va_alen hx hb hK hP 1 2 rfl rfl (v := (60 : Int32)) (show Int32.ofNat 60 = (60 : Int32) by decide) dX1_put_15 ?_
    refine lv_icmp_lt (tgt := 21) hx hb dX1_put_16 (by decide) (fun c2 => ?_) (fun c2 => ?_)
    · have h := ift c2 h
      refine lv_aload_n hx hb dX1_put_21 rfl (lv_at hl 0 rfl) ?_
      refine va_get (D := D) (ci := 2) (v := .ref (o 1)) (C := RX1) (T := TX1) (N := 2) hx hb hts inlX1 hown hK hP 0 rfl rfl 0 (by decide) (hts _ q_3_23) (fun _ h9 => h9) rfl dX1_put_22 ?_
      refine lv_aload_n hx hb dX1_put_25 rfl (lv_at hl 0 rfl) ?_
      refine va_get (D := D) (ci := 2) (v := .int r_length) (C := RX1) (T := TX1) (N := 2) hx hb hts inlX1 hown hK hP 0 rfl rfl 1 (by decide) (hts _ q_4_0) (fun _ h9 => h9) rfl dX1_put_26 ?_
      refine lv_iload_n hx hb dX1_put_29 rfl (lv_at hl 1 rfl) ?_
      obtain ⟨g3, h⟩ := grd_some h
      refine va_cast hx hb hK hP (hDD _ rfl) hS 1 2 rfl rfl (inb_in g3) dX1_put_30 (fun H locs hP _ hS => ?_)
      have hP : va_P D vwCl (PW o ct (upd r_signs r_length.toNatClampNeg (vp_nar .char a1)) r_length) H := hP
      refine lv_aload_n hx hb dX1_put_31 rfl (lv_at hl 0 rfl) ?_
      refine lv_dup hx hb dX1_put_32 rfl ?_
      refine va_get (D := D) (ci := 2) (v := .int r_length) (C := RX1) (T := TX1) (N := 2) hx hb hts inlX1 hown hK hP 0 rfl rfl 1 (by decide) (hts _ q_4_0) (fun _ h9 => h9) rfl dX1_put_33 ?_
      refine lv_iconst (v := (1 : Int32)) hx hb dX1_put_36 (by decide) ?_
      refine lv_iadd hx hb dX1_put_37 ?_
      refine va_put (D := D) (ci := 2) (v := .int (r_length + (1 : Int32))) (ty := .int) (C := RX1) (T := TX1) (N := 2) hx hb hts inlX1 tyX1 tyX1_ok nmX1 hown hK hP (hDD _ rfl) hS 0 rfl rfl 1 (by decide) (hts _ q_4_0) (fun _ h9 => h9) rfl (by decide +kernel) rfl rfl (Nat.le_of_ble_eq_true rfl) dX1_put_38 (fun H locs hP _ hS => ?_)
      have hP : va_P D vwCl (PW o ct (upd r_signs r_length.toNatClampNeg (vp_nar .char a1)) (r_length + (1 : Int32))) H := hP
      refine lv_iconst (v := (1 : Int32)) hx hb dX1_put_41 (by decide) ?_
      obtain rfl := Option.some.inj h
      exact hret _ _ _ _ nb1 dX1_put_42 hP hS
    · have h := ifn c2 h
      refine lv_iconst (v := (0 : Int32)) hx hb dX1_put_19 (by decide) ?_
      obtain rfl := Option.some.inj h
      exact hret _ _ _ _ nb0 dX1_put_20 hP hS
