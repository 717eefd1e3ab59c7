/-! the model: its cells; each method as a pure function (f_) and a contract (c_): laid by wip/whole/gen.py -/
theorem nb0 : narrow .boolean (.int (0 : Int32)) = .int 0 := rfl
theorem nb1 : narrow .boolean (.int (1 : Int32)) = .int 1 := rfl
abbrev MW (o : Nat → Nat) (cI cJ : ClassId) (m_s : Nat → Int32) (m_past : Nat → Int32) (m_kept : Nat → Int32) (m_spare : Nat → Int32) (m_paid : Nat → Int64) (m_pastPaid : Nat → Int64) (m_keptPaid : Nat → Int64) (m_sparePaid : Nat → Int64) (m_isKept : Int32) (m_pasts : Int32) (m_runs : Int32) (m_pad : Nat → Int32) (m_typed : Int32) (m_isStopped : Int32) (m_stop : Nat → Int32) (m_order : Nat → Int32) (m_best : Nat → Int32) (m_many : Int32) (m_bySets : Nat → Int64) (m_spot : Int32) (m_deeds : Int32) (m_deed : Nat → Int32) : va_W := [((o 0), .inr (7, [.ref (o 1), .ref (o 2), .ref (o 3), .ref (o 4), .ref (o 5), .ref (o 6), .ref (o 7), .ref (o 8), .int m_isKept, .int m_pasts, .int m_runs, .ref (o 9), .int m_typed, .int m_isStopped, .ref (o 10), .ref (o 11), .ref (o 12), .int m_many, .ref (o 13), .int m_spot, .int m_deeds, .ref (o 14)])), ((o 1), .inl (cI, 100, .inl m_s)), ((o 2), .inl (cI, 400, .inl m_past)), ((o 3), .inl (cI, 100, .inl m_kept)), ((o 4), .inl (cI, 100, .inl m_spare)), ((o 5), .inl (cJ, 2, .inr (.inl m_paid))), ((o 6), .inl (cJ, 8, .inr (.inl m_pastPaid))), ((o 7), .inl (cJ, 2, .inr (.inl m_keptPaid))), ((o 8), .inl (cJ, 2, .inr (.inl m_sparePaid))), ((o 9), .inl (cI, 60, .inl m_pad)), ((o 10), .inl (cI, 2, .inl m_stop)), ((o 11), .inl (cI, 5, .inl m_order)), ((o 12), .inl (cI, 5, .inl m_best)), ((o 13), .inl (cJ, 32, .inr (.inl m_bySets))), ((o 14), .inl (cI, 124, .inl m_deed))]
abbrev tysMW (cI cJ : ClassId) : List (ClassId × FieldType) := [(cI, .int), (cJ, .long)]
theorem k_X6_in : SOk yX6_in cX6_in 3 (some .boolean) 3 := ⟨q_9_17, q_9_16, q_1_5, by decide +kernel⟩
theorem k_X6_cut : SOk yX6_cut cX6_cut 2 (some .int) 1 := ⟨q_19_21, q_19_20, q_1_5, by decide +kernel⟩
theorem k_X6_changes : VOk yX6_changes cX6_changes 2 none 0 := ⟨q_9_21, q_9_19, q_9_20, q_1_5, by decide +kernel⟩
theorem k_X6_putsAside : VOk yX6_putsAside cX6_putsAside 2 none 0 := ⟨q_33_11, q_33_9, q_33_10, q_1_5, by decide +kernel⟩
theorem k_X6_putsBack : VOk yX6_putsBack cX6_putsBack 2 none 0 := ⟨q_33_19, q_33_17, q_33_18, q_1_5, by decide +kernel⟩
theorem k_X6_isTable : SOk yX6_isTable cX6_isTable 1 (some .boolean) 1 := ⟨q_9_14, q_9_13, q_1_5, by decide +kernel⟩
theorem k_X6_isSet : SOk yX6_isSet cX6_isSet 1 (some .boolean) 1 := ⟨q_17_15, q_17_14, q_1_5, by decide +kernel⟩
theorem k_X6_sizeOf : VOk yX6_sizeOf cX6_sizeOf 7 (some .long) 2 := ⟨q_18_21, q_18_19, q_18_20, q_1_5, by decide +kernel⟩
theorem k_X6_base : SOk yX6_base cX6_base 1 (some .int) 1 := ⟨q_29_3, q_29_2, q_1_5, by decide +kernel⟩
theorem k_X6_costOf : VOk yX6_costOf cX6_costOf 6 (some .long) 1 := ⟨q_18_17, q_18_15, q_18_16, q_1_5, by decide +kernel⟩
theorem k_X6_swaps : VOk yX6_swaps cX6_swaps 4 none 2 := ⟨q_19_6, q_19_4, q_19_5, q_1_5, by decide +kernel⟩
theorem k_X6_hasNext : VOk yX6_hasNext cX6_hasNext 5 (some .boolean) 0 := ⟨q_19_2, q_19_0, q_19_1, q_1_5, by decide +kernel⟩
theorem k_X6_finds : VOk yX6_finds cX6_finds 9 (some .long) 2 := ⟨q_18_12, q_18_10, q_18_11, q_1_5, by decide +kernel⟩
theorem k_X6_findsBySets : VOk yX6_findsBySets cX6_findsBySets 9 (some .long) 2 := ⟨q_30_3, q_30_1, q_30_2, q_1_5, by decide +kernel⟩
theorem k_X6_at : SOk yX6_at cX6_at 1 (some .int) 1 := ⟨q_11_6, q_11_5, q_1_5, by decide +kernel⟩
theorem k_X6_slotOf : VOk yX6_slotOf cX6_slotOf 3 (some .int) 1 := ⟨q_18_0, q_17_22, q_17_23, q_1_5, by decide +kernel⟩
theorem k_X6_tablesIn : SOk yX6_tablesIn cX6_tablesIn 3 (some .int) 1 := ⟨q_18_3, q_18_2, q_1_5, by decide +kernel⟩
theorem k_X6_costAt : VOk yX6_costAt cX6_costAt 4 (some .long) 2 := ⟨q_19_18, q_19_16, q_19_17, q_1_5, by decide +kernel⟩
theorem k_X6_hasDrifted : VOk yX6_hasDrifted cX6_hasDrifted 9 (some .boolean) 2 := ⟨q_12_23, q_12_21, q_12_22, q_1_5, by decide +kernel⟩
theorem k_X6_isLoose : VOk yX6_isLoose cX6_isLoose 2 (some .boolean) 1 := ⟨q_11_3, q_11_1, q_11_2, q_1_5, by decide +kernel⟩
theorem k_X6_empties : VOk yX6_empties cX6_empties 3 none 1 := ⟨q_11_10, q_11_8, q_11_9, q_1_5, by decide +kernel⟩
theorem k_X6_throwsOut : VOk yX6_throwsOut cX6_throwsOut 3 (some .int) 0 := ⟨q_12_19, q_12_17, q_12_18, q_1_5, by decide +kernel⟩
theorem k_X6_counts : VOk yX6_counts cX6_counts 2 (some .int) 1 := ⟨q_12_15, q_12_13, q_12_14, q_1_5, by decide +kernel⟩
theorem k_X6_rows : VOk yX6_rows cX6_rows 4 (some .int) 2 := ⟨q_9_11, q_9_9, q_9_10, q_1_5, by decide +kernel⟩
theorem k_X6_part : VOk yX6_part cX6_part 7 (some .int) 3 := ⟨q_10_23, q_10_21, q_10_22, q_1_5, by decide +kernel⟩
theorem k_X6_count : VOk yX6_count cX6_count 2 (some .int) 1 := ⟨q_12_11, q_12_9, q_12_10, q_1_5, by decide +kernel⟩
theorem k_X6_slotFor : VOk yX6_slotFor cX6_slotFor 4 (some .int) 0 := ⟨q_19_10, q_19_8, q_19_9, q_1_5, by decide +kernel⟩
theorem k_X6_makes : VOk yX6_makes cX6_makes 8 (some .long) 1 := ⟨q_18_7, q_18_5, q_18_6, q_1_5, by decide +kernel⟩
theorem k_X6_uses : VOk yX6_uses cX6_uses 2 (some .long) 1 := ⟨q_19_14, q_19_12, q_19_13, q_1_5, by decide +kernel⟩
theorem k_X6_runsOf : VOk yX6_runsOf cX6_runsOf 8 (some .long) 1 := ⟨q_17_19, q_17_17, q_17_18, q_1_5, by decide +kernel⟩
theorem k_X6_run : VOk yX6_run cX6_run 2 (some .int) 1 := ⟨q_17_12, q_17_10, q_17_11, q_1_5, by decide +kernel⟩
theorem k_X6_pin : VOk yX6_pin cX6_pin 4 (some .int) 1 := ⟨q_20_16, q_20_14, q_20_15, q_1_5, by decide +kernel⟩
theorem k_X6_forget : VOk yX6_forget cX6_forget 4 (some .int) 1 := ⟨q_21_2, q_21_0, q_21_1, q_1_5, by decide +kernel⟩
theorem k_X6_drift : VOk yX6_drift cX6_drift 2 (some .int) 1 := ⟨q_21_11, q_21_9, q_21_10, q_1_5, by decide +kernel⟩
theorem k_X6_append : VOk yX6_append cX6_append 2 (some .int) 1 := ⟨q_22_0, q_21_22, q_21_23, q_1_5, by decide +kernel⟩
theorem k_X6_clear : VOk yX6_clear cX6_clear 2 (some .int) 0 := ⟨q_22_9, q_22_7, q_22_8, q_1_5, by decide +kernel⟩
theorem k_X6_isAt : VOk yX6_isAt cX6_isAt 3 (some .boolean) 2 := ⟨q_25_6, q_25_4, q_25_5, q_1_5, by decide +kernel⟩
theorem k_X6_sign : VOk yX6_sign cX6_sign 3 (some .boolean) 1 := ⟨q_25_14, q_25_12, q_25_13, q_1_5, by decide +kernel⟩
theorem k_X6_digits : VOk yX6_digits cX6_digits 3 (some .boolean) 0 := ⟨q_25_2, q_25_0, q_25_1, q_1_5, by decide +kernel⟩
theorem k_X6_oneTable : VOk yX6_oneTable cX6_oneTable 2 (some .boolean) 0 := ⟨q_25_10, q_25_8, q_25_9, q_1_5, by decide +kernel⟩
theorem k_X6_number : VOk yX6_number cX6_number 2 (some .boolean) 0 := ⟨q_25_18, q_25_16, q_25_17, q_1_5, by decide +kernel⟩
theorem k_X6_reads : VOk yX6_reads cX6_reads 2 (some .boolean) 0 := ⟨q_24_22, q_24_20, q_24_21, q_1_5, by decide +kernel⟩
theorem k_X6_fault : VOk yX6_fault cX6_fault 2 (some .int) 0 := ⟨q_24_16, q_24_14, q_24_15, q_1_5, by decide +kernel⟩
theorem k_X6_pins : VOk yX6_pins cX6_pins 3 (some .int) 1 := ⟨q_27_0, q_26_22, q_26_23, q_1_5, by decide +kernel⟩
theorem k_X6_does : VOk yX6_does cX6_does 3 (some .int) 1 := ⟨q_26_19, q_26_17, q_26_18, q_1_5, by decide +kernel⟩
theorem k_X6_carryOut : VOk yX6_carryOut cX6_carryOut 2 (some .int) 0 := ⟨q_26_13, q_26_11, q_26_12, q_1_5, by decide +kernel⟩
theorem k_X6_why : VOk yX6_why cX6_why 2 (some .int) 1 := ⟨q_27_10, q_27_8, q_27_9, q_1_5, by decide +kernel⟩
theorem k_X6_plansWith : VOk yX6_plansWith cX6_plansWith 4 (some .int) 1 := ⟨q_28_7, q_28_5, q_28_6, q_1_5, by decide +kernel⟩
theorem k_X6_table : VOk yX6_table cX6_table 5 (some .int) 2 := ⟨q_28_3, q_28_1, q_28_2, q_1_5, by decide +kernel⟩
theorem k_X6_partOf : VOk yX6_partOf cX6_partOf 3 (some .int) 2 := ⟨q_28_15, q_28_13, q_28_14, q_1_5, by decide +kernel⟩
theorem k_X6_size : VOk yX6_size cX6_size 3 (some .int) 2 := ⟨q_29_0, q_28_22, q_28_23, q_1_5, by decide +kernel⟩
theorem k_X6_least : VOk yX6_least cX6_least 4 (some .int) 3 := ⟨q_29_23, q_29_21, q_29_22, q_1_5, by decide +kernel⟩
theorem k_X6_best : VOk yX6_best cX6_best 4 (some .int) 3 := ⟨q_30_12, q_30_10, q_30_11, q_1_5, by decide +kernel⟩
theorem k_X6_orderOf : VOk yX6_orderOf cX6_orderOf 4 (some .int) 1 := ⟨q_31_11, q_31_9, q_31_10, q_1_5, by decide +kernel⟩
theorem k_X6_over : VOk yX6_over cX6_over 4 (some .long) 1 := ⟨q_31_7, q_31_5, q_31_6, q_1_5, by decide +kernel⟩
theorem k_X6_plan : VOk yX6_plan cX6_plan 4 (some .int) 2 := ⟨q_31_3, q_31_1, q_31_2, q_1_5, by decide +kernel⟩
theorem k_X6_plans : VOk yX6_plans cX6_plans 3 (some .int) 0 := ⟨q_32_10, q_32_8, q_32_9, q_1_5, by decide +kernel⟩
theorem k_X6_pinned : VOk yX6_pinned cX6_pinned 3 (some .int) 0 := ⟨q_32_14, q_32_12, q_32_13, q_1_5, by decide +kernel⟩
theorem k_X6_counted : VOk yX6_counted cX6_counted 2 (some .int) 1 := ⟨q_32_6, q_32_4, q_32_5, q_1_5, by decide +kernel⟩
theorem k_X6_dearer : VOk yX6_dearer cX6_dearer 3 (some .int) 0 := ⟨q_33_15, q_33_13, q_33_14, q_1_5, by decide +kernel⟩
theorem k_X6_ifCounted : VOk yX6_ifCounted cX6_ifCounted 5 (some .int) 2 := ⟨q_33_7, q_33_5, q_33_6, q_1_5, by decide +kernel⟩
theorem k_X6_ifRun : VOk yX6_ifRun cX6_ifRun 3 (some .int) 1 := ⟨q_34_3, q_34_1, q_34_2, q_1_5, by decide +kernel⟩
theorem k_X6_leastDrift : VOk yX6_leastDrift cX6_leastDrift 4 (some .int) 0 := ⟨q_34_17, q_34_15, q_34_16, q_1_5, by decide +kernel⟩
theorem k_X6_undo : VOk yX6_undo cX6_undo 2 (some .int) 0 := ⟨q_35_2, q_35_0, q_35_1, q_1_5, by decide +kernel⟩
theorem k_X6_save : VOk yX6_save cX6_save 2 (some .int) 0 := ⟨q_35_10, q_35_8, q_35_9, q_1_5, by decide +kernel⟩
theorem k_X6_restore : VOk yX6_restore cX6_restore 2 (some .int) 0 := ⟨q_35_19, q_35_17, q_35_18, q_1_5, by decide +kernel⟩
def f_X6_in (a1 : Int32) (a2 : Int32) (a3 : Int32)  : Option (Int32) :=
  if a1 < a2 then some (0 : Int32)
  else if a3 < a1 then some (0 : Int32)
  else some (1 : Int32)
set_option maxRecDepth 100000 in
set_option maxHeartbeats 4000000 in
theorem c_X6_in (l : Launch) (a1 : Int32) (a2 : Int32) (a3 : Int32) (q : Int32) (h : f_X6_in a1 a2 a3  = some q) : CS l yX6_in cX6_in 3 0 (some .boolean) [.int a1, .int a2, .int a3] (some (.int q)) := by
  refine CS.mkI (by decide) (Nat.le_of_ble_eq_true rfl) ?_
  intro p e s m below meth c Q B hret ls hl
  have B0 := B
  obtain ⟨hx, hb, hml, hown, hts⟩ := B0
  have hl : lv_has ls 3 [(0, .int a1), (1, .int a2), (2, .int a3)] := hl
  unfold f_X6_in at h
  refine lv_iload_n hx hb dX6_in_0 rfl (lv_at hl 0 rfl) ?_
  refine lv_iload_n hx hb dX6_in_1 rfl (lv_at hl 1 rfl) ?_
  refine lv_icmp_lt (tgt := 14) hx hb dX6_in_2 (by decide) (fun c1 => ?_) (fun c1 => ?_)
  · have h := ift c1 h
    refine lv_iconst (v := (0 : Int32)) hx hb dX6_in_14 (by decide) ?_
    obtain rfl := Option.some.inj h
    exact hret _ _ nb0 dX6_in_15
  · have h := ifn c1 h
    refine lv_iload_n hx hb dX6_in_5 rfl (lv_at hl 0 rfl) ?_
    refine lv_iload_n hx hb dX6_in_6 rfl (lv_at hl 2 rfl) ?_
    refine lv_icmp_gt (tgt := 14) hx hb dX6_in_7 (by decide) (fun c2 => ?_) (fun c2 => ?_)
    · have h := ift c2 h
      refine lv_iconst (v := (0 : Int32)) hx hb dX6_in_14 (by decide) ?_
      obtain rfl := Option.some.inj h
      exact hret _ _ nb0 dX6_in_15
    · have h := ifn c2 h
      refine lv_iconst (v := (1 : Int32)) hx hb dX6_in_10 (by decide) ?_
      refine lv_goto (tgt := 15) hx hb dX6_in_11 (by decide) ?_
      obtain rfl := Option.some.inj h
      exact hret _ _ nb1 dX6_in_15

def f_X6_cut (a1 : Int64)  : Option (Int32) :=
  if (lg_cmp a1 (1000000000 : Int64)) ≤ (0 : Int32) then some a1.toInt32
  else some (1000000000 : Int64).toInt32
set_option maxRecDepth 100000 in
set_option maxHeartbeats 4000000 in
theorem c_X6_cut (l : Launch) (a1 : Int64) (q : Int32) (h : f_X6_cut a1  = some q) : CS l yX6_cut cX6_cut 2 0 (some .int) [.long a1] (some (.int q)) := by
  refine CS.mkI (by decide) (Nat.le_of_ble_eq_true rfl) ?_
  intro p e s m below meth c Q B hret ls hl
  have B0 := B
  obtain ⟨hx, hb, hml, hown, hts⟩ := B0
  have hl : lv_has ls 2 [(0, .long a1)] := hl
  unfold f_X6_cut at h
  refine lv_lload_n hx hb dX6_cut_0 rfl (lv_at hl 0 rfl) ?_
  refine lv_ldc2 (v := (1000000000 : Int64)) hx hb hown (hts _ q_19_22) dX6_cut_1 ?_
  refine W.lcmp hx hb dX6_cut_4 ?_
  refine lv_if_le (tgt := 14) hx hb dX6_cut_5 (by decide) (fun c1 => ?_) (fun c1 => ?_)
  · have h := ift c1 h
    refine lv_lload_n hx hb dX6_cut_14 rfl (lv_at hl 0 rfl) ?_
    refine lv_l2i hx hb dX6_cut_15 rfl ?_
    obtain rfl := Option.some.inj h
    exact hret _ _ (vp_nar_int _) dX6_cut_16
  · have h := ifn c1 h
    refine lv_ldc2 (v := (1000000000 : Int64)) hx hb hown (hts _ q_19_22) dX6_cut_8 ?_
    refine lv_goto (tgt := 15) hx hb dX6_cut_11 (by decide) ?_
    refine lv_l2i hx hb dX6_cut_15 rfl ?_
    obtain rfl := Option.some.inj h
    exact hret _ _ (vp_nar_int _) dX6_cut_16

def f_X6_changes_L86b  (m_s : Nat → Int32) (m_paid : Nat → Int64) (m_runs : Int32)  (k86 : Int32 → (Nat → Int32) → (Nat → Int64) → Int32 → Option ((Nat → Int32) × (Nat → Int64) × (Int32))) (x1 : Int32) (m_past : Nat → Int32) (m_pastPaid : Nat → Int64) (m_pasts : Int32) : Option ((Nat → Int32) × (Nat → Int64) × (Int32)) :=
  if (100 : Int32) ≤ x1 then grd (inb (0 : Int32) 2) (grd (inb ((2 : Int32) * m_pasts) 8) (grd (inb (1 : Int32) 2) (grd (inb (((2 : Int32) * m_pasts) + (1 : Int32)) 8) (some (m_past, (vp_updL (vp_updL m_pastPaid ((2 : Int32) * m_pasts).toNatClampNeg (m_paid (0 : Int32).toNatClampNeg)) (((2 : Int32) * m_pasts) + (1 : Int32)).toNatClampNeg (m_paid (1 : Int32).toNatClampNeg)), (m_pasts + (1 : Int32)))))))
  else grd (inb x1 100) (grd (inb (((100 : Int32) * m_pasts) + x1) 400) (k86 (x1 + (1 : Int32)) (upd m_past (((100 : Int32) * m_pasts) + x1).toNatClampNeg (m_s x1.toNatClampNeg)) m_pastPaid m_pasts))
def f_X6_changes_L86  (m_s : Nat → Int32) (m_paid : Nat → Int64) (m_runs : Int32)  : Nat → Int32 → (Nat → Int32) → (Nat → Int64) → Int32 → Option ((Nat → Int32) × (Nat → Int64) × (Int32))
  | 0 => fun _ _ _ _ => none
  | n + 1 => f_X6_changes_L86b m_s m_paid m_runs  (f_X6_changes_L86 m_s m_paid m_runs  n)
def f_X6_changes_L48b  (m_s : Nat → Int32) (m_paid : Nat → Int64) (m_runs : Int32)  (k48 : Int32 → (Nat → Int32) → (Nat → Int64) → Int32 → Option ((Nat → Int32) × (Nat → Int64) × (Int32))) (x1 : Int32) (m_past : Nat → Int32) (m_pastPaid : Nat → Int64) (m_pasts : Int32) : Option ((Nat → Int32) × (Nat → Int64) × (Int32)) :=
  if (6 : Int32) ≤ x1 then f_X6_changes_L86 m_s m_paid m_runs  1024 (0 : Int32) m_past m_pastPaid (m_pasts - (1 : Int32))
  else grd (inb (x1 + (2 : Int32)) 8) (grd (inb x1 8) (k48 (x1 + (1 : Int32)) m_past (vp_updL m_pastPaid x1.toNatClampNeg (m_pastPaid (x1 + (2 : Int32)).toNatClampNeg)) m_pasts))
def f_X6_changes_L48  (m_s : Nat → Int32) (m_paid : Nat → Int64) (m_runs : Int32)  : Nat → Int32 → (Nat → Int32) → (Nat → Int64) → Int32 → Option ((Nat → Int32) × (Nat → Int64) × (Int32))
  | 0 => fun _ _ _ _ => none
  | n + 1 => f_X6_changes_L48b m_s m_paid m_runs  (f_X6_changes_L48 m_s m_paid m_runs  n)
def f_X6_changes_L18b  (m_s : Nat → Int32) (m_paid : Nat → Int64) (m_runs : Int32)  (k18 : Int32 → (Nat → Int32) → (Nat → Int64) → Int32 → Option ((Nat → Int32) × (Nat → Int64) × (Int32))) (x1 : Int32) (m_past : Nat → Int32) (m_pastPaid : Nat → Int64) (m_pasts : Int32) : Option ((Nat → Int32) × (Nat → Int64) × (Int32)) :=
  if (300 : Int32) ≤ x1 then f_X6_changes_L48 m_s m_paid m_runs  1024 (0 : Int32) m_past m_pastPaid m_pasts
  else grd (inb (x1 + (100 : Int32)) 400) (grd (inb x1 400) (k18 (x1 + (1 : Int32)) (upd m_past x1.toNatClampNeg (m_past (x1 + (100 : Int32)).toNatClampNeg)) m_pastPaid m_pasts))
def f_X6_changes_L18  (m_s : Nat → Int32) (m_paid : Nat → Int64) (m_runs : Int32)  : Nat → Int32 → (Nat → Int32) → (Nat → Int64) → Int32 → Option ((Nat → Int32) × (Nat → Int64) × (Int32))
  | 0 => fun _ _ _ _ => none
  | n + 1 => f_X6_changes_L18b m_s m_paid m_runs  (f_X6_changes_L18 m_s m_paid m_runs  n)
def f_X6_changes  (m_s : Nat → Int32) (m_past : Nat → Int32) (m_paid : Nat → Int64) (m_pastPaid : Nat → Int64) (m_pasts : Int32) (m_runs : Int32) : Option ((Nat → Int32) × (Nat → Int64) × (Int32)) :=
  if m_runs = (0 : Int32) then if m_pasts = (4 : Int32) then f_X6_changes_L18 m_s m_paid m_runs  1024 (0 : Int32) m_past m_pastPaid m_pasts
  else f_X6_changes_L86 m_s m_paid m_runs  1024 (0 : Int32) m_past m_pastPaid m_pasts
  else some (m_past, m_pastPaid, m_pasts)
set_option maxRecDepth 100000 in
set_option maxHeartbeats 4000000 in
theorem c_X6_changes (l : Launch) (D : va_G) (o : Nat → Nat) (cI cJ : ClassId)  (m_s : Nat → Int32) (m_past : Nat → Int32) (m_kept : Nat → Int32) (m_spare : Nat → Int32) (m_paid : Nat → Int64) (m_pastPaid : Nat → Int64) (m_keptPaid : Nat → Int64) (m_sparePaid : Nat → Int64) (m_isKept : Int32) (m_pasts : Int32) (m_runs : Int32) (m_pad : Nat → Int32) (m_typed : Int32) (m_isStopped : Int32) (m_stop : Nat → Int32) (m_order : Nat → Int32) (m_best : Nat → Int32) (m_many : Int32) (m_bySets : Nat → Int64) (m_spot : Int32) (m_deeds : Int32) (m_deed : Nat → Int32) (q : (Nat → Int32) × (Nat → Int64) × (Int32)) (h : f_X6_changes  m_s m_past m_paid m_pastPaid m_pasts m_runs = some q) : CF l yX6_changes cX6_changes 2 0 none D (tysMW cI cJ) [.ref (o 0)] none (MW o cI cJ m_s m_past m_kept m_spare m_paid m_pastPaid m_keptPaid m_sparePaid m_isKept m_pasts m_runs m_pad m_typed m_isStopped m_stop m_order m_best m_many m_bySets m_spot m_deeds m_deed) (MW o cI cJ m_s q.1 m_kept m_spare m_paid q.2.1 m_keptPaid m_sparePaid m_isKept q.2.2 m_runs m_pad m_typed m_isStopped m_stop m_order m_best m_many m_bySets m_spot m_deeds m_deed) := by
  refine CF.mkV (by decide) (Nat.le_of_ble_eq_true rfl) ?_
  intro p e s m below meth c Q A B hK hDD hA hret hP hS ls hl
  have B0 := B
  obtain ⟨hx, hb, hml, hown, hts⟩ := B0
  have hl : lv_has ls 2 [(0, .ref (o 0))] := hl
  have hL86 : ∀ (n86 : Nat) (x1 : Int32) (m_past : Nat → Int32) (m_pastPaid : Nat → Int64) (m_pasts : Int32) (ls : Array Slot) (H : Heap) (locs : List Loc), f_X6_changes_L86 m_s m_paid m_runs  n86 x1 m_past m_pastPaid m_pasts = some q → va_P D vwCl (MW o cI cJ m_s m_past m_kept m_spare m_paid m_pastPaid m_keptPaid m_sparePaid m_isKept m_pasts m_runs m_pad m_typed m_isStopped m_stop m_order m_best m_many m_bySets m_spot m_deeds m_deed) H → va_S A s.heap H locs → lv_has ls 2 [(0, .ref (o 0)), (1, .int x1)] → W p l e (rmF 0 0 0) s m ([.ref (o 0)] : List Value).toArray below meth c H locs 0 0 Q (F0 m 86 ls []) := by
    intro n86
    induction n86 with
    | zero =>
      intro x1 m_past m_pastPaid m_pasts ls H locs h
      exact absurd (show (none : Option ((Nat → Int32) × (Nat → Int64) × (Int32))) = some q from h) (by intro h; cases h)
    | succ n86 ih86 =>
      intro x1 m_past m_pastPaid m_pasts ls H locs h hP hS hl
      have h : f_X6_changes_L86b m_s m_paid m_runs  (f_X6_changes_L86 m_s m_paid m_runs  n86) x1 m_past m_pastPaid m_pasts = some q := h
      unfold f_X6_changes_L86b at h
      refine lv_iload_n hx hb dX6_changes_86 rfl (lv_at hl 1 rfl) ?_
      refine lv_bipush (v := (100 : Int32)) hx hb dX6_changes_87 (by decide) ?_
      refine lv_icmp_ge (tgt := 118) hx hb dX6_changes_89 (by decide) (fun c3 => ?_) (fun c3 => ?_)
      · have h := ift c3 h
        refine lv_aload_n hx hb dX6_changes_118 rfl (lv_at hl 0 rfl) ?_
        refine va_get (D := D) (ci := 7) (v := .ref (o 6)) (C := RX6) (T := TX6) (N := 22) hx hb hts inlX6 hown hK hP 0 rfl rfl 5 (by decide) (hts _ q_4_10) (fun _ h9 => h9) rfl dX6_changes_119 ?_
        refine lv_iconst (v := (2 : Int32)) hx hb dX6_changes_122 (by decide) ?_
        refine lv_aload_n hx hb dX6_changes_123 rfl (lv_at hl 0 rfl) ?_
        refine va_get (D := D) (ci := 7) (v := .int m_pasts) (C := RX6) (T := TX6) (N := 22) hx hb hts inlX6 hown hK hP 0 rfl rfl 9 (by decide) (hts _ q_9_23) (fun _ h9 => h9) rfl dX6_changes_124 ?_
        refine lv_imul hx hb dX6_changes_127 ?_
        refine lv_aload_n hx hb dX6_changes_128 rfl (lv_at hl 0 rfl) ?_
        refine va_get (D := D) (ci := 7) (v := .ref (o 5)) (C := RX6) (T := TX6) (N := 22) hx hb hts inlX6 hown hK hP 0 rfl rfl 4 (by decide) (hts _ q_4_9) (fun _ h9 => h9) rfl dX6_changes_129 ?_
        refine lv_iconst (v := (0 : Int32)) hx hb dX6_changes_132 (by decide) ?_
        obtain ⟨g4, h⟩ := grd_some h
        refine va_lald hx hb hK hP 5 1 rfl rfl (inb_in g4) dX6_changes_133 ?_
        obtain ⟨g5, h⟩ := grd_some h
        refine va_last hx hb hK hP (hDD _ rfl) hS 6 1 rfl rfl (inb_in g5) dX6_changes_134 (fun H locs hP _ hS => ?_)
        have hP : va_P D vwCl (MW o cI cJ m_s m_past m_kept m_spare m_paid (vp_updL m_pastPaid ((2 : Int32) * m_pasts).toNatClampNeg (m_paid (0 : Int32).toNatClampNeg)) m_keptPaid m_sparePaid m_isKept m_pasts m_runs m_pad m_typed m_isStopped m_stop m_order m_best m_many m_bySets m_spot m_deeds m_deed) H := hP
        refine lv_aload_n hx hb dX6_changes_135 rfl (lv_at hl 0 rfl) ?_
        refine va_get (D := D) (ci := 7) (v := .ref (o 6)) (C := RX6) (T := TX6) (N := 22) hx hb hts inlX6 hown hK hP 0 rfl rfl 5 (by decide) (hts _ q_4_10) (fun _ h9 => h9) rfl dX6_changes_136 ?_
        refine lv_iconst (v := (2 : Int32)) hx hb dX6_changes_139 (by decide) ?_
        refine lv_aload_n hx hb dX6_changes_140 rfl (lv_at hl 0 rfl) ?_
        refine va_get (D := D) (ci := 7) (v := .int m_pasts) (C := RX6) (T := TX6) (N := 22) hx hb hts inlX6 hown hK hP 0 rfl rfl 9 (by decide) (hts _ q_9_23) (fun _ h9 => h9) rfl dX6_changes_141 ?_
        refine lv_imul hx hb dX6_changes_144 ?_
        refine lv_iconst (v := (1 : Int32)) hx hb dX6_changes_145 (by decide) ?_
        refine lv_iadd hx hb dX6_changes_146 ?_
        refine lv_aload_n hx hb dX6_changes_147 rfl (lv_at hl 0 rfl) ?_
        refine va_get (D := D) (ci := 7) (v := .ref (o 5)) (C := RX6) (T := TX6) (N := 22) hx hb hts inlX6 hown hK hP 0 rfl rfl 4 (by decide) (hts _ q_4_9) (fun _ h9 => h9) rfl dX6_changes_148 ?_
        refine lv_iconst (v := (1 : Int32)) hx hb dX6_changes_151 (by decide) ?_
        obtain ⟨g6, h⟩ := grd_some h
        refine va_lald hx hb hK hP 5 1 rfl rfl (inb_in g6) dX6_changes_152 ?_
        obtain ⟨g7, h⟩ := grd_some h
        refine va_last hx hb hK hP (hDD _ rfl) hS 6 1 rfl rfl (inb_in g7) dX6_changes_153 (fun H locs hP _ hS => ?_)
        have hP : va_P D vwCl (MW o cI cJ m_s m_past m_kept m_spare m_paid (vp_updL (vp_updL m_pastPaid ((2 : Int32) * m_pasts).toNatClampNeg (m_paid (0 : Int32).toNatClampNeg)) (((2 : Int32) * m_pasts) + (1 : Int32)).toNatClampNeg (m_paid (1 : Int32).toNatClampNeg)) m_keptPaid m_sparePaid m_isKept m_pasts m_runs m_pad m_typed m_isStopped m_stop m_order m_best m_many m_bySets m_spot m_deeds m_deed) H := hP
        refine lv_aload_n hx hb dX6_changes_154 rfl (lv_at hl 0 rfl) ?_
        refine lv_dup hx hb dX6_changes_155 rfl ?_
        refine va_get (D := D) (ci := 7) (v := .int m_pasts) (C := RX6) (T := TX6) (N := 22) hx hb hts inlX6 hown hK hP 0 rfl rfl 9 (by decide) (hts _ q_9_23) (fun _ h9 => h9) rfl dX6_changes_156 ?_
        refine lv_iconst (v := (1 : Int32)) hx hb dX6_changes_159 (by decide) ?_
        refine lv_iadd hx hb dX6_changes_160 ?_
        refine va_put (D := D) (ci := 7) (v := .int (m_pasts + (1 : Int32))) (ty := .int) (C := RX6) (T := TX6) (N := 22) hx hb hts inlX6 tyX6 tyX6_ok nmX6 hown hK hP (hDD _ rfl) hS 0 rfl rfl 9 (by decide) (hts _ q_9_23) (fun _ h9 => h9) rfl (by decide +kernel) rfl rfl (Nat.le_of_ble_eq_true rfl) dX6_changes_161 (fun H locs hP _ hS => ?_)
        have hP : va_P D vwCl (MW o cI cJ m_s m_past m_kept m_spare m_paid (vp_updL (vp_updL m_pastPaid ((2 : Int32) * m_pasts).toNatClampNeg (m_paid (0 : Int32).toNatClampNeg)) (((2 : Int32) * m_pasts) + (1 : Int32)).toNatClampNeg (m_paid (1 : Int32).toNatClampNeg)) m_keptPaid m_sparePaid m_isKept (m_pasts + (1 : Int32)) m_runs m_pad m_typed m_isStopped m_stop m_order m_best m_many m_bySets m_spot m_deeds m_deed) H := hP
        obtain rfl := Option.some.inj h
        exact hret _ _ _ _ dX6_changes_164 hP hS
      · have h := ifn c3 h
        refine lv_aload_n hx hb dX6_changes_92 rfl (lv_at hl 0 rfl) ?_
        refine va_get (D := D) (ci := 7) (v := .ref (o 2)) (C := RX6) (T := TX6) (N := 22) hx hb hts inlX6 hown hK hP 0 rfl rfl 1 (by decide) (hts _ q_4_6) (fun _ h9 => h9) rfl dX6_changes_93 ?_
        refine lv_bipush (v := (100 : Int32)) hx hb dX6_changes_96 (by decide) ?_
        refine lv_aload_n hx hb dX6_changes_98 rfl (lv_at hl 0 rfl) ?_
        refine va_get (D := D) (ci := 7) (v := .int m_pasts) (C := RX6) (T := TX6) (N := 22) hx hb hts inlX6 hown hK hP 0 rfl rfl 9 (by decide) (hts _ q_9_23) (fun _ h9 => h9) rfl dX6_changes_99 ?_
        refine lv_imul hx hb dX6_changes_102 ?_
        refine lv_iload_n hx hb dX6_changes_103 rfl (lv_at hl 1 rfl) ?_
        refine lv_iadd hx hb dX6_changes_104 ?_
        refine lv_aload_n hx hb dX6_changes_105 rfl (lv_at hl 0 rfl) ?_
        refine va_get (D := D) (ci := 7) (v := .ref (o 1)) (C := RX6) (T := TX6) (N := 22) hx hb hts inlX6 hown hK hP 0 rfl rfl 0 (by decide) (hts _ q_4_5) (fun _ h9 => h9) rfl dX6_changes_106 ?_
        refine lv_iload_n hx hb dX6_changes_109 rfl (lv_at hl 1 rfl) ?_
        obtain ⟨g8, h⟩ := grd_some h
        refine va_iald hx hb hK hP 1 0 rfl rfl (inb_in g8) dX6_changes_110 ?_
        obtain ⟨g9, h⟩ := grd_some h
        refine va_iast hx hb hK hP (hDD _ rfl) hS 2 0 rfl rfl (inb_in g9) dX6_changes_111 (fun H locs hP _ hS => ?_)
        have hP : va_P D vwCl (MW o cI cJ m_s (upd m_past (((100 : Int32) * m_pasts) + x1).toNatClampNeg (m_s x1.toNatClampNeg)) m_kept m_spare m_paid m_pastPaid m_keptPaid m_sparePaid m_isKept m_pasts m_runs m_pad m_typed m_isStopped m_stop m_order m_best m_many m_bySets m_spot m_deeds m_deed) H := hP
        refine lv_iinc (v := (x1 + (1 : Int32))) (lv' := [(1, .int (x1 + (1 : Int32))), (0, .ref (o 0))]) hx hb dX6_changes_112 hl (k := 1) rfl (congrArg (HAdd.hAdd x1) (by decide)) (by decide) rfl (fun ls hl => ?_)
        refine lv_goto (tgt := 86) hx hb dX6_changes_115 (by decide) ?_
        exact ih86 (x1 + (1 : Int32)) (upd m_past (((100 : Int32) * m_pasts) + x1).toNatClampNeg (m_s x1.toNatClampNeg)) m_pastPaid m_pasts _ _ _ h hP hS (lv_sub hl [1, 0] rfl)
  have hL48 : ∀ (n48 : Nat) (x1 : Int32) (m_past : Nat → Int32) (m_pastPaid : Nat → Int64) (m_pasts : Int32) (ls : Array Slot) (H : Heap) (locs : List Loc), f_X6_changes_L48 m_s m_paid m_runs  n48 x1 m_past m_pastPaid m_pasts = some q → va_P D vwCl (MW o cI cJ m_s m_past m_kept m_spare m_paid m_pastPaid m_keptPaid m_sparePaid m_isKept m_pasts m_runs m_pad m_typed m_isStopped m_stop m_order m_best m_many m_bySets m_spot m_deeds m_deed) H → va_S A s.heap H locs → lv_has ls 2 [(0, .ref (o 0)), (1, .int x1)] → W p l e (rmF 0 0 0) s m ([.ref (o 0)] : List Value).toArray below meth c H locs 0 0 Q (F0 m 48 ls []) := by
    intro n48
    induction n48 with
    | zero =>
      intro x1 m_past m_pastPaid m_pasts ls H locs h
      exact absurd (show (none : Option ((Nat → Int32) × (Nat → Int64) × (Int32))) = some q from h) (by intro h; cases h)
    | succ n48 ih48 =>
      intro x1 m_past m_pastPaid m_pasts ls H locs h hP hS hl
      have h : f_X6_changes_L48b m_s m_paid m_runs  (f_X6_changes_L48 m_s m_paid m_runs  n48) x1 m_past m_pastPaid m_pasts = some q := h
      unfold f_X6_changes_L48b at h
      refine lv_iload_n hx hb dX6_changes_48 rfl (lv_at hl 1 rfl) ?_
      refine lv_bipush (v := (6 : Int32)) hx hb dX6_changes_49 (by decide) ?_
      refine lv_icmp_ge (tgt := 74) hx hb dX6_changes_51 (by decide) (fun c11 => ?_) (fun c11 => ?_)
      · have h := ift c11 h
        refine lv_aload_n hx hb dX6_changes_74 rfl (lv_at hl 0 rfl) ?_
        refine lv_dup hx hb dX6_changes_75 rfl ?_
        refine va_get (D := D) (ci := 7) (v := .int m_pasts) (C := RX6) (T := TX6) (N := 22) hx hb hts inlX6 hown hK hP 0 rfl rfl 9 (by decide) (hts _ q_9_23) (fun _ h9 => h9) rfl dX6_changes_76 ?_
        refine lv_iconst (v := (1 : Int32)) hx hb dX6_changes_79 (by decide) ?_
        refine lv_isub hx hb dX6_changes_80 ?_
        refine va_put (D := D) (ci := 7) (v := .int (m_pasts - (1 : Int32))) (ty := .int) (C := RX6) (T := TX6) (N := 22) hx hb hts inlX6 tyX6 tyX6_ok nmX6 hown hK hP (hDD _ rfl) hS 0 rfl rfl 9 (by decide) (hts _ q_9_23) (fun _ h9 => h9) rfl (by decide +kernel) rfl rfl (Nat.le_of_ble_eq_true rfl) dX6_changes_81 (fun H locs hP _ hS => ?_)
        have hP : va_P D vwCl (MW o cI cJ m_s m_past m_kept m_spare m_paid m_pastPaid m_keptPaid m_sparePaid m_isKept (m_pasts - (1 : Int32)) m_runs m_pad m_typed m_isStopped m_stop m_order m_best m_many m_bySets m_spot m_deeds m_deed) H := hP
        refine lv_iconst (v := (0 : Int32)) hx hb dX6_changes_84 (by decide) ?_
        refine lv_istore_n (lv' := [(1, .int (0 : Int32)), (0, .ref (o 0))]) hx hb dX6_changes_85 rfl hl (by decide) rfl (fun ls hl => ?_)
        exact hL86 1024 (0 : Int32) m_past m_pastPaid (m_pasts - (1 : Int32)) _ _ _ h hP hS (lv_sub hl [1, 0] rfl)
      · have h := ifn c11 h
        refine lv_aload_n hx hb dX6_changes_54 rfl (lv_at hl 0 rfl) ?_
        refine va_get (D := D) (ci := 7) (v := .ref (o 6)) (C := RX6) (T := TX6) (N := 22) hx hb hts inlX6 hown hK hP 0 rfl rfl 5 (by decide) (hts _ q_4_10) (fun _ h9 => h9) rfl dX6_changes_55 ?_
        refine lv_iload_n hx hb dX6_changes_58 rfl (lv_at hl 1 rfl) ?_
        refine lv_aload_n hx hb dX6_changes_59 rfl (lv_at hl 0 rfl) ?_
        refine va_get (D := D) (ci := 7) (v := .ref (o 6)) (C := RX6) (T := TX6) (N := 22) hx hb hts inlX6 hown hK hP 0 rfl rfl 5 (by decide) (hts _ q_4_10) (fun _ h9 => h9) rfl dX6_changes_60 ?_
        refine lv_iload_n hx hb dX6_changes_63 rfl (lv_at hl 1 rfl) ?_
        refine lv_iconst (v := (2 : Int32)) hx hb dX6_changes_64 (by decide) ?_
        refine lv_iadd hx hb dX6_changes_65 ?_
        obtain ⟨g12, h⟩ := grd_some h
        refine va_lald hx hb hK hP 6 1 rfl rfl (inb_in g12) dX6_changes_66 ?_
        obtain ⟨g13, h⟩ := grd_some h
        refine va_last hx hb hK hP (hDD _ rfl) hS 6 1 rfl rfl (inb_in g13) dX6_changes_67 (fun H locs hP _ hS => ?_)
        have hP : va_P D vwCl (MW o cI cJ m_s m_past m_kept m_spare m_paid (vp_updL m_pastPaid x1.toNatClampNeg (m_pastPaid (x1 + (2 : Int32)).toNatClampNeg)) m_keptPaid m_sparePaid m_isKept m_pasts m_runs m_pad m_typed m_isStopped m_stop m_order m_best m_many m_bySets m_spot m_deeds m_deed) H := hP
        refine lv_iinc (v := (x1 + (1 : Int32))) (lv' := [(1, .int (x1 + (1 : Int32))), (0, .ref (o 0))]) hx hb dX6_changes_68 hl (k := 1) rfl (congrArg (HAdd.hAdd x1) (by decide)) (by decide) rfl (fun ls hl => ?_)
        refine lv_goto (tgt := 48) hx hb dX6_changes_71 (by decide) ?_
        exact ih48 (x1 + (1 : Int32)) m_past (vp_updL m_pastPaid x1.toNatClampNeg (m_pastPaid (x1 + (2 : Int32)).toNatClampNeg)) m_pasts _ _ _ h hP hS (lv_sub hl [1, 0] rfl)
  have hL18 : ∀ (n18 : Nat) (x1 : Int32) (m_past : Nat → Int32) (m_pastPaid : Nat → Int64) (m_pasts : Int32) (ls : Array Slot) (H : Heap) (locs : List Loc), f_X6_changes_L18 m_s m_paid m_runs  n18 x1 m_past m_pastPaid m_pasts = some q → va_P D vwCl (MW o cI cJ m_s m_past m_kept m_spare m_paid m_pastPaid m_keptPaid m_sparePaid m_isKept m_pasts m_runs m_pad m_typed m_isStopped m_stop m_order m_best m_many m_bySets m_spot m_deeds m_deed) H → va_S A s.heap H locs → lv_has ls 2 [(0, .ref (o 0)), (1, .int x1)] → W p l e (rmF 0 0 0) s m ([.ref (o 0)] : List Value).toArray below meth c H locs 0 0 Q (F0 m 18 ls []) := by
    intro n18
    induction n18 with
    | zero =>
      intro x1 m_past m_pastPaid m_pasts ls H locs h
      exact absurd (show (none : Option ((Nat → Int32) × (Nat → Int64) × (Int32))) = some q from h) (by intro h; cases h)
    | succ n18 ih18 =>
      intro x1 m_past m_pastPaid m_pasts ls H locs h hP hS hl
      have h : f_X6_changes_L18b m_s m_paid m_runs  (f_X6_changes_L18 m_s m_paid m_runs  n18) x1 m_past m_pastPaid m_pasts = some q := h
      unfold f_X6_changes_L18b at h
      refine lv_iload_n hx hb dX6_changes_18 rfl (lv_at hl 1 rfl) ?_
      refine lv_sipush (v := (300 : Int32)) hx hb dX6_changes_19 (by decide) ?_
      refine lv_icmp_ge (tgt := 46) hx hb dX6_changes_22 (by decide) (fun c10 => ?_) (fun c10 => ?_)
      · have h := ift c10 h
        refine lv_iconst (v := (0 : Int32)) hx hb dX6_changes_46 (by decide) ?_
        refine lv_istore_n (lv' := [(1, .int (0 : Int32)), (0, .ref (o 0))]) hx hb dX6_changes_47 rfl hl (by decide) rfl (fun ls hl => ?_)
        exact hL48 1024 (0 : Int32) m_past m_pastPaid m_pasts _ _ _ h hP hS (lv_sub hl [1, 0] rfl)
      · have h := ifn c10 h
        refine lv_aload_n hx hb dX6_changes_25 rfl (lv_at hl 0 rfl) ?_
        refine va_get (D := D) (ci := 7) (v := .ref (o 2)) (C := RX6) (T := TX6) (N := 22) hx hb hts inlX6 hown hK hP 0 rfl rfl 1 (by decide) (hts _ q_4_6) (fun _ h9 => h9) rfl dX6_changes_26 ?_
        refine lv_iload_n hx hb dX6_changes_29 rfl (lv_at hl 1 rfl) ?_
        refine lv_aload_n hx hb dX6_changes_30 rfl (lv_at hl 0 rfl) ?_
        refine va_get (D := D) (ci := 7) (v := .ref (o 2)) (C := RX6) (T := TX6) (N := 22) hx hb hts inlX6 hown hK hP 0 rfl rfl 1 (by decide) (hts _ q_4_6) (fun _ h9 => h9) rfl dX6_changes_31 ?_
        refine lv_iload_n hx hb dX6_changes_34 rfl (lv_at hl 1 rfl) ?_
        refine lv_bipush (v := (100 : Int32)) hx hb dX6_changes_35 (by decide) ?_
        refine lv_iadd hx hb dX6_changes_37 ?_
        obtain ⟨g14, h⟩ := grd_some h
        refine va_iald hx hb hK hP 2 0 rfl rfl (inb_in g14) dX6_changes_38 ?_
        obtain ⟨g15, h⟩ := grd_some h
        refine va_iast hx hb hK hP (hDD _ rfl) hS 2 0 rfl rfl (inb_in g15) dX6_changes_39 (fun H locs hP _ hS => ?_)
        have hP : va_P D vwCl (MW o cI cJ m_s (upd m_past x1.toNatClampNeg (m_past (x1 + (100 : Int32)).toNatClampNeg)) m_kept m_spare m_paid m_pastPaid m_keptPaid m_sparePaid m_isKept m_pasts m_runs m_pad m_typed m_isStopped m_stop m_order m_best m_many m_bySets m_spot m_deeds m_deed) H := hP
        refine lv_iinc (v := (x1 + (1 : Int32))) (lv' := [(1, .int (x1 + (1 : Int32))), (0, .ref (o 0))]) hx hb dX6_changes_40 hl (k := 1) rfl (congrArg (HAdd.hAdd x1) (by decide)) (by decide) rfl (fun ls hl => ?_)
        refine lv_goto (tgt := 18) hx hb dX6_changes_43 (by decide) ?_
        exact ih18 (x1 + (1 : Int32)) (upd m_past x1.toNatClampNeg (m_past (x1 + (100 : Int32)).toNatClampNeg)) m_pastPaid m_pasts _ _ _ h hP hS (lv_sub hl [1, 0] rfl)
  unfold f_X6_changes at h
  refine lv_aload_n hx hb dX6_changes_0 rfl (lv_at hl 0 rfl) ?_
  refine va_get (D := D) (ci := 7) (v := .int m_runs) (C := RX6) (T := TX6) (N := 22) hx hb hts inlX6 hown hK hP 0 rfl rfl 10 (by decide) (hts _ q_9_22) (fun _ h9 => h9) rfl dX6_changes_1 ?_
  refine lv_if_eq (tgt := 8) hx hb dX6_changes_4 (by decide) (fun c1 => ?_) (fun c1 => ?_)
  · have h := ift c1 h
    refine lv_aload_n hx hb dX6_changes_8 rfl (lv_at hl 0 rfl) ?_
    refine va_get (D := D) (ci := 7) (v := .int m_pasts) (C := RX6) (T := TX6) (N := 22) hx hb hts inlX6 hown hK hP 0 rfl rfl 9 (by decide) (hts _ q_9_23) (fun _ h9 => h9) rfl dX6_changes_9 ?_
    refine lv_iconst (v := (4 : Int32)) hx hb dX6_changes_12 (by decide) ?_
    refine lv_icmp_ne (tgt := 84) hx hb dX6_changes_13 (by decide) (fun c2 => ?_) (fun c2 => ?_)
    · have h := ifn c2 h
      refine lv_iconst (v := (0 : Int32)) hx hb dX6_changes_84 (by decide) ?_
      refine lv_istore_n (lv' := [(1, .int (0 : Int32)), (0, .ref (o 0))]) hx hb dX6_changes_85 rfl hl (by decide) rfl (fun ls hl => ?_)
      exact hL86 1024 (0 : Int32) m_past m_pastPaid m_pasts _ _ _ h hP hS (lv_sub hl [1, 0] rfl)
    · have h := ift c2 h
      refine lv_iconst (v := (0 : Int32)) hx hb dX6_changes_16 (by decide) ?_
      refine lv_istore_n (lv' := [(1, .int (0 : Int32)), (0, .ref (o 0))]) hx hb dX6_changes_17 rfl hl (by decide) rfl (fun ls hl => ?_)
      exact hL18 1024 (0 : Int32) m_past m_pastPaid m_pasts _ _ _ h hP hS (lv_sub hl [1, 0] rfl)
  · have h := ifn c1 h
    obtain rfl := Option.some.inj h
    exact hret _ _ _ _ dX6_changes_7 hP hS

def f_X6_putsAside_L2b  (m_s : Nat → Int32) (m_paid : Nat → Int64)  (k2 : Int32 → (Nat → Int32) → (Nat → Int64) → Option ((Nat → Int32) × (Nat → Int64))) (x1 : Int32) (m_spare : Nat → Int32) (m_sparePaid : Nat → Int64) : Option ((Nat → Int32) × (Nat → Int64)) :=
  if (100 : Int32) ≤ x1 then grd (inb (0 : Int32) 2) (grd (inb (0 : Int32) 2) (grd (inb (1 : Int32) 2) (grd (inb (1 : Int32) 2) (some (m_spare, (vp_updL (vp_updL m_sparePaid (0 : Int32).toNatClampNeg (m_paid (0 : Int32).toNatClampNeg)) (1 : Int32).toNatClampNeg (m_paid (1 : Int32).toNatClampNeg)))))))
  else grd (inb x1 100) (grd (inb x1 100) (k2 (x1 + (1 : Int32)) (upd m_spare x1.toNatClampNeg (m_s x1.toNatClampNeg)) m_sparePaid))
def f_X6_putsAside_L2  (m_s : Nat → Int32) (m_paid : Nat → Int64)  : Nat → Int32 → (Nat → Int32) → (Nat → Int64) → Option ((Nat → Int32) × (Nat → Int64))
  | 0 => fun _ _ _ => none
  | n + 1 => f_X6_putsAside_L2b m_s m_paid  (f_X6_putsAside_L2 m_s m_paid  n)
def f_X6_putsAside  (m_s : Nat → Int32) (m_spare : Nat → Int32) (m_paid : Nat → Int64) (m_sparePaid : Nat → Int64) : Option ((Nat → Int32) × (Nat → Int64)) :=
  f_X6_putsAside_L2 m_s m_paid  1024 (0 : Int32) m_spare m_sparePaid
set_option maxRecDepth 100000 in
set_option maxHeartbeats 4000000 in
theorem c_X6_putsAside (l : Launch) (D : va_G) (o : Nat → Nat) (cI cJ : ClassId)  (m_s : Nat → Int32) (m_past : Nat → Int32) (m_kept : Nat → Int32) (m_spare : Nat → Int32) (m_paid : Nat → Int64) (m_pastPaid : Nat → Int64) (m_keptPaid : Nat → Int64) (m_sparePaid : Nat → Int64) (m_isKept : Int32) (m_pasts : Int32) (m_runs : Int32) (m_pad : Nat → Int32) (m_typed : Int32) (m_isStopped : Int32) (m_stop : Nat → Int32) (m_order : Nat → Int32) (m_best : Nat → Int32) (m_many : Int32) (m_bySets : Nat → Int64) (m_spot : Int32) (m_deeds : Int32) (m_deed : Nat → Int32) (q : (Nat → Int32) × (Nat → Int64)) (h : f_X6_putsAside  m_s m_spare m_paid m_sparePaid = some q) : CF l yX6_putsAside cX6_putsAside 2 0 none D (tysMW cI cJ) [.ref (o 0)] none (MW o cI cJ m_s m_past m_kept m_spare m_paid m_pastPaid m_keptPaid m_sparePaid m_isKept m_pasts m_runs m_pad m_typed m_isStopped m_stop m_order m_best m_many m_bySets m_spot m_deeds m_deed) (MW o cI cJ m_s m_past m_kept q.1 m_paid m_pastPaid m_keptPaid q.2 m_isKept m_pasts m_runs m_pad m_typed m_isStopped m_stop m_order m_best m_many m_bySets m_spot m_deeds m_deed) := by
  refine CF.mkV (by decide) (Nat.le_of_ble_eq_true rfl) ?_
  intro p e s m below meth c Q A B hK hDD hA hret hP hS ls hl
  have B0 := B
  obtain ⟨hx, hb, hml, hown, hts⟩ := B0
  have hl : lv_has ls 2 [(0, .ref (o 0))] := hl
  have hL2 : ∀ (n2 : Nat) (x1 : Int32) (m_spare : Nat → Int32) (m_sparePaid : Nat → Int64) (ls : Array Slot) (H : Heap) (locs : List Loc), f_X6_putsAside_L2 m_s m_paid  n2 x1 m_spare m_sparePaid = some q → va_P D vwCl (MW o cI cJ m_s m_past m_kept m_spare m_paid m_pastPaid m_keptPaid m_sparePaid m_isKept m_pasts m_runs m_pad m_typed m_isStopped m_stop m_order m_best m_many m_bySets m_spot m_deeds m_deed) H → va_S A s.heap H locs → lv_has ls 2 [(0, .ref (o 0)), (1, .int x1)] → W p l e (rmF 0 0 0) s m ([.ref (o 0)] : List Value).toArray below meth c H locs 0 0 Q (F0 m 2 ls []) := by
    intro n2
    induction n2 with
    | zero =>
      intro x1 m_spare m_sparePaid ls H locs h
      exact absurd (show (none : Option ((Nat → Int32) × (Nat → Int64))) = some q from h) (by intro h; cases h)
    | succ n2 ih2 =>
      intro x1 m_spare m_sparePaid ls H locs h hP hS hl
      have h : f_X6_putsAside_L2b m_s m_paid  (f_X6_putsAside_L2 m_s m_paid  n2) x1 m_spare m_sparePaid = some q := h
      unfold f_X6_putsAside_L2b at h
      refine lv_iload_n hx hb dX6_putsAside_2 rfl (lv_at hl 1 rfl) ?_
      refine lv_bipush (v := (100 : Int32)) hx hb dX6_putsAside_3 (by decide) ?_
      refine lv_icmp_ge (tgt := 26) hx hb dX6_putsAside_5 (by decide) (fun c1 => ?_) (fun c1 => ?_)
      · have h := ift c1 h
        refine lv_aload_n hx hb dX6_putsAside_26 rfl (lv_at hl 0 rfl) ?_
        refine va_get (D := D) (ci := 7) (v := .ref (o 8)) (C := RX6) (T := TX6) (N := 22) hx hb hts inlX6 hown hK hP 0 rfl rfl 7 (by decide) (hts _ q_4_12) (fun _ h9 => h9) rfl dX6_putsAside_27 ?_
        refine lv_iconst (v := (0 : Int32)) hx hb dX6_putsAside_30 (by decide) ?_
        refine lv_aload_n hx hb dX6_putsAside_31 rfl (lv_at hl 0 rfl) ?_
        refine va_get (D := D) (ci := 7) (v := .ref (o 5)) (C := RX6) (T := TX6) (N := 22) hx hb hts inlX6 hown hK hP 0 rfl rfl 4 (by decide) (hts _ q_4_9) (fun _ h9 => h9) rfl dX6_putsAside_32 ?_
        refine lv_iconst (v := (0 : Int32)) hx hb dX6_putsAside_35 (by decide) ?_
        obtain ⟨g2, h⟩ := grd_some h
        refine va_lald hx hb hK hP 5 1 rfl rfl (inb_in g2) dX6_putsAside_36 ?_
        obtain ⟨g3, h⟩ := grd_some h
        refine va_last hx hb hK hP (hDD _ rfl) hS 8 1 rfl rfl (inb_in g3) dX6_putsAside_37 (fun H locs hP _ hS => ?_)
        have hP : va_P D vwCl (MW o cI cJ m_s m_past m_kept m_spare m_paid m_pastPaid m_keptPaid (vp_updL m_sparePaid (0 : Int32).toNatClampNeg (m_paid (0 : Int32).toNatClampNeg)) m_isKept m_pasts m_runs m_pad m_typed m_isStopped m_stop m_order m_best m_many m_bySets m_spot m_deeds m_deed) H := hP
        refine lv_aload_n hx hb dX6_putsAside_38 rfl (lv_at hl 0 rfl) ?_
        refine va_get (D := D) (ci := 7) (v := .ref (o 8)) (C := RX6) (T := TX6) (N := 22) hx hb hts inlX6 hown hK hP 0 rfl rfl 7 (by decide) (hts _ q_4_12) (fun _ h9 => h9) rfl dX6_putsAside_39 ?_
        refine lv_iconst (v := (1 : Int32)) hx hb dX6_putsAside_42 (by decide) ?_
        refine lv_aload_n hx hb dX6_putsAside_43 rfl (lv_at hl 0 rfl) ?_
        refine va_get (D := D) (ci := 7) (v := .ref (o 5)) (C := RX6) (T := TX6) (N := 22) hx hb hts inlX6 hown hK hP 0 rfl rfl 4 (by decide) (hts _ q_4_9) (fun _ h9 => h9) rfl dX6_putsAside_44 ?_
        refine lv_iconst (v := (1 : Int32)) hx hb dX6_putsAside_47 (by decide) ?_
        obtain ⟨g4, h⟩ := grd_some h
        refine va_lald hx hb hK hP 5 1 rfl rfl (inb_in g4) dX6_putsAside_48 ?_
        obtain ⟨g5, h⟩ := grd_some h
        refine va_last hx hb hK hP (hDD _ rfl) hS 8 1 rfl rfl (inb_in g5) dX6_putsAside_49 (fun H locs hP _ hS => ?_)
        have hP : va_P D vwCl (MW o cI cJ m_s m_past m_kept m_spare m_paid m_pastPaid m_keptPaid (vp_updL (vp_updL m_sparePaid (0 : Int32).toNatClampNeg (m_paid (0 : Int32).toNatClampNeg)) (1 : Int32).toNatClampNeg (m_paid (1 : Int32).toNatClampNeg)) m_isKept m_pasts m_runs m_pad m_typed m_isStopped m_stop m_order m_best m_many m_bySets m_spot m_deeds m_deed) H := hP
        obtain rfl := Option.some.inj h
        exact hret _ _ _ _ dX6_putsAside_50 hP hS
      · have h := ifn c1 h
        refine lv_aload_n hx hb dX6_putsAside_8 rfl (lv_at hl 0 rfl) ?_
        refine va_get (D := D) (ci := 7) (v := .ref (o 4)) (C := RX6) (T := TX6) (N := 22) hx hb hts inlX6 hown hK hP 0 rfl rfl 3 (by decide) (hts _ q_4_8) (fun _ h9 => h9) rfl dX6_putsAside_9 ?_
        refine lv_iload_n hx hb dX6_putsAside_12 rfl (lv_at hl 1 rfl) ?_
        refine lv_aload_n hx hb dX6_putsAside_13 rfl (lv_at hl 0 rfl) ?_
        refine va_get (D := D) (ci := 7) (v := .ref (o 1)) (C := RX6) (T := TX6) (N := 22) hx hb hts inlX6 hown hK hP 0 rfl rfl 0 (by decide) (hts _ q_4_5) (fun _ h9 => h9) rfl dX6_putsAside_14 ?_
        refine lv_iload_n hx hb dX6_putsAside_17 rfl (lv_at hl 1 rfl) ?_
        obtain ⟨g6, h⟩ := grd_some h
        refine va_iald hx hb hK hP 1 0 rfl rfl (inb_in g6) dX6_putsAside_18 ?_
        obtain ⟨g7, h⟩ := grd_some h
        refine va_iast hx hb hK hP (hDD _ rfl) hS 4 0 rfl rfl (inb_in g7) dX6_putsAside_19 (fun H locs hP _ hS => ?_)
        have hP : va_P D vwCl (MW o cI cJ m_s m_past m_kept (upd m_spare x1.toNatClampNeg (m_s x1.toNatClampNeg)) m_paid m_pastPaid m_keptPaid m_sparePaid m_isKept m_pasts m_runs m_pad m_typed m_isStopped m_stop m_order m_best m_many m_bySets m_spot m_deeds m_deed) H := hP
        refine lv_iinc (v := (x1 + (1 : Int32))) (lv' := [(1, .int (x1 + (1 : Int32))), (0, .ref (o 0))]) hx hb dX6_putsAside_20 hl (k := 1) rfl (congrArg (HAdd.hAdd x1) (by decide)) (by decide) rfl (fun ls hl => ?_)
        refine lv_goto (tgt := 2) hx hb dX6_putsAside_23 (by decide) ?_
        exact ih2 (x1 + (1 : Int32)) (upd m_spare x1.toNatClampNeg (m_s x1.toNatClampNeg)) m_sparePaid _ _ _ h hP hS (lv_sub hl [1, 0] rfl)
  unfold f_X6_putsAside at h
  refine lv_iconst (v := (0 : Int32)) hx hb dX6_putsAside_0 (by decide) ?_
  refine lv_istore_n (lv' := [(1, .int (0 : Int32)), (0, .ref (o 0))]) hx hb dX6_putsAside_1 rfl hl (by decide) rfl (fun ls hl => ?_)
  exact hL2 1024 (0 : Int32) m_spare m_sparePaid _ _ _ h hP hS (lv_sub hl [1, 0] rfl)

def f_X6_putsBack_L2b  (m_spare : Nat → Int32) (m_sparePaid : Nat → Int64)  (k2 : Int32 → (Nat → Int32) → (Nat → Int64) → Option ((Nat → Int32) × (Nat → Int64))) (x1 : Int32) (m_s : Nat → Int32) (m_paid : Nat → Int64) : Option ((Nat → Int32) × (Nat → Int64)) :=
  if (100 : Int32) ≤ x1 then grd (inb (0 : Int32) 2) (grd (inb (0 : Int32) 2) (grd (inb (1 : Int32) 2) (grd (inb (1 : Int32) 2) (some (m_s, (vp_updL (vp_updL m_paid (0 : Int32).toNatClampNeg (m_sparePaid (0 : Int32).toNatClampNeg)) (1 : Int32).toNatClampNeg (m_sparePaid (1 : Int32).toNatClampNeg)))))))
  else grd (inb x1 100) (grd (inb x1 100) (k2 (x1 + (1 : Int32)) (upd m_s x1.toNatClampNeg (m_spare x1.toNatClampNeg)) m_paid))
def f_X6_putsBack_L2  (m_spare : Nat → Int32) (m_sparePaid : Nat → Int64)  : Nat → Int32 → (Nat → Int32) → (Nat → Int64) → Option ((Nat → Int32) × (Nat → Int64))
  | 0 => fun _ _ _ => none
  | n + 1 => f_X6_putsBack_L2b m_spare m_sparePaid  (f_X6_putsBack_L2 m_spare m_sparePaid  n)
def f_X6_putsBack  (m_s : Nat → Int32) (m_spare : Nat → Int32) (m_paid : Nat → Int64) (m_sparePaid : Nat → Int64) : Option ((Nat → Int32) × (Nat → Int64)) :=
  f_X6_putsBack_L2 m_spare m_sparePaid  1024 (0 : Int32) m_s m_paid
set_option maxRecDepth 100000 in
set_option maxHeartbeats 4000000 in
theorem c_X6_putsBack (l : Launch) (D : va_G) (o : Nat → Nat) (cI cJ : ClassId)  (m_s : Nat → Int32) (m_past : Nat → Int32) (m_kept : Nat → Int32) (m_spare : Nat → Int32) (m_paid : Nat → Int64) (m_pastPaid : Nat → Int64) (m_keptPaid : Nat → Int64) (m_sparePaid : Nat → Int64) (m_isKept : Int32) (m_pasts : Int32) (m_runs : Int32) (m_pad : Nat → Int32) (m_typed : Int32) (m_isStopped : Int32) (m_stop : Nat → Int32) (m_order : Nat → Int32) (m_best : Nat → Int32) (m_many : Int32) (m_bySets : Nat → Int64) (m_spot : Int32) (m_deeds : Int32) (m_deed : Nat → Int32) (q : (Nat → Int32) × (Nat → Int64)) (h : f_X6_putsBack  m_s m_spare m_paid m_sparePaid = some q) : CF l yX6_putsBack cX6_putsBack 2 0 none D (tysMW cI cJ) [.ref (o 0)] none (MW o cI cJ m_s m_past m_kept m_spare m_paid m_pastPaid m_keptPaid m_sparePaid m_isKept m_pasts m_runs m_pad m_typed m_isStopped m_stop m_order m_best m_many m_bySets m_spot m_deeds m_deed) (MW o cI cJ q.1 m_past m_kept m_spare q.2 m_pastPaid m_keptPaid m_sparePaid m_isKept m_pasts m_runs m_pad m_typed m_isStopped m_stop m_order m_best m_many m_bySets m_spot m_deeds m_deed) := by
  refine CF.mkV (by decide) (Nat.le_of_ble_eq_true rfl) ?_
  intro p e s m below meth c Q A B hK hDD hA hret hP hS ls hl
  have B0 := B
  obtain ⟨hx, hb, hml, hown, hts⟩ := B0
  have hl : lv_has ls 2 [(0, .ref (o 0))] := hl
  have hL2 : ∀ (n2 : Nat) (x1 : Int32) (m_s : Nat → Int32) (m_paid : Nat → Int64) (ls : Array Slot) (H : Heap) (locs : List Loc), f_X6_putsBack_L2 m_spare m_sparePaid  n2 x1 m_s m_paid = some q → va_P D vwCl (MW o cI cJ m_s m_past m_kept m_spare m_paid m_pastPaid m_keptPaid m_sparePaid m_isKept m_pasts m_runs m_pad m_typed m_isStopped m_stop m_order m_best m_many m_bySets m_spot m_deeds m_deed) H → va_S A s.heap H locs → lv_has ls 2 [(0, .ref (o 0)), (1, .int x1)] → W p l e (rmF 0 0 0) s m ([.ref (o 0)] : List Value).toArray below meth c H locs 0 0 Q (F0 m 2 ls []) := by
    intro n2
    induction n2 with
    | zero =>
      intro x1 m_s m_paid ls H locs h
      exact absurd (show (none : Option ((Nat → Int32) × (Nat → Int64))) = some q from h) (by intro h; cases h)
    | succ n2 ih2 =>
      intro x1 m_s m_paid ls H locs h hP hS hl
      have h : f_X6_putsBack_L2b m_spare m_sparePaid  (f_X6_putsBack_L2 m_spare m_sparePaid  n2) x1 m_s m_paid = some q := h
      unfold f_X6_putsBack_L2b at h
      refine lv_iload_n hx hb dX6_putsBack_2 rfl (lv_at hl 1 rfl) ?_
      refine lv_bipush (v := (100 : Int32)) hx hb dX6_putsBack_3 (by decide) ?_
      refine lv_icmp_ge (tgt := 26) hx hb dX6_putsBack_5 (by decide) (fun c1 => ?_) (fun c1 => ?_)
      · have h := ift c1 h
        refine lv_aload_n hx hb dX6_putsBack_26 rfl (lv_at hl 0 rfl) ?_
        refine va_get (D := D) (ci := 7) (v := .ref (o 5)) (C := RX6) (T := TX6) (N := 22) hx hb hts inlX6 hown hK hP 0 rfl rfl 4 (by decide) (hts _ q_4_9) (fun _ h9 => h9) rfl dX6_putsBack_27 ?_
        refine lv_iconst (v := (0 : Int32)) hx hb dX6_putsBack_30 (by decide) ?_
        refine lv_aload_n hx hb dX6_putsBack_31 rfl (lv_at hl 0 rfl) ?_
        refine va_get (D := D) (ci := 7) (v := .ref (o 8)) (C := RX6) (T := TX6) (N := 22) hx hb hts inlX6 hown hK hP 0 rfl rfl 7 (by decide) (hts _ q_4_12) (fun _ h9 => h9) rfl dX6_putsBack_32 ?_
        refine lv_iconst (v := (0 : Int32)) hx hb dX6_putsBack_35 (by decide) ?_
        obtain ⟨g2, h⟩ := grd_some h
        refine va_lald hx hb hK hP 8 1 rfl rfl (inb_in g2) dX6_putsBack_36 ?_
        obtain ⟨g3, h⟩ := grd_some h
        refine va_last hx hb hK hP (hDD _ rfl) hS 5 1 rfl rfl (inb_in g3) dX6_putsBack_37 (fun H locs hP _ hS => ?_)
        have hP : va_P D vwCl (MW o cI cJ m_s m_past m_kept m_spare (vp_updL m_paid (0 : Int32).toNatClampNeg (m_sparePaid (0 : Int32).toNatClampNeg)) m_pastPaid m_keptPaid m_sparePaid m_isKept m_pasts m_runs m_pad m_typed m_isStopped m_stop m_order m_best m_many m_bySets m_spot m_deeds m_deed) H := hP
        refine lv_aload_n hx hb dX6_putsBack_38 rfl (lv_at hl 0 rfl) ?_
        refine va_get (D := D) (ci := 7) (v := .ref (o 5)) (C := RX6) (T := TX6) (N := 22) hx hb hts inlX6 hown hK hP 0 rfl rfl 4 (by decide) (hts _ q_4_9) (fun _ h9 => h9) rfl dX6_putsBack_39 ?_
        refine lv_iconst (v := (1 : Int32)) hx hb dX6_putsBack_42 (by decide) ?_
        refine lv_aload_n hx hb dX6_putsBack_43 rfl (lv_at hl 0 rfl) ?_
        refine va_get (D := D) (ci := 7) (v := .ref (o 8)) (C := RX6) (T := TX6) (N := 22) hx hb hts inlX6 hown hK hP 0 rfl rfl 7 (by decide) (hts _ q_4_12) (fun _ h9 => h9) rfl dX6_putsBack_44 ?_
        refine lv_iconst (v := (1 : Int32)) hx hb dX6_putsBack_47 (by decide) ?_
        obtain ⟨g4, h⟩ := grd_some h
        refine va_lald hx hb hK hP 8 1 rfl rfl (inb_in g4) dX6_putsBack_48 ?_
        obtain ⟨g5, h⟩ := grd_some h
        refine va_last hx hb hK hP (hDD _ rfl) hS 5 1 rfl rfl (inb_in g5) dX6_putsBack_49 (fun H locs hP _ hS => ?_)
        have hP : va_P D vwCl (MW o cI cJ m_s m_past m_kept m_spare (vp_updL (vp_updL m_paid (0 : Int32).toNatClampNeg (m_sparePaid (0 : Int32).toNatClampNeg)) (1 : Int32).toNatClampNeg (m_sparePaid (1 : Int32).toNatClampNeg)) m_pastPaid m_keptPaid m_sparePaid m_isKept m_pasts m_runs m_pad m_typed m_isStopped m_stop m_order m_best m_many m_bySets m_spot m_deeds m_deed) H := hP
        obtain rfl := Option.some.inj h
        exact hret _ _ _ _ dX6_putsBack_50 hP hS
      · have h := ifn c1 h
        refine lv_aload_n hx hb dX6_putsBack_8 rfl (lv_at hl 0 rfl) ?_
        refine va_get (D := D) (ci := 7) (v := .ref (o 1)) (C := RX6) (T := TX6) (N := 22) hx hb hts inlX6 hown hK hP 0 rfl rfl 0 (by decide) (hts _ q_4_5) (fun _ h9 => h9) rfl dX6_putsBack_9 ?_
        refine lv_iload_n hx hb dX6_putsBack_12 rfl (lv_at hl 1 rfl) ?_
        refine lv_aload_n hx hb dX6_putsBack_13 rfl (lv_at hl 0 rfl) ?_
        refine va_get (D := D) (ci := 7) (v := .ref (o 4)) (C := RX6) (T := TX6) (N := 22) hx hb hts inlX6 hown hK hP 0 rfl rfl 3 (by decide) (hts _ q_4_8) (fun _ h9 => h9) rfl dX6_putsBack_14 ?_
        refine lv_iload_n hx hb dX6_putsBack_17 rfl (lv_at hl 1 rfl) ?_
        obtain ⟨g6, h⟩ := grd_some h
        refine va_iald hx hb hK hP 4 0 rfl rfl (inb_in g6) dX6_putsBack_18 ?_
        obtain ⟨g7, h⟩ := grd_some h
        refine va_iast hx hb hK hP (hDD _ rfl) hS 1 0 rfl rfl (inb_in g7) dX6_putsBack_19 (fun H locs hP _ hS => ?_)
        have hP : va_P D vwCl (MW o cI cJ (upd m_s x1.toNatClampNeg (m_spare x1.toNatClampNeg)) m_past m_kept m_spare m_paid m_pastPaid m_keptPaid m_sparePaid m_isKept m_pasts m_runs m_pad m_typed m_isStopped m_stop m_order m_best m_many m_bySets m_spot m_deeds m_deed) H := hP
        refine lv_iinc (v := (x1 + (1 : Int32))) (lv' := [(1, .int (x1 + (1 : Int32))), (0, .ref (o 0))]) hx hb dX6_putsBack_20 hl (k := 1) rfl (congrArg (HAdd.hAdd x1) (by decide)) (by decide) rfl (fun ls hl => ?_)
        refine lv_goto (tgt := 2) hx hb dX6_putsBack_23 (by decide) ?_
        exact ih2 (x1 + (1 : Int32)) (upd m_s x1.toNatClampNeg (m_spare x1.toNatClampNeg)) m_paid _ _ _ h hP hS (lv_sub hl [1, 0] rfl)
  unfold f_X6_putsBack at h
  refine lv_iconst (v := (0 : Int32)) hx hb dX6_putsBack_0 (by decide) ?_
  refine lv_istore_n (lv' := [(1, .int (0 : Int32)), (0, .ref (o 0))]) hx hb dX6_putsBack_1 rfl hl (by decide) rfl (fun ls hl => ?_)
  exact hL2 1024 (0 : Int32) m_s m_paid _ _ _ h hP hS (lv_sub hl [1, 0] rfl)

def f_X6_isTable (a1 : Int32)  : Option (Int32) :=
  bnd (f_X6_in a1 (0 : Int32) (4 : Int32) ) (fun q1 => grd (isB q1) (some q1))
set_option maxRecDepth 100000 in
set_option maxHeartbeats 4000000 in
theorem c_X6_isTable (l : Launch) (a1 : Int32) (q : Int32) (h : f_X6_isTable a1  = some q) : CS l yX6_isTable cX6_isTable 1 1 (some .boolean) [.int a1] (some (.int q)) := by
  refine CS.mkI (by decide) (Nat.le_of_ble_eq_true rfl) ?_
  intro p e s m below meth c Q B hret ls hl
  have B0 := B
  obtain ⟨hx, hb, hml, hown, hts⟩ := B0
  have hl : lv_has ls 1 [(0, .int a1)] := hl
  unfold f_X6_isTable at h
  refine lv_iload_n hx hb dX6_isTable_0 rfl (lv_at hl 0 rfl) ?_
  refine lv_iconst (v := (0 : Int32)) hx hb dX6_isTable_1 (by decide) ?_
  refine lv_iconst (v := (4 : Int32)) hx hb dX6_isTable_2 (by decide) ?_
  obtain ⟨q1, e1, h⟩ := bnd_some h
  refine s_call (As := [.int a1, .int (0 : Int32), .int (4 : Int32)]) (rest := []) (c_X6_in l a1 (0 : Int32) (4 : Int32) q1 e1) B k_X6_in q_9_15 rfl ⟨Nat.le_of_ble_eq_true rfl, Nat.le_of_ble_eq_true rfl⟩ ⟨Nat.le_refl _, Nat.le_refl _⟩ hl.1 rfl (Nat.le_of_ble_eq_true rfl) dX6_isTable_3 ?_
  obtain ⟨g2, h⟩ := grd_some h
  obtain rfl := Option.some.inj h
  exact hret _ _ (isB_nar g2) dX6_isTable_6

def f_X6_isSet (a1 : Int32)  : Option (Int32) :=
  bnd (f_X6_in a1 (1 : Int32) (31 : Int32) ) (fun q1 => grd (isB q1) (some q1))
set_option maxRecDepth 100000 in
set_option maxHeartbeats 4000000 in
theorem c_X6_isSet (l : Launch) (a1 : Int32) (q : Int32) (h : f_X6_isSet a1  = some q) : CS l yX6_isSet cX6_isSet 1 1 (some .boolean) [.int a1] (some (.int q)) := by
  refine CS.mkI (by decide) (Nat.le_of_ble_eq_true rfl) ?_
  intro p e s m below meth c Q B hret ls hl
  have B0 := B
  obtain ⟨hx, hb, hml, hown, hts⟩ := B0
  have hl : lv_has ls 1 [(0, .int a1)] := hl
  unfold f_X6_isSet at h
  refine lv_iload_n hx hb dX6_isSet_0 rfl (lv_at hl 0 rfl) ?_
  refine lv_iconst (v := (1 : Int32)) hx hb dX6_isSet_1 (by decide) ?_
  refine lv_bipush (v := (31 : Int32)) hx hb dX6_isSet_2 (by decide) ?_
  obtain ⟨q1, e1, h⟩ := bnd_some h
  refine s_call (As := [.int a1, .int (1 : Int32), .int (31 : Int32)]) (rest := []) (c_X6_in l a1 (1 : Int32) (31 : Int32) q1 e1) B k_X6_in q_9_15 rfl ⟨Nat.le_of_ble_eq_true rfl, Nat.le_of_ble_eq_true rfl⟩ ⟨Nat.le_refl _, Nat.le_refl _⟩ hl.1 rfl (Nat.le_of_ble_eq_true rfl) dX6_isSet_4 ?_
  obtain ⟨g2, h⟩ := grd_some h
  obtain rfl := Option.some.inj h
  exact hret _ _ (isB_nar g2) dX6_isSet_7

def f_X6_sizeOf_L37b (a1 : Int32) (a2 : Int32) (m_s : Nat → Int32) (k5 : Int64 → Int32 → Option (Int64)) (k37 : Int64 → Int32 → Int32 → Option (Int64)) (x3 : Int64) (x5 : Int32) (x6 : Int32) : Option (Int64) :=
  if x5 ≤ x6 then k5 x3 (x5 + (1 : Int32))
  else if ((a1 >>> (x6 &&& 31)) &&& (1 : Int32)) = (1 : Int32) then grd (inb (((10 : Int32) + ((5 : Int32) * x6)) + x5) 100) (k37 ((x3 * (m_s (((10 : Int32) + ((5 : Int32) * x6)) + x5).toNatClampNeg).toInt64) / (100 : Int64)) x5 (x6 + (1 : Int32)))
  else k37 x3 x5 (x6 + (1 : Int32))
def f_X6_sizeOf_L37 (a1 : Int32) (a2 : Int32) (m_s : Nat → Int32) (k5 : Int64 → Int32 → Option (Int64)) : Nat → Int64 → Int32 → Int32 → Option (Int64)
  | 0 => fun _ _ _ => none
  | n + 1 => f_X6_sizeOf_L37b a1 a2 m_s k5 (f_X6_sizeOf_L37 a1 a2 m_s k5 n)
def f_X6_sizeOf_L5b (a1 : Int32) (a2 : Int32) (m_s : Nat → Int32)  (k5 : Int64 → Int32 → Option (Int64)) (x3 : Int64) (x5 : Int32) : Option (Int64) :=
  if (5 : Int32) ≤ x5 then if (0 : Int32) ≤ (lg_cmp x3 (1 : Int64)) then some x3
  else some (1 : Int64)
  else if ((a1 >>> (x5 &&& 31)) &&& (1 : Int32)) = (1 : Int32) then grd (inb (a2 + x5) 100) (f_X6_sizeOf_L37 a1 a2 m_s k5 1024 (x3 * (m_s (a2 + x5).toNatClampNeg).toInt64) x5 (0 : Int32))
  else k5 x3 (x5 + (1 : Int32))
def f_X6_sizeOf_L5 (a1 : Int32) (a2 : Int32) (m_s : Nat → Int32)  : Nat → Int64 → Int32 → Option (Int64)
  | 0 => fun _ _ => none
  | n + 1 => f_X6_sizeOf_L5b a1 a2 m_s  (f_X6_sizeOf_L5 a1 a2 m_s  n)
def f_X6_sizeOf (a1 : Int32) (a2 : Int32) (m_s : Nat → Int32) : Option (Int64) :=
  f_X6_sizeOf_L5 a1 a2 m_s  1024 (1 : Int64) (0 : Int32)
set_option maxRecDepth 100000 in
set_option maxHeartbeats 4000000 in
theorem c_X6_sizeOf (l : Launch) (D : va_G) (o : Nat → Nat) (cI cJ : ClassId) (a1 : Int32) (a2 : Int32) (m_s : Nat → Int32) (m_past : Nat → Int32) (m_kept : Nat → Int32) (m_spare : Nat → Int32) (m_paid : Nat → Int64) (m_pastPaid : Nat → Int64) (m_keptPaid : Nat → Int64) (m_sparePaid : Nat → Int64) (m_isKept : Int32) (m_pasts : Int32) (m_runs : Int32) (m_pad : Nat → Int32) (m_typed : Int32) (m_isStopped : Int32) (m_stop : Nat → Int32) (m_order : Nat → Int32) (m_best : Nat → Int32) (m_many : Int32) (m_bySets : Nat → Int64) (m_spot : Int32) (m_deeds : Int32) (m_deed : Nat → Int32) (q : Int64) (h : f_X6_sizeOf a1 a2 m_s = some q) : CF l yX6_sizeOf cX6_sizeOf 7 0 (some .long) D (tysMW cI cJ) [.ref (o 0), .int a1, .int a2] (some (.long q)) (MW o cI cJ m_s m_past m_kept m_spare m_paid m_pastPaid m_keptPaid m_sparePaid m_isKept m_pasts m_runs m_pad m_typed m_isStopped m_stop m_order m_best m_many m_bySets m_spot m_deeds m_deed) (MW o cI cJ m_s m_past m_kept m_spare m_paid m_pastPaid m_keptPaid m_sparePaid m_isKept m_pasts m_runs m_pad m_typed m_isStopped m_stop m_order m_best m_many m_bySets m_spot m_deeds m_deed) := by
  refine CF.mkL (by decide) (Nat.le_of_ble_eq_true rfl) ?_
  intro p e s m below meth c Q A B hK hDD hA hret hP hS ls hl
  have B0 := B
  obtain ⟨hx, hb, hml, hown, hts⟩ := B0
  have hl : lv_has ls 7 [(0, .ref (o 0)), (1, .int a1), (2, .int a2)] := hl
  have hL5 : ∀ (n5 : Nat) (x3 : Int64) (x5 : Int32) (ls : Array Slot) (H : Heap) (locs : List Loc), f_X6_sizeOf_L5 a1 a2 m_s  n5 x3 x5 = some q → va_P D vwCl (MW o cI cJ m_s m_past m_kept m_spare m_paid m_pastPaid m_keptPaid m_sparePaid m_isKept m_pasts m_runs m_pad m_typed m_isStopped m_stop m_order m_best m_many m_bySets m_spot m_deeds m_deed) H → va_S A s.heap H locs → lv_has ls 7 [(0, .ref (o 0)), (1, .int a1), (2, .int a2), (3, .long x3), (5, .int x5)] → W p l e (rmF 0 0 0) s m ([.ref (o 0), .int a1, .int a2] : List Value).toArray below meth c H locs 0 0 Q (F0 m 5 ls []) := by
    intro n5
    induction n5 with
    | zero =>
      intro x3 x5 ls H locs h
      exact absurd (show (none : Option (Int64)) = some q from h) (by intro h; cases h)
    | succ n5 ih5 =>
      have hL37 : ∀ (n37 : Nat) (x3 : Int64) (x5 : Int32) (x6 : Int32) (ls : Array Slot) (H : Heap) (locs : List Loc), f_X6_sizeOf_L37 a1 a2 m_s (f_X6_sizeOf_L5 a1 a2 m_s   n5) n37 x3 x5 x6 = some q → va_P D vwCl (MW o cI cJ m_s m_past m_kept m_spare m_paid m_pastPaid m_keptPaid m_sparePaid m_isKept m_pasts m_runs m_pad m_typed m_isStopped m_stop m_order m_best m_many m_bySets m_spot m_deeds m_deed) H → va_S A s.heap H locs → lv_has ls 7 [(0, .ref (o 0)), (1, .int a1), (2, .int a2), (3, .long x3), (5, .int x5), (6, .int x6)] → W p l e (rmF 0 0 0) s m ([.ref (o 0), .int a1, .int a2] : List Value).toArray below meth c H locs 0 0 Q (F0 m 37 ls []) := by
        intro n37
        induction n37 with
        | zero =>
          intro x3 x5 x6 ls H locs h
          exact absurd (show (none : Option (Int64)) = some q from h) (by intro h; cases h)
        | succ n37 ih37 =>
          intro x3 x5 x6 ls H locs h hP hS hl
          have h : f_X6_sizeOf_L37b a1 a2 m_s (f_X6_sizeOf_L5 a1 a2 m_s   n5) (f_X6_sizeOf_L37 a1 a2 m_s (f_X6_sizeOf_L5 a1 a2 m_s   n5) n37) x3 x5 x6 = some q := h
          unfold f_X6_sizeOf_L37b at h
          refine lv_iload hx hb dX6_sizeOf_37 (lv_at hl 5 rfl) ?_
          refine lv_iload hx hb dX6_sizeOf_39 (lv_at hl 4 rfl) ?_
          refine lv_icmp_ge (tgt := 87) hx hb dX6_sizeOf_41 (by decide) (fun c5 => ?_) (fun c5 => ?_)
          · have h := ift c5 h
            refine lv_iinc (v := (x5 + (1 : Int32))) (lv' := [(5, .int (x5 + (1 : Int32))), (0, .ref (o 0)), (1, .int a1), (2, .int a2), (3, .long x3), (6, .int x6)]) hx hb dX6_sizeOf_87 hl (k := 4) rfl (congrArg (HAdd.hAdd x5) (by decide)) (by decide) rfl (fun ls hl => ?_)
            refine lv_goto (tgt := 5) hx hb dX6_sizeOf_90 (by decide) ?_
            exact ih5 x3 (x5 + (1 : Int32)) _ _ _ h hP hS (lv_sub hl [1, 2, 3, 4, 0] rfl)
          · have h := ifn c5 h
            refine lv_iload_n hx hb dX6_sizeOf_44 rfl (lv_at hl 1 rfl) ?_
            refine lv_iload hx hb dX6_sizeOf_45 (lv_at hl 5 rfl) ?_
            refine lv_ishr hx hb dX6_sizeOf_47 ?_
            refine lv_iconst (v := (1 : Int32)) hx hb dX6_sizeOf_48 (by decide) ?_
            refine lv_iand hx hb dX6_sizeOf_49 ?_
            refine lv_iconst (v := (1 : Int32)) hx hb dX6_sizeOf_50 (by decide) ?_
            refine lv_icmp_ne (tgt := 79) hx hb dX6_sizeOf_51 (by decide) (fun c6 => ?_) (fun c6 => ?_)
            · have h := ifn c6 h
              refine lv_lload_n hx hb dX6_sizeOf_79 rfl (lv_at hl 3 rfl) ?_
              refine lv_lstore_n (lv' := [(3, .long x3), (0, .ref (o 0)), (1, .int a1), (2, .int a2), (5, .int x5), (6, .int x6)]) hx hb dX6_sizeOf_80 rfl hl (by decide) rfl (fun ls hl => ?_)
              refine lv_iinc (v := (x6 + (1 : Int32))) (lv' := [(6, .int (x6 + (1 : Int32))), (3, .long x3), (0, .ref (o 0)), (1, .int a1), (2, .int a2), (5, .int x5)]) hx hb dX6_sizeOf_81 hl (k := 5) rfl (congrArg (HAdd.hAdd x6) (by decide)) (by decide) rfl (fun ls hl => ?_)
              refine lv_goto (tgt := 37) hx hb dX6_sizeOf_84 (by decide) ?_
              exact ih37 x3 x5 (x6 + (1 : Int32)) _ _ _ h hP hS (lv_sub hl [2, 3, 4, 1, 5, 0] rfl)
            · have h := ift c6 h
              refine lv_lload_n hx hb dX6_sizeOf_54 rfl (lv_at hl 3 rfl) ?_
              refine lv_aload_n hx hb dX6_sizeOf_55 rfl (lv_at hl 0 rfl) ?_
              refine va_get (D := D) (ci := 7) (v := .ref (o 1)) (C := RX6) (T := TX6) (N := 22) hx hb hts inlX6 hown hK hP 0 rfl rfl 0 (by decide) (hts _ q_4_5) (fun _ h9 => h9) rfl dX6_sizeOf_56 ?_
              refine lv_bipush (v := (10 : Int32)) hx hb dX6_sizeOf_59 (by decide) ?_
              refine lv_iconst (v := (5 : Int32)) hx hb dX6_sizeOf_61 (by decide) ?_
              refine lv_iload hx hb dX6_sizeOf_62 (lv_at hl 5 rfl) ?_
              refine lv_imul hx hb dX6_sizeOf_64 ?_
              refine lv_iadd hx hb dX6_sizeOf_65 ?_
              refine lv_iload hx hb dX6_sizeOf_66 (lv_at hl 4 rfl) ?_
              refine lv_iadd hx hb dX6_sizeOf_68 ?_
              obtain ⟨g7, h⟩ := grd_some h
              refine va_iald hx hb hK hP 1 0 rfl rfl (inb_in g7) dX6_sizeOf_69 ?_
              refine lv_i2l hx hb dX6_sizeOf_70 rfl ?_
              refine lv_lmul hx hb dX6_sizeOf_71 ?_
              refine lv_ldc2 (v := (100 : Int64)) hx hb hown (hts _ q_18_22) dX6_sizeOf_72 ?_
              refine lv_ldiv hx hb dX6_sizeOf_75 (by decide) ?_
              refine lv_goto (tgt := 80) hx hb dX6_sizeOf_76 (by decide) ?_
              refine lv_lstore_n (lv' := [(3, .long ((x3 * (m_s (((10 : Int32) + ((5 : Int32) * x6)) + x5).toNatClampNeg).toInt64) / (100 : Int64))), (0, .ref (o 0)), (1, .int a1), (2, .int a2), (5, .int x5), (6, .int x6)]) hx hb dX6_sizeOf_80 rfl hl (by decide) rfl (fun ls hl => ?_)
              refine lv_iinc (v := (x6 + (1 : Int32))) (lv' := [(6, .int (x6 + (1 : Int32))), (3, .long ((x3 * (m_s (((10 : Int32) + ((5 : Int32) * x6)) + x5).toNatClampNeg).toInt64) / (100 : Int64))), (0, .ref (o 0)), (1, .int a1), (2, .int a2), (5, .int x5)]) hx hb dX6_sizeOf_81 hl (k := 5) rfl (congrArg (HAdd.hAdd x6) (by decide)) (by decide) rfl (fun ls hl => ?_)
              refine lv_goto (tgt := 37) hx hb dX6_sizeOf_84 (by decide) ?_
              exact ih37 ((x3 * (m_s (((10 : Int32) + ((5 : Int32) * x6)) + x5).toNatClampNeg).toInt64) / (100 : Int64)) x5 (x6 + (1 : Int32)) _ _ _ h hP hS (lv_sub hl [2, 3, 4, 1, 5, 0] rfl)
      intro x3 x5 ls H locs h hP hS hl
      have h : f_X6_sizeOf_L5b a1 a2 m_s  (f_X6_sizeOf_L5 a1 a2 m_s  n5) x3 x5 = some q := h
      unfold f_X6_sizeOf_L5b at h
      refine lv_iload hx hb dX6_sizeOf_5 (lv_at hl 4 rfl) ?_
      refine lv_iconst (v := (5 : Int32)) hx hb dX6_sizeOf_7 (by decide) ?_
      refine lv_icmp_ge (tgt := 93) hx hb dX6_sizeOf_8 (by decide) (fun c1 => ?_) (fun c1 => ?_)
      · have h := ift c1 h
        refine lv_lload_n hx hb dX6_sizeOf_93 rfl (lv_at hl 3 rfl) ?_
        refine lv_lconst (v := (1 : Int64)) hx hb dX6_sizeOf_94 (by decide) ?_
        refine W.lcmp hx hb dX6_sizeOf_95 ?_
        refine lv_if_ge (tgt := 103) hx hb dX6_sizeOf_96 (by decide) (fun c2 => ?_) (fun c2 => ?_)
        · have h := ift c2 h
          refine lv_lload_n hx hb dX6_sizeOf_103 rfl (lv_at hl 3 rfl) ?_
          obtain rfl := Option.some.inj h
          exact hret _ _ _ _ dX6_sizeOf_104 hP hS
        · have h := ifn c2 h
          refine lv_lconst (v := (1 : Int64)) hx hb dX6_sizeOf_99 (by decide) ?_
          refine lv_goto (tgt := 104) hx hb dX6_sizeOf_100 (by decide) ?_
          obtain rfl := Option.some.inj h
          exact hret _ _ _ _ dX6_sizeOf_104 hP hS
      · have h := ifn c1 h
        refine lv_iload_n hx hb dX6_sizeOf_11 rfl (lv_at hl 1 rfl) ?_
        refine lv_iload hx hb dX6_sizeOf_12 (lv_at hl 4 rfl) ?_
        refine lv_ishr hx hb dX6_sizeOf_14 ?_
        refine lv_iconst (v := (1 : Int32)) hx hb dX6_sizeOf_15 (by decide) ?_
        refine lv_iand hx hb dX6_sizeOf_16 ?_
        refine lv_iconst (v := (1 : Int32)) hx hb dX6_sizeOf_17 (by decide) ?_
        refine lv_icmp_ne (tgt := 87) hx hb dX6_sizeOf_18 (by decide) (fun c3 => ?_) (fun c3 => ?_)
        · have h := ifn c3 h
          refine lv_iinc (v := (x5 + (1 : Int32))) (lv' := [(5, .int (x5 + (1 : Int32))), (0, .ref (o 0)), (1, .int a1), (2, .int a2), (3, .long x3)]) hx hb dX6_sizeOf_87 hl (k := 4) rfl (congrArg (HAdd.hAdd x5) (by decide)) (by decide) rfl (fun ls hl => ?_)
          refine lv_goto (tgt := 5) hx hb dX6_sizeOf_90 (by decide) ?_
          exact ih5 x3 (x5 + (1 : Int32)) _ _ _ h hP hS (lv_sub hl [1, 2, 3, 4, 0] rfl)
        · have h := ift c3 h
          refine lv_lload_n hx hb dX6_sizeOf_21 rfl (lv_at hl 3 rfl) ?_
          refine lv_aload_n hx hb dX6_sizeOf_22 rfl (lv_at hl 0 rfl) ?_
          refine va_get (D := D) (ci := 7) (v := .ref (o 1)) (C := RX6) (T := TX6) (N := 22) hx hb hts inlX6 hown hK hP 0 rfl rfl 0 (by decide) (hts _ q_4_5) (fun _ h9 => h9) rfl dX6_sizeOf_23 ?_
          refine lv_iload_n hx hb dX6_sizeOf_26 rfl (lv_at hl 2 rfl) ?_
          refine lv_iload hx hb dX6_sizeOf_27 (lv_at hl 4 rfl) ?_
          refine lv_iadd hx hb dX6_sizeOf_29 ?_
          obtain ⟨g4, h⟩ := grd_some h
          refine va_iald hx hb hK hP 1 0 rfl rfl (inb_in g4) dX6_sizeOf_30 ?_
          refine lv_i2l hx hb dX6_sizeOf_31 rfl ?_
          refine lv_lmul hx hb dX6_sizeOf_32 ?_
          refine lv_lstore_n (lv' := [(3, .long (x3 * (m_s (a2 + x5).toNatClampNeg).toInt64)), (0, .ref (o 0)), (1, .int a1), (2, .int a2), (5, .int x5)]) hx hb dX6_sizeOf_33 rfl hl (by decide) rfl (fun ls hl => ?_)
          refine lv_iconst (v := (0 : Int32)) hx hb dX6_sizeOf_34 (by decide) ?_
          refine lv_istore (lv' := [(6, .int (0 : Int32)), (3, .long (x3 * (m_s (a2 + x5).toNatClampNeg).toInt64)), (0, .ref (o 0)), (1, .int a1), (2, .int a2), (5, .int x5)]) hx hb dX6_sizeOf_35 hl (by decide) rfl (fun ls hl => ?_)
          exact hL37 1024 (x3 * (m_s (a2 + x5).toNatClampNeg).toInt64) x5 (0 : Int32) _ _ _ h hP hS (lv_sub hl [2, 3, 4, 1, 5, 0] rfl)
  unfold f_X6_sizeOf at h
  refine lv_lconst (v := (1 : Int64)) hx hb dX6_sizeOf_0 (by decide) ?_
  refine lv_lstore_n (lv' := [(3, .long (1 : Int64)), (0, .ref (o 0)), (1, .int a1), (2, .int a2)]) hx hb dX6_sizeOf_1 rfl hl (by decide) rfl (fun ls hl => ?_)
  refine lv_iconst (v := (0 : Int32)) hx hb dX6_sizeOf_2 (by decide) ?_
  refine lv_istore (lv' := [(5, .int (0 : Int32)), (3, .long (1 : Int64)), (0, .ref (o 0)), (1, .int a1), (2, .int a2)]) hx hb dX6_sizeOf_3 hl (by decide) rfl (fun ls hl => ?_)
  exact hL5 1024 (1 : Int64) (0 : Int32) _ _ _ h hP hS (lv_sub hl [2, 3, 4, 1, 0] rfl)

def f_X6_base (a1 : Int32)  : Option (Int32) :=
  if a1 = (0 : Int32) then some (5 : Int32)
  else some (0 : Int32)
set_option maxRecDepth 100000 in
set_option maxHeartbeats 4000000 in
theorem c_X6_base (l : Launch) (a1 : Int32) (q : Int32) (h : f_X6_base a1  = some q) : CS l yX6_base cX6_base 1 0 (some .int) [.int a1] (some (.int q)) := by
  refine CS.mkI (by decide) (Nat.le_of_ble_eq_true rfl) ?_
  intro p e s m below meth c Q B hret ls hl
  have B0 := B
  obtain ⟨hx, hb, hml, hown, hts⟩ := B0
  have hl : lv_has ls 1 [(0, .int a1)] := hl
  unfold f_X6_base at h
  refine lv_iload_n hx hb dX6_base_0 rfl (lv_at hl 0 rfl) ?_
  refine lv_if_eq (tgt := 8) hx hb dX6_base_1 (by decide) (fun c1 => ?_) (fun c1 => ?_)
  · have h := ift c1 h
    refine lv_iconst (v := (5 : Int32)) hx hb dX6_base_8 (by decide) ?_
    obtain rfl := Option.some.inj h
    exact hret _ _ (vp_nar_int _) dX6_base_9
  · have h := ifn c1 h
    refine lv_iconst (v := (0 : Int32)) hx hb dX6_base_4 (by decide) ?_
    refine lv_goto (tgt := 9) hx hb dX6_base_5 (by decide) ?_
    obtain rfl := Option.some.inj h
    exact hret _ _ (vp_nar_int _) dX6_base_9

def f_X6_costOf_L8b (a1 : Int32) (m_s : Nat → Int32) (m_order : Nat → Int32) (m_many : Int32)  (k8 : Int64 → Int32 → Int32 → Option (Int64)) (x2 : Int64) (x4 : Int32) (x5 : Int32) : Option (Int64) :=
  if m_many ≤ x5 then some x2
  else grd (inb x5 5) (bnd (f_X6_sizeOf (x4 ||| ((1 : Int32) <<< ((m_order x5.toNatClampNeg) &&& 31))) a1 m_s) (fun q3 => k8 (x2 + q3) (x4 ||| ((1 : Int32) <<< ((m_order x5.toNatClampNeg) &&& 31))) (x5 + (1 : Int32))))
def f_X6_costOf_L8 (a1 : Int32) (m_s : Nat → Int32) (m_order : Nat → Int32) (m_many : Int32)  : Nat → Int64 → Int32 → Int32 → Option (Int64)
  | 0 => fun _ _ _ => none
  | n + 1 => f_X6_costOf_L8b a1 m_s m_order m_many  (f_X6_costOf_L8 a1 m_s m_order m_many  n)
def f_X6_costOf (a1 : Int32) (m_s : Nat → Int32) (m_order : Nat → Int32) (m_many : Int32) : Option (Int64) :=
  f_X6_costOf_L8 a1 m_s m_order m_many  1024 (0 : Int64) (0 : Int32) (0 : Int32)
set_option maxRecDepth 100000 in
set_option maxHeartbeats 4000000 in
theorem c_X6_costOf (l : Launch) (D : va_G) (o : Nat → Nat) (cI cJ : ClassId) (a1 : Int32) (m_s : Nat → Int32) (m_past : Nat → Int32) (m_kept : Nat → Int32) (m_spare : Nat → Int32) (m_paid : Nat → Int64) (m_pastPaid : Nat → Int64) (m_keptPaid : Nat → Int64) (m_sparePaid : Nat → Int64) (m_isKept : Int32) (m_pasts : Int32) (m_runs : Int32) (m_pad : Nat → Int32) (m_typed : Int32) (m_isStopped : Int32) (m_stop : Nat → Int32) (m_order : Nat → Int32) (m_best : Nat → Int32) (m_many : Int32) (m_bySets : Nat → Int64) (m_spot : Int32) (m_deeds : Int32) (m_deed : Nat → Int32) (q : Int64) (h : f_X6_costOf a1 m_s m_order m_many = some q) : CF l yX6_costOf cX6_costOf 6 1 (some .long) D (tysMW cI cJ) [.ref (o 0), .int a1] (some (.long q)) (MW o cI cJ m_s m_past m_kept m_spare m_paid m_pastPaid m_keptPaid m_sparePaid m_isKept m_pasts m_runs m_pad m_typed m_isStopped m_stop m_order m_best m_many m_bySets m_spot m_deeds m_deed) (MW o cI cJ m_s m_past m_kept m_spare m_paid m_pastPaid m_keptPaid m_sparePaid m_isKept m_pasts m_runs m_pad m_typed m_isStopped m_stop m_order m_best m_many m_bySets m_spot m_deeds m_deed) := by
  refine CF.mkL (by decide) (Nat.le_of_ble_eq_true rfl) ?_
  intro p e s m below meth c Q A B hK hDD hA hret hP hS ls hl
  have B0 := B
  obtain ⟨hx, hb, hml, hown, hts⟩ := B0
  have hl : lv_has ls 6 [(0, .ref (o 0)), (1, .int a1)] := hl
  have hL8 : ∀ (n8 : Nat) (x2 : Int64) (x4 : Int32) (x5 : Int32) (ls : Array Slot) (H : Heap) (locs : List Loc), f_X6_costOf_L8 a1 m_s m_order m_many  n8 x2 x4 x5 = some q → va_P D vwCl (MW o cI cJ m_s m_past m_kept m_spare m_paid m_pastPaid m_keptPaid m_sparePaid m_isKept m_pasts m_runs m_pad m_typed m_isStopped m_stop m_order m_best m_many m_bySets m_spot m_deeds m_deed) H → va_S A s.heap H locs → lv_has ls 6 [(0, .ref (o 0)), (1, .int a1), (2, .long x2), (4, .int x4), (5, .int x5)] → W p l e (rmF 1 0 0) s m ([.ref (o 0), .int a1] : List Value).toArray below meth c H locs 0 0 Q (F0 m 8 ls []) := by
    intro n8
    induction n8 with
    | zero =>
      intro x2 x4 x5 ls H locs h
      exact absurd (show (none : Option (Int64)) = some q from h) (by intro h; cases h)
    | succ n8 ih8 =>
      intro x2 x4 x5 ls H locs h hP hS hl
      have h : f_X6_costOf_L8b a1 m_s m_order m_many  (f_X6_costOf_L8 a1 m_s m_order m_many  n8) x2 x4 x5 = some q := h
      unfold f_X6_costOf_L8b at h
      refine lv_iload hx hb dX6_costOf_8 (lv_at hl 4 rfl) ?_
      refine lv_aload_n hx hb dX6_costOf_10 rfl (lv_at hl 0 rfl) ?_
      refine va_get (D := D) (ci := 7) (v := .int m_many) (C := RX6) (T := TX6) (N := 22) hx hb hts inlX6 hown hK hP 0 rfl rfl 17 (by decide) (hts _ q_18_8) (fun _ h9 => h9) rfl dX6_costOf_11 ?_
      refine lv_icmp_ge (tgt := 47) hx hb dX6_costOf_14 (by decide) (fun c1 => ?_) (fun c1 => ?_)
      · have h := ift c1 h
        refine lv_lload_n hx hb dX6_costOf_47 rfl (lv_at hl 2 rfl) ?_
        obtain rfl := Option.some.inj h
        exact hret _ _ _ _ dX6_costOf_48 hP hS
      · have h := ifn c1 h
        refine lv_iload hx hb dX6_costOf_17 (lv_at hl 3 rfl) ?_
        refine lv_iconst (v := (1 : Int32)) hx hb dX6_costOf_19 (by decide) ?_
        refine lv_aload_n hx hb dX6_costOf_20 rfl (lv_at hl 0 rfl) ?_
        refine va_get (D := D) (ci := 7) (v := .ref (o 11)) (C := RX6) (T := TX6) (N := 22) hx hb hts inlX6 hown hK hP 0 rfl rfl 15 (by decide) (hts _ q_4_15) (fun _ h9 => h9) rfl dX6_costOf_21 ?_
        refine lv_iload hx hb dX6_costOf_24 (lv_at hl 4 rfl) ?_
        obtain ⟨g2, h⟩ := grd_some h
        refine va_iald hx hb hK hP 11 0 rfl rfl (inb_in g2) dX6_costOf_26 ?_
        refine lv_ishl hx hb dX6_costOf_27 ?_
        refine lv_ior hx hb dX6_costOf_28 ?_
        refine lv_istore (lv' := [(4, .int (x4 ||| ((1 : Int32) <<< ((m_order x5.toNatClampNeg) &&& 31)))), (0, .ref (o 0)), (1, .int a1), (2, .long x2), (5, .int x5)]) hx hb dX6_costOf_29 hl (by decide) rfl (fun ls hl => ?_)
        refine lv_lload_n hx hb dX6_costOf_31 rfl (lv_at hl 3 rfl) ?_
        refine lv_aload_n hx hb dX6_costOf_32 rfl (lv_at hl 1 rfl) ?_
        refine lv_iload hx hb dX6_costOf_33 (lv_at hl 0 rfl) ?_
        refine lv_iload_n hx hb dX6_costOf_35 rfl (lv_at hl 2 rfl) ?_
        obtain ⟨q3, e3, h⟩ := bnd_some h
        refine f_call (As := [.int (x4 ||| ((1 : Int32) <<< ((m_order x5.toNatClampNeg) &&& 31))), .int a1]) (rest := [.long x2]) (c_X6_sizeOf l D o cI cJ (x4 ||| ((1 : Int32) <<< ((m_order x5.toNatClampNeg) &&& 31))) a1 m_s m_past m_kept m_spare m_paid m_pastPaid m_keptPaid m_sparePaid m_isKept m_pasts m_runs m_pad m_typed m_isStopped m_stop m_order m_best m_many m_bySets m_spot m_deeds m_deed q3 e3) B hK hDD hA hP hS rfl (va_recv hK hP (ci := 7) (q0 := 0) rfl rfl) k_X6_sizeOf q_18_18 rfl ⟨Nat.le_of_ble_eq_true rfl, Nat.le_of_ble_eq_true rfl⟩ ⟨Nat.le_refl _, Nat.le_refl _⟩ hl.1 rfl (Nat.le_of_ble_eq_true rfl) dX6_costOf_36 (fun H locs hP hS => ?_)
        refine lv_ladd hx hb dX6_costOf_39 ?_
        refine lv_lstore_n (lv' := [(2, .long (x2 + q3)), (4, .int (x4 ||| ((1 : Int32) <<< ((m_order x5.toNatClampNeg) &&& 31)))), (0, .ref (o 0)), (1, .int a1), (5, .int x5)]) hx hb dX6_costOf_40 rfl hl (by decide) rfl (fun ls hl => ?_)
        refine lv_iinc (v := (x5 + (1 : Int32))) (lv' := [(5, .int (x5 + (1 : Int32))), (2, .long (x2 + q3)), (4, .int (x4 ||| ((1 : Int32) <<< ((m_order x5.toNatClampNeg) &&& 31)))), (0, .ref (o 0)), (1, .int a1)]) hx hb dX6_costOf_41 hl (k := 4) rfl (congrArg (HAdd.hAdd x5) (by decide)) (by decide) rfl (fun ls hl => ?_)
        refine lv_goto (tgt := 8) hx hb dX6_costOf_44 (by decide) ?_
        exact ih8 (x2 + q3) (x4 ||| ((1 : Int32) <<< ((m_order x5.toNatClampNeg) &&& 31))) (x5 + (1 : Int32)) _ _ _ h hP hS (lv_sub hl [3, 4, 1, 2, 0] rfl)
  unfold f_X6_costOf at h
  refine lv_lconst (v := (0 : Int64)) hx hb dX6_costOf_0 (by decide) ?_
  refine lv_lstore_n (lv' := [(2, .long (0 : Int64)), (0, .ref (o 0)), (1, .int a1)]) hx hb dX6_costOf_1 rfl hl (by decide) rfl (fun ls hl => ?_)
  refine lv_iconst (v := (0 : Int32)) hx hb dX6_costOf_2 (by decide) ?_
  refine lv_istore (lv' := [(4, .int (0 : Int32)), (2, .long (0 : Int64)), (0, .ref (o 0)), (1, .int a1)]) hx hb dX6_costOf_3 hl (by decide) rfl (fun ls hl => ?_)
  refine lv_iconst (v := (0 : Int32)) hx hb dX6_costOf_5 (by decide) ?_
  refine lv_istore (lv' := [(5, .int (0 : Int32)), (4, .int (0 : Int32)), (2, .long (0 : Int64)), (0, .ref (o 0)), (1, .int a1)]) hx hb dX6_costOf_6 hl (by decide) rfl (fun ls hl => ?_)
  exact hL8 1024 (0 : Int64) (0 : Int32) (0 : Int32) _ _ _ h hP hS (lv_sub hl [3, 4, 2, 1, 0] rfl)

def f_X6_swaps (a1 : Int32) (a2 : Int32) (m_order : Nat → Int32) : Option ((Nat → Int32)) :=
  grd (inb a1 5) (grd (inb a2 5) (grd (inb a1 5) (grd (inb a2 5) (some (upd (upd m_order a1.toNatClampNeg (m_order a2.toNatClampNeg)) a2.toNatClampNeg (m_order a1.toNatClampNeg))))))
set_option maxRecDepth 100000 in
set_option maxHeartbeats 4000000 in
theorem c_X6_swaps (l : Launch) (D : va_G) (o : Nat → Nat) (cI cJ : ClassId) (a1 : Int32) (a2 : Int32) (m_s : Nat → Int32) (m_past : Nat → Int32) (m_kept : Nat → Int32) (m_spare : Nat → Int32) (m_paid : Nat → Int64) (m_pastPaid : Nat → Int64) (m_keptPaid : Nat → Int64) (m_sparePaid : Nat → Int64) (m_isKept : Int32) (m_pasts : Int32) (m_runs : Int32) (m_pad : Nat → Int32) (m_typed : Int32) (m_isStopped : Int32) (m_stop : Nat → Int32) (m_order : Nat → Int32) (m_best : Nat → Int32) (m_many : Int32) (m_bySets : Nat → Int64) (m_spot : Int32) (m_deeds : Int32) (m_deed : Nat → Int32) (q : (Nat → Int32)) (h : f_X6_swaps a1 a2 m_order = some q) : CF l yX6_swaps cX6_swaps 4 0 none D (tysMW cI cJ) [.ref (o 0), .int a1, .int a2] none (MW o cI cJ m_s m_past m_kept m_spare m_paid m_pastPaid m_keptPaid m_sparePaid m_isKept m_pasts m_runs m_pad m_typed m_isStopped m_stop m_order m_best m_many m_bySets m_spot m_deeds m_deed) (MW o cI cJ m_s m_past m_kept m_spare m_paid m_pastPaid m_keptPaid m_sparePaid m_isKept m_pasts m_runs m_pad m_typed m_isStopped m_stop q m_best m_many m_bySets m_spot m_deeds m_deed) := by
  refine CF.mkV (by decide) (Nat.le_of_ble_eq_true rfl) ?_
  intro p e s m below meth c Q A B hK hDD hA hret hP hS ls hl
  have B0 := B
  obtain ⟨hx, hb, hml, hown, hts⟩ := B0
  have hl : lv_has ls 4 [(0, .ref (o 0)), (1, .int a1), (2, .int a2)] := hl
  unfold f_X6_swaps at h
  refine lv_aload_n hx hb dX6_swaps_0 rfl (lv_at hl 0 rfl) ?_
  refine va_get (D := D) (ci := 7) (v := .ref (o 11)) (C := RX6) (T := TX6) (N := 22) hx hb hts inlX6 hown hK hP 0 rfl rfl 15 (by decide) (hts _ q_4_15) (fun _ h9 => h9) rfl dX6_swaps_1 ?_
  refine lv_iload_n hx hb dX6_swaps_4 rfl (lv_at hl 1 rfl) ?_
  obtain ⟨g1, h⟩ := grd_some h
  refine va_iald hx hb hK hP 11 0 rfl rfl (inb_in g1) dX6_swaps_5 ?_
  refine lv_istore_n (lv' := [(3, .int (m_order a1.toNatClampNeg)), (0, .ref (o 0)), (1, .int a1), (2, .int a2)]) hx hb dX6_swaps_6 rfl hl (by decide) rfl (fun ls hl => ?_)
  refine lv_aload_n hx hb dX6_swaps_7 rfl (lv_at hl 1 rfl) ?_
  refine va_get (D := D) (ci := 7) (v := .ref (o 11)) (C := RX6) (T := TX6) (N := 22) hx hb hts inlX6 hown hK hP 0 rfl rfl 15 (by decide) (hts _ q_4_15) (fun _ h9 => h9) rfl dX6_swaps_8 ?_
  refine lv_iload_n hx hb dX6_swaps_11 rfl (lv_at hl 2 rfl) ?_
  refine lv_aload_n hx hb dX6_swaps_12 rfl (lv_at hl 1 rfl) ?_
  refine va_get (D := D) (ci := 7) (v := .ref (o 11)) (C := RX6) (T := TX6) (N := 22) hx hb hts inlX6 hown hK hP 0 rfl rfl 15 (by decide) (hts _ q_4_15) (fun _ h9 => h9) rfl dX6_swaps_13 ?_
  refine lv_iload_n hx hb dX6_swaps_16 rfl (lv_at hl 3 rfl) ?_
  obtain ⟨g2, h⟩ := grd_some h
  refine va_iald hx hb hK hP 11 0 rfl rfl (inb_in g2) dX6_swaps_17 ?_
  obtain ⟨g3, h⟩ := grd_some h
  refine va_iast hx hb hK hP (hDD _ rfl) hS 11 0 rfl rfl (inb_in g3) dX6_swaps_18 (fun H locs hP _ hS => ?_)
  have hP : va_P D vwCl (MW o cI cJ m_s m_past m_kept m_spare m_paid m_pastPaid m_keptPaid m_sparePaid m_isKept m_pasts m_runs m_pad m_typed m_isStopped m_stop (upd m_order a1.toNatClampNeg (m_order a2.toNatClampNeg)) m_best m_many m_bySets m_spot m_deeds m_deed) H := hP
  refine lv_aload_n hx hb dX6_swaps_19 rfl (lv_at hl 1 rfl) ?_
  refine va_get (D := D) (ci := 7) (v := .ref (o 11)) (C := RX6) (T := TX6) (N := 22) hx hb hts inlX6 hown hK hP 0 rfl rfl 15 (by decide) (hts _ q_4_15) (fun _ h9 => h9) rfl dX6_swaps_20 ?_
  refine lv_iload_n hx hb dX6_swaps_23 rfl (lv_at hl 3 rfl) ?_
  refine lv_iload_n hx hb dX6_swaps_24 rfl (lv_at hl 0 rfl) ?_
  obtain ⟨g4, h⟩ := grd_some h
  refine va_iast hx hb hK hP (hDD _ rfl) hS 11 0 rfl rfl (inb_in g4) dX6_swaps_25 (fun H locs hP _ hS => ?_)
  have hP : va_P D vwCl (MW o cI cJ m_s m_past m_kept m_spare m_paid m_pastPaid m_keptPaid m_sparePaid m_isKept m_pasts m_runs m_pad m_typed m_isStopped m_stop (upd (upd m_order a1.toNatClampNeg (m_order a2.toNatClampNeg)) a2.toNatClampNeg (m_order a1.toNatClampNeg)) m_best m_many m_bySets m_spot m_deeds m_deed) H := hP
  obtain rfl := Option.some.inj h
  exact hret _ _ _ _ dX6_swaps_26 hP hS

def f_X6_hasNext_L86b  (m_many : Int32)  (k86 : Int32 → Int32 → (Nat → Int32) → Option (Int32 × (Nat → Int32))) (x3 : Int32) (x4 : Int32) (m_order : Nat → Int32) : Option (Int32 × (Nat → Int32)) :=
  if x4 ≤ x3 then some ((1 : Int32), m_order)
  else bnd (f_X6_swaps x3 x4 m_order) (fun q8 => k86 (x3 + (1 : Int32)) (x4 + (-1 : Int32)) q8)
def f_X6_hasNext_L86  (m_many : Int32)  : Nat → Int32 → Int32 → (Nat → Int32) → Option (Int32 × (Nat → Int32))
  | 0 => fun _ _ _ => none
  | n + 1 => f_X6_hasNext_L86b m_many  (f_X6_hasNext_L86 m_many  n)
def f_X6_hasNext_L47b  (m_many : Int32)  (k47 : Int32 → Int32 → (Nat → Int32) → Option (Int32 × (Nat → Int32))) (x1 : Int32) (x2 : Int32) (m_order : Nat → Int32) : Option (Int32 × (Nat → Int32)) :=
  grd (inb x2 5) (grd (inb x1 5) (if (m_order x1.toNatClampNeg) ≤ (m_order x2.toNatClampNeg) then bnd (f_X6_swaps x1 x2 m_order) (fun q6 => f_X6_hasNext_L86 m_many  1024 (x1 + (1 : Int32)) (m_many - (1 : Int32)) q6)
  else k47 x1 (x2 + (-1 : Int32)) m_order))
def f_X6_hasNext_L47  (m_many : Int32)  : Nat → Int32 → Int32 → (Nat → Int32) → Option (Int32 × (Nat → Int32))
  | 0 => fun _ _ _ => none
  | n + 1 => f_X6_hasNext_L47b m_many  (f_X6_hasNext_L47 m_many  n)
def f_X6_hasNext_L7b  (m_many : Int32)  (k7 : Int32 → (Nat → Int32) → Option (Int32 × (Nat → Int32))) (x1 : Int32) (m_order : Nat → Int32) : Option (Int32 × (Nat → Int32)) :=
  if x1 < (0 : Int32) then if (0 : Int32) ≤ x1 then f_X6_hasNext_L47 m_many  1024 x1 (m_many - (1 : Int32)) m_order
  else some ((0 : Int32), m_order)
  else grd (inb x1 5) (grd (inb (x1 + (1 : Int32)) 5) (if (m_order x1.toNatClampNeg) ≤ (m_order (x1 + (1 : Int32)).toNatClampNeg) then if (0 : Int32) ≤ x1 then f_X6_hasNext_L47 m_many  1024 x1 (m_many - (1 : Int32)) m_order
  else some ((0 : Int32), m_order)
  else k7 (x1 + (-1 : Int32)) m_order))
def f_X6_hasNext_L7  (m_many : Int32)  : Nat → Int32 → (Nat → Int32) → Option (Int32 × (Nat → Int32))
  | 0 => fun _ _ => none
  | n + 1 => f_X6_hasNext_L7b m_many  (f_X6_hasNext_L7 m_many  n)
def f_X6_hasNext  (m_order : Nat → Int32) (m_many : Int32) : Option (Int32 × (Nat → Int32)) :=
  f_X6_hasNext_L7 m_many  1024 (m_many - (2 : Int32)) m_order
set_option maxRecDepth 100000 in
set_option maxHeartbeats 4000000 in
theorem c_X6_hasNext (l : Launch) (D : va_G) (o : Nat → Nat) (cI cJ : ClassId)  (m_s : Nat → Int32) (m_past : Nat → Int32) (m_kept : Nat → Int32) (m_spare : Nat → Int32) (m_paid : Nat → Int64) (m_pastPaid : Nat → Int64) (m_keptPaid : Nat → Int64) (m_sparePaid : Nat → Int64) (m_isKept : Int32) (m_pasts : Int32) (m_runs : Int32) (m_pad : Nat → Int32) (m_typed : Int32) (m_isStopped : Int32) (m_stop : Nat → Int32) (m_order : Nat → Int32) (m_best : Nat → Int32) (m_many : Int32) (m_bySets : Nat → Int64) (m_spot : Int32) (m_deeds : Int32) (m_deed : Nat → Int32) (q : Int32 × (Nat → Int32)) (h : f_X6_hasNext  m_order m_many = some q) : CF l yX6_hasNext cX6_hasNext 5 1 (some .boolean) D (tysMW cI cJ) [.ref (o 0)] (some (.int q.1)) (MW o cI cJ m_s m_past m_kept m_spare m_paid m_pastPaid m_keptPaid m_sparePaid m_isKept m_pasts m_runs m_pad m_typed m_isStopped m_stop m_order m_best m_many m_bySets m_spot m_deeds m_deed) (MW o cI cJ m_s m_past m_kept m_spare m_paid m_pastPaid m_keptPaid m_sparePaid m_isKept m_pasts m_runs m_pad m_typed m_isStopped m_stop q.2 m_best m_many m_bySets m_spot m_deeds m_deed) := by
  refine CF.mkI (by decide) (Nat.le_of_ble_eq_true rfl) ?_
  intro p e s m below meth c Q A B hK hDD hA hret hP hS ls hl
  have B0 := B
  obtain ⟨hx, hb, hml, hown, hts⟩ := B0
  have hl : lv_has ls 5 [(0, .ref (o 0))] := hl
  have hL86 : ∀ (n86 : Nat) (x3 : Int32) (x4 : Int32) (m_order : Nat → Int32) (ls : Array Slot) (H : Heap) (locs : List Loc), f_X6_hasNext_L86 m_many  n86 x3 x4 m_order = some q → va_P D vwCl (MW o cI cJ m_s m_past m_kept m_spare m_paid m_pastPaid m_keptPaid m_sparePaid m_isKept m_pasts m_runs m_pad m_typed m_isStopped m_stop m_order m_best m_many m_bySets m_spot m_deeds m_deed) H → va_S A s.heap H locs → lv_has ls 5 [(0, .ref (o 0)), (3, .int x3), (4, .int x4)] → W p l e (rmF 1 0 0) s m ([.ref (o 0)] : List Value).toArray below meth c H locs 0 0 Q (F0 m 86 ls []) := by
    intro n86
    induction n86 with
    | zero =>
      intro x3 x4 m_order ls H locs h
      exact absurd (show (none : Option (Int32 × (Nat → Int32))) = some q from h) (by intro h; cases h)
    | succ n86 ih86 =>
      intro x3 x4 m_order ls H locs h hP hS hl
      have h : f_X6_hasNext_L86b m_many  (f_X6_hasNext_L86 m_many  n86) x3 x4 m_order = some q := h
      unfold f_X6_hasNext_L86b at h
      refine lv_iload_n hx hb dX6_hasNext_86 rfl (lv_at hl 1 rfl) ?_
      refine lv_iload hx hb dX6_hasNext_87 (lv_at hl 2 rfl) ?_
      refine lv_icmp_ge (tgt := 108) hx hb dX6_hasNext_89 (by decide) (fun c7 => ?_) (fun c7 => ?_)
      · have h := ift c7 h
        refine lv_iconst (v := (1 : Int32)) hx hb dX6_hasNext_108 (by decide) ?_
        obtain rfl := Option.some.inj h
        exact hret _ _ _ _ nb1 dX6_hasNext_109 hP hS
      · have h := ifn c7 h
        refine lv_aload_n hx hb dX6_hasNext_92 rfl (lv_at hl 0 rfl) ?_
        refine lv_iload_n hx hb dX6_hasNext_93 rfl (lv_at hl 1 rfl) ?_
        refine lv_iload hx hb dX6_hasNext_94 (lv_at hl 2 rfl) ?_
        obtain ⟨q8, e8, h⟩ := bnd_some h
        refine f_call (As := [.int x3, .int x4]) (rest := []) (c_X6_swaps l D o cI cJ x3 x4 m_s m_past m_kept m_spare m_paid m_pastPaid m_keptPaid m_sparePaid m_isKept m_pasts m_runs m_pad m_typed m_isStopped m_stop m_order m_best m_many m_bySets m_spot m_deeds m_deed q8 e8) B hK hDD hA hP hS rfl (va_recv hK hP (ci := 7) (q0 := 0) rfl rfl) k_X6_swaps q_19_3 rfl ⟨Nat.le_of_ble_eq_true rfl, Nat.le_of_ble_eq_true rfl⟩ ⟨Nat.le_refl _, Nat.le_refl _⟩ hl.1 rfl (Nat.le_of_ble_eq_true rfl) dX6_hasNext_96 (fun H locs hP hS => ?_)
        refine lv_iinc (v := (x3 + (1 : Int32))) (lv' := [(3, .int (x3 + (1 : Int32))), (0, .ref (o 0)), (4, .int x4)]) hx hb dX6_hasNext_99 hl (k := 1) rfl (congrArg (HAdd.hAdd x3) (by decide)) (by decide) rfl (fun ls hl => ?_)
        refine lv_iinc (v := (x4 + (-1 : Int32))) (lv' := [(4, .int (x4 + (-1 : Int32))), (3, .int (x3 + (1 : Int32))), (0, .ref (o 0))]) hx hb dX6_hasNext_102 hl (k := 2) rfl (congrArg (HAdd.hAdd x4) (by decide)) (by decide) rfl (fun ls hl => ?_)
        refine lv_goto (tgt := 86) hx hb dX6_hasNext_105 (by decide) ?_
        exact ih86 (x3 + (1 : Int32)) (x4 + (-1 : Int32)) q8 _ _ _ h hP hS (lv_sub hl [2, 1, 0] rfl)
  have hL47 : ∀ (n47 : Nat) (x1 : Int32) (x2 : Int32) (m_order : Nat → Int32) (ls : Array Slot) (H : Heap) (locs : List Loc), f_X6_hasNext_L47 m_many  n47 x1 x2 m_order = some q → va_P D vwCl (MW o cI cJ m_s m_past m_kept m_spare m_paid m_pastPaid m_keptPaid m_sparePaid m_isKept m_pasts m_runs m_pad m_typed m_isStopped m_stop m_order m_best m_many m_bySets m_spot m_deeds m_deed) H → va_S A s.heap H locs → lv_has ls 5 [(0, .ref (o 0)), (1, .int x1), (2, .int x2)] → W p l e (rmF 1 0 0) s m ([.ref (o 0)] : List Value).toArray below meth c H locs 0 0 Q (F0 m 47 ls []) := by
    intro n47
    induction n47 with
    | zero =>
      intro x1 x2 m_order ls H locs h
      exact absurd (show (none : Option (Int32 × (Nat → Int32))) = some q from h) (by intro h; cases h)
    | succ n47 ih47 =>
      intro x1 x2 m_order ls H locs h hP hS hl
      have h : f_X6_hasNext_L47b m_many  (f_X6_hasNext_L47 m_many  n47) x1 x2 m_order = some q := h
      unfold f_X6_hasNext_L47b at h
      refine lv_aload_n hx hb dX6_hasNext_47 rfl (lv_at hl 0 rfl) ?_
      refine va_get (D := D) (ci := 7) (v := .ref (o 11)) (C := RX6) (T := TX6) (N := 22) hx hb hts inlX6 hown hK hP 0 rfl rfl 15 (by decide) (hts _ q_4_15) (fun _ h9 => h9) rfl dX6_hasNext_48 ?_
      refine lv_iload_n hx hb dX6_hasNext_51 rfl (lv_at hl 2 rfl) ?_
      obtain ⟨g3, h⟩ := grd_some h
      refine va_iald hx hb hK hP 11 0 rfl rfl (inb_in g3) dX6_hasNext_52 ?_
      refine lv_aload_n hx hb dX6_hasNext_53 rfl (lv_at hl 0 rfl) ?_
      refine va_get (D := D) (ci := 7) (v := .ref (o 11)) (C := RX6) (T := TX6) (N := 22) hx hb hts inlX6 hown hK hP 0 rfl rfl 15 (by decide) (hts _ q_4_15) (fun _ h9 => h9) rfl dX6_hasNext_54 ?_
      refine lv_iload_n hx hb dX6_hasNext_57 rfl (lv_at hl 1 rfl) ?_
      obtain ⟨g4, h⟩ := grd_some h
      refine va_iald hx hb hK hP 11 0 rfl rfl (inb_in g4) dX6_hasNext_58 ?_
      refine lv_icmp_ge (tgt := 68) hx hb dX6_hasNext_59 (by decide) (fun c5 => ?_) (fun c5 => ?_)
      · have h := ift c5 h
        refine lv_aload_n hx hb dX6_hasNext_68 rfl (lv_at hl 0 rfl) ?_
        refine lv_iload_n hx hb dX6_hasNext_69 rfl (lv_at hl 1 rfl) ?_
        refine lv_iload_n hx hb dX6_hasNext_70 rfl (lv_at hl 2 rfl) ?_
        obtain ⟨q6, e6, h⟩ := bnd_some h
        refine f_call (As := [.int x1, .int x2]) (rest := []) (c_X6_swaps l D o cI cJ x1 x2 m_s m_past m_kept m_spare m_paid m_pastPaid m_keptPaid m_sparePaid m_isKept m_pasts m_runs m_pad m_typed m_isStopped m_stop m_order m_best m_many m_bySets m_spot m_deeds m_deed q6 e6) B hK hDD hA hP hS rfl (va_recv hK hP (ci := 7) (q0 := 0) rfl rfl) k_X6_swaps q_19_3 rfl ⟨Nat.le_of_ble_eq_true rfl, Nat.le_of_ble_eq_true rfl⟩ ⟨Nat.le_refl _, Nat.le_refl _⟩ hl.1 rfl (Nat.le_of_ble_eq_true rfl) dX6_hasNext_71 (fun H locs hP hS => ?_)
        refine lv_iload_n hx hb dX6_hasNext_74 rfl (lv_at hl 1 rfl) ?_
        refine lv_iconst (v := (1 : Int32)) hx hb dX6_hasNext_75 (by decide) ?_
        refine lv_iadd hx hb dX6_hasNext_76 ?_
        refine lv_istore_n (lv' := [(3, .int (x1 + (1 : Int32))), (0, .ref (o 0)), (1, .int x1), (2, .int x2)]) hx hb dX6_hasNext_77 rfl hl (by decide) rfl (fun ls hl => ?_)
        refine lv_aload_n hx hb dX6_hasNext_78 rfl (lv_at hl 1 rfl) ?_
        refine va_get (D := D) (ci := 7) (v := .int m_many) (C := RX6) (T := TX6) (N := 22) hx hb hts inlX6 hown hK hP 0 rfl rfl 17 (by decide) (hts _ q_18_8) (fun _ h9 => h9) rfl dX6_hasNext_79 ?_
        refine lv_iconst (v := (1 : Int32)) hx hb dX6_hasNext_82 (by decide) ?_
        refine lv_isub hx hb dX6_hasNext_83 ?_
        refine lv_istore (lv' := [(4, .int (m_many - (1 : Int32))), (3, .int (x1 + (1 : Int32))), (0, .ref (o 0)), (1, .int x1), (2, .int x2)]) hx hb dX6_hasNext_84 hl (by decide) rfl (fun ls hl => ?_)
        exact hL86 1024 (x1 + (1 : Int32)) (m_many - (1 : Int32)) q6 _ _ _ h hP hS (lv_sub hl [2, 1, 0] rfl)
      · have h := ifn c5 h
        refine lv_iinc (v := (x2 + (-1 : Int32))) (lv' := [(2, .int (x2 + (-1 : Int32))), (0, .ref (o 0)), (1, .int x1)]) hx hb dX6_hasNext_62 hl (k := 2) rfl (congrArg (HAdd.hAdd x2) (by decide)) (by decide) rfl (fun ls hl => ?_)
        refine lv_goto (tgt := 47) hx hb dX6_hasNext_65 (by decide) ?_
        exact ih47 x1 (x2 + (-1 : Int32)) m_order _ _ _ h hP hS (lv_sub hl [1, 2, 0] rfl)
  have hL7 : ∀ (n7 : Nat) (x1 : Int32) (m_order : Nat → Int32) (ls : Array Slot) (H : Heap) (locs : List Loc), f_X6_hasNext_L7 m_many  n7 x1 m_order = some q → va_P D vwCl (MW o cI cJ m_s m_past m_kept m_spare m_paid m_pastPaid m_keptPaid m_sparePaid m_isKept m_pasts m_runs m_pad m_typed m_isStopped m_stop m_order m_best m_many m_bySets m_spot m_deeds m_deed) H → va_S A s.heap H locs → lv_has ls 5 [(0, .ref (o 0)), (1, .int x1)] → W p l e (rmF 1 0 0) s m ([.ref (o 0)] : List Value).toArray below meth c H locs 0 0 Q (F0 m 7 ls []) := by
    intro n7
    induction n7 with
    | zero =>
      intro x1 m_order ls H locs h
      exact absurd (show (none : Option (Int32 × (Nat → Int32))) = some q from h) (by intro h; cases h)
    | succ n7 ih7 =>
      intro x1 m_order ls H locs h hP hS hl
      have h : f_X6_hasNext_L7b m_many  (f_X6_hasNext_L7 m_many  n7) x1 m_order = some q := h
      unfold f_X6_hasNext_L7b at h
      refine lv_iload_n hx hb dX6_hasNext_7 rfl (lv_at hl 1 rfl) ?_
      refine lv_if_lt (tgt := 34) hx hb dX6_hasNext_8 (by decide) (fun c1 => ?_) (fun c1 => ?_)
      · have h := ift c1 h
        refine lv_iload_n hx hb dX6_hasNext_34 rfl (lv_at hl 1 rfl) ?_
        refine lv_if_ge (tgt := 40) hx hb dX6_hasNext_35 (by decide) (fun c2 => ?_) (fun c2 => ?_)
        · have h := ift c2 h
          refine lv_aload_n hx hb dX6_hasNext_40 rfl (lv_at hl 0 rfl) ?_
          refine va_get (D := D) (ci := 7) (v := .int m_many) (C := RX6) (T := TX6) (N := 22) hx hb hts inlX6 hown hK hP 0 rfl rfl 17 (by decide) (hts _ q_18_8) (fun _ h9 => h9) rfl dX6_hasNext_41 ?_
          refine lv_iconst (v := (1 : Int32)) hx hb dX6_hasNext_44 (by decide) ?_
          refine lv_isub hx hb dX6_hasNext_45 ?_
          refine lv_istore_n (lv' := [(2, .int (m_many - (1 : Int32))), (0, .ref (o 0)), (1, .int x1)]) hx hb dX6_hasNext_46 rfl hl (by decide) rfl (fun ls hl => ?_)
          exact hL47 1024 x1 (m_many - (1 : Int32)) m_order _ _ _ h hP hS (lv_sub hl [1, 2, 0] rfl)
        · have h := ifn c2 h
          refine lv_iconst (v := (0 : Int32)) hx hb dX6_hasNext_38 (by decide) ?_
          obtain rfl := Option.some.inj h
          exact hret _ _ _ _ nb0 dX6_hasNext_39 hP hS
      · have h := ifn c1 h
        refine lv_aload_n hx hb dX6_hasNext_11 rfl (lv_at hl 0 rfl) ?_
        refine va_get (D := D) (ci := 7) (v := .ref (o 11)) (C := RX6) (T := TX6) (N := 22) hx hb hts inlX6 hown hK hP 0 rfl rfl 15 (by decide) (hts _ q_4_15) (fun _ h9 => h9) rfl dX6_hasNext_12 ?_
        refine lv_iload_n hx hb dX6_hasNext_15 rfl (lv_at hl 1 rfl) ?_
        obtain ⟨g9, h⟩ := grd_some h
        refine va_iald hx hb hK hP 11 0 rfl rfl (inb_in g9) dX6_hasNext_16 ?_
        refine lv_aload_n hx hb dX6_hasNext_17 rfl (lv_at hl 0 rfl) ?_
        refine va_get (D := D) (ci := 7) (v := .ref (o 11)) (C := RX6) (T := TX6) (N := 22) hx hb hts inlX6 hown hK hP 0 rfl rfl 15 (by decide) (hts _ q_4_15) (fun _ h9 => h9) rfl dX6_hasNext_18 ?_
        refine lv_iload_n hx hb dX6_hasNext_21 rfl (lv_at hl 1 rfl) ?_
        refine lv_iconst (v := (1 : Int32)) hx hb dX6_hasNext_22 (by decide) ?_
        refine lv_iadd hx hb dX6_hasNext_23 ?_
        obtain ⟨g10, h⟩ := grd_some h
        refine va_iald hx hb hK hP 11 0 rfl rfl (inb_in g10) dX6_hasNext_24 ?_
        refine lv_icmp_le (tgt := 34) hx hb dX6_hasNext_25 (by decide) (fun c11 => ?_) (fun c11 => ?_)
        · have h := ift c11 h
          refine lv_iload_n hx hb dX6_hasNext_34 rfl (lv_at hl 1 rfl) ?_
          refine lv_if_ge (tgt := 40) hx hb dX6_hasNext_35 (by decide) (fun c12 => ?_) (fun c12 => ?_)
          · have h := ift c12 h
            refine lv_aload_n hx hb dX6_hasNext_40 rfl (lv_at hl 0 rfl) ?_
            refine va_get (D := D) (ci := 7) (v := .int m_many) (C := RX6) (T := TX6) (N := 22) hx hb hts inlX6 hown hK hP 0 rfl rfl 17 (by decide) (hts _ q_18_8) (fun _ h9 => h9) rfl dX6_hasNext_41 ?_
            refine lv_iconst (v := (1 : Int32)) hx hb dX6_hasNext_44 (by decide) ?_
            refine lv_isub hx hb dX6_hasNext_45 ?_
            refine lv_istore_n (lv' := [(2, .int (m_many - (1 : Int32))), (0, .ref (o 0)), (1, .int x1)]) hx hb dX6_hasNext_46 rfl hl (by decide) rfl (fun ls hl => ?_)
            exact hL47 1024 x1 (m_many - (1 : Int32)) m_order _ _ _ h hP hS (lv_sub hl [1, 2, 0] rfl)
          · have h := ifn c12 h
            refine lv_iconst (v := (0 : Int32)) hx hb dX6_hasNext_38 (by decide) ?_
            obtain rfl := Option.some.inj h
            exact hret _ _ _ _ nb0 dX6_hasNext_39 hP hS
        · have h := ifn c11 h
          refine lv_iinc (v := (x1 + (-1 : Int32))) (lv' := [(1, .int (x1 + (-1 : Int32))), (0, .ref (o 0))]) hx hb dX6_hasNext_28 hl (k := 1) rfl (congrArg (HAdd.hAdd x1) (by decide)) (by decide) rfl (fun ls hl => ?_)
          refine lv_goto (tgt := 7) hx hb dX6_hasNext_31 (by decide) ?_
          exact ih7 (x1 + (-1 : Int32)) m_order _ _ _ h hP hS (lv_sub hl [1, 0] rfl)
  unfold f_X6_hasNext at h
  refine lv_aload_n hx hb dX6_hasNext_0 rfl (lv_at hl 0 rfl) ?_
  refine va_get (D := D) (ci := 7) (v := .int m_many) (C := RX6) (T := TX6) (N := 22) hx hb hts inlX6 hown hK hP 0 rfl rfl 17 (by decide) (hts _ q_18_8) (fun _ h9 => h9) rfl dX6_hasNext_1 ?_
  refine lv_iconst (v := (2 : Int32)) hx hb dX6_hasNext_4 (by decide) ?_
  refine lv_isub hx hb dX6_hasNext_5 ?_
  refine lv_istore_n (lv' := [(1, .int (m_many - (2 : Int32))), (0, .ref (o 0))]) hx hb dX6_hasNext_6 rfl hl (by decide) rfl (fun ls hl => ?_)
  exact hL7 1024 (m_many - (2 : Int32)) m_order _ _ _ h hP hS (lv_sub hl [1, 0] rfl)

def f_X6_finds_L85b (a1 : Int32) (a2 : Int32) (m_s : Nat → Int32) (k54 : Int64 → Int32 → (Nat → Int32) → (Nat → Int32) → Int32 → Option (Int64 × (Nat → Int32) × (Nat → Int32) × (Int32))) (k85 : Int64 → Int32 → (Nat → Int32) → (Nat → Int32) → Int32 → Option (Int64 × (Nat → Int32) × (Nat → Int32) × (Int32))) (x3 : Int64) (x8 : Int32) (m_order : Nat → Int32) (m_best : Nat → Int32) (m_many : Int32) : Option (Int64 × (Nat → Int32) × (Nat → Int32) × (Int32)) :=
  if m_many ≤ x8 then bnd (f_X6_hasNext  m_order m_many) (fun q6 => k54 x3 q6.1 q6.2 m_best m_many)
  else grd (inb x8 5) (grd (inb x8 5) (k85 x3 (x8 + (1 : Int32)) m_order (upd m_best x8.toNatClampNeg (m_order x8.toNatClampNeg)) m_many))
def f_X6_finds_L85 (a1 : Int32) (a2 : Int32) (m_s : Nat → Int32) (k54 : Int64 → Int32 → (Nat → Int32) → (Nat → Int32) → Int32 → Option (Int64 × (Nat → Int32) × (Nat → Int32) × (Int32))) : Nat → Int64 → Int32 → (Nat → Int32) → (Nat → Int32) → Int32 → Option (Int64 × (Nat → Int32) × (Nat → Int32) × (Int32))
  | 0 => fun _ _ _ _ _ => none
  | n + 1 => f_X6_finds_L85b a1 a2 m_s k54 (f_X6_finds_L85 a1 a2 m_s k54 n)
def f_X6_finds_L54b (a1 : Int32) (a2 : Int32) (m_s : Nat → Int32)  (k54 : Int64 → Int32 → (Nat → Int32) → (Nat → Int32) → Int32 → Option (Int64 × (Nat → Int32) × (Nat → Int32) × (Int32))) (x3 : Int64) (x5 : Int32) (m_order : Nat → Int32) (m_best : Nat → Int32) (m_many : Int32) : Option (Int64 × (Nat → Int32) × (Nat → Int32) × (Int32)) :=
  if x5 = (0 : Int32) then some (x3, m_order, m_best, m_many)
  else bnd (f_X6_costOf a2 m_s m_order m_many) (fun q3 => if (lg_cmp x3 (0 : Int64)) < (0 : Int32) then f_X6_finds_L85 a1 a2 m_s k54 1024 q3 (0 : Int32) m_order m_best m_many
  else if (0 : Int32) ≤ (lg_cmp q3 x3) then bnd (f_X6_hasNext  m_order m_many) (fun q10 => k54 x3 q10.1 q10.2 m_best m_many)
  else f_X6_finds_L85 a1 a2 m_s k54 1024 q3 (0 : Int32) m_order m_best m_many)
def f_X6_finds_L54 (a1 : Int32) (a2 : Int32) (m_s : Nat → Int32)  : Nat → Int64 → Int32 → (Nat → Int32) → (Nat → Int32) → Int32 → Option (Int64 × (Nat → Int32) × (Nat → Int32) × (Int32))
  | 0 => fun _ _ _ _ _ => none
  | n + 1 => f_X6_finds_L54b a1 a2 m_s  (f_X6_finds_L54 a1 a2 m_s  n)
def f_X6_finds_L7b (a1 : Int32) (a2 : Int32) (m_s : Nat → Int32)  (k7 : Int32 → (Nat → Int32) → (Nat → Int32) → Int32 → Option (Int64 × (Nat → Int32) × (Nat → Int32) × (Int32))) (x3 : Int32) (m_order : Nat → Int32) (m_best : Nat → Int32) (m_many : Int32) : Option (Int64 × (Nat → Int32) × (Nat → Int32) × (Int32)) :=
  if (5 : Int32) ≤ x3 then f_X6_finds_L54 a1 a2 m_s  1024 (-1 : Int64) (1 : Int32) m_order m_best m_many
  else if ((a1 >>> (x3 &&& 31)) &&& (1 : Int32)) = (1 : Int32) then grd (inb m_many 5) (k7 (x3 + (1 : Int32)) (upd m_order m_many.toNatClampNeg x3) m_best (m_many + (1 : Int32)))
  else k7 (x3 + (1 : Int32)) m_order m_best m_many
def f_X6_finds_L7 (a1 : Int32) (a2 : Int32) (m_s : Nat → Int32)  : Nat → Int32 → (Nat → Int32) → (Nat → Int32) → Int32 → Option (Int64 × (Nat → Int32) × (Nat → Int32) × (Int32))
  | 0 => fun _ _ _ _ => none
  | n + 1 => f_X6_finds_L7b a1 a2 m_s  (f_X6_finds_L7 a1 a2 m_s  n)
def f_X6_finds (a1 : Int32) (a2 : Int32) (m_s : Nat → Int32) (m_order : Nat → Int32) (m_best : Nat → Int32) (m_many : Int32) : Option (Int64 × (Nat → Int32) × (Nat → Int32) × (Int32)) :=
  f_X6_finds_L7 a1 a2 m_s  1024 (0 : Int32) m_order m_best (0 : Int32)
set_option maxRecDepth 100000 in
set_option maxHeartbeats 4000000 in
theorem c_X6_finds (l : Launch) (D : va_G) (o : Nat → Nat) (cI cJ : ClassId) (a1 : Int32) (a2 : Int32) (m_s : Nat → Int32) (m_past : Nat → Int32) (m_kept : Nat → Int32) (m_spare : Nat → Int32) (m_paid : Nat → Int64) (m_pastPaid : Nat → Int64) (m_keptPaid : Nat → Int64) (m_sparePaid : Nat → Int64) (m_isKept : Int32) (m_pasts : Int32) (m_runs : Int32) (m_pad : Nat → Int32) (m_typed : Int32) (m_isStopped : Int32) (m_stop : Nat → Int32) (m_order : Nat → Int32) (m_best : Nat → Int32) (m_many : Int32) (m_bySets : Nat → Int64) (m_spot : Int32) (m_deeds : Int32) (m_deed : Nat → Int32) (q : Int64 × (Nat → Int32) × (Nat → Int32) × (Int32)) (h : f_X6_finds a1 a2 m_s m_order m_best m_many = some q) : CF l yX6_finds cX6_finds 9 2 (some .long) D (tysMW cI cJ) [.ref (o 0), .int a1, .int a2] (some (.long q.1)) (MW o cI cJ m_s m_past m_kept m_spare m_paid m_pastPaid m_keptPaid m_sparePaid m_isKept m_pasts m_runs m_pad m_typed m_isStopped m_stop m_order m_best m_many m_bySets m_spot m_deeds m_deed) (MW o cI cJ m_s m_past m_kept m_spare m_paid m_pastPaid m_keptPaid m_sparePaid m_isKept m_pasts m_runs m_pad m_typed m_isStopped m_stop q.2.1 q.2.2.1 q.2.2.2 m_bySets m_spot m_deeds m_deed) := by
  refine CF.mkL (by decide) (Nat.le_of_ble_eq_true rfl) ?_
  intro p e s m below meth c Q A B hK hDD hA hret hP hS ls hl
  have B0 := B
  obtain ⟨hx, hb, hml, hown, hts⟩ := B0
  have hl : lv_has ls 9 [(0, .ref (o 0)), (1, .int a1), (2, .int a2)] := hl
  have hL54 : ∀ (n54 : Nat) (x3 : Int64) (x5 : Int32) (m_order : Nat → Int32) (m_best : Nat → Int32) (m_many : Int32) (ls : Array Slot) (H : Heap) (locs : List Loc), f_X6_finds_L54 a1 a2 m_s  n54 x3 x5 m_order m_best m_many = some q → va_P D vwCl (MW o cI cJ m_s m_past m_kept m_spare m_paid m_pastPaid m_keptPaid m_sparePaid m_isKept m_pasts m_runs m_pad m_typed m_isStopped m_stop m_order m_best m_many m_bySets m_spot m_deeds m_deed) H → va_S A s.heap H locs → lv_has ls 9 [(0, .ref (o 0)), (2, .int a2), (3, .long x3), (5, .int x5)] → W p l e (rmF 2 0 0) s m ([.ref (o 0), .int a1, .int a2] : List Value).toArray below meth c H locs 0 0 Q (F0 m 54 ls []) := by
    intro n54
    induction n54 with
    | zero =>
      intro x3 x5 m_order m_best m_many ls H locs h
      exact absurd (show (none : Option (Int64 × (Nat → Int32) × (Nat → Int32) × (Int32))) = some q from h) (by intro h; cases h)
    | succ n54 ih54 =>
      have hL85 : ∀ (n85 : Nat) (x3 : Int64) (x8 : Int32) (m_order : Nat → Int32) (m_best : Nat → Int32) (m_many : Int32) (ls : Array Slot) (H : Heap) (locs : List Loc), f_X6_finds_L85 a1 a2 m_s (f_X6_finds_L54 a1 a2 m_s   n54) n85 x3 x8 m_order m_best m_many = some q → va_P D vwCl (MW o cI cJ m_s m_past m_kept m_spare m_paid m_pastPaid m_keptPaid m_sparePaid m_isKept m_pasts m_runs m_pad m_typed m_isStopped m_stop m_order m_best m_many m_bySets m_spot m_deeds m_deed) H → va_S A s.heap H locs → lv_has ls 9 [(0, .ref (o 0)), (2, .int a2), (3, .long x3), (8, .int x8)] → W p l e (rmF 2 0 0) s m ([.ref (o 0), .int a1, .int a2] : List Value).toArray below meth c H locs 0 0 Q (F0 m 85 ls []) := by
        intro n85
        induction n85 with
        | zero =>
          intro x3 x8 m_order m_best m_many ls H locs h
          exact absurd (show (none : Option (Int64 × (Nat → Int32) × (Nat → Int32) × (Int32))) = some q from h) (by intro h; cases h)
        | succ n85 ih85 =>
          intro x3 x8 m_order m_best m_many ls H locs h hP hS hl
          have h : f_X6_finds_L85b a1 a2 m_s (f_X6_finds_L54 a1 a2 m_s   n54) (f_X6_finds_L85 a1 a2 m_s (f_X6_finds_L54 a1 a2 m_s   n54) n85) x3 x8 m_order m_best m_many = some q := h
          unfold f_X6_finds_L85b at h
          refine lv_iload hx hb dX6_finds_85 (lv_at hl 3 rfl) ?_
          refine lv_aload_n hx hb dX6_finds_87 rfl (lv_at hl 0 rfl) ?_
          refine va_get (D := D) (ci := 7) (v := .int m_many) (C := RX6) (T := TX6) (N := 22) hx hb hts inlX6 hown hK hP 0 rfl rfl 17 (by decide) (hts _ q_18_8) (fun _ h9 => h9) rfl dX6_finds_88 ?_
          refine lv_icmp_ge (tgt := 114) hx hb dX6_finds_91 (by decide) (fun c5 => ?_) (fun c5 => ?_)
          · have h := ift c5 h
            refine lv_aload_n hx hb dX6_finds_114 rfl (lv_at hl 0 rfl) ?_
            obtain ⟨q6, e6, h⟩ := bnd_some h
            refine f_call (As := []) (rest := []) (c_X6_hasNext l D o cI cJ  m_s m_past m_kept m_spare m_paid m_pastPaid m_keptPaid m_sparePaid m_isKept m_pasts m_runs m_pad m_typed m_isStopped m_stop m_order m_best m_many m_bySets m_spot m_deeds m_deed q6 e6) B hK hDD hA hP hS rfl (va_recv hK hP (ci := 7) (q0 := 0) rfl rfl) k_X6_hasNext q_18_23 rfl ⟨Nat.le_of_ble_eq_true rfl, Nat.le_of_ble_eq_true rfl⟩ ⟨Nat.le_refl _, Nat.le_refl _⟩ hl.1 rfl (Nat.le_of_ble_eq_true rfl) dX6_finds_115 (fun H locs hP hS => ?_)
            refine lv_istore (lv' := [(5, .int q6.1), (0, .ref (o 0)), (2, .int a2), (3, .long x3), (8, .int x8)]) hx hb dX6_finds_118 hl (by decide) rfl (fun ls hl => ?_)
            refine lv_goto (tgt := 54) hx hb dX6_finds_120 (by decide) ?_
            exact ih54 x3 q6.1 q6.2 m_best m_many _ _ _ h hP hS (lv_sub hl [1, 2, 3, 0] rfl)
          · have h := ifn c5 h
            refine lv_aload_n hx hb dX6_finds_94 rfl (lv_at hl 0 rfl) ?_
            refine va_get (D := D) (ci := 7) (v := .ref (o 12)) (C := RX6) (T := TX6) (N := 22) hx hb hts inlX6 hown hK hP 0 rfl rfl 16 (by decide) (hts _ q_4_16) (fun _ h9 => h9) rfl dX6_finds_95 ?_
            refine lv_iload hx hb dX6_finds_98 (lv_at hl 3 rfl) ?_
            refine lv_aload_n hx hb dX6_finds_100 rfl (lv_at hl 0 rfl) ?_
            refine va_get (D := D) (ci := 7) (v := .ref (o 11)) (C := RX6) (T := TX6) (N := 22) hx hb hts inlX6 hown hK hP 0 rfl rfl 15 (by decide) (hts _ q_4_15) (fun _ h9 => h9) rfl dX6_finds_101 ?_
            refine lv_iload hx hb dX6_finds_104 (lv_at hl 3 rfl) ?_
            obtain ⟨g7, h⟩ := grd_some h
            refine va_iald hx hb hK hP 11 0 rfl rfl (inb_in g7) dX6_finds_106 ?_
            obtain ⟨g8, h⟩ := grd_some h
            refine va_iast hx hb hK hP (hDD _ rfl) hS 12 0 rfl rfl (inb_in g8) dX6_finds_107 (fun H locs hP _ hS => ?_)
            have hP : va_P D vwCl (MW o cI cJ m_s m_past m_kept m_spare m_paid m_pastPaid m_keptPaid m_sparePaid m_isKept m_pasts m_runs m_pad m_typed m_isStopped m_stop m_order (upd m_best x8.toNatClampNeg (m_order x8.toNatClampNeg)) m_many m_bySets m_spot m_deeds m_deed) H := hP
            refine lv_iinc (v := (x8 + (1 : Int32))) (lv' := [(8, .int (x8 + (1 : Int32))), (0, .ref (o 0)), (2, .int a2), (3, .long x3)]) hx hb dX6_finds_108 hl (k := 3) rfl (congrArg (HAdd.hAdd x8) (by decide)) (by decide) rfl (fun ls hl => ?_)
            refine lv_goto (tgt := 85) hx hb dX6_finds_111 (by decide) ?_
            exact ih85 x3 (x8 + (1 : Int32)) m_order (upd m_best x8.toNatClampNeg (m_order x8.toNatClampNeg)) m_many _ _ _ h hP hS (lv_sub hl [1, 2, 3, 0] rfl)
      intro x3 x5 m_order m_best m_many ls H locs h hP hS hl
      have h : f_X6_finds_L54b a1 a2 m_s  (f_X6_finds_L54 a1 a2 m_s  n54) x3 x5 m_order m_best m_many = some q := h
      unfold f_X6_finds_L54b at h
      refine lv_iload hx hb dX6_finds_54 (lv_at hl 3 rfl) ?_
      refine lv_if_eq (tgt := 123) hx hb dX6_finds_56 (by decide) (fun c2 => ?_) (fun c2 => ?_)
      · have h := ift c2 h
        refine lv_lload_n hx hb dX6_finds_123 rfl (lv_at hl 2 rfl) ?_
        obtain rfl := Option.some.inj h
        exact hret _ _ _ _ dX6_finds_124 hP hS
      · have h := ifn c2 h
        refine lv_aload_n hx hb dX6_finds_59 rfl (lv_at hl 0 rfl) ?_
        refine lv_iload_n hx hb dX6_finds_60 rfl (lv_at hl 1 rfl) ?_
        obtain ⟨q3, e3, h⟩ := bnd_some h
        refine f_call (As := [.int a2]) (rest := []) (c_X6_costOf l D o cI cJ a2 m_s m_past m_kept m_spare m_paid m_pastPaid m_keptPaid m_sparePaid m_isKept m_pasts m_runs m_pad m_typed m_isStopped m_stop m_order m_best m_many m_bySets m_spot m_deeds m_deed q3 e3) B hK hDD hA hP hS rfl (va_recv hK hP (ci := 7) (q0 := 0) rfl rfl) k_X6_costOf q_18_14 rfl ⟨Nat.le_of_ble_eq_true rfl, Nat.le_of_ble_eq_true rfl⟩ ⟨Nat.le_refl _, Nat.le_refl _⟩ hl.1 rfl (Nat.le_of_ble_eq_true rfl) dX6_finds_61 (fun H locs hP hS => ?_)
        refine lv_lstore (lv' := [(6, .long q3), (0, .ref (o 0)), (2, .int a2), (3, .long x3), (5, .int x5)]) hx hb dX6_finds_64 hl (by decide) rfl (fun ls hl => ?_)
        refine lv_lload_n hx hb dX6_finds_66 rfl (lv_at hl 3 rfl) ?_
        refine lv_lconst (v := (0 : Int64)) hx hb dX6_finds_67 (by decide) ?_
        refine W.lcmp hx hb dX6_finds_68 ?_
        refine lv_if_lt (tgt := 79) hx hb dX6_finds_69 (by decide) (fun c4 => ?_) (fun c4 => ?_)
        · have h := ift c4 h
          refine lv_lload hx hb dX6_finds_79 (lv_at hl 0 rfl) ?_
          refine lv_lstore_n (lv' := [(3, .long q3), (6, .long q3), (0, .ref (o 0)), (2, .int a2), (5, .int x5)]) hx hb dX6_finds_81 rfl hl (by decide) rfl (fun ls hl => ?_)
          refine lv_iconst (v := (0 : Int32)) hx hb dX6_finds_82 (by decide) ?_
          refine lv_istore (lv' := [(8, .int (0 : Int32)), (3, .long q3), (6, .long q3), (0, .ref (o 0)), (2, .int a2), (5, .int x5)]) hx hb dX6_finds_83 hl (by decide) rfl (fun ls hl => ?_)
          exact hL85 1024 q3 (0 : Int32) m_order m_best m_many _ _ _ h hP hS (lv_sub hl [3, 4, 1, 0] rfl)
        · have h := ifn c4 h
          refine lv_lload hx hb dX6_finds_72 (lv_at hl 0 rfl) ?_
          refine lv_lload_n hx hb dX6_finds_74 rfl (lv_at hl 3 rfl) ?_
          refine W.lcmp hx hb dX6_finds_75 ?_
          refine lv_if_ge (tgt := 114) hx hb dX6_finds_76 (by decide) (fun c9 => ?_) (fun c9 => ?_)
          · have h := ift c9 h
            refine lv_aload_n hx hb dX6_finds_114 rfl (lv_at hl 1 rfl) ?_
            obtain ⟨q10, e10, h⟩ := bnd_some h
            refine f_call (As := []) (rest := []) (c_X6_hasNext l D o cI cJ  m_s m_past m_kept m_spare m_paid m_pastPaid m_keptPaid m_sparePaid m_isKept m_pasts m_runs m_pad m_typed m_isStopped m_stop m_order m_best m_many m_bySets m_spot m_deeds m_deed q10 e10) B hK hDD hA hP hS rfl (va_recv hK hP (ci := 7) (q0 := 0) rfl rfl) k_X6_hasNext q_18_23 rfl ⟨Nat.le_of_ble_eq_true rfl, Nat.le_of_ble_eq_true rfl⟩ ⟨Nat.le_refl _, Nat.le_refl _⟩ hl.1 rfl (Nat.le_of_ble_eq_true rfl) dX6_finds_115 (fun H locs hP hS => ?_)
            refine lv_istore (lv' := [(5, .int q10.1), (6, .long q3), (0, .ref (o 0)), (2, .int a2), (3, .long x3)]) hx hb dX6_finds_118 hl (by decide) rfl (fun ls hl => ?_)
            refine lv_goto (tgt := 54) hx hb dX6_finds_120 (by decide) ?_
            exact ih54 x3 q10.1 q10.2 m_best m_many _ _ _ h hP hS (lv_sub hl [2, 3, 4, 0] rfl)
          · have h := ifn c9 h
            refine lv_lload hx hb dX6_finds_79 (lv_at hl 0 rfl) ?_
            refine lv_lstore_n (lv' := [(3, .long q3), (6, .long q3), (0, .ref (o 0)), (2, .int a2), (5, .int x5)]) hx hb dX6_finds_81 rfl hl (by decide) rfl (fun ls hl => ?_)
            refine lv_iconst (v := (0 : Int32)) hx hb dX6_finds_82 (by decide) ?_
            refine lv_istore (lv' := [(8, .int (0 : Int32)), (3, .long q3), (6, .long q3), (0, .ref (o 0)), (2, .int a2), (5, .int x5)]) hx hb dX6_finds_83 hl (by decide) rfl (fun ls hl => ?_)
            exact hL85 1024 q3 (0 : Int32) m_order m_best m_many _ _ _ h hP hS (lv_sub hl [3, 4, 1, 0] rfl)
  have hL7 : ∀ (n7 : Nat) (x3 : Int32) (m_order : Nat → Int32) (m_best : Nat → Int32) (m_many : Int32) (ls : Array Slot) (H : Heap) (locs : List Loc), f_X6_finds_L7 a1 a2 m_s  n7 x3 m_order m_best m_many = some q → va_P D vwCl (MW o cI cJ m_s m_past m_kept m_spare m_paid m_pastPaid m_keptPaid m_sparePaid m_isKept m_pasts m_runs m_pad m_typed m_isStopped m_stop m_order m_best m_many m_bySets m_spot m_deeds m_deed) H → va_S A s.heap H locs → lv_has ls 9 [(0, .ref (o 0)), (1, .int a1), (2, .int a2), (3, .int x3)] → W p l e (rmF 2 0 0) s m ([.ref (o 0), .int a1, .int a2] : List Value).toArray below meth c H locs 0 0 Q (F0 m 7 ls []) := by
    intro n7
    induction n7 with
    | zero =>
      intro x3 m_order m_best m_many ls H locs h
      exact absurd (show (none : Option (Int64 × (Nat → Int32) × (Nat → Int32) × (Int32))) = some q from h) (by intro h; cases h)
    | succ n7 ih7 =>
      intro x3 m_order m_best m_many ls H locs h hP hS hl
      have h : f_X6_finds_L7b a1 a2 m_s  (f_X6_finds_L7 a1 a2 m_s  n7) x3 m_order m_best m_many = some q := h
      unfold f_X6_finds_L7b at h
      refine lv_iload_n hx hb dX6_finds_7 rfl (lv_at hl 3 rfl) ?_
      refine lv_iconst (v := (5 : Int32)) hx hb dX6_finds_8 (by decide) ?_
      refine lv_icmp_ge (tgt := 47) hx hb dX6_finds_9 (by decide) (fun c1 => ?_) (fun c1 => ?_)
      · have h := ift c1 h
        refine lv_ldc2 (v := (-1 : Int64)) hx hb hown (hts _ q_18_13) dX6_finds_47 ?_
        refine lv_lstore_n (lv' := [(3, .long (-1 : Int64)), (0, .ref (o 0)), (1, .int a1), (2, .int a2)]) hx hb dX6_finds_50 rfl hl (by decide) rfl (fun ls hl => ?_)
        refine lv_iconst (v := (1 : Int32)) hx hb dX6_finds_51 (by decide) ?_
        refine lv_istore (lv' := [(5, .int (1 : Int32)), (3, .long (-1 : Int64)), (0, .ref (o 0)), (1, .int a1), (2, .int a2)]) hx hb dX6_finds_52 hl (by decide) rfl (fun ls hl => ?_)
        exact hL54 1024 (-1 : Int64) (1 : Int32) m_order m_best m_many _ _ _ h hP hS (lv_sub hl [2, 4, 1, 0] rfl)
      · have h := ifn c1 h
        refine lv_iload_n hx hb dX6_finds_12 rfl (lv_at hl 1 rfl) ?_
        refine lv_iload_n hx hb dX6_finds_13 rfl (lv_at hl 3 rfl) ?_
        refine lv_ishr hx hb dX6_finds_14 ?_
        refine lv_iconst (v := (1 : Int32)) hx hb dX6_finds_15 (by decide) ?_
        refine lv_iand hx hb dX6_finds_16 ?_
        refine lv_iconst (v := (1 : Int32)) hx hb dX6_finds_17 (by decide) ?_
        refine lv_icmp_ne (tgt := 41) hx hb dX6_finds_18 (by decide) (fun c11 => ?_) (fun c11 => ?_)
        · have h := ifn c11 h
          refine lv_iinc (v := (x3 + (1 : Int32))) (lv' := [(3, .int (x3 + (1 : Int32))), (0, .ref (o 0)), (1, .int a1), (2, .int a2)]) hx hb dX6_finds_41 hl (k := 3) rfl (congrArg (HAdd.hAdd x3) (by decide)) (by decide) rfl (fun ls hl => ?_)
          refine lv_goto (tgt := 7) hx hb dX6_finds_44 (by decide) ?_
          exact ih7 (x3 + (1 : Int32)) m_order m_best m_many _ _ _ h hP hS (lv_sub hl [1, 2, 3, 0] rfl)
        · have h := ift c11 h
          refine lv_aload_n hx hb dX6_finds_21 rfl (lv_at hl 0 rfl) ?_
          refine va_get (D := D) (ci := 7) (v := .ref (o 11)) (C := RX6) (T := TX6) (N := 22) hx hb hts inlX6 hown hK hP 0 rfl rfl 15 (by decide) (hts _ q_4_15) (fun _ h9 => h9) rfl dX6_finds_22 ?_
          refine lv_aload_n hx hb dX6_finds_25 rfl (lv_at hl 0 rfl) ?_
          refine va_get (D := D) (ci := 7) (v := .int m_many) (C := RX6) (T := TX6) (N := 22) hx hb hts inlX6 hown hK hP 0 rfl rfl 17 (by decide) (hts _ q_18_8) (fun _ h9 => h9) rfl dX6_finds_26 ?_
          refine lv_iload_n hx hb dX6_finds_29 rfl (lv_at hl 3 rfl) ?_
          obtain ⟨g12, h⟩ := grd_some h
          refine va_iast hx hb hK hP (hDD _ rfl) hS 11 0 rfl rfl (inb_in g12) dX6_finds_30 (fun H locs hP _ hS => ?_)
          have hP : va_P D vwCl (MW o cI cJ m_s m_past m_kept m_spare m_paid m_pastPaid m_keptPaid m_sparePaid m_isKept m_pasts m_runs m_pad m_typed m_isStopped m_stop (upd m_order m_many.toNatClampNeg x3) m_best m_many m_bySets m_spot m_deeds m_deed) H := hP
          refine lv_aload_n hx hb dX6_finds_31 rfl (lv_at hl 0 rfl) ?_
          refine lv_dup hx hb dX6_finds_32 rfl ?_
          refine va_get (D := D) (ci := 7) (v := .int m_many) (C := RX6) (T := TX6) (N := 22) hx hb hts inlX6 hown hK hP 0 rfl rfl 17 (by decide) (hts _ q_18_8) (fun _ h9 => h9) rfl dX6_finds_33 ?_
          refine lv_iconst (v := (1 : Int32)) hx hb dX6_finds_36 (by decide) ?_
          refine lv_iadd hx hb dX6_finds_37 ?_
          refine va_put (D := D) (ci := 7) (v := .int (m_many + (1 : Int32))) (ty := .int) (C := RX6) (T := TX6) (N := 22) hx hb hts inlX6 tyX6 tyX6_ok nmX6 hown hK hP (hDD _ rfl) hS 0 rfl rfl 17 (by decide) (hts _ q_18_8) (fun _ h9 => h9) rfl (by decide +kernel) rfl rfl (Nat.le_of_ble_eq_true rfl) dX6_finds_38 (fun H locs hP _ hS => ?_)
          have hP : va_P D vwCl (MW o cI cJ m_s m_past m_kept m_spare m_paid m_pastPaid m_keptPaid m_sparePaid m_isKept m_pasts m_runs m_pad m_typed m_isStopped m_stop (upd m_order m_many.toNatClampNeg x3) m_best (m_many + (1 : Int32)) m_bySets m_spot m_deeds m_deed) H := hP
          refine lv_iinc (v := (x3 + (1 : Int32))) (lv' := [(3, .int (x3 + (1 : Int32))), (0, .ref (o 0)), (1, .int a1), (2, .int a2)]) hx hb dX6_finds_41 hl (k := 3) rfl (congrArg (HAdd.hAdd x3) (by decide)) (by decide) rfl (fun ls hl => ?_)
          refine lv_goto (tgt := 7) hx hb dX6_finds_44 (by decide) ?_
          exact ih7 (x3 + (1 : Int32)) (upd m_order m_many.toNatClampNeg x3) m_best (m_many + (1 : Int32)) _ _ _ h hP hS (lv_sub hl [1, 2, 3, 0] rfl)
  unfold f_X6_finds at h
  refine lv_aload_n hx hb dX6_finds_0 rfl (lv_at hl 0 rfl) ?_
  refine lv_iconst (v := (0 : Int32)) hx hb dX6_finds_1 (by decide) ?_
  refine va_put (D := D) (ci := 7) (v := .int (0 : Int32)) (ty := .int) (C := RX6) (T := TX6) (N := 22) hx hb hts inlX6 tyX6 tyX6_ok nmX6 hown hK hP (hDD _ rfl) hS 0 rfl rfl 17 (by decide) (hts _ q_18_8) (fun _ h9 => h9) rfl (by decide +kernel) rfl rfl (Nat.le_of_ble_eq_true rfl) dX6_finds_2 (fun H locs hP _ hS => ?_)
  have hP : va_P D vwCl (MW o cI cJ m_s m_past m_kept m_spare m_paid m_pastPaid m_keptPaid m_sparePaid m_isKept m_pasts m_runs m_pad m_typed m_isStopped m_stop m_order m_best (0 : Int32) m_bySets m_spot m_deeds m_deed) H := hP
  refine lv_iconst (v := (0 : Int32)) hx hb dX6_finds_5 (by decide) ?_
  refine lv_istore_n (lv' := [(3, .int (0 : Int32)), (0, .ref (o 0)), (1, .int a1), (2, .int a2)]) hx hb dX6_finds_6 rfl hl (by decide) rfl (fun ls hl => ?_)
  exact hL7 1024 (0 : Int32) m_order m_best (0 : Int32) _ _ _ h hP hS (lv_sub hl [1, 2, 3, 0] rfl)

def f_X6_findsBySets_L22b (a1 : Int32) (a2 : Int32) (m_s : Nat → Int32) (k9 : Int32 → (Nat → Int64) → Option (Int64 × (Nat → Int64))) (k22 : Int32 → Int64 → Int32 → (Nat → Int64) → Option (Int64 × (Nat → Int64))) (x3 : Int32) (x4 : Int64) (x6 : Int32) (m_bySets : Nat → Int64) : Option (Int64 × (Nat → Int64)) :=
  if (5 : Int32) ≤ x6 then bnd (f_X6_sizeOf x3 a2 m_s) (fun q5 => grd (inb x3 32) (k9 (x3 + (1 : Int32)) (vp_updL m_bySets x3.toNatClampNeg (x4 + q5))))
  else if ((x3 >>> (x6 &&& 31)) &&& (1 : Int32)) = (1 : Int32) then grd (inb (x3 - ((1 : Int32) <<< (x6 &&& 31))) 32) (if (lg_cmp x4 (0 : Int64)) < (0 : Int32) then k22 x3 (m_bySets (x3 - ((1 : Int32) <<< (x6 &&& 31))).toNatClampNeg) (x6 + (1 : Int32)) m_bySets
  else if (0 : Int32) ≤ (lg_cmp (m_bySets (x3 - ((1 : Int32) <<< (x6 &&& 31))).toNatClampNeg) x4) then k22 x3 x4 (x6 + (1 : Int32)) m_bySets
  else k22 x3 (m_bySets (x3 - ((1 : Int32) <<< (x6 &&& 31))).toNatClampNeg) (x6 + (1 : Int32)) m_bySets)
  else k22 x3 x4 (x6 + (1 : Int32)) m_bySets
def f_X6_findsBySets_L22 (a1 : Int32) (a2 : Int32) (m_s : Nat → Int32) (k9 : Int32 → (Nat → Int64) → Option (Int64 × (Nat → Int64))) : Nat → Int32 → Int64 → Int32 → (Nat → Int64) → Option (Int64 × (Nat → Int64))
  | 0 => fun _ _ _ _ => none
  | n + 1 => f_X6_findsBySets_L22b a1 a2 m_s k9 (f_X6_findsBySets_L22 a1 a2 m_s k9 n)
def f_X6_findsBySets_L9b (a1 : Int32) (a2 : Int32) (m_s : Nat → Int32)  (k9 : Int32 → (Nat → Int64) → Option (Int64 × (Nat → Int64))) (x3 : Int32) (m_bySets : Nat → Int64) : Option (Int64 × (Nat → Int64)) :=
  if a1 < x3 then grd (inb a1 32) (some ((m_bySets a1.toNatClampNeg), m_bySets))
  else f_X6_findsBySets_L22 a1 a2 m_s k9 1024 x3 (-1 : Int64) (0 : Int32) m_bySets
def f_X6_findsBySets_L9 (a1 : Int32) (a2 : Int32) (m_s : Nat → Int32)  : Nat → Int32 → (Nat → Int64) → Option (Int64 × (Nat → Int64))
  | 0 => fun _ _ => none
  | n + 1 => f_X6_findsBySets_L9b a1 a2 m_s  (f_X6_findsBySets_L9 a1 a2 m_s  n)
def f_X6_findsBySets (a1 : Int32) (a2 : Int32) (m_s : Nat → Int32) (m_bySets : Nat → Int64) : Option (Int64 × (Nat → Int64)) :=
  grd (inb (0 : Int32) 32) (f_X6_findsBySets_L9 a1 a2 m_s  1024 (1 : Int32) (vp_updL m_bySets (0 : Int32).toNatClampNeg (0 : Int64)))
set_option maxRecDepth 100000 in
set_option maxHeartbeats 4000000 in
theorem c_X6_findsBySets (l : Launch) (D : va_G) (o : Nat → Nat) (cI cJ : ClassId) (a1 : Int32) (a2 : Int32) (m_s : Nat → Int32) (m_past : Nat → Int32) (m_kept : Nat → Int32) (m_spare : Nat → Int32) (m_paid : Nat → Int64) (m_pastPaid : Nat → Int64) (m_keptPaid : Nat → Int64) (m_sparePaid : Nat → Int64) (m_isKept : Int32) (m_pasts : Int32) (m_runs : Int32) (m_pad : Nat → Int32) (m_typed : Int32) (m_isStopped : Int32) (m_stop : Nat → Int32) (m_order : Nat → Int32) (m_best : Nat → Int32) (m_many : Int32) (m_bySets : Nat → Int64) (m_spot : Int32) (m_deeds : Int32) (m_deed : Nat → Int32) (q : Int64 × (Nat → Int64)) (h : f_X6_findsBySets a1 a2 m_s m_bySets = some q) : CF l yX6_findsBySets cX6_findsBySets 9 1 (some .long) D (tysMW cI cJ) [.ref (o 0), .int a1, .int a2] (some (.long q.1)) (MW o cI cJ m_s m_past m_kept m_spare m_paid m_pastPaid m_keptPaid m_sparePaid m_isKept m_pasts m_runs m_pad m_typed m_isStopped m_stop m_order m_best m_many m_bySets m_spot m_deeds m_deed) (MW o cI cJ m_s m_past m_kept m_spare m_paid m_pastPaid m_keptPaid m_sparePaid m_isKept m_pasts m_runs m_pad m_typed m_isStopped m_stop m_order m_best m_many q.2 m_spot m_deeds m_deed) := by
  refine CF.mkL (by decide) (Nat.le_of_ble_eq_true rfl) ?_
  intro p e s m below meth c Q A B hK hDD hA hret hP hS ls hl
  have B0 := B
  obtain ⟨hx, hb, hml, hown, hts⟩ := B0
  have hl : lv_has ls 9 [(0, .ref (o 0)), (1, .int a1), (2, .int a2)] := hl
  have hL9 : ∀ (n9 : Nat) (x3 : Int32) (m_bySets : Nat → Int64) (ls : Array Slot) (H : Heap) (locs : List Loc), f_X6_findsBySets_L9 a1 a2 m_s  n9 x3 m_bySets = some q → va_P D vwCl (MW o cI cJ m_s m_past m_kept m_spare m_paid m_pastPaid m_keptPaid m_sparePaid m_isKept m_pasts m_runs m_pad m_typed m_isStopped m_stop m_order m_best m_many m_bySets m_spot m_deeds m_deed) H → va_S A s.heap H locs → lv_has ls 9 [(0, .ref (o 0)), (1, .int a1), (2, .int a2), (3, .int x3)] → W p l e (rmF 1 0 0) s m ([.ref (o 0), .int a1, .int a2] : List Value).toArray below meth c H locs 0 0 Q (F0 m 9 ls []) := by
    intro n9
    induction n9 with
    | zero =>
      intro x3 m_bySets ls H locs h
      exact absurd (show (none : Option (Int64 × (Nat → Int64))) = some q from h) (by intro h; cases h)
    | succ n9 ih9 =>
      have hL22 : ∀ (n22 : Nat) (x3 : Int32) (x4 : Int64) (x6 : Int32) (m_bySets : Nat → Int64) (ls : Array Slot) (H : Heap) (locs : List Loc), f_X6_findsBySets_L22 a1 a2 m_s (f_X6_findsBySets_L9 a1 a2 m_s   n9) n22 x3 x4 x6 m_bySets = some q → va_P D vwCl (MW o cI cJ m_s m_past m_kept m_spare m_paid m_pastPaid m_keptPaid m_sparePaid m_isKept m_pasts m_runs m_pad m_typed m_isStopped m_stop m_order m_best m_many m_bySets m_spot m_deeds m_deed) H → va_S A s.heap H locs → lv_has ls 9 [(0, .ref (o 0)), (1, .int a1), (2, .int a2), (3, .int x3), (4, .long x4), (6, .int x6)] → W p l e (rmF 1 0 0) s m ([.ref (o 0), .int a1, .int a2] : List Value).toArray below meth c H locs 0 0 Q (F0 m 22 ls []) := by
        intro n22
        induction n22 with
        | zero =>
          intro x3 x4 x6 m_bySets ls H locs h
          exact absurd (show (none : Option (Int64 × (Nat → Int64))) = some q from h) (by intro h; cases h)
        | succ n22 ih22 =>
          intro x3 x4 x6 m_bySets ls H locs h hP hS hl
          have h : f_X6_findsBySets_L22b a1 a2 m_s (f_X6_findsBySets_L9 a1 a2 m_s   n9) (f_X6_findsBySets_L22 a1 a2 m_s (f_X6_findsBySets_L9 a1 a2 m_s   n9) n22) x3 x4 x6 m_bySets = some q := h
          unfold f_X6_findsBySets_L22b at h
          refine lv_iload hx hb dX6_findsBySets_22 (lv_at hl 5 rfl) ?_
          refine lv_iconst (v := (5 : Int32)) hx hb dX6_findsBySets_24 (by decide) ?_
          refine lv_icmp_ge (tgt := 81) hx hb dX6_findsBySets_25 (by decide) (fun c4 => ?_) (fun c4 => ?_)
          · have h := ift c4 h
            refine lv_aload_n hx hb dX6_findsBySets_81 rfl (lv_at hl 0 rfl) ?_
            refine va_get (D := D) (ci := 7) (v := .ref (o 13)) (C := RX6) (T := TX6) (N := 22) hx hb hts inlX6 hown hK hP 0 rfl rfl 18 (by decide) (hts _ q_4_17) (fun _ h9 => h9) rfl dX6_findsBySets_82 ?_
            refine lv_iload_n hx hb dX6_findsBySets_85 rfl (lv_at hl 3 rfl) ?_
            refine lv_lload hx hb dX6_findsBySets_86 (lv_at hl 4 rfl) ?_
            refine lv_aload_n hx hb dX6_findsBySets_88 rfl (lv_at hl 0 rfl) ?_
            refine lv_iload_n hx hb dX6_findsBySets_89 rfl (lv_at hl 3 rfl) ?_
            refine lv_iload_n hx hb dX6_findsBySets_90 rfl (lv_at hl 2 rfl) ?_
            obtain ⟨q5, e5, h⟩ := bnd_some h
            refine f_call (As := [.int x3, .int a2]) (rest := [.long x4, .int x3, .ref (o 13)]) (c_X6_sizeOf l D o cI cJ x3 a2 m_s m_past m_kept m_spare m_paid m_pastPaid m_keptPaid m_sparePaid m_isKept m_pasts m_runs m_pad m_typed m_isStopped m_stop m_order m_best m_many m_bySets m_spot m_deeds m_deed q5 e5) B hK hDD hA hP hS rfl (va_recv hK hP (ci := 7) (q0 := 0) rfl rfl) k_X6_sizeOf q_18_18 rfl ⟨Nat.le_of_ble_eq_true rfl, Nat.le_of_ble_eq_true rfl⟩ ⟨Nat.le_refl _, Nat.le_refl _⟩ hl.1 rfl (Nat.le_of_ble_eq_true rfl) dX6_findsBySets_91 (fun H locs hP hS => ?_)
            refine lv_ladd hx hb dX6_findsBySets_94 ?_
            obtain ⟨g6, h⟩ := grd_some h
            refine va_last hx hb hK hP (hDD _ rfl) hS 13 1 rfl rfl (inb_in g6) dX6_findsBySets_95 (fun H locs hP _ hS => ?_)
            have hP : va_P D vwCl (MW o cI cJ m_s m_past m_kept m_spare m_paid m_pastPaid m_keptPaid m_sparePaid m_isKept m_pasts m_runs m_pad m_typed m_isStopped m_stop m_order m_best m_many (vp_updL m_bySets x3.toNatClampNeg (x4 + q5)) m_spot m_deeds m_deed) H := hP
            refine lv_iinc (v := (x3 + (1 : Int32))) (lv' := [(3, .int (x3 + (1 : Int32))), (0, .ref (o 0)), (1, .int a1), (2, .int a2), (4, .long x4), (6, .int x6)]) hx hb dX6_findsBySets_96 hl (k := 3) rfl (congrArg (HAdd.hAdd x3) (by decide)) (by decide) rfl (fun ls hl => ?_)
            refine lv_goto (tgt := 9) hx hb dX6_findsBySets_99 (by decide) ?_
            exact ih9 (x3 + (1 : Int32)) (vp_updL m_bySets x3.toNatClampNeg (x4 + q5)) _ _ _ h hP hS (lv_sub hl [1, 2, 3, 0] rfl)
          · have h := ifn c4 h
            refine lv_iload_n hx hb dX6_findsBySets_28 rfl (lv_at hl 3 rfl) ?_
            refine lv_iload hx hb dX6_findsBySets_29 (lv_at hl 5 rfl) ?_
            refine lv_ishr hx hb dX6_findsBySets_31 ?_
            refine lv_iconst (v := (1 : Int32)) hx hb dX6_findsBySets_32 (by decide) ?_
            refine lv_iand hx hb dX6_findsBySets_33 ?_
            refine lv_iconst (v := (1 : Int32)) hx hb dX6_findsBySets_34 (by decide) ?_
            refine lv_icmp_ne (tgt := 75) hx hb dX6_findsBySets_35 (by decide) (fun c7 => ?_) (fun c7 => ?_)
            · have h := ifn c7 h
              refine lv_iinc (v := (x6 + (1 : Int32))) (lv' := [(6, .int (x6 + (1 : Int32))), (0, .ref (o 0)), (1, .int a1), (2, .int a2), (3, .int x3), (4, .long x4)]) hx hb dX6_findsBySets_75 hl (k := 5) rfl (congrArg (HAdd.hAdd x6) (by decide)) (by decide) rfl (fun ls hl => ?_)
              refine lv_goto (tgt := 22) hx hb dX6_findsBySets_78 (by decide) ?_
              exact ih22 x3 x4 (x6 + (1 : Int32)) m_bySets _ _ _ h hP hS (lv_sub hl [1, 2, 3, 4, 5, 0] rfl)
            · have h := ift c7 h
              refine lv_aload_n hx hb dX6_findsBySets_38 rfl (lv_at hl 0 rfl) ?_
              refine va_get (D := D) (ci := 7) (v := .ref (o 13)) (C := RX6) (T := TX6) (N := 22) hx hb hts inlX6 hown hK hP 0 rfl rfl 18 (by decide) (hts _ q_4_17) (fun _ h9 => h9) rfl dX6_findsBySets_39 ?_
              refine lv_iload_n hx hb dX6_findsBySets_42 rfl (lv_at hl 3 rfl) ?_
              refine lv_iconst (v := (1 : Int32)) hx hb dX6_findsBySets_43 (by decide) ?_
              refine lv_iload hx hb dX6_findsBySets_44 (lv_at hl 5 rfl) ?_
              refine lv_ishl hx hb dX6_findsBySets_46 ?_
              refine lv_isub hx hb dX6_findsBySets_47 ?_
              obtain ⟨g8, h⟩ := grd_some h
              refine va_lald hx hb hK hP 13 1 rfl rfl (inb_in g8) dX6_findsBySets_48 ?_
              refine lv_lstore (lv' := [(7, .long (m_bySets (x3 - ((1 : Int32) <<< (x6 &&& 31))).toNatClampNeg)), (0, .ref (o 0)), (1, .int a1), (2, .int a2), (3, .int x3), (4, .long x4), (6, .int x6)]) hx hb dX6_findsBySets_49 hl (by decide) rfl (fun ls hl => ?_)
              refine lv_lload hx hb dX6_findsBySets_51 (lv_at hl 5 rfl) ?_
              refine lv_lconst (v := (0 : Int64)) hx hb dX6_findsBySets_53 (by decide) ?_
              refine W.lcmp hx hb dX6_findsBySets_54 ?_
              refine lv_if_lt (tgt := 66) hx hb dX6_findsBySets_55 (by decide) (fun c9 => ?_) (fun c9 => ?_)
              · have h := ift c9 h
                refine lv_lload hx hb dX6_findsBySets_66 (lv_at hl 0 rfl) ?_
                refine lv_goto (tgt := 73) hx hb dX6_findsBySets_68 (by decide) ?_
                refine lv_lstore (lv' := [(4, .long (m_bySets (x3 - ((1 : Int32) <<< (x6 &&& 31))).toNatClampNeg)), (7, .long (m_bySets (x3 - ((1 : Int32) <<< (x6 &&& 31))).toNatClampNeg)), (0, .ref (o 0)), (1, .int a1), (2, .int a2), (3, .int x3), (6, .int x6)]) hx hb dX6_findsBySets_73 hl (by decide) rfl (fun ls hl => ?_)
                refine lv_iinc (v := (x6 + (1 : Int32))) (lv' := [(6, .int (x6 + (1 : Int32))), (4, .long (m_bySets (x3 - ((1 : Int32) <<< (x6 &&& 31))).toNatClampNeg)), (7, .long (m_bySets (x3 - ((1 : Int32) <<< (x6 &&& 31))).toNatClampNeg)), (0, .ref (o 0)), (1, .int a1), (2, .int a2), (3, .int x3)]) hx hb dX6_findsBySets_75 hl (k := 6) rfl (congrArg (HAdd.hAdd x6) (by decide)) (by decide) rfl (fun ls hl => ?_)
                refine lv_goto (tgt := 22) hx hb dX6_findsBySets_78 (by decide) ?_
                exact ih22 x3 (m_bySets (x3 - ((1 : Int32) <<< (x6 &&& 31))).toNatClampNeg) (x6 + (1 : Int32)) m_bySets _ _ _ h hP hS (lv_sub hl [3, 4, 5, 6, 1, 0] rfl)
              · have h := ifn c9 h
                refine lv_lload hx hb dX6_findsBySets_58 (lv_at hl 0 rfl) ?_
                refine lv_lload hx hb dX6_findsBySets_60 (lv_at hl 5 rfl) ?_
                refine W.lcmp hx hb dX6_findsBySets_62 ?_
                refine lv_if_ge (tgt := 71) hx hb dX6_findsBySets_63 (by decide) (fun c10 => ?_) (fun c10 => ?_)
                · have h := ift c10 h
                  refine lv_lload hx hb dX6_findsBySets_71 (lv_at hl 5 rfl) ?_
                  refine lv_lstore (lv' := [(4, .long x4), (7, .long (m_bySets (x3 - ((1 : Int32) <<< (x6 &&& 31))).toNatClampNeg)), (0, .ref (o 0)), (1, .int a1), (2, .int a2), (3, .int x3), (6, .int x6)]) hx hb dX6_findsBySets_73 hl (by decide) rfl (fun ls hl => ?_)
                  refine lv_iinc (v := (x6 + (1 : Int32))) (lv' := [(6, .int (x6 + (1 : Int32))), (4, .long x4), (7, .long (m_bySets (x3 - ((1 : Int32) <<< (x6 &&& 31))).toNatClampNeg)), (0, .ref (o 0)), (1, .int a1), (2, .int a2), (3, .int x3)]) hx hb dX6_findsBySets_75 hl (k := 6) rfl (congrArg (HAdd.hAdd x6) (by decide)) (by decide) rfl (fun ls hl => ?_)
                  refine lv_goto (tgt := 22) hx hb dX6_findsBySets_78 (by decide) ?_
                  exact ih22 x3 x4 (x6 + (1 : Int32)) m_bySets _ _ _ h hP hS (lv_sub hl [3, 4, 5, 6, 1, 0] rfl)
                · have h := ifn c10 h
                  refine lv_lload hx hb dX6_findsBySets_66 (lv_at hl 0 rfl) ?_
                  refine lv_goto (tgt := 73) hx hb dX6_findsBySets_68 (by decide) ?_
                  refine lv_lstore (lv' := [(4, .long (m_bySets (x3 - ((1 : Int32) <<< (x6 &&& 31))).toNatClampNeg)), (7, .long (m_bySets (x3 - ((1 : Int32) <<< (x6 &&& 31))).toNatClampNeg)), (0, .ref (o 0)), (1, .int a1), (2, .int a2), (3, .int x3), (6, .int x6)]) hx hb dX6_findsBySets_73 hl (by decide) rfl (fun ls hl => ?_)
                  refine lv_iinc (v := (x6 + (1 : Int32))) (lv' := [(6, .int (x6 + (1 : Int32))), (4, .long (m_bySets (x3 - ((1 : Int32) <<< (x6 &&& 31))).toNatClampNeg)), (7, .long (m_bySets (x3 - ((1 : Int32) <<< (x6 &&& 31))).toNatClampNeg)), (0, .ref (o 0)), (1, .int a1), (2, .int a2), (3, .int x3)]) hx hb dX6_findsBySets_75 hl (k := 6) rfl (congrArg (HAdd.hAdd x6) (by decide)) (by decide) rfl (fun ls hl => ?_)
                  refine lv_goto (tgt := 22) hx hb dX6_findsBySets_78 (by decide) ?_
                  exact ih22 x3 (m_bySets (x3 - ((1 : Int32) <<< (x6 &&& 31))).toNatClampNeg) (x6 + (1 : Int32)) m_bySets _ _ _ h hP hS (lv_sub hl [3, 4, 5, 6, 1, 0] rfl)
      intro x3 m_bySets ls H locs h hP hS hl
      have h : f_X6_findsBySets_L9b a1 a2 m_s  (f_X6_findsBySets_L9 a1 a2 m_s  n9) x3 m_bySets = some q := h
      unfold f_X6_findsBySets_L9b at h
      refine lv_iload_n hx hb dX6_findsBySets_9 rfl (lv_at hl 3 rfl) ?_
      refine lv_iload_n hx hb dX6_findsBySets_10 rfl (lv_at hl 1 rfl) ?_
      refine lv_icmp_gt (tgt := 102) hx hb dX6_findsBySets_11 (by decide) (fun c2 => ?_) (fun c2 => ?_)
      · have h := ift c2 h
        refine lv_aload_n hx hb dX6_findsBySets_102 rfl (lv_at hl 0 rfl) ?_
        refine va_get (D := D) (ci := 7) (v := .ref (o 13)) (C := RX6) (T := TX6) (N := 22) hx hb hts inlX6 hown hK hP 0 rfl rfl 18 (by decide) (hts _ q_4_17) (fun _ h9 => h9) rfl dX6_findsBySets_103 ?_
        refine lv_iload_n hx hb dX6_findsBySets_106 rfl (lv_at hl 1 rfl) ?_
        obtain ⟨g3, h⟩ := grd_some h
        refine va_lald hx hb hK hP 13 1 rfl rfl (inb_in g3) dX6_findsBySets_107 ?_
        obtain rfl := Option.some.inj h
        exact hret _ _ _ _ dX6_findsBySets_108 hP hS
      · have h := ifn c2 h
        refine lv_ldc2 (v := (-1 : Int64)) hx hb hown (hts _ q_18_13) dX6_findsBySets_14 ?_
        refine lv_lstore (lv' := [(4, .long (-1 : Int64)), (0, .ref (o 0)), (1, .int a1), (2, .int a2), (3, .int x3)]) hx hb dX6_findsBySets_17 hl (by decide) rfl (fun ls hl => ?_)
        refine lv_iconst (v := (0 : Int32)) hx hb dX6_findsBySets_19 (by decide) ?_
        refine lv_istore (lv' := [(6, .int (0 : Int32)), (4, .long (-1 : Int64)), (0, .ref (o 0)), (1, .int a1), (2, .int a2), (3, .int x3)]) hx hb dX6_findsBySets_20 hl (by decide) rfl (fun ls hl => ?_)
        exact hL22 1024 x3 (-1 : Int64) (0 : Int32) m_bySets _ _ _ h hP hS (lv_sub hl [2, 3, 4, 5, 1, 0] rfl)
  unfold f_X6_findsBySets at h
  refine lv_aload_n hx hb dX6_findsBySets_0 rfl (lv_at hl 0 rfl) ?_
  refine va_get (D := D) (ci := 7) (v := .ref (o 13)) (C := RX6) (T := TX6) (N := 22) hx hb hts inlX6 hown hK hP 0 rfl rfl 18 (by decide) (hts _ q_4_17) (fun _ h9 => h9) rfl dX6_findsBySets_1 ?_
  refine lv_iconst (v := (0 : Int32)) hx hb dX6_findsBySets_4 (by decide) ?_
  refine lv_lconst (v := (0 : Int64)) hx hb dX6_findsBySets_5 (by decide) ?_
  obtain ⟨g1, h⟩ := grd_some h
  refine va_last hx hb hK hP (hDD _ rfl) hS 13 1 rfl rfl (inb_in g1) dX6_findsBySets_6 (fun H locs hP _ hS => ?_)
  have hP : va_P D vwCl (MW o cI cJ m_s m_past m_kept m_spare m_paid m_pastPaid m_keptPaid m_sparePaid m_isKept m_pasts m_runs m_pad m_typed m_isStopped m_stop m_order m_best m_many (vp_updL m_bySets (0 : Int32).toNatClampNeg (0 : Int64)) m_spot m_deeds m_deed) H := hP
  refine lv_iconst (v := (1 : Int32)) hx hb dX6_findsBySets_7 (by decide) ?_
  refine lv_istore_n (lv' := [(3, .int (1 : Int32)), (0, .ref (o 0)), (1, .int a1), (2, .int a2)]) hx hb dX6_findsBySets_8 rfl hl (by decide) rfl (fun ls hl => ?_)
  exact hL9 1024 (1 : Int32) (vp_updL m_bySets (0 : Int32).toNatClampNeg (0 : Int64)) _ _ _ h hP hS (lv_sub hl [1, 2, 3, 0] rfl)

def f_X6_at (a1 : Int32)  : Option (Int32) :=
  some ((36 : Int32) + ((14 : Int32) * a1))
set_option maxRecDepth 100000 in
set_option maxHeartbeats 4000000 in
theorem c_X6_at (l : Launch) (a1 : Int32) (q : Int32) (h : f_X6_at a1  = some q) : CS l yX6_at cX6_at 1 0 (some .int) [.int a1] (some (.int q)) := by
  refine CS.mkI (by decide) (Nat.le_of_ble_eq_true rfl) ?_
  intro p e s m below meth c Q B hret ls hl
  have B0 := B
  obtain ⟨hx, hb, hml, hown, hts⟩ := B0
  have hl : lv_has ls 1 [(0, .int a1)] := hl
  unfold f_X6_at at h
  refine lv_bipush (v := (36 : Int32)) hx hb dX6_at_0 (by decide) ?_
  refine lv_bipush (v := (14 : Int32)) hx hb dX6_at_2 (by decide) ?_
  refine lv_iload_n hx hb dX6_at_4 rfl (lv_at hl 0 rfl) ?_
  refine lv_imul hx hb dX6_at_5 ?_
  refine lv_iadd hx hb dX6_at_6 ?_
  obtain rfl := Option.some.inj h
  exact hret _ _ (vp_nar_int _) dX6_at_7

def f_X6_slotOf_L2b (a1 : Int32) (m_s : Nat → Int32)  (k2 : Int32 → Option (Int32)) (x2 : Int32) : Option (Int32) :=
  if (4 : Int32) ≤ x2 then some (-4 : Int32)
  else bnd (f_X6_at x2 ) (fun q2 => grd (inb q2 100) (if (m_s q2.toNatClampNeg) = a1 then some x2
  else k2 (x2 + (1 : Int32))))
def f_X6_slotOf_L2 (a1 : Int32) (m_s : Nat → Int32)  : Nat → Int32 → Option (Int32)
  | 0 => fun _ => none
  | n + 1 => f_X6_slotOf_L2b a1 m_s  (f_X6_slotOf_L2 a1 m_s  n)
def f_X6_slotOf (a1 : Int32) (m_s : Nat → Int32) : Option (Int32) :=
  f_X6_slotOf_L2 a1 m_s  1024 (0 : Int32)
set_option maxRecDepth 100000 in
set_option maxHeartbeats 4000000 in
theorem c_X6_slotOf (l : Launch) (D : va_G) (o : Nat → Nat) (cI cJ : ClassId) (a1 : Int32) (m_s : Nat → Int32) (m_past : Nat → Int32) (m_kept : Nat → Int32) (m_spare : Nat → Int32) (m_paid : Nat → Int64) (m_pastPaid : Nat → Int64) (m_keptPaid : Nat → Int64) (m_sparePaid : Nat → Int64) (m_isKept : Int32) (m_pasts : Int32) (m_runs : Int32) (m_pad : Nat → Int32) (m_typed : Int32) (m_isStopped : Int32) (m_stop : Nat → Int32) (m_order : Nat → Int32) (m_best : Nat → Int32) (m_many : Int32) (m_bySets : Nat → Int64) (m_spot : Int32) (m_deeds : Int32) (m_deed : Nat → Int32) (q : Int32) (h : f_X6_slotOf a1 m_s = some q) : CF l yX6_slotOf cX6_slotOf 3 1 (some .int) D (tysMW cI cJ) [.ref (o 0), .int a1] (some (.int q)) (MW o cI cJ m_s m_past m_kept m_spare m_paid m_pastPaid m_keptPaid m_sparePaid m_isKept m_pasts m_runs m_pad m_typed m_isStopped m_stop m_order m_best m_many m_bySets m_spot m_deeds m_deed) (MW o cI cJ m_s m_past m_kept m_spare m_paid m_pastPaid m_keptPaid m_sparePaid m_isKept m_pasts m_runs m_pad m_typed m_isStopped m_stop m_order m_best m_many m_bySets m_spot m_deeds m_deed) := by
  refine CF.mkI (by decide) (Nat.le_of_ble_eq_true rfl) ?_
  intro p e s m below meth c Q A B hK hDD hA hret hP hS ls hl
  have B0 := B
  obtain ⟨hx, hb, hml, hown, hts⟩ := B0
  have hl : lv_has ls 3 [(0, .ref (o 0)), (1, .int a1)] := hl
  have hL2 : ∀ (n2 : Nat) (x2 : Int32) (ls : Array Slot) (H : Heap) (locs : List Loc), f_X6_slotOf_L2 a1 m_s  n2 x2 = some q → va_P D vwCl (MW o cI cJ m_s m_past m_kept m_spare m_paid m_pastPaid m_keptPaid m_sparePaid m_isKept m_pasts m_runs m_pad m_typed m_isStopped m_stop m_order m_best m_many m_bySets m_spot m_deeds m_deed) H → va_S A s.heap H locs → lv_has ls 3 [(0, .ref (o 0)), (1, .int a1), (2, .int x2)] → W p l e (rmF 1 0 0) s m ([.ref (o 0), .int a1] : List Value).toArray below meth c H locs 0 0 Q (F0 m 2 ls []) := by
    intro n2
    induction n2 with
    | zero =>
      intro x2 ls H locs h
      exact absurd (show (none : Option (Int32)) = some q from h) (by intro h; cases h)
    | succ n2 ih2 =>
      intro x2 ls H locs h hP hS hl
      have h : f_X6_slotOf_L2b a1 m_s  (f_X6_slotOf_L2 a1 m_s  n2) x2 = some q := h
      unfold f_X6_slotOf_L2b at h
      refine lv_iload_n hx hb dX6_slotOf_2 rfl (lv_at hl 2 rfl) ?_
      refine lv_iconst (v := (4 : Int32)) hx hb dX6_slotOf_3 (by decide) ?_
      refine lv_icmp_ge (tgt := 28) hx hb dX6_slotOf_4 (by decide) (fun c1 => ?_) (fun c1 => ?_)
      · have h := ift c1 h
        refine lv_bipush (v := (-4 : Int32)) hx hb dX6_slotOf_28 (by decide) ?_
        obtain rfl := Option.some.inj h
        exact hret _ _ _ _ (vp_nar_int _) dX6_slotOf_30 hP hS
      · have h := ifn c1 h
        refine lv_aload_n hx hb dX6_slotOf_7 rfl (lv_at hl 0 rfl) ?_
        refine va_get (D := D) (ci := 7) (v := .ref (o 1)) (C := RX6) (T := TX6) (N := 22) hx hb hts inlX6 hown hK hP 0 rfl rfl 0 (by decide) (hts _ q_4_5) (fun _ h9 => h9) rfl dX6_slotOf_8 ?_
        refine lv_iload_n hx hb dX6_slotOf_11 rfl (lv_at hl 2 rfl) ?_
        obtain ⟨q2, e2, h⟩ := bnd_some h
        refine s_call (As := [.int x2]) (rest := [.ref (o 1)]) (c_X6_at l x2 q2 e2) B k_X6_at q_11_4 rfl ⟨Nat.le_of_ble_eq_true rfl, Nat.le_of_ble_eq_true rfl⟩ ⟨Nat.le_refl _, Nat.le_refl _⟩ hl.1 rfl (Nat.le_of_ble_eq_true rfl) dX6_slotOf_12 ?_
        obtain ⟨g3, h⟩ := grd_some h
        refine va_iald hx hb hK hP 1 0 rfl rfl (inb_in g3) dX6_slotOf_15 ?_
        refine lv_iload_n hx hb dX6_slotOf_16 rfl (lv_at hl 1 rfl) ?_
        refine lv_icmp_ne (tgt := 22) hx hb dX6_slotOf_17 (by decide) (fun c4 => ?_) (fun c4 => ?_)
        · have h := ifn c4 h
          refine lv_iinc (v := (x2 + (1 : Int32))) (lv' := [(2, .int (x2 + (1 : Int32))), (0, .ref (o 0)), (1, .int a1)]) hx hb dX6_slotOf_22 hl (k := 2) rfl (congrArg (HAdd.hAdd x2) (by decide)) (by decide) rfl (fun ls hl => ?_)
          refine lv_goto (tgt := 2) hx hb dX6_slotOf_25 (by decide) ?_
          exact ih2 (x2 + (1 : Int32)) _ _ _ h hP hS (lv_sub hl [1, 2, 0] rfl)
        · have h := ift c4 h
          refine lv_iload_n hx hb dX6_slotOf_20 rfl (lv_at hl 2 rfl) ?_
          obtain rfl := Option.some.inj h
          exact hret _ _ _ _ (vp_nar_int _) dX6_slotOf_21 hP hS
  unfold f_X6_slotOf at h
  refine lv_iconst (v := (0 : Int32)) hx hb dX6_slotOf_0 (by decide) ?_
  refine lv_istore_n (lv' := [(2, .int (0 : Int32)), (0, .ref (o 0)), (1, .int a1)]) hx hb dX6_slotOf_1 rfl hl (by decide) rfl (fun ls hl => ?_)
  exact hL2 1024 (0 : Int32) _ _ _ h hP hS (lv_sub hl [1, 2, 0] rfl)

def f_X6_tablesIn_L4b (a1 : Int32)   (k4 : Int32 → Int32 → Option (Int32)) (x1 : Int32) (x2 : Int32) : Option (Int32) :=
  if (5 : Int32) ≤ x2 then some x1
  else k4 (x1 + ((a1 >>> (x2 &&& 31)) &&& (1 : Int32))) (x2 + (1 : Int32))
def f_X6_tablesIn_L4 (a1 : Int32)   : Nat → Int32 → Int32 → Option (Int32)
  | 0 => fun _ _ => none
  | n + 1 => f_X6_tablesIn_L4b a1  (f_X6_tablesIn_L4 a1  n)
def f_X6_tablesIn (a1 : Int32)  : Option (Int32) :=
  f_X6_tablesIn_L4 a1  1024 (0 : Int32) (0 : Int32)
set_option maxRecDepth 100000 in
set_option maxHeartbeats 4000000 in
theorem c_X6_tablesIn (l : Launch) (a1 : Int32) (q : Int32) (h : f_X6_tablesIn a1  = some q) : CS l yX6_tablesIn cX6_tablesIn 3 0 (some .int) [.int a1] (some (.int q)) := by
  refine CS.mkI (by decide) (Nat.le_of_ble_eq_true rfl) ?_
  intro p e s m below meth c Q B hret ls hl
  have B0 := B
  obtain ⟨hx, hb, hml, hown, hts⟩ := B0
  have hl : lv_has ls 3 [(0, .int a1)] := hl
  have hL4 : ∀ (n4 : Nat) (x1 : Int32) (x2 : Int32) (ls : Array Slot), f_X6_tablesIn_L4 a1  n4 x1 x2 = some q → lv_has ls 3 [(0, .int a1), (1, .int x1), (2, .int x2)] → W p l e (rmF 0 0 0) s m ([.int a1] : List Value).toArray below meth c s.heap [] 0 0 Q (F0 m 4 ls []) := by
    intro n4
    induction n4 with
    | zero =>
      intro x1 x2 ls h
      exact absurd (show (none : Option (Int32)) = some q from h) (by intro h; cases h)
    | succ n4 ih4 =>
      intro x1 x2 ls h hl
      have h : f_X6_tablesIn_L4b a1  (f_X6_tablesIn_L4 a1  n4) x1 x2 = some q := h
      unfold f_X6_tablesIn_L4b at h
      refine lv_iload_n hx hb dX6_tablesIn_4 rfl (lv_at hl 2 rfl) ?_
      refine lv_iconst (v := (5 : Int32)) hx hb dX6_tablesIn_5 (by decide) ?_
      refine lv_icmp_ge (tgt := 23) hx hb dX6_tablesIn_6 (by decide) (fun c1 => ?_) (fun c1 => ?_)
      · have h := ift c1 h
        refine lv_iload_n hx hb dX6_tablesIn_23 rfl (lv_at hl 1 rfl) ?_
        obtain rfl := Option.some.inj h
        exact hret _ _ (vp_nar_int _) dX6_tablesIn_24
      · have h := ifn c1 h
        refine lv_iload_n hx hb dX6_tablesIn_9 rfl (lv_at hl 1 rfl) ?_
        refine lv_iload_n hx hb dX6_tablesIn_10 rfl (lv_at hl 0 rfl) ?_
        refine lv_iload_n hx hb dX6_tablesIn_11 rfl (lv_at hl 2 rfl) ?_
        refine lv_ishr hx hb dX6_tablesIn_12 ?_
        refine lv_iconst (v := (1 : Int32)) hx hb dX6_tablesIn_13 (by decide) ?_
        refine lv_iand hx hb dX6_tablesIn_14 ?_
        refine lv_iadd hx hb dX6_tablesIn_15 ?_
        refine lv_istore_n (lv' := [(1, .int (x1 + ((a1 >>> (x2 &&& 31)) &&& (1 : Int32)))), (0, .int a1), (2, .int x2)]) hx hb dX6_tablesIn_16 rfl hl (by decide) rfl (fun ls hl => ?_)
        refine lv_iinc (v := (x2 + (1 : Int32))) (lv' := [(2, .int (x2 + (1 : Int32))), (1, .int (x1 + ((a1 >>> (x2 &&& 31)) &&& (1 : Int32)))), (0, .int a1)]) hx hb dX6_tablesIn_17 hl (k := 2) rfl (congrArg (HAdd.hAdd x2) (by decide)) (by decide) rfl (fun ls hl => ?_)
        refine lv_goto (tgt := 4) hx hb dX6_tablesIn_20 (by decide) ?_
        exact ih4 (x1 + ((a1 >>> (x2 &&& 31)) &&& (1 : Int32))) (x2 + (1 : Int32)) _ h (lv_sub hl [2, 1, 0] rfl)
  unfold f_X6_tablesIn at h
  refine lv_iconst (v := (0 : Int32)) hx hb dX6_tablesIn_0 (by decide) ?_
  refine lv_istore_n (lv' := [(1, .int (0 : Int32)), (0, .int a1)]) hx hb dX6_tablesIn_1 rfl hl (by decide) rfl (fun ls hl => ?_)
  refine lv_iconst (v := (0 : Int32)) hx hb dX6_tablesIn_2 (by decide) ?_
  refine lv_istore_n (lv' := [(2, .int (0 : Int32)), (1, .int (0 : Int32)), (0, .int a1)]) hx hb dX6_tablesIn_3 rfl hl (by decide) rfl (fun ls hl => ?_)
  exact hL4 1024 (0 : Int32) (0 : Int32) _ h (lv_sub hl [2, 1, 0] rfl)

def f_X6_costAt_L18b (a1 : Int32) (a2 : Int32) (m_s : Nat → Int32)  (k18 : Int32 → (Nat → Int32) → Int32 → Option (Int64 × (Nat → Int32) × (Int32))) (x3 : Int32) (m_order : Nat → Int32) (m_many : Int32) : Option (Int64 × (Nat → Int32) × (Int32)) :=
  if m_many ≤ x3 then bnd (f_X6_costOf a2 m_s m_order m_many) (fun q5 => some (q5, m_order, m_many))
  else bnd (f_X6_at a1 ) (fun q6 => grd (inb ((q6 + (1 : Int32)) + x3) 100) (grd (inb x3 5) (k18 (x3 + (1 : Int32)) (upd m_order x3.toNatClampNeg (m_s ((q6 + (1 : Int32)) + x3).toNatClampNeg)) m_many)))
def f_X6_costAt_L18 (a1 : Int32) (a2 : Int32) (m_s : Nat → Int32)  : Nat → Int32 → (Nat → Int32) → Int32 → Option (Int64 × (Nat → Int32) × (Int32))
  | 0 => fun _ _ _ => none
  | n + 1 => f_X6_costAt_L18b a1 a2 m_s  (f_X6_costAt_L18 a1 a2 m_s  n)
def f_X6_costAt (a1 : Int32) (a2 : Int32) (m_s : Nat → Int32) (m_order : Nat → Int32) (m_many : Int32) : Option (Int64 × (Nat → Int32) × (Int32)) :=
  bnd (f_X6_at a1 ) (fun q1 => grd (inb q1 100) (bnd (f_X6_tablesIn (m_s q1.toNatClampNeg) ) (fun q3 => f_X6_costAt_L18 a1 a2 m_s  1024 (0 : Int32) m_order q3)))
set_option maxRecDepth 100000 in
set_option maxHeartbeats 4000000 in
theorem c_X6_costAt (l : Launch) (D : va_G) (o : Nat → Nat) (cI cJ : ClassId) (a1 : Int32) (a2 : Int32) (m_s : Nat → Int32) (m_past : Nat → Int32) (m_kept : Nat → Int32) (m_spare : Nat → Int32) (m_paid : Nat → Int64) (m_pastPaid : Nat → Int64) (m_keptPaid : Nat → Int64) (m_sparePaid : Nat → Int64) (m_isKept : Int32) (m_pasts : Int32) (m_runs : Int32) (m_pad : Nat → Int32) (m_typed : Int32) (m_isStopped : Int32) (m_stop : Nat → Int32) (m_order : Nat → Int32) (m_best : Nat → Int32) (m_many : Int32) (m_bySets : Nat → Int64) (m_spot : Int32) (m_deeds : Int32) (m_deed : Nat → Int32) (q : Int64 × (Nat → Int32) × (Int32)) (h : f_X6_costAt a1 a2 m_s m_order m_many = some q) : CF l yX6_costAt cX6_costAt 4 2 (some .long) D (tysMW cI cJ) [.ref (o 0), .int a1, .int a2] (some (.long q.1)) (MW o cI cJ m_s m_past m_kept m_spare m_paid m_pastPaid m_keptPaid m_sparePaid m_isKept m_pasts m_runs m_pad m_typed m_isStopped m_stop m_order m_best m_many m_bySets m_spot m_deeds m_deed) (MW o cI cJ m_s m_past m_kept m_spare m_paid m_pastPaid m_keptPaid m_sparePaid m_isKept m_pasts m_runs m_pad m_typed m_isStopped m_stop q.2.1 m_best q.2.2 m_bySets m_spot m_deeds m_deed) := by
  refine CF.mkL (by decide) (Nat.le_of_ble_eq_true rfl) ?_
  intro p e s m below meth c Q A B hK hDD hA hret hP hS ls hl
  have B0 := B
  obtain ⟨hx, hb, hml, hown, hts⟩ := B0
  have hl : lv_has ls 4 [(0, .ref (o 0)), (1, .int a1), (2, .int a2)] := hl
  have hL18 : ∀ (n18 : Nat) (x3 : Int32) (m_order : Nat → Int32) (m_many : Int32) (ls : Array Slot) (H : Heap) (locs : List Loc), f_X6_costAt_L18 a1 a2 m_s  n18 x3 m_order m_many = some q → va_P D vwCl (MW o cI cJ m_s m_past m_kept m_spare m_paid m_pastPaid m_keptPaid m_sparePaid m_isKept m_pasts m_runs m_pad m_typed m_isStopped m_stop m_order m_best m_many m_bySets m_spot m_deeds m_deed) H → va_S A s.heap H locs → lv_has ls 4 [(0, .ref (o 0)), (1, .int a1), (2, .int a2), (3, .int x3)] → W p l e (rmF 2 0 0) s m ([.ref (o 0), .int a1, .int a2] : List Value).toArray below meth c H locs 0 0 Q (F0 m 18 ls []) := by
    intro n18
    induction n18 with
    | zero =>
      intro x3 m_order m_many ls H locs h
      exact absurd (show (none : Option (Int64 × (Nat → Int32) × (Int32))) = some q from h) (by intro h; cases h)
    | succ n18 ih18 =>
      intro x3 m_order m_many ls H locs h hP hS hl
      have h : f_X6_costAt_L18b a1 a2 m_s  (f_X6_costAt_L18 a1 a2 m_s  n18) x3 m_order m_many = some q := h
      unfold f_X6_costAt_L18b at h
      refine lv_iload_n hx hb dX6_costAt_18 rfl (lv_at hl 3 rfl) ?_
      refine lv_aload_n hx hb dX6_costAt_19 rfl (lv_at hl 0 rfl) ?_
      refine va_get (D := D) (ci := 7) (v := .int m_many) (C := RX6) (T := TX6) (N := 22) hx hb hts inlX6 hown hK hP 0 rfl rfl 17 (by decide) (hts _ q_18_8) (fun _ h9 => h9) rfl dX6_costAt_20 ?_
      refine lv_icmp_ge (tgt := 51) hx hb dX6_costAt_23 (by decide) (fun c4 => ?_) (fun c4 => ?_)
      · have h := ift c4 h
        refine lv_aload_n hx hb dX6_costAt_51 rfl (lv_at hl 0 rfl) ?_
        refine lv_iload_n hx hb dX6_costAt_52 rfl (lv_at hl 2 rfl) ?_
        obtain ⟨q5, e5, h⟩ := bnd_some h
        refine f_call (As := [.int a2]) (rest := []) (c_X6_costOf l D o cI cJ a2 m_s m_past m_kept m_spare m_paid m_pastPaid m_keptPaid m_sparePaid m_isKept m_pasts m_runs m_pad m_typed m_isStopped m_stop m_order m_best m_many m_bySets m_spot m_deeds m_deed q5 e5) B hK hDD hA hP hS rfl (va_recv hK hP (ci := 7) (q0 := 0) rfl rfl) k_X6_costOf q_18_14 rfl ⟨Nat.le_of_ble_eq_true rfl, Nat.le_of_ble_eq_true rfl⟩ ⟨Nat.le_refl _, Nat.le_refl _⟩ hl.1 rfl (Nat.le_of_ble_eq_true rfl) dX6_costAt_53 (fun H locs hP hS => ?_)
        obtain rfl := Option.some.inj h
        exact hret _ _ _ _ dX6_costAt_56 hP hS
      · have h := ifn c4 h
        refine lv_aload_n hx hb dX6_costAt_26 rfl (lv_at hl 0 rfl) ?_
        refine va_get (D := D) (ci := 7) (v := .ref (o 11)) (C := RX6) (T := TX6) (N := 22) hx hb hts inlX6 hown hK hP 0 rfl rfl 15 (by decide) (hts _ q_4_15) (fun _ h9 => h9) rfl dX6_costAt_27 ?_
        refine lv_iload_n hx hb dX6_costAt_30 rfl (lv_at hl 3 rfl) ?_
        refine lv_aload_n hx hb dX6_costAt_31 rfl (lv_at hl 0 rfl) ?_
        refine va_get (D := D) (ci := 7) (v := .ref (o 1)) (C := RX6) (T := TX6) (N := 22) hx hb hts inlX6 hown hK hP 0 rfl rfl 0 (by decide) (hts _ q_4_5) (fun _ h9 => h9) rfl dX6_costAt_32 ?_
        refine lv_iload_n hx hb dX6_costAt_35 rfl (lv_at hl 1 rfl) ?_
        obtain ⟨q6, e6, h⟩ := bnd_some h
        refine s_call (As := [.int a1]) (rest := [.ref (o 1), .int x3, .ref (o 11)]) (c_X6_at l a1 q6 e6) B k_X6_at q_11_4 rfl ⟨Nat.le_of_ble_eq_true rfl, Nat.le_of_ble_eq_true rfl⟩ ⟨Nat.le_refl _, Nat.le_refl _⟩ hl.1 rfl (Nat.le_of_ble_eq_true rfl) dX6_costAt_36 ?_
        refine lv_iconst (v := (1 : Int32)) hx hb dX6_costAt_39 (by decide) ?_
        refine lv_iadd hx hb dX6_costAt_40 ?_
        refine lv_iload_n hx hb dX6_costAt_41 rfl (lv_at hl 3 rfl) ?_
        refine lv_iadd hx hb dX6_costAt_42 ?_
        obtain ⟨g7, h⟩ := grd_some h
        refine va_iald hx hb hK hP 1 0 rfl rfl (inb_in g7) dX6_costAt_43 ?_
        obtain ⟨g8, h⟩ := grd_some h
        refine va_iast hx hb hK hP (hDD _ rfl) hS 11 0 rfl rfl (inb_in g8) dX6_costAt_44 (fun H locs hP _ hS => ?_)
        have hP : va_P D vwCl (MW o cI cJ m_s m_past m_kept m_spare m_paid m_pastPaid m_keptPaid m_sparePaid m_isKept m_pasts m_runs m_pad m_typed m_isStopped m_stop (upd m_order x3.toNatClampNeg (m_s ((q6 + (1 : Int32)) + x3).toNatClampNeg)) m_best m_many m_bySets m_spot m_deeds m_deed) H := hP
        refine lv_iinc (v := (x3 + (1 : Int32))) (lv' := [(3, .int (x3 + (1 : Int32))), (0, .ref (o 0)), (1, .int a1), (2, .int a2)]) hx hb dX6_costAt_45 hl (k := 3) rfl (congrArg (HAdd.hAdd x3) (by decide)) (by decide) rfl (fun ls hl => ?_)
        refine lv_goto (tgt := 18) hx hb dX6_costAt_48 (by decide) ?_
        exact ih18 (x3 + (1 : Int32)) (upd m_order x3.toNatClampNeg (m_s ((q6 + (1 : Int32)) + x3).toNatClampNeg)) m_many _ _ _ h hP hS (lv_sub hl [1, 2, 3, 0] rfl)
  unfold f_X6_costAt at h
  refine lv_aload_n hx hb dX6_costAt_0 rfl (lv_at hl 0 rfl) ?_
  refine lv_aload_n hx hb dX6_costAt_1 rfl (lv_at hl 0 rfl) ?_
  refine va_get (D := D) (ci := 7) (v := .ref (o 1)) (C := RX6) (T := TX6) (N := 22) hx hb hts inlX6 hown hK hP 0 rfl rfl 0 (by decide) (hts _ q_4_5) (fun _ h9 => h9) rfl dX6_costAt_2 ?_
  refine lv_iload_n hx hb dX6_costAt_5 rfl (lv_at hl 1 rfl) ?_
  obtain ⟨q1, e1, h⟩ := bnd_some h
  refine s_call (As := [.int a1]) (rest := [.ref (o 1), .ref (o 0)]) (c_X6_at l a1 q1 e1) B k_X6_at q_11_4 rfl ⟨Nat.le_of_ble_eq_true rfl, Nat.le_of_ble_eq_true rfl⟩ ⟨Nat.le_refl _, Nat.le_refl _⟩ hl.1 rfl (Nat.le_of_ble_eq_true rfl) dX6_costAt_6 ?_
  obtain ⟨g2, h⟩ := grd_some h
  refine va_iald hx hb hK hP 1 0 rfl rfl (inb_in g2) dX6_costAt_9 ?_
  obtain ⟨q3, e3, h⟩ := bnd_some h
  refine s_call (As := [.int (m_s q1.toNatClampNeg)]) (rest := [.ref (o 0)]) (c_X6_tablesIn l (m_s q1.toNatClampNeg) q3 e3) B k_X6_tablesIn q_18_1 rfl ⟨Nat.le_of_ble_eq_true rfl, Nat.le_of_ble_eq_true rfl⟩ ⟨Nat.le_refl _, Nat.le_refl _⟩ hl.1 rfl (Nat.le_of_ble_eq_true rfl) dX6_costAt_10 ?_
  refine va_put (D := D) (ci := 7) (v := .int q3) (ty := .int) (C := RX6) (T := TX6) (N := 22) hx hb hts inlX6 tyX6 tyX6_ok nmX6 hown hK hP (hDD _ rfl) hS 0 rfl rfl 17 (by decide) (hts _ q_18_8) (fun _ h9 => h9) rfl (by decide +kernel) rfl rfl (Nat.le_of_ble_eq_true rfl) dX6_costAt_13 (fun H locs hP _ hS => ?_)
  have hP : va_P D vwCl (MW o cI cJ m_s m_past m_kept m_spare m_paid m_pastPaid m_keptPaid m_sparePaid m_isKept m_pasts m_runs m_pad m_typed m_isStopped m_stop m_order m_best q3 m_bySets m_spot m_deeds m_deed) H := hP
  refine lv_iconst (v := (0 : Int32)) hx hb dX6_costAt_16 (by decide) ?_
  refine lv_istore_n (lv' := [(3, .int (0 : Int32)), (0, .ref (o 0)), (1, .int a1), (2, .int a2)]) hx hb dX6_costAt_17 rfl hl (by decide) rfl (fun ls hl => ?_)
  exact hL18 1024 (0 : Int32) m_order q3 _ _ _ h hP hS (lv_sub hl [1, 2, 3, 0] rfl)

def f_X6_hasDrifted_J69 (a1 : Int32) (a2 : Int32) (m_s : Nat → Int32) (k5 : Int32 → Int32 → Option (Int32)) (x3 : Int32) (x4 : Int32) (x7 : Int32) (t0 : Int32) : Option (Int32) :=
  if x3 = (0 : Int32) then bnd (f_X6_at a1 ) (fun q9 => grd (inb q9 100) (if (((m_s q9.toNatClampNeg) >>> (x4 &&& 31)) &&& (1 : Int32)) = (1 : Int32) then if (t0 * (100 : Int32)) ≤ (x7 * a2) then k5 (0 : Int32) (x4 + (1 : Int32))
  else k5 (1 : Int32) (x4 + (1 : Int32))
  else k5 (0 : Int32) (x4 + (1 : Int32))))
  else k5 (1 : Int32) (x4 + (1 : Int32))
def f_X6_hasDrifted_L5b (a1 : Int32) (a2 : Int32) (m_s : Nat → Int32)  (k5 : Int32 → Int32 → Option (Int32)) (x3 : Int32) (x4 : Int32) : Option (Int32) :=
  if (5 : Int32) ≤ x4 then grd (isB x3) (some x3)
  else grd (inb ((5 : Int32) + x4) 100) (bnd (f_X6_at a1 ) (fun q4 => grd (inb ((q4 + (6 : Int32)) + x4) 100) (if (m_s ((q4 + (6 : Int32)) + x4).toNatClampNeg) ≤ (m_s ((5 : Int32) + x4).toNatClampNeg) then if (m_s ((q4 + (6 : Int32)) + x4).toNatClampNeg) ≤ (m_s ((5 : Int32) + x4).toNatClampNeg) then f_X6_hasDrifted_J69 a1 a2 m_s k5 x3 x4 (m_s ((q4 + (6 : Int32)) + x4).toNatClampNeg) (m_s ((5 : Int32) + x4).toNatClampNeg)
  else f_X6_hasDrifted_J69 a1 a2 m_s k5 x3 x4 (m_s ((q4 + (6 : Int32)) + x4).toNatClampNeg) (m_s ((q4 + (6 : Int32)) + x4).toNatClampNeg)
  else if (m_s ((q4 + (6 : Int32)) + x4).toNatClampNeg) ≤ (m_s ((5 : Int32) + x4).toNatClampNeg) then f_X6_hasDrifted_J69 a1 a2 m_s k5 x3 x4 (m_s ((5 : Int32) + x4).toNatClampNeg) (m_s ((5 : Int32) + x4).toNatClampNeg)
  else f_X6_hasDrifted_J69 a1 a2 m_s k5 x3 x4 (m_s ((5 : Int32) + x4).toNatClampNeg) (m_s ((q4 + (6 : Int32)) + x4).toNatClampNeg))))
def f_X6_hasDrifted_L5 (a1 : Int32) (a2 : Int32) (m_s : Nat → Int32)  : Nat → Int32 → Int32 → Option (Int32)
  | 0 => fun _ _ => none
  | n + 1 => f_X6_hasDrifted_L5b a1 a2 m_s  (f_X6_hasDrifted_L5 a1 a2 m_s  n)
def f_X6_hasDrifted (a1 : Int32) (a2 : Int32) (m_s : Nat → Int32) : Option (Int32) :=
  f_X6_hasDrifted_L5 a1 a2 m_s  1024 (0 : Int32) (0 : Int32)
set_option maxRecDepth 100000 in
set_option maxHeartbeats 4000000 in
theorem c_X6_hasDrifted (l : Launch) (D : va_G) (o : Nat → Nat) (cI cJ : ClassId) (a1 : Int32) (a2 : Int32) (m_s : Nat → Int32) (m_past : Nat → Int32) (m_kept : Nat → Int32) (m_spare : Nat → Int32) (m_paid : Nat → Int64) (m_pastPaid : Nat → Int64) (m_keptPaid : Nat → Int64) (m_sparePaid : Nat → Int64) (m_isKept : Int32) (m_pasts : Int32) (m_runs : Int32) (m_pad : Nat → Int32) (m_typed : Int32) (m_isStopped : Int32) (m_stop : Nat → Int32) (m_order : Nat → Int32) (m_best : Nat → Int32) (m_many : Int32) (m_bySets : Nat → Int64) (m_spot : Int32) (m_deeds : Int32) (m_deed : Nat → Int32) (q : Int32) (h : f_X6_hasDrifted a1 a2 m_s = some q) : CF l yX6_hasDrifted cX6_hasDrifted 9 1 (some .boolean) D (tysMW cI cJ) [.ref (o 0), .int a1, .int a2] (some (.int q)) (MW o cI cJ m_s m_past m_kept m_spare m_paid m_pastPaid m_keptPaid m_sparePaid m_isKept m_pasts m_runs m_pad m_typed m_isStopped m_stop m_order m_best m_many m_bySets m_spot m_deeds m_deed) (MW o cI cJ m_s m_past m_kept m_spare m_paid m_pastPaid m_keptPaid m_sparePaid m_isKept m_pasts m_runs m_pad m_typed m_isStopped m_stop m_order m_best m_many m_bySets m_spot m_deeds m_deed) := by
  refine CF.mkI (by decide) (Nat.le_of_ble_eq_true rfl) ?_
  intro p e s m below meth c Q A B hK hDD hA hret hP hS ls hl
  have B0 := B
  obtain ⟨hx, hb, hml, hown, hts⟩ := B0
  have hl : lv_has ls 9 [(0, .ref (o 0)), (1, .int a1), (2, .int a2)] := hl
  have hL5 : ∀ (n5 : Nat) (x3 : Int32) (x4 : Int32) (ls : Array Slot) (H : Heap) (locs : List Loc), f_X6_hasDrifted_L5 a1 a2 m_s  n5 x3 x4 = some q → va_P D vwCl (MW o cI cJ m_s m_past m_kept m_spare m_paid m_pastPaid m_keptPaid m_sparePaid m_isKept m_pasts m_runs m_pad m_typed m_isStopped m_stop m_order m_best m_many m_bySets m_spot m_deeds m_deed) H → va_S A s.heap H locs → lv_has ls 9 [(0, .ref (o 0)), (1, .int a1), (2, .int a2), (3, .int x3), (4, .int x4)] → W p l e (rmF 1 0 0) s m ([.ref (o 0), .int a1, .int a2] : List Value).toArray below meth c H locs 0 0 Q (F0 m 5 ls []) := by
    intro n5
    induction n5 with
    | zero =>
      intro x3 x4 ls H locs h
      exact absurd (show (none : Option (Int32)) = some q from h) (by intro h; cases h)
    | succ n5 ih5 =>
      have hJ69 : ∀ (x3 : Int32) (x4 : Int32) (x7 : Int32) (t0 : Int32) (ls : Array Slot) (H : Heap) (locs : List Loc), f_X6_hasDrifted_J69 a1 a2 m_s (f_X6_hasDrifted_L5 a1 a2 m_s   n5) x3 x4 x7 t0 = some q → va_P D vwCl (MW o cI cJ m_s m_past m_kept m_spare m_paid m_pastPaid m_keptPaid m_sparePaid m_isKept m_pasts m_runs m_pad m_typed m_isStopped m_stop m_order m_best m_many m_bySets m_spot m_deeds m_deed) H → va_S A s.heap H locs → lv_has ls 9 [(0, .ref (o 0)), (1, .int a1), (2, .int a2), (3, .int x3), (4, .int x4), (7, .int x7)] → W p l e (rmF 1 0 0) s m ([.ref (o 0), .int a1, .int a2] : List Value).toArray below meth c H locs 0 0 Q (F0 m 69 ls [.int t0]) := by
        intro x3 x4 x7 t0 ls H locs h hP hS hl
        unfold f_X6_hasDrifted_J69 at h
        refine lv_istore (lv' := [(8, .int t0), (0, .ref (o 0)), (1, .int a1), (2, .int a2), (3, .int x3), (4, .int x4), (7, .int x7)]) hx hb dX6_hasDrifted_69 hl (by decide) rfl (fun ls hl => ?_)
        refine lv_iload_n hx hb dX6_hasDrifted_71 rfl (lv_at hl 4 rfl) ?_
        refine lv_if_ne (tgt := 105) hx hb dX6_hasDrifted_72 (by decide) (fun c8 => ?_) (fun c8 => ?_)
        · have h := ifn c8 h
          refine lv_iconst (v := (1 : Int32)) hx hb dX6_hasDrifted_105 (by decide) ?_
          refine lv_goto (tgt := 110) hx hb dX6_hasDrifted_106 (by decide) ?_
          refine lv_istore_n (lv' := [(3, .int (1 : Int32)), (8, .int t0), (0, .ref (o 0)), (1, .int a1), (2, .int a2), (4, .int x4), (7, .int x7)]) hx hb dX6_hasDrifted_110 rfl hl (by decide) rfl (fun ls hl => ?_)
          refine lv_iinc (v := (x4 + (1 : Int32))) (lv' := [(4, .int (x4 + (1 : Int32))), (3, .int (1 : Int32)), (8, .int t0), (0, .ref (o 0)), (1, .int a1), (2, .int a2), (7, .int x7)]) hx hb dX6_hasDrifted_111 hl (k := 5) rfl (congrArg (HAdd.hAdd x4) (by decide)) (by decide) rfl (fun ls hl => ?_)
          refine lv_goto (tgt := 5) hx hb dX6_hasDrifted_114 (by decide) ?_
          exact ih5 (1 : Int32) (x4 + (1 : Int32)) _ _ _ h hP hS (lv_sub hl [3, 4, 5, 1, 0] rfl)
        · have h := ift c8 h
          refine lv_aload_n hx hb dX6_hasDrifted_75 rfl (lv_at hl 1 rfl) ?_
          refine va_get (D := D) (ci := 7) (v := .ref (o 1)) (C := RX6) (T := TX6) (N := 22) hx hb hts inlX6 hown hK hP 0 rfl rfl 0 (by decide) (hts _ q_4_5) (fun _ h9 => h9) rfl dX6_hasDrifted_76 ?_
          refine lv_iload_n hx hb dX6_hasDrifted_79 rfl (lv_at hl 2 rfl) ?_
          obtain ⟨q9, e9, h⟩ := bnd_some h
          refine s_call (As := [.int a1]) (rest := [.ref (o 1)]) (c_X6_at l a1 q9 e9) B k_X6_at q_11_4 rfl ⟨Nat.le_of_ble_eq_true rfl, Nat.le_of_ble_eq_true rfl⟩ ⟨Nat.le_refl _, Nat.le_refl _⟩ hl.1 rfl (Nat.le_of_ble_eq_true rfl) dX6_hasDrifted_80 ?_
          obtain ⟨g10, h⟩ := grd_some h
          refine va_iald hx hb hK hP 1 0 rfl rfl (inb_in g10) dX6_hasDrifted_83 ?_
          refine lv_iload hx hb dX6_hasDrifted_84 (lv_at hl 5 rfl) ?_
          refine lv_ishr hx hb dX6_hasDrifted_86 ?_
          refine lv_iconst (v := (1 : Int32)) hx hb dX6_hasDrifted_87 (by decide) ?_
          refine lv_iand hx hb dX6_hasDrifted_88 ?_
          refine lv_iconst (v := (1 : Int32)) hx hb dX6_hasDrifted_89 (by decide) ?_
          refine lv_icmp_ne (tgt := 109) hx hb dX6_hasDrifted_90 (by decide) (fun c11 => ?_) (fun c11 => ?_)
          · have h := ifn c11 h
            refine lv_iconst (v := (0 : Int32)) hx hb dX6_hasDrifted_109 (by decide) ?_
            refine lv_istore_n (lv' := [(3, .int (0 : Int32)), (8, .int t0), (0, .ref (o 0)), (1, .int a1), (2, .int a2), (4, .int x4), (7, .int x7)]) hx hb dX6_hasDrifted_110 rfl hl (by decide) rfl (fun ls hl => ?_)
            refine lv_iinc (v := (x4 + (1 : Int32))) (lv' := [(4, .int (x4 + (1 : Int32))), (3, .int (0 : Int32)), (8, .int t0), (0, .ref (o 0)), (1, .int a1), (2, .int a2), (7, .int x7)]) hx hb dX6_hasDrifted_111 hl (k := 5) rfl (congrArg (HAdd.hAdd x4) (by decide)) (by decide) rfl (fun ls hl => ?_)
            refine lv_goto (tgt := 5) hx hb dX6_hasDrifted_114 (by decide) ?_
            exact ih5 (0 : Int32) (x4 + (1 : Int32)) _ _ _ h hP hS (lv_sub hl [3, 4, 5, 1, 0] rfl)
          · have h := ift c11 h
            refine lv_iload hx hb dX6_hasDrifted_93 (lv_at hl 0 rfl) ?_
            refine lv_bipush (v := (100 : Int32)) hx hb dX6_hasDrifted_95 (by decide) ?_
            refine lv_imul hx hb dX6_hasDrifted_97 ?_
            refine lv_iload hx hb dX6_hasDrifted_98 (lv_at hl 6 rfl) ?_
            refine lv_iload_n hx hb dX6_hasDrifted_100 rfl (lv_at hl 3 rfl) ?_
            refine lv_imul hx hb dX6_hasDrifted_101 ?_
            refine lv_icmp_le (tgt := 109) hx hb dX6_hasDrifted_102 (by decide) (fun c12 => ?_) (fun c12 => ?_)
            · have h := ift c12 h
              refine lv_iconst (v := (0 : Int32)) hx hb dX6_hasDrifted_109 (by decide) ?_
              refine lv_istore_n (lv' := [(3, .int (0 : Int32)), (8, .int t0), (0, .ref (o 0)), (1, .int a1), (2, .int a2), (4, .int x4), (7, .int x7)]) hx hb dX6_hasDrifted_110 rfl hl (by decide) rfl (fun ls hl => ?_)
              refine lv_iinc (v := (x4 + (1 : Int32))) (lv' := [(4, .int (x4 + (1 : Int32))), (3, .int (0 : Int32)), (8, .int t0), (0, .ref (o 0)), (1, .int a1), (2, .int a2), (7, .int x7)]) hx hb dX6_hasDrifted_111 hl (k := 5) rfl (congrArg (HAdd.hAdd x4) (by decide)) (by decide) rfl (fun ls hl => ?_)
              refine lv_goto (tgt := 5) hx hb dX6_hasDrifted_114 (by decide) ?_
              exact ih5 (0 : Int32) (x4 + (1 : Int32)) _ _ _ h hP hS (lv_sub hl [3, 4, 5, 1, 0] rfl)
            · have h := ifn c12 h
              refine lv_iconst (v := (1 : Int32)) hx hb dX6_hasDrifted_105 (by decide) ?_
              refine lv_goto (tgt := 110) hx hb dX6_hasDrifted_106 (by decide) ?_
              refine lv_istore_n (lv' := [(3, .int (1 : Int32)), (8, .int t0), (0, .ref (o 0)), (1, .int a1), (2, .int a2), (4, .int x4), (7, .int x7)]) hx hb dX6_hasDrifted_110 rfl hl (by decide) rfl (fun ls hl => ?_)
              refine lv_iinc (v := (x4 + (1 : Int32))) (lv' := [(4, .int (x4 + (1 : Int32))), (3, .int (1 : Int32)), (8, .int t0), (0, .ref (o 0)), (1, .int a1), (2, .int a2), (7, .int x7)]) hx hb dX6_hasDrifted_111 hl (k := 5) rfl (congrArg (HAdd.hAdd x4) (by decide)) (by decide) rfl (fun ls hl => ?_)
              refine lv_goto (tgt := 5) hx hb dX6_hasDrifted_114 (by decide) ?_
              exact ih5 (1 : Int32) (x4 + (1 : Int32)) _ _ _ h hP hS (lv_sub hl [3, 4, 5, 1, 0] rfl)
      intro x3 x4 ls H locs h hP hS hl
      have h : f_X6_hasDrifted_L5b a1 a2 m_s  (f_X6_hasDrifted_L5 a1 a2 m_s  n5) x3 x4 = some q := h
      unfold f_X6_hasDrifted_L5b at h
      refine lv_iload hx hb dX6_hasDrifted_5 (lv_at hl 4 rfl) ?_
      refine lv_iconst (v := (5 : Int32)) hx hb dX6_hasDrifted_7 (by decide) ?_
      refine lv_icmp_ge (tgt := 117) hx hb dX6_hasDrifted_8 (by decide) (fun c1 => ?_) (fun c1 => ?_)
      · have h := ift c1 h
        refine lv_iload_n hx hb dX6_hasDrifted_117 rfl (lv_at hl 3 rfl) ?_
        obtain ⟨g2, h⟩ := grd_some h
        obtain rfl := Option.some.inj h
        exact hret _ _ _ _ (isB_nar g2) dX6_hasDrifted_118 hP hS
      · have h := ifn c1 h
        refine lv_aload_n hx hb dX6_hasDrifted_11 rfl (lv_at hl 0 rfl) ?_
        refine va_get (D := D) (ci := 7) (v := .ref (o 1)) (C := RX6) (T := TX6) (N := 22) hx hb hts inlX6 hown hK hP 0 rfl rfl 0 (by decide) (hts _ q_4_5) (fun _ h9 => h9) rfl dX6_hasDrifted_12 ?_
        refine lv_iconst (v := (5 : Int32)) hx hb dX6_hasDrifted_15 (by decide) ?_
        refine lv_iload hx hb dX6_hasDrifted_16 (lv_at hl 4 rfl) ?_
        refine lv_iadd hx hb dX6_hasDrifted_18 ?_
        obtain ⟨g3, h⟩ := grd_some h
        refine va_iald hx hb hK hP 1 0 rfl rfl (inb_in g3) dX6_hasDrifted_19 ?_
        refine lv_istore (lv' := [(5, .int (m_s ((5 : Int32) + x4).toNatClampNeg)), (0, .ref (o 0)), (1, .int a1), (2, .int a2), (3, .int x3), (4, .int x4)]) hx hb dX6_hasDrifted_20 hl (by decide) rfl (fun ls hl => ?_)
        refine lv_aload_n hx hb dX6_hasDrifted_22 rfl (lv_at hl 1 rfl) ?_
        refine va_get (D := D) (ci := 7) (v := .ref (o 1)) (C := RX6) (T := TX6) (N := 22) hx hb hts inlX6 hown hK hP 0 rfl rfl 0 (by decide) (hts _ q_4_5) (fun _ h9 => h9) rfl dX6_hasDrifted_23 ?_
        refine lv_iload_n hx hb dX6_hasDrifted_26 rfl (lv_at hl 2 rfl) ?_
        obtain ⟨q4, e4, h⟩ := bnd_some h
        refine s_call (As := [.int a1]) (rest := [.ref (o 1)]) (c_X6_at l a1 q4 e4) B k_X6_at q_11_4 rfl ⟨Nat.le_of_ble_eq_true rfl, Nat.le_of_ble_eq_true rfl⟩ ⟨Nat.le_refl _, Nat.le_refl _⟩ hl.1 rfl (Nat.le_of_ble_eq_true rfl) dX6_hasDrifted_27 ?_
        refine lv_bipush (v := (6 : Int32)) hx hb dX6_hasDrifted_30 (by decide) ?_
        refine lv_iadd hx hb dX6_hasDrifted_32 ?_
        refine lv_iload hx hb dX6_hasDrifted_33 (lv_at hl 5 rfl) ?_
        refine lv_iadd hx hb dX6_hasDrifted_35 ?_
        obtain ⟨g5, h⟩ := grd_some h
        refine va_iald hx hb hK hP 1 0 rfl rfl (inb_in g5) dX6_hasDrifted_36 ?_
        refine lv_istore (lv' := [(6, .int (m_s ((q4 + (6 : Int32)) + x4).toNatClampNeg)), (5, .int (m_s ((5 : Int32) + x4).toNatClampNeg)), (0, .ref (o 0)), (1, .int a1), (2, .int a2), (3, .int x3), (4, .int x4)]) hx hb dX6_hasDrifted_37 hl (by decide) rfl (fun ls hl => ?_)
        refine lv_iload hx hb dX6_hasDrifted_39 (lv_at hl 1 rfl) ?_
        refine lv_iload hx hb dX6_hasDrifted_41 (lv_at hl 0 rfl) ?_
        refine lv_icmp_ge (tgt := 51) hx hb dX6_hasDrifted_43 (by decide) (fun c6 => ?_) (fun c6 => ?_)
        · have h := ift c6 h
          refine lv_iload hx hb dX6_hasDrifted_51 (lv_at hl 0 rfl) ?_
          refine lv_istore (lv' := [(7, .int (m_s ((q4 + (6 : Int32)) + x4).toNatClampNeg)), (6, .int (m_s ((q4 + (6 : Int32)) + x4).toNatClampNeg)), (5, .int (m_s ((5 : Int32) + x4).toNatClampNeg)), (0, .ref (o 0)), (1, .int a1), (2, .int a2), (3, .int x3), (4, .int x4)]) hx hb dX6_hasDrifted_53 hl (by decide) rfl (fun ls hl => ?_)
          refine lv_iload hx hb dX6_hasDrifted_55 (lv_at hl 2 rfl) ?_
          refine lv_iload hx hb dX6_hasDrifted_57 (lv_at hl 1 rfl) ?_
          refine lv_icmp_ge (tgt := 67) hx hb dX6_hasDrifted_59 (by decide) (fun c7 => ?_) (fun c7 => ?_)
          · have h := ift c7 h
            refine lv_iload hx hb dX6_hasDrifted_67 (lv_at hl 2 rfl) ?_
            exact hJ69 x3 x4 (m_s ((q4 + (6 : Int32)) + x4).toNatClampNeg) (m_s ((5 : Int32) + x4).toNatClampNeg) _ _ _ h hP hS (lv_sub hl [3, 4, 5, 6, 7, 0] rfl)
          · have h := ifn c7 h
            refine lv_iload hx hb dX6_hasDrifted_62 (lv_at hl 1 rfl) ?_
            refine lv_goto (tgt := 69) hx hb dX6_hasDrifted_64 (by decide) ?_
            exact hJ69 x3 x4 (m_s ((q4 + (6 : Int32)) + x4).toNatClampNeg) (m_s ((q4 + (6 : Int32)) + x4).toNatClampNeg) _ _ _ h hP hS (lv_sub hl [3, 4, 5, 6, 7, 0] rfl)
        · have h := ifn c6 h
          refine lv_iload hx hb dX6_hasDrifted_46 (lv_at hl 1 rfl) ?_
          refine lv_goto (tgt := 53) hx hb dX6_hasDrifted_48 (by decide) ?_
          refine lv_istore (lv' := [(7, .int (m_s ((5 : Int32) + x4).toNatClampNeg)), (6, .int (m_s ((q4 + (6 : Int32)) + x4).toNatClampNeg)), (5, .int (m_s ((5 : Int32) + x4).toNatClampNeg)), (0, .ref (o 0)), (1, .int a1), (2, .int a2), (3, .int x3), (4, .int x4)]) hx hb dX6_hasDrifted_53 hl (by decide) rfl (fun ls hl => ?_)
          refine lv_iload hx hb dX6_hasDrifted_55 (lv_at hl 2 rfl) ?_
          refine lv_iload hx hb dX6_hasDrifted_57 (lv_at hl 1 rfl) ?_
          refine lv_icmp_ge (tgt := 67) hx hb dX6_hasDrifted_59 (by decide) (fun c13 => ?_) (fun c13 => ?_)
          · have h := ift c13 h
            refine lv_iload hx hb dX6_hasDrifted_67 (lv_at hl 2 rfl) ?_
            exact hJ69 x3 x4 (m_s ((5 : Int32) + x4).toNatClampNeg) (m_s ((5 : Int32) + x4).toNatClampNeg) _ _ _ h hP hS (lv_sub hl [3, 4, 5, 6, 7, 0] rfl)
          · have h := ifn c13 h
            refine lv_iload hx hb dX6_hasDrifted_62 (lv_at hl 1 rfl) ?_
            refine lv_goto (tgt := 69) hx hb dX6_hasDrifted_64 (by decide) ?_
            exact hJ69 x3 x4 (m_s ((5 : Int32) + x4).toNatClampNeg) (m_s ((q4 + (6 : Int32)) + x4).toNatClampNeg) _ _ _ h hP hS (lv_sub hl [3, 4, 5, 6, 7, 0] rfl)
  unfold f_X6_hasDrifted at h
  refine lv_iconst (v := (0 : Int32)) hx hb dX6_hasDrifted_0 (by decide) ?_
  refine lv_istore_n (lv' := [(3, .int (0 : Int32)), (0, .ref (o 0)), (1, .int a1), (2, .int a2)]) hx hb dX6_hasDrifted_1 rfl hl (by decide) rfl (fun ls hl => ?_)
  refine lv_iconst (v := (0 : Int32)) hx hb dX6_hasDrifted_2 (by decide) ?_
  refine lv_istore (lv' := [(4, .int (0 : Int32)), (3, .int (0 : Int32)), (0, .ref (o 0)), (1, .int a1), (2, .int a2)]) hx hb dX6_hasDrifted_3 hl (by decide) rfl (fun ls hl => ?_)
  exact hL5 1024 (0 : Int32) (0 : Int32) _ _ _ h hP hS (lv_sub hl [2, 3, 4, 1, 0] rfl)

def f_X6_isLoose (a1 : Int32) (m_s : Nat → Int32) : Option (Int32) :=
  bnd (f_X6_at a1 ) (fun q1 => grd (inb q1 100) (if (m_s q1.toNatClampNeg) ≤ (0 : Int32) then some (0 : Int32)
  else bnd (f_X6_at a1 ) (fun q4 => grd (inb (q4 + (13 : Int32)) 100) (if (m_s (q4 + (13 : Int32)).toNatClampNeg) = (0 : Int32) then some (1 : Int32)
  else some (0 : Int32)))))
set_option maxRecDepth 100000 in
set_option maxHeartbeats 4000000 in
theorem c_X6_isLoose (l : Launch) (D : va_G) (o : Nat → Nat) (cI cJ : ClassId) (a1 : Int32) (m_s : Nat → Int32) (m_past : Nat → Int32) (m_kept : Nat → Int32) (m_spare : Nat → Int32) (m_paid : Nat → Int64) (m_pastPaid : Nat → Int64) (m_keptPaid : Nat → Int64) (m_sparePaid : Nat → Int64) (m_isKept : Int32) (m_pasts : Int32) (m_runs : Int32) (m_pad : Nat → Int32) (m_typed : Int32) (m_isStopped : Int32) (m_stop : Nat → Int32) (m_order : Nat → Int32) (m_best : Nat → Int32) (m_many : Int32) (m_bySets : Nat → Int64) (m_spot : Int32) (m_deeds : Int32) (m_deed : Nat → Int32) (q : Int32) (h : f_X6_isLoose a1 m_s = some q) : CF l yX6_isLoose cX6_isLoose 2 1 (some .boolean) D (tysMW cI cJ) [.ref (o 0), .int a1] (some (.int q)) (MW o cI cJ m_s m_past m_kept m_spare m_paid m_pastPaid m_keptPaid m_sparePaid m_isKept m_pasts m_runs m_pad m_typed m_isStopped m_stop m_order m_best m_many m_bySets m_spot m_deeds m_deed) (MW o cI cJ m_s m_past m_kept m_spare m_paid m_pastPaid m_keptPaid m_sparePaid m_isKept m_pasts m_runs m_pad m_typed m_isStopped m_stop m_order m_best m_many m_bySets m_spot m_deeds m_deed) := by
  refine CF.mkI (by decide) (Nat.le_of_ble_eq_true rfl) ?_
  intro p e s m below meth c Q A B hK hDD hA hret hP hS ls hl
  have B0 := B
  obtain ⟨hx, hb, hml, hown, hts⟩ := B0
  have hl : lv_has ls 2 [(0, .ref (o 0)), (1, .int a1)] := hl
  unfold f_X6_isLoose at h
  refine lv_aload_n hx hb dX6_isLoose_0 rfl (lv_at hl 0 rfl) ?_
  refine va_get (D := D) (ci := 7) (v := .ref (o 1)) (C := RX6) (T := TX6) (N := 22) hx hb hts inlX6 hown hK hP 0 rfl rfl 0 (by decide) (hts _ q_4_5) (fun _ h9 => h9) rfl dX6_isLoose_1 ?_
  refine lv_iload_n hx hb dX6_isLoose_4 rfl (lv_at hl 1 rfl) ?_
  obtain ⟨q1, e1, h⟩ := bnd_some h
  refine s_call (As := [.int a1]) (rest := [.ref (o 1)]) (c_X6_at l a1 q1 e1) B k_X6_at q_11_4 rfl ⟨Nat.le_of_ble_eq_true rfl, Nat.le_of_ble_eq_true rfl⟩ ⟨Nat.le_refl _, Nat.le_refl _⟩ hl.1 rfl (Nat.le_of_ble_eq_true rfl) dX6_isLoose_5 ?_
  obtain ⟨g2, h⟩ := grd_some h
  refine va_iald hx hb hK hP 1 0 rfl rfl (inb_in g2) dX6_isLoose_8 ?_
  refine lv_if_le (tgt := 31) hx hb dX6_isLoose_9 (by decide) (fun c3 => ?_) (fun c3 => ?_)
  · have h := ift c3 h
    refine lv_iconst (v := (0 : Int32)) hx hb dX6_isLoose_31 (by decide) ?_
    obtain rfl := Option.some.inj h
    exact hret _ _ _ _ nb0 dX6_isLoose_32 hP hS
  · have h := ifn c3 h
    refine lv_aload_n hx hb dX6_isLoose_12 rfl (lv_at hl 0 rfl) ?_
    refine va_get (D := D) (ci := 7) (v := .ref (o 1)) (C := RX6) (T := TX6) (N := 22) hx hb hts inlX6 hown hK hP 0 rfl rfl 0 (by decide) (hts _ q_4_5) (fun _ h9 => h9) rfl dX6_isLoose_13 ?_
    refine lv_iload_n hx hb dX6_isLoose_16 rfl (lv_at hl 1 rfl) ?_
    obtain ⟨q4, e4, h⟩ := bnd_some h
    refine s_call (As := [.int a1]) (rest := [.ref (o 1)]) (c_X6_at l a1 q4 e4) B k_X6_at q_11_4 rfl ⟨Nat.le_of_ble_eq_true rfl, Nat.le_of_ble_eq_true rfl⟩ ⟨Nat.le_refl _, Nat.le_refl _⟩ hl.1 rfl (Nat.le_of_ble_eq_true rfl) dX6_isLoose_17 ?_
    refine lv_bipush (v := (13 : Int32)) hx hb dX6_isLoose_20 (by decide) ?_
    refine lv_iadd hx hb dX6_isLoose_22 ?_
    obtain ⟨g5, h⟩ := grd_some h
    refine va_iald hx hb hK hP 1 0 rfl rfl (inb_in g5) dX6_isLoose_23 ?_
    refine lv_if_ne (tgt := 31) hx hb dX6_isLoose_24 (by decide) (fun c6 => ?_) (fun c6 => ?_)
    · have h := ifn c6 h
      refine lv_iconst (v := (0 : Int32)) hx hb dX6_isLoose_31 (by decide) ?_
      obtain rfl := Option.some.inj h
      exact hret _ _ _ _ nb0 dX6_isLoose_32 hP hS
    · have h := ift c6 h
      refine lv_iconst (v := (1 : Int32)) hx hb dX6_isLoose_27 (by decide) ?_
      refine lv_goto (tgt := 32) hx hb dX6_isLoose_28 (by decide) ?_
      obtain rfl := Option.some.inj h
      exact hret _ _ _ _ nb1 dX6_isLoose_32 hP hS

def f_X6_empties_L2b (a1 : Int32)   (k2 : Int32 → (Nat → Int32) → Option ((Nat → Int32))) (x2 : Int32) (m_s : Nat → Int32) : Option ((Nat → Int32)) :=
  if (14 : Int32) ≤ x2 then some m_s
  else bnd (f_X6_at a1 ) (fun q2 => grd (inb (q2 + x2) 100) (k2 (x2 + (1 : Int32)) (upd m_s (q2 + x2).toNatClampNeg (0 : Int32))))
def f_X6_empties_L2 (a1 : Int32)   : Nat → Int32 → (Nat → Int32) → Option ((Nat → Int32))
  | 0 => fun _ _ => none
  | n + 1 => f_X6_empties_L2b a1  (f_X6_empties_L2 a1  n)
def f_X6_empties (a1 : Int32) (m_s : Nat → Int32) : Option ((Nat → Int32)) :=
  f_X6_empties_L2 a1  1024 (0 : Int32) m_s
set_option maxRecDepth 100000 in
set_option maxHeartbeats 4000000 in
theorem c_X6_empties (l : Launch) (D : va_G) (o : Nat → Nat) (cI cJ : ClassId) (a1 : Int32) (m_s : Nat → Int32) (m_past : Nat → Int32) (m_kept : Nat → Int32) (m_spare : Nat → Int32) (m_paid : Nat → Int64) (m_pastPaid : Nat → Int64) (m_keptPaid : Nat → Int64) (m_sparePaid : Nat → Int64) (m_isKept : Int32) (m_pasts : Int32) (m_runs : Int32) (m_pad : Nat → Int32) (m_typed : Int32) (m_isStopped : Int32) (m_stop : Nat → Int32) (m_order : Nat → Int32) (m_best : Nat → Int32) (m_many : Int32) (m_bySets : Nat → Int64) (m_spot : Int32) (m_deeds : Int32) (m_deed : Nat → Int32) (q : (Nat → Int32)) (h : f_X6_empties a1 m_s = some q) : CF l yX6_empties cX6_empties 3 1 none D (tysMW cI cJ) [.ref (o 0), .int a1] none (MW o cI cJ m_s m_past m_kept m_spare m_paid m_pastPaid m_keptPaid m_sparePaid m_isKept m_pasts m_runs m_pad m_typed m_isStopped m_stop m_order m_best m_many m_bySets m_spot m_deeds m_deed) (MW o cI cJ q m_past m_kept m_spare m_paid m_pastPaid m_keptPaid m_sparePaid m_isKept m_pasts m_runs m_pad m_typed m_isStopped m_stop m_order m_best m_many m_bySets m_spot m_deeds m_deed) := by
  refine CF.mkV (by decide) (Nat.le_of_ble_eq_true rfl) ?_
  intro p e s m below meth c Q A B hK hDD hA hret hP hS ls hl
  have B0 := B
  obtain ⟨hx, hb, hml, hown, hts⟩ := B0
  have hl : lv_has ls 3 [(0, .ref (o 0)), (1, .int a1)] := hl
  have hL2 : ∀ (n2 : Nat) (x2 : Int32) (m_s : Nat → Int32) (ls : Array Slot) (H : Heap) (locs : List Loc), f_X6_empties_L2 a1  n2 x2 m_s = some q → va_P D vwCl (MW o cI cJ m_s m_past m_kept m_spare m_paid m_pastPaid m_keptPaid m_sparePaid m_isKept m_pasts m_runs m_pad m_typed m_isStopped m_stop m_order m_best m_many m_bySets m_spot m_deeds m_deed) H → va_S A s.heap H locs → lv_has ls 3 [(0, .ref (o 0)), (1, .int a1), (2, .int x2)] → W p l e (rmF 1 0 0) s m ([.ref (o 0), .int a1] : List Value).toArray below meth c H locs 0 0 Q (F0 m 2 ls []) := by
    intro n2
    induction n2 with
    | zero =>
      intro x2 m_s ls H locs h
      exact absurd (show (none : Option ((Nat → Int32))) = some q from h) (by intro h; cases h)
    | succ n2 ih2 =>
      intro x2 m_s ls H locs h hP hS hl
      have h : f_X6_empties_L2b a1  (f_X6_empties_L2 a1  n2) x2 m_s = some q := h
      unfold f_X6_empties_L2b at h
      refine lv_iload_n hx hb dX6_empties_2 rfl (lv_at hl 2 rfl) ?_
      refine lv_bipush (v := (14 : Int32)) hx hb dX6_empties_3 (by decide) ?_
      refine lv_icmp_ge (tgt := 26) hx hb dX6_empties_5 (by decide) (fun c1 => ?_) (fun c1 => ?_)
      · have h := ift c1 h
        obtain rfl := Option.some.inj h
        exact hret _ _ _ _ dX6_empties_26 hP hS
      · have h := ifn c1 h
        refine lv_aload_n hx hb dX6_empties_8 rfl (lv_at hl 0 rfl) ?_
        refine va_get (D := D) (ci := 7) (v := .ref (o 1)) (C := RX6) (T := TX6) (N := 22) hx hb hts inlX6 hown hK hP 0 rfl rfl 0 (by decide) (hts _ q_4_5) (fun _ h9 => h9) rfl dX6_empties_9 ?_
        refine lv_iload_n hx hb dX6_empties_12 rfl (lv_at hl 1 rfl) ?_
        obtain ⟨q2, e2, h⟩ := bnd_some h
        refine s_call (As := [.int a1]) (rest := [.ref (o 1)]) (c_X6_at l a1 q2 e2) B k_X6_at q_11_4 rfl ⟨Nat.le_of_ble_eq_true rfl, Nat.le_of_ble_eq_true rfl⟩ ⟨Nat.le_refl _, Nat.le_refl _⟩ hl.1 rfl (Nat.le_of_ble_eq_true rfl) dX6_empties_13 ?_
        refine lv_iload_n hx hb dX6_empties_16 rfl (lv_at hl 2 rfl) ?_
        refine lv_iadd hx hb dX6_empties_17 ?_
        refine lv_iconst (v := (0 : Int32)) hx hb dX6_empties_18 (by decide) ?_
        obtain ⟨g3, h⟩ := grd_some h
        refine va_iast hx hb hK hP (hDD _ rfl) hS 1 0 rfl rfl (inb_in g3) dX6_empties_19 (fun H locs hP _ hS => ?_)
        have hP : va_P D vwCl (MW o cI cJ (upd m_s (q2 + x2).toNatClampNeg (0 : Int32)) m_past m_kept m_spare m_paid m_pastPaid m_keptPaid m_sparePaid m_isKept m_pasts m_runs m_pad m_typed m_isStopped m_stop m_order m_best m_many m_bySets m_spot m_deeds m_deed) H := hP
        refine lv_iinc (v := (x2 + (1 : Int32))) (lv' := [(2, .int (x2 + (1 : Int32))), (0, .ref (o 0)), (1, .int a1)]) hx hb dX6_empties_20 hl (k := 2) rfl (congrArg (HAdd.hAdd x2) (by decide)) (by decide) rfl (fun ls hl => ?_)
        refine lv_goto (tgt := 2) hx hb dX6_empties_23 (by decide) ?_
        exact ih2 (x2 + (1 : Int32)) (upd m_s (q2 + x2).toNatClampNeg (0 : Int32)) _ _ _ h hP hS (lv_sub hl [1, 2, 0] rfl)
  unfold f_X6_empties at h
  refine lv_iconst (v := (0 : Int32)) hx hb dX6_empties_0 (by decide) ?_
  refine lv_istore_n (lv' := [(2, .int (0 : Int32)), (0, .ref (o 0)), (1, .int a1)]) hx hb dX6_empties_1 rfl hl (by decide) rfl (fun ls hl => ?_)
  exact hL2 1024 (0 : Int32) m_s _ _ _ h hP hS (lv_sub hl [1, 2, 0] rfl)

def f_X6_throwsOut_L4b    (k4 : Int32 → Int32 → (Nat → Int32) → Option (Int32 × (Nat → Int32))) (x1 : Int32) (x2 : Int32) (m_s : Nat → Int32) : Option (Int32 × (Nat → Int32)) :=
  if (4 : Int32) ≤ x2 then grd (inb (95 : Int32) 100) (grd (inb (95 : Int32) 100) (some (x1, (upd m_s (95 : Int32).toNatClampNeg ((m_s (95 : Int32).toNatClampNeg) + x1)))))
  else bnd (f_X6_isLoose x2 m_s) (fun q4 => if q4 = (0 : Int32) then k4 x1 (x2 + (1 : Int32)) m_s
  else grd (inb (35 : Int32) 100) (bnd (f_X6_hasDrifted x2 (m_s (35 : Int32).toNatClampNeg) m_s) (fun q7 => if q7 = (0 : Int32) then k4 x1 (x2 + (1 : Int32)) m_s
  else bnd (f_X6_empties x2 m_s) (fun q9 => k4 (x1 + (1 : Int32)) (x2 + (1 : Int32)) q9))))
def f_X6_throwsOut_L4    : Nat → Int32 → Int32 → (Nat → Int32) → Option (Int32 × (Nat → Int32))
  | 0 => fun _ _ _ => none
  | n + 1 => f_X6_throwsOut_L4b   (f_X6_throwsOut_L4   n)
def f_X6_throwsOut  (m_s : Nat → Int32) : Option (Int32 × (Nat → Int32)) :=
  f_X6_throwsOut_L4   1024 (0 : Int32) (0 : Int32) m_s
set_option maxRecDepth 100000 in
set_option maxHeartbeats 4000000 in
theorem c_X6_throwsOut (l : Launch) (D : va_G) (o : Nat → Nat) (cI cJ : ClassId)  (m_s : Nat → Int32) (m_past : Nat → Int32) (m_kept : Nat → Int32) (m_spare : Nat → Int32) (m_paid : Nat → Int64) (m_pastPaid : Nat → Int64) (m_keptPaid : Nat → Int64) (m_sparePaid : Nat → Int64) (m_isKept : Int32) (m_pasts : Int32) (m_runs : Int32) (m_pad : Nat → Int32) (m_typed : Int32) (m_isStopped : Int32) (m_stop : Nat → Int32) (m_order : Nat → Int32) (m_best : Nat → Int32) (m_many : Int32) (m_bySets : Nat → Int64) (m_spot : Int32) (m_deeds : Int32) (m_deed : Nat → Int32) (q : Int32 × (Nat → Int32)) (h : f_X6_throwsOut  m_s = some q) : CF l yX6_throwsOut cX6_throwsOut 3 2 (some .int) D (tysMW cI cJ) [.ref (o 0)] (some (.int q.1)) (MW o cI cJ m_s m_past m_kept m_spare m_paid m_pastPaid m_keptPaid m_sparePaid m_isKept m_pasts m_runs m_pad m_typed m_isStopped m_stop m_order m_best m_many m_bySets m_spot m_deeds m_deed) (MW o cI cJ q.2 m_past m_kept m_spare m_paid m_pastPaid m_keptPaid m_sparePaid m_isKept m_pasts m_runs m_pad m_typed m_isStopped m_stop m_order m_best m_many m_bySets m_spot m_deeds m_deed) := by
  refine CF.mkI (by decide) (Nat.le_of_ble_eq_true rfl) ?_
  intro p e s m below meth c Q A B hK hDD hA hret hP hS ls hl
  have B0 := B
  obtain ⟨hx, hb, hml, hown, hts⟩ := B0
  have hl : lv_has ls 3 [(0, .ref (o 0))] := hl
  have hL4 : ∀ (n4 : Nat) (x1 : Int32) (x2 : Int32) (m_s : Nat → Int32) (ls : Array Slot) (H : Heap) (locs : List Loc), f_X6_throwsOut_L4   n4 x1 x2 m_s = some q → va_P D vwCl (MW o cI cJ m_s m_past m_kept m_spare m_paid m_pastPaid m_keptPaid m_sparePaid m_isKept m_pasts m_runs m_pad m_typed m_isStopped m_stop m_order m_best m_many m_bySets m_spot m_deeds m_deed) H → va_S A s.heap H locs → lv_has ls 3 [(0, .ref (o 0)), (1, .int x1), (2, .int x2)] → W p l e (rmF 2 0 0) s m ([.ref (o 0)] : List Value).toArray below meth c H locs 0 0 Q (F0 m 4 ls []) := by
    intro n4
    induction n4 with
    | zero =>
      intro x1 x2 m_s ls H locs h
      exact absurd (show (none : Option (Int32 × (Nat → Int32))) = some q from h) (by intro h; cases h)
    | succ n4 ih4 =>
      intro x1 x2 m_s ls H locs h hP hS hl
      have h : f_X6_throwsOut_L4b   (f_X6_throwsOut_L4   n4) x1 x2 m_s = some q := h
      unfold f_X6_throwsOut_L4b at h
      refine lv_iload_n hx hb dX6_throwsOut_4 rfl (lv_at hl 2 rfl) ?_
      refine lv_iconst (v := (4 : Int32)) hx hb dX6_throwsOut_5 (by decide) ?_
      refine lv_icmp_ge (tgt := 46) hx hb dX6_throwsOut_6 (by decide) (fun c1 => ?_) (fun c1 => ?_)
      · have h := ift c1 h
        refine lv_aload_n hx hb dX6_throwsOut_46 rfl (lv_at hl 0 rfl) ?_
        refine va_get (D := D) (ci := 7) (v := .ref (o 1)) (C := RX6) (T := TX6) (N := 22) hx hb hts inlX6 hown hK hP 0 rfl rfl 0 (by decide) (hts _ q_4_5) (fun _ h9 => h9) rfl dX6_throwsOut_47 ?_
        refine lv_bipush (v := (95 : Int32)) hx hb dX6_throwsOut_50 (by decide) ?_
        refine lv_dup2_11 hx hb dX6_throwsOut_52 rfl rfl ?_
        obtain ⟨g2, h⟩ := grd_some h
        refine va_iald hx hb hK hP 1 0 rfl rfl (inb_in g2) dX6_throwsOut_53 ?_
        refine lv_iload_n hx hb dX6_throwsOut_54 rfl (lv_at hl 1 rfl) ?_
        refine lv_iadd hx hb dX6_throwsOut_55 ?_
        obtain ⟨g3, h⟩ := grd_some h
        refine va_iast hx hb hK hP (hDD _ rfl) hS 1 0 rfl rfl (inb_in g3) dX6_throwsOut_56 (fun H locs hP _ hS => ?_)
        have hP : va_P D vwCl (MW o cI cJ (upd m_s (95 : Int32).toNatClampNeg ((m_s (95 : Int32).toNatClampNeg) + x1)) m_past m_kept m_spare m_paid m_pastPaid m_keptPaid m_sparePaid m_isKept m_pasts m_runs m_pad m_typed m_isStopped m_stop m_order m_best m_many m_bySets m_spot m_deeds m_deed) H := hP
        refine lv_iload_n hx hb dX6_throwsOut_57 rfl (lv_at hl 1 rfl) ?_
        obtain rfl := Option.some.inj h
        exact hret _ _ _ _ (vp_nar_int _) dX6_throwsOut_58 hP hS
      · have h := ifn c1 h
        refine lv_aload_n hx hb dX6_throwsOut_9 rfl (lv_at hl 0 rfl) ?_
        refine lv_iload_n hx hb dX6_throwsOut_10 rfl (lv_at hl 2 rfl) ?_
        obtain ⟨q4, e4, h⟩ := bnd_some h
        refine f_call (As := [.int x2]) (rest := []) (c_X6_isLoose l D o cI cJ x2 m_s m_past m_kept m_spare m_paid m_pastPaid m_keptPaid m_sparePaid m_isKept m_pasts m_runs m_pad m_typed m_isStopped m_stop m_order m_best m_many m_bySets m_spot m_deeds m_deed q4 e4) B hK hDD hA hP hS rfl (va_recv hK hP (ci := 7) (q0 := 0) rfl rfl) k_X6_isLoose q_11_0 rfl ⟨Nat.le_of_ble_eq_true rfl, Nat.le_of_ble_eq_true rfl⟩ ⟨Nat.le_refl _, Nat.le_refl _⟩ hl.1 rfl (Nat.le_of_ble_eq_true rfl) dX6_throwsOut_11 (fun H locs hP hS => ?_)
        refine lv_if_eq (tgt := 40) hx hb dX6_throwsOut_14 (by decide) (fun c5 => ?_) (fun c5 => ?_)
        · have h := ift c5 h
          refine lv_iinc (v := (x2 + (1 : Int32))) (lv' := [(2, .int (x2 + (1 : Int32))), (0, .ref (o 0)), (1, .int x1)]) hx hb dX6_throwsOut_40 hl (k := 2) rfl (congrArg (HAdd.hAdd x2) (by decide)) (by decide) rfl (fun ls hl => ?_)
          refine lv_goto (tgt := 4) hx hb dX6_throwsOut_43 (by decide) ?_
          exact ih4 x1 (x2 + (1 : Int32)) m_s _ _ _ h hP hS (lv_sub hl [1, 2, 0] rfl)
        · have h := ifn c5 h
          refine lv_aload_n hx hb dX6_throwsOut_17 rfl (lv_at hl 0 rfl) ?_
          refine lv_iload_n hx hb dX6_throwsOut_18 rfl (lv_at hl 2 rfl) ?_
          refine lv_aload_n hx hb dX6_throwsOut_19 rfl (lv_at hl 0 rfl) ?_
          refine va_get (D := D) (ci := 7) (v := .ref (o 1)) (C := RX6) (T := TX6) (N := 22) hx hb hts inlX6 hown hK hP 0 rfl rfl 0 (by decide) (hts _ q_4_5) (fun _ h9 => h9) rfl dX6_throwsOut_20 ?_
          refine lv_bipush (v := (35 : Int32)) hx hb dX6_throwsOut_23 (by decide) ?_
          obtain ⟨g6, h⟩ := grd_some h
          refine va_iald hx hb hK hP 1 0 rfl rfl (inb_in g6) dX6_throwsOut_25 ?_
          obtain ⟨q7, e7, h⟩ := bnd_some h
          refine f_call (As := [.int x2, .int (m_s (35 : Int32).toNatClampNeg)]) (rest := []) (c_X6_hasDrifted l D o cI cJ x2 (m_s (35 : Int32).toNatClampNeg) m_s m_past m_kept m_spare m_paid m_pastPaid m_keptPaid m_sparePaid m_isKept m_pasts m_runs m_pad m_typed m_isStopped m_stop m_order m_best m_many m_bySets m_spot m_deeds m_deed q7 e7) B hK hDD hA hP hS rfl (va_recv hK hP (ci := 7) (q0 := 0) rfl rfl) k_X6_hasDrifted q_12_20 rfl ⟨Nat.le_of_ble_eq_true rfl, Nat.le_of_ble_eq_true rfl⟩ ⟨Nat.le_refl _, Nat.le_refl _⟩ hl.1 rfl (Nat.le_of_ble_eq_true rfl) dX6_throwsOut_26 (fun H locs hP hS => ?_)
          refine lv_if_eq (tgt := 40) hx hb dX6_throwsOut_29 (by decide) (fun c8 => ?_) (fun c8 => ?_)
          · have h := ift c8 h
            refine lv_iinc (v := (x2 + (1 : Int32))) (lv' := [(2, .int (x2 + (1 : Int32))), (0, .ref (o 0)), (1, .int x1)]) hx hb dX6_throwsOut_40 hl (k := 2) rfl (congrArg (HAdd.hAdd x2) (by decide)) (by decide) rfl (fun ls hl => ?_)
            refine lv_goto (tgt := 4) hx hb dX6_throwsOut_43 (by decide) ?_
            exact ih4 x1 (x2 + (1 : Int32)) m_s _ _ _ h hP hS (lv_sub hl [1, 2, 0] rfl)
          · have h := ifn c8 h
            refine lv_aload_n hx hb dX6_throwsOut_32 rfl (lv_at hl 0 rfl) ?_
            refine lv_iload_n hx hb dX6_throwsOut_33 rfl (lv_at hl 2 rfl) ?_
            obtain ⟨q9, e9, h⟩ := bnd_some h
            refine f_call (As := [.int x2]) (rest := []) (c_X6_empties l D o cI cJ x2 m_s m_past m_kept m_spare m_paid m_pastPaid m_keptPaid m_sparePaid m_isKept m_pasts m_runs m_pad m_typed m_isStopped m_stop m_order m_best m_many m_bySets m_spot m_deeds m_deed q9 e9) B hK hDD hA hP hS rfl (va_recv hK hP (ci := 7) (q0 := 0) rfl rfl) k_X6_empties q_11_7 rfl ⟨Nat.le_of_ble_eq_true rfl, Nat.le_of_ble_eq_true rfl⟩ ⟨Nat.le_refl _, Nat.le_refl _⟩ hl.1 rfl (Nat.le_of_ble_eq_true rfl) dX6_throwsOut_34 (fun H locs hP hS => ?_)
            refine lv_iinc (v := (x1 + (1 : Int32))) (lv' := [(1, .int (x1 + (1 : Int32))), (0, .ref (o 0)), (2, .int x2)]) hx hb dX6_throwsOut_37 hl (k := 1) rfl (congrArg (HAdd.hAdd x1) (by decide)) (by decide) rfl (fun ls hl => ?_)
            refine lv_iinc (v := (x2 + (1 : Int32))) (lv' := [(2, .int (x2 + (1 : Int32))), (1, .int (x1 + (1 : Int32))), (0, .ref (o 0))]) hx hb dX6_throwsOut_40 hl (k := 2) rfl (congrArg (HAdd.hAdd x2) (by decide)) (by decide) rfl (fun ls hl => ?_)
            refine lv_goto (tgt := 4) hx hb dX6_throwsOut_43 (by decide) ?_
            exact ih4 (x1 + (1 : Int32)) (x2 + (1 : Int32)) q9 _ _ _ h hP hS (lv_sub hl [2, 1, 0] rfl)
  unfold f_X6_throwsOut at h
  refine lv_iconst (v := (0 : Int32)) hx hb dX6_throwsOut_0 (by decide) ?_
  refine lv_istore_n (lv' := [(1, .int (0 : Int32)), (0, .ref (o 0))]) hx hb dX6_throwsOut_1 rfl hl (by decide) rfl (fun ls hl => ?_)
  refine lv_iconst (v := (0 : Int32)) hx hb dX6_throwsOut_2 (by decide) ?_
  refine lv_istore_n (lv' := [(2, .int (0 : Int32)), (1, .int (0 : Int32)), (0, .ref (o 0))]) hx hb dX6_throwsOut_3 rfl hl (by decide) rfl (fun ls hl => ?_)
  exact hL4 1024 (0 : Int32) (0 : Int32) m_s _ _ _ h hP hS (lv_sub hl [2, 1, 0] rfl)

def f_X6_counts (a1 : Int32) (m_s : Nat → Int32) : Option (Int32 × (Nat → Int32)) :=
  grd (inb ((0 : Int32) + a1) 100) (grd (inb ((5 : Int32) + a1) 100) (bnd (f_X6_throwsOut  (upd m_s ((5 : Int32) + a1).toNatClampNeg (m_s ((0 : Int32) + a1).toNatClampNeg))) (fun q3 => some (q3.1, q3.2))))
set_option maxRecDepth 100000 in
set_option maxHeartbeats 4000000 in
theorem c_X6_counts (l : Launch) (D : va_G) (o : Nat → Nat) (cI cJ : ClassId) (a1 : Int32) (m_s : Nat → Int32) (m_past : Nat → Int32) (m_kept : Nat → Int32) (m_spare : Nat → Int32) (m_paid : Nat → Int64) (m_pastPaid : Nat → Int64) (m_keptPaid : Nat → Int64) (m_sparePaid : Nat → Int64) (m_isKept : Int32) (m_pasts : Int32) (m_runs : Int32) (m_pad : Nat → Int32) (m_typed : Int32) (m_isStopped : Int32) (m_stop : Nat → Int32) (m_order : Nat → Int32) (m_best : Nat → Int32) (m_many : Int32) (m_bySets : Nat → Int64) (m_spot : Int32) (m_deeds : Int32) (m_deed : Nat → Int32) (q : Int32 × (Nat → Int32)) (h : f_X6_counts a1 m_s = some q) : CF l yX6_counts cX6_counts 2 3 (some .int) D (tysMW cI cJ) [.ref (o 0), .int a1] (some (.int q.1)) (MW o cI cJ m_s m_past m_kept m_spare m_paid m_pastPaid m_keptPaid m_sparePaid m_isKept m_pasts m_runs m_pad m_typed m_isStopped m_stop m_order m_best m_many m_bySets m_spot m_deeds m_deed) (MW o cI cJ q.2 m_past m_kept m_spare m_paid m_pastPaid m_keptPaid m_sparePaid m_isKept m_pasts m_runs m_pad m_typed m_isStopped m_stop m_order m_best m_many m_bySets m_spot m_deeds m_deed) := by
  refine CF.mkI (by decide) (Nat.le_of_ble_eq_true rfl) ?_
  intro p e s m below meth c Q A B hK hDD hA hret hP hS ls hl
  have B0 := B
  obtain ⟨hx, hb, hml, hown, hts⟩ := B0
  have hl : lv_has ls 2 [(0, .ref (o 0)), (1, .int a1)] := hl
  unfold f_X6_counts at h
  refine lv_aload_n hx hb dX6_counts_0 rfl (lv_at hl 0 rfl) ?_
  refine va_get (D := D) (ci := 7) (v := .ref (o 1)) (C := RX6) (T := TX6) (N := 22) hx hb hts inlX6 hown hK hP 0 rfl rfl 0 (by decide) (hts _ q_4_5) (fun _ h9 => h9) rfl dX6_counts_1 ?_
  refine lv_iconst (v := (5 : Int32)) hx hb dX6_counts_4 (by decide) ?_
  refine lv_iload_n hx hb dX6_counts_5 rfl (lv_at hl 1 rfl) ?_
  refine lv_iadd hx hb dX6_counts_6 ?_
  refine lv_aload_n hx hb dX6_counts_7 rfl (lv_at hl 0 rfl) ?_
  refine va_get (D := D) (ci := 7) (v := .ref (o 1)) (C := RX6) (T := TX6) (N := 22) hx hb hts inlX6 hown hK hP 0 rfl rfl 0 (by decide) (hts _ q_4_5) (fun _ h9 => h9) rfl dX6_counts_8 ?_
  refine lv_iconst (v := (0 : Int32)) hx hb dX6_counts_11 (by decide) ?_
  refine lv_iload_n hx hb dX6_counts_12 rfl (lv_at hl 1 rfl) ?_
  refine lv_iadd hx hb dX6_counts_13 ?_
  obtain ⟨g1, h⟩ := grd_some h
  refine va_iald hx hb hK hP 1 0 rfl rfl (inb_in g1) dX6_counts_14 ?_
  obtain ⟨g2, h⟩ := grd_some h
  refine va_iast hx hb hK hP (hDD _ rfl) hS 1 0 rfl rfl (inb_in g2) dX6_counts_15 (fun H locs hP _ hS => ?_)
  have hP : va_P D vwCl (MW o cI cJ (upd m_s ((5 : Int32) + a1).toNatClampNeg (m_s ((0 : Int32) + a1).toNatClampNeg)) m_past m_kept m_spare m_paid m_pastPaid m_keptPaid m_sparePaid m_isKept m_pasts m_runs m_pad m_typed m_isStopped m_stop m_order m_best m_many m_bySets m_spot m_deeds m_deed) H := hP
  refine lv_aload_n hx hb dX6_counts_16 rfl (lv_at hl 0 rfl) ?_
  obtain ⟨q3, e3, h⟩ := bnd_some h
  refine f_call (As := []) (rest := []) (c_X6_throwsOut l D o cI cJ  (upd m_s ((5 : Int32) + a1).toNatClampNeg (m_s ((0 : Int32) + a1).toNatClampNeg)) m_past m_kept m_spare m_paid m_pastPaid m_keptPaid m_sparePaid m_isKept m_pasts m_runs m_pad m_typed m_isStopped m_stop m_order m_best m_many m_bySets m_spot m_deeds m_deed q3 e3) B hK hDD hA hP hS rfl (va_recv hK hP (ci := 7) (q0 := 0) rfl rfl) k_X6_throwsOut q_12_16 rfl ⟨Nat.le_of_ble_eq_true rfl, Nat.le_of_ble_eq_true rfl⟩ ⟨Nat.le_refl _, Nat.le_refl _⟩ hl.1 rfl (Nat.le_of_ble_eq_true rfl) dX6_counts_17 (fun H locs hP hS => ?_)
  obtain rfl := Option.some.inj h
  exact hret _ _ _ _ (vp_nar_int _) dX6_counts_20 hP hS

def f_X6_rows (a1 : Int32) (a2 : Int32) (m_s : Nat → Int32) (m_past : Nat → Int32) (m_paid : Nat → Int64) (m_pastPaid : Nat → Int64) (m_pasts : Int32) (m_runs : Int32) : Option (Int32 × (Nat → Int32) × (Nat → Int32) × (Nat → Int64) × (Int32)) :=
  bnd (f_X6_isTable a1 ) (fun q1 => if q1 = (0 : Int32) then some ((-1 : Int32), m_s, m_past, m_pastPaid, m_pasts)
  else bnd (f_X6_in a2 (1 : Int32) (500 : Int32) ) (fun q3 => if q3 = (0 : Int32) then some ((-1 : Int32), m_s, m_past, m_pastPaid, m_pasts)
  else bnd (f_X6_changes  m_s m_past m_paid m_pastPaid m_pasts m_runs) (fun q5 => grd (inb ((0 : Int32) + a1) 100) (grd (inb ((0 : Int32) + a1) 100) (some ((m_s ((0 : Int32) + a1).toNatClampNeg), (upd m_s ((0 : Int32) + a1).toNatClampNeg a2), q5.1, q5.2.1, q5.2.2))))))
set_option maxRecDepth 100000 in
set_option maxHeartbeats 4000000 in
theorem c_X6_rows (l : Launch) (D : va_G) (o : Nat → Nat) (cI cJ : ClassId) (a1 : Int32) (a2 : Int32) (m_s : Nat → Int32) (m_past : Nat → Int32) (m_kept : Nat → Int32) (m_spare : Nat → Int32) (m_paid : Nat → Int64) (m_pastPaid : Nat → Int64) (m_keptPaid : Nat → Int64) (m_sparePaid : Nat → Int64) (m_isKept : Int32) (m_pasts : Int32) (m_runs : Int32) (m_pad : Nat → Int32) (m_typed : Int32) (m_isStopped : Int32) (m_stop : Nat → Int32) (m_order : Nat → Int32) (m_best : Nat → Int32) (m_many : Int32) (m_bySets : Nat → Int64) (m_spot : Int32) (m_deeds : Int32) (m_deed : Nat → Int32) (q : Int32 × (Nat → Int32) × (Nat → Int32) × (Nat → Int64) × (Int32)) (h : f_X6_rows a1 a2 m_s m_past m_paid m_pastPaid m_pasts m_runs = some q) : CF l yX6_rows cX6_rows 4 2 (some .int) D (tysMW cI cJ) [.ref (o 0), .int a1, .int a2] (some (.int q.1)) (MW o cI cJ m_s m_past m_kept m_spare m_paid m_pastPaid m_keptPaid m_sparePaid m_isKept m_pasts m_runs m_pad m_typed m_isStopped m_stop m_order m_best m_many m_bySets m_spot m_deeds m_deed) (MW o cI cJ q.2.1 q.2.2.1 m_kept m_spare m_paid q.2.2.2.1 m_keptPaid m_sparePaid m_isKept q.2.2.2.2 m_runs m_pad m_typed m_isStopped m_stop m_order m_best m_many m_bySets m_spot m_deeds m_deed) := by
  refine CF.mkI (by decide) (Nat.le_of_ble_eq_true rfl) ?_
  intro p e s m below meth c Q A B hK hDD hA hret hP hS ls hl
  have B0 := B
  obtain ⟨hx, hb, hml, hown, hts⟩ := B0
  have hl : lv_has ls 4 [(0, .ref (o 0)), (1, .int a1), (2, .int a2)] := hl
  unfold f_X6_rows at h
  refine lv_iload_n hx hb dX6_rows_0 rfl (lv_at hl 1 rfl) ?_
  obtain ⟨q1, e1, h⟩ := bnd_some h
  refine s_call (As := [.int a1]) (rest := []) (c_X6_isTable l a1 q1 e1) B k_X6_isTable q_9_12 rfl ⟨Nat.le_of_ble_eq_true rfl, Nat.le_of_ble_eq_true rfl⟩ ⟨Nat.le_refl _, Nat.le_refl _⟩ hl.1 rfl (Nat.le_of_ble_eq_true rfl) dX6_rows_1 ?_
  refine lv_if_eq (tgt := 18) hx hb dX6_rows_4 (by decide) (fun c2 => ?_) (fun c2 => ?_)
  · have h := ift c2 h
    refine lv_iconst (v := (-1 : Int32)) hx hb dX6_rows_18 (by decide) ?_
    obtain rfl := Option.some.inj h
    exact hret _ _ _ _ (vp_nar_int _) dX6_rows_19 hP hS
  · have h := ifn c2 h
    refine lv_iload_n hx hb dX6_rows_7 rfl (lv_at hl 2 rfl) ?_
    refine lv_iconst (v := (1 : Int32)) hx hb dX6_rows_8 (by decide) ?_
    refine lv_sipush (v := (500 : Int32)) hx hb dX6_rows_9 (by decide) ?_
    obtain ⟨q3, e3, h⟩ := bnd_some h
    refine s_call (As := [.int a2, .int (1 : Int32), .int (500 : Int32)]) (rest := []) (c_X6_in l a2 (1 : Int32) (500 : Int32) q3 e3) B k_X6_in q_9_15 rfl ⟨Nat.le_of_ble_eq_true rfl, Nat.le_of_ble_eq_true rfl⟩ ⟨Nat.le_refl _, Nat.le_refl _⟩ hl.1 rfl (Nat.le_of_ble_eq_true rfl) dX6_rows_12 ?_
    refine lv_if_ne (tgt := 20) hx hb dX6_rows_15 (by decide) (fun c4 => ?_) (fun c4 => ?_)
    · have h := ifn c4 h
      refine lv_aload_n hx hb dX6_rows_20 rfl (lv_at hl 0 rfl) ?_
      obtain ⟨q5, e5, h⟩ := bnd_some h
      refine f_call (As := []) (rest := []) (c_X6_changes l D o cI cJ  m_s m_past m_kept m_spare m_paid m_pastPaid m_keptPaid m_sparePaid m_isKept m_pasts m_runs m_pad m_typed m_isStopped m_stop m_order m_best m_many m_bySets m_spot m_deeds m_deed q5 e5) B hK hDD hA hP hS rfl (va_recv hK hP (ci := 7) (q0 := 0) rfl rfl) k_X6_changes q_9_18 rfl ⟨Nat.le_of_ble_eq_true rfl, Nat.le_of_ble_eq_true rfl⟩ ⟨Nat.le_refl _, Nat.le_refl _⟩ hl.1 rfl (Nat.le_of_ble_eq_true rfl) dX6_rows_21 (fun H locs hP hS => ?_)
      refine lv_aload_n hx hb dX6_rows_24 rfl (lv_at hl 0 rfl) ?_
      refine va_get (D := D) (ci := 7) (v := .ref (o 1)) (C := RX6) (T := TX6) (N := 22) hx hb hts inlX6 hown hK hP 0 rfl rfl 0 (by decide) (hts _ q_4_5) (fun _ h9 => h9) rfl dX6_rows_25 ?_
      refine lv_iconst (v := (0 : Int32)) hx hb dX6_rows_28 (by decide) ?_
      refine lv_iload_n hx hb dX6_rows_29 rfl (lv_at hl 1 rfl) ?_
      refine lv_iadd hx hb dX6_rows_30 ?_
      obtain ⟨g6, h⟩ := grd_some h
      refine va_iald hx hb hK hP 1 0 rfl rfl (inb_in g6) dX6_rows_31 ?_
      refine lv_istore_n (lv' := [(3, .int (m_s ((0 : Int32) + a1).toNatClampNeg)), (0, .ref (o 0)), (1, .int a1), (2, .int a2)]) hx hb dX6_rows_32 rfl hl (by decide) rfl (fun ls hl => ?_)
      refine lv_aload_n hx hb dX6_rows_33 rfl (lv_at hl 1 rfl) ?_
      refine va_get (D := D) (ci := 7) (v := .ref (o 1)) (C := RX6) (T := TX6) (N := 22) hx hb hts inlX6 hown hK hP 0 rfl rfl 0 (by decide) (hts _ q_4_5) (fun _ h9 => h9) rfl dX6_rows_34 ?_
      refine lv_iconst (v := (0 : Int32)) hx hb dX6_rows_37 (by decide) ?_
      refine lv_iload_n hx hb dX6_rows_38 rfl (lv_at hl 2 rfl) ?_
      refine lv_iadd hx hb dX6_rows_39 ?_
      refine lv_iload_n hx hb dX6_rows_40 rfl (lv_at hl 3 rfl) ?_
      obtain ⟨g7, h⟩ := grd_some h
      refine va_iast hx hb hK hP (hDD _ rfl) hS 1 0 rfl rfl (inb_in g7) dX6_rows_41 (fun H locs hP _ hS => ?_)
      have hP : va_P D vwCl (MW o cI cJ (upd m_s ((0 : Int32) + a1).toNatClampNeg a2) q5.1 m_kept m_spare m_paid q5.2.1 m_keptPaid m_sparePaid m_isKept q5.2.2 m_runs m_pad m_typed m_isStopped m_stop m_order m_best m_many m_bySets m_spot m_deeds m_deed) H := hP
      refine lv_iload_n hx hb dX6_rows_42 rfl (lv_at hl 0 rfl) ?_
      obtain rfl := Option.some.inj h
      exact hret _ _ _ _ (vp_nar_int _) dX6_rows_43 hP hS
    · have h := ift c4 h
      refine lv_iconst (v := (-1 : Int32)) hx hb dX6_rows_18 (by decide) ?_
      obtain rfl := Option.some.inj h
      exact hret _ _ _ _ (vp_nar_int _) dX6_rows_19 hP hS

def f_X6_part_L78b (a1 : Int32) (a2 : Int32) (a3 : Int32) (m_paid : Nat → Int64) (m_runs : Int32)  (k78 : Int32 → Int32 → Int32 → (Nat → Int32) → (Nat → Int32) → (Nat → Int64) → Int32 → Option (Int32 × (Nat → Int32) × (Nat → Int32) × (Nat → Int64) × (Int32))) (x4 : Int32) (x5 : Int32) (x6 : Int32) (m_s : Nat → Int32) (m_past : Nat → Int32) (m_pastPaid : Nat → Int64) (m_pasts : Int32) : Option (Int32 × (Nat → Int32) × (Nat → Int32) × (Nat → Int64) × (Int32)) :=
  if (4 : Int32) ≤ x6 then grd (inb (97 : Int32) 100) (grd (inb (97 : Int32) 100) (some (x5, (upd m_s (97 : Int32).toNatClampNeg ((m_s (97 : Int32).toNatClampNeg) + x5)), m_past, m_pastPaid, m_pasts)))
  else bnd (f_X6_isLoose x6 m_s) (fun q14 => if q14 = (0 : Int32) then k78 x4 x5 (x6 + (1 : Int32)) m_s m_past m_pastPaid m_pasts
  else bnd (f_X6_at x6 ) (fun q16 => grd (inb q16 100) (if ((m_s q16.toNatClampNeg) &&& x4) = x4 then bnd (f_X6_empties x6 m_s) (fun q19 => k78 x4 (x5 + (1 : Int32)) (x6 + (1 : Int32)) q19 m_past m_pastPaid m_pasts)
  else k78 x4 x5 (x6 + (1 : Int32)) m_s m_past m_pastPaid m_pasts)))
def f_X6_part_L78 (a1 : Int32) (a2 : Int32) (a3 : Int32) (m_paid : Nat → Int64) (m_runs : Int32)  : Nat → Int32 → Int32 → Int32 → (Nat → Int32) → (Nat → Int32) → (Nat → Int64) → Int32 → Option (Int32 × (Nat → Int32) × (Nat → Int32) × (Nat → Int64) × (Int32))
  | 0 => fun _ _ _ _ _ _ _ => none
  | n + 1 => f_X6_part_L78b a1 a2 a3 m_paid m_runs  (f_X6_part_L78 a1 a2 a3 m_paid m_runs  n)
def f_X6_part (a1 : Int32) (a2 : Int32) (a3 : Int32) (m_s : Nat → Int32) (m_past : Nat → Int32) (m_paid : Nat → Int64) (m_pastPaid : Nat → Int64) (m_pasts : Int32) (m_runs : Int32) : Option (Int32 × (Nat → Int32) × (Nat → Int32) × (Nat → Int64) × (Int32)) :=
  bnd (f_X6_isTable a1 ) (fun q1 => if q1 = (0 : Int32) then some ((-1 : Int32), m_s, m_past, m_pastPaid, m_pasts)
  else bnd (f_X6_isTable a2 ) (fun q3 => if q3 = (0 : Int32) then some ((-1 : Int32), m_s, m_past, m_pastPaid, m_pasts)
  else if a1 = a2 then some ((-1 : Int32), m_s, m_past, m_pastPaid, m_pasts)
  else bnd (f_X6_in a3 (1 : Int32) (100 : Int32) ) (fun q6 => if q6 = (0 : Int32) then some ((-1 : Int32), m_s, m_past, m_pastPaid, m_pasts)
  else bnd (f_X6_changes  m_s m_past m_paid m_pastPaid m_pasts m_runs) (fun q8 => grd (inb (((10 : Int32) + ((5 : Int32) * a1)) + a2) 100) (grd (inb (((10 : Int32) + ((5 : Int32) * a2)) + a1) 100) (f_X6_part_L78 a1 a2 a3 m_paid m_runs  1024 (((1 : Int32) <<< (a1 &&& 31)) ||| ((1 : Int32) <<< (a2 &&& 31))) (0 : Int32) (0 : Int32) (upd (upd m_s (((10 : Int32) + ((5 : Int32) * a1)) + a2).toNatClampNeg a3) (((10 : Int32) + ((5 : Int32) * a2)) + a1).toNatClampNeg a3) q8.1 q8.2.1 q8.2.2))))))
set_option maxRecDepth 100000 in
set_option maxHeartbeats 4000000 in
theorem c_X6_part (l : Launch) (D : va_G) (o : Nat → Nat) (cI cJ : ClassId) (a1 : Int32) (a2 : Int32) (a3 : Int32) (m_s : Nat → Int32) (m_past : Nat → Int32) (m_kept : Nat → Int32) (m_spare : Nat → Int32) (m_paid : Nat → Int64) (m_pastPaid : Nat → Int64) (m_keptPaid : Nat → Int64) (m_sparePaid : Nat → Int64) (m_isKept : Int32) (m_pasts : Int32) (m_runs : Int32) (m_pad : Nat → Int32) (m_typed : Int32) (m_isStopped : Int32) (m_stop : Nat → Int32) (m_order : Nat → Int32) (m_best : Nat → Int32) (m_many : Int32) (m_bySets : Nat → Int64) (m_spot : Int32) (m_deeds : Int32) (m_deed : Nat → Int32) (q : Int32 × (Nat → Int32) × (Nat → Int32) × (Nat → Int64) × (Int32)) (h : f_X6_part a1 a2 a3 m_s m_past m_paid m_pastPaid m_pasts m_runs = some q) : CF l yX6_part cX6_part 7 2 (some .int) D (tysMW cI cJ) [.ref (o 0), .int a1, .int a2, .int a3] (some (.int q.1)) (MW o cI cJ m_s m_past m_kept m_spare m_paid m_pastPaid m_keptPaid m_sparePaid m_isKept m_pasts m_runs m_pad m_typed m_isStopped m_stop m_order m_best m_many m_bySets m_spot m_deeds m_deed) (MW o cI cJ q.2.1 q.2.2.1 m_kept m_spare m_paid q.2.2.2.1 m_keptPaid m_sparePaid m_isKept q.2.2.2.2 m_runs m_pad m_typed m_isStopped m_stop m_order m_best m_many m_bySets m_spot m_deeds m_deed) := by
  refine CF.mkI (by decide) (Nat.le_of_ble_eq_true rfl) ?_
  intro p e s m below meth c Q A B hK hDD hA hret hP hS ls hl
  have B0 := B
  obtain ⟨hx, hb, hml, hown, hts⟩ := B0
  have hl : lv_has ls 7 [(0, .ref (o 0)), (1, .int a1), (2, .int a2), (3, .int a3)] := hl
  have hL78 : ∀ (n78 : Nat) (x4 : Int32) (x5 : Int32) (x6 : Int32) (m_s : Nat → Int32) (m_past : Nat → Int32) (m_pastPaid : Nat → Int64) (m_pasts : Int32) (ls : Array Slot) (H : Heap) (locs : List Loc), f_X6_part_L78 a1 a2 a3 m_paid m_runs  n78 x4 x5 x6 m_s m_past m_pastPaid m_pasts = some q → va_P D vwCl (MW o cI cJ m_s m_past m_kept m_spare m_paid m_pastPaid m_keptPaid m_sparePaid m_isKept m_pasts m_runs m_pad m_typed m_isStopped m_stop m_order m_best m_many m_bySets m_spot m_deeds m_deed) H → va_S A s.heap H locs → lv_has ls 7 [(0, .ref (o 0)), (4, .int x4), (5, .int x5), (6, .int x6)] → W p l e (rmF 2 0 0) s m ([.ref (o 0), .int a1, .int a2, .int a3] : List Value).toArray below meth c H locs 0 0 Q (F0 m 78 ls []) := by
    intro n78
    induction n78 with
    | zero =>
      intro x4 x5 x6 m_s m_past m_pastPaid m_pasts ls H locs h
      exact absurd (show (none : Option (Int32 × (Nat → Int32) × (Nat → Int32) × (Nat → Int64) × (Int32))) = some q from h) (by intro h; cases h)
    | succ n78 ih78 =>
      intro x4 x5 x6 m_s m_past m_pastPaid m_pasts ls H locs h hP hS hl
      have h : f_X6_part_L78b a1 a2 a3 m_paid m_runs  (f_X6_part_L78 a1 a2 a3 m_paid m_runs  n78) x4 x5 x6 m_s m_past m_pastPaid m_pasts = some q := h
      unfold f_X6_part_L78b at h
      refine lv_iload hx hb dX6_part_78 (lv_at hl 3 rfl) ?_
      refine lv_iconst (v := (4 : Int32)) hx hb dX6_part_80 (by decide) ?_
      refine lv_icmp_ge (tgt := 126) hx hb dX6_part_81 (by decide) (fun c11 => ?_) (fun c11 => ?_)
      · have h := ift c11 h
        refine lv_aload_n hx hb dX6_part_126 rfl (lv_at hl 0 rfl) ?_
        refine va_get (D := D) (ci := 7) (v := .ref (o 1)) (C := RX6) (T := TX6) (N := 22) hx hb hts inlX6 hown hK hP 0 rfl rfl 0 (by decide) (hts _ q_4_5) (fun _ h9 => h9) rfl dX6_part_127 ?_
        refine lv_bipush (v := (97 : Int32)) hx hb dX6_part_130 (by decide) ?_
        refine lv_dup2_11 hx hb dX6_part_132 rfl rfl ?_
        obtain ⟨g12, h⟩ := grd_some h
        refine va_iald hx hb hK hP 1 0 rfl rfl (inb_in g12) dX6_part_133 ?_
        refine lv_iload hx hb dX6_part_134 (lv_at hl 2 rfl) ?_
        refine lv_iadd hx hb dX6_part_136 ?_
        obtain ⟨g13, h⟩ := grd_some h
        refine va_iast hx hb hK hP (hDD _ rfl) hS 1 0 rfl rfl (inb_in g13) dX6_part_137 (fun H locs hP _ hS => ?_)
        have hP : va_P D vwCl (MW o cI cJ (upd m_s (97 : Int32).toNatClampNeg ((m_s (97 : Int32).toNatClampNeg) + x5)) m_past m_kept m_spare m_paid m_pastPaid m_keptPaid m_sparePaid m_isKept m_pasts m_runs m_pad m_typed m_isStopped m_stop m_order m_best m_many m_bySets m_spot m_deeds m_deed) H := hP
        refine lv_iload hx hb dX6_part_138 (lv_at hl 2 rfl) ?_
        obtain rfl := Option.some.inj h
        exact hret _ _ _ _ (vp_nar_int _) dX6_part_140 hP hS
      · have h := ifn c11 h
        refine lv_aload_n hx hb dX6_part_84 rfl (lv_at hl 0 rfl) ?_
        refine lv_iload hx hb dX6_part_85 (lv_at hl 3 rfl) ?_
        obtain ⟨q14, e14, h⟩ := bnd_some h
        refine f_call (As := [.int x6]) (rest := []) (c_X6_isLoose l D o cI cJ x6 m_s m_past m_kept m_spare m_paid m_pastPaid m_keptPaid m_sparePaid m_isKept m_pasts m_runs m_pad m_typed m_isStopped m_stop m_order m_best m_many m_bySets m_spot m_deeds m_deed q14 e14) B hK hDD hA hP hS rfl (va_recv hK hP (ci := 7) (q0 := 0) rfl rfl) k_X6_isLoose q_11_0 rfl ⟨Nat.le_of_ble_eq_true rfl, Nat.le_of_ble_eq_true rfl⟩ ⟨Nat.le_refl _, Nat.le_refl _⟩ hl.1 rfl (Nat.le_of_ble_eq_true rfl) dX6_part_87 (fun H locs hP hS => ?_)
        refine lv_if_eq (tgt := 120) hx hb dX6_part_90 (by decide) (fun c15 => ?_) (fun c15 => ?_)
        · have h := ift c15 h
          refine lv_iinc (v := (x6 + (1 : Int32))) (lv' := [(6, .int (x6 + (1 : Int32))), (0, .ref (o 0)), (4, .int x4), (5, .int x5)]) hx hb dX6_part_120 hl (k := 3) rfl (congrArg (HAdd.hAdd x6) (by decide)) (by decide) rfl (fun ls hl => ?_)
          refine lv_goto (tgt := 78) hx hb dX6_part_123 (by decide) ?_
          exact ih78 x4 x5 (x6 + (1 : Int32)) m_s m_past m_pastPaid m_pasts _ _ _ h hP hS (lv_sub hl [1, 2, 3, 0] rfl)
        · have h := ifn c15 h
          refine lv_aload_n hx hb dX6_part_93 rfl (lv_at hl 0 rfl) ?_
          refine va_get (D := D) (ci := 7) (v := .ref (o 1)) (C := RX6) (T := TX6) (N := 22) hx hb hts inlX6 hown hK hP 0 rfl rfl 0 (by decide) (hts _ q_4_5) (fun _ h9 => h9) rfl dX6_part_94 ?_
          refine lv_iload hx hb dX6_part_97 (lv_at hl 3 rfl) ?_
          obtain ⟨q16, e16, h⟩ := bnd_some h
          refine s_call (As := [.int x6]) (rest := [.ref (o 1)]) (c_X6_at l x6 q16 e16) B k_X6_at q_11_4 rfl ⟨Nat.le_of_ble_eq_true rfl, Nat.le_of_ble_eq_true rfl⟩ ⟨Nat.le_refl _, Nat.le_refl _⟩ hl.1 rfl (Nat.le_of_ble_eq_true rfl) dX6_part_99 ?_
          obtain ⟨g17, h⟩ := grd_some h
          refine va_iald hx hb hK hP 1 0 rfl rfl (inb_in g17) dX6_part_102 ?_
          refine lv_iload hx hb dX6_part_103 (lv_at hl 1 rfl) ?_
          refine lv_iand hx hb dX6_part_105 ?_
          refine lv_iload hx hb dX6_part_106 (lv_at hl 1 rfl) ?_
          refine lv_icmp_ne (tgt := 120) hx hb dX6_part_108 (by decide) (fun c18 => ?_) (fun c18 => ?_)
          · have h := ifn c18 h
            refine lv_iinc (v := (x6 + (1 : Int32))) (lv' := [(6, .int (x6 + (1 : Int32))), (0, .ref (o 0)), (4, .int x4), (5, .int x5)]) hx hb dX6_part_120 hl (k := 3) rfl (congrArg (HAdd.hAdd x6) (by decide)) (by decide) rfl (fun ls hl => ?_)
            refine lv_goto (tgt := 78) hx hb dX6_part_123 (by decide) ?_
            exact ih78 x4 x5 (x6 + (1 : Int32)) m_s m_past m_pastPaid m_pasts _ _ _ h hP hS (lv_sub hl [1, 2, 3, 0] rfl)
          · have h := ift c18 h
            refine lv_aload_n hx hb dX6_part_111 rfl (lv_at hl 0 rfl) ?_
            refine lv_iload hx hb dX6_part_112 (lv_at hl 3 rfl) ?_
            obtain ⟨q19, e19, h⟩ := bnd_some h
            refine f_call (As := [.int x6]) (rest := []) (c_X6_empties l D o cI cJ x6 m_s m_past m_kept m_spare m_paid m_pastPaid m_keptPaid m_sparePaid m_isKept m_pasts m_runs m_pad m_typed m_isStopped m_stop m_order m_best m_many m_bySets m_spot m_deeds m_deed q19 e19) B hK hDD hA hP hS rfl (va_recv hK hP (ci := 7) (q0 := 0) rfl rfl) k_X6_empties q_11_7 rfl ⟨Nat.le_of_ble_eq_true rfl, Nat.le_of_ble_eq_true rfl⟩ ⟨Nat.le_refl _, Nat.le_refl _⟩ hl.1 rfl (Nat.le_of_ble_eq_true rfl) dX6_part_114 (fun H locs hP hS => ?_)
            refine lv_iinc (v := (x5 + (1 : Int32))) (lv' := [(5, .int (x5 + (1 : Int32))), (0, .ref (o 0)), (4, .int x4), (6, .int x6)]) hx hb dX6_part_117 hl (k := 2) rfl (congrArg (HAdd.hAdd x5) (by decide)) (by decide) rfl (fun ls hl => ?_)
            refine lv_iinc (v := (x6 + (1 : Int32))) (lv' := [(6, .int (x6 + (1 : Int32))), (5, .int (x5 + (1 : Int32))), (0, .ref (o 0)), (4, .int x4)]) hx hb dX6_part_120 hl (k := 3) rfl (congrArg (HAdd.hAdd x6) (by decide)) (by decide) rfl (fun ls hl => ?_)
            refine lv_goto (tgt := 78) hx hb dX6_part_123 (by decide) ?_
            exact ih78 x4 (x5 + (1 : Int32)) (x6 + (1 : Int32)) q19 m_past m_pastPaid m_pasts _ _ _ h hP hS (lv_sub hl [2, 3, 1, 0] rfl)
  unfold f_X6_part at h
  refine lv_iload_n hx hb dX6_part_0 rfl (lv_at hl 1 rfl) ?_
  obtain ⟨q1, e1, h⟩ := bnd_some h
  refine s_call (As := [.int a1]) (rest := []) (c_X6_isTable l a1 q1 e1) B k_X6_isTable q_9_12 rfl ⟨Nat.le_of_ble_eq_true rfl, Nat.le_of_ble_eq_true rfl⟩ ⟨Nat.le_refl _, Nat.le_refl _⟩ hl.1 rfl (Nat.le_of_ble_eq_true rfl) dX6_part_1 ?_
  refine lv_if_eq (tgt := 29) hx hb dX6_part_4 (by decide) (fun c2 => ?_) (fun c2 => ?_)
  · have h := ift c2 h
    refine lv_iconst (v := (-1 : Int32)) hx hb dX6_part_29 (by decide) ?_
    obtain rfl := Option.some.inj h
    exact hret _ _ _ _ (vp_nar_int _) dX6_part_30 hP hS
  · have h := ifn c2 h
    refine lv_iload_n hx hb dX6_part_7 rfl (lv_at hl 2 rfl) ?_
    obtain ⟨q3, e3, h⟩ := bnd_some h
    refine s_call (As := [.int a2]) (rest := []) (c_X6_isTable l a2 q3 e3) B k_X6_isTable q_9_12 rfl ⟨Nat.le_of_ble_eq_true rfl, Nat.le_of_ble_eq_true rfl⟩ ⟨Nat.le_refl _, Nat.le_refl _⟩ hl.1 rfl (Nat.le_of_ble_eq_true rfl) dX6_part_8 ?_
    refine lv_if_eq (tgt := 29) hx hb dX6_part_11 (by decide) (fun c4 => ?_) (fun c4 => ?_)
    · have h := ift c4 h
      refine lv_iconst (v := (-1 : Int32)) hx hb dX6_part_29 (by decide) ?_
      obtain rfl := Option.some.inj h
      exact hret _ _ _ _ (vp_nar_int _) dX6_part_30 hP hS
    · have h := ifn c4 h
      refine lv_iload_n hx hb dX6_part_14 rfl (lv_at hl 1 rfl) ?_
      refine lv_iload_n hx hb dX6_part_15 rfl (lv_at hl 2 rfl) ?_
      refine lv_icmp_eq (tgt := 29) hx hb dX6_part_16 (by decide) (fun c5 => ?_) (fun c5 => ?_)
      · have h := ift c5 h
        refine lv_iconst (v := (-1 : Int32)) hx hb dX6_part_29 (by decide) ?_
        obtain rfl := Option.some.inj h
        exact hret _ _ _ _ (vp_nar_int _) dX6_part_30 hP hS
      · have h := ifn c5 h
        refine lv_iload_n hx hb dX6_part_19 rfl (lv_at hl 3 rfl) ?_
        refine lv_iconst (v := (1 : Int32)) hx hb dX6_part_20 (by decide) ?_
        refine lv_bipush (v := (100 : Int32)) hx hb dX6_part_21 (by decide) ?_
        obtain ⟨q6, e6, h⟩ := bnd_some h
        refine s_call (As := [.int a3, .int (1 : Int32), .int (100 : Int32)]) (rest := []) (c_X6_in l a3 (1 : Int32) (100 : Int32) q6 e6) B k_X6_in q_9_15 rfl ⟨Nat.le_of_ble_eq_true rfl, Nat.le_of_ble_eq_true rfl⟩ ⟨Nat.le_refl _, Nat.le_refl _⟩ hl.1 rfl (Nat.le_of_ble_eq_true rfl) dX6_part_23 ?_
        refine lv_if_ne (tgt := 31) hx hb dX6_part_26 (by decide) (fun c7 => ?_) (fun c7 => ?_)
        · have h := ifn c7 h
          refine lv_aload_n hx hb dX6_part_31 rfl (lv_at hl 0 rfl) ?_
          obtain ⟨q8, e8, h⟩ := bnd_some h
          refine f_call (As := []) (rest := []) (c_X6_changes l D o cI cJ  m_s m_past m_kept m_spare m_paid m_pastPaid m_keptPaid m_sparePaid m_isKept m_pasts m_runs m_pad m_typed m_isStopped m_stop m_order m_best m_many m_bySets m_spot m_deeds m_deed q8 e8) B hK hDD hA hP hS rfl (va_recv hK hP (ci := 7) (q0 := 0) rfl rfl) k_X6_changes q_9_18 rfl ⟨Nat.le_of_ble_eq_true rfl, Nat.le_of_ble_eq_true rfl⟩ ⟨Nat.le_refl _, Nat.le_refl _⟩ hl.1 rfl (Nat.le_of_ble_eq_true rfl) dX6_part_32 (fun H locs hP hS => ?_)
          refine lv_aload_n hx hb dX6_part_35 rfl (lv_at hl 0 rfl) ?_
          refine va_get (D := D) (ci := 7) (v := .ref (o 1)) (C := RX6) (T := TX6) (N := 22) hx hb hts inlX6 hown hK hP 0 rfl rfl 0 (by decide) (hts _ q_4_5) (fun _ h9 => h9) rfl dX6_part_36 ?_
          refine lv_bipush (v := (10 : Int32)) hx hb dX6_part_39 (by decide) ?_
          refine lv_iconst (v := (5 : Int32)) hx hb dX6_part_41 (by decide) ?_
          refine lv_iload_n hx hb dX6_part_42 rfl (lv_at hl 1 rfl) ?_
          refine lv_imul hx hb dX6_part_43 ?_
          refine lv_iadd hx hb dX6_part_44 ?_
          refine lv_iload_n hx hb dX6_part_45 rfl (lv_at hl 2 rfl) ?_
          refine lv_iadd hx hb dX6_part_46 ?_
          refine lv_iload_n hx hb dX6_part_47 rfl (lv_at hl 3 rfl) ?_
          obtain ⟨g9, h⟩ := grd_some h
          refine va_iast hx hb hK hP (hDD _ rfl) hS 1 0 rfl rfl (inb_in g9) dX6_part_48 (fun H locs hP _ hS => ?_)
          have hP : va_P D vwCl (MW o cI cJ (upd m_s (((10 : Int32) + ((5 : Int32) * a1)) + a2).toNatClampNeg a3) q8.1 m_kept m_spare m_paid q8.2.1 m_keptPaid m_sparePaid m_isKept q8.2.2 m_runs m_pad m_typed m_isStopped m_stop m_order m_best m_many m_bySets m_spot m_deeds m_deed) H := hP
          refine lv_aload_n hx hb dX6_part_49 rfl (lv_at hl 0 rfl) ?_
          refine va_get (D := D) (ci := 7) (v := .ref (o 1)) (C := RX6) (T := TX6) (N := 22) hx hb hts inlX6 hown hK hP 0 rfl rfl 0 (by decide) (hts _ q_4_5) (fun _ h9 => h9) rfl dX6_part_50 ?_
          refine lv_bipush (v := (10 : Int32)) hx hb dX6_part_53 (by decide) ?_
          refine lv_iconst (v := (5 : Int32)) hx hb dX6_part_55 (by decide) ?_
          refine lv_iload_n hx hb dX6_part_56 rfl (lv_at hl 2 rfl) ?_
          refine lv_imul hx hb dX6_part_57 ?_
          refine lv_iadd hx hb dX6_part_58 ?_
          refine lv_iload_n hx hb dX6_part_59 rfl (lv_at hl 1 rfl) ?_
          refine lv_iadd hx hb dX6_part_60 ?_
          refine lv_iload_n hx hb dX6_part_61 rfl (lv_at hl 3 rfl) ?_
          obtain ⟨g10, h⟩ := grd_some h
          refine va_iast hx hb hK hP (hDD _ rfl) hS 1 0 rfl rfl (inb_in g10) dX6_part_62 (fun H locs hP _ hS => ?_)
          have hP : va_P D vwCl (MW o cI cJ (upd (upd m_s (((10 : Int32) + ((5 : Int32) * a1)) + a2).toNatClampNeg a3) (((10 : Int32) + ((5 : Int32) * a2)) + a1).toNatClampNeg a3) q8.1 m_kept m_spare m_paid q8.2.1 m_keptPaid m_sparePaid m_isKept q8.2.2 m_runs m_pad m_typed m_isStopped m_stop m_order m_best m_many m_bySets m_spot m_deeds m_deed) H := hP
          refine lv_iconst (v := (1 : Int32)) hx hb dX6_part_63 (by decide) ?_
          refine lv_iload_n hx hb dX6_part_64 rfl (lv_at hl 1 rfl) ?_
          refine lv_ishl hx hb dX6_part_65 ?_
          refine lv_iconst (v := (1 : Int32)) hx hb dX6_part_66 (by decide) ?_
          refine lv_iload_n hx hb dX6_part_67 rfl (lv_at hl 2 rfl) ?_
          refine lv_ishl hx hb dX6_part_68 ?_
          refine lv_ior hx hb dX6_part_69 ?_
          refine lv_istore (lv' := [(4, .int (((1 : Int32) <<< (a1 &&& 31)) ||| ((1 : Int32) <<< (a2 &&& 31)))), (0, .ref (o 0)), (1, .int a1), (2, .int a2), (3, .int a3)]) hx hb dX6_part_70 hl (by decide) rfl (fun ls hl => ?_)
          refine lv_iconst (v := (0 : Int32)) hx hb dX6_part_72 (by decide) ?_
          refine lv_istore (lv' := [(5, .int (0 : Int32)), (4, .int (((1 : Int32) <<< (a1 &&& 31)) ||| ((1 : Int32) <<< (a2 &&& 31)))), (0, .ref (o 0)), (1, .int a1), (2, .int a2), (3, .int a3)]) hx hb dX6_part_73 hl (by decide) rfl (fun ls hl => ?_)
          refine lv_iconst (v := (0 : Int32)) hx hb dX6_part_75 (by decide) ?_
          refine lv_istore (lv' := [(6, .int (0 : Int32)), (5, .int (0 : Int32)), (4, .int (((1 : Int32) <<< (a1 &&& 31)) ||| ((1 : Int32) <<< (a2 &&& 31)))), (0, .ref (o 0)), (1, .int a1), (2, .int a2), (3, .int a3)]) hx hb dX6_part_76 hl (by decide) rfl (fun ls hl => ?_)
          exact hL78 1024 (((1 : Int32) <<< (a1 &&& 31)) ||| ((1 : Int32) <<< (a2 &&& 31))) (0 : Int32) (0 : Int32) (upd (upd m_s (((10 : Int32) + ((5 : Int32) * a1)) + a2).toNatClampNeg a3) (((10 : Int32) + ((5 : Int32) * a2)) + a1).toNatClampNeg a3) q8.1 q8.2.1 q8.2.2 _ _ _ h hP hS (lv_sub hl [3, 2, 1, 0] rfl)
        · have h := ift c7 h
          refine lv_iconst (v := (-1 : Int32)) hx hb dX6_part_29 (by decide) ?_
          obtain rfl := Option.some.inj h
          exact hret _ _ _ _ (vp_nar_int _) dX6_part_30 hP hS

def f_X6_count (a1 : Int32) (m_s : Nat → Int32) (m_past : Nat → Int32) (m_paid : Nat → Int64) (m_pastPaid : Nat → Int64) (m_pasts : Int32) (m_runs : Int32) : Option (Int32 × (Nat → Int32) × (Nat → Int32) × (Nat → Int64) × (Int32)) :=
  bnd (f_X6_isTable a1 ) (fun q1 => if q1 = (0 : Int32) then some ((-1 : Int32), m_s, m_past, m_pastPaid, m_pasts)
  else bnd (f_X6_changes  m_s m_past m_paid m_pastPaid m_pasts m_runs) (fun q3 => bnd (f_X6_counts a1 m_s) (fun q4 => some (q4.1, q4.2, q3.1, q3.2.1, q3.2.2))))
set_option maxRecDepth 100000 in
set_option maxHeartbeats 4000000 in
theorem c_X6_count (l : Launch) (D : va_G) (o : Nat → Nat) (cI cJ : ClassId) (a1 : Int32) (m_s : Nat → Int32) (m_past : Nat → Int32) (m_kept : Nat → Int32) (m_spare : Nat → Int32) (m_paid : Nat → Int64) (m_pastPaid : Nat → Int64) (m_keptPaid : Nat → Int64) (m_sparePaid : Nat → Int64) (m_isKept : Int32) (m_pasts : Int32) (m_runs : Int32) (m_pad : Nat → Int32) (m_typed : Int32) (m_isStopped : Int32) (m_stop : Nat → Int32) (m_order : Nat → Int32) (m_best : Nat → Int32) (m_many : Int32) (m_bySets : Nat → Int64) (m_spot : Int32) (m_deeds : Int32) (m_deed : Nat → Int32) (q : Int32 × (Nat → Int32) × (Nat → Int32) × (Nat → Int64) × (Int32)) (h : f_X6_count a1 m_s m_past m_paid m_pastPaid m_pasts m_runs = some q) : CF l yX6_count cX6_count 2 4 (some .int) D (tysMW cI cJ) [.ref (o 0), .int a1] (some (.int q.1)) (MW o cI cJ m_s m_past m_kept m_spare m_paid m_pastPaid m_keptPaid m_sparePaid m_isKept m_pasts m_runs m_pad m_typed m_isStopped m_stop m_order m_best m_many m_bySets m_spot m_deeds m_deed) (MW o cI cJ q.2.1 q.2.2.1 m_kept m_spare m_paid q.2.2.2.1 m_keptPaid m_sparePaid m_isKept q.2.2.2.2 m_runs m_pad m_typed m_isStopped m_stop m_order m_best m_many m_bySets m_spot m_deeds m_deed) := by
  refine CF.mkI (by decide) (Nat.le_of_ble_eq_true rfl) ?_
  intro p e s m below meth c Q A B hK hDD hA hret hP hS ls hl
  have B0 := B
  obtain ⟨hx, hb, hml, hown, hts⟩ := B0
  have hl : lv_has ls 2 [(0, .ref (o 0)), (1, .int a1)] := hl
  unfold f_X6_count at h
  refine lv_iload_n hx hb dX6_count_0 rfl (lv_at hl 1 rfl) ?_
  obtain ⟨q1, e1, h⟩ := bnd_some h
  refine s_call (As := [.int a1]) (rest := []) (c_X6_isTable l a1 q1 e1) B k_X6_isTable q_9_12 rfl ⟨Nat.le_of_ble_eq_true rfl, Nat.le_of_ble_eq_true rfl⟩ ⟨Nat.le_refl _, Nat.le_refl _⟩ hl.1 rfl (Nat.le_of_ble_eq_true rfl) dX6_count_1 ?_
  refine lv_if_ne (tgt := 9) hx hb dX6_count_4 (by decide) (fun c2 => ?_) (fun c2 => ?_)
  · have h := ifn c2 h
    refine lv_aload_n hx hb dX6_count_9 rfl (lv_at hl 0 rfl) ?_
    obtain ⟨q3, e3, h⟩ := bnd_some h
    refine f_call (As := []) (rest := []) (c_X6_changes l D o cI cJ  m_s m_past m_kept m_spare m_paid m_pastPaid m_keptPaid m_sparePaid m_isKept m_pasts m_runs m_pad m_typed m_isStopped m_stop m_order m_best m_many m_bySets m_spot m_deeds m_deed q3 e3) B hK hDD hA hP hS rfl (va_recv hK hP (ci := 7) (q0 := 0) rfl rfl) k_X6_changes q_9_18 rfl ⟨Nat.le_of_ble_eq_true rfl, Nat.le_of_ble_eq_true rfl⟩ ⟨Nat.le_refl _, Nat.le_refl _⟩ hl.1 rfl (Nat.le_of_ble_eq_true rfl) dX6_count_10 (fun H locs hP hS => ?_)
    refine lv_aload_n hx hb dX6_count_13 rfl (lv_at hl 0 rfl) ?_
    refine lv_iload_n hx hb dX6_count_14 rfl (lv_at hl 1 rfl) ?_
    obtain ⟨q4, e4, h⟩ := bnd_some h
    refine f_call (As := [.int a1]) (rest := []) (c_X6_counts l D o cI cJ a1 m_s q3.1 m_kept m_spare m_paid q3.2.1 m_keptPaid m_sparePaid m_isKept q3.2.2 m_runs m_pad m_typed m_isStopped m_stop m_order m_best m_many m_bySets m_spot m_deeds m_deed q4 e4) B hK hDD hA hP hS rfl (va_recv hK hP (ci := 7) (q0 := 0) rfl rfl) k_X6_counts q_12_12 rfl ⟨Nat.le_of_ble_eq_true rfl, Nat.le_of_ble_eq_true rfl⟩ ⟨Nat.le_refl _, Nat.le_refl _⟩ hl.1 rfl (Nat.le_of_ble_eq_true rfl) dX6_count_15 (fun H locs hP hS => ?_)
    obtain rfl := Option.some.inj h
    exact hret _ _ _ _ (vp_nar_int _) dX6_count_18 hP hS
  · have h := ift c2 h
    refine lv_iconst (v := (-1 : Int32)) hx hb dX6_count_7 (by decide) ?_
    obtain rfl := Option.some.inj h
    exact hret _ _ _ _ (vp_nar_int _) dX6_count_8 hP hS

def f_X6_slotFor_L17b    (k17 : Int32 → Int32 → (Nat → Int32) → Option (Int32 × (Nat → Int32))) (x2 : Int32) (x3 : Int32) (m_s : Nat → Int32) : Option (Int32 × (Nat → Int32)) :=
  if (4 : Int32) ≤ x3 then grd (inb (96 : Int32) 100) (if (0 : Int32) ≤ x2 then grd (inb (96 : Int32) 100) (some (x2, (upd m_s (96 : Int32).toNatClampNeg ((m_s (96 : Int32).toNatClampNeg) + (1 : Int32)))))
  else grd (inb (96 : Int32) 100) (some (x2, (upd m_s (96 : Int32).toNatClampNeg ((m_s (96 : Int32).toNatClampNeg) + (0 : Int32))))))
  else bnd (f_X6_isLoose x3 m_s) (fun q8 => if q8 = (0 : Int32) then k17 x2 (x3 + (1 : Int32)) m_s
  else if x2 < (0 : Int32) then k17 x3 (x3 + (1 : Int32)) m_s
  else bnd (f_X6_at x3 ) (fun q11 => grd (inb (q11 + (12 : Int32)) 100) (bnd (f_X6_at x2 ) (fun q13 => grd (inb (q13 + (12 : Int32)) 100) (if (m_s (q13 + (12 : Int32)).toNatClampNeg) ≤ (m_s (q11 + (12 : Int32)).toNatClampNeg) then k17 x2 (x3 + (1 : Int32)) m_s
  else k17 x3 (x3 + (1 : Int32)) m_s)))))
def f_X6_slotFor_L17    : Nat → Int32 → Int32 → (Nat → Int32) → Option (Int32 × (Nat → Int32))
  | 0 => fun _ _ _ => none
  | n + 1 => f_X6_slotFor_L17b   (f_X6_slotFor_L17   n)
def f_X6_slotFor  (m_s : Nat → Int32) : Option (Int32 × (Nat → Int32)) :=
  bnd (f_X6_slotOf (0 : Int32) m_s) (fun q1 => if q1 < (0 : Int32) then f_X6_slotFor_L17   1024 (-4 : Int32) (0 : Int32) m_s
  else some (q1, m_s))
set_option maxRecDepth 100000 in
set_option maxHeartbeats 4000000 in
theorem c_X6_slotFor (l : Launch) (D : va_G) (o : Nat → Nat) (cI cJ : ClassId)  (m_s : Nat → Int32) (m_past : Nat → Int32) (m_kept : Nat → Int32) (m_spare : Nat → Int32) (m_paid : Nat → Int64) (m_pastPaid : Nat → Int64) (m_keptPaid : Nat → Int64) (m_sparePaid : Nat → Int64) (m_isKept : Int32) (m_pasts : Int32) (m_runs : Int32) (m_pad : Nat → Int32) (m_typed : Int32) (m_isStopped : Int32) (m_stop : Nat → Int32) (m_order : Nat → Int32) (m_best : Nat → Int32) (m_many : Int32) (m_bySets : Nat → Int64) (m_spot : Int32) (m_deeds : Int32) (m_deed : Nat → Int32) (q : Int32 × (Nat → Int32)) (h : f_X6_slotFor  m_s = some q) : CF l yX6_slotFor cX6_slotFor 4 2 (some .int) D (tysMW cI cJ) [.ref (o 0)] (some (.int q.1)) (MW o cI cJ m_s m_past m_kept m_spare m_paid m_pastPaid m_keptPaid m_sparePaid m_isKept m_pasts m_runs m_pad m_typed m_isStopped m_stop m_order m_best m_many m_bySets m_spot m_deeds m_deed) (MW o cI cJ q.2 m_past m_kept m_spare m_paid m_pastPaid m_keptPaid m_sparePaid m_isKept m_pasts m_runs m_pad m_typed m_isStopped m_stop m_order m_best m_many m_bySets m_spot m_deeds m_deed) := by
  refine CF.mkI (by decide) (Nat.le_of_ble_eq_true rfl) ?_
  intro p e s m below meth c Q A B hK hDD hA hret hP hS ls hl
  have B0 := B
  obtain ⟨hx, hb, hml, hown, hts⟩ := B0
  have hl : lv_has ls 4 [(0, .ref (o 0))] := hl
  have hL17 : ∀ (n17 : Nat) (x2 : Int32) (x3 : Int32) (m_s : Nat → Int32) (ls : Array Slot) (H : Heap) (locs : List Loc), f_X6_slotFor_L17   n17 x2 x3 m_s = some q → va_P D vwCl (MW o cI cJ m_s m_past m_kept m_spare m_paid m_pastPaid m_keptPaid m_sparePaid m_isKept m_pasts m_runs m_pad m_typed m_isStopped m_stop m_order m_best m_many m_bySets m_spot m_deeds m_deed) H → va_S A s.heap H locs → lv_has ls 4 [(0, .ref (o 0)), (2, .int x2), (3, .int x3)] → W p l e (rmF 2 0 0) s m ([.ref (o 0)] : List Value).toArray below meth c H locs 0 0 Q (F0 m 17 ls []) := by
    intro n17
    induction n17 with
    | zero =>
      intro x2 x3 m_s ls H locs h
      exact absurd (show (none : Option (Int32 × (Nat → Int32))) = some q from h) (by intro h; cases h)
    | succ n17 ih17 =>
      intro x2 x3 m_s ls H locs h hP hS hl
      have h : f_X6_slotFor_L17b   (f_X6_slotFor_L17   n17) x2 x3 m_s = some q := h
      unfold f_X6_slotFor_L17b at h
      refine lv_iload_n hx hb dX6_slotFor_17 rfl (lv_at hl 2 rfl) ?_
      refine lv_iconst (v := (4 : Int32)) hx hb dX6_slotFor_18 (by decide) ?_
      refine lv_icmp_ge (tgt := 73) hx hb dX6_slotFor_19 (by decide) (fun c3 => ?_) (fun c3 => ?_)
      · have h := ift c3 h
        refine lv_aload_n hx hb dX6_slotFor_73 rfl (lv_at hl 0 rfl) ?_
        refine va_get (D := D) (ci := 7) (v := .ref (o 1)) (C := RX6) (T := TX6) (N := 22) hx hb hts inlX6 hown hK hP 0 rfl rfl 0 (by decide) (hts _ q_4_5) (fun _ h9 => h9) rfl dX6_slotFor_74 ?_
        refine lv_bipush (v := (96 : Int32)) hx hb dX6_slotFor_77 (by decide) ?_
        refine lv_dup2_11 hx hb dX6_slotFor_79 rfl rfl ?_
        obtain ⟨g4, h⟩ := grd_some h
        refine va_iald hx hb hK hP 1 0 rfl rfl (inb_in g4) dX6_slotFor_80 ?_
        refine lv_iload_n hx hb dX6_slotFor_81 rfl (lv_at hl 1 rfl) ?_
        refine lv_if_ge (tgt := 89) hx hb dX6_slotFor_82 (by decide) (fun c5 => ?_) (fun c5 => ?_)
        · have h := ift c5 h
          refine lv_iconst (v := (1 : Int32)) hx hb dX6_slotFor_89 (by decide) ?_
          refine lv_iadd hx hb dX6_slotFor_90 ?_
          obtain ⟨g6, h⟩ := grd_some h
          refine va_iast hx hb hK hP (hDD _ rfl) hS 1 0 rfl rfl (inb_in g6) dX6_slotFor_91 (fun H locs hP _ hS => ?_)
          have hP : va_P D vwCl (MW o cI cJ (upd m_s (96 : Int32).toNatClampNeg ((m_s (96 : Int32).toNatClampNeg) + (1 : Int32))) m_past m_kept m_spare m_paid m_pastPaid m_keptPaid m_sparePaid m_isKept m_pasts m_runs m_pad m_typed m_isStopped m_stop m_order m_best m_many m_bySets m_spot m_deeds m_deed) H := hP
          refine lv_iload_n hx hb dX6_slotFor_92 rfl (lv_at hl 1 rfl) ?_
          obtain rfl := Option.some.inj h
          exact hret _ _ _ _ (vp_nar_int _) dX6_slotFor_93 hP hS
        · have h := ifn c5 h
          refine lv_iconst (v := (0 : Int32)) hx hb dX6_slotFor_85 (by decide) ?_
          refine lv_goto (tgt := 90) hx hb dX6_slotFor_86 (by decide) ?_
          refine lv_iadd hx hb dX6_slotFor_90 ?_
          obtain ⟨g7, h⟩ := grd_some h
          refine va_iast hx hb hK hP (hDD _ rfl) hS 1 0 rfl rfl (inb_in g7) dX6_slotFor_91 (fun H locs hP _ hS => ?_)
          have hP : va_P D vwCl (MW o cI cJ (upd m_s (96 : Int32).toNatClampNeg ((m_s (96 : Int32).toNatClampNeg) + (0 : Int32))) m_past m_kept m_spare m_paid m_pastPaid m_keptPaid m_sparePaid m_isKept m_pasts m_runs m_pad m_typed m_isStopped m_stop m_order m_best m_many m_bySets m_spot m_deeds m_deed) H := hP
          refine lv_iload_n hx hb dX6_slotFor_92 rfl (lv_at hl 1 rfl) ?_
          obtain rfl := Option.some.inj h
          exact hret _ _ _ _ (vp_nar_int _) dX6_slotFor_93 hP hS
      · have h := ifn c3 h
        refine lv_aload_n hx hb dX6_slotFor_22 rfl (lv_at hl 0 rfl) ?_
        refine lv_iload_n hx hb dX6_slotFor_23 rfl (lv_at hl 2 rfl) ?_
        obtain ⟨q8, e8, h⟩ := bnd_some h
        refine f_call (As := [.int x3]) (rest := []) (c_X6_isLoose l D o cI cJ x3 m_s m_past m_kept m_spare m_paid m_pastPaid m_keptPaid m_sparePaid m_isKept m_pasts m_runs m_pad m_typed m_isStopped m_stop m_order m_best m_many m_bySets m_spot m_deeds m_deed q8 e8) B hK hDD hA hP hS rfl (va_recv hK hP (ci := 7) (q0 := 0) rfl rfl) k_X6_isLoose q_11_0 rfl ⟨Nat.le_of_ble_eq_true rfl, Nat.le_of_ble_eq_true rfl⟩ ⟨Nat.le_refl _, Nat.le_refl _⟩ hl.1 rfl (Nat.le_of_ble_eq_true rfl) dX6_slotFor_24 (fun H locs hP hS => ?_)
        refine lv_if_eq (tgt := 65) hx hb dX6_slotFor_27 (by decide) (fun c9 => ?_) (fun c9 => ?_)
        · have h := ift c9 h
          refine lv_iload_n hx hb dX6_slotFor_65 rfl (lv_at hl 1 rfl) ?_
          refine lv_istore_n (lv' := [(2, .int x2), (0, .ref (o 0)), (3, .int x3)]) hx hb dX6_slotFor_66 rfl hl (by decide) rfl (fun ls hl => ?_)
          refine lv_iinc (v := (x3 + (1 : Int32))) (lv' := [(3, .int (x3 + (1 : Int32))), (2, .int x2), (0, .ref (o 0))]) hx hb dX6_slotFor_67 hl (k := 2) rfl (congrArg (HAdd.hAdd x3) (by decide)) (by decide) rfl (fun ls hl => ?_)
          refine lv_goto (tgt := 17) hx hb dX6_slotFor_70 (by decide) ?_
          exact ih17 x2 (x3 + (1 : Int32)) m_s _ _ _ h hP hS (lv_sub hl [2, 1, 0] rfl)
        · have h := ifn c9 h
          refine lv_iload_n hx hb dX6_slotFor_30 rfl (lv_at hl 1 rfl) ?_
          refine lv_if_lt (tgt := 61) hx hb dX6_slotFor_31 (by decide) (fun c10 => ?_) (fun c10 => ?_)
          · have h := ift c10 h
            refine lv_iload_n hx hb dX6_slotFor_61 rfl (lv_at hl 2 rfl) ?_
            refine lv_goto (tgt := 66) hx hb dX6_slotFor_62 (by decide) ?_
            refine lv_istore_n (lv' := [(2, .int x3), (0, .ref (o 0)), (3, .int x3)]) hx hb dX6_slotFor_66 rfl hl (by decide) rfl (fun ls hl => ?_)
            refine lv_iinc (v := (x3 + (1 : Int32))) (lv' := [(3, .int (x3 + (1 : Int32))), (2, .int x3), (0, .ref (o 0))]) hx hb dX6_slotFor_67 hl (k := 2) rfl (congrArg (HAdd.hAdd x3) (by decide)) (by decide) rfl (fun ls hl => ?_)
            refine lv_goto (tgt := 17) hx hb dX6_slotFor_70 (by decide) ?_
            exact ih17 x3 (x3 + (1 : Int32)) m_s _ _ _ h hP hS (lv_sub hl [2, 1, 0] rfl)
          · have h := ifn c10 h
            refine lv_aload_n hx hb dX6_slotFor_34 rfl (lv_at hl 0 rfl) ?_
            refine va_get (D := D) (ci := 7) (v := .ref (o 1)) (C := RX6) (T := TX6) (N := 22) hx hb hts inlX6 hown hK hP 0 rfl rfl 0 (by decide) (hts _ q_4_5) (fun _ h9 => h9) rfl dX6_slotFor_35 ?_
            refine lv_iload_n hx hb dX6_slotFor_38 rfl (lv_at hl 2 rfl) ?_
            obtain ⟨q11, e11, h⟩ := bnd_some h
            refine s_call (As := [.int x3]) (rest := [.ref (o 1)]) (c_X6_at l x3 q11 e11) B k_X6_at q_11_4 rfl ⟨Nat.le_of_ble_eq_true rfl, Nat.le_of_ble_eq_true rfl⟩ ⟨Nat.le_refl _, Nat.le_refl _⟩ hl.1 rfl (Nat.le_of_ble_eq_true rfl) dX6_slotFor_39 ?_
            refine lv_bipush (v := (12 : Int32)) hx hb dX6_slotFor_42 (by decide) ?_
            refine lv_iadd hx hb dX6_slotFor_44 ?_
            obtain ⟨g12, h⟩ := grd_some h
            refine va_iald hx hb hK hP 1 0 rfl rfl (inb_in g12) dX6_slotFor_45 ?_
            refine lv_aload_n hx hb dX6_slotFor_46 rfl (lv_at hl 0 rfl) ?_
            refine va_get (D := D) (ci := 7) (v := .ref (o 1)) (C := RX6) (T := TX6) (N := 22) hx hb hts inlX6 hown hK hP 0 rfl rfl 0 (by decide) (hts _ q_4_5) (fun _ h9 => h9) rfl dX6_slotFor_47 ?_
            refine lv_iload_n hx hb dX6_slotFor_50 rfl (lv_at hl 1 rfl) ?_
            obtain ⟨q13, e13, h⟩ := bnd_some h
            refine s_call (As := [.int x2]) (rest := [.ref (o 1), .int (m_s (q11 + (12 : Int32)).toNatClampNeg)]) (c_X6_at l x2 q13 e13) B k_X6_at q_11_4 rfl ⟨Nat.le_of_ble_eq_true rfl, Nat.le_of_ble_eq_true rfl⟩ ⟨Nat.le_refl _, Nat.le_refl _⟩ hl.1 rfl (Nat.le_of_ble_eq_true rfl) dX6_slotFor_51 ?_
            refine lv_bipush (v := (12 : Int32)) hx hb dX6_slotFor_54 (by decide) ?_
            refine lv_iadd hx hb dX6_slotFor_56 ?_
            obtain ⟨g14, h⟩ := grd_some h
            refine va_iald hx hb hK hP 1 0 rfl rfl (inb_in g14) dX6_slotFor_57 ?_
            refine lv_icmp_ge (tgt := 65) hx hb dX6_slotFor_58 (by decide) (fun c15 => ?_) (fun c15 => ?_)
            · have h := ift c15 h
              refine lv_iload_n hx hb dX6_slotFor_65 rfl (lv_at hl 1 rfl) ?_
              refine lv_istore_n (lv' := [(2, .int x2), (0, .ref (o 0)), (3, .int x3)]) hx hb dX6_slotFor_66 rfl hl (by decide) rfl (fun ls hl => ?_)
              refine lv_iinc (v := (x3 + (1 : Int32))) (lv' := [(3, .int (x3 + (1 : Int32))), (2, .int x2), (0, .ref (o 0))]) hx hb dX6_slotFor_67 hl (k := 2) rfl (congrArg (HAdd.hAdd x3) (by decide)) (by decide) rfl (fun ls hl => ?_)
              refine lv_goto (tgt := 17) hx hb dX6_slotFor_70 (by decide) ?_
              exact ih17 x2 (x3 + (1 : Int32)) m_s _ _ _ h hP hS (lv_sub hl [2, 1, 0] rfl)
            · have h := ifn c15 h
              refine lv_iload_n hx hb dX6_slotFor_61 rfl (lv_at hl 2 rfl) ?_
              refine lv_goto (tgt := 66) hx hb dX6_slotFor_62 (by decide) ?_
              refine lv_istore_n (lv' := [(2, .int x3), (0, .ref (o 0)), (3, .int x3)]) hx hb dX6_slotFor_66 rfl hl (by decide) rfl (fun ls hl => ?_)
              refine lv_iinc (v := (x3 + (1 : Int32))) (lv' := [(3, .int (x3 + (1 : Int32))), (2, .int x3), (0, .ref (o 0))]) hx hb dX6_slotFor_67 hl (k := 2) rfl (congrArg (HAdd.hAdd x3) (by decide)) (by decide) rfl (fun ls hl => ?_)
              refine lv_goto (tgt := 17) hx hb dX6_slotFor_70 (by decide) ?_
              exact ih17 x3 (x3 + (1 : Int32)) m_s _ _ _ h hP hS (lv_sub hl [2, 1, 0] rfl)
  unfold f_X6_slotFor at h
  refine lv_aload_n hx hb dX6_slotFor_0 rfl (lv_at hl 0 rfl) ?_
  refine lv_iconst (v := (0 : Int32)) hx hb dX6_slotFor_1 (by decide) ?_
  obtain ⟨q1, e1, h⟩ := bnd_some h
  refine f_call (As := [.int (0 : Int32)]) (rest := []) (c_X6_slotOf l D o cI cJ (0 : Int32) m_s m_past m_kept m_spare m_paid m_pastPaid m_keptPaid m_sparePaid m_isKept m_pasts m_runs m_pad m_typed m_isStopped m_stop m_order m_best m_many m_bySets m_spot m_deeds m_deed q1 e1) B hK hDD hA hP hS rfl (va_recv hK hP (ci := 7) (q0 := 0) rfl rfl) k_X6_slotOf q_17_21 rfl ⟨Nat.le_of_ble_eq_true rfl, Nat.le_of_ble_eq_true rfl⟩ ⟨Nat.le_refl _, Nat.le_refl _⟩ hl.1 rfl (Nat.le_of_ble_eq_true rfl) dX6_slotFor_2 (fun H locs hP hS => ?_)
  refine lv_istore_n (lv' := [(1, .int q1), (0, .ref (o 0))]) hx hb dX6_slotFor_5 rfl hl (by decide) rfl (fun ls hl => ?_)
  refine lv_iload_n hx hb dX6_slotFor_6 rfl (lv_at hl 0 rfl) ?_
  refine lv_if_lt (tgt := 12) hx hb dX6_slotFor_7 (by decide) (fun c2 => ?_) (fun c2 => ?_)
  · have h := ift c2 h
    refine lv_bipush (v := (-4 : Int32)) hx hb dX6_slotFor_12 (by decide) ?_
    refine lv_istore_n (lv' := [(2, .int (-4 : Int32)), (1, .int q1), (0, .ref (o 0))]) hx hb dX6_slotFor_14 rfl hl (by decide) rfl (fun ls hl => ?_)
    refine lv_iconst (v := (0 : Int32)) hx hb dX6_slotFor_15 (by decide) ?_
    refine lv_istore_n (lv' := [(3, .int (0 : Int32)), (2, .int (-4 : Int32)), (1, .int q1), (0, .ref (o 0))]) hx hb dX6_slotFor_16 rfl hl (by decide) rfl (fun ls hl => ?_)
    exact hL17 1024 (-4 : Int32) (0 : Int32) m_s _ _ _ h hP hS (lv_sub hl [3, 1, 0] rfl)
  · have h := ifn c2 h
    refine lv_iload_n hx hb dX6_slotFor_10 rfl (lv_at hl 0 rfl) ?_
    obtain rfl := Option.some.inj h
    exact hret _ _ _ _ (vp_nar_int _) dX6_slotFor_11 hP hS

def f_X6_makes_L153b (a1 : Int32)   (k153 : Int32 → Int64 → Int32 → (Nat → Int32) → (Nat → Int32) → (Nat → Int32) → Int32 → Option (Int64 × (Nat → Int32) × (Nat → Int32) × (Nat → Int32) × (Int32))) (x4 : Int32) (x5 : Int64) (x7 : Int32) (m_s : Nat → Int32) (m_order : Nat → Int32) (m_best : Nat → Int32) (m_many : Int32) : Option (Int64 × (Nat → Int32) × (Nat → Int32) × (Nat → Int32) × (Int32)) :=
  if (5 : Int32) ≤ x7 then bnd (f_X6_at x4 ) (fun q14 => grd (inb (q14 + (11 : Int32)) 100) (bnd (f_X6_at x4 ) (fun q16 => grd (inb (92 : Int32) 100) (grd (inb (q16 + (12 : Int32)) 100) (some (x5, (upd (upd m_s (q14 + (11 : Int32)).toNatClampNeg (1 : Int32)) (q16 + (12 : Int32)).toNatClampNeg ((upd m_s (q14 + (11 : Int32)).toNatClampNeg (1 : Int32)) (92 : Int32).toNatClampNeg)), m_order, m_best, m_many))))))
  else bnd (f_X6_at x4 ) (fun q19 => grd (inb ((5 : Int32) + x7) 100) (grd (inb ((q19 + (6 : Int32)) + x7) 100) (k153 x4 x5 (x7 + (1 : Int32)) (upd m_s ((q19 + (6 : Int32)) + x7).toNatClampNeg (m_s ((5 : Int32) + x7).toNatClampNeg)) m_order m_best m_many)))
def f_X6_makes_L153 (a1 : Int32)   : Nat → Int32 → Int64 → Int32 → (Nat → Int32) → (Nat → Int32) → (Nat → Int32) → Int32 → Option (Int64 × (Nat → Int32) × (Nat → Int32) × (Nat → Int32) × (Int32))
  | 0 => fun _ _ _ _ _ _ _ => none
  | n + 1 => f_X6_makes_L153b a1  (f_X6_makes_L153 a1  n)
def f_X6_makes_L113b (a1 : Int32)   (k113 : Int32 → Int64 → Int32 → (Nat → Int32) → (Nat → Int32) → (Nat → Int32) → Int32 → Option (Int64 × (Nat → Int32) × (Nat → Int32) × (Nat → Int32) × (Int32))) (x4 : Int32) (x5 : Int64) (x7 : Int32) (m_s : Nat → Int32) (m_order : Nat → Int32) (m_best : Nat → Int32) (m_many : Int32) : Option (Int64 × (Nat → Int32) × (Nat → Int32) × (Nat → Int32) × (Int32)) :=
  if m_many ≤ x7 then f_X6_makes_L153 a1  1024 x4 x5 (0 : Int32) m_s m_order m_best m_many
  else bnd (f_X6_at x4 ) (fun q22 => grd (inb x7 5) (grd (inb ((q22 + (1 : Int32)) + x7) 100) (k113 x4 x5 (x7 + (1 : Int32)) (upd m_s ((q22 + (1 : Int32)) + x7).toNatClampNeg (m_best x7.toNatClampNeg)) m_order m_best m_many)))
def f_X6_makes_L113 (a1 : Int32)   : Nat → Int32 → Int64 → Int32 → (Nat → Int32) → (Nat → Int32) → (Nat → Int32) → Int32 → Option (Int64 × (Nat → Int32) × (Nat → Int32) × (Nat → Int32) × (Int32))
  | 0 => fun _ _ _ _ _ _ _ => none
  | n + 1 => f_X6_makes_L113b a1  (f_X6_makes_L113 a1  n)
def f_X6_makes_L38b (a1 : Int32)   (k38 : Int32 → Int32 → (Nat → Int32) → (Nat → Int32) → (Nat → Int32) → Int32 → Option (Int64 × (Nat → Int32) × (Nat → Int32) × (Nat → Int32) × (Int32))) (x4 : Int32) (x5 : Int32) (m_s : Nat → Int32) (m_order : Nat → Int32) (m_best : Nat → Int32) (m_many : Int32) : Option (Int64 × (Nat → Int32) × (Nat → Int32) × (Nat → Int32) × (Int32)) :=
  if m_many ≤ x5 then bnd (f_X6_costOf (0 : Int32) m_s m_order m_many) (fun q7 => if (0 : Int32) ≤ x4 then bnd (f_X6_empties x4 m_s) (fun q9 => bnd (f_X6_at x4 ) (fun q10 => grd (inb q10 100) (f_X6_makes_L113 a1  1024 x4 q7 (0 : Int32) (upd q9 q10.toNatClampNeg a1) m_order m_best m_many)))
  else grd (inb (99 : Int32) 100) (grd (inb (99 : Int32) 100) (some (q7, (upd m_s (99 : Int32).toNatClampNeg ((m_s (99 : Int32).toNatClampNeg) + (1 : Int32))), m_order, m_best, m_many))))
  else grd (inb x5 5) (grd (inb x5 5) (k38 x4 (x5 + (1 : Int32)) m_s (upd m_order x5.toNatClampNeg (m_best x5.toNatClampNeg)) m_best m_many))
def f_X6_makes_L38 (a1 : Int32)   : Nat → Int32 → Int32 → (Nat → Int32) → (Nat → Int32) → (Nat → Int32) → Int32 → Option (Int64 × (Nat → Int32) × (Nat → Int32) × (Nat → Int32) × (Int32))
  | 0 => fun _ _ _ _ _ _ => none
  | n + 1 => f_X6_makes_L38b a1  (f_X6_makes_L38 a1  n)
def f_X6_makes (a1 : Int32) (m_s : Nat → Int32) (m_order : Nat → Int32) (m_best : Nat → Int32) (m_many : Int32) : Option (Int64 × (Nat → Int32) × (Nat → Int32) × (Nat → Int32) × (Int32)) :=
  bnd (f_X6_finds a1 (5 : Int32) m_s m_order m_best m_many) (fun q1 => if (0 : Int32) ≤ (lg_cmp q1.1 (0 : Int64)) then bnd (f_X6_slotFor  m_s) (fun q3 => grd (inb (94 : Int32) 100) (grd (inb (94 : Int32) 100) (f_X6_makes_L38 a1  1024 q3.1 (0 : Int32) (upd q3.2 (94 : Int32).toNatClampNeg ((q3.2 (94 : Int32).toNatClampNeg) + (1 : Int32))) q1.2.1 q1.2.2.1 q1.2.2.2)))
  else grd (inb (94 : Int32) 100) (grd (inb (94 : Int32) 100) (f_X6_makes_L38 a1  1024 (-4 : Int32) (0 : Int32) (upd m_s (94 : Int32).toNatClampNeg ((m_s (94 : Int32).toNatClampNeg) + (1 : Int32))) q1.2.1 q1.2.2.1 q1.2.2.2)))
set_option maxRecDepth 100000 in
set_option maxHeartbeats 4000000 in
theorem c_X6_makes (l : Launch) (D : va_G) (o : Nat → Nat) (cI cJ : ClassId) (a1 : Int32) (m_s : Nat → Int32) (m_past : Nat → Int32) (m_kept : Nat → Int32) (m_spare : Nat → Int32) (m_paid : Nat → Int64) (m_pastPaid : Nat → Int64) (m_keptPaid : Nat → Int64) (m_sparePaid : Nat → Int64) (m_isKept : Int32) (m_pasts : Int32) (m_runs : Int32) (m_pad : Nat → Int32) (m_typed : Int32) (m_isStopped : Int32) (m_stop : Nat → Int32) (m_order : Nat → Int32) (m_best : Nat → Int32) (m_many : Int32) (m_bySets : Nat → Int64) (m_spot : Int32) (m_deeds : Int32) (m_deed : Nat → Int32) (q : Int64 × (Nat → Int32) × (Nat → Int32) × (Nat → Int32) × (Int32)) (h : f_X6_makes a1 m_s m_order m_best m_many = some q) : CF l yX6_makes cX6_makes 8 3 (some .long) D (tysMW cI cJ) [.ref (o 0), .int a1] (some (.long q.1)) (MW o cI cJ m_s m_past m_kept m_spare m_paid m_pastPaid m_keptPaid m_sparePaid m_isKept m_pasts m_runs m_pad m_typed m_isStopped m_stop m_order m_best m_many m_bySets m_spot m_deeds m_deed) (MW o cI cJ q.2.1 m_past m_kept m_spare m_paid m_pastPaid m_keptPaid m_sparePaid m_isKept m_pasts m_runs m_pad m_typed m_isStopped m_stop q.2.2.1 q.2.2.2.1 q.2.2.2.2 m_bySets m_spot m_deeds m_deed) := by
  refine CF.mkL (by decide) (Nat.le_of_ble_eq_true rfl) ?_
  intro p e s m below meth c Q A B hK hDD hA hret hP hS ls hl
  have B0 := B
  obtain ⟨hx, hb, hml, hown, hts⟩ := B0
  have hl : lv_has ls 8 [(0, .ref (o 0)), (1, .int a1)] := hl
  have hL153 : ∀ (n153 : Nat) (x4 : Int32) (x5 : Int64) (x7 : Int32) (m_s : Nat → Int32) (m_order : Nat → Int32) (m_best : Nat → Int32) (m_many : Int32) (ls : Array Slot) (H : Heap) (locs : List Loc), f_X6_makes_L153 a1  n153 x4 x5 x7 m_s m_order m_best m_many = some q → va_P D vwCl (MW o cI cJ m_s m_past m_kept m_spare m_paid m_pastPaid m_keptPaid m_sparePaid m_isKept m_pasts m_runs m_pad m_typed m_isStopped m_stop m_order m_best m_many m_bySets m_spot m_deeds m_deed) H → va_S A s.heap H locs → lv_has ls 8 [(0, .ref (o 0)), (4, .int x4), (5, .long x5), (7, .int x7)] → W p l e (rmF 3 0 0) s m ([.ref (o 0), .int a1] : List Value).toArray below meth c H locs 0 0 Q (F0 m 153 ls []) := by
    intro n153
    induction n153 with
    | zero =>
      intro x4 x5 x7 m_s m_order m_best m_many ls H locs h
      exact absurd (show (none : Option (Int64 × (Nat → Int32) × (Nat → Int32) × (Nat → Int32) × (Int32))) = some q from h) (by intro h; cases h)
    | succ n153 ih153 =>
      intro x4 x5 x7 m_s m_order m_best m_many ls H locs h hP hS hl
      have h : f_X6_makes_L153b a1  (f_X6_makes_L153 a1  n153) x4 x5 x7 m_s m_order m_best m_many = some q := h
      unfold f_X6_makes_L153b at h
      refine lv_iload hx hb dX6_makes_153 (lv_at hl 3 rfl) ?_
      refine lv_iconst (v := (5 : Int32)) hx hb dX6_makes_155 (by decide) ?_
      refine lv_icmp_ge (tgt := 190) hx hb dX6_makes_156 (by decide) (fun c13 => ?_) (fun c13 => ?_)
      · have h := ift c13 h
        refine lv_aload_n hx hb dX6_makes_190 rfl (lv_at hl 0 rfl) ?_
        refine va_get (D := D) (ci := 7) (v := .ref (o 1)) (C := RX6) (T := TX6) (N := 22) hx hb hts inlX6 hown hK hP 0 rfl rfl 0 (by decide) (hts _ q_4_5) (fun _ h9 => h9) rfl dX6_makes_191 ?_
        refine lv_iload hx hb dX6_makes_194 (lv_at hl 1 rfl) ?_
        obtain ⟨q14, e14, h⟩ := bnd_some h
        refine s_call (As := [.int x4]) (rest := [.ref (o 1)]) (c_X6_at l x4 q14 e14) B k_X6_at q_11_4 rfl ⟨Nat.le_of_ble_eq_true rfl, Nat.le_of_ble_eq_true rfl⟩ ⟨Nat.le_refl _, Nat.le_refl _⟩ hl.1 rfl (Nat.le_of_ble_eq_true rfl) dX6_makes_196 ?_
        refine lv_bipush (v := (11 : Int32)) hx hb dX6_makes_199 (by decide) ?_
        refine lv_iadd hx hb dX6_makes_201 ?_
        refine lv_iconst (v := (1 : Int32)) hx hb dX6_makes_202 (by decide) ?_
        obtain ⟨g15, h⟩ := grd_some h
        refine va_iast hx hb hK hP (hDD _ rfl) hS 1 0 rfl rfl (inb_in g15) dX6_makes_203 (fun H locs hP _ hS => ?_)
        have hP : va_P D vwCl (MW o cI cJ (upd m_s (q14 + (11 : Int32)).toNatClampNeg (1 : Int32)) m_past m_kept m_spare m_paid m_pastPaid m_keptPaid m_sparePaid m_isKept m_pasts m_runs m_pad m_typed m_isStopped m_stop m_order m_best m_many m_bySets m_spot m_deeds m_deed) H := hP
        refine lv_aload_n hx hb dX6_makes_204 rfl (lv_at hl 0 rfl) ?_
        refine va_get (D := D) (ci := 7) (v := .ref (o 1)) (C := RX6) (T := TX6) (N := 22) hx hb hts inlX6 hown hK hP 0 rfl rfl 0 (by decide) (hts _ q_4_5) (fun _ h9 => h9) rfl dX6_makes_205 ?_
        refine lv_iload hx hb dX6_makes_208 (lv_at hl 1 rfl) ?_
        obtain ⟨q16, e16, h⟩ := bnd_some h
        refine s_call (As := [.int x4]) (rest := [.ref (o 1)]) (c_X6_at l x4 q16 e16) B k_X6_at q_11_4 rfl ⟨Nat.le_of_ble_eq_true rfl, Nat.le_of_ble_eq_true rfl⟩ ⟨Nat.le_refl _, Nat.le_refl _⟩ hl.1 rfl (Nat.le_of_ble_eq_true rfl) dX6_makes_210 ?_
        refine lv_bipush (v := (12 : Int32)) hx hb dX6_makes_213 (by decide) ?_
        refine lv_iadd hx hb dX6_makes_215 ?_
        refine lv_aload_n hx hb dX6_makes_216 rfl (lv_at hl 0 rfl) ?_
        refine va_get (D := D) (ci := 7) (v := .ref (o 1)) (C := RX6) (T := TX6) (N := 22) hx hb hts inlX6 hown hK hP 0 rfl rfl 0 (by decide) (hts _ q_4_5) (fun _ h9 => h9) rfl dX6_makes_217 ?_
        refine lv_bipush (v := (92 : Int32)) hx hb dX6_makes_220 (by decide) ?_
        obtain ⟨g17, h⟩ := grd_some h
        refine va_iald hx hb hK hP 1 0 rfl rfl (inb_in g17) dX6_makes_222 ?_
        obtain ⟨g18, h⟩ := grd_some h
        refine va_iast hx hb hK hP (hDD _ rfl) hS 1 0 rfl rfl (inb_in g18) dX6_makes_223 (fun H locs hP _ hS => ?_)
        have hP : va_P D vwCl (MW o cI cJ (upd (upd m_s (q14 + (11 : Int32)).toNatClampNeg (1 : Int32)) (q16 + (12 : Int32)).toNatClampNeg ((upd m_s (q14 + (11 : Int32)).toNatClampNeg (1 : Int32)) (92 : Int32).toNatClampNeg)) m_past m_kept m_spare m_paid m_pastPaid m_keptPaid m_sparePaid m_isKept m_pasts m_runs m_pad m_typed m_isStopped m_stop m_order m_best m_many m_bySets m_spot m_deeds m_deed) H := hP
        refine lv_lload hx hb dX6_makes_224 (lv_at hl 2 rfl) ?_
        obtain rfl := Option.some.inj h
        exact hret _ _ _ _ dX6_makes_226 hP hS
      · have h := ifn c13 h
        refine lv_aload_n hx hb dX6_makes_159 rfl (lv_at hl 0 rfl) ?_
        refine va_get (D := D) (ci := 7) (v := .ref (o 1)) (C := RX6) (T := TX6) (N := 22) hx hb hts inlX6 hown hK hP 0 rfl rfl 0 (by decide) (hts _ q_4_5) (fun _ h9 => h9) rfl dX6_makes_160 ?_
        refine lv_iload hx hb dX6_makes_163 (lv_at hl 1 rfl) ?_
        obtain ⟨q19, e19, h⟩ := bnd_some h
        refine s_call (As := [.int x4]) (rest := [.ref (o 1)]) (c_X6_at l x4 q19 e19) B k_X6_at q_11_4 rfl ⟨Nat.le_of_ble_eq_true rfl, Nat.le_of_ble_eq_true rfl⟩ ⟨Nat.le_refl _, Nat.le_refl _⟩ hl.1 rfl (Nat.le_of_ble_eq_true rfl) dX6_makes_165 ?_
        refine lv_bipush (v := (6 : Int32)) hx hb dX6_makes_168 (by decide) ?_
        refine lv_iadd hx hb dX6_makes_170 ?_
        refine lv_iload hx hb dX6_makes_171 (lv_at hl 3 rfl) ?_
        refine lv_iadd hx hb dX6_makes_173 ?_
        refine lv_aload_n hx hb dX6_makes_174 rfl (lv_at hl 0 rfl) ?_
        refine va_get (D := D) (ci := 7) (v := .ref (o 1)) (C := RX6) (T := TX6) (N := 22) hx hb hts inlX6 hown hK hP 0 rfl rfl 0 (by decide) (hts _ q_4_5) (fun _ h9 => h9) rfl dX6_makes_175 ?_
        refine lv_iconst (v := (5 : Int32)) hx hb dX6_makes_178 (by decide) ?_
        refine lv_iload hx hb dX6_makes_179 (lv_at hl 3 rfl) ?_
        refine lv_iadd hx hb dX6_makes_181 ?_
        obtain ⟨g20, h⟩ := grd_some h
        refine va_iald hx hb hK hP 1 0 rfl rfl (inb_in g20) dX6_makes_182 ?_
        obtain ⟨g21, h⟩ := grd_some h
        refine va_iast hx hb hK hP (hDD _ rfl) hS 1 0 rfl rfl (inb_in g21) dX6_makes_183 (fun H locs hP _ hS => ?_)
        have hP : va_P D vwCl (MW o cI cJ (upd m_s ((q19 + (6 : Int32)) + x7).toNatClampNeg (m_s ((5 : Int32) + x7).toNatClampNeg)) m_past m_kept m_spare m_paid m_pastPaid m_keptPaid m_sparePaid m_isKept m_pasts m_runs m_pad m_typed m_isStopped m_stop m_order m_best m_many m_bySets m_spot m_deeds m_deed) H := hP
        refine lv_iinc (v := (x7 + (1 : Int32))) (lv' := [(7, .int (x7 + (1 : Int32))), (0, .ref (o 0)), (4, .int x4), (5, .long x5)]) hx hb dX6_makes_184 hl (k := 3) rfl (congrArg (HAdd.hAdd x7) (by decide)) (by decide) rfl (fun ls hl => ?_)
        refine lv_goto (tgt := 153) hx hb dX6_makes_187 (by decide) ?_
        exact ih153 x4 x5 (x7 + (1 : Int32)) (upd m_s ((q19 + (6 : Int32)) + x7).toNatClampNeg (m_s ((5 : Int32) + x7).toNatClampNeg)) m_order m_best m_many _ _ _ h hP hS (lv_sub hl [1, 2, 3, 0] rfl)
  have hL113 : ∀ (n113 : Nat) (x4 : Int32) (x5 : Int64) (x7 : Int32) (m_s : Nat → Int32) (m_order : Nat → Int32) (m_best : Nat → Int32) (m_many : Int32) (ls : Array Slot) (H : Heap) (locs : List Loc), f_X6_makes_L113 a1  n113 x4 x5 x7 m_s m_order m_best m_many = some q → va_P D vwCl (MW o cI cJ m_s m_past m_kept m_spare m_paid m_pastPaid m_keptPaid m_sparePaid m_isKept m_pasts m_runs m_pad m_typed m_isStopped m_stop m_order m_best m_many m_bySets m_spot m_deeds m_deed) H → va_S A s.heap H locs → lv_has ls 8 [(0, .ref (o 0)), (4, .int x4), (5, .long x5), (7, .int x7)] → W p l e (rmF 3 0 0) s m ([.ref (o 0), .int a1] : List Value).toArray below meth c H locs 0 0 Q (F0 m 113 ls []) := by
    intro n113
    induction n113 with
    | zero =>
      intro x4 x5 x7 m_s m_order m_best m_many ls H locs h
      exact absurd (show (none : Option (Int64 × (Nat → Int32) × (Nat → Int32) × (Nat → Int32) × (Int32))) = some q from h) (by intro h; cases h)
    | succ n113 ih113 =>
      intro x4 x5 x7 m_s m_order m_best m_many ls H locs h hP hS hl
      have h : f_X6_makes_L113b a1  (f_X6_makes_L113 a1  n113) x4 x5 x7 m_s m_order m_best m_many = some q := h
      unfold f_X6_makes_L113b at h
      refine lv_iload hx hb dX6_makes_113 (lv_at hl 3 rfl) ?_
      refine lv_aload_n hx hb dX6_makes_115 rfl (lv_at hl 0 rfl) ?_
      refine va_get (D := D) (ci := 7) (v := .int m_many) (C := RX6) (T := TX6) (N := 22) hx hb hts inlX6 hown hK hP 0 rfl rfl 17 (by decide) (hts _ q_18_8) (fun _ h9 => h9) rfl dX6_makes_116 ?_
      refine lv_icmp_ge (tgt := 150) hx hb dX6_makes_119 (by decide) (fun c12 => ?_) (fun c12 => ?_)
      · have h := ift c12 h
        refine lv_iconst (v := (0 : Int32)) hx hb dX6_makes_150 (by decide) ?_
        refine lv_istore (lv' := [(7, .int (0 : Int32)), (0, .ref (o 0)), (4, .int x4), (5, .long x5)]) hx hb dX6_makes_151 hl (by decide) rfl (fun ls hl => ?_)
        exact hL153 1024 x4 x5 (0 : Int32) m_s m_order m_best m_many _ _ _ h hP hS (lv_sub hl [1, 2, 3, 0] rfl)
      · have h := ifn c12 h
        refine lv_aload_n hx hb dX6_makes_122 rfl (lv_at hl 0 rfl) ?_
        refine va_get (D := D) (ci := 7) (v := .ref (o 1)) (C := RX6) (T := TX6) (N := 22) hx hb hts inlX6 hown hK hP 0 rfl rfl 0 (by decide) (hts _ q_4_5) (fun _ h9 => h9) rfl dX6_makes_123 ?_
        refine lv_iload hx hb dX6_makes_126 (lv_at hl 1 rfl) ?_
        obtain ⟨q22, e22, h⟩ := bnd_some h
        refine s_call (As := [.int x4]) (rest := [.ref (o 1)]) (c_X6_at l x4 q22 e22) B k_X6_at q_11_4 rfl ⟨Nat.le_of_ble_eq_true rfl, Nat.le_of_ble_eq_true rfl⟩ ⟨Nat.le_refl _, Nat.le_refl _⟩ hl.1 rfl (Nat.le_of_ble_eq_true rfl) dX6_makes_128 ?_
        refine lv_iconst (v := (1 : Int32)) hx hb dX6_makes_131 (by decide) ?_
        refine lv_iadd hx hb dX6_makes_132 ?_
        refine lv_iload hx hb dX6_makes_133 (lv_at hl 3 rfl) ?_
        refine lv_iadd hx hb dX6_makes_135 ?_
        refine lv_aload_n hx hb dX6_makes_136 rfl (lv_at hl 0 rfl) ?_
        refine va_get (D := D) (ci := 7) (v := .ref (o 12)) (C := RX6) (T := TX6) (N := 22) hx hb hts inlX6 hown hK hP 0 rfl rfl 16 (by decide) (hts _ q_4_16) (fun _ h9 => h9) rfl dX6_makes_137 ?_
        refine lv_iload hx hb dX6_makes_140 (lv_at hl 3 rfl) ?_
        obtain ⟨g23, h⟩ := grd_some h
        refine va_iald hx hb hK hP 12 0 rfl rfl (inb_in g23) dX6_makes_142 ?_
        obtain ⟨g24, h⟩ := grd_some h
        refine va_iast hx hb hK hP (hDD _ rfl) hS 1 0 rfl rfl (inb_in g24) dX6_makes_143 (fun H locs hP _ hS => ?_)
        have hP : va_P D vwCl (MW o cI cJ (upd m_s ((q22 + (1 : Int32)) + x7).toNatClampNeg (m_best x7.toNatClampNeg)) m_past m_kept m_spare m_paid m_pastPaid m_keptPaid m_sparePaid m_isKept m_pasts m_runs m_pad m_typed m_isStopped m_stop m_order m_best m_many m_bySets m_spot m_deeds m_deed) H := hP
        refine lv_iinc (v := (x7 + (1 : Int32))) (lv' := [(7, .int (x7 + (1 : Int32))), (0, .ref (o 0)), (4, .int x4), (5, .long x5)]) hx hb dX6_makes_144 hl (k := 3) rfl (congrArg (HAdd.hAdd x7) (by decide)) (by decide) rfl (fun ls hl => ?_)
        refine lv_goto (tgt := 113) hx hb dX6_makes_147 (by decide) ?_
        exact ih113 x4 x5 (x7 + (1 : Int32)) (upd m_s ((q22 + (1 : Int32)) + x7).toNatClampNeg (m_best x7.toNatClampNeg)) m_order m_best m_many _ _ _ h hP hS (lv_sub hl [1, 2, 3, 0] rfl)
  have hL38 : ∀ (n38 : Nat) (x4 : Int32) (x5 : Int32) (m_s : Nat → Int32) (m_order : Nat → Int32) (m_best : Nat → Int32) (m_many : Int32) (ls : Array Slot) (H : Heap) (locs : List Loc), f_X6_makes_L38 a1  n38 x4 x5 m_s m_order m_best m_many = some q → va_P D vwCl (MW o cI cJ m_s m_past m_kept m_spare m_paid m_pastPaid m_keptPaid m_sparePaid m_isKept m_pasts m_runs m_pad m_typed m_isStopped m_stop m_order m_best m_many m_bySets m_spot m_deeds m_deed) H → va_S A s.heap H locs → lv_has ls 8 [(0, .ref (o 0)), (1, .int a1), (4, .int x4), (5, .int x5)] → W p l e (rmF 3 0 0) s m ([.ref (o 0), .int a1] : List Value).toArray below meth c H locs 0 0 Q (F0 m 38 ls []) := by
    intro n38
    induction n38 with
    | zero =>
      intro x4 x5 m_s m_order m_best m_many ls H locs h
      exact absurd (show (none : Option (Int64 × (Nat → Int32) × (Nat → Int32) × (Nat → Int32) × (Int32))) = some q from h) (by intro h; cases h)
    | succ n38 ih38 =>
      intro x4 x5 m_s m_order m_best m_many ls H locs h hP hS hl
      have h : f_X6_makes_L38b a1  (f_X6_makes_L38 a1  n38) x4 x5 m_s m_order m_best m_many = some q := h
      unfold f_X6_makes_L38b at h
      refine lv_iload hx hb dX6_makes_38 (lv_at hl 3 rfl) ?_
      refine lv_aload_n hx hb dX6_makes_40 rfl (lv_at hl 0 rfl) ?_
      refine va_get (D := D) (ci := 7) (v := .int m_many) (C := RX6) (T := TX6) (N := 22) hx hb hts inlX6 hown hK hP 0 rfl rfl 17 (by decide) (hts _ q_18_8) (fun _ h9 => h9) rfl dX6_makes_41 ?_
      refine lv_icmp_ge (tgt := 67) hx hb dX6_makes_44 (by decide) (fun c6 => ?_) (fun c6 => ?_)
      · have h := ift c6 h
        refine lv_aload_n hx hb dX6_makes_67 rfl (lv_at hl 0 rfl) ?_
        refine lv_iconst (v := (0 : Int32)) hx hb dX6_makes_68 (by decide) ?_
        obtain ⟨q7, e7, h⟩ := bnd_some h
        refine f_call (As := [.int (0 : Int32)]) (rest := []) (c_X6_costOf l D o cI cJ (0 : Int32) m_s m_past m_kept m_spare m_paid m_pastPaid m_keptPaid m_sparePaid m_isKept m_pasts m_runs m_pad m_typed m_isStopped m_stop m_order m_best m_many m_bySets m_spot m_deeds m_deed q7 e7) B hK hDD hA hP hS rfl (va_recv hK hP (ci := 7) (q0 := 0) rfl rfl) k_X6_costOf q_18_14 rfl ⟨Nat.le_of_ble_eq_true rfl, Nat.le_of_ble_eq_true rfl⟩ ⟨Nat.le_refl _, Nat.le_refl _⟩ hl.1 rfl (Nat.le_of_ble_eq_true rfl) dX6_makes_69 (fun H locs hP hS => ?_)
        refine lv_lstore (lv' := [(5, .long q7), (0, .ref (o 0)), (1, .int a1), (4, .int x4)]) hx hb dX6_makes_72 hl (by decide) rfl (fun ls hl => ?_)
        refine lv_iload hx hb dX6_makes_74 (lv_at hl 3 rfl) ?_
        refine lv_if_ge (tgt := 93) hx hb dX6_makes_76 (by decide) (fun c8 => ?_) (fun c8 => ?_)
        · have h := ift c8 h
          refine lv_aload_n hx hb dX6_makes_93 rfl (lv_at hl 1 rfl) ?_
          refine lv_iload hx hb dX6_makes_94 (lv_at hl 3 rfl) ?_
          obtain ⟨q9, e9, h⟩ := bnd_some h
          refine f_call (As := [.int x4]) (rest := []) (c_X6_empties l D o cI cJ x4 m_s m_past m_kept m_spare m_paid m_pastPaid m_keptPaid m_sparePaid m_isKept m_pasts m_runs m_pad m_typed m_isStopped m_stop m_order m_best m_many m_bySets m_spot m_deeds m_deed q9 e9) B hK hDD hA hP hS rfl (va_recv hK hP (ci := 7) (q0 := 0) rfl rfl) k_X6_empties q_11_7 rfl ⟨Nat.le_of_ble_eq_true rfl, Nat.le_of_ble_eq_true rfl⟩ ⟨Nat.le_refl _, Nat.le_refl _⟩ hl.1 rfl (Nat.le_of_ble_eq_true rfl) dX6_makes_96 (fun H locs hP hS => ?_)
          refine lv_aload_n hx hb dX6_makes_99 rfl (lv_at hl 1 rfl) ?_
          refine va_get (D := D) (ci := 7) (v := .ref (o 1)) (C := RX6) (T := TX6) (N := 22) hx hb hts inlX6 hown hK hP 0 rfl rfl 0 (by decide) (hts _ q_4_5) (fun _ h9 => h9) rfl dX6_makes_100 ?_
          refine lv_iload hx hb dX6_makes_103 (lv_at hl 3 rfl) ?_
          obtain ⟨q10, e10, h⟩ := bnd_some h
          refine s_call (As := [.int x4]) (rest := [.ref (o 1)]) (c_X6_at l x4 q10 e10) B k_X6_at q_11_4 rfl ⟨Nat.le_of_ble_eq_true rfl, Nat.le_of_ble_eq_true rfl⟩ ⟨Nat.le_refl _, Nat.le_refl _⟩ hl.1 rfl (Nat.le_of_ble_eq_true rfl) dX6_makes_105 ?_
          refine lv_iload_n hx hb dX6_makes_108 rfl (lv_at hl 2 rfl) ?_
          obtain ⟨g11, h⟩ := grd_some h
          refine va_iast hx hb hK hP (hDD _ rfl) hS 1 0 rfl rfl (inb_in g11) dX6_makes_109 (fun H locs hP _ hS => ?_)
          have hP : va_P D vwCl (MW o cI cJ (upd q9 q10.toNatClampNeg a1) m_past m_kept m_spare m_paid m_pastPaid m_keptPaid m_sparePaid m_isKept m_pasts m_runs m_pad m_typed m_isStopped m_stop m_order m_best m_many m_bySets m_spot m_deeds m_deed) H := hP
          refine lv_iconst (v := (0 : Int32)) hx hb dX6_makes_110 (by decide) ?_
          refine lv_istore (lv' := [(7, .int (0 : Int32)), (5, .long q7), (0, .ref (o 0)), (1, .int a1), (4, .int x4)]) hx hb dX6_makes_111 hl (by decide) rfl (fun ls hl => ?_)
          exact hL113 1024 x4 q7 (0 : Int32) (upd q9 q10.toNatClampNeg a1) m_order m_best m_many _ _ _ h hP hS (lv_sub hl [2, 4, 1, 0] rfl)
        · have h := ifn c8 h
          refine lv_aload_n hx hb dX6_makes_79 rfl (lv_at hl 1 rfl) ?_
          refine va_get (D := D) (ci := 7) (v := .ref (o 1)) (C := RX6) (T := TX6) (N := 22) hx hb hts inlX6 hown hK hP 0 rfl rfl 0 (by decide) (hts _ q_4_5) (fun _ h9 => h9) rfl dX6_makes_80 ?_
          refine lv_bipush (v := (99 : Int32)) hx hb dX6_makes_83 (by decide) ?_
          refine lv_dup2_11 hx hb dX6_makes_85 rfl rfl ?_
          obtain ⟨g25, h⟩ := grd_some h
          refine va_iald hx hb hK hP 1 0 rfl rfl (inb_in g25) dX6_makes_86 ?_
          refine lv_iconst (v := (1 : Int32)) hx hb dX6_makes_87 (by decide) ?_
          refine lv_iadd hx hb dX6_makes_88 ?_
          obtain ⟨g26, h⟩ := grd_some h
          refine va_iast hx hb hK hP (hDD _ rfl) hS 1 0 rfl rfl (inb_in g26) dX6_makes_89 (fun H locs hP _ hS => ?_)
          have hP : va_P D vwCl (MW o cI cJ (upd m_s (99 : Int32).toNatClampNeg ((m_s (99 : Int32).toNatClampNeg) + (1 : Int32))) m_past m_kept m_spare m_paid m_pastPaid m_keptPaid m_sparePaid m_isKept m_pasts m_runs m_pad m_typed m_isStopped m_stop m_order m_best m_many m_bySets m_spot m_deeds m_deed) H := hP
          refine lv_lload hx hb dX6_makes_90 (lv_at hl 0 rfl) ?_
          obtain rfl := Option.some.inj h
          exact hret _ _ _ _ dX6_makes_92 hP hS
      · have h := ifn c6 h
        refine lv_aload_n hx hb dX6_makes_47 rfl (lv_at hl 0 rfl) ?_
        refine va_get (D := D) (ci := 7) (v := .ref (o 11)) (C := RX6) (T := TX6) (N := 22) hx hb hts inlX6 hown hK hP 0 rfl rfl 15 (by decide) (hts _ q_4_15) (fun _ h9 => h9) rfl dX6_makes_48 ?_
        refine lv_iload hx hb dX6_makes_51 (lv_at hl 3 rfl) ?_
        refine lv_aload_n hx hb dX6_makes_53 rfl (lv_at hl 0 rfl) ?_
        refine va_get (D := D) (ci := 7) (v := .ref (o 12)) (C := RX6) (T := TX6) (N := 22) hx hb hts inlX6 hown hK hP 0 rfl rfl 16 (by decide) (hts _ q_4_16) (fun _ h9 => h9) rfl dX6_makes_54 ?_
        refine lv_iload hx hb dX6_makes_57 (lv_at hl 3 rfl) ?_
        obtain ⟨g27, h⟩ := grd_some h
        refine va_iald hx hb hK hP 12 0 rfl rfl (inb_in g27) dX6_makes_59 ?_
        obtain ⟨g28, h⟩ := grd_some h
        refine va_iast hx hb hK hP (hDD _ rfl) hS 11 0 rfl rfl (inb_in g28) dX6_makes_60 (fun H locs hP _ hS => ?_)
        have hP : va_P D vwCl (MW o cI cJ m_s m_past m_kept m_spare m_paid m_pastPaid m_keptPaid m_sparePaid m_isKept m_pasts m_runs m_pad m_typed m_isStopped m_stop (upd m_order x5.toNatClampNeg (m_best x5.toNatClampNeg)) m_best m_many m_bySets m_spot m_deeds m_deed) H := hP
        refine lv_iinc (v := (x5 + (1 : Int32))) (lv' := [(5, .int (x5 + (1 : Int32))), (0, .ref (o 0)), (1, .int a1), (4, .int x4)]) hx hb dX6_makes_61 hl (k := 3) rfl (congrArg (HAdd.hAdd x5) (by decide)) (by decide) rfl (fun ls hl => ?_)
        refine lv_goto (tgt := 38) hx hb dX6_makes_64 (by decide) ?_
        exact ih38 x4 (x5 + (1 : Int32)) m_s (upd m_order x5.toNatClampNeg (m_best x5.toNatClampNeg)) m_best m_many _ _ _ h hP hS (lv_sub hl [1, 2, 3, 0] rfl)
  unfold f_X6_makes at h
  refine lv_aload_n hx hb dX6_makes_0 rfl (lv_at hl 0 rfl) ?_
  refine lv_iload_n hx hb dX6_makes_1 rfl (lv_at hl 1 rfl) ?_
  refine lv_iconst (v := (5 : Int32)) hx hb dX6_makes_2 (by decide) ?_
  obtain ⟨q1, e1, h⟩ := bnd_some h
  refine f_call (As := [.int a1, .int (5 : Int32)]) (rest := []) (c_X6_finds l D o cI cJ a1 (5 : Int32) m_s m_past m_kept m_spare m_paid m_pastPaid m_keptPaid m_sparePaid m_isKept m_pasts m_runs m_pad m_typed m_isStopped m_stop m_order m_best m_many m_bySets m_spot m_deeds m_deed q1 e1) B hK hDD hA hP hS rfl (va_recv hK hP (ci := 7) (q0 := 0) rfl rfl) k_X6_finds q_18_9 rfl ⟨Nat.le_of_ble_eq_true rfl, Nat.le_of_ble_eq_true rfl⟩ ⟨Nat.le_refl _, Nat.le_refl _⟩ hl.1 rfl (Nat.le_of_ble_eq_true rfl) dX6_makes_3 (fun H locs hP hS => ?_)
  refine lv_lstore_n (lv' := [(2, .long q1.1), (0, .ref (o 0)), (1, .int a1)]) hx hb dX6_makes_6 rfl hl (by decide) rfl (fun ls hl => ?_)
  refine lv_lload_n hx hb dX6_makes_7 rfl (lv_at hl 0 rfl) ?_
  refine lv_lconst (v := (0 : Int64)) hx hb dX6_makes_8 (by decide) ?_
  refine W.lcmp hx hb dX6_makes_9 ?_
  refine lv_if_ge (tgt := 18) hx hb dX6_makes_10 (by decide) (fun c2 => ?_) (fun c2 => ?_)
  · have h := ift c2 h
    refine lv_aload_n hx hb dX6_makes_18 rfl (lv_at hl 1 rfl) ?_
    obtain ⟨q3, e3, h⟩ := bnd_some h
    refine f_call (As := []) (rest := []) (c_X6_slotFor l D o cI cJ  m_s m_past m_kept m_spare m_paid m_pastPaid m_keptPaid m_sparePaid m_isKept m_pasts m_runs m_pad m_typed m_isStopped m_stop q1.2.1 q1.2.2.1 q1.2.2.2 m_bySets m_spot m_deeds m_deed q3 e3) B hK hDD hA hP hS rfl (va_recv hK hP (ci := 7) (q0 := 0) rfl rfl) k_X6_slotFor q_19_7 rfl ⟨Nat.le_of_ble_eq_true rfl, Nat.le_of_ble_eq_true rfl⟩ ⟨Nat.le_refl _, Nat.le_refl _⟩ hl.1 rfl (Nat.le_of_ble_eq_true rfl) dX6_makes_19 (fun H locs hP hS => ?_)
    refine lv_istore (lv' := [(4, .int q3.1), (2, .long q1.1), (0, .ref (o 0)), (1, .int a1)]) hx hb dX6_makes_22 hl (by decide) rfl (fun ls hl => ?_)
    refine lv_aload_n hx hb dX6_makes_24 rfl (lv_at hl 2 rfl) ?_
    refine va_get (D := D) (ci := 7) (v := .ref (o 1)) (C := RX6) (T := TX6) (N := 22) hx hb hts inlX6 hown hK hP 0 rfl rfl 0 (by decide) (hts _ q_4_5) (fun _ h9 => h9) rfl dX6_makes_25 ?_
    refine lv_bipush (v := (94 : Int32)) hx hb dX6_makes_28 (by decide) ?_
    refine lv_dup2_11 hx hb dX6_makes_30 rfl rfl ?_
    obtain ⟨g4, h⟩ := grd_some h
    refine va_iald hx hb hK hP 1 0 rfl rfl (inb_in g4) dX6_makes_31 ?_
    refine lv_iconst (v := (1 : Int32)) hx hb dX6_makes_32 (by decide) ?_
    refine lv_iadd hx hb dX6_makes_33 ?_
    obtain ⟨g5, h⟩ := grd_some h
    refine va_iast hx hb hK hP (hDD _ rfl) hS 1 0 rfl rfl (inb_in g5) dX6_makes_34 (fun H locs hP _ hS => ?_)
    have hP : va_P D vwCl (MW o cI cJ (upd q3.2 (94 : Int32).toNatClampNeg ((q3.2 (94 : Int32).toNatClampNeg) + (1 : Int32))) m_past m_kept m_spare m_paid m_pastPaid m_keptPaid m_sparePaid m_isKept m_pasts m_runs m_pad m_typed m_isStopped m_stop q1.2.1 q1.2.2.1 q1.2.2.2 m_bySets m_spot m_deeds m_deed) H := hP
    refine lv_iconst (v := (0 : Int32)) hx hb dX6_makes_35 (by decide) ?_
    refine lv_istore (lv' := [(5, .int (0 : Int32)), (4, .int q3.1), (2, .long q1.1), (0, .ref (o 0)), (1, .int a1)]) hx hb dX6_makes_36 hl (by decide) rfl (fun ls hl => ?_)
    exact hL38 1024 q3.1 (0 : Int32) (upd q3.2 (94 : Int32).toNatClampNeg ((q3.2 (94 : Int32).toNatClampNeg) + (1 : Int32))) q1.2.1 q1.2.2.1 q1.2.2.2 _ _ _ h hP hS (lv_sub hl [3, 4, 1, 0] rfl)
  · have h := ifn c2 h
    refine lv_bipush (v := (-4 : Int32)) hx hb dX6_makes_13 (by decide) ?_
    refine lv_goto (tgt := 22) hx hb dX6_makes_15 (by decide) ?_
    refine lv_istore (lv' := [(4, .int (-4 : Int32)), (2, .long q1.1), (0, .ref (o 0)), (1, .int a1)]) hx hb dX6_makes_22 hl (by decide) rfl (fun ls hl => ?_)
    refine lv_aload_n hx hb dX6_makes_24 rfl (lv_at hl 2 rfl) ?_
    refine va_get (D := D) (ci := 7) (v := .ref (o 1)) (C := RX6) (T := TX6) (N := 22) hx hb hts inlX6 hown hK hP 0 rfl rfl 0 (by decide) (hts _ q_4_5) (fun _ h9 => h9) rfl dX6_makes_25 ?_
    refine lv_bipush (v := (94 : Int32)) hx hb dX6_makes_28 (by decide) ?_
    refine lv_dup2_11 hx hb dX6_makes_30 rfl rfl ?_
    obtain ⟨g29, h⟩ := grd_some h
    refine va_iald hx hb hK hP 1 0 rfl rfl (inb_in g29) dX6_makes_31 ?_
    refine lv_iconst (v := (1 : Int32)) hx hb dX6_makes_32 (by decide) ?_
    refine lv_iadd hx hb dX6_makes_33 ?_
    obtain ⟨g30, h⟩ := grd_some h
    refine va_iast hx hb hK hP (hDD _ rfl) hS 1 0 rfl rfl (inb_in g30) dX6_makes_34 (fun H locs hP _ hS => ?_)
    have hP : va_P D vwCl (MW o cI cJ (upd m_s (94 : Int32).toNatClampNeg ((m_s (94 : Int32).toNatClampNeg) + (1 : Int32))) m_past m_kept m_spare m_paid m_pastPaid m_keptPaid m_sparePaid m_isKept m_pasts m_runs m_pad m_typed m_isStopped m_stop q1.2.1 q1.2.2.1 q1.2.2.2 m_bySets m_spot m_deeds m_deed) H := hP
    refine lv_iconst (v := (0 : Int32)) hx hb dX6_makes_35 (by decide) ?_
    refine lv_istore (lv' := [(5, .int (0 : Int32)), (4, .int (-4 : Int32)), (2, .long q1.1), (0, .ref (o 0)), (1, .int a1)]) hx hb dX6_makes_36 hl (by decide) rfl (fun ls hl => ?_)
    exact hL38 1024 (-4 : Int32) (0 : Int32) (upd m_s (94 : Int32).toNatClampNeg ((m_s (94 : Int32).toNatClampNeg) + (1 : Int32))) q1.2.1 q1.2.2.1 q1.2.2.2 _ _ _ h hP hS (lv_sub hl [3, 4, 1, 0] rfl)

def f_X6_uses (a1 : Int32) (m_s : Nat → Int32) (m_order : Nat → Int32) (m_many : Int32) : Option (Int64 × (Nat → Int32) × (Nat → Int32) × (Int32)) :=
  grd (inb (93 : Int32) 100) (grd (inb (93 : Int32) 100) (bnd (f_X6_at a1 ) (fun q3 => grd (inb (q3 + (11 : Int32)) 100) (grd (inb (q3 + (11 : Int32)) 100) (bnd (f_X6_at a1 ) (fun q6 => grd (inb (92 : Int32) 100) (grd (inb (q6 + (12 : Int32)) 100) (bnd (f_X6_costAt a1 (0 : Int32) (upd (upd (upd m_s (93 : Int32).toNatClampNeg ((m_s (93 : Int32).toNatClampNeg) + (1 : Int32))) (q3 + (11 : Int32)).toNatClampNeg (((upd m_s (93 : Int32).toNatClampNeg ((m_s (93 : Int32).toNatClampNeg) + (1 : Int32))) (q3 + (11 : Int32)).toNatClampNeg) + (1 : Int32))) (q6 + (12 : Int32)).toNatClampNeg ((upd (upd m_s (93 : Int32).toNatClampNeg ((m_s (93 : Int32).toNatClampNeg) + (1 : Int32))) (q3 + (11 : Int32)).toNatClampNeg (((upd m_s (93 : Int32).toNatClampNeg ((m_s (93 : Int32).toNatClampNeg) + (1 : Int32))) (q3 + (11 : Int32)).toNatClampNeg) + (1 : Int32))) (92 : Int32).toNatClampNeg)) m_order m_many) (fun q9 => some (q9.1, (upd (upd (upd m_s (93 : Int32).toNatClampNeg ((m_s (93 : Int32).toNatClampNeg) + (1 : Int32))) (q3 + (11 : Int32)).toNatClampNeg (((upd m_s (93 : Int32).toNatClampNeg ((m_s (93 : Int32).toNatClampNeg) + (1 : Int32))) (q3 + (11 : Int32)).toNatClampNeg) + (1 : Int32))) (q6 + (12 : Int32)).toNatClampNeg ((upd (upd m_s (93 : Int32).toNatClampNeg ((m_s (93 : Int32).toNatClampNeg) + (1 : Int32))) (q3 + (11 : Int32)).toNatClampNeg (((upd m_s (93 : Int32).toNatClampNeg ((m_s (93 : Int32).toNatClampNeg) + (1 : Int32))) (q3 + (11 : Int32)).toNatClampNeg) + (1 : Int32))) (92 : Int32).toNatClampNeg)), q9.2.1, q9.2.2))))))))))
set_option maxRecDepth 100000 in
set_option maxHeartbeats 4000000 in
theorem c_X6_uses (l : Launch) (D : va_G) (o : Nat → Nat) (cI cJ : ClassId) (a1 : Int32) (m_s : Nat → Int32) (m_past : Nat → Int32) (m_kept : Nat → Int32) (m_spare : Nat → Int32) (m_paid : Nat → Int64) (m_pastPaid : Nat → Int64) (m_keptPaid : Nat → Int64) (m_sparePaid : Nat → Int64) (m_isKept : Int32) (m_pasts : Int32) (m_runs : Int32) (m_pad : Nat → Int32) (m_typed : Int32) (m_isStopped : Int32) (m_stop : Nat → Int32) (m_order : Nat → Int32) (m_best : Nat → Int32) (m_many : Int32) (m_bySets : Nat → Int64) (m_spot : Int32) (m_deeds : Int32) (m_deed : Nat → Int32) (q : Int64 × (Nat → Int32) × (Nat → Int32) × (Int32)) (h : f_X6_uses a1 m_s m_order m_many = some q) : CF l yX6_uses cX6_uses 2 3 (some .long) D (tysMW cI cJ) [.ref (o 0), .int a1] (some (.long q.1)) (MW o cI cJ m_s m_past m_kept m_spare m_paid m_pastPaid m_keptPaid m_sparePaid m_isKept m_pasts m_runs m_pad m_typed m_isStopped m_stop m_order m_best m_many m_bySets m_spot m_deeds m_deed) (MW o cI cJ q.2.1 m_past m_kept m_spare m_paid m_pastPaid m_keptPaid m_sparePaid m_isKept m_pasts m_runs m_pad m_typed m_isStopped m_stop q.2.2.1 m_best q.2.2.2 m_bySets m_spot m_deeds m_deed) := by
  refine CF.mkL (by decide) (Nat.le_of_ble_eq_true rfl) ?_
  intro p e s m below meth c Q A B hK hDD hA hret hP hS ls hl
  have B0 := B
  obtain ⟨hx, hb, hml, hown, hts⟩ := B0
  have hl : lv_has ls 2 [(0, .ref (o 0)), (1, .int a1)] := hl
  unfold f_X6_uses at h
  refine lv_aload_n hx hb dX6_uses_0 rfl (lv_at hl 0 rfl) ?_
  refine va_get (D := D) (ci := 7) (v := .ref (o 1)) (C := RX6) (T := TX6) (N := 22) hx hb hts inlX6 hown hK hP 0 rfl rfl 0 (by decide) (hts _ q_4_5) (fun _ h9 => h9) rfl dX6_uses_1 ?_
  refine lv_bipush (v := (93 : Int32)) hx hb dX6_uses_4 (by decide) ?_
  refine lv_dup2_11 hx hb dX6_uses_6 rfl rfl ?_
  obtain ⟨g1, h⟩ := grd_some h
  refine va_iald hx hb hK hP 1 0 rfl rfl (inb_in g1) dX6_uses_7 ?_
  refine lv_iconst (v := (1 : Int32)) hx hb dX6_uses_8 (by decide) ?_
  refine lv_iadd hx hb dX6_uses_9 ?_
  obtain ⟨g2, h⟩ := grd_some h
  refine va_iast hx hb hK hP (hDD _ rfl) hS 1 0 rfl rfl (inb_in g2) dX6_uses_10 (fun H locs hP _ hS => ?_)
  have hP : va_P D vwCl (MW o cI cJ (upd m_s (93 : Int32).toNatClampNeg ((m_s (93 : Int32).toNatClampNeg) + (1 : Int32))) m_past m_kept m_spare m_paid m_pastPaid m_keptPaid m_sparePaid m_isKept m_pasts m_runs m_pad m_typed m_isStopped m_stop m_order m_best m_many m_bySets m_spot m_deeds m_deed) H := hP
  refine lv_aload_n hx hb dX6_uses_11 rfl (lv_at hl 0 rfl) ?_
  refine va_get (D := D) (ci := 7) (v := .ref (o 1)) (C := RX6) (T := TX6) (N := 22) hx hb hts inlX6 hown hK hP 0 rfl rfl 0 (by decide) (hts _ q_4_5) (fun _ h9 => h9) rfl dX6_uses_12 ?_
  refine lv_iload_n hx hb dX6_uses_15 rfl (lv_at hl 1 rfl) ?_
  obtain ⟨q3, e3, h⟩ := bnd_some h
  refine s_call (As := [.int a1]) (rest := [.ref (o 1)]) (c_X6_at l a1 q3 e3) B k_X6_at q_11_4 rfl ⟨Nat.le_of_ble_eq_true rfl, Nat.le_of_ble_eq_true rfl⟩ ⟨Nat.le_refl _, Nat.le_refl _⟩ hl.1 rfl (Nat.le_of_ble_eq_true rfl) dX6_uses_16 ?_
  refine lv_bipush (v := (11 : Int32)) hx hb dX6_uses_19 (by decide) ?_
  refine lv_iadd hx hb dX6_uses_21 ?_
  refine lv_dup2_11 hx hb dX6_uses_22 rfl rfl ?_
  obtain ⟨g4, h⟩ := grd_some h
  refine va_iald hx hb hK hP 1 0 rfl rfl (inb_in g4) dX6_uses_23 ?_
  refine lv_iconst (v := (1 : Int32)) hx hb dX6_uses_24 (by decide) ?_
  refine lv_iadd hx hb dX6_uses_25 ?_
  obtain ⟨g5, h⟩ := grd_some h
  refine va_iast hx hb hK hP (hDD _ rfl) hS 1 0 rfl rfl (inb_in g5) dX6_uses_26 (fun H locs hP _ hS => ?_)
  have hP : va_P D vwCl (MW o cI cJ (upd (upd m_s (93 : Int32).toNatClampNeg ((m_s (93 : Int32).toNatClampNeg) + (1 : Int32))) (q3 + (11 : Int32)).toNatClampNeg (((upd m_s (93 : Int32).toNatClampNeg ((m_s (93 : Int32).toNatClampNeg) + (1 : Int32))) (q3 + (11 : Int32)).toNatClampNeg) + (1 : Int32))) m_past m_kept m_spare m_paid m_pastPaid m_keptPaid m_sparePaid m_isKept m_pasts m_runs m_pad m_typed m_isStopped m_stop m_order m_best m_many m_bySets m_spot m_deeds m_deed) H := hP
  refine lv_aload_n hx hb dX6_uses_27 rfl (lv_at hl 0 rfl) ?_
  refine va_get (D := D) (ci := 7) (v := .ref (o 1)) (C := RX6) (T := TX6) (N := 22) hx hb hts inlX6 hown hK hP 0 rfl rfl 0 (by decide) (hts _ q_4_5) (fun _ h9 => h9) rfl dX6_uses_28 ?_
  refine lv_iload_n hx hb dX6_uses_31 rfl (lv_at hl 1 rfl) ?_
  obtain ⟨q6, e6, h⟩ := bnd_some h
  refine s_call (As := [.int a1]) (rest := [.ref (o 1)]) (c_X6_at l a1 q6 e6) B k_X6_at q_11_4 rfl ⟨Nat.le_of_ble_eq_true rfl, Nat.le_of_ble_eq_true rfl⟩ ⟨Nat.le_refl _, Nat.le_refl _⟩ hl.1 rfl (Nat.le_of_ble_eq_true rfl) dX6_uses_32 ?_
  refine lv_bipush (v := (12 : Int32)) hx hb dX6_uses_35 (by decide) ?_
  refine lv_iadd hx hb dX6_uses_37 ?_
  refine lv_aload_n hx hb dX6_uses_38 rfl (lv_at hl 0 rfl) ?_
  refine va_get (D := D) (ci := 7) (v := .ref (o 1)) (C := RX6) (T := TX6) (N := 22) hx hb hts inlX6 hown hK hP 0 rfl rfl 0 (by decide) (hts _ q_4_5) (fun _ h9 => h9) rfl dX6_uses_39 ?_
  refine lv_bipush (v := (92 : Int32)) hx hb dX6_uses_42 (by decide) ?_
  obtain ⟨g7, h⟩ := grd_some h
  refine va_iald hx hb hK hP 1 0 rfl rfl (inb_in g7) dX6_uses_44 ?_
  obtain ⟨g8, h⟩ := grd_some h
  refine va_iast hx hb hK hP (hDD _ rfl) hS 1 0 rfl rfl (inb_in g8) dX6_uses_45 (fun H locs hP _ hS => ?_)
  have hP : va_P D vwCl (MW o cI cJ (upd (upd (upd m_s (93 : Int32).toNatClampNeg ((m_s (93 : Int32).toNatClampNeg) + (1 : Int32))) (q3 + (11 : Int32)).toNatClampNeg (((upd m_s (93 : Int32).toNatClampNeg ((m_s (93 : Int32).toNatClampNeg) + (1 : Int32))) (q3 + (11 : Int32)).toNatClampNeg) + (1 : Int32))) (q6 + (12 : Int32)).toNatClampNeg ((upd (upd m_s (93 : Int32).toNatClampNeg ((m_s (93 : Int32).toNatClampNeg) + (1 : Int32))) (q3 + (11 : Int32)).toNatClampNeg (((upd m_s (93 : Int32).toNatClampNeg ((m_s (93 : Int32).toNatClampNeg) + (1 : Int32))) (q3 + (11 : Int32)).toNatClampNeg) + (1 : Int32))) (92 : Int32).toNatClampNeg)) m_past m_kept m_spare m_paid m_pastPaid m_keptPaid m_sparePaid m_isKept m_pasts m_runs m_pad m_typed m_isStopped m_stop m_order m_best m_many m_bySets m_spot m_deeds m_deed) H := hP
  refine lv_aload_n hx hb dX6_uses_46 rfl (lv_at hl 0 rfl) ?_
  refine lv_iload_n hx hb dX6_uses_47 rfl (lv_at hl 1 rfl) ?_
  refine lv_iconst (v := (0 : Int32)) hx hb dX6_uses_48 (by decide) ?_
  obtain ⟨q9, e9, h⟩ := bnd_some h
  refine f_call (As := [.int a1, .int (0 : Int32)]) (rest := []) (c_X6_costAt l D o cI cJ a1 (0 : Int32) (upd (upd (upd m_s (93 : Int32).toNatClampNeg ((m_s (93 : Int32).toNatClampNeg) + (1 : Int32))) (q3 + (11 : Int32)).toNatClampNeg (((upd m_s (93 : Int32).toNatClampNeg ((m_s (93 : Int32).toNatClampNeg) + (1 : Int32))) (q3 + (11 : Int32)).toNatClampNeg) + (1 : Int32))) (q6 + (12 : Int32)).toNatClampNeg ((upd (upd m_s (93 : Int32).toNatClampNeg ((m_s (93 : Int32).toNatClampNeg) + (1 : Int32))) (q3 + (11 : Int32)).toNatClampNeg (((upd m_s (93 : Int32).toNatClampNeg ((m_s (93 : Int32).toNatClampNeg) + (1 : Int32))) (q3 + (11 : Int32)).toNatClampNeg) + (1 : Int32))) (92 : Int32).toNatClampNeg)) m_past m_kept m_spare m_paid m_pastPaid m_keptPaid m_sparePaid m_isKept m_pasts m_runs m_pad m_typed m_isStopped m_stop m_order m_best m_many m_bySets m_spot m_deeds m_deed q9 e9) B hK hDD hA hP hS rfl (va_recv hK hP (ci := 7) (q0 := 0) rfl rfl) k_X6_costAt q_19_15 rfl ⟨Nat.le_of_ble_eq_true rfl, Nat.le_of_ble_eq_true rfl⟩ ⟨Nat.le_refl _, Nat.le_refl _⟩ hl.1 rfl (Nat.le_of_ble_eq_true rfl) dX6_uses_49 (fun H locs hP hS => ?_)
  obtain rfl := Option.some.inj h
  exact hret _ _ _ _ dX6_uses_52 hP hS

def f_X6_runsOf_L78b (a1 : Int32)   (k78 : Int64 → Int64 → Int32 → (Nat → Int32) → (Nat → Int64) → (Nat → Int32) → (Nat → Int32) → Int32 → Option (Int64 × (Nat → Int32) × (Nat → Int64) × (Nat → Int32) × (Nat → Int32) × (Int32))) (x3 : Int64) (x5 : Int64) (x7 : Int32) (m_s : Nat → Int32) (m_paid : Nat → Int64) (m_order : Nat → Int32) (m_best : Nat → Int32) (m_many : Int32) : Option (Int64 × (Nat → Int32) × (Nat → Int64) × (Nat → Int32) × (Nat → Int32) × (Int32)) :=
  if (5 : Int32) ≤ x7 then bnd (f_X6_throwsOut  m_s) (fun q12 => if (0 : Int32) ≤ q12.1 then some ((x5 + x3), q12.2, m_paid, m_order, m_best, m_many)
  else some (x5, q12.2, m_paid, m_order, m_best, m_many))
  else if ((a1 >>> (x7 &&& 31)) &&& (1 : Int32)) = (1 : Int32) then grd (inb ((0 : Int32) + x7) 100) (grd (inb ((5 : Int32) + x7) 100) (k78 x3 x5 (x7 + (1 : Int32)) (upd m_s ((5 : Int32) + x7).toNatClampNeg (m_s ((0 : Int32) + x7).toNatClampNeg)) m_paid m_order m_best m_many))
  else grd (inb ((5 : Int32) + x7) 100) (grd (inb ((5 : Int32) + x7) 100) (k78 x3 x5 (x7 + (1 : Int32)) (upd m_s ((5 : Int32) + x7).toNatClampNeg (m_s ((5 : Int32) + x7).toNatClampNeg)) m_paid m_order m_best m_many))
def f_X6_runsOf_L78 (a1 : Int32)   : Nat → Int64 → Int64 → Int32 → (Nat → Int32) → (Nat → Int64) → (Nat → Int32) → (Nat → Int32) → Int32 → Option (Int64 × (Nat → Int32) × (Nat → Int64) × (Nat → Int32) × (Nat → Int32) × (Int32))
  | 0 => fun _ _ _ _ _ _ _ _ => none
  | n + 1 => f_X6_runsOf_L78b a1  (f_X6_runsOf_L78 a1  n)
def f_X6_runsOf_J52 (a1 : Int32)   (x3 : Int64) (t0 : Int64) (m_s : Nat → Int32) (m_paid : Nat → Int64) (m_order : Nat → Int32) (m_best : Nat → Int32) (m_many : Int32) : Option (Int64 × (Nat → Int32) × (Nat → Int64) × (Nat → Int32) × (Nat → Int32) × (Int32)) :=
  grd (inb (0 : Int32) 2) (grd (inb (0 : Int32) 2) (grd (inb (1 : Int32) 2) (grd (inb (1 : Int32) 2) (f_X6_runsOf_L78 a1  1024 x3 t0 (0 : Int32) m_s (vp_updL (vp_updL m_paid (0 : Int32).toNatClampNeg ((m_paid (0 : Int32).toNatClampNeg) + t0)) (1 : Int32).toNatClampNeg (((vp_updL m_paid (0 : Int32).toNatClampNeg ((m_paid (0 : Int32).toNatClampNeg) + t0)) (1 : Int32).toNatClampNeg) + x3)) m_order m_best m_many))))
def f_X6_runsOf (a1 : Int32) (m_s : Nat → Int32) (m_paid : Nat → Int64) (m_order : Nat → Int32) (m_best : Nat → Int32) (m_many : Int32) : Option (Int64 × (Nat → Int32) × (Nat → Int64) × (Nat → Int32) × (Nat → Int32) × (Int32)) :=
  grd (inb (92 : Int32) 100) (grd (inb (92 : Int32) 100) (bnd (f_X6_slotOf a1 (upd m_s (92 : Int32).toNatClampNeg ((m_s (92 : Int32).toNatClampNeg) + (1 : Int32)))) (fun q3 => if (0 : Int32) ≤ q3 then if (0 : Int32) ≤ q3 then bnd (f_X6_uses q3 (upd m_s (92 : Int32).toNatClampNeg ((m_s (92 : Int32).toNatClampNeg) + (1 : Int32))) m_order m_many) (fun q6 => f_X6_runsOf_J52 a1  (0 : Int64) q6.1 q6.2.1 m_paid q6.2.2.1 m_best q6.2.2.2)
  else bnd (f_X6_makes a1 (upd m_s (92 : Int32).toNatClampNeg ((m_s (92 : Int32).toNatClampNeg) + (1 : Int32))) m_order m_best m_many) (fun q19 => f_X6_runsOf_J52 a1  (0 : Int64) q19.1 q19.2.1 m_paid q19.2.2.1 q19.2.2.2.1 q19.2.2.2.2)
  else bnd (f_X6_tablesIn a1 ) (fun q20 => if (0 : Int32) ≤ q3 then bnd (f_X6_uses q3 (upd m_s (92 : Int32).toNatClampNeg ((m_s (92 : Int32).toNatClampNeg) + (1 : Int32))) m_order m_many) (fun q22 => f_X6_runsOf_J52 a1  ((10 : Int64) * q20.toInt64) q22.1 q22.2.1 m_paid q22.2.2.1 m_best q22.2.2.2)
  else bnd (f_X6_makes a1 (upd m_s (92 : Int32).toNatClampNeg ((m_s (92 : Int32).toNatClampNeg) + (1 : Int32))) m_order m_best m_many) (fun q23 => f_X6_runsOf_J52 a1  ((10 : Int64) * q20.toInt64) q23.1 q23.2.1 m_paid q23.2.2.1 q23.2.2.2.1 q23.2.2.2.2)))))
set_option maxRecDepth 100000 in
set_option maxHeartbeats 4000000 in
theorem c_X6_runsOf (l : Launch) (D : va_G) (o : Nat → Nat) (cI cJ : ClassId) (a1 : Int32) (m_s : Nat → Int32) (m_past : Nat → Int32) (m_kept : Nat → Int32) (m_spare : Nat → Int32) (m_paid : Nat → Int64) (m_pastPaid : Nat → Int64) (m_keptPaid : Nat → Int64) (m_sparePaid : Nat → Int64) (m_isKept : Int32) (m_pasts : Int32) (m_runs : Int32) (m_pad : Nat → Int32) (m_typed : Int32) (m_isStopped : Int32) (m_stop : Nat → Int32) (m_order : Nat → Int32) (m_best : Nat → Int32) (m_many : Int32) (m_bySets : Nat → Int64) (m_spot : Int32) (m_deeds : Int32) (m_deed : Nat → Int32) (q : Int64 × (Nat → Int32) × (Nat → Int64) × (Nat → Int32) × (Nat → Int32) × (Int32)) (h : f_X6_runsOf a1 m_s m_paid m_order m_best m_many = some q) : CF l yX6_runsOf cX6_runsOf 8 4 (some .long) D (tysMW cI cJ) [.ref (o 0), .int a1] (some (.long q.1)) (MW o cI cJ m_s m_past m_kept m_spare m_paid m_pastPaid m_keptPaid m_sparePaid m_isKept m_pasts m_runs m_pad m_typed m_isStopped m_stop m_order m_best m_many m_bySets m_spot m_deeds m_deed) (MW o cI cJ q.2.1 m_past m_kept m_spare q.2.2.1 m_pastPaid m_keptPaid m_sparePaid m_isKept m_pasts m_runs m_pad m_typed m_isStopped m_stop q.2.2.2.1 q.2.2.2.2.1 q.2.2.2.2.2 m_bySets m_spot m_deeds m_deed) := by
  refine CF.mkL (by decide) (Nat.le_of_ble_eq_true rfl) ?_
  intro p e s m below meth c Q A B hK hDD hA hret hP hS ls hl
  have B0 := B
  obtain ⟨hx, hb, hml, hown, hts⟩ := B0
  have hl : lv_has ls 8 [(0, .ref (o 0)), (1, .int a1)] := hl
  have hL78 : ∀ (n78 : Nat) (x3 : Int64) (x5 : Int64) (x7 : Int32) (m_s : Nat → Int32) (m_paid : Nat → Int64) (m_order : Nat → Int32) (m_best : Nat → Int32) (m_many : Int32) (ls : Array Slot) (H : Heap) (locs : List Loc), f_X6_runsOf_L78 a1  n78 x3 x5 x7 m_s m_paid m_order m_best m_many = some q → va_P D vwCl (MW o cI cJ m_s m_past m_kept m_spare m_paid m_pastPaid m_keptPaid m_sparePaid m_isKept m_pasts m_runs m_pad m_typed m_isStopped m_stop m_order m_best m_many m_bySets m_spot m_deeds m_deed) H → va_S A s.heap H locs → lv_has ls 8 [(0, .ref (o 0)), (1, .int a1), (3, .long x3), (5, .long x5), (7, .int x7)] → W p l e (rmF 4 0 0) s m ([.ref (o 0), .int a1] : List Value).toArray below meth c H locs 0 0 Q (F0 m 78 ls []) := by
    intro n78
    induction n78 with
    | zero =>
      intro x3 x5 x7 m_s m_paid m_order m_best m_many ls H locs h
      exact absurd (show (none : Option (Int64 × (Nat → Int32) × (Nat → Int64) × (Nat → Int32) × (Nat → Int32) × (Int32))) = some q from h) (by intro h; cases h)
    | succ n78 ih78 =>
      intro x3 x5 x7 m_s m_paid m_order m_best m_many ls H locs h hP hS hl
      have h : f_X6_runsOf_L78b a1  (f_X6_runsOf_L78 a1  n78) x3 x5 x7 m_s m_paid m_order m_best m_many = some q := h
      unfold f_X6_runsOf_L78b at h
      refine lv_iload hx hb dX6_runsOf_78 (lv_at hl 4 rfl) ?_
      refine lv_iconst (v := (5 : Int32)) hx hb dX6_runsOf_80 (by decide) ?_
      refine lv_icmp_ge (tgt := 130) hx hb dX6_runsOf_81 (by decide) (fun c11 => ?_) (fun c11 => ?_)
      · have h := ift c11 h
        refine lv_aload_n hx hb dX6_runsOf_130 rfl (lv_at hl 0 rfl) ?_
        obtain ⟨q12, e12, h⟩ := bnd_some h
        refine f_call (As := []) (rest := []) (c_X6_throwsOut l D o cI cJ  m_s m_past m_kept m_spare m_paid m_pastPaid m_keptPaid m_sparePaid m_isKept m_pasts m_runs m_pad m_typed m_isStopped m_stop m_order m_best m_many m_bySets m_spot m_deeds m_deed q12 e12) B hK hDD hA hP hS rfl (va_recv hK hP (ci := 7) (q0 := 0) rfl rfl) k_X6_throwsOut q_12_16 rfl ⟨Nat.le_of_ble_eq_true rfl, Nat.le_of_ble_eq_true rfl⟩ ⟨Nat.le_refl _, Nat.le_refl _⟩ hl.1 rfl (Nat.le_of_ble_eq_true rfl) dX6_runsOf_131 (fun H locs hP hS => ?_)
        refine lv_if_ge (tgt := 142) hx hb dX6_runsOf_134 (by decide) (fun c13 => ?_) (fun c13 => ?_)
        · have h := ift c13 h
          refine lv_lload hx hb dX6_runsOf_142 (lv_at hl 3 rfl) ?_
          refine lv_lload_n hx hb dX6_runsOf_144 rfl (lv_at hl 2 rfl) ?_
          refine lv_ladd hx hb dX6_runsOf_145 ?_
          obtain rfl := Option.some.inj h
          exact hret _ _ _ _ dX6_runsOf_146 hP hS
        · have h := ifn c13 h
          refine lv_lload hx hb dX6_runsOf_137 (lv_at hl 3 rfl) ?_
          refine lv_goto (tgt := 146) hx hb dX6_runsOf_139 (by decide) ?_
          obtain rfl := Option.some.inj h
          exact hret _ _ _ _ dX6_runsOf_146 hP hS
      · have h := ifn c11 h
        refine lv_aload_n hx hb dX6_runsOf_84 rfl (lv_at hl 0 rfl) ?_
        refine va_get (D := D) (ci := 7) (v := .ref (o 1)) (C := RX6) (T := TX6) (N := 22) hx hb hts inlX6 hown hK hP 0 rfl rfl 0 (by decide) (hts _ q_4_5) (fun _ h9 => h9) rfl dX6_runsOf_85 ?_
        refine lv_iconst (v := (5 : Int32)) hx hb dX6_runsOf_88 (by decide) ?_
        refine lv_iload hx hb dX6_runsOf_89 (lv_at hl 4 rfl) ?_
        refine lv_iadd hx hb dX6_runsOf_91 ?_
        refine lv_iload_n hx hb dX6_runsOf_92 rfl (lv_at hl 1 rfl) ?_
        refine lv_iload hx hb dX6_runsOf_93 (lv_at hl 4 rfl) ?_
        refine lv_ishr hx hb dX6_runsOf_95 ?_
        refine lv_iconst (v := (1 : Int32)) hx hb dX6_runsOf_96 (by decide) ?_
        refine lv_iand hx hb dX6_runsOf_97 ?_
        refine lv_iconst (v := (1 : Int32)) hx hb dX6_runsOf_98 (by decide) ?_
        refine lv_icmp_ne (tgt := 114) hx hb dX6_runsOf_99 (by decide) (fun c14 => ?_) (fun c14 => ?_)
        · have h := ifn c14 h
          refine lv_aload_n hx hb dX6_runsOf_114 rfl (lv_at hl 0 rfl) ?_
          refine va_get (D := D) (ci := 7) (v := .ref (o 1)) (C := RX6) (T := TX6) (N := 22) hx hb hts inlX6 hown hK hP 0 rfl rfl 0 (by decide) (hts _ q_4_5) (fun _ h9 => h9) rfl dX6_runsOf_115 ?_
          refine lv_iconst (v := (5 : Int32)) hx hb dX6_runsOf_118 (by decide) ?_
          refine lv_iload hx hb dX6_runsOf_119 (lv_at hl 4 rfl) ?_
          refine lv_iadd hx hb dX6_runsOf_121 ?_
          obtain ⟨g15, h⟩ := grd_some h
          refine va_iald hx hb hK hP 1 0 rfl rfl (inb_in g15) dX6_runsOf_122 ?_
          obtain ⟨g16, h⟩ := grd_some h
          refine va_iast hx hb hK hP (hDD _ rfl) hS 1 0 rfl rfl (inb_in g16) dX6_runsOf_123 (fun H locs hP _ hS => ?_)
          have hP : va_P D vwCl (MW o cI cJ (upd m_s ((5 : Int32) + x7).toNatClampNeg (m_s ((5 : Int32) + x7).toNatClampNeg)) m_past m_kept m_spare m_paid m_pastPaid m_keptPaid m_sparePaid m_isKept m_pasts m_runs m_pad m_typed m_isStopped m_stop m_order m_best m_many m_bySets m_spot m_deeds m_deed) H := hP
          refine lv_iinc (v := (x7 + (1 : Int32))) (lv' := [(7, .int (x7 + (1 : Int32))), (0, .ref (o 0)), (1, .int a1), (3, .long x3), (5, .long x5)]) hx hb dX6_runsOf_124 hl (k := 4) rfl (congrArg (HAdd.hAdd x7) (by decide)) (by decide) rfl (fun ls hl => ?_)
          refine lv_goto (tgt := 78) hx hb dX6_runsOf_127 (by decide) ?_
          exact ih78 x3 x5 (x7 + (1 : Int32)) (upd m_s ((5 : Int32) + x7).toNatClampNeg (m_s ((5 : Int32) + x7).toNatClampNeg)) m_paid m_order m_best m_many _ _ _ h hP hS (lv_sub hl [1, 2, 3, 4, 0] rfl)
        · have h := ift c14 h
          refine lv_aload_n hx hb dX6_runsOf_102 rfl (lv_at hl 0 rfl) ?_
          refine va_get (D := D) (ci := 7) (v := .ref (o 1)) (C := RX6) (T := TX6) (N := 22) hx hb hts inlX6 hown hK hP 0 rfl rfl 0 (by decide) (hts _ q_4_5) (fun _ h9 => h9) rfl dX6_runsOf_103 ?_
          refine lv_iconst (v := (0 : Int32)) hx hb dX6_runsOf_106 (by decide) ?_
          refine lv_iload hx hb dX6_runsOf_107 (lv_at hl 4 rfl) ?_
          refine lv_iadd hx hb dX6_runsOf_109 ?_
          obtain ⟨g17, h⟩ := grd_some h
          refine va_iald hx hb hK hP 1 0 rfl rfl (inb_in g17) dX6_runsOf_110 ?_
          refine lv_goto (tgt := 123) hx hb dX6_runsOf_111 (by decide) ?_
          obtain ⟨g18, h⟩ := grd_some h
          refine va_iast hx hb hK hP (hDD _ rfl) hS 1 0 rfl rfl (inb_in g18) dX6_runsOf_123 (fun H locs hP _ hS => ?_)
          have hP : va_P D vwCl (MW o cI cJ (upd m_s ((5 : Int32) + x7).toNatClampNeg (m_s ((0 : Int32) + x7).toNatClampNeg)) m_past m_kept m_spare m_paid m_pastPaid m_keptPaid m_sparePaid m_isKept m_pasts m_runs m_pad m_typed m_isStopped m_stop m_order m_best m_many m_bySets m_spot m_deeds m_deed) H := hP
          refine lv_iinc (v := (x7 + (1 : Int32))) (lv' := [(7, .int (x7 + (1 : Int32))), (0, .ref (o 0)), (1, .int a1), (3, .long x3), (5, .long x5)]) hx hb dX6_runsOf_124 hl (k := 4) rfl (congrArg (HAdd.hAdd x7) (by decide)) (by decide) rfl (fun ls hl => ?_)
          refine lv_goto (tgt := 78) hx hb dX6_runsOf_127 (by decide) ?_
          exact ih78 x3 x5 (x7 + (1 : Int32)) (upd m_s ((5 : Int32) + x7).toNatClampNeg (m_s ((0 : Int32) + x7).toNatClampNeg)) m_paid m_order m_best m_many _ _ _ h hP hS (lv_sub hl [1, 2, 3, 4, 0] rfl)
  have hJ52 : ∀ (x3 : Int64) (t0 : Int64) (m_s : Nat → Int32) (m_paid : Nat → Int64) (m_order : Nat → Int32) (m_best : Nat → Int32) (m_many : Int32) (ls : Array Slot) (H : Heap) (locs : List Loc), f_X6_runsOf_J52 a1  x3 t0 m_s m_paid m_order m_best m_many = some q → va_P D vwCl (MW o cI cJ m_s m_past m_kept m_spare m_paid m_pastPaid m_keptPaid m_sparePaid m_isKept m_pasts m_runs m_pad m_typed m_isStopped m_stop m_order m_best m_many m_bySets m_spot m_deeds m_deed) H → va_S A s.heap H locs → lv_has ls 8 [(0, .ref (o 0)), (1, .int a1), (3, .long x3)] → W p l e (rmF 4 0 0) s m ([.ref (o 0), .int a1] : List Value).toArray below meth c H locs 0 0 Q (F0 m 52 ls [.long t0]) := by
    intro x3 t0 m_s m_paid m_order m_best m_many ls H locs h hP hS hl
    unfold f_X6_runsOf_J52 at h
    refine lv_lstore (lv' := [(5, .long t0), (0, .ref (o 0)), (1, .int a1), (3, .long x3)]) hx hb dX6_runsOf_52 hl (by decide) rfl (fun ls hl => ?_)
    refine lv_aload_n hx hb dX6_runsOf_54 rfl (lv_at hl 1 rfl) ?_
    refine va_get (D := D) (ci := 7) (v := .ref (o 5)) (C := RX6) (T := TX6) (N := 22) hx hb hts inlX6 hown hK hP 0 rfl rfl 4 (by decide) (hts _ q_4_9) (fun _ h9 => h9) rfl dX6_runsOf_55 ?_
    refine lv_iconst (v := (0 : Int32)) hx hb dX6_runsOf_58 (by decide) ?_
    refine lv_dup2_11 hx hb dX6_runsOf_59 rfl rfl ?_
    obtain ⟨g7, h⟩ := grd_some h
    refine va_lald hx hb hK hP 5 1 rfl rfl (inb_in g7) dX6_runsOf_60 ?_
    refine lv_lload hx hb dX6_runsOf_61 (lv_at hl 0 rfl) ?_
    refine lv_ladd hx hb dX6_runsOf_63 ?_
    obtain ⟨g8, h⟩ := grd_some h
    refine va_last hx hb hK hP (hDD _ rfl) hS 5 1 rfl rfl (inb_in g8) dX6_runsOf_64 (fun H locs hP _ hS => ?_)
    have hP : va_P D vwCl (MW o cI cJ m_s m_past m_kept m_spare (vp_updL m_paid (0 : Int32).toNatClampNeg ((m_paid (0 : Int32).toNatClampNeg) + t0)) m_pastPaid m_keptPaid m_sparePaid m_isKept m_pasts m_runs m_pad m_typed m_isStopped m_stop m_order m_best m_many m_bySets m_spot m_deeds m_deed) H := hP
    refine lv_aload_n hx hb dX6_runsOf_65 rfl (lv_at hl 1 rfl) ?_
    refine va_get (D := D) (ci := 7) (v := .ref (o 5)) (C := RX6) (T := TX6) (N := 22) hx hb hts inlX6 hown hK hP 0 rfl rfl 4 (by decide) (hts _ q_4_9) (fun _ h9 => h9) rfl dX6_runsOf_66 ?_
    refine lv_iconst (v := (1 : Int32)) hx hb dX6_runsOf_69 (by decide) ?_
    refine lv_dup2_11 hx hb dX6_runsOf_70 rfl rfl ?_
    obtain ⟨g9, h⟩ := grd_some h
    refine va_lald hx hb hK hP 5 1 rfl rfl (inb_in g9) dX6_runsOf_71 ?_
    refine lv_lload_n hx hb dX6_runsOf_72 rfl (lv_at hl 3 rfl) ?_
    refine lv_ladd hx hb dX6_runsOf_73 ?_
    obtain ⟨g10, h⟩ := grd_some h
    refine va_last hx hb hK hP (hDD _ rfl) hS 5 1 rfl rfl (inb_in g10) dX6_runsOf_74 (fun H locs hP _ hS => ?_)
    have hP : va_P D vwCl (MW o cI cJ m_s m_past m_kept m_spare (vp_updL (vp_updL m_paid (0 : Int32).toNatClampNeg ((m_paid (0 : Int32).toNatClampNeg) + t0)) (1 : Int32).toNatClampNeg (((vp_updL m_paid (0 : Int32).toNatClampNeg ((m_paid (0 : Int32).toNatClampNeg) + t0)) (1 : Int32).toNatClampNeg) + x3)) m_pastPaid m_keptPaid m_sparePaid m_isKept m_pasts m_runs m_pad m_typed m_isStopped m_stop m_order m_best m_many m_bySets m_spot m_deeds m_deed) H := hP
    refine lv_iconst (v := (0 : Int32)) hx hb dX6_runsOf_75 (by decide) ?_
    refine lv_istore (lv' := [(7, .int (0 : Int32)), (5, .long t0), (0, .ref (o 0)), (1, .int a1), (3, .long x3)]) hx hb dX6_runsOf_76 hl (by decide) rfl (fun ls hl => ?_)
    exact hL78 1024 x3 t0 (0 : Int32) m_s (vp_updL (vp_updL m_paid (0 : Int32).toNatClampNeg ((m_paid (0 : Int32).toNatClampNeg) + t0)) (1 : Int32).toNatClampNeg (((vp_updL m_paid (0 : Int32).toNatClampNeg ((m_paid (0 : Int32).toNatClampNeg) + t0)) (1 : Int32).toNatClampNeg) + x3)) m_order m_best m_many _ _ _ h hP hS (lv_sub hl [2, 3, 4, 1, 0] rfl)
  unfold f_X6_runsOf at h
  refine lv_aload_n hx hb dX6_runsOf_0 rfl (lv_at hl 0 rfl) ?_
  refine va_get (D := D) (ci := 7) (v := .ref (o 1)) (C := RX6) (T := TX6) (N := 22) hx hb hts inlX6 hown hK hP 0 rfl rfl 0 (by decide) (hts _ q_4_5) (fun _ h9 => h9) rfl dX6_runsOf_1 ?_
  refine lv_bipush (v := (92 : Int32)) hx hb dX6_runsOf_4 (by decide) ?_
  refine lv_dup2_11 hx hb dX6_runsOf_6 rfl rfl ?_
  obtain ⟨g1, h⟩ := grd_some h
  refine va_iald hx hb hK hP 1 0 rfl rfl (inb_in g1) dX6_runsOf_7 ?_
  refine lv_iconst (v := (1 : Int32)) hx hb dX6_runsOf_8 (by decide) ?_
  refine lv_iadd hx hb dX6_runsOf_9 ?_
  obtain ⟨g2, h⟩ := grd_some h
  refine va_iast hx hb hK hP (hDD _ rfl) hS 1 0 rfl rfl (inb_in g2) dX6_runsOf_10 (fun H locs hP _ hS => ?_)
  have hP : va_P D vwCl (MW o cI cJ (upd m_s (92 : Int32).toNatClampNeg ((m_s (92 : Int32).toNatClampNeg) + (1 : Int32))) m_past m_kept m_spare m_paid m_pastPaid m_keptPaid m_sparePaid m_isKept m_pasts m_runs m_pad m_typed m_isStopped m_stop m_order m_best m_many m_bySets m_spot m_deeds m_deed) H := hP
  refine lv_aload_n hx hb dX6_runsOf_11 rfl (lv_at hl 0 rfl) ?_
  refine lv_iload_n hx hb dX6_runsOf_12 rfl (lv_at hl 1 rfl) ?_
  obtain ⟨q3, e3, h⟩ := bnd_some h
  refine f_call (As := [.int a1]) (rest := []) (c_X6_slotOf l D o cI cJ a1 (upd m_s (92 : Int32).toNatClampNeg ((m_s (92 : Int32).toNatClampNeg) + (1 : Int32))) m_past m_kept m_spare m_paid m_pastPaid m_keptPaid m_sparePaid m_isKept m_pasts m_runs m_pad m_typed m_isStopped m_stop m_order m_best m_many m_bySets m_spot m_deeds m_deed q3 e3) B hK hDD hA hP hS rfl (va_recv hK hP (ci := 7) (q0 := 0) rfl rfl) k_X6_slotOf q_17_21 rfl ⟨Nat.le_of_ble_eq_true rfl, Nat.le_of_ble_eq_true rfl⟩ ⟨Nat.le_refl _, Nat.le_refl _⟩ hl.1 rfl (Nat.le_of_ble_eq_true rfl) dX6_runsOf_13 (fun H locs hP hS => ?_)
  refine lv_istore_n (lv' := [(2, .int q3), (0, .ref (o 0)), (1, .int a1)]) hx hb dX6_runsOf_16 rfl hl (by decide) rfl (fun ls hl => ?_)
  refine lv_iload_n hx hb dX6_runsOf_17 rfl (lv_at hl 0 rfl) ?_
  refine lv_if_ge (tgt := 33) hx hb dX6_runsOf_18 (by decide) (fun c4 => ?_) (fun c4 => ?_)
  · have h := ift c4 h
    refine lv_lconst (v := (0 : Int64)) hx hb dX6_runsOf_33 (by decide) ?_
    refine lv_lstore_n (lv' := [(3, .long (0 : Int64)), (2, .int q3), (0, .ref (o 0)), (1, .int a1)]) hx hb dX6_runsOf_34 rfl hl (by decide) rfl (fun ls hl => ?_)
    refine lv_iload_n hx hb dX6_runsOf_35 rfl (lv_at hl 1 rfl) ?_
    refine lv_if_ge (tgt := 47) hx hb dX6_runsOf_36 (by decide) (fun c5 => ?_) (fun c5 => ?_)
    · have h := ift c5 h
      refine lv_aload_n hx hb dX6_runsOf_47 rfl (lv_at hl 2 rfl) ?_
      refine lv_iload_n hx hb dX6_runsOf_48 rfl (lv_at hl 1 rfl) ?_
      obtain ⟨q6, e6, h⟩ := bnd_some h
      refine f_call (As := [.int q3]) (rest := []) (c_X6_uses l D o cI cJ q3 (upd m_s (92 : Int32).toNatClampNeg ((m_s (92 : Int32).toNatClampNeg) + (1 : Int32))) m_past m_kept m_spare m_paid m_pastPaid m_keptPaid m_sparePaid m_isKept m_pasts m_runs m_pad m_typed m_isStopped m_stop m_order m_best m_many m_bySets m_spot m_deeds m_deed q6 e6) B hK hDD hA hP hS rfl (va_recv hK hP (ci := 7) (q0 := 0) rfl rfl) k_X6_uses q_19_11 rfl ⟨Nat.le_of_ble_eq_true rfl, Nat.le_of_ble_eq_true rfl⟩ ⟨Nat.le_refl _, Nat.le_refl _⟩ hl.1 rfl (Nat.le_of_ble_eq_true rfl) dX6_runsOf_49 (fun H locs hP hS => ?_)
      exact hJ52 (0 : Int64) q6.1 q6.2.1 m_paid q6.2.2.1 m_best q6.2.2.2 _ _ _ h hP hS (lv_sub hl [2, 3, 0] rfl)
    · have h := ifn c5 h
      refine lv_aload_n hx hb dX6_runsOf_39 rfl (lv_at hl 2 rfl) ?_
      refine lv_iload_n hx hb dX6_runsOf_40 rfl (lv_at hl 3 rfl) ?_
      obtain ⟨q19, e19, h⟩ := bnd_some h
      refine f_call (As := [.int a1]) (rest := []) (c_X6_makes l D o cI cJ a1 (upd m_s (92 : Int32).toNatClampNeg ((m_s (92 : Int32).toNatClampNeg) + (1 : Int32))) m_past m_kept m_spare m_paid m_pastPaid m_keptPaid m_sparePaid m_isKept m_pasts m_runs m_pad m_typed m_isStopped m_stop m_order m_best m_many m_bySets m_spot m_deeds m_deed q19 e19) B hK hDD hA hP hS rfl (va_recv hK hP (ci := 7) (q0 := 0) rfl rfl) k_X6_makes q_18_4 rfl ⟨Nat.le_of_ble_eq_true rfl, Nat.le_of_ble_eq_true rfl⟩ ⟨Nat.le_refl _, Nat.le_refl _⟩ hl.1 rfl (Nat.le_of_ble_eq_true rfl) dX6_runsOf_41 (fun H locs hP hS => ?_)
      refine lv_goto (tgt := 52) hx hb dX6_runsOf_44 (by decide) ?_
      exact hJ52 (0 : Int64) q19.1 q19.2.1 m_paid q19.2.2.1 q19.2.2.2.1 q19.2.2.2.2 _ _ _ h hP hS (lv_sub hl [2, 3, 0] rfl)
  · have h := ifn c4 h
    refine lv_ldc2 (v := (10 : Int64)) hx hb hown (hts _ q_17_20) dX6_runsOf_21 ?_
    refine lv_iload_n hx hb dX6_runsOf_24 rfl (lv_at hl 2 rfl) ?_
    obtain ⟨q20, e20, h⟩ := bnd_some h
    refine s_call (As := [.int a1]) (rest := [.long (10 : Int64)]) (c_X6_tablesIn l a1 q20 e20) B k_X6_tablesIn q_18_1 rfl ⟨Nat.le_of_ble_eq_true rfl, Nat.le_of_ble_eq_true rfl⟩ ⟨Nat.le_refl _, Nat.le_refl _⟩ hl.1 rfl (Nat.le_of_ble_eq_true rfl) dX6_runsOf_25 ?_
    refine lv_i2l hx hb dX6_runsOf_28 rfl ?_
    refine lv_lmul hx hb dX6_runsOf_29 ?_
    refine lv_goto (tgt := 34) hx hb dX6_runsOf_30 (by decide) ?_
    refine lv_lstore_n (lv' := [(3, .long ((10 : Int64) * q20.toInt64)), (2, .int q3), (0, .ref (o 0)), (1, .int a1)]) hx hb dX6_runsOf_34 rfl hl (by decide) rfl (fun ls hl => ?_)
    refine lv_iload_n hx hb dX6_runsOf_35 rfl (lv_at hl 1 rfl) ?_
    refine lv_if_ge (tgt := 47) hx hb dX6_runsOf_36 (by decide) (fun c21 => ?_) (fun c21 => ?_)
    · have h := ift c21 h
      refine lv_aload_n hx hb dX6_runsOf_47 rfl (lv_at hl 2 rfl) ?_
      refine lv_iload_n hx hb dX6_runsOf_48 rfl (lv_at hl 1 rfl) ?_
      obtain ⟨q22, e22, h⟩ := bnd_some h
      refine f_call (As := [.int q3]) (rest := []) (c_X6_uses l D o cI cJ q3 (upd m_s (92 : Int32).toNatClampNeg ((m_s (92 : Int32).toNatClampNeg) + (1 : Int32))) m_past m_kept m_spare m_paid m_pastPaid m_keptPaid m_sparePaid m_isKept m_pasts m_runs m_pad m_typed m_isStopped m_stop m_order m_best m_many m_bySets m_spot m_deeds m_deed q22 e22) B hK hDD hA hP hS rfl (va_recv hK hP (ci := 7) (q0 := 0) rfl rfl) k_X6_uses q_19_11 rfl ⟨Nat.le_of_ble_eq_true rfl, Nat.le_of_ble_eq_true rfl⟩ ⟨Nat.le_refl _, Nat.le_refl _⟩ hl.1 rfl (Nat.le_of_ble_eq_true rfl) dX6_runsOf_49 (fun H locs hP hS => ?_)
      exact hJ52 ((10 : Int64) * q20.toInt64) q22.1 q22.2.1 m_paid q22.2.2.1 m_best q22.2.2.2 _ _ _ h hP hS (lv_sub hl [2, 3, 0] rfl)
    · have h := ifn c21 h
      refine lv_aload_n hx hb dX6_runsOf_39 rfl (lv_at hl 2 rfl) ?_
      refine lv_iload_n hx hb dX6_runsOf_40 rfl (lv_at hl 3 rfl) ?_
      obtain ⟨q23, e23, h⟩ := bnd_some h
      refine f_call (As := [.int a1]) (rest := []) (c_X6_makes l D o cI cJ a1 (upd m_s (92 : Int32).toNatClampNeg ((m_s (92 : Int32).toNatClampNeg) + (1 : Int32))) m_past m_kept m_spare m_paid m_pastPaid m_keptPaid m_sparePaid m_isKept m_pasts m_runs m_pad m_typed m_isStopped m_stop m_order m_best m_many m_bySets m_spot m_deeds m_deed q23 e23) B hK hDD hA hP hS rfl (va_recv hK hP (ci := 7) (q0 := 0) rfl rfl) k_X6_makes q_18_4 rfl ⟨Nat.le_of_ble_eq_true rfl, Nat.le_of_ble_eq_true rfl⟩ ⟨Nat.le_refl _, Nat.le_refl _⟩ hl.1 rfl (Nat.le_of_ble_eq_true rfl) dX6_runsOf_41 (fun H locs hP hS => ?_)
      refine lv_goto (tgt := 52) hx hb dX6_runsOf_44 (by decide) ?_
      exact hJ52 ((10 : Int64) * q20.toInt64) q23.1 q23.2.1 m_paid q23.2.2.1 q23.2.2.2.1 q23.2.2.2.2 _ _ _ h hP hS (lv_sub hl [2, 3, 0] rfl)

def f_X6_run (a1 : Int32) (m_s : Nat → Int32) (m_past : Nat → Int32) (m_paid : Nat → Int64) (m_pastPaid : Nat → Int64) (m_pasts : Int32) (m_runs : Int32) (m_order : Nat → Int32) (m_best : Nat → Int32) (m_many : Int32) : Option (Int32 × (Nat → Int32) × (Nat → Int32) × (Nat → Int64) × (Nat → Int64) × (Int32) × (Nat → Int32) × (Nat → Int32) × (Int32)) :=
  bnd (f_X6_isSet a1 ) (fun q1 => if q1 = (0 : Int32) then some ((-1 : Int32), m_s, m_past, m_paid, m_pastPaid, m_pasts, m_order, m_best, m_many)
  else bnd (f_X6_changes  m_s m_past m_paid m_pastPaid m_pasts m_runs) (fun q3 => bnd (f_X6_runsOf a1 m_s m_paid m_order m_best m_many) (fun q4 => bnd (f_X6_cut q4.1 ) (fun q5 => some (q5, q4.2.1, q3.1, q4.2.2.1, q3.2.1, q3.2.2, q4.2.2.2.1, q4.2.2.2.2.1, q4.2.2.2.2.2)))))
set_option maxRecDepth 100000 in
set_option maxHeartbeats 4000000 in
theorem c_X6_run (l : Launch) (D : va_G) (o : Nat → Nat) (cI cJ : ClassId) (a1 : Int32) (m_s : Nat → Int32) (m_past : Nat → Int32) (m_kept : Nat → Int32) (m_spare : Nat → Int32) (m_paid : Nat → Int64) (m_pastPaid : Nat → Int64) (m_keptPaid : Nat → Int64) (m_sparePaid : Nat → Int64) (m_isKept : Int32) (m_pasts : Int32) (m_runs : Int32) (m_pad : Nat → Int32) (m_typed : Int32) (m_isStopped : Int32) (m_stop : Nat → Int32) (m_order : Nat → Int32) (m_best : Nat → Int32) (m_many : Int32) (m_bySets : Nat → Int64) (m_spot : Int32) (m_deeds : Int32) (m_deed : Nat → Int32) (q : Int32 × (Nat → Int32) × (Nat → Int32) × (Nat → Int64) × (Nat → Int64) × (Int32) × (Nat → Int32) × (Nat → Int32) × (Int32)) (h : f_X6_run a1 m_s m_past m_paid m_pastPaid m_pasts m_runs m_order m_best m_many = some q) : CF l yX6_run cX6_run 2 5 (some .int) D (tysMW cI cJ) [.ref (o 0), .int a1] (some (.int q.1)) (MW o cI cJ m_s m_past m_kept m_spare m_paid m_pastPaid m_keptPaid m_sparePaid m_isKept m_pasts m_runs m_pad m_typed m_isStopped m_stop m_order m_best m_many m_bySets m_spot m_deeds m_deed) (MW o cI cJ q.2.1 q.2.2.1 m_kept m_spare q.2.2.2.1 q.2.2.2.2.1 m_keptPaid m_sparePaid m_isKept q.2.2.2.2.2.1 m_runs m_pad m_typed m_isStopped m_stop q.2.2.2.2.2.2.1 q.2.2.2.2.2.2.2.1 q.2.2.2.2.2.2.2.2 m_bySets m_spot m_deeds m_deed) := by
  refine CF.mkI (by decide) (Nat.le_of_ble_eq_true rfl) ?_
  intro p e s m below meth c Q A B hK hDD hA hret hP hS ls hl
  have B0 := B
  obtain ⟨hx, hb, hml, hown, hts⟩ := B0
  have hl : lv_has ls 2 [(0, .ref (o 0)), (1, .int a1)] := hl
  unfold f_X6_run at h
  refine lv_iload_n hx hb dX6_run_0 rfl (lv_at hl 1 rfl) ?_
  obtain ⟨q1, e1, h⟩ := bnd_some h
  refine s_call (As := [.int a1]) (rest := []) (c_X6_isSet l a1 q1 e1) B k_X6_isSet q_17_13 rfl ⟨Nat.le_of_ble_eq_true rfl, Nat.le_of_ble_eq_true rfl⟩ ⟨Nat.le_refl _, Nat.le_refl _⟩ hl.1 rfl (Nat.le_of_ble_eq_true rfl) dX6_run_1 ?_
  refine lv_if_ne (tgt := 9) hx hb dX6_run_4 (by decide) (fun c2 => ?_) (fun c2 => ?_)
  · have h := ifn c2 h
    refine lv_aload_n hx hb dX6_run_9 rfl (lv_at hl 0 rfl) ?_
    obtain ⟨q3, e3, h⟩ := bnd_some h
    refine f_call (As := []) (rest := []) (c_X6_changes l D o cI cJ  m_s m_past m_kept m_spare m_paid m_pastPaid m_keptPaid m_sparePaid m_isKept m_pasts m_runs m_pad m_typed m_isStopped m_stop m_order m_best m_many m_bySets m_spot m_deeds m_deed q3 e3) B hK hDD hA hP hS rfl (va_recv hK hP (ci := 7) (q0 := 0) rfl rfl) k_X6_changes q_9_18 rfl ⟨Nat.le_of_ble_eq_true rfl, Nat.le_of_ble_eq_true rfl⟩ ⟨Nat.le_refl _, Nat.le_refl _⟩ hl.1 rfl (Nat.le_of_ble_eq_true rfl) dX6_run_10 (fun H locs hP hS => ?_)
    refine lv_aload_n hx hb dX6_run_13 rfl (lv_at hl 0 rfl) ?_
    refine lv_iload_n hx hb dX6_run_14 rfl (lv_at hl 1 rfl) ?_
    obtain ⟨q4, e4, h⟩ := bnd_some h
    refine f_call (As := [.int a1]) (rest := []) (c_X6_runsOf l D o cI cJ a1 m_s q3.1 m_kept m_spare m_paid q3.2.1 m_keptPaid m_sparePaid m_isKept q3.2.2 m_runs m_pad m_typed m_isStopped m_stop m_order m_best m_many m_bySets m_spot m_deeds m_deed q4 e4) B hK hDD hA hP hS rfl (va_recv hK hP (ci := 7) (q0 := 0) rfl rfl) k_X6_runsOf q_17_16 rfl ⟨Nat.le_of_ble_eq_true rfl, Nat.le_of_ble_eq_true rfl⟩ ⟨Nat.le_refl _, Nat.le_refl _⟩ hl.1 rfl (Nat.le_of_ble_eq_true rfl) dX6_run_15 (fun H locs hP hS => ?_)
    obtain ⟨q5, e5, h⟩ := bnd_some h
    refine s_call (As := [.long q4.1]) (rest := []) (c_X6_cut l q4.1 q5 e5) B k_X6_cut q_19_19 rfl ⟨Nat.le_of_ble_eq_true rfl, Nat.le_of_ble_eq_true rfl⟩ ⟨Nat.le_refl _, Nat.le_refl _⟩ hl.1 rfl (Nat.le_of_ble_eq_true rfl) dX6_run_18 ?_
    obtain rfl := Option.some.inj h
    exact hret _ _ _ _ (vp_nar_int _) dX6_run_21 hP hS
  · have h := ift c2 h
    refine lv_iconst (v := (-1 : Int32)) hx hb dX6_run_7 (by decide) ?_
    obtain rfl := Option.some.inj h
    exact hret _ _ _ _ (vp_nar_int _) dX6_run_8 hP hS

def f_X6_pin (a1 : Int32) (m_s : Nat → Int32) (m_past : Nat → Int32) (m_paid : Nat → Int64) (m_pastPaid : Nat → Int64) (m_pasts : Int32) (m_runs : Int32) : Option (Int32 × (Nat → Int32) × (Nat → Int32) × (Nat → Int64) × (Int32)) :=
  bnd (f_X6_isSet a1 ) (fun q1 => if q1 = (0 : Int32) then some ((-1 : Int32), m_s, m_past, m_pastPaid, m_pasts)
  else bnd (f_X6_slotOf a1 m_s) (fun q3 => if (0 : Int32) ≤ q3 then bnd (f_X6_changes  m_s m_past m_paid m_pastPaid m_pasts m_runs) (fun q5 => bnd (f_X6_at q3 ) (fun q6 => grd (inb (q6 + (13 : Int32)) 100) (bnd (f_X6_at q3 ) (fun q8 => grd (inb (q8 + (13 : Int32)) 100) (if ((1 : Int32) - (m_s (q6 + (13 : Int32)).toNatClampNeg)) = (0 : Int32) then bnd (f_X6_throwsOut  (upd m_s (q8 + (13 : Int32)).toNatClampNeg ((1 : Int32) - (m_s (q6 + (13 : Int32)).toNatClampNeg)))) (fun q11 => if (0 : Int32) ≤ q11.1 then some (((1 : Int32) - (m_s (q6 + (13 : Int32)).toNatClampNeg)), q11.2, q5.1, q5.2.1, q5.2.2)
  else some ((-4 : Int32), q11.2, q5.1, q5.2.1, q5.2.2))
  else some (((1 : Int32) - (m_s (q6 + (13 : Int32)).toNatClampNeg)), (upd m_s (q8 + (13 : Int32)).toNatClampNeg ((1 : Int32) - (m_s (q6 + (13 : Int32)).toNatClampNeg))), q5.1, q5.2.1, q5.2.2))))))
  else some ((-2 : Int32), m_s, m_past, m_pastPaid, m_pasts)))
set_option maxRecDepth 100000 in
set_option maxHeartbeats 4000000 in
theorem c_X6_pin (l : Launch) (D : va_G) (o : Nat → Nat) (cI cJ : ClassId) (a1 : Int32) (m_s : Nat → Int32) (m_past : Nat → Int32) (m_kept : Nat → Int32) (m_spare : Nat → Int32) (m_paid : Nat → Int64) (m_pastPaid : Nat → Int64) (m_keptPaid : Nat → Int64) (m_sparePaid : Nat → Int64) (m_isKept : Int32) (m_pasts : Int32) (m_runs : Int32) (m_pad : Nat → Int32) (m_typed : Int32) (m_isStopped : Int32) (m_stop : Nat → Int32) (m_order : Nat → Int32) (m_best : Nat → Int32) (m_many : Int32) (m_bySets : Nat → Int64) (m_spot : Int32) (m_deeds : Int32) (m_deed : Nat → Int32) (q : Int32 × (Nat → Int32) × (Nat → Int32) × (Nat → Int64) × (Int32)) (h : f_X6_pin a1 m_s m_past m_paid m_pastPaid m_pasts m_runs = some q) : CF l yX6_pin cX6_pin 4 3 (some .int) D (tysMW cI cJ) [.ref (o 0), .int a1] (some (.int q.1)) (MW o cI cJ m_s m_past m_kept m_spare m_paid m_pastPaid m_keptPaid m_sparePaid m_isKept m_pasts m_runs m_pad m_typed m_isStopped m_stop m_order m_best m_many m_bySets m_spot m_deeds m_deed) (MW o cI cJ q.2.1 q.2.2.1 m_kept m_spare m_paid q.2.2.2.1 m_keptPaid m_sparePaid m_isKept q.2.2.2.2 m_runs m_pad m_typed m_isStopped m_stop m_order m_best m_many m_bySets m_spot m_deeds m_deed) := by
  refine CF.mkI (by decide) (Nat.le_of_ble_eq_true rfl) ?_
  intro p e s m below meth c Q A B hK hDD hA hret hP hS ls hl
  have B0 := B
  obtain ⟨hx, hb, hml, hown, hts⟩ := B0
  have hl : lv_has ls 4 [(0, .ref (o 0)), (1, .int a1)] := hl
  unfold f_X6_pin at h
  refine lv_iload_n hx hb dX6_pin_0 rfl (lv_at hl 1 rfl) ?_
  obtain ⟨q1, e1, h⟩ := bnd_some h
  refine s_call (As := [.int a1]) (rest := []) (c_X6_isSet l a1 q1 e1) B k_X6_isSet q_17_13 rfl ⟨Nat.le_of_ble_eq_true rfl, Nat.le_of_ble_eq_true rfl⟩ ⟨Nat.le_refl _, Nat.le_refl _⟩ hl.1 rfl (Nat.le_of_ble_eq_true rfl) dX6_pin_1 ?_
  refine lv_if_ne (tgt := 9) hx hb dX6_pin_4 (by decide) (fun c2 => ?_) (fun c2 => ?_)
  · have h := ifn c2 h
    refine lv_aload_n hx hb dX6_pin_9 rfl (lv_at hl 0 rfl) ?_
    refine lv_iload_n hx hb dX6_pin_10 rfl (lv_at hl 1 rfl) ?_
    obtain ⟨q3, e3, h⟩ := bnd_some h
    refine f_call (As := [.int a1]) (rest := []) (c_X6_slotOf l D o cI cJ a1 m_s m_past m_kept m_spare m_paid m_pastPaid m_keptPaid m_sparePaid m_isKept m_pasts m_runs m_pad m_typed m_isStopped m_stop m_order m_best m_many m_bySets m_spot m_deeds m_deed q3 e3) B hK hDD hA hP hS rfl (va_recv hK hP (ci := 7) (q0 := 0) rfl rfl) k_X6_slotOf q_17_21 rfl ⟨Nat.le_of_ble_eq_true rfl, Nat.le_of_ble_eq_true rfl⟩ ⟨Nat.le_refl _, Nat.le_refl _⟩ hl.1 rfl (Nat.le_of_ble_eq_true rfl) dX6_pin_11 (fun H locs hP hS => ?_)
    refine lv_istore_n (lv' := [(2, .int q3), (0, .ref (o 0)), (1, .int a1)]) hx hb dX6_pin_14 rfl hl (by decide) rfl (fun ls hl => ?_)
    refine lv_iload_n hx hb dX6_pin_15 rfl (lv_at hl 0 rfl) ?_
    refine lv_if_ge (tgt := 22) hx hb dX6_pin_16 (by decide) (fun c4 => ?_) (fun c4 => ?_)
    · have h := ift c4 h
      refine lv_aload_n hx hb dX6_pin_22 rfl (lv_at hl 1 rfl) ?_
      obtain ⟨q5, e5, h⟩ := bnd_some h
      refine f_call (As := []) (rest := []) (c_X6_changes l D o cI cJ  m_s m_past m_kept m_spare m_paid m_pastPaid m_keptPaid m_sparePaid m_isKept m_pasts m_runs m_pad m_typed m_isStopped m_stop m_order m_best m_many m_bySets m_spot m_deeds m_deed q5 e5) B hK hDD hA hP hS rfl (va_recv hK hP (ci := 7) (q0 := 0) rfl rfl) k_X6_changes q_9_18 rfl ⟨Nat.le_of_ble_eq_true rfl, Nat.le_of_ble_eq_true rfl⟩ ⟨Nat.le_refl _, Nat.le_refl _⟩ hl.1 rfl (Nat.le_of_ble_eq_true rfl) dX6_pin_23 (fun H locs hP hS => ?_)
      refine lv_iconst (v := (1 : Int32)) hx hb dX6_pin_26 (by decide) ?_
      refine lv_aload_n hx hb dX6_pin_27 rfl (lv_at hl 1 rfl) ?_
      refine va_get (D := D) (ci := 7) (v := .ref (o 1)) (C := RX6) (T := TX6) (N := 22) hx hb hts inlX6 hown hK hP 0 rfl rfl 0 (by decide) (hts _ q_4_5) (fun _ h9 => h9) rfl dX6_pin_28 ?_
      refine lv_iload_n hx hb dX6_pin_31 rfl (lv_at hl 0 rfl) ?_
      obtain ⟨q6, e6, h⟩ := bnd_some h
      refine s_call (As := [.int q3]) (rest := [.ref (o 1), .int (1 : Int32)]) (c_X6_at l q3 q6 e6) B k_X6_at q_11_4 rfl ⟨Nat.le_of_ble_eq_true rfl, Nat.le_of_ble_eq_true rfl⟩ ⟨Nat.le_refl _, Nat.le_refl _⟩ hl.1 rfl (Nat.le_of_ble_eq_true rfl) dX6_pin_32 ?_
      refine lv_bipush (v := (13 : Int32)) hx hb dX6_pin_35 (by decide) ?_
      refine lv_iadd hx hb dX6_pin_37 ?_
      obtain ⟨g7, h⟩ := grd_some h
      refine va_iald hx hb hK hP 1 0 rfl rfl (inb_in g7) dX6_pin_38 ?_
      refine lv_isub hx hb dX6_pin_39 ?_
      refine lv_istore_n (lv' := [(3, .int ((1 : Int32) - (m_s (q6 + (13 : Int32)).toNatClampNeg))), (2, .int q3), (0, .ref (o 0)), (1, .int a1)]) hx hb dX6_pin_40 rfl hl (by decide) rfl (fun ls hl => ?_)
      refine lv_aload_n hx hb dX6_pin_41 rfl (lv_at hl 2 rfl) ?_
      refine va_get (D := D) (ci := 7) (v := .ref (o 1)) (C := RX6) (T := TX6) (N := 22) hx hb hts inlX6 hown hK hP 0 rfl rfl 0 (by decide) (hts _ q_4_5) (fun _ h9 => h9) rfl dX6_pin_42 ?_
      refine lv_iload_n hx hb dX6_pin_45 rfl (lv_at hl 1 rfl) ?_
      obtain ⟨q8, e8, h⟩ := bnd_some h
      refine s_call (As := [.int q3]) (rest := [.ref (o 1)]) (c_X6_at l q3 q8 e8) B k_X6_at q_11_4 rfl ⟨Nat.le_of_ble_eq_true rfl, Nat.le_of_ble_eq_true rfl⟩ ⟨Nat.le_refl _, Nat.le_refl _⟩ hl.1 rfl (Nat.le_of_ble_eq_true rfl) dX6_pin_46 ?_
      refine lv_bipush (v := (13 : Int32)) hx hb dX6_pin_49 (by decide) ?_
      refine lv_iadd hx hb dX6_pin_51 ?_
      refine lv_iload_n hx hb dX6_pin_52 rfl (lv_at hl 0 rfl) ?_
      obtain ⟨g9, h⟩ := grd_some h
      refine va_iast hx hb hK hP (hDD _ rfl) hS 1 0 rfl rfl (inb_in g9) dX6_pin_53 (fun H locs hP _ hS => ?_)
      have hP : va_P D vwCl (MW o cI cJ (upd m_s (q8 + (13 : Int32)).toNatClampNeg ((1 : Int32) - (m_s (q6 + (13 : Int32)).toNatClampNeg))) q5.1 m_kept m_spare m_paid q5.2.1 m_keptPaid m_sparePaid m_isKept q5.2.2 m_runs m_pad m_typed m_isStopped m_stop m_order m_best m_many m_bySets m_spot m_deeds m_deed) H := hP
      refine lv_iload_n hx hb dX6_pin_54 rfl (lv_at hl 0 rfl) ?_
      refine lv_if_ne (tgt := 70) hx hb dX6_pin_55 (by decide) (fun c10 => ?_) (fun c10 => ?_)
      · have h := ifn c10 h
        refine lv_iload_n hx hb dX6_pin_70 rfl (lv_at hl 0 rfl) ?_
        obtain rfl := Option.some.inj h
        exact hret _ _ _ _ (vp_nar_int _) dX6_pin_71 hP hS
      · have h := ift c10 h
        refine lv_aload_n hx hb dX6_pin_58 rfl (lv_at hl 2 rfl) ?_
        obtain ⟨q11, e11, h⟩ := bnd_some h
        refine f_call (As := []) (rest := []) (c_X6_throwsOut l D o cI cJ  (upd m_s (q8 + (13 : Int32)).toNatClampNeg ((1 : Int32) - (m_s (q6 + (13 : Int32)).toNatClampNeg))) q5.1 m_kept m_spare m_paid q5.2.1 m_keptPaid m_sparePaid m_isKept q5.2.2 m_runs m_pad m_typed m_isStopped m_stop m_order m_best m_many m_bySets m_spot m_deeds m_deed q11 e11) B hK hDD hA hP hS rfl (va_recv hK hP (ci := 7) (q0 := 0) rfl rfl) k_X6_throwsOut q_12_16 rfl ⟨Nat.le_of_ble_eq_true rfl, Nat.le_of_ble_eq_true rfl⟩ ⟨Nat.le_refl _, Nat.le_refl _⟩ hl.1 rfl (Nat.le_of_ble_eq_true rfl) dX6_pin_59 (fun H locs hP hS => ?_)
        refine lv_if_ge (tgt := 70) hx hb dX6_pin_62 (by decide) (fun c12 => ?_) (fun c12 => ?_)
        · have h := ift c12 h
          refine lv_iload_n hx hb dX6_pin_70 rfl (lv_at hl 0 rfl) ?_
          obtain rfl := Option.some.inj h
          exact hret _ _ _ _ (vp_nar_int _) dX6_pin_71 hP hS
        · have h := ifn c12 h
          refine lv_bipush (v := (-4 : Int32)) hx hb dX6_pin_65 (by decide) ?_
          refine lv_goto (tgt := 71) hx hb dX6_pin_67 (by decide) ?_
          obtain rfl := Option.some.inj h
          exact hret _ _ _ _ (vp_nar_int _) dX6_pin_71 hP hS
    · have h := ifn c4 h
      refine lv_bipush (v := (-2 : Int32)) hx hb dX6_pin_19 (by decide) ?_
      obtain rfl := Option.some.inj h
      exact hret _ _ _ _ (vp_nar_int _) dX6_pin_21 hP hS
  · have h := ift c2 h
    refine lv_iconst (v := (-1 : Int32)) hx hb dX6_pin_7 (by decide) ?_
    obtain rfl := Option.some.inj h
    exact hret _ _ _ _ (vp_nar_int _) dX6_pin_8 hP hS

def f_X6_forget (a1 : Int32) (m_s : Nat → Int32) (m_past : Nat → Int32) (m_paid : Nat → Int64) (m_pastPaid : Nat → Int64) (m_pasts : Int32) (m_runs : Int32) : Option (Int32 × (Nat → Int32) × (Nat → Int32) × (Nat → Int64) × (Int32)) :=
  bnd (f_X6_isSet a1 ) (fun q1 => if q1 = (0 : Int32) then some ((-1 : Int32), m_s, m_past, m_pastPaid, m_pasts)
  else bnd (f_X6_slotOf a1 m_s) (fun q3 => if (0 : Int32) ≤ q3 then bnd (f_X6_changes  m_s m_past m_paid m_pastPaid m_pasts m_runs) (fun q5 => bnd (f_X6_at q3 ) (fun q6 => grd (inb (q6 + (11 : Int32)) 100) (bnd (f_X6_empties q3 m_s) (fun q8 => grd (inb (98 : Int32) 100) (grd (inb (98 : Int32) 100) (some ((m_s (q6 + (11 : Int32)).toNatClampNeg), (upd q8 (98 : Int32).toNatClampNeg ((q8 (98 : Int32).toNatClampNeg) + (1 : Int32))), q5.1, q5.2.1, q5.2.2)))))))
  else some ((-2 : Int32), m_s, m_past, m_pastPaid, m_pasts)))
set_option maxRecDepth 100000 in
set_option maxHeartbeats 4000000 in
theorem c_X6_forget (l : Launch) (D : va_G) (o : Nat → Nat) (cI cJ : ClassId) (a1 : Int32) (m_s : Nat → Int32) (m_past : Nat → Int32) (m_kept : Nat → Int32) (m_spare : Nat → Int32) (m_paid : Nat → Int64) (m_pastPaid : Nat → Int64) (m_keptPaid : Nat → Int64) (m_sparePaid : Nat → Int64) (m_isKept : Int32) (m_pasts : Int32) (m_runs : Int32) (m_pad : Nat → Int32) (m_typed : Int32) (m_isStopped : Int32) (m_stop : Nat → Int32) (m_order : Nat → Int32) (m_best : Nat → Int32) (m_many : Int32) (m_bySets : Nat → Int64) (m_spot : Int32) (m_deeds : Int32) (m_deed : Nat → Int32) (q : Int32 × (Nat → Int32) × (Nat → Int32) × (Nat → Int64) × (Int32)) (h : f_X6_forget a1 m_s m_past m_paid m_pastPaid m_pasts m_runs = some q) : CF l yX6_forget cX6_forget 4 2 (some .int) D (tysMW cI cJ) [.ref (o 0), .int a1] (some (.int q.1)) (MW o cI cJ m_s m_past m_kept m_spare m_paid m_pastPaid m_keptPaid m_sparePaid m_isKept m_pasts m_runs m_pad m_typed m_isStopped m_stop m_order m_best m_many m_bySets m_spot m_deeds m_deed) (MW o cI cJ q.2.1 q.2.2.1 m_kept m_spare m_paid q.2.2.2.1 m_keptPaid m_sparePaid m_isKept q.2.2.2.2 m_runs m_pad m_typed m_isStopped m_stop m_order m_best m_many m_bySets m_spot m_deeds m_deed) := by
  refine CF.mkI (by decide) (Nat.le_of_ble_eq_true rfl) ?_
  intro p e s m below meth c Q A B hK hDD hA hret hP hS ls hl
  have B0 := B
  obtain ⟨hx, hb, hml, hown, hts⟩ := B0
  have hl : lv_has ls 4 [(0, .ref (o 0)), (1, .int a1)] := hl
  unfold f_X6_forget at h
  refine lv_iload_n hx hb dX6_forget_0 rfl (lv_at hl 1 rfl) ?_
  obtain ⟨q1, e1, h⟩ := bnd_some h
  refine s_call (As := [.int a1]) (rest := []) (c_X6_isSet l a1 q1 e1) B k_X6_isSet q_17_13 rfl ⟨Nat.le_of_ble_eq_true rfl, Nat.le_of_ble_eq_true rfl⟩ ⟨Nat.le_refl _, Nat.le_refl _⟩ hl.1 rfl (Nat.le_of_ble_eq_true rfl) dX6_forget_1 ?_
  refine lv_if_ne (tgt := 9) hx hb dX6_forget_4 (by decide) (fun c2 => ?_) (fun c2 => ?_)
  · have h := ifn c2 h
    refine lv_aload_n hx hb dX6_forget_9 rfl (lv_at hl 0 rfl) ?_
    refine lv_iload_n hx hb dX6_forget_10 rfl (lv_at hl 1 rfl) ?_
    obtain ⟨q3, e3, h⟩ := bnd_some h
    refine f_call (As := [.int a1]) (rest := []) (c_X6_slotOf l D o cI cJ a1 m_s m_past m_kept m_spare m_paid m_pastPaid m_keptPaid m_sparePaid m_isKept m_pasts m_runs m_pad m_typed m_isStopped m_stop m_order m_best m_many m_bySets m_spot m_deeds m_deed q3 e3) B hK hDD hA hP hS rfl (va_recv hK hP (ci := 7) (q0 := 0) rfl rfl) k_X6_slotOf q_17_21 rfl ⟨Nat.le_of_ble_eq_true rfl, Nat.le_of_ble_eq_true rfl⟩ ⟨Nat.le_refl _, Nat.le_refl _⟩ hl.1 rfl (Nat.le_of_ble_eq_true rfl) dX6_forget_11 (fun H locs hP hS => ?_)
    refine lv_istore_n (lv' := [(2, .int q3), (0, .ref (o 0)), (1, .int a1)]) hx hb dX6_forget_14 rfl hl (by decide) rfl (fun ls hl => ?_)
    refine lv_iload_n hx hb dX6_forget_15 rfl (lv_at hl 0 rfl) ?_
    refine lv_if_ge (tgt := 22) hx hb dX6_forget_16 (by decide) (fun c4 => ?_) (fun c4 => ?_)
    · have h := ift c4 h
      refine lv_aload_n hx hb dX6_forget_22 rfl (lv_at hl 1 rfl) ?_
      obtain ⟨q5, e5, h⟩ := bnd_some h
      refine f_call (As := []) (rest := []) (c_X6_changes l D o cI cJ  m_s m_past m_kept m_spare m_paid m_pastPaid m_keptPaid m_sparePaid m_isKept m_pasts m_runs m_pad m_typed m_isStopped m_stop m_order m_best m_many m_bySets m_spot m_deeds m_deed q5 e5) B hK hDD hA hP hS rfl (va_recv hK hP (ci := 7) (q0 := 0) rfl rfl) k_X6_changes q_9_18 rfl ⟨Nat.le_of_ble_eq_true rfl, Nat.le_of_ble_eq_true rfl⟩ ⟨Nat.le_refl _, Nat.le_refl _⟩ hl.1 rfl (Nat.le_of_ble_eq_true rfl) dX6_forget_23 (fun H locs hP hS => ?_)
      refine lv_aload_n hx hb dX6_forget_26 rfl (lv_at hl 1 rfl) ?_
      refine va_get (D := D) (ci := 7) (v := .ref (o 1)) (C := RX6) (T := TX6) (N := 22) hx hb hts inlX6 hown hK hP 0 rfl rfl 0 (by decide) (hts _ q_4_5) (fun _ h9 => h9) rfl dX6_forget_27 ?_
      refine lv_iload_n hx hb dX6_forget_30 rfl (lv_at hl 0 rfl) ?_
      obtain ⟨q6, e6, h⟩ := bnd_some h
      refine s_call (As := [.int q3]) (rest := [.ref (o 1)]) (c_X6_at l q3 q6 e6) B k_X6_at q_11_4 rfl ⟨Nat.le_of_ble_eq_true rfl, Nat.le_of_ble_eq_true rfl⟩ ⟨Nat.le_refl _, Nat.le_refl _⟩ hl.1 rfl (Nat.le_of_ble_eq_true rfl) dX6_forget_31 ?_
      refine lv_bipush (v := (11 : Int32)) hx hb dX6_forget_34 (by decide) ?_
      refine lv_iadd hx hb dX6_forget_36 ?_
      obtain ⟨g7, h⟩ := grd_some h
      refine va_iald hx hb hK hP 1 0 rfl rfl (inb_in g7) dX6_forget_37 ?_
      refine lv_istore_n (lv' := [(3, .int (m_s (q6 + (11 : Int32)).toNatClampNeg)), (2, .int q3), (0, .ref (o 0)), (1, .int a1)]) hx hb dX6_forget_38 rfl hl (by decide) rfl (fun ls hl => ?_)
      refine lv_aload_n hx hb dX6_forget_39 rfl (lv_at hl 2 rfl) ?_
      refine lv_iload_n hx hb dX6_forget_40 rfl (lv_at hl 1 rfl) ?_
      obtain ⟨q8, e8, h⟩ := bnd_some h
      refine f_call (As := [.int q3]) (rest := []) (c_X6_empties l D o cI cJ q3 m_s q5.1 m_kept m_spare m_paid q5.2.1 m_keptPaid m_sparePaid m_isKept q5.2.2 m_runs m_pad m_typed m_isStopped m_stop m_order m_best m_many m_bySets m_spot m_deeds m_deed q8 e8) B hK hDD hA hP hS rfl (va_recv hK hP (ci := 7) (q0 := 0) rfl rfl) k_X6_empties q_11_7 rfl ⟨Nat.le_of_ble_eq_true rfl, Nat.le_of_ble_eq_true rfl⟩ ⟨Nat.le_refl _, Nat.le_refl _⟩ hl.1 rfl (Nat.le_of_ble_eq_true rfl) dX6_forget_41 (fun H locs hP hS => ?_)
      refine lv_aload_n hx hb dX6_forget_44 rfl (lv_at hl 2 rfl) ?_
      refine va_get (D := D) (ci := 7) (v := .ref (o 1)) (C := RX6) (T := TX6) (N := 22) hx hb hts inlX6 hown hK hP 0 rfl rfl 0 (by decide) (hts _ q_4_5) (fun _ h9 => h9) rfl dX6_forget_45 ?_
      refine lv_bipush (v := (98 : Int32)) hx hb dX6_forget_48 (by decide) ?_
      refine lv_dup2_11 hx hb dX6_forget_50 rfl rfl ?_
      obtain ⟨g9, h⟩ := grd_some h
      refine va_iald hx hb hK hP 1 0 rfl rfl (inb_in g9) dX6_forget_51 ?_
      refine lv_iconst (v := (1 : Int32)) hx hb dX6_forget_52 (by decide) ?_
      refine lv_iadd hx hb dX6_forget_53 ?_
      obtain ⟨g10, h⟩ := grd_some h
      refine va_iast hx hb hK hP (hDD _ rfl) hS 1 0 rfl rfl (inb_in g10) dX6_forget_54 (fun H locs hP _ hS => ?_)
      have hP : va_P D vwCl (MW o cI cJ (upd q8 (98 : Int32).toNatClampNeg ((q8 (98 : Int32).toNatClampNeg) + (1 : Int32))) q5.1 m_kept m_spare m_paid q5.2.1 m_keptPaid m_sparePaid m_isKept q5.2.2 m_runs m_pad m_typed m_isStopped m_stop m_order m_best m_many m_bySets m_spot m_deeds m_deed) H := hP
      refine lv_iload_n hx hb dX6_forget_55 rfl (lv_at hl 0 rfl) ?_
      obtain rfl := Option.some.inj h
      exact hret _ _ _ _ (vp_nar_int _) dX6_forget_56 hP hS
    · have h := ifn c4 h
      refine lv_bipush (v := (-2 : Int32)) hx hb dX6_forget_19 (by decide) ?_
      obtain rfl := Option.some.inj h
      exact hret _ _ _ _ (vp_nar_int _) dX6_forget_21 hP hS
  · have h := ift c2 h
    refine lv_iconst (v := (-1 : Int32)) hx hb dX6_forget_7 (by decide) ?_
    obtain rfl := Option.some.inj h
    exact hret _ _ _ _ (vp_nar_int _) dX6_forget_8 hP hS

def f_X6_drift (a1 : Int32) (m_s : Nat → Int32) (m_past : Nat → Int32) (m_paid : Nat → Int64) (m_pastPaid : Nat → Int64) (m_pasts : Int32) (m_runs : Int32) : Option (Int32 × (Nat → Int32) × (Nat → Int32) × (Nat → Int64) × (Int32)) :=
  bnd (f_X6_in a1 (100 : Int32) (1000 : Int32) ) (fun q1 => if q1 = (0 : Int32) then some ((-1 : Int32), m_s, m_past, m_pastPaid, m_pasts)
  else bnd (f_X6_changes  m_s m_past m_paid m_pastPaid m_pasts m_runs) (fun q3 => grd (inb (35 : Int32) 100) (bnd (f_X6_throwsOut  (upd m_s (35 : Int32).toNatClampNeg a1)) (fun q5 => some (q5.1, q5.2, q3.1, q3.2.1, q3.2.2)))))
set_option maxRecDepth 100000 in
set_option maxHeartbeats 4000000 in
theorem c_X6_drift (l : Launch) (D : va_G) (o : Nat → Nat) (cI cJ : ClassId) (a1 : Int32) (m_s : Nat → Int32) (m_past : Nat → Int32) (m_kept : Nat → Int32) (m_spare : Nat → Int32) (m_paid : Nat → Int64) (m_pastPaid : Nat → Int64) (m_keptPaid : Nat → Int64) (m_sparePaid : Nat → Int64) (m_isKept : Int32) (m_pasts : Int32) (m_runs : Int32) (m_pad : Nat → Int32) (m_typed : Int32) (m_isStopped : Int32) (m_stop : Nat → Int32) (m_order : Nat → Int32) (m_best : Nat → Int32) (m_many : Int32) (m_bySets : Nat → Int64) (m_spot : Int32) (m_deeds : Int32) (m_deed : Nat → Int32) (q : Int32 × (Nat → Int32) × (Nat → Int32) × (Nat → Int64) × (Int32)) (h : f_X6_drift a1 m_s m_past m_paid m_pastPaid m_pasts m_runs = some q) : CF l yX6_drift cX6_drift 2 3 (some .int) D (tysMW cI cJ) [.ref (o 0), .int a1] (some (.int q.1)) (MW o cI cJ m_s m_past m_kept m_spare m_paid m_pastPaid m_keptPaid m_sparePaid m_isKept m_pasts m_runs m_pad m_typed m_isStopped m_stop m_order m_best m_many m_bySets m_spot m_deeds m_deed) (MW o cI cJ q.2.1 q.2.2.1 m_kept m_spare m_paid q.2.2.2.1 m_keptPaid m_sparePaid m_isKept q.2.2.2.2 m_runs m_pad m_typed m_isStopped m_stop m_order m_best m_many m_bySets m_spot m_deeds m_deed) := by
  refine CF.mkI (by decide) (Nat.le_of_ble_eq_true rfl) ?_
  intro p e s m below meth c Q A B hK hDD hA hret hP hS ls hl
  have B0 := B
  obtain ⟨hx, hb, hml, hown, hts⟩ := B0
  have hl : lv_has ls 2 [(0, .ref (o 0)), (1, .int a1)] := hl
  unfold f_X6_drift at h
  refine lv_iload_n hx hb dX6_drift_0 rfl (lv_at hl 1 rfl) ?_
  refine lv_bipush (v := (100 : Int32)) hx hb dX6_drift_1 (by decide) ?_
  refine lv_sipush (v := (1000 : Int32)) hx hb dX6_drift_3 (by decide) ?_
  obtain ⟨q1, e1, h⟩ := bnd_some h
  refine s_call (As := [.int a1, .int (100 : Int32), .int (1000 : Int32)]) (rest := []) (c_X6_in l a1 (100 : Int32) (1000 : Int32) q1 e1) B k_X6_in q_9_15 rfl ⟨Nat.le_of_ble_eq_true rfl, Nat.le_of_ble_eq_true rfl⟩ ⟨Nat.le_refl _, Nat.le_refl _⟩ hl.1 rfl (Nat.le_of_ble_eq_true rfl) dX6_drift_6 ?_
  refine lv_if_ne (tgt := 14) hx hb dX6_drift_9 (by decide) (fun c2 => ?_) (fun c2 => ?_)
  · have h := ifn c2 h
    refine lv_aload_n hx hb dX6_drift_14 rfl (lv_at hl 0 rfl) ?_
    obtain ⟨q3, e3, h⟩ := bnd_some h
    refine f_call (As := []) (rest := []) (c_X6_changes l D o cI cJ  m_s m_past m_kept m_spare m_paid m_pastPaid m_keptPaid m_sparePaid m_isKept m_pasts m_runs m_pad m_typed m_isStopped m_stop m_order m_best m_many m_bySets m_spot m_deeds m_deed q3 e3) B hK hDD hA hP hS rfl (va_recv hK hP (ci := 7) (q0 := 0) rfl rfl) k_X6_changes q_9_18 rfl ⟨Nat.le_of_ble_eq_true rfl, Nat.le_of_ble_eq_true rfl⟩ ⟨Nat.le_refl _, Nat.le_refl _⟩ hl.1 rfl (Nat.le_of_ble_eq_true rfl) dX6_drift_15 (fun H locs hP hS => ?_)
    refine lv_aload_n hx hb dX6_drift_18 rfl (lv_at hl 0 rfl) ?_
    refine va_get (D := D) (ci := 7) (v := .ref (o 1)) (C := RX6) (T := TX6) (N := 22) hx hb hts inlX6 hown hK hP 0 rfl rfl 0 (by decide) (hts _ q_4_5) (fun _ h9 => h9) rfl dX6_drift_19 ?_
    refine lv_bipush (v := (35 : Int32)) hx hb dX6_drift_22 (by decide) ?_
    refine lv_iload_n hx hb dX6_drift_24 rfl (lv_at hl 1 rfl) ?_
    obtain ⟨g4, h⟩ := grd_some h
    refine va_iast hx hb hK hP (hDD _ rfl) hS 1 0 rfl rfl (inb_in g4) dX6_drift_25 (fun H locs hP _ hS => ?_)
    have hP : va_P D vwCl (MW o cI cJ (upd m_s (35 : Int32).toNatClampNeg a1) q3.1 m_kept m_spare m_paid q3.2.1 m_keptPaid m_sparePaid m_isKept q3.2.2 m_runs m_pad m_typed m_isStopped m_stop m_order m_best m_many m_bySets m_spot m_deeds m_deed) H := hP
    refine lv_aload_n hx hb dX6_drift_26 rfl (lv_at hl 0 rfl) ?_
    obtain ⟨q5, e5, h⟩ := bnd_some h
    refine f_call (As := []) (rest := []) (c_X6_throwsOut l D o cI cJ  (upd m_s (35 : Int32).toNatClampNeg a1) q3.1 m_kept m_spare m_paid q3.2.1 m_keptPaid m_sparePaid m_isKept q3.2.2 m_runs m_pad m_typed m_isStopped m_stop m_order m_best m_many m_bySets m_spot m_deeds m_deed q5 e5) B hK hDD hA hP hS rfl (va_recv hK hP (ci := 7) (q0 := 0) rfl rfl) k_X6_throwsOut q_12_16 rfl ⟨Nat.le_of_ble_eq_true rfl, Nat.le_of_ble_eq_true rfl⟩ ⟨Nat.le_refl _, Nat.le_refl _⟩ hl.1 rfl (Nat.le_of_ble_eq_true rfl) dX6_drift_27 (fun H locs hP hS => ?_)
    obtain rfl := Option.some.inj h
    exact hret _ _ _ _ (vp_nar_int _) dX6_drift_30 hP hS
  · have h := ift c2 h
    refine lv_iconst (v := (-1 : Int32)) hx hb dX6_drift_12 (by decide) ?_
    obtain rfl := Option.some.inj h
    exact hret _ _ _ _ (vp_nar_int _) dX6_drift_13 hP hS

def f_X6_append (a1 : Int32) (m_pad : Nat → Int32) (m_typed : Int32) : Option (Int32 × (Nat → Int32) × (Int32)) :=
  bnd (f_X6_in a1 (33 : Int32) (126 : Int32) ) (fun q1 => if q1 = (0 : Int32) then some ((-1 : Int32), m_pad, m_typed)
  else if m_typed = (60 : Int32) then some ((-3 : Int32), m_pad, m_typed)
  else grd (inb m_typed 60) (some ((m_typed + (1 : Int32)), (upd m_pad m_typed.toNatClampNeg a1), (m_typed + (1 : Int32)))))
set_option maxRecDepth 100000 in
set_option maxHeartbeats 4000000 in
theorem c_X6_append (l : Launch) (D : va_G) (o : Nat → Nat) (cI cJ : ClassId) (a1 : Int32) (m_s : Nat → Int32) (m_past : Nat → Int32) (m_kept : Nat → Int32) (m_spare : Nat → Int32) (m_paid : Nat → Int64) (m_pastPaid : Nat → Int64) (m_keptPaid : Nat → Int64) (m_sparePaid : Nat → Int64) (m_isKept : Int32) (m_pasts : Int32) (m_runs : Int32) (m_pad : Nat → Int32) (m_typed : Int32) (m_isStopped : Int32) (m_stop : Nat → Int32) (m_order : Nat → Int32) (m_best : Nat → Int32) (m_many : Int32) (m_bySets : Nat → Int64) (m_spot : Int32) (m_deeds : Int32) (m_deed : Nat → Int32) (q : Int32 × (Nat → Int32) × (Int32)) (h : f_X6_append a1 m_pad m_typed = some q) : CF l yX6_append cX6_append 2 1 (some .int) D (tysMW cI cJ) [.ref (o 0), .int a1] (some (.int q.1)) (MW o cI cJ m_s m_past m_kept m_spare m_paid m_pastPaid m_keptPaid m_sparePaid m_isKept m_pasts m_runs m_pad m_typed m_isStopped m_stop m_order m_best m_many m_bySets m_spot m_deeds m_deed) (MW o cI cJ m_s m_past m_kept m_spare m_paid m_pastPaid m_keptPaid m_sparePaid m_isKept m_pasts m_runs q.2.1 q.2.2 m_isStopped m_stop m_order m_best m_many m_bySets m_spot m_deeds m_deed) := by
  refine CF.mkI (by decide) (Nat.le_of_ble_eq_true rfl) ?_
  intro p e s m below meth c Q A B hK hDD hA hret hP hS ls hl
  have B0 := B
  obtain ⟨hx, hb, hml, hown, hts⟩ := B0
  have hl : lv_has ls 2 [(0, .ref (o 0)), (1, .int a1)] := hl
  unfold f_X6_append at h
  refine lv_iload_n hx hb dX6_append_0 rfl (lv_at hl 1 rfl) ?_
  refine lv_bipush (v := (33 : Int32)) hx hb dX6_append_1 (by decide) ?_
  refine lv_bipush (v := (126 : Int32)) hx hb dX6_append_3 (by decide) ?_
  obtain ⟨q1, e1, h⟩ := bnd_some h
  refine s_call (As := [.int a1, .int (33 : Int32), .int (126 : Int32)]) (rest := []) (c_X6_in l a1 (33 : Int32) (126 : Int32) q1 e1) B k_X6_in q_9_15 rfl ⟨Nat.le_of_ble_eq_true rfl, Nat.le_of_ble_eq_true rfl⟩ ⟨Nat.le_refl _, Nat.le_refl _⟩ hl.1 rfl (Nat.le_of_ble_eq_true rfl) dX6_append_5 ?_
  refine lv_if_ne (tgt := 13) hx hb dX6_append_8 (by decide) (fun c2 => ?_) (fun c2 => ?_)
  · have h := ifn c2 h
    refine lv_aload_n hx hb dX6_append_13 rfl (lv_at hl 0 rfl) ?_
    refine va_get (D := D) (ci := 7) (v := .int m_typed) (C := RX6) (T := TX6) (N := 22) hx hb hts inlX6 hown hK hP 0 rfl rfl 12 (by decide) (hts _ q_22_1) (fun _ h9 => h9) rfl dX6_append_14 ?_
    refine lv_bipush (v := (60 : Int32)) hx hb dX6_append_17 (by decide) ?_
    refine lv_icmp_ne (tgt := 25) hx hb dX6_append_19 (by decide) (fun c3 => ?_) (fun c3 => ?_)
    · have h := ifn c3 h
      refine lv_aload_n hx hb dX6_append_25 rfl (lv_at hl 0 rfl) ?_
      refine va_get (D := D) (ci := 7) (v := .ref (o 9)) (C := RX6) (T := TX6) (N := 22) hx hb hts inlX6 hown hK hP 0 rfl rfl 11 (by decide) (hts _ q_4_13) (fun _ h9 => h9) rfl dX6_append_26 ?_
      refine lv_aload_n hx hb dX6_append_29 rfl (lv_at hl 0 rfl) ?_
      refine va_get (D := D) (ci := 7) (v := .int m_typed) (C := RX6) (T := TX6) (N := 22) hx hb hts inlX6 hown hK hP 0 rfl rfl 12 (by decide) (hts _ q_22_1) (fun _ h9 => h9) rfl dX6_append_30 ?_
      refine lv_iload_n hx hb dX6_append_33 rfl (lv_at hl 1 rfl) ?_
      obtain ⟨g4, h⟩ := grd_some h
      refine va_iast hx hb hK hP (hDD _ rfl) hS 9 0 rfl rfl (inb_in g4) dX6_append_34 (fun H locs hP _ hS => ?_)
      have hP : va_P D vwCl (MW o cI cJ m_s m_past m_kept m_spare m_paid m_pastPaid m_keptPaid m_sparePaid m_isKept m_pasts m_runs (upd m_pad m_typed.toNatClampNeg a1) m_typed m_isStopped m_stop m_order m_best m_many m_bySets m_spot m_deeds m_deed) H := hP
      refine lv_aload_n hx hb dX6_append_35 rfl (lv_at hl 0 rfl) ?_
      refine lv_dup hx hb dX6_append_36 rfl ?_
      refine va_get (D := D) (ci := 7) (v := .int m_typed) (C := RX6) (T := TX6) (N := 22) hx hb hts inlX6 hown hK hP 0 rfl rfl 12 (by decide) (hts _ q_22_1) (fun _ h9 => h9) rfl dX6_append_37 ?_
      refine lv_iconst (v := (1 : Int32)) hx hb dX6_append_40 (by decide) ?_
      refine lv_iadd hx hb dX6_append_41 ?_
      refine va_put (D := D) (ci := 7) (v := .int (m_typed + (1 : Int32))) (ty := .int) (C := RX6) (T := TX6) (N := 22) hx hb hts inlX6 tyX6 tyX6_ok nmX6 hown hK hP (hDD _ rfl) hS 0 rfl rfl 12 (by decide) (hts _ q_22_1) (fun _ h9 => h9) rfl (by decide +kernel) rfl rfl (Nat.le_of_ble_eq_true rfl) dX6_append_42 (fun H locs hP _ hS => ?_)
      have hP : va_P D vwCl (MW o cI cJ m_s m_past m_kept m_spare m_paid m_pastPaid m_keptPaid m_sparePaid m_isKept m_pasts m_runs (upd m_pad m_typed.toNatClampNeg a1) (m_typed + (1 : Int32)) m_isStopped m_stop m_order m_best m_many m_bySets m_spot m_deeds m_deed) H := hP
      refine lv_aload_n hx hb dX6_append_45 rfl (lv_at hl 0 rfl) ?_
      refine va_get (D := D) (ci := 7) (v := .int (m_typed + (1 : Int32))) (C := RX6) (T := TX6) (N := 22) hx hb hts inlX6 hown hK hP 0 rfl rfl 12 (by decide) (hts _ q_22_1) (fun _ h9 => h9) rfl dX6_append_46 ?_
      obtain rfl := Option.some.inj h
      exact hret _ _ _ _ (vp_nar_int _) dX6_append_49 hP hS
    · have h := ift c3 h
      refine lv_bipush (v := (-3 : Int32)) hx hb dX6_append_22 (by decide) ?_
      obtain rfl := Option.some.inj h
      exact hret _ _ _ _ (vp_nar_int _) dX6_append_24 hP hS
  · have h := ift c2 h
    refine lv_iconst (v := (-1 : Int32)) hx hb dX6_append_11 (by decide) ?_
    obtain rfl := Option.some.inj h
    exact hret _ _ _ _ (vp_nar_int _) dX6_append_12 hP hS

def f_X6_clear  (m_typed : Int32) : Option (Int32 × (Int32)) :=
  some (m_typed, (0 : Int32))
set_option maxRecDepth 100000 in
set_option maxHeartbeats 4000000 in
theorem c_X6_clear (l : Launch) (D : va_G) (o : Nat → Nat) (cI cJ : ClassId)  (m_s : Nat → Int32) (m_past : Nat → Int32) (m_kept : Nat → Int32) (m_spare : Nat → Int32) (m_paid : Nat → Int64) (m_pastPaid : Nat → Int64) (m_keptPaid : Nat → Int64) (m_sparePaid : Nat → Int64) (m_isKept : Int32) (m_pasts : Int32) (m_runs : Int32) (m_pad : Nat → Int32) (m_typed : Int32) (m_isStopped : Int32) (m_stop : Nat → Int32) (m_order : Nat → Int32) (m_best : Nat → Int32) (m_many : Int32) (m_bySets : Nat → Int64) (m_spot : Int32) (m_deeds : Int32) (m_deed : Nat → Int32) (q : Int32 × (Int32)) (h : f_X6_clear  m_typed = some q) : CF l yX6_clear cX6_clear 2 0 (some .int) D (tysMW cI cJ) [.ref (o 0)] (some (.int q.1)) (MW o cI cJ m_s m_past m_kept m_spare m_paid m_pastPaid m_keptPaid m_sparePaid m_isKept m_pasts m_runs m_pad m_typed m_isStopped m_stop m_order m_best m_many m_bySets m_spot m_deeds m_deed) (MW o cI cJ m_s m_past m_kept m_spare m_paid m_pastPaid m_keptPaid m_sparePaid m_isKept m_pasts m_runs m_pad q.2 m_isStopped m_stop m_order m_best m_many m_bySets m_spot m_deeds m_deed) := by
  refine CF.mkI (by decide) (Nat.le_of_ble_eq_true rfl) ?_
  intro p e s m below meth c Q A B hK hDD hA hret hP hS ls hl
  have B0 := B
  obtain ⟨hx, hb, hml, hown, hts⟩ := B0
  have hl : lv_has ls 2 [(0, .ref (o 0))] := hl
  unfold f_X6_clear at h
  refine lv_aload_n hx hb dX6_clear_0 rfl (lv_at hl 0 rfl) ?_
  refine va_get (D := D) (ci := 7) (v := .int m_typed) (C := RX6) (T := TX6) (N := 22) hx hb hts inlX6 hown hK hP 0 rfl rfl 12 (by decide) (hts _ q_22_1) (fun _ h9 => h9) rfl dX6_clear_1 ?_
  refine lv_istore_n (lv' := [(1, .int m_typed), (0, .ref (o 0))]) hx hb dX6_clear_4 rfl hl (by decide) rfl (fun ls hl => ?_)
  refine lv_aload_n hx hb dX6_clear_5 rfl (lv_at hl 1 rfl) ?_
  refine lv_iconst (v := (0 : Int32)) hx hb dX6_clear_6 (by decide) ?_
  refine va_put (D := D) (ci := 7) (v := .int (0 : Int32)) (ty := .int) (C := RX6) (T := TX6) (N := 22) hx hb hts inlX6 tyX6 tyX6_ok nmX6 hown hK hP (hDD _ rfl) hS 0 rfl rfl 12 (by decide) (hts _ q_22_1) (fun _ h9 => h9) rfl (by decide +kernel) rfl rfl (Nat.le_of_ble_eq_true rfl) dX6_clear_7 (fun H locs hP _ hS => ?_)
  have hP : va_P D vwCl (MW o cI cJ m_s m_past m_kept m_spare m_paid m_pastPaid m_keptPaid m_sparePaid m_isKept m_pasts m_runs m_pad (0 : Int32) m_isStopped m_stop m_order m_best m_many m_bySets m_spot m_deeds m_deed) H := hP
  refine lv_iload_n hx hb dX6_clear_10 rfl (lv_at hl 0 rfl) ?_
  obtain rfl := Option.some.inj h
  exact hret _ _ _ _ (vp_nar_int _) dX6_clear_11 hP hS

def f_X6_isAt (a1 : Int32) (a2 : Int32) (m_pad : Nat → Int32) (m_typed : Int32) (m_spot : Int32) : Option (Int32) :=
  if m_typed ≤ m_spot then some (0 : Int32)
  else grd (inb m_spot 60) (bnd (f_X6_in (m_pad m_spot.toNatClampNeg) a1 a2 ) (fun q3 => if q3 = (0 : Int32) then some (0 : Int32)
  else some (1 : Int32)))
set_option maxRecDepth 100000 in
set_option maxHeartbeats 4000000 in
theorem c_X6_isAt (l : Launch) (D : va_G) (o : Nat → Nat) (cI cJ : ClassId) (a1 : Int32) (a2 : Int32) (m_s : Nat → Int32) (m_past : Nat → Int32) (m_kept : Nat → Int32) (m_spare : Nat → Int32) (m_paid : Nat → Int64) (m_pastPaid : Nat → Int64) (m_keptPaid : Nat → Int64) (m_sparePaid : Nat → Int64) (m_isKept : Int32) (m_pasts : Int32) (m_runs : Int32) (m_pad : Nat → Int32) (m_typed : Int32) (m_isStopped : Int32) (m_stop : Nat → Int32) (m_order : Nat → Int32) (m_best : Nat → Int32) (m_many : Int32) (m_bySets : Nat → Int64) (m_spot : Int32) (m_deeds : Int32) (m_deed : Nat → Int32) (q : Int32) (h : f_X6_isAt a1 a2 m_pad m_typed m_spot = some q) : CF l yX6_isAt cX6_isAt 3 1 (some .boolean) D (tysMW cI cJ) [.ref (o 0), .int a1, .int a2] (some (.int q)) (MW o cI cJ m_s m_past m_kept m_spare m_paid m_pastPaid m_keptPaid m_sparePaid m_isKept m_pasts m_runs m_pad m_typed m_isStopped m_stop m_order m_best m_many m_bySets m_spot m_deeds m_deed) (MW o cI cJ m_s m_past m_kept m_spare m_paid m_pastPaid m_keptPaid m_sparePaid m_isKept m_pasts m_runs m_pad m_typed m_isStopped m_stop m_order m_best m_many m_bySets m_spot m_deeds m_deed) := by
  refine CF.mkI (by decide) (Nat.le_of_ble_eq_true rfl) ?_
  intro p e s m below meth c Q A B hK hDD hA hret hP hS ls hl
  have B0 := B
  obtain ⟨hx, hb, hml, hown, hts⟩ := B0
  have hl : lv_has ls 3 [(0, .ref (o 0)), (1, .int a1), (2, .int a2)] := hl
  unfold f_X6_isAt at h
  refine lv_aload_n hx hb dX6_isAt_0 rfl (lv_at hl 0 rfl) ?_
  refine va_get (D := D) (ci := 7) (v := .int m_spot) (C := RX6) (T := TX6) (N := 22) hx hb hts inlX6 hown hK hP 0 rfl rfl 19 (by decide) (hts _ q_24_17) (fun _ h9 => h9) rfl dX6_isAt_1 ?_
  refine lv_aload_n hx hb dX6_isAt_4 rfl (lv_at hl 0 rfl) ?_
  refine va_get (D := D) (ci := 7) (v := .int m_typed) (C := RX6) (T := TX6) (N := 22) hx hb hts inlX6 hown hK hP 0 rfl rfl 12 (by decide) (hts _ q_22_1) (fun _ h9 => h9) rfl dX6_isAt_5 ?_
  refine lv_icmp_ge (tgt := 32) hx hb dX6_isAt_8 (by decide) (fun c1 => ?_) (fun c1 => ?_)
  · have h := ift c1 h
    refine lv_iconst (v := (0 : Int32)) hx hb dX6_isAt_32 (by decide) ?_
    obtain rfl := Option.some.inj h
    exact hret _ _ _ _ nb0 dX6_isAt_33 hP hS
  · have h := ifn c1 h
    refine lv_aload_n hx hb dX6_isAt_11 rfl (lv_at hl 0 rfl) ?_
    refine va_get (D := D) (ci := 7) (v := .ref (o 9)) (C := RX6) (T := TX6) (N := 22) hx hb hts inlX6 hown hK hP 0 rfl rfl 11 (by decide) (hts _ q_4_13) (fun _ h9 => h9) rfl dX6_isAt_12 ?_
    refine lv_aload_n hx hb dX6_isAt_15 rfl (lv_at hl 0 rfl) ?_
    refine va_get (D := D) (ci := 7) (v := .int m_spot) (C := RX6) (T := TX6) (N := 22) hx hb hts inlX6 hown hK hP 0 rfl rfl 19 (by decide) (hts _ q_24_17) (fun _ h9 => h9) rfl dX6_isAt_16 ?_
    obtain ⟨g2, h⟩ := grd_some h
    refine va_iald hx hb hK hP 9 0 rfl rfl (inb_in g2) dX6_isAt_19 ?_
    refine lv_iload_n hx hb dX6_isAt_20 rfl (lv_at hl 1 rfl) ?_
    refine lv_iload_n hx hb dX6_isAt_21 rfl (lv_at hl 2 rfl) ?_
    obtain ⟨q3, e3, h⟩ := bnd_some h
    refine s_call (As := [.int (m_pad m_spot.toNatClampNeg), .int a1, .int a2]) (rest := []) (c_X6_in l (m_pad m_spot.toNatClampNeg) a1 a2 q3 e3) B k_X6_in q_9_15 rfl ⟨Nat.le_of_ble_eq_true rfl, Nat.le_of_ble_eq_true rfl⟩ ⟨Nat.le_refl _, Nat.le_refl _⟩ hl.1 rfl (Nat.le_of_ble_eq_true rfl) dX6_isAt_22 ?_
    refine lv_if_eq (tgt := 32) hx hb dX6_isAt_25 (by decide) (fun c4 => ?_) (fun c4 => ?_)
    · have h := ift c4 h
      refine lv_iconst (v := (0 : Int32)) hx hb dX6_isAt_32 (by decide) ?_
      obtain rfl := Option.some.inj h
      exact hret _ _ _ _ nb0 dX6_isAt_33 hP hS
    · have h := ifn c4 h
      refine lv_iconst (v := (1 : Int32)) hx hb dX6_isAt_28 (by decide) ?_
      refine lv_goto (tgt := 33) hx hb dX6_isAt_29 (by decide) ?_
      obtain rfl := Option.some.inj h
      exact hret _ _ _ _ nb1 dX6_isAt_33 hP hS

def f_X6_sign (a1 : Int32) (m_pad : Nat → Int32) (m_typed : Int32) (m_spot : Int32) : Option (Int32 × (Int32)) :=
  bnd (f_X6_isAt a1 a1 m_pad m_typed m_spot) (fun q1 => if q1 = (0 : Int32) then grd (isB q1) (some (q1, (m_spot + (0 : Int32))))
  else grd (isB q1) (some (q1, (m_spot + (1 : Int32)))))
set_option maxRecDepth 100000 in
set_option maxHeartbeats 4000000 in
theorem c_X6_sign (l : Launch) (D : va_G) (o : Nat → Nat) (cI cJ : ClassId) (a1 : Int32) (m_s : Nat → Int32) (m_past : Nat → Int32) (m_kept : Nat → Int32) (m_spare : Nat → Int32) (m_paid : Nat → Int64) (m_pastPaid : Nat → Int64) (m_keptPaid : Nat → Int64) (m_sparePaid : Nat → Int64) (m_isKept : Int32) (m_pasts : Int32) (m_runs : Int32) (m_pad : Nat → Int32) (m_typed : Int32) (m_isStopped : Int32) (m_stop : Nat → Int32) (m_order : Nat → Int32) (m_best : Nat → Int32) (m_many : Int32) (m_bySets : Nat → Int64) (m_spot : Int32) (m_deeds : Int32) (m_deed : Nat → Int32) (q : Int32 × (Int32)) (h : f_X6_sign a1 m_pad m_typed m_spot = some q) : CF l yX6_sign cX6_sign 3 2 (some .boolean) D (tysMW cI cJ) [.ref (o 0), .int a1] (some (.int q.1)) (MW o cI cJ m_s m_past m_kept m_spare m_paid m_pastPaid m_keptPaid m_sparePaid m_isKept m_pasts m_runs m_pad m_typed m_isStopped m_stop m_order m_best m_many m_bySets m_spot m_deeds m_deed) (MW o cI cJ m_s m_past m_kept m_spare m_paid m_pastPaid m_keptPaid m_sparePaid m_isKept m_pasts m_runs m_pad m_typed m_isStopped m_stop m_order m_best m_many m_bySets q.2 m_deeds m_deed) := by
  refine CF.mkI (by decide) (Nat.le_of_ble_eq_true rfl) ?_
  intro p e s m below meth c Q A B hK hDD hA hret hP hS ls hl
  have B0 := B
  obtain ⟨hx, hb, hml, hown, hts⟩ := B0
  have hl : lv_has ls 3 [(0, .ref (o 0)), (1, .int a1)] := hl
  unfold f_X6_sign at h
  refine lv_aload_n hx hb dX6_sign_0 rfl (lv_at hl 0 rfl) ?_
  refine lv_iload_n hx hb dX6_sign_1 rfl (lv_at hl 1 rfl) ?_
  refine lv_iload_n hx hb dX6_sign_2 rfl (lv_at hl 1 rfl) ?_
  obtain ⟨q1, e1, h⟩ := bnd_some h
  refine f_call (As := [.int a1, .int a1]) (rest := []) (c_X6_isAt l D o cI cJ a1 a1 m_s m_past m_kept m_spare m_paid m_pastPaid m_keptPaid m_sparePaid m_isKept m_pasts m_runs m_pad m_typed m_isStopped m_stop m_order m_best m_many m_bySets m_spot m_deeds m_deed q1 e1) B hK hDD hA hP hS rfl (va_recv hK hP (ci := 7) (q0 := 0) rfl rfl) k_X6_isAt q_25_3 rfl ⟨Nat.le_of_ble_eq_true rfl, Nat.le_of_ble_eq_true rfl⟩ ⟨Nat.le_refl _, Nat.le_refl _⟩ hl.1 rfl (Nat.le_of_ble_eq_true rfl) dX6_sign_3 (fun H locs hP hS => ?_)
  refine lv_istore_n (lv' := [(2, .int q1), (0, .ref (o 0)), (1, .int a1)]) hx hb dX6_sign_6 rfl hl (by decide) rfl (fun ls hl => ?_)
  refine lv_aload_n hx hb dX6_sign_7 rfl (lv_at hl 1 rfl) ?_
  refine lv_dup hx hb dX6_sign_8 rfl ?_
  refine va_get (D := D) (ci := 7) (v := .int m_spot) (C := RX6) (T := TX6) (N := 22) hx hb hts inlX6 hown hK hP 0 rfl rfl 19 (by decide) (hts _ q_24_17) (fun _ h9 => h9) rfl dX6_sign_9 ?_
  refine lv_iload_n hx hb dX6_sign_12 rfl (lv_at hl 0 rfl) ?_
  refine lv_if_eq (tgt := 20) hx hb dX6_sign_13 (by decide) (fun c2 => ?_) (fun c2 => ?_)
  · have h := ift c2 h
    refine lv_iconst (v := (0 : Int32)) hx hb dX6_sign_20 (by decide) ?_
    refine lv_iadd hx hb dX6_sign_21 ?_
    refine va_put (D := D) (ci := 7) (v := .int (m_spot + (0 : Int32))) (ty := .int) (C := RX6) (T := TX6) (N := 22) hx hb hts inlX6 tyX6 tyX6_ok nmX6 hown hK hP (hDD _ rfl) hS 0 rfl rfl 19 (by decide) (hts _ q_24_17) (fun _ h9 => h9) rfl (by decide +kernel) rfl rfl (Nat.le_of_ble_eq_true rfl) dX6_sign_22 (fun H locs hP _ hS => ?_)
    have hP : va_P D vwCl (MW o cI cJ m_s m_past m_kept m_spare m_paid m_pastPaid m_keptPaid m_sparePaid m_isKept m_pasts m_runs m_pad m_typed m_isStopped m_stop m_order m_best m_many m_bySets (m_spot + (0 : Int32)) m_deeds m_deed) H := hP
    refine lv_iload_n hx hb dX6_sign_25 rfl (lv_at hl 0 rfl) ?_
    obtain ⟨g3, h⟩ := grd_some h
    obtain rfl := Option.some.inj h
    exact hret _ _ _ _ (isB_nar g3) dX6_sign_26 hP hS
  · have h := ifn c2 h
    refine lv_iconst (v := (1 : Int32)) hx hb dX6_sign_16 (by decide) ?_
    refine lv_goto (tgt := 21) hx hb dX6_sign_17 (by decide) ?_
    refine lv_iadd hx hb dX6_sign_21 ?_
    refine va_put (D := D) (ci := 7) (v := .int (m_spot + (1 : Int32))) (ty := .int) (C := RX6) (T := TX6) (N := 22) hx hb hts inlX6 tyX6 tyX6_ok nmX6 hown hK hP (hDD _ rfl) hS 0 rfl rfl 19 (by decide) (hts _ q_24_17) (fun _ h9 => h9) rfl (by decide +kernel) rfl rfl (Nat.le_of_ble_eq_true rfl) dX6_sign_22 (fun H locs hP _ hS => ?_)
    have hP : va_P D vwCl (MW o cI cJ m_s m_past m_kept m_spare m_paid m_pastPaid m_keptPaid m_sparePaid m_isKept m_pasts m_runs m_pad m_typed m_isStopped m_stop m_order m_best m_many m_bySets (m_spot + (1 : Int32)) m_deeds m_deed) H := hP
    refine lv_iload_n hx hb dX6_sign_25 rfl (lv_at hl 0 rfl) ?_
    obtain ⟨g4, h⟩ := grd_some h
    obtain rfl := Option.some.inj h
    exact hret _ _ _ _ (isB_nar g4) dX6_sign_26 hP hS

def f_X6_digits_L5b  (m_pad : Nat → Int32) (m_typed : Int32) (m_deeds : Int32)  (k5 : Int32 → Int32 → Int32 → (Nat → Int32) → Option (Int32 × (Int32) × (Nat → Int32))) (x1 : Int32) (x2 : Int32) (m_spot : Int32) (m_deed : Nat → Int32) : Option (Int32 × (Int32) × (Nat → Int32)) :=
  bnd (f_X6_isAt x2 (52 : Int32) m_pad m_typed m_spot) (fun q1 => if q1 = (0 : Int32) then grd (inb (((4 : Int32) * m_deeds) + (1 : Int32)) 124) (if x1 ≤ (0 : Int32) then some ((0 : Int32), m_spot, (upd m_deed (((4 : Int32) * m_deeds) + (1 : Int32)).toNatClampNeg x1))
  else some ((1 : Int32), m_spot, (upd m_deed (((4 : Int32) * m_deeds) + (1 : Int32)).toNatClampNeg x1)))
  else grd (inb m_spot 60) (grd (inb m_spot 60) (k5 (x1 ||| ((1 : Int32) <<< (((m_pad m_spot.toNatClampNeg) - (48 : Int32)) &&& 31))) ((m_pad m_spot.toNatClampNeg) + (1 : Int32)) (m_spot + (1 : Int32)) m_deed)))
def f_X6_digits_L5  (m_pad : Nat → Int32) (m_typed : Int32) (m_deeds : Int32)  : Nat → Int32 → Int32 → Int32 → (Nat → Int32) → Option (Int32 × (Int32) × (Nat → Int32))
  | 0 => fun _ _ _ _ => none
  | n + 1 => f_X6_digits_L5b m_pad m_typed m_deeds  (f_X6_digits_L5 m_pad m_typed m_deeds  n)
def f_X6_digits  (m_pad : Nat → Int32) (m_typed : Int32) (m_spot : Int32) (m_deeds : Int32) (m_deed : Nat → Int32) : Option (Int32 × (Int32) × (Nat → Int32)) :=
  f_X6_digits_L5 m_pad m_typed m_deeds  1024 (0 : Int32) (48 : Int32) m_spot m_deed
set_option maxRecDepth 100000 in
set_option maxHeartbeats 4000000 in
theorem c_X6_digits (l : Launch) (D : va_G) (o : Nat → Nat) (cI cJ : ClassId)  (m_s : Nat → Int32) (m_past : Nat → Int32) (m_kept : Nat → Int32) (m_spare : Nat → Int32) (m_paid : Nat → Int64) (m_pastPaid : Nat → Int64) (m_keptPaid : Nat → Int64) (m_sparePaid : Nat → Int64) (m_isKept : Int32) (m_pasts : Int32) (m_runs : Int32) (m_pad : Nat → Int32) (m_typed : Int32) (m_isStopped : Int32) (m_stop : Nat → Int32) (m_order : Nat → Int32) (m_best : Nat → Int32) (m_many : Int32) (m_bySets : Nat → Int64) (m_spot : Int32) (m_deeds : Int32) (m_deed : Nat → Int32) (q : Int32 × (Int32) × (Nat → Int32)) (h : f_X6_digits  m_pad m_typed m_spot m_deeds m_deed = some q) : CF l yX6_digits cX6_digits 3 2 (some .boolean) D (tysMW cI cJ) [.ref (o 0)] (some (.int q.1)) (MW o cI cJ m_s m_past m_kept m_spare m_paid m_pastPaid m_keptPaid m_sparePaid m_isKept m_pasts m_runs m_pad m_typed m_isStopped m_stop m_order m_best m_many m_bySets m_spot m_deeds m_deed) (MW o cI cJ m_s m_past m_kept m_spare m_paid m_pastPaid m_keptPaid m_sparePaid m_isKept m_pasts m_runs m_pad m_typed m_isStopped m_stop m_order m_best m_many m_bySets q.2.1 m_deeds q.2.2) := by
  refine CF.mkI (by decide) (Nat.le_of_ble_eq_true rfl) ?_
  intro p e s m below meth c Q A B hK hDD hA hret hP hS ls hl
  have B0 := B
  obtain ⟨hx, hb, hml, hown, hts⟩ := B0
  have hl : lv_has ls 3 [(0, .ref (o 0))] := hl
  have hL5 : ∀ (n5 : Nat) (x1 : Int32) (x2 : Int32) (m_spot : Int32) (m_deed : Nat → Int32) (ls : Array Slot) (H : Heap) (locs : List Loc), f_X6_digits_L5 m_pad m_typed m_deeds  n5 x1 x2 m_spot m_deed = some q → va_P D vwCl (MW o cI cJ m_s m_past m_kept m_spare m_paid m_pastPaid m_keptPaid m_sparePaid m_isKept m_pasts m_runs m_pad m_typed m_isStopped m_stop m_order m_best m_many m_bySets m_spot m_deeds m_deed) H → va_S A s.heap H locs → lv_has ls 3 [(0, .ref (o 0)), (1, .int x1), (2, .int x2)] → W p l e (rmF 2 0 0) s m ([.ref (o 0)] : List Value).toArray below meth c H locs 0 0 Q (F0 m 5 ls []) := by
    intro n5
    induction n5 with
    | zero =>
      intro x1 x2 m_spot m_deed ls H locs h
      exact absurd (show (none : Option (Int32 × (Int32) × (Nat → Int32))) = some q from h) (by intro h; cases h)
    | succ n5 ih5 =>
      intro x1 x2 m_spot m_deed ls H locs h hP hS hl
      have h : f_X6_digits_L5b m_pad m_typed m_deeds  (f_X6_digits_L5 m_pad m_typed m_deeds  n5) x1 x2 m_spot m_deed = some q := h
      unfold f_X6_digits_L5b at h
      refine lv_aload_n hx hb dX6_digits_5 rfl (lv_at hl 0 rfl) ?_
      refine lv_iload_n hx hb dX6_digits_6 rfl (lv_at hl 2 rfl) ?_
      refine lv_bipush (v := (52 : Int32)) hx hb dX6_digits_7 (by decide) ?_
      obtain ⟨q1, e1, h⟩ := bnd_some h
      refine f_call (As := [.int x2, .int (52 : Int32)]) (rest := []) (c_X6_isAt l D o cI cJ x2 (52 : Int32) m_s m_past m_kept m_spare m_paid m_pastPaid m_keptPaid m_sparePaid m_isKept m_pasts m_runs m_pad m_typed m_isStopped m_stop m_order m_best m_many m_bySets m_spot m_deeds m_deed q1 e1) B hK hDD hA hP hS rfl (va_recv hK hP (ci := 7) (q0 := 0) rfl rfl) k_X6_isAt q_25_3 rfl ⟨Nat.le_of_ble_eq_true rfl, Nat.le_of_ble_eq_true rfl⟩ ⟨Nat.le_refl _, Nat.le_refl _⟩ hl.1 rfl (Nat.le_of_ble_eq_true rfl) dX6_digits_9 (fun H locs hP hS => ?_)
      refine lv_if_eq (tgt := 57) hx hb dX6_digits_12 (by decide) (fun c2 => ?_) (fun c2 => ?_)
      · have h := ift c2 h
        refine lv_aload_n hx hb dX6_digits_57 rfl (lv_at hl 0 rfl) ?_
        refine va_get (D := D) (ci := 7) (v := .ref (o 14)) (C := RX6) (T := TX6) (N := 22) hx hb hts inlX6 hown hK hP 0 rfl rfl 21 (by decide) (hts _ q_4_18) (fun _ h9 => h9) rfl dX6_digits_58 ?_
        refine lv_iconst (v := (4 : Int32)) hx hb dX6_digits_61 (by decide) ?_
        refine lv_aload_n hx hb dX6_digits_62 rfl (lv_at hl 0 rfl) ?_
        refine va_get (D := D) (ci := 7) (v := .int m_deeds) (C := RX6) (T := TX6) (N := 22) hx hb hts inlX6 hown hK hP 0 rfl rfl 20 (by decide) (hts _ q_24_18) (fun _ h9 => h9) rfl dX6_digits_63 ?_
        refine lv_imul hx hb dX6_digits_66 ?_
        refine lv_iconst (v := (1 : Int32)) hx hb dX6_digits_67 (by decide) ?_
        refine lv_iadd hx hb dX6_digits_68 ?_
        refine lv_iload_n hx hb dX6_digits_69 rfl (lv_at hl 1 rfl) ?_
        obtain ⟨g3, h⟩ := grd_some h
        refine va_iast hx hb hK hP (hDD _ rfl) hS 14 0 rfl rfl (inb_in g3) dX6_digits_70 (fun H locs hP _ hS => ?_)
        have hP : va_P D vwCl (MW o cI cJ m_s m_past m_kept m_spare m_paid m_pastPaid m_keptPaid m_sparePaid m_isKept m_pasts m_runs m_pad m_typed m_isStopped m_stop m_order m_best m_many m_bySets m_spot m_deeds (upd m_deed (((4 : Int32) * m_deeds) + (1 : Int32)).toNatClampNeg x1)) H := hP
        refine lv_iload_n hx hb dX6_digits_71 rfl (lv_at hl 1 rfl) ?_
        refine lv_if_le (tgt := 79) hx hb dX6_digits_72 (by decide) (fun c4 => ?_) (fun c4 => ?_)
        · have h := ift c4 h
          refine lv_iconst (v := (0 : Int32)) hx hb dX6_digits_79 (by decide) ?_
          obtain rfl := Option.some.inj h
          exact hret _ _ _ _ nb0 dX6_digits_80 hP hS
        · have h := ifn c4 h
          refine lv_iconst (v := (1 : Int32)) hx hb dX6_digits_75 (by decide) ?_
          refine lv_goto (tgt := 80) hx hb dX6_digits_76 (by decide) ?_
          obtain rfl := Option.some.inj h
          exact hret _ _ _ _ nb1 dX6_digits_80 hP hS
      · have h := ifn c2 h
        refine lv_iload_n hx hb dX6_digits_15 rfl (lv_at hl 1 rfl) ?_
        refine lv_iconst (v := (1 : Int32)) hx hb dX6_digits_16 (by decide) ?_
        refine lv_aload_n hx hb dX6_digits_17 rfl (lv_at hl 0 rfl) ?_
        refine va_get (D := D) (ci := 7) (v := .ref (o 9)) (C := RX6) (T := TX6) (N := 22) hx hb hts inlX6 hown hK hP 0 rfl rfl 11 (by decide) (hts _ q_4_13) (fun _ h9 => h9) rfl dX6_digits_18 ?_
        refine lv_aload_n hx hb dX6_digits_21 rfl (lv_at hl 0 rfl) ?_
        refine va_get (D := D) (ci := 7) (v := .int m_spot) (C := RX6) (T := TX6) (N := 22) hx hb hts inlX6 hown hK hP 0 rfl rfl 19 (by decide) (hts _ q_24_17) (fun _ h9 => h9) rfl dX6_digits_22 ?_
        obtain ⟨g5, h⟩ := grd_some h
        refine va_iald hx hb hK hP 9 0 rfl rfl (inb_in g5) dX6_digits_25 ?_
        refine lv_bipush (v := (48 : Int32)) hx hb dX6_digits_26 (by decide) ?_
        refine lv_isub hx hb dX6_digits_28 ?_
        refine lv_ishl hx hb dX6_digits_29 ?_
        refine lv_ior hx hb dX6_digits_30 ?_
        refine lv_istore_n (lv' := [(1, .int (x1 ||| ((1 : Int32) <<< (((m_pad m_spot.toNatClampNeg) - (48 : Int32)) &&& 31)))), (0, .ref (o 0)), (2, .int x2)]) hx hb dX6_digits_31 rfl hl (by decide) rfl (fun ls hl => ?_)
        refine lv_aload_n hx hb dX6_digits_32 rfl (lv_at hl 1 rfl) ?_
        refine va_get (D := D) (ci := 7) (v := .ref (o 9)) (C := RX6) (T := TX6) (N := 22) hx hb hts inlX6 hown hK hP 0 rfl rfl 11 (by decide) (hts _ q_4_13) (fun _ h9 => h9) rfl dX6_digits_33 ?_
        refine lv_aload_n hx hb dX6_digits_36 rfl (lv_at hl 1 rfl) ?_
        refine va_get (D := D) (ci := 7) (v := .int m_spot) (C := RX6) (T := TX6) (N := 22) hx hb hts inlX6 hown hK hP 0 rfl rfl 19 (by decide) (hts _ q_24_17) (fun _ h9 => h9) rfl dX6_digits_37 ?_
        obtain ⟨g6, h⟩ := grd_some h
        refine va_iald hx hb hK hP 9 0 rfl rfl (inb_in g6) dX6_digits_40 ?_
        refine lv_iconst (v := (1 : Int32)) hx hb dX6_digits_41 (by decide) ?_
        refine lv_iadd hx hb dX6_digits_42 ?_
        refine lv_istore_n (lv' := [(2, .int ((m_pad m_spot.toNatClampNeg) + (1 : Int32))), (1, .int (x1 ||| ((1 : Int32) <<< (((m_pad m_spot.toNatClampNeg) - (48 : Int32)) &&& 31)))), (0, .ref (o 0))]) hx hb dX6_digits_43 rfl hl (by decide) rfl (fun ls hl => ?_)
        refine lv_aload_n hx hb dX6_digits_44 rfl (lv_at hl 2 rfl) ?_
        refine lv_dup hx hb dX6_digits_45 rfl ?_
        refine va_get (D := D) (ci := 7) (v := .int m_spot) (C := RX6) (T := TX6) (N := 22) hx hb hts inlX6 hown hK hP 0 rfl rfl 19 (by decide) (hts _ q_24_17) (fun _ h9 => h9) rfl dX6_digits_46 ?_
        refine lv_iconst (v := (1 : Int32)) hx hb dX6_digits_49 (by decide) ?_
        refine lv_iadd hx hb dX6_digits_50 ?_
        refine va_put (D := D) (ci := 7) (v := .int (m_spot + (1 : Int32))) (ty := .int) (C := RX6) (T := TX6) (N := 22) hx hb hts inlX6 tyX6 tyX6_ok nmX6 hown hK hP (hDD _ rfl) hS 0 rfl rfl 19 (by decide) (hts _ q_24_17) (fun _ h9 => h9) rfl (by decide +kernel) rfl rfl (Nat.le_of_ble_eq_true rfl) dX6_digits_51 (fun H locs hP _ hS => ?_)
        have hP : va_P D vwCl (MW o cI cJ m_s m_past m_kept m_spare m_paid m_pastPaid m_keptPaid m_sparePaid m_isKept m_pasts m_runs m_pad m_typed m_isStopped m_stop m_order m_best m_many m_bySets (m_spot + (1 : Int32)) m_deeds m_deed) H := hP
        refine lv_goto (tgt := 5) hx hb dX6_digits_54 (by decide) ?_
        exact ih5 (x1 ||| ((1 : Int32) <<< (((m_pad m_spot.toNatClampNeg) - (48 : Int32)) &&& 31))) ((m_pad m_spot.toNatClampNeg) + (1 : Int32)) (m_spot + (1 : Int32)) m_deed _ _ _ h hP hS (lv_sub hl [2, 1, 0] rfl)
  unfold f_X6_digits at h
  refine lv_iconst (v := (0 : Int32)) hx hb dX6_digits_0 (by decide) ?_
  refine lv_istore_n (lv' := [(1, .int (0 : Int32)), (0, .ref (o 0))]) hx hb dX6_digits_1 rfl hl (by decide) rfl (fun ls hl => ?_)
  refine lv_bipush (v := (48 : Int32)) hx hb dX6_digits_2 (by decide) ?_
  refine lv_istore_n (lv' := [(2, .int (48 : Int32)), (1, .int (0 : Int32)), (0, .ref (o 0))]) hx hb dX6_digits_4 rfl hl (by decide) rfl (fun ls hl => ?_)
  exact hL5 1024 (0 : Int32) (48 : Int32) m_spot m_deed _ _ _ h hP hS (lv_sub hl [2, 1, 0] rfl)

def f_X6_oneTable_J41  (m_pad : Nat → Int32) (m_typed : Int32) (m_deeds : Int32)  (x1 : Int32) (t1 : Int32) (t2 : Int32) (m_spot : Int32) (m_deed : Nat → Int32) : Option (Int32 × (Int32) × (Nat → Int32)) :=
  grd (inb t1 124) (if x1 = (0 : Int32) then grd (isB x1) (some (x1, (m_spot + (0 : Int32)), (upd m_deed t1.toNatClampNeg t2)))
  else grd (isB x1) (some (x1, (m_spot + (1 : Int32)), (upd m_deed t1.toNatClampNeg t2))))
def f_X6_oneTable  (m_pad : Nat → Int32) (m_typed : Int32) (m_spot : Int32) (m_deeds : Int32) (m_deed : Nat → Int32) : Option (Int32 × (Int32) × (Nat → Int32)) :=
  bnd (f_X6_isAt (48 : Int32) (52 : Int32) m_pad m_typed m_spot) (fun q1 => if q1 = (0 : Int32) then f_X6_oneTable_J41 m_pad m_typed m_deeds  q1 (((4 : Int32) * m_deeds) + (1 : Int32)) (0 : Int32) m_spot m_deed
  else grd (inb m_spot 60) (f_X6_oneTable_J41 m_pad m_typed m_deeds  q1 (((4 : Int32) * m_deeds) + (1 : Int32)) ((m_pad m_spot.toNatClampNeg) - (48 : Int32)) m_spot m_deed))
set_option maxRecDepth 100000 in
set_option maxHeartbeats 4000000 in
theorem c_X6_oneTable (l : Launch) (D : va_G) (o : Nat → Nat) (cI cJ : ClassId)  (m_s : Nat → Int32) (m_past : Nat → Int32) (m_kept : Nat → Int32) (m_spare : Nat → Int32) (m_paid : Nat → Int64) (m_pastPaid : Nat → Int64) (m_keptPaid : Nat → Int64) (m_sparePaid : Nat → Int64) (m_isKept : Int32) (m_pasts : Int32) (m_runs : Int32) (m_pad : Nat → Int32) (m_typed : Int32) (m_isStopped : Int32) (m_stop : Nat → Int32) (m_order : Nat → Int32) (m_best : Nat → Int32) (m_many : Int32) (m_bySets : Nat → Int64) (m_spot : Int32) (m_deeds : Int32) (m_deed : Nat → Int32) (q : Int32 × (Int32) × (Nat → Int32)) (h : f_X6_oneTable  m_pad m_typed m_spot m_deeds m_deed = some q) : CF l yX6_oneTable cX6_oneTable 2 2 (some .boolean) D (tysMW cI cJ) [.ref (o 0)] (some (.int q.1)) (MW o cI cJ m_s m_past m_kept m_spare m_paid m_pastPaid m_keptPaid m_sparePaid m_isKept m_pasts m_runs m_pad m_typed m_isStopped m_stop m_order m_best m_many m_bySets m_spot m_deeds m_deed) (MW o cI cJ m_s m_past m_kept m_spare m_paid m_pastPaid m_keptPaid m_sparePaid m_isKept m_pasts m_runs m_pad m_typed m_isStopped m_stop m_order m_best m_many m_bySets q.2.1 m_deeds q.2.2) := by
  refine CF.mkI (by decide) (Nat.le_of_ble_eq_true rfl) ?_
  intro p e s m below meth c Q A B hK hDD hA hret hP hS ls hl
  have B0 := B
  obtain ⟨hx, hb, hml, hown, hts⟩ := B0
  have hl : lv_has ls 2 [(0, .ref (o 0))] := hl
  have hJ41 : ∀ (x1 : Int32) (t1 : Int32) (t2 : Int32) (m_spot : Int32) (m_deed : Nat → Int32) (ls : Array Slot) (H : Heap) (locs : List Loc), f_X6_oneTable_J41 m_pad m_typed m_deeds  x1 t1 t2 m_spot m_deed = some q → va_P D vwCl (MW o cI cJ m_s m_past m_kept m_spare m_paid m_pastPaid m_keptPaid m_sparePaid m_isKept m_pasts m_runs m_pad m_typed m_isStopped m_stop m_order m_best m_many m_bySets m_spot m_deeds m_deed) H → va_S A s.heap H locs → lv_has ls 2 [(0, .ref (o 0)), (1, .int x1)] → W p l e (rmF 2 0 0) s m ([.ref (o 0)] : List Value).toArray below meth c H locs 0 0 Q (F0 m 41 ls [.int t2, .int t1, .ref (o 14)]) := by
    intro x1 t1 t2 m_spot m_deed ls H locs h hP hS hl
    unfold f_X6_oneTable_J41 at h
    obtain ⟨g3, h⟩ := grd_some h
    refine va_iast hx hb hK hP (hDD _ rfl) hS 14 0 rfl rfl (inb_in g3) dX6_oneTable_41 (fun H locs hP _ hS => ?_)
    have hP : va_P D vwCl (MW o cI cJ m_s m_past m_kept m_spare m_paid m_pastPaid m_keptPaid m_sparePaid m_isKept m_pasts m_runs m_pad m_typed m_isStopped m_stop m_order m_best m_many m_bySets m_spot m_deeds (upd m_deed t1.toNatClampNeg t2)) H := hP
    refine lv_aload_n hx hb dX6_oneTable_42 rfl (lv_at hl 0 rfl) ?_
    refine lv_dup hx hb dX6_oneTable_43 rfl ?_
    refine va_get (D := D) (ci := 7) (v := .int m_spot) (C := RX6) (T := TX6) (N := 22) hx hb hts inlX6 hown hK hP 0 rfl rfl 19 (by decide) (hts _ q_24_17) (fun _ h9 => h9) rfl dX6_oneTable_44 ?_
    refine lv_iload_n hx hb dX6_oneTable_47 rfl (lv_at hl 1 rfl) ?_
    refine lv_if_eq (tgt := 55) hx hb dX6_oneTable_48 (by decide) (fun c4 => ?_) (fun c4 => ?_)
    · have h := ift c4 h
      refine lv_iconst (v := (0 : Int32)) hx hb dX6_oneTable_55 (by decide) ?_
      refine lv_iadd hx hb dX6_oneTable_56 ?_
      refine va_put (D := D) (ci := 7) (v := .int (m_spot + (0 : Int32))) (ty := .int) (C := RX6) (T := TX6) (N := 22) hx hb hts inlX6 tyX6 tyX6_ok nmX6 hown hK hP (hDD _ rfl) hS 0 rfl rfl 19 (by decide) (hts _ q_24_17) (fun _ h9 => h9) rfl (by decide +kernel) rfl rfl (Nat.le_of_ble_eq_true rfl) dX6_oneTable_57 (fun H locs hP _ hS => ?_)
      have hP : va_P D vwCl (MW o cI cJ m_s m_past m_kept m_spare m_paid m_pastPaid m_keptPaid m_sparePaid m_isKept m_pasts m_runs m_pad m_typed m_isStopped m_stop m_order m_best m_many m_bySets (m_spot + (0 : Int32)) m_deeds (upd m_deed t1.toNatClampNeg t2)) H := hP
      refine lv_iload_n hx hb dX6_oneTable_60 rfl (lv_at hl 1 rfl) ?_
      obtain ⟨g5, h⟩ := grd_some h
      obtain rfl := Option.some.inj h
      exact hret _ _ _ _ (isB_nar g5) dX6_oneTable_61 hP hS
    · have h := ifn c4 h
      refine lv_iconst (v := (1 : Int32)) hx hb dX6_oneTable_51 (by decide) ?_
      refine lv_goto (tgt := 56) hx hb dX6_oneTable_52 (by decide) ?_
      refine lv_iadd hx hb dX6_oneTable_56 ?_
      refine va_put (D := D) (ci := 7) (v := .int (m_spot + (1 : Int32))) (ty := .int) (C := RX6) (T := TX6) (N := 22) hx hb hts inlX6 tyX6 tyX6_ok nmX6 hown hK hP (hDD _ rfl) hS 0 rfl rfl 19 (by decide) (hts _ q_24_17) (fun _ h9 => h9) rfl (by decide +kernel) rfl rfl (Nat.le_of_ble_eq_true rfl) dX6_oneTable_57 (fun H locs hP _ hS => ?_)
      have hP : va_P D vwCl (MW o cI cJ m_s m_past m_kept m_spare m_paid m_pastPaid m_keptPaid m_sparePaid m_isKept m_pasts m_runs m_pad m_typed m_isStopped m_stop m_order m_best m_many m_bySets (m_spot + (1 : Int32)) m_deeds (upd m_deed t1.toNatClampNeg t2)) H := hP
      refine lv_iload_n hx hb dX6_oneTable_60 rfl (lv_at hl 1 rfl) ?_
      obtain ⟨g6, h⟩ := grd_some h
      obtain rfl := Option.some.inj h
      exact hret _ _ _ _ (isB_nar g6) dX6_oneTable_61 hP hS
  unfold f_X6_oneTable at h
  refine lv_aload_n hx hb dX6_oneTable_0 rfl (lv_at hl 0 rfl) ?_
  refine lv_bipush (v := (48 : Int32)) hx hb dX6_oneTable_1 (by decide) ?_
  refine lv_bipush (v := (52 : Int32)) hx hb dX6_oneTable_3 (by decide) ?_
  obtain ⟨q1, e1, h⟩ := bnd_some h
  refine f_call (As := [.int (48 : Int32), .int (52 : Int32)]) (rest := []) (c_X6_isAt l D o cI cJ (48 : Int32) (52 : Int32) m_s m_past m_kept m_spare m_paid m_pastPaid m_keptPaid m_sparePaid m_isKept m_pasts m_runs m_pad m_typed m_isStopped m_stop m_order m_best m_many m_bySets m_spot m_deeds m_deed q1 e1) B hK hDD hA hP hS rfl (va_recv hK hP (ci := 7) (q0 := 0) rfl rfl) k_X6_isAt q_25_3 rfl ⟨Nat.le_of_ble_eq_true rfl, Nat.le_of_ble_eq_true rfl⟩ ⟨Nat.le_refl _, Nat.le_refl _⟩ hl.1 rfl (Nat.le_of_ble_eq_true rfl) dX6_oneTable_5 (fun H locs hP hS => ?_)
  refine lv_istore_n (lv' := [(1, .int q1), (0, .ref (o 0))]) hx hb dX6_oneTable_8 rfl hl (by decide) rfl (fun ls hl => ?_)
  refine lv_aload_n hx hb dX6_oneTable_9 rfl (lv_at hl 1 rfl) ?_
  refine va_get (D := D) (ci := 7) (v := .ref (o 14)) (C := RX6) (T := TX6) (N := 22) hx hb hts inlX6 hown hK hP 0 rfl rfl 21 (by decide) (hts _ q_4_18) (fun _ h9 => h9) rfl dX6_oneTable_10 ?_
  refine lv_iconst (v := (4 : Int32)) hx hb dX6_oneTable_13 (by decide) ?_
  refine lv_aload_n hx hb dX6_oneTable_14 rfl (lv_at hl 1 rfl) ?_
  refine va_get (D := D) (ci := 7) (v := .int m_deeds) (C := RX6) (T := TX6) (N := 22) hx hb hts inlX6 hown hK hP 0 rfl rfl 20 (by decide) (hts _ q_24_18) (fun _ h9 => h9) rfl dX6_oneTable_15 ?_
  refine lv_imul hx hb dX6_oneTable_18 ?_
  refine lv_iconst (v := (1 : Int32)) hx hb dX6_oneTable_19 (by decide) ?_
  refine lv_iadd hx hb dX6_oneTable_20 ?_
  refine lv_iload_n hx hb dX6_oneTable_21 rfl (lv_at hl 0 rfl) ?_
  refine lv_if_eq (tgt := 40) hx hb dX6_oneTable_22 (by decide) (fun c2 => ?_) (fun c2 => ?_)
  · have h := ift c2 h
    refine lv_iconst (v := (0 : Int32)) hx hb dX6_oneTable_40 (by decide) ?_
    exact hJ41 q1 (((4 : Int32) * m_deeds) + (1 : Int32)) (0 : Int32) m_spot m_deed _ _ _ h hP hS (lv_sub hl [1, 0] rfl)
  · have h := ifn c2 h
    refine lv_aload_n hx hb dX6_oneTable_25 rfl (lv_at hl 1 rfl) ?_
    refine va_get (D := D) (ci := 7) (v := .ref (o 9)) (C := RX6) (T := TX6) (N := 22) hx hb hts inlX6 hown hK hP 0 rfl rfl 11 (by decide) (hts _ q_4_13) (fun _ h9 => h9) rfl dX6_oneTable_26 ?_
    refine lv_aload_n hx hb dX6_oneTable_29 rfl (lv_at hl 1 rfl) ?_
    refine va_get (D := D) (ci := 7) (v := .int m_spot) (C := RX6) (T := TX6) (N := 22) hx hb hts inlX6 hown hK hP 0 rfl rfl 19 (by decide) (hts _ q_24_17) (fun _ h9 => h9) rfl dX6_oneTable_30 ?_
    obtain ⟨g7, h⟩ := grd_some h
    refine va_iald hx hb hK hP 9 0 rfl rfl (inb_in g7) dX6_oneTable_33 ?_
    refine lv_bipush (v := (48 : Int32)) hx hb dX6_oneTable_34 (by decide) ?_
    refine lv_isub hx hb dX6_oneTable_36 ?_
    refine lv_goto (tgt := 41) hx hb dX6_oneTable_37 (by decide) ?_
    exact hJ41 q1 (((4 : Int32) * m_deeds) + (1 : Int32)) ((m_pad m_spot.toNatClampNeg) - (48 : Int32)) m_spot m_deed _ _ _ h hP hS (lv_sub hl [1, 0] rfl)

def f_X6_number_L15b  (m_pad : Nat → Int32) (m_typed : Int32) (m_deeds : Int32)  (k15 : Int32 → Int32 → (Nat → Int32) → Option (Int32 × (Int32) × (Nat → Int32))) (x1 : Int32) (m_spot : Int32) (m_deed : Nat → Int32) : Option (Int32 × (Int32) × (Nat → Int32)) :=
  bnd (f_X6_isAt (48 : Int32) (57 : Int32) m_pad m_typed m_spot) (fun q3 => if q3 = (0 : Int32) then grd (inb (((4 : Int32) * m_deeds) + (2 : Int32)) 124) (some ((1 : Int32), m_spot, (upd m_deed (((4 : Int32) * m_deeds) + (2 : Int32)).toNatClampNeg x1)))
  else grd (inb m_spot 60) (if (500 : Int32) < ((((10 : Int32) * x1) + (m_pad m_spot.toNatClampNeg)) - (48 : Int32)) then grd (inb (((4 : Int32) * m_deeds) + (2 : Int32)) 124) (some ((1 : Int32), m_spot, (upd m_deed (((4 : Int32) * m_deeds) + (2 : Int32)).toNatClampNeg x1)))
  else grd (inb m_spot 60) (k15 ((((10 : Int32) * x1) + (m_pad m_spot.toNatClampNeg)) - (48 : Int32)) (m_spot + (1 : Int32)) m_deed)))
def f_X6_number_L15  (m_pad : Nat → Int32) (m_typed : Int32) (m_deeds : Int32)  : Nat → Int32 → Int32 → (Nat → Int32) → Option (Int32 × (Int32) × (Nat → Int32))
  | 0 => fun _ _ _ => none
  | n + 1 => f_X6_number_L15b m_pad m_typed m_deeds  (f_X6_number_L15 m_pad m_typed m_deeds  n)
def f_X6_number  (m_pad : Nat → Int32) (m_typed : Int32) (m_spot : Int32) (m_deeds : Int32) (m_deed : Nat → Int32) : Option (Int32 × (Int32) × (Nat → Int32)) :=
  bnd (f_X6_isAt (49 : Int32) (57 : Int32) m_pad m_typed m_spot) (fun q1 => if q1 = (0 : Int32) then some ((0 : Int32), m_spot, m_deed)
  else f_X6_number_L15 m_pad m_typed m_deeds  1024 (0 : Int32) m_spot m_deed)
set_option maxRecDepth 100000 in
set_option maxHeartbeats 4000000 in
theorem c_X6_number (l : Launch) (D : va_G) (o : Nat → Nat) (cI cJ : ClassId)  (m_s : Nat → Int32) (m_past : Nat → Int32) (m_kept : Nat → Int32) (m_spare : Nat → Int32) (m_paid : Nat → Int64) (m_pastPaid : Nat → Int64) (m_keptPaid : Nat → Int64) (m_sparePaid : Nat → Int64) (m_isKept : Int32) (m_pasts : Int32) (m_runs : Int32) (m_pad : Nat → Int32) (m_typed : Int32) (m_isStopped : Int32) (m_stop : Nat → Int32) (m_order : Nat → Int32) (m_best : Nat → Int32) (m_many : Int32) (m_bySets : Nat → Int64) (m_spot : Int32) (m_deeds : Int32) (m_deed : Nat → Int32) (q : Int32 × (Int32) × (Nat → Int32)) (h : f_X6_number  m_pad m_typed m_spot m_deeds m_deed = some q) : CF l yX6_number cX6_number 2 2 (some .boolean) D (tysMW cI cJ) [.ref (o 0)] (some (.int q.1)) (MW o cI cJ m_s m_past m_kept m_spare m_paid m_pastPaid m_keptPaid m_sparePaid m_isKept m_pasts m_runs m_pad m_typed m_isStopped m_stop m_order m_best m_many m_bySets m_spot m_deeds m_deed) (MW o cI cJ m_s m_past m_kept m_spare m_paid m_pastPaid m_keptPaid m_sparePaid m_isKept m_pasts m_runs m_pad m_typed m_isStopped m_stop m_order m_best m_many m_bySets q.2.1 m_deeds q.2.2) := by
  refine CF.mkI (by decide) (Nat.le_of_ble_eq_true rfl) ?_
  intro p e s m below meth c Q A B hK hDD hA hret hP hS ls hl
  have B0 := B
  obtain ⟨hx, hb, hml, hown, hts⟩ := B0
  have hl : lv_has ls 2 [(0, .ref (o 0))] := hl
  have hL15 : ∀ (n15 : Nat) (x1 : Int32) (m_spot : Int32) (m_deed : Nat → Int32) (ls : Array Slot) (H : Heap) (locs : List Loc), f_X6_number_L15 m_pad m_typed m_deeds  n15 x1 m_spot m_deed = some q → va_P D vwCl (MW o cI cJ m_s m_past m_kept m_spare m_paid m_pastPaid m_keptPaid m_sparePaid m_isKept m_pasts m_runs m_pad m_typed m_isStopped m_stop m_order m_best m_many m_bySets m_spot m_deeds m_deed) H → va_S A s.heap H locs → lv_has ls 2 [(0, .ref (o 0)), (1, .int x1)] → W p l e (rmF 2 0 0) s m ([.ref (o 0)] : List Value).toArray below meth c H locs 0 0 Q (F0 m 15 ls []) := by
    intro n15
    induction n15 with
    | zero =>
      intro x1 m_spot m_deed ls H locs h
      exact absurd (show (none : Option (Int32 × (Int32) × (Nat → Int32))) = some q from h) (by intro h; cases h)
    | succ n15 ih15 =>
      intro x1 m_spot m_deed ls H locs h hP hS hl
      have h : f_X6_number_L15b m_pad m_typed m_deeds  (f_X6_number_L15 m_pad m_typed m_deeds  n15) x1 m_spot m_deed = some q := h
      unfold f_X6_number_L15b at h
      refine lv_aload_n hx hb dX6_number_15 rfl (lv_at hl 0 rfl) ?_
      refine lv_bipush (v := (48 : Int32)) hx hb dX6_number_16 (by decide) ?_
      refine lv_bipush (v := (57 : Int32)) hx hb dX6_number_18 (by decide) ?_
      obtain ⟨q3, e3, h⟩ := bnd_some h
      refine f_call (As := [.int (48 : Int32), .int (57 : Int32)]) (rest := []) (c_X6_isAt l D o cI cJ (48 : Int32) (57 : Int32) m_s m_past m_kept m_spare m_paid m_pastPaid m_keptPaid m_sparePaid m_isKept m_pasts m_runs m_pad m_typed m_isStopped m_stop m_order m_best m_many m_bySets m_spot m_deeds m_deed q3 e3) B hK hDD hA hP hS rfl (va_recv hK hP (ci := 7) (q0 := 0) rfl rfl) k_X6_isAt q_25_3 rfl ⟨Nat.le_of_ble_eq_true rfl, Nat.le_of_ble_eq_true rfl⟩ ⟨Nat.le_refl _, Nat.le_refl _⟩ hl.1 rfl (Nat.le_of_ble_eq_true rfl) dX6_number_20 (fun H locs hP hS => ?_)
      refine lv_if_eq (tgt := 80) hx hb dX6_number_23 (by decide) (fun c4 => ?_) (fun c4 => ?_)
      · have h := ift c4 h
        refine lv_aload_n hx hb dX6_number_80 rfl (lv_at hl 0 rfl) ?_
        refine va_get (D := D) (ci := 7) (v := .ref (o 14)) (C := RX6) (T := TX6) (N := 22) hx hb hts inlX6 hown hK hP 0 rfl rfl 21 (by decide) (hts _ q_4_18) (fun _ h9 => h9) rfl dX6_number_81 ?_
        refine lv_iconst (v := (4 : Int32)) hx hb dX6_number_84 (by decide) ?_
        refine lv_aload_n hx hb dX6_number_85 rfl (lv_at hl 0 rfl) ?_
        refine va_get (D := D) (ci := 7) (v := .int m_deeds) (C := RX6) (T := TX6) (N := 22) hx hb hts inlX6 hown hK hP 0 rfl rfl 20 (by decide) (hts _ q_24_18) (fun _ h9 => h9) rfl dX6_number_86 ?_
        refine lv_imul hx hb dX6_number_89 ?_
        refine lv_iconst (v := (2 : Int32)) hx hb dX6_number_90 (by decide) ?_
        refine lv_iadd hx hb dX6_number_91 ?_
        refine lv_iload_n hx hb dX6_number_92 rfl (lv_at hl 1 rfl) ?_
        obtain ⟨g5, h⟩ := grd_some h
        refine va_iast hx hb hK hP (hDD _ rfl) hS 14 0 rfl rfl (inb_in g5) dX6_number_93 (fun H locs hP _ hS => ?_)
        have hP : va_P D vwCl (MW o cI cJ m_s m_past m_kept m_spare m_paid m_pastPaid m_keptPaid m_sparePaid m_isKept m_pasts m_runs m_pad m_typed m_isStopped m_stop m_order m_best m_many m_bySets m_spot m_deeds (upd m_deed (((4 : Int32) * m_deeds) + (2 : Int32)).toNatClampNeg x1)) H := hP
        refine lv_iconst (v := (1 : Int32)) hx hb dX6_number_94 (by decide) ?_
        obtain rfl := Option.some.inj h
        exact hret _ _ _ _ nb1 dX6_number_95 hP hS
      · have h := ifn c4 h
        refine lv_bipush (v := (10 : Int32)) hx hb dX6_number_26 (by decide) ?_
        refine lv_iload_n hx hb dX6_number_28 rfl (lv_at hl 1 rfl) ?_
        refine lv_imul hx hb dX6_number_29 ?_
        refine lv_aload_n hx hb dX6_number_30 rfl (lv_at hl 0 rfl) ?_
        refine va_get (D := D) (ci := 7) (v := .ref (o 9)) (C := RX6) (T := TX6) (N := 22) hx hb hts inlX6 hown hK hP 0 rfl rfl 11 (by decide) (hts _ q_4_13) (fun _ h9 => h9) rfl dX6_number_31 ?_
        refine lv_aload_n hx hb dX6_number_34 rfl (lv_at hl 0 rfl) ?_
        refine va_get (D := D) (ci := 7) (v := .int m_spot) (C := RX6) (T := TX6) (N := 22) hx hb hts inlX6 hown hK hP 0 rfl rfl 19 (by decide) (hts _ q_24_17) (fun _ h9 => h9) rfl dX6_number_35 ?_
        obtain ⟨g6, h⟩ := grd_some h
        refine va_iald hx hb hK hP 9 0 rfl rfl (inb_in g6) dX6_number_38 ?_
        refine lv_iadd hx hb dX6_number_39 ?_
        refine lv_bipush (v := (48 : Int32)) hx hb dX6_number_40 (by decide) ?_
        refine lv_isub hx hb dX6_number_42 ?_
        refine lv_sipush (v := (500 : Int32)) hx hb dX6_number_43 (by decide) ?_
        refine lv_icmp_gt (tgt := 80) hx hb dX6_number_46 (by decide) (fun c7 => ?_) (fun c7 => ?_)
        · have h := ift c7 h
          refine lv_aload_n hx hb dX6_number_80 rfl (lv_at hl 0 rfl) ?_
          refine va_get (D := D) (ci := 7) (v := .ref (o 14)) (C := RX6) (T := TX6) (N := 22) hx hb hts inlX6 hown hK hP 0 rfl rfl 21 (by decide) (hts _ q_4_18) (fun _ h9 => h9) rfl dX6_number_81 ?_
          refine lv_iconst (v := (4 : Int32)) hx hb dX6_number_84 (by decide) ?_
          refine lv_aload_n hx hb dX6_number_85 rfl (lv_at hl 0 rfl) ?_
          refine va_get (D := D) (ci := 7) (v := .int m_deeds) (C := RX6) (T := TX6) (N := 22) hx hb hts inlX6 hown hK hP 0 rfl rfl 20 (by decide) (hts _ q_24_18) (fun _ h9 => h9) rfl dX6_number_86 ?_
          refine lv_imul hx hb dX6_number_89 ?_
          refine lv_iconst (v := (2 : Int32)) hx hb dX6_number_90 (by decide) ?_
          refine lv_iadd hx hb dX6_number_91 ?_
          refine lv_iload_n hx hb dX6_number_92 rfl (lv_at hl 1 rfl) ?_
          obtain ⟨g8, h⟩ := grd_some h
          refine va_iast hx hb hK hP (hDD _ rfl) hS 14 0 rfl rfl (inb_in g8) dX6_number_93 (fun H locs hP _ hS => ?_)
          have hP : va_P D vwCl (MW o cI cJ m_s m_past m_kept m_spare m_paid m_pastPaid m_keptPaid m_sparePaid m_isKept m_pasts m_runs m_pad m_typed m_isStopped m_stop m_order m_best m_many m_bySets m_spot m_deeds (upd m_deed (((4 : Int32) * m_deeds) + (2 : Int32)).toNatClampNeg x1)) H := hP
          refine lv_iconst (v := (1 : Int32)) hx hb dX6_number_94 (by decide) ?_
          obtain rfl := Option.some.inj h
          exact hret _ _ _ _ nb1 dX6_number_95 hP hS
        · have h := ifn c7 h
          refine lv_bipush (v := (10 : Int32)) hx hb dX6_number_49 (by decide) ?_
          refine lv_iload_n hx hb dX6_number_51 rfl (lv_at hl 1 rfl) ?_
          refine lv_imul hx hb dX6_number_52 ?_
          refine lv_aload_n hx hb dX6_number_53 rfl (lv_at hl 0 rfl) ?_
          refine va_get (D := D) (ci := 7) (v := .ref (o 9)) (C := RX6) (T := TX6) (N := 22) hx hb hts inlX6 hown hK hP 0 rfl rfl 11 (by decide) (hts _ q_4_13) (fun _ h9 => h9) rfl dX6_number_54 ?_
          refine lv_aload_n hx hb dX6_number_57 rfl (lv_at hl 0 rfl) ?_
          refine va_get (D := D) (ci := 7) (v := .int m_spot) (C := RX6) (T := TX6) (N := 22) hx hb hts inlX6 hown hK hP 0 rfl rfl 19 (by decide) (hts _ q_24_17) (fun _ h9 => h9) rfl dX6_number_58 ?_
          obtain ⟨g9, h⟩ := grd_some h
          refine va_iald hx hb hK hP 9 0 rfl rfl (inb_in g9) dX6_number_61 ?_
          refine lv_iadd hx hb dX6_number_62 ?_
          refine lv_bipush (v := (48 : Int32)) hx hb dX6_number_63 (by decide) ?_
          refine lv_isub hx hb dX6_number_65 ?_
          refine lv_istore_n (lv' := [(1, .int ((((10 : Int32) * x1) + (m_pad m_spot.toNatClampNeg)) - (48 : Int32))), (0, .ref (o 0))]) hx hb dX6_number_66 rfl hl (by decide) rfl (fun ls hl => ?_)
          refine lv_aload_n hx hb dX6_number_67 rfl (lv_at hl 1 rfl) ?_
          refine lv_dup hx hb dX6_number_68 rfl ?_
          refine va_get (D := D) (ci := 7) (v := .int m_spot) (C := RX6) (T := TX6) (N := 22) hx hb hts inlX6 hown hK hP 0 rfl rfl 19 (by decide) (hts _ q_24_17) (fun _ h9 => h9) rfl dX6_number_69 ?_
          refine lv_iconst (v := (1 : Int32)) hx hb dX6_number_72 (by decide) ?_
          refine lv_iadd hx hb dX6_number_73 ?_
          refine va_put (D := D) (ci := 7) (v := .int (m_spot + (1 : Int32))) (ty := .int) (C := RX6) (T := TX6) (N := 22) hx hb hts inlX6 tyX6 tyX6_ok nmX6 hown hK hP (hDD _ rfl) hS 0 rfl rfl 19 (by decide) (hts _ q_24_17) (fun _ h9 => h9) rfl (by decide +kernel) rfl rfl (Nat.le_of_ble_eq_true rfl) dX6_number_74 (fun H locs hP _ hS => ?_)
          have hP : va_P D vwCl (MW o cI cJ m_s m_past m_kept m_spare m_paid m_pastPaid m_keptPaid m_sparePaid m_isKept m_pasts m_runs m_pad m_typed m_isStopped m_stop m_order m_best m_many m_bySets (m_spot + (1 : Int32)) m_deeds m_deed) H := hP
          refine lv_goto (tgt := 15) hx hb dX6_number_77 (by decide) ?_
          exact ih15 ((((10 : Int32) * x1) + (m_pad m_spot.toNatClampNeg)) - (48 : Int32)) (m_spot + (1 : Int32)) m_deed _ _ _ h hP hS (lv_sub hl [1, 0] rfl)
  unfold f_X6_number at h
  refine lv_aload_n hx hb dX6_number_0 rfl (lv_at hl 0 rfl) ?_
  refine lv_bipush (v := (49 : Int32)) hx hb dX6_number_1 (by decide) ?_
  refine lv_bipush (v := (57 : Int32)) hx hb dX6_number_3 (by decide) ?_
  obtain ⟨q1, e1, h⟩ := bnd_some h
  refine f_call (As := [.int (49 : Int32), .int (57 : Int32)]) (rest := []) (c_X6_isAt l D o cI cJ (49 : Int32) (57 : Int32) m_s m_past m_kept m_spare m_paid m_pastPaid m_keptPaid m_sparePaid m_isKept m_pasts m_runs m_pad m_typed m_isStopped m_stop m_order m_best m_many m_bySets m_spot m_deeds m_deed q1 e1) B hK hDD hA hP hS rfl (va_recv hK hP (ci := 7) (q0 := 0) rfl rfl) k_X6_isAt q_25_3 rfl ⟨Nat.le_of_ble_eq_true rfl, Nat.le_of_ble_eq_true rfl⟩ ⟨Nat.le_refl _, Nat.le_refl _⟩ hl.1 rfl (Nat.le_of_ble_eq_true rfl) dX6_number_5 (fun H locs hP hS => ?_)
  refine lv_if_ne (tgt := 13) hx hb dX6_number_8 (by decide) (fun c2 => ?_) (fun c2 => ?_)
  · have h := ifn c2 h
    refine lv_iconst (v := (0 : Int32)) hx hb dX6_number_13 (by decide) ?_
    refine lv_istore_n (lv' := [(1, .int (0 : Int32)), (0, .ref (o 0))]) hx hb dX6_number_14 rfl hl (by decide) rfl (fun ls hl => ?_)
    exact hL15 1024 (0 : Int32) m_spot m_deed _ _ _ h hP hS (lv_sub hl [1, 0] rfl)
  · have h := ift c2 h
    refine lv_iconst (v := (0 : Int32)) hx hb dX6_number_11 (by decide) ?_
    obtain rfl := Option.some.inj h
    exact hret _ _ _ _ nb0 dX6_number_12 hP hS

def f_X6_reads_J24  (m_pad : Nat → Int32) (m_typed : Int32) (m_deeds : Int32)  (t0 : Int32) (m_spot : Int32) (m_deed : Nat → Int32) : Option (Int32 × (Int32) × (Nat → Int32)) :=
  grd (inb ((4 : Int32) * m_deeds) 124) (grd (inb (((4 : Int32) * m_deeds) + (3 : Int32)) 124) (if t0 = (99 : Int32) then bnd (f_X6_oneTable  m_pad m_typed (m_spot + (1 : Int32)) m_deeds (upd (upd m_deed ((4 : Int32) * m_deeds).toNatClampNeg t0) (((4 : Int32) * m_deeds) + (3 : Int32)).toNatClampNeg m_spot)) (fun q5 => grd (isB q5.1) (some (q5.1, q5.2.1, q5.2.2)))
  else if t0 = (112 : Int32) then bnd (f_X6_digits  m_pad m_typed (m_spot + (1 : Int32)) m_deeds (upd (upd m_deed ((4 : Int32) * m_deeds).toNatClampNeg t0) (((4 : Int32) * m_deeds) + (3 : Int32)).toNatClampNeg m_spot)) (fun q8 => grd (isB q8.1) (some (q8.1, q8.2.1, q8.2.2)))
  else if t0 = (113 : Int32) then bnd (f_X6_digits  m_pad m_typed (m_spot + (1 : Int32)) m_deeds (upd (upd m_deed ((4 : Int32) * m_deeds).toNatClampNeg t0) (((4 : Int32) * m_deeds) + (3 : Int32)).toNatClampNeg m_spot)) (fun q11 => grd (isB q11.1) (some (q11.1, q11.2.1, q11.2.2)))
  else if t0 = (114 : Int32) then bnd (f_X6_oneTable  m_pad m_typed (m_spot + (1 : Int32)) m_deeds (upd (upd m_deed ((4 : Int32) * m_deeds).toNatClampNeg t0) (((4 : Int32) * m_deeds) + (3 : Int32)).toNatClampNeg m_spot)) (fun q14 => if q14.1 = (0 : Int32) then some ((0 : Int32), q14.2.1, q14.2.2)
  else bnd (f_X6_sign (61 : Int32) m_pad m_typed q14.2.1) (fun q16 => if q16.1 = (0 : Int32) then some ((0 : Int32), q16.2, q14.2.2)
  else bnd (f_X6_number  m_pad m_typed q16.2 m_deeds q14.2.2) (fun q18 => if q18.1 = (0 : Int32) then some ((0 : Int32), q18.2.1, q18.2.2)
  else some ((1 : Int32), q18.2.1, q18.2.2))))
  else some ((0 : Int32), m_spot, (upd (upd m_deed ((4 : Int32) * m_deeds).toNatClampNeg t0) (((4 : Int32) * m_deeds) + (3 : Int32)).toNatClampNeg m_spot))))
def f_X6_reads  (m_pad : Nat → Int32) (m_typed : Int32) (m_spot : Int32) (m_deeds : Int32) (m_deed : Nat → Int32) : Option (Int32 × (Int32) × (Nat → Int32)) :=
  if m_typed ≤ m_spot then f_X6_reads_J24 m_pad m_typed m_deeds  (0 : Int32) m_spot m_deed
  else grd (inb m_spot 60) (f_X6_reads_J24 m_pad m_typed m_deeds  (m_pad m_spot.toNatClampNeg) m_spot m_deed)
set_option maxRecDepth 100000 in
set_option maxHeartbeats 4000000 in
theorem c_X6_reads (l : Launch) (D : va_G) (o : Nat → Nat) (cI cJ : ClassId)  (m_s : Nat → Int32) (m_past : Nat → Int32) (m_kept : Nat → Int32) (m_spare : Nat → Int32) (m_paid : Nat → Int64) (m_pastPaid : Nat → Int64) (m_keptPaid : Nat → Int64) (m_sparePaid : Nat → Int64) (m_isKept : Int32) (m_pasts : Int32) (m_runs : Int32) (m_pad : Nat → Int32) (m_typed : Int32) (m_isStopped : Int32) (m_stop : Nat → Int32) (m_order : Nat → Int32) (m_best : Nat → Int32) (m_many : Int32) (m_bySets : Nat → Int64) (m_spot : Int32) (m_deeds : Int32) (m_deed : Nat → Int32) (q : Int32 × (Int32) × (Nat → Int32)) (h : f_X6_reads  m_pad m_typed m_spot m_deeds m_deed = some q) : CF l yX6_reads cX6_reads 2 3 (some .boolean) D (tysMW cI cJ) [.ref (o 0)] (some (.int q.1)) (MW o cI cJ m_s m_past m_kept m_spare m_paid m_pastPaid m_keptPaid m_sparePaid m_isKept m_pasts m_runs m_pad m_typed m_isStopped m_stop m_order m_best m_many m_bySets m_spot m_deeds m_deed) (MW o cI cJ m_s m_past m_kept m_spare m_paid m_pastPaid m_keptPaid m_sparePaid m_isKept m_pasts m_runs m_pad m_typed m_isStopped m_stop m_order m_best m_many m_bySets q.2.1 m_deeds q.2.2) := by
  refine CF.mkI (by decide) (Nat.le_of_ble_eq_true rfl) ?_
  intro p e s m below meth c Q A B hK hDD hA hret hP hS ls hl
  have B0 := B
  obtain ⟨hx, hb, hml, hown, hts⟩ := B0
  have hl : lv_has ls 2 [(0, .ref (o 0))] := hl
  have hJ24 : ∀ (t0 : Int32) (m_spot : Int32) (m_deed : Nat → Int32) (ls : Array Slot) (H : Heap) (locs : List Loc), f_X6_reads_J24 m_pad m_typed m_deeds  t0 m_spot m_deed = some q → va_P D vwCl (MW o cI cJ m_s m_past m_kept m_spare m_paid m_pastPaid m_keptPaid m_sparePaid m_isKept m_pasts m_runs m_pad m_typed m_isStopped m_stop m_order m_best m_many m_bySets m_spot m_deeds m_deed) H → va_S A s.heap H locs → lv_has ls 2 [(0, .ref (o 0))] → W p l e (rmF 3 0 0) s m ([.ref (o 0)] : List Value).toArray below meth c H locs 0 0 Q (F0 m 24 ls [.int t0]) := by
    intro t0 m_spot m_deed ls H locs h hP hS hl
    unfold f_X6_reads_J24 at h
    refine lv_istore_n (lv' := [(1, .int t0), (0, .ref (o 0))]) hx hb dX6_reads_24 rfl hl (by decide) rfl (fun ls hl => ?_)
    refine lv_aload_n hx hb dX6_reads_25 rfl (lv_at hl 1 rfl) ?_
    refine va_get (D := D) (ci := 7) (v := .ref (o 14)) (C := RX6) (T := TX6) (N := 22) hx hb hts inlX6 hown hK hP 0 rfl rfl 21 (by decide) (hts _ q_4_18) (fun _ h9 => h9) rfl dX6_reads_26 ?_
    refine lv_iconst (v := (4 : Int32)) hx hb dX6_reads_29 (by decide) ?_
    refine lv_aload_n hx hb dX6_reads_30 rfl (lv_at hl 1 rfl) ?_
    refine va_get (D := D) (ci := 7) (v := .int m_deeds) (C := RX6) (T := TX6) (N := 22) hx hb hts inlX6 hown hK hP 0 rfl rfl 20 (by decide) (hts _ q_24_18) (fun _ h9 => h9) rfl dX6_reads_31 ?_
    refine lv_imul hx hb dX6_reads_34 ?_
    refine lv_iload_n hx hb dX6_reads_35 rfl (lv_at hl 0 rfl) ?_
    obtain ⟨g2, h⟩ := grd_some h
    refine va_iast hx hb hK hP (hDD _ rfl) hS 14 0 rfl rfl (inb_in g2) dX6_reads_36 (fun H locs hP _ hS => ?_)
    have hP : va_P D vwCl (MW o cI cJ m_s m_past m_kept m_spare m_paid m_pastPaid m_keptPaid m_sparePaid m_isKept m_pasts m_runs m_pad m_typed m_isStopped m_stop m_order m_best m_many m_bySets m_spot m_deeds (upd m_deed ((4 : Int32) * m_deeds).toNatClampNeg t0)) H := hP
    refine lv_aload_n hx hb dX6_reads_37 rfl (lv_at hl 1 rfl) ?_
    refine va_get (D := D) (ci := 7) (v := .ref (o 14)) (C := RX6) (T := TX6) (N := 22) hx hb hts inlX6 hown hK hP 0 rfl rfl 21 (by decide) (hts _ q_4_18) (fun _ h9 => h9) rfl dX6_reads_38 ?_
    refine lv_iconst (v := (4 : Int32)) hx hb dX6_reads_41 (by decide) ?_
    refine lv_aload_n hx hb dX6_reads_42 rfl (lv_at hl 1 rfl) ?_
    refine va_get (D := D) (ci := 7) (v := .int m_deeds) (C := RX6) (T := TX6) (N := 22) hx hb hts inlX6 hown hK hP 0 rfl rfl 20 (by decide) (hts _ q_24_18) (fun _ h9 => h9) rfl dX6_reads_43 ?_
    refine lv_imul hx hb dX6_reads_46 ?_
    refine lv_iconst (v := (3 : Int32)) hx hb dX6_reads_47 (by decide) ?_
    refine lv_iadd hx hb dX6_reads_48 ?_
    refine lv_aload_n hx hb dX6_reads_49 rfl (lv_at hl 1 rfl) ?_
    refine va_get (D := D) (ci := 7) (v := .int m_spot) (C := RX6) (T := TX6) (N := 22) hx hb hts inlX6 hown hK hP 0 rfl rfl 19 (by decide) (hts _ q_24_17) (fun _ h9 => h9) rfl dX6_reads_50 ?_
    obtain ⟨g3, h⟩ := grd_some h
    refine va_iast hx hb hK hP (hDD _ rfl) hS 14 0 rfl rfl (inb_in g3) dX6_reads_53 (fun H locs hP _ hS => ?_)
    have hP : va_P D vwCl (MW o cI cJ m_s m_past m_kept m_spare m_paid m_pastPaid m_keptPaid m_sparePaid m_isKept m_pasts m_runs m_pad m_typed m_isStopped m_stop m_order m_best m_many m_bySets m_spot m_deeds (upd (upd m_deed ((4 : Int32) * m_deeds).toNatClampNeg t0) (((4 : Int32) * m_deeds) + (3 : Int32)).toNatClampNeg m_spot)) H := hP
    refine lv_iload_n hx hb dX6_reads_54 rfl (lv_at hl 0 rfl) ?_
    by_cases c4 : t0 = (99 : Int32)
    · have h := ift c4 h
      refine lv_lookup (off := 56) (tgt := 111) hx hb dX6_reads_55 (by decide) (by rw [c4]; decide) (by decide) ?_
      refine lv_aload_n hx hb dX6_reads_111 rfl (lv_at hl 1 rfl) ?_
      refine lv_dup hx hb dX6_reads_112 rfl ?_
      refine va_get (D := D) (ci := 7) (v := .int m_spot) (C := RX6) (T := TX6) (N := 22) hx hb hts inlX6 hown hK hP 0 rfl rfl 19 (by decide) (hts _ q_24_17) (fun _ h9 => h9) rfl dX6_reads_113 ?_
      refine lv_iconst (v := (1 : Int32)) hx hb dX6_reads_116 (by decide) ?_
      refine lv_iadd hx hb dX6_reads_117 ?_
      refine va_put (D := D) (ci := 7) (v := .int (m_spot + (1 : Int32))) (ty := .int) (C := RX6) (T := TX6) (N := 22) hx hb hts inlX6 tyX6 tyX6_ok nmX6 hown hK hP (hDD _ rfl) hS 0 rfl rfl 19 (by decide) (hts _ q_24_17) (fun _ h9 => h9) rfl (by decide +kernel) rfl rfl (Nat.le_of_ble_eq_true rfl) dX6_reads_118 (fun H locs hP _ hS => ?_)
      have hP : va_P D vwCl (MW o cI cJ m_s m_past m_kept m_spare m_paid m_pastPaid m_keptPaid m_sparePaid m_isKept m_pasts m_runs m_pad m_typed m_isStopped m_stop m_order m_best m_many m_bySets (m_spot + (1 : Int32)) m_deeds (upd (upd m_deed ((4 : Int32) * m_deeds).toNatClampNeg t0) (((4 : Int32) * m_deeds) + (3 : Int32)).toNatClampNeg m_spot)) H := hP
      refine lv_aload_n hx hb dX6_reads_121 rfl (lv_at hl 1 rfl) ?_
      obtain ⟨q5, e5, h⟩ := bnd_some h
      refine f_call (As := []) (rest := []) (c_X6_oneTable l D o cI cJ  m_s m_past m_kept m_spare m_paid m_pastPaid m_keptPaid m_sparePaid m_isKept m_pasts m_runs m_pad m_typed m_isStopped m_stop m_order m_best m_many m_bySets (m_spot + (1 : Int32)) m_deeds (upd (upd m_deed ((4 : Int32) * m_deeds).toNatClampNeg t0) (((4 : Int32) * m_deeds) + (3 : Int32)).toNatClampNeg m_spot) q5 e5) B hK hDD hA hP hS rfl (va_recv hK hP (ci := 7) (q0 := 0) rfl rfl) k_X6_oneTable q_25_7 rfl ⟨Nat.le_of_ble_eq_true rfl, Nat.le_of_ble_eq_true rfl⟩ ⟨Nat.le_refl _, Nat.le_refl _⟩ hl.1 rfl (Nat.le_of_ble_eq_true rfl) dX6_reads_122 (fun H locs hP hS => ?_)
      obtain ⟨g6, h⟩ := grd_some h
      obtain rfl := Option.some.inj h
      exact hret _ _ _ _ (isB_nar g6) dX6_reads_125 hP hS
    · have h := ifn c4 h
      by_cases c7 : t0 = (112 : Int32)
      · have h := ift c7 h
        refine lv_lookup (off := 41) (tgt := 96) hx hb dX6_reads_55 (by decide) (by rw [c7]; decide) (by decide) ?_
        refine lv_aload_n hx hb dX6_reads_96 rfl (lv_at hl 1 rfl) ?_
        refine lv_dup hx hb dX6_reads_97 rfl ?_
        refine va_get (D := D) (ci := 7) (v := .int m_spot) (C := RX6) (T := TX6) (N := 22) hx hb hts inlX6 hown hK hP 0 rfl rfl 19 (by decide) (hts _ q_24_17) (fun _ h9 => h9) rfl dX6_reads_98 ?_
        refine lv_iconst (v := (1 : Int32)) hx hb dX6_reads_101 (by decide) ?_
        refine lv_iadd hx hb dX6_reads_102 ?_
        refine va_put (D := D) (ci := 7) (v := .int (m_spot + (1 : Int32))) (ty := .int) (C := RX6) (T := TX6) (N := 22) hx hb hts inlX6 tyX6 tyX6_ok nmX6 hown hK hP (hDD _ rfl) hS 0 rfl rfl 19 (by decide) (hts _ q_24_17) (fun _ h9 => h9) rfl (by decide +kernel) rfl rfl (Nat.le_of_ble_eq_true rfl) dX6_reads_103 (fun H locs hP _ hS => ?_)
        have hP : va_P D vwCl (MW o cI cJ m_s m_past m_kept m_spare m_paid m_pastPaid m_keptPaid m_sparePaid m_isKept m_pasts m_runs m_pad m_typed m_isStopped m_stop m_order m_best m_many m_bySets (m_spot + (1 : Int32)) m_deeds (upd (upd m_deed ((4 : Int32) * m_deeds).toNatClampNeg t0) (((4 : Int32) * m_deeds) + (3 : Int32)).toNatClampNeg m_spot)) H := hP
        refine lv_aload_n hx hb dX6_reads_106 rfl (lv_at hl 1 rfl) ?_
        obtain ⟨q8, e8, h⟩ := bnd_some h
        refine f_call (As := []) (rest := []) (c_X6_digits l D o cI cJ  m_s m_past m_kept m_spare m_paid m_pastPaid m_keptPaid m_sparePaid m_isKept m_pasts m_runs m_pad m_typed m_isStopped m_stop m_order m_best m_many m_bySets (m_spot + (1 : Int32)) m_deeds (upd (upd m_deed ((4 : Int32) * m_deeds).toNatClampNeg t0) (((4 : Int32) * m_deeds) + (3 : Int32)).toNatClampNeg m_spot) q8 e8) B hK hDD hA hP hS rfl (va_recv hK hP (ci := 7) (q0 := 0) rfl rfl) k_X6_digits q_24_23 rfl ⟨Nat.le_of_ble_eq_true rfl, Nat.le_of_ble_eq_true rfl⟩ ⟨Nat.le_refl _, Nat.le_refl _⟩ hl.1 rfl (Nat.le_of_ble_eq_true rfl) dX6_reads_107 (fun H locs hP hS => ?_)
        obtain ⟨g9, h⟩ := grd_some h
        obtain rfl := Option.some.inj h
        exact hret _ _ _ _ (isB_nar g9) dX6_reads_110 hP hS
      · have h := ifn c7 h
        by_cases c10 : t0 = (113 : Int32)
        · have h := ift c10 h
          refine lv_lookup (off := 41) (tgt := 96) hx hb dX6_reads_55 (by decide) (by rw [c10]; decide) (by decide) ?_
          refine lv_aload_n hx hb dX6_reads_96 rfl (lv_at hl 1 rfl) ?_
          refine lv_dup hx hb dX6_reads_97 rfl ?_
          refine va_get (D := D) (ci := 7) (v := .int m_spot) (C := RX6) (T := TX6) (N := 22) hx hb hts inlX6 hown hK hP 0 rfl rfl 19 (by decide) (hts _ q_24_17) (fun _ h9 => h9) rfl dX6_reads_98 ?_
          refine lv_iconst (v := (1 : Int32)) hx hb dX6_reads_101 (by decide) ?_
          refine lv_iadd hx hb dX6_reads_102 ?_
          refine va_put (D := D) (ci := 7) (v := .int (m_spot + (1 : Int32))) (ty := .int) (C := RX6) (T := TX6) (N := 22) hx hb hts inlX6 tyX6 tyX6_ok nmX6 hown hK hP (hDD _ rfl) hS 0 rfl rfl 19 (by decide) (hts _ q_24_17) (fun _ h9 => h9) rfl (by decide +kernel) rfl rfl (Nat.le_of_ble_eq_true rfl) dX6_reads_103 (fun H locs hP _ hS => ?_)
          have hP : va_P D vwCl (MW o cI cJ m_s m_past m_kept m_spare m_paid m_pastPaid m_keptPaid m_sparePaid m_isKept m_pasts m_runs m_pad m_typed m_isStopped m_stop m_order m_best m_many m_bySets (m_spot + (1 : Int32)) m_deeds (upd (upd m_deed ((4 : Int32) * m_deeds).toNatClampNeg t0) (((4 : Int32) * m_deeds) + (3 : Int32)).toNatClampNeg m_spot)) H := hP
          refine lv_aload_n hx hb dX6_reads_106 rfl (lv_at hl 1 rfl) ?_
          obtain ⟨q11, e11, h⟩ := bnd_some h
          refine f_call (As := []) (rest := []) (c_X6_digits l D o cI cJ  m_s m_past m_kept m_spare m_paid m_pastPaid m_keptPaid m_sparePaid m_isKept m_pasts m_runs m_pad m_typed m_isStopped m_stop m_order m_best m_many m_bySets (m_spot + (1 : Int32)) m_deeds (upd (upd m_deed ((4 : Int32) * m_deeds).toNatClampNeg t0) (((4 : Int32) * m_deeds) + (3 : Int32)).toNatClampNeg m_spot) q11 e11) B hK hDD hA hP hS rfl (va_recv hK hP (ci := 7) (q0 := 0) rfl rfl) k_X6_digits q_24_23 rfl ⟨Nat.le_of_ble_eq_true rfl, Nat.le_of_ble_eq_true rfl⟩ ⟨Nat.le_refl _, Nat.le_refl _⟩ hl.1 rfl (Nat.le_of_ble_eq_true rfl) dX6_reads_107 (fun H locs hP hS => ?_)
          obtain ⟨g12, h⟩ := grd_some h
          obtain rfl := Option.some.inj h
          exact hret _ _ _ _ (isB_nar g12) dX6_reads_110 hP hS
        · have h := ifn c10 h
          by_cases c13 : t0 = (114 : Int32)
          · have h := ift c13 h
            refine lv_lookup (off := 71) (tgt := 126) hx hb dX6_reads_55 (by decide) (by rw [c13]; decide) (by decide) ?_
            refine lv_aload_n hx hb dX6_reads_126 rfl (lv_at hl 1 rfl) ?_
            refine lv_dup hx hb dX6_reads_127 rfl ?_
            refine va_get (D := D) (ci := 7) (v := .int m_spot) (C := RX6) (T := TX6) (N := 22) hx hb hts inlX6 hown hK hP 0 rfl rfl 19 (by decide) (hts _ q_24_17) (fun _ h9 => h9) rfl dX6_reads_128 ?_
            refine lv_iconst (v := (1 : Int32)) hx hb dX6_reads_131 (by decide) ?_
            refine lv_iadd hx hb dX6_reads_132 ?_
            refine va_put (D := D) (ci := 7) (v := .int (m_spot + (1 : Int32))) (ty := .int) (C := RX6) (T := TX6) (N := 22) hx hb hts inlX6 tyX6 tyX6_ok nmX6 hown hK hP (hDD _ rfl) hS 0 rfl rfl 19 (by decide) (hts _ q_24_17) (fun _ h9 => h9) rfl (by decide +kernel) rfl rfl (Nat.le_of_ble_eq_true rfl) dX6_reads_133 (fun H locs hP _ hS => ?_)
            have hP : va_P D vwCl (MW o cI cJ m_s m_past m_kept m_spare m_paid m_pastPaid m_keptPaid m_sparePaid m_isKept m_pasts m_runs m_pad m_typed m_isStopped m_stop m_order m_best m_many m_bySets (m_spot + (1 : Int32)) m_deeds (upd (upd m_deed ((4 : Int32) * m_deeds).toNatClampNeg t0) (((4 : Int32) * m_deeds) + (3 : Int32)).toNatClampNeg m_spot)) H := hP
            refine lv_aload_n hx hb dX6_reads_136 rfl (lv_at hl 1 rfl) ?_
            obtain ⟨q14, e14, h⟩ := bnd_some h
            refine f_call (As := []) (rest := []) (c_X6_oneTable l D o cI cJ  m_s m_past m_kept m_spare m_paid m_pastPaid m_keptPaid m_sparePaid m_isKept m_pasts m_runs m_pad m_typed m_isStopped m_stop m_order m_best m_many m_bySets (m_spot + (1 : Int32)) m_deeds (upd (upd m_deed ((4 : Int32) * m_deeds).toNatClampNeg t0) (((4 : Int32) * m_deeds) + (3 : Int32)).toNatClampNeg m_spot) q14 e14) B hK hDD hA hP hS rfl (va_recv hK hP (ci := 7) (q0 := 0) rfl rfl) k_X6_oneTable q_25_7 rfl ⟨Nat.le_of_ble_eq_true rfl, Nat.le_of_ble_eq_true rfl⟩ ⟨Nat.le_refl _, Nat.le_refl _⟩ hl.1 rfl (Nat.le_of_ble_eq_true rfl) dX6_reads_137 (fun H locs hP hS => ?_)
            refine lv_if_eq (tgt := 163) hx hb dX6_reads_140 (by decide) (fun c15 => ?_) (fun c15 => ?_)
            · have h := ift c15 h
              refine lv_iconst (v := (0 : Int32)) hx hb dX6_reads_163 (by decide) ?_
              obtain rfl := Option.some.inj h
              exact hret _ _ _ _ nb0 dX6_reads_164 hP hS
            · have h := ifn c15 h
              refine lv_aload_n hx hb dX6_reads_143 rfl (lv_at hl 1 rfl) ?_
              refine lv_bipush (v := (61 : Int32)) hx hb dX6_reads_144 (by decide) ?_
              obtain ⟨q16, e16, h⟩ := bnd_some h
              refine f_call (As := [.int (61 : Int32)]) (rest := []) (c_X6_sign l D o cI cJ (61 : Int32) m_s m_past m_kept m_spare m_paid m_pastPaid m_keptPaid m_sparePaid m_isKept m_pasts m_runs m_pad m_typed m_isStopped m_stop m_order m_best m_many m_bySets q14.2.1 m_deeds q14.2.2 q16 e16) B hK hDD hA hP hS rfl (va_recv hK hP (ci := 7) (q0 := 0) rfl rfl) k_X6_sign q_25_11 rfl ⟨Nat.le_of_ble_eq_true rfl, Nat.le_of_ble_eq_true rfl⟩ ⟨Nat.le_refl _, Nat.le_refl _⟩ hl.1 rfl (Nat.le_of_ble_eq_true rfl) dX6_reads_146 (fun H locs hP hS => ?_)
              refine lv_if_eq (tgt := 163) hx hb dX6_reads_149 (by decide) (fun c17 => ?_) (fun c17 => ?_)
              · have h := ift c17 h
                refine lv_iconst (v := (0 : Int32)) hx hb dX6_reads_163 (by decide) ?_
                obtain rfl := Option.some.inj h
                exact hret _ _ _ _ nb0 dX6_reads_164 hP hS
              · have h := ifn c17 h
                refine lv_aload_n hx hb dX6_reads_152 rfl (lv_at hl 1 rfl) ?_
                obtain ⟨q18, e18, h⟩ := bnd_some h
                refine f_call (As := []) (rest := []) (c_X6_number l D o cI cJ  m_s m_past m_kept m_spare m_paid m_pastPaid m_keptPaid m_sparePaid m_isKept m_pasts m_runs m_pad m_typed m_isStopped m_stop m_order m_best m_many m_bySets q16.2 m_deeds q14.2.2 q18 e18) B hK hDD hA hP hS rfl (va_recv hK hP (ci := 7) (q0 := 0) rfl rfl) k_X6_number q_25_15 rfl ⟨Nat.le_of_ble_eq_true rfl, Nat.le_of_ble_eq_true rfl⟩ ⟨Nat.le_refl _, Nat.le_refl _⟩ hl.1 rfl (Nat.le_of_ble_eq_true rfl) dX6_reads_153 (fun H locs hP hS => ?_)
                refine lv_if_eq (tgt := 163) hx hb dX6_reads_156 (by decide) (fun c19 => ?_) (fun c19 => ?_)
                · have h := ift c19 h
                  refine lv_iconst (v := (0 : Int32)) hx hb dX6_reads_163 (by decide) ?_
                  obtain rfl := Option.some.inj h
                  exact hret _ _ _ _ nb0 dX6_reads_164 hP hS
                · have h := ifn c19 h
                  refine lv_iconst (v := (1 : Int32)) hx hb dX6_reads_159 (by decide) ?_
                  refine lv_goto (tgt := 164) hx hb dX6_reads_160 (by decide) ?_
                  obtain rfl := Option.some.inj h
                  exact hret _ _ _ _ nb1 dX6_reads_164 hP hS
          · have h := ifn c13 h
            refine lv_lookup (off := 110) (tgt := 165) hx hb dX6_reads_55 (by decide) (by show Op.lookupswitch.offset [(99, 56), (112, 41), (113, 41), (114, 71)] 110 _ = _; rw [lv_osw (k := (99 : Int32)) c4 (by decide), lv_osw (k := (112 : Int32)) c7 (by decide), lv_osw (k := (113 : Int32)) c10 (by decide), lv_osw (k := (114 : Int32)) c13 (by decide)]; rfl) (by decide) ?_
            refine lv_iconst (v := (0 : Int32)) hx hb dX6_reads_165 (by decide) ?_
            obtain rfl := Option.some.inj h
            exact hret _ _ _ _ nb0 dX6_reads_166 hP hS
  unfold f_X6_reads at h
  refine lv_aload_n hx hb dX6_reads_0 rfl (lv_at hl 0 rfl) ?_
  refine va_get (D := D) (ci := 7) (v := .int m_spot) (C := RX6) (T := TX6) (N := 22) hx hb hts inlX6 hown hK hP 0 rfl rfl 19 (by decide) (hts _ q_24_17) (fun _ h9 => h9) rfl dX6_reads_1 ?_
  refine lv_aload_n hx hb dX6_reads_4 rfl (lv_at hl 0 rfl) ?_
  refine va_get (D := D) (ci := 7) (v := .int m_typed) (C := RX6) (T := TX6) (N := 22) hx hb hts inlX6 hown hK hP 0 rfl rfl 12 (by decide) (hts _ q_22_1) (fun _ h9 => h9) rfl dX6_reads_5 ?_
  refine lv_icmp_ge (tgt := 23) hx hb dX6_reads_8 (by decide) (fun c1 => ?_) (fun c1 => ?_)
  · have h := ift c1 h
    refine lv_iconst (v := (0 : Int32)) hx hb dX6_reads_23 (by decide) ?_
    exact hJ24 (0 : Int32) m_spot m_deed _ _ _ h hP hS (lv_sub hl [0] rfl)
  · have h := ifn c1 h
    refine lv_aload_n hx hb dX6_reads_11 rfl (lv_at hl 0 rfl) ?_
    refine va_get (D := D) (ci := 7) (v := .ref (o 9)) (C := RX6) (T := TX6) (N := 22) hx hb hts inlX6 hown hK hP 0 rfl rfl 11 (by decide) (hts _ q_4_13) (fun _ h9 => h9) rfl dX6_reads_12 ?_
    refine lv_aload_n hx hb dX6_reads_15 rfl (lv_at hl 0 rfl) ?_
    refine va_get (D := D) (ci := 7) (v := .int m_spot) (C := RX6) (T := TX6) (N := 22) hx hb hts inlX6 hown hK hP 0 rfl rfl 19 (by decide) (hts _ q_24_17) (fun _ h9 => h9) rfl dX6_reads_16 ?_
    obtain ⟨g20, h⟩ := grd_some h
    refine va_iald hx hb hK hP 9 0 rfl rfl (inb_in g20) dX6_reads_19 ?_
    refine lv_goto (tgt := 24) hx hb dX6_reads_20 (by decide) ?_
    exact hJ24 (m_pad m_spot.toNatClampNeg) m_spot m_deed _ _ _ h hP hS (lv_sub hl [0] rfl)

def f_X6_fault_L12b  (m_pad : Nat → Int32) (m_typed : Int32)  (k12 : Int32 → Int32 → Int32 → (Nat → Int32) → Option (Int32 × (Int32) × (Int32) × (Nat → Int32))) (x1 : Int32) (m_spot : Int32) (m_deeds : Int32) (m_deed : Nat → Int32) : Option (Int32 × (Int32) × (Int32) × (Nat → Int32)) :=
  if x1 = (0 : Int32) then if m_spot = m_typed then some ((-4 : Int32), m_spot, m_deeds, m_deed)
  else some (m_spot, m_spot, m_deeds, m_deed)
  else bnd (f_X6_reads  m_pad m_typed m_spot m_deeds m_deed) (fun q3 => if q3.1 = (0 : Int32) then some (q3.2.1, q3.2.1, m_deeds, q3.2.2)
  else bnd (f_X6_sign (59 : Int32) m_pad m_typed q3.2.1) (fun q5 => k12 q5.1 q5.2 (m_deeds + (1 : Int32)) q3.2.2))
def f_X6_fault_L12  (m_pad : Nat → Int32) (m_typed : Int32)  : Nat → Int32 → Int32 → Int32 → (Nat → Int32) → Option (Int32 × (Int32) × (Int32) × (Nat → Int32))
  | 0 => fun _ _ _ _ => none
  | n + 1 => f_X6_fault_L12b m_pad m_typed  (f_X6_fault_L12 m_pad m_typed  n)
def f_X6_fault  (m_pad : Nat → Int32) (m_typed : Int32) (m_spot : Int32) (m_deeds : Int32) (m_deed : Nat → Int32) : Option (Int32 × (Int32) × (Int32) × (Nat → Int32)) :=
  f_X6_fault_L12 m_pad m_typed  1024 (1 : Int32) (0 : Int32) (0 : Int32) m_deed
set_option maxRecDepth 100000 in
set_option maxHeartbeats 4000000 in
theorem c_X6_fault (l : Launch) (D : va_G) (o : Nat → Nat) (cI cJ : ClassId)  (m_s : Nat → Int32) (m_past : Nat → Int32) (m_kept : Nat → Int32) (m_spare : Nat → Int32) (m_paid : Nat → Int64) (m_pastPaid : Nat → Int64) (m_keptPaid : Nat → Int64) (m_sparePaid : Nat → Int64) (m_isKept : Int32) (m_pasts : Int32) (m_runs : Int32) (m_pad : Nat → Int32) (m_typed : Int32) (m_isStopped : Int32) (m_stop : Nat → Int32) (m_order : Nat → Int32) (m_best : Nat → Int32) (m_many : Int32) (m_bySets : Nat → Int64) (m_spot : Int32) (m_deeds : Int32) (m_deed : Nat → Int32) (q : Int32 × (Int32) × (Int32) × (Nat → Int32)) (h : f_X6_fault  m_pad m_typed m_spot m_deeds m_deed = some q) : CF l yX6_fault cX6_fault 2 4 (some .int) D (tysMW cI cJ) [.ref (o 0)] (some (.int q.1)) (MW o cI cJ m_s m_past m_kept m_spare m_paid m_pastPaid m_keptPaid m_sparePaid m_isKept m_pasts m_runs m_pad m_typed m_isStopped m_stop m_order m_best m_many m_bySets m_spot m_deeds m_deed) (MW o cI cJ m_s m_past m_kept m_spare m_paid m_pastPaid m_keptPaid m_sparePaid m_isKept m_pasts m_runs m_pad m_typed m_isStopped m_stop m_order m_best m_many m_bySets q.2.1 q.2.2.1 q.2.2.2) := by
  refine CF.mkI (by decide) (Nat.le_of_ble_eq_true rfl) ?_
  intro p e s m below meth c Q A B hK hDD hA hret hP hS ls hl
  have B0 := B
  obtain ⟨hx, hb, hml, hown, hts⟩ := B0
  have hl : lv_has ls 2 [(0, .ref (o 0))] := hl
  have hL12 : ∀ (n12 : Nat) (x1 : Int32) (m_spot : Int32) (m_deeds : Int32) (m_deed : Nat → Int32) (ls : Array Slot) (H : Heap) (locs : List Loc), f_X6_fault_L12 m_pad m_typed  n12 x1 m_spot m_deeds m_deed = some q → va_P D vwCl (MW o cI cJ m_s m_past m_kept m_spare m_paid m_pastPaid m_keptPaid m_sparePaid m_isKept m_pasts m_runs m_pad m_typed m_isStopped m_stop m_order m_best m_many m_bySets m_spot m_deeds m_deed) H → va_S A s.heap H locs → lv_has ls 2 [(0, .ref (o 0)), (1, .int x1)] → W p l e (rmF 4 0 0) s m ([.ref (o 0)] : List Value).toArray below meth c H locs 0 0 Q (F0 m 12 ls []) := by
    intro n12
    induction n12 with
    | zero =>
      intro x1 m_spot m_deeds m_deed ls H locs h
      exact absurd (show (none : Option (Int32 × (Int32) × (Int32) × (Nat → Int32))) = some q from h) (by intro h; cases h)
    | succ n12 ih12 =>
      intro x1 m_spot m_deeds m_deed ls H locs h hP hS hl
      have h : f_X6_fault_L12b m_pad m_typed  (f_X6_fault_L12 m_pad m_typed  n12) x1 m_spot m_deeds m_deed = some q := h
      unfold f_X6_fault_L12b at h
      refine lv_iload_n hx hb dX6_fault_12 rfl (lv_at hl 1 rfl) ?_
      refine lv_if_eq (tgt := 48) hx hb dX6_fault_13 (by decide) (fun c1 => ?_) (fun c1 => ?_)
      · have h := ift c1 h
        refine lv_aload_n hx hb dX6_fault_48 rfl (lv_at hl 0 rfl) ?_
        refine va_get (D := D) (ci := 7) (v := .int m_spot) (C := RX6) (T := TX6) (N := 22) hx hb hts inlX6 hown hK hP 0 rfl rfl 19 (by decide) (hts _ q_24_17) (fun _ h9 => h9) rfl dX6_fault_49 ?_
        refine lv_aload_n hx hb dX6_fault_52 rfl (lv_at hl 0 rfl) ?_
        refine va_get (D := D) (ci := 7) (v := .int m_typed) (C := RX6) (T := TX6) (N := 22) hx hb hts inlX6 hown hK hP 0 rfl rfl 12 (by decide) (hts _ q_22_1) (fun _ h9 => h9) rfl dX6_fault_53 ?_
        refine lv_icmp_ne (tgt := 64) hx hb dX6_fault_56 (by decide) (fun c2 => ?_) (fun c2 => ?_)
        · have h := ifn c2 h
          refine lv_aload_n hx hb dX6_fault_64 rfl (lv_at hl 0 rfl) ?_
          refine va_get (D := D) (ci := 7) (v := .int m_spot) (C := RX6) (T := TX6) (N := 22) hx hb hts inlX6 hown hK hP 0 rfl rfl 19 (by decide) (hts _ q_24_17) (fun _ h9 => h9) rfl dX6_fault_65 ?_
          obtain rfl := Option.some.inj h
          exact hret _ _ _ _ (vp_nar_int _) dX6_fault_68 hP hS
        · have h := ift c2 h
          refine lv_bipush (v := (-4 : Int32)) hx hb dX6_fault_59 (by decide) ?_
          refine lv_goto (tgt := 68) hx hb dX6_fault_61 (by decide) ?_
          obtain rfl := Option.some.inj h
          exact hret _ _ _ _ (vp_nar_int _) dX6_fault_68 hP hS
      · have h := ifn c1 h
        refine lv_aload_n hx hb dX6_fault_16 rfl (lv_at hl 0 rfl) ?_
        obtain ⟨q3, e3, h⟩ := bnd_some h
        refine f_call (As := []) (rest := []) (c_X6_reads l D o cI cJ  m_s m_past m_kept m_spare m_paid m_pastPaid m_keptPaid m_sparePaid m_isKept m_pasts m_runs m_pad m_typed m_isStopped m_stop m_order m_best m_many m_bySets m_spot m_deeds m_deed q3 e3) B hK hDD hA hP hS rfl (va_recv hK hP (ci := 7) (q0 := 0) rfl rfl) k_X6_reads q_24_19 rfl ⟨Nat.le_of_ble_eq_true rfl, Nat.le_of_ble_eq_true rfl⟩ ⟨Nat.le_refl _, Nat.le_refl _⟩ hl.1 rfl (Nat.le_of_ble_eq_true rfl) dX6_fault_17 (fun H locs hP hS => ?_)
        refine lv_if_ne (tgt := 28) hx hb dX6_fault_20 (by decide) (fun c4 => ?_) (fun c4 => ?_)
        · have h := ifn c4 h
          refine lv_aload_n hx hb dX6_fault_28 rfl (lv_at hl 0 rfl) ?_
          refine lv_dup hx hb dX6_fault_29 rfl ?_
          refine va_get (D := D) (ci := 7) (v := .int m_deeds) (C := RX6) (T := TX6) (N := 22) hx hb hts inlX6 hown hK hP 0 rfl rfl 20 (by decide) (hts _ q_24_18) (fun _ h9 => h9) rfl dX6_fault_30 ?_
          refine lv_iconst (v := (1 : Int32)) hx hb dX6_fault_33 (by decide) ?_
          refine lv_iadd hx hb dX6_fault_34 ?_
          refine va_put (D := D) (ci := 7) (v := .int (m_deeds + (1 : Int32))) (ty := .int) (C := RX6) (T := TX6) (N := 22) hx hb hts inlX6 tyX6 tyX6_ok nmX6 hown hK hP (hDD _ rfl) hS 0 rfl rfl 20 (by decide) (hts _ q_24_18) (fun _ h9 => h9) rfl (by decide +kernel) rfl rfl (Nat.le_of_ble_eq_true rfl) dX6_fault_35 (fun H locs hP _ hS => ?_)
          have hP : va_P D vwCl (MW o cI cJ m_s m_past m_kept m_spare m_paid m_pastPaid m_keptPaid m_sparePaid m_isKept m_pasts m_runs m_pad m_typed m_isStopped m_stop m_order m_best m_many m_bySets q3.2.1 (m_deeds + (1 : Int32)) q3.2.2) H := hP
          refine lv_aload_n hx hb dX6_fault_38 rfl (lv_at hl 0 rfl) ?_
          refine lv_bipush (v := (59 : Int32)) hx hb dX6_fault_39 (by decide) ?_
          obtain ⟨q5, e5, h⟩ := bnd_some h
          refine f_call (As := [.int (59 : Int32)]) (rest := []) (c_X6_sign l D o cI cJ (59 : Int32) m_s m_past m_kept m_spare m_paid m_pastPaid m_keptPaid m_sparePaid m_isKept m_pasts m_runs m_pad m_typed m_isStopped m_stop m_order m_best m_many m_bySets q3.2.1 (m_deeds + (1 : Int32)) q3.2.2 q5 e5) B hK hDD hA hP hS rfl (va_recv hK hP (ci := 7) (q0 := 0) rfl rfl) k_X6_sign q_25_11 rfl ⟨Nat.le_of_ble_eq_true rfl, Nat.le_of_ble_eq_true rfl⟩ ⟨Nat.le_refl _, Nat.le_refl _⟩ hl.1 rfl (Nat.le_of_ble_eq_true rfl) dX6_fault_41 (fun H locs hP hS => ?_)
          refine lv_istore_n (lv' := [(1, .int q5.1), (0, .ref (o 0))]) hx hb dX6_fault_44 rfl hl (by decide) rfl (fun ls hl => ?_)
          refine lv_goto (tgt := 12) hx hb dX6_fault_45 (by decide) ?_
          exact ih12 q5.1 q5.2 (m_deeds + (1 : Int32)) q3.2.2 _ _ _ h hP hS (lv_sub hl [1, 0] rfl)
        · have h := ift c4 h
          refine lv_aload_n hx hb dX6_fault_23 rfl (lv_at hl 0 rfl) ?_
          refine va_get (D := D) (ci := 7) (v := .int q3.2.1) (C := RX6) (T := TX6) (N := 22) hx hb hts inlX6 hown hK hP 0 rfl rfl 19 (by decide) (hts _ q_24_17) (fun _ h9 => h9) rfl dX6_fault_24 ?_
          obtain rfl := Option.some.inj h
          exact hret _ _ _ _ (vp_nar_int _) dX6_fault_27 hP hS
  unfold f_X6_fault at h
  refine lv_aload_n hx hb dX6_fault_0 rfl (lv_at hl 0 rfl) ?_
  refine lv_iconst (v := (0 : Int32)) hx hb dX6_fault_1 (by decide) ?_
  refine va_put (D := D) (ci := 7) (v := .int (0 : Int32)) (ty := .int) (C := RX6) (T := TX6) (N := 22) hx hb hts inlX6 tyX6 tyX6_ok nmX6 hown hK hP (hDD _ rfl) hS 0 rfl rfl 19 (by decide) (hts _ q_24_17) (fun _ h9 => h9) rfl (by decide +kernel) rfl rfl (Nat.le_of_ble_eq_true rfl) dX6_fault_2 (fun H locs hP _ hS => ?_)
  have hP : va_P D vwCl (MW o cI cJ m_s m_past m_kept m_spare m_paid m_pastPaid m_keptPaid m_sparePaid m_isKept m_pasts m_runs m_pad m_typed m_isStopped m_stop m_order m_best m_many m_bySets (0 : Int32) m_deeds m_deed) H := hP
  refine lv_aload_n hx hb dX6_fault_5 rfl (lv_at hl 0 rfl) ?_
  refine lv_iconst (v := (0 : Int32)) hx hb dX6_fault_6 (by decide) ?_
  refine va_put (D := D) (ci := 7) (v := .int (0 : Int32)) (ty := .int) (C := RX6) (T := TX6) (N := 22) hx hb hts inlX6 tyX6 tyX6_ok nmX6 hown hK hP (hDD _ rfl) hS 0 rfl rfl 20 (by decide) (hts _ q_24_18) (fun _ h9 => h9) rfl (by decide +kernel) rfl rfl (Nat.le_of_ble_eq_true rfl) dX6_fault_7 (fun H locs hP _ hS => ?_)
  have hP : va_P D vwCl (MW o cI cJ m_s m_past m_kept m_spare m_paid m_pastPaid m_keptPaid m_sparePaid m_isKept m_pasts m_runs m_pad m_typed m_isStopped m_stop m_order m_best m_many m_bySets (0 : Int32) (0 : Int32) m_deed) H := hP
  refine lv_iconst (v := (1 : Int32)) hx hb dX6_fault_10 (by decide) ?_
  refine lv_istore_n (lv' := [(1, .int (1 : Int32)), (0, .ref (o 0))]) hx hb dX6_fault_11 rfl hl (by decide) rfl (fun ls hl => ?_)
  exact hL12 1024 (1 : Int32) (0 : Int32) (0 : Int32) m_deed _ _ _ h hP hS (lv_sub hl [1, 0] rfl)

def f_X6_pins (a1 : Int32) (m_s : Nat → Int32) : Option (Int32 × (Nat → Int32)) :=
  bnd (f_X6_slotOf a1 m_s) (fun q1 => if (0 : Int32) ≤ q1 then bnd (f_X6_at q1 ) (fun q3 => grd (inb (q3 + (13 : Int32)) 100) (some ((1 : Int32), (upd m_s (q3 + (13 : Int32)).toNatClampNeg (1 : Int32)))))
  else some ((-2 : Int32), m_s))
set_option maxRecDepth 100000 in
set_option maxHeartbeats 4000000 in
theorem c_X6_pins (l : Launch) (D : va_G) (o : Nat → Nat) (cI cJ : ClassId) (a1 : Int32) (m_s : Nat → Int32) (m_past : Nat → Int32) (m_kept : Nat → Int32) (m_spare : Nat → Int32) (m_paid : Nat → Int64) (m_pastPaid : Nat → Int64) (m_keptPaid : Nat → Int64) (m_sparePaid : Nat → Int64) (m_isKept : Int32) (m_pasts : Int32) (m_runs : Int32) (m_pad : Nat → Int32) (m_typed : Int32) (m_isStopped : Int32) (m_stop : Nat → Int32) (m_order : Nat → Int32) (m_best : Nat → Int32) (m_many : Int32) (m_bySets : Nat → Int64) (m_spot : Int32) (m_deeds : Int32) (m_deed : Nat → Int32) (q : Int32 × (Nat → Int32)) (h : f_X6_pins a1 m_s = some q) : CF l yX6_pins cX6_pins 3 2 (some .int) D (tysMW cI cJ) [.ref (o 0), .int a1] (some (.int q.1)) (MW o cI cJ m_s m_past m_kept m_spare m_paid m_pastPaid m_keptPaid m_sparePaid m_isKept m_pasts m_runs m_pad m_typed m_isStopped m_stop m_order m_best m_many m_bySets m_spot m_deeds m_deed) (MW o cI cJ q.2 m_past m_kept m_spare m_paid m_pastPaid m_keptPaid m_sparePaid m_isKept m_pasts m_runs m_pad m_typed m_isStopped m_stop m_order m_best m_many m_bySets m_spot m_deeds m_deed) := by
  refine CF.mkI (by decide) (Nat.le_of_ble_eq_true rfl) ?_
  intro p e s m below meth c Q A B hK hDD hA hret hP hS ls hl
  have B0 := B
  obtain ⟨hx, hb, hml, hown, hts⟩ := B0
  have hl : lv_has ls 3 [(0, .ref (o 0)), (1, .int a1)] := hl
  unfold f_X6_pins at h
  refine lv_aload_n hx hb dX6_pins_0 rfl (lv_at hl 0 rfl) ?_
  refine lv_iload_n hx hb dX6_pins_1 rfl (lv_at hl 1 rfl) ?_
  obtain ⟨q1, e1, h⟩ := bnd_some h
  refine f_call (As := [.int a1]) (rest := []) (c_X6_slotOf l D o cI cJ a1 m_s m_past m_kept m_spare m_paid m_pastPaid m_keptPaid m_sparePaid m_isKept m_pasts m_runs m_pad m_typed m_isStopped m_stop m_order m_best m_many m_bySets m_spot m_deeds m_deed q1 e1) B hK hDD hA hP hS rfl (va_recv hK hP (ci := 7) (q0 := 0) rfl rfl) k_X6_slotOf q_17_21 rfl ⟨Nat.le_of_ble_eq_true rfl, Nat.le_of_ble_eq_true rfl⟩ ⟨Nat.le_refl _, Nat.le_refl _⟩ hl.1 rfl (Nat.le_of_ble_eq_true rfl) dX6_pins_2 (fun H locs hP hS => ?_)
  refine lv_istore_n (lv' := [(2, .int q1), (0, .ref (o 0)), (1, .int a1)]) hx hb dX6_pins_5 rfl hl (by decide) rfl (fun ls hl => ?_)
  refine lv_iload_n hx hb dX6_pins_6 rfl (lv_at hl 0 rfl) ?_
  refine lv_if_ge (tgt := 13) hx hb dX6_pins_7 (by decide) (fun c2 => ?_) (fun c2 => ?_)
  · have h := ift c2 h
    refine lv_aload_n hx hb dX6_pins_13 rfl (lv_at hl 1 rfl) ?_
    refine va_get (D := D) (ci := 7) (v := .ref (o 1)) (C := RX6) (T := TX6) (N := 22) hx hb hts inlX6 hown hK hP 0 rfl rfl 0 (by decide) (hts _ q_4_5) (fun _ h9 => h9) rfl dX6_pins_14 ?_
    refine lv_iload_n hx hb dX6_pins_17 rfl (lv_at hl 0 rfl) ?_
    obtain ⟨q3, e3, h⟩ := bnd_some h
    refine s_call (As := [.int q1]) (rest := [.ref (o 1)]) (c_X6_at l q1 q3 e3) B k_X6_at q_11_4 rfl ⟨Nat.le_of_ble_eq_true rfl, Nat.le_of_ble_eq_true rfl⟩ ⟨Nat.le_refl _, Nat.le_refl _⟩ hl.1 rfl (Nat.le_of_ble_eq_true rfl) dX6_pins_18 ?_
    refine lv_bipush (v := (13 : Int32)) hx hb dX6_pins_21 (by decide) ?_
    refine lv_iadd hx hb dX6_pins_23 ?_
    refine lv_iconst (v := (1 : Int32)) hx hb dX6_pins_24 (by decide) ?_
    obtain ⟨g4, h⟩ := grd_some h
    refine va_iast hx hb hK hP (hDD _ rfl) hS 1 0 rfl rfl (inb_in g4) dX6_pins_25 (fun H locs hP _ hS => ?_)
    have hP : va_P D vwCl (MW o cI cJ (upd m_s (q3 + (13 : Int32)).toNatClampNeg (1 : Int32)) m_past m_kept m_spare m_paid m_pastPaid m_keptPaid m_sparePaid m_isKept m_pasts m_runs m_pad m_typed m_isStopped m_stop m_order m_best m_many m_bySets m_spot m_deeds m_deed) H := hP
    refine lv_iconst (v := (1 : Int32)) hx hb dX6_pins_26 (by decide) ?_
    obtain rfl := Option.some.inj h
    exact hret _ _ _ _ (vp_nar_int _) dX6_pins_27 hP hS
  · have h := ifn c2 h
    refine lv_bipush (v := (-2 : Int32)) hx hb dX6_pins_10 (by decide) ?_
    obtain rfl := Option.some.inj h
    exact hret _ _ _ _ (vp_nar_int _) dX6_pins_12 hP hS

def f_X6_does (a1 : Int32) (m_s : Nat → Int32) (m_past : Nat → Int32) (m_paid : Nat → Int64) (m_pastPaid : Nat → Int64) (m_pasts : Int32) (m_runs : Int32) (m_order : Nat → Int32) (m_best : Nat → Int32) (m_many : Int32) (m_deed : Nat → Int32) : Option (Int32 × (Nat → Int32) × (Nat → Int32) × (Nat → Int64) × (Nat → Int64) × (Int32) × (Nat → Int32) × (Nat → Int32) × (Int32)) :=
  grd (inb (((4 : Int32) * a1) + (1 : Int32)) 124) (grd (inb ((4 : Int32) * a1) 124) (if (m_deed ((4 : Int32) * a1).toNatClampNeg) = (99 : Int32) then bnd (f_X6_count (m_deed (((4 : Int32) * a1) + (1 : Int32)).toNatClampNeg) m_s m_past m_paid m_pastPaid m_pasts m_runs) (fun q4 => some (q4.1, q4.2.1, q4.2.2.1, m_paid, q4.2.2.2.1, q4.2.2.2.2, m_order, m_best, m_many))
  else if (m_deed ((4 : Int32) * a1).toNatClampNeg) = (112 : Int32) then bnd (f_X6_pins (m_deed (((4 : Int32) * a1) + (1 : Int32)).toNatClampNeg) m_s) (fun q6 => some (q6.1, q6.2, m_past, m_paid, m_pastPaid, m_pasts, m_order, m_best, m_many))
  else if (m_deed ((4 : Int32) * a1).toNatClampNeg) = (113 : Int32) then bnd (f_X6_run (m_deed (((4 : Int32) * a1) + (1 : Int32)).toNatClampNeg) m_s m_past m_paid m_pastPaid m_pasts m_runs m_order m_best m_many) (fun q8 => some (q8.1, q8.2.1, q8.2.2.1, q8.2.2.2.1, q8.2.2.2.2.1, q8.2.2.2.2.2.1, q8.2.2.2.2.2.2.1, q8.2.2.2.2.2.2.2.1, q8.2.2.2.2.2.2.2.2))
  else grd (inb (((4 : Int32) * a1) + (2 : Int32)) 124) (bnd (f_X6_rows (m_deed (((4 : Int32) * a1) + (1 : Int32)).toNatClampNeg) (m_deed (((4 : Int32) * a1) + (2 : Int32)).toNatClampNeg) m_s m_past m_paid m_pastPaid m_pasts m_runs) (fun q10 => some (q10.1, q10.2.1, q10.2.2.1, m_paid, q10.2.2.2.1, q10.2.2.2.2, m_order, m_best, m_many)))))
set_option maxRecDepth 100000 in
set_option maxHeartbeats 4000000 in
theorem c_X6_does (l : Launch) (D : va_G) (o : Nat → Nat) (cI cJ : ClassId) (a1 : Int32) (m_s : Nat → Int32) (m_past : Nat → Int32) (m_kept : Nat → Int32) (m_spare : Nat → Int32) (m_paid : Nat → Int64) (m_pastPaid : Nat → Int64) (m_keptPaid : Nat → Int64) (m_sparePaid : Nat → Int64) (m_isKept : Int32) (m_pasts : Int32) (m_runs : Int32) (m_pad : Nat → Int32) (m_typed : Int32) (m_isStopped : Int32) (m_stop : Nat → Int32) (m_order : Nat → Int32) (m_best : Nat → Int32) (m_many : Int32) (m_bySets : Nat → Int64) (m_spot : Int32) (m_deeds : Int32) (m_deed : Nat → Int32) (q : Int32 × (Nat → Int32) × (Nat → Int32) × (Nat → Int64) × (Nat → Int64) × (Int32) × (Nat → Int32) × (Nat → Int32) × (Int32)) (h : f_X6_does a1 m_s m_past m_paid m_pastPaid m_pasts m_runs m_order m_best m_many m_deed = some q) : CF l yX6_does cX6_does 3 6 (some .int) D (tysMW cI cJ) [.ref (o 0), .int a1] (some (.int q.1)) (MW o cI cJ m_s m_past m_kept m_spare m_paid m_pastPaid m_keptPaid m_sparePaid m_isKept m_pasts m_runs m_pad m_typed m_isStopped m_stop m_order m_best m_many m_bySets m_spot m_deeds m_deed) (MW o cI cJ q.2.1 q.2.2.1 m_kept m_spare q.2.2.2.1 q.2.2.2.2.1 m_keptPaid m_sparePaid m_isKept q.2.2.2.2.2.1 m_runs m_pad m_typed m_isStopped m_stop q.2.2.2.2.2.2.1 q.2.2.2.2.2.2.2.1 q.2.2.2.2.2.2.2.2 m_bySets m_spot m_deeds m_deed) := by
  refine CF.mkI (by decide) (Nat.le_of_ble_eq_true rfl) ?_
  intro p e s m below meth c Q A B hK hDD hA hret hP hS ls hl
  have B0 := B
  obtain ⟨hx, hb, hml, hown, hts⟩ := B0
  have hl : lv_has ls 3 [(0, .ref (o 0)), (1, .int a1)] := hl
  unfold f_X6_does at h
  refine lv_aload_n hx hb dX6_does_0 rfl (lv_at hl 0 rfl) ?_
  refine va_get (D := D) (ci := 7) (v := .ref (o 14)) (C := RX6) (T := TX6) (N := 22) hx hb hts inlX6 hown hK hP 0 rfl rfl 21 (by decide) (hts _ q_4_18) (fun _ h9 => h9) rfl dX6_does_1 ?_
  refine lv_iconst (v := (4 : Int32)) hx hb dX6_does_4 (by decide) ?_
  refine lv_iload_n hx hb dX6_does_5 rfl (lv_at hl 1 rfl) ?_
  refine lv_imul hx hb dX6_does_6 ?_
  refine lv_iconst (v := (1 : Int32)) hx hb dX6_does_7 (by decide) ?_
  refine lv_iadd hx hb dX6_does_8 ?_
  obtain ⟨g1, h⟩ := grd_some h
  refine va_iald hx hb hK hP 14 0 rfl rfl (inb_in g1) dX6_does_9 ?_
  refine lv_istore_n (lv' := [(2, .int (m_deed (((4 : Int32) * a1) + (1 : Int32)).toNatClampNeg)), (0, .ref (o 0)), (1, .int a1)]) hx hb dX6_does_10 rfl hl (by decide) rfl (fun ls hl => ?_)
  refine lv_aload_n hx hb dX6_does_11 rfl (lv_at hl 1 rfl) ?_
  refine va_get (D := D) (ci := 7) (v := .ref (o 14)) (C := RX6) (T := TX6) (N := 22) hx hb hts inlX6 hown hK hP 0 rfl rfl 21 (by decide) (hts _ q_4_18) (fun _ h9 => h9) rfl dX6_does_12 ?_
  refine lv_iconst (v := (4 : Int32)) hx hb dX6_does_15 (by decide) ?_
  refine lv_iload_n hx hb dX6_does_16 rfl (lv_at hl 2 rfl) ?_
  refine lv_imul hx hb dX6_does_17 ?_
  obtain ⟨g2, h⟩ := grd_some h
  refine va_iald hx hb hK hP 14 0 rfl rfl (inb_in g2) dX6_does_18 ?_
  by_cases c3 : (m_deed ((4 : Int32) * a1).toNatClampNeg) = (99 : Int32)
  · have h := ift c3 h
    refine lv_lookup (off := 45) (tgt := 64) hx hb dX6_does_19 (by decide) (by rw [c3]; decide) (by decide) ?_
    refine lv_aload_n hx hb dX6_does_64 rfl (lv_at hl 1 rfl) ?_
    refine lv_iload_n hx hb dX6_does_65 rfl (lv_at hl 0 rfl) ?_
    obtain ⟨q4, e4, h⟩ := bnd_some h
    refine f_call (As := [.int (m_deed (((4 : Int32) * a1) + (1 : Int32)).toNatClampNeg)]) (rest := []) (c_X6_count l D o cI cJ (m_deed (((4 : Int32) * a1) + (1 : Int32)).toNatClampNeg) m_s m_past m_kept m_spare m_paid m_pastPaid m_keptPaid m_sparePaid m_isKept m_pasts m_runs m_pad m_typed m_isStopped m_stop m_order m_best m_many m_bySets m_spot m_deeds m_deed q4 e4) B hK hDD hA hP hS rfl (va_recv hK hP (ci := 7) (q0 := 0) rfl rfl) k_X6_count q_27_1 rfl ⟨Nat.le_of_ble_eq_true rfl, Nat.le_of_ble_eq_true rfl⟩ ⟨Nat.le_refl _, Nat.le_refl _⟩ hl.1 rfl (Nat.le_of_ble_eq_true rfl) dX6_does_66 (fun H locs hP hS => ?_)
    obtain rfl := Option.some.inj h
    exact hret _ _ _ _ (vp_nar_int _) dX6_does_69 hP hS
  · have h := ifn c3 h
    by_cases c5 : (m_deed ((4 : Int32) * a1).toNatClampNeg) = (112 : Int32)
    · have h := ift c5 h
      refine lv_lookup (off := 39) (tgt := 58) hx hb dX6_does_19 (by decide) (by rw [c5]; decide) (by decide) ?_
      refine lv_aload_n hx hb dX6_does_58 rfl (lv_at hl 1 rfl) ?_
      refine lv_iload_n hx hb dX6_does_59 rfl (lv_at hl 0 rfl) ?_
      obtain ⟨q6, e6, h⟩ := bnd_some h
      refine f_call (As := [.int (m_deed (((4 : Int32) * a1) + (1 : Int32)).toNatClampNeg)]) (rest := []) (c_X6_pins l D o cI cJ (m_deed (((4 : Int32) * a1) + (1 : Int32)).toNatClampNeg) m_s m_past m_kept m_spare m_paid m_pastPaid m_keptPaid m_sparePaid m_isKept m_pasts m_runs m_pad m_typed m_isStopped m_stop m_order m_best m_many m_bySets m_spot m_deeds m_deed q6 e6) B hK hDD hA hP hS rfl (va_recv hK hP (ci := 7) (q0 := 0) rfl rfl) k_X6_pins q_26_21 rfl ⟨Nat.le_of_ble_eq_true rfl, Nat.le_of_ble_eq_true rfl⟩ ⟨Nat.le_refl _, Nat.le_refl _⟩ hl.1 rfl (Nat.le_of_ble_eq_true rfl) dX6_does_60 (fun H locs hP hS => ?_)
      obtain rfl := Option.some.inj h
      exact hret _ _ _ _ (vp_nar_int _) dX6_does_63 hP hS
    · have h := ifn c5 h
      by_cases c7 : (m_deed ((4 : Int32) * a1).toNatClampNeg) = (113 : Int32)
      · have h := ift c7 h
        refine lv_lookup (off := 33) (tgt := 52) hx hb dX6_does_19 (by decide) (by rw [c7]; decide) (by decide) ?_
        refine lv_aload_n hx hb dX6_does_52 rfl (lv_at hl 1 rfl) ?_
        refine lv_iload_n hx hb dX6_does_53 rfl (lv_at hl 0 rfl) ?_
        obtain ⟨q8, e8, h⟩ := bnd_some h
        refine f_call (As := [.int (m_deed (((4 : Int32) * a1) + (1 : Int32)).toNatClampNeg)]) (rest := []) (c_X6_run l D o cI cJ (m_deed (((4 : Int32) * a1) + (1 : Int32)).toNatClampNeg) m_s m_past m_kept m_spare m_paid m_pastPaid m_keptPaid m_sparePaid m_isKept m_pasts m_runs m_pad m_typed m_isStopped m_stop m_order m_best m_many m_bySets m_spot m_deeds m_deed q8 e8) B hK hDD hA hP hS rfl (va_recv hK hP (ci := 7) (q0 := 0) rfl rfl) k_X6_run q_26_20 rfl ⟨Nat.le_of_ble_eq_true rfl, Nat.le_of_ble_eq_true rfl⟩ ⟨Nat.le_refl _, Nat.le_refl _⟩ hl.1 rfl (Nat.le_of_ble_eq_true rfl) dX6_does_54 (fun H locs hP hS => ?_)
        obtain rfl := Option.some.inj h
        exact hret _ _ _ _ (vp_nar_int _) dX6_does_57 hP hS
      · have h := ifn c7 h
        refine lv_lookup (off := 51) (tgt := 70) hx hb dX6_does_19 (by decide) (by show Op.lookupswitch.offset [(99, 45), (112, 39), (113, 33)] 51 _ = _; rw [lv_osw (k := (99 : Int32)) c3 (by decide), lv_osw (k := (112 : Int32)) c5 (by decide), lv_osw (k := (113 : Int32)) c7 (by decide)]; rfl) (by decide) ?_
        refine lv_aload_n hx hb dX6_does_70 rfl (lv_at hl 1 rfl) ?_
        refine lv_iload_n hx hb dX6_does_71 rfl (lv_at hl 0 rfl) ?_
        refine lv_aload_n hx hb dX6_does_72 rfl (lv_at hl 1 rfl) ?_
        refine va_get (D := D) (ci := 7) (v := .ref (o 14)) (C := RX6) (T := TX6) (N := 22) hx hb hts inlX6 hown hK hP 0 rfl rfl 21 (by decide) (hts _ q_4_18) (fun _ h9 => h9) rfl dX6_does_73 ?_
        refine lv_iconst (v := (4 : Int32)) hx hb dX6_does_76 (by decide) ?_
        refine lv_iload_n hx hb dX6_does_77 rfl (lv_at hl 2 rfl) ?_
        refine lv_imul hx hb dX6_does_78 ?_
        refine lv_iconst (v := (2 : Int32)) hx hb dX6_does_79 (by decide) ?_
        refine lv_iadd hx hb dX6_does_80 ?_
        obtain ⟨g9, h⟩ := grd_some h
        refine va_iald hx hb hK hP 14 0 rfl rfl (inb_in g9) dX6_does_81 ?_
        obtain ⟨q10, e10, h⟩ := bnd_some h
        refine f_call (As := [.int (m_deed (((4 : Int32) * a1) + (1 : Int32)).toNatClampNeg), .int (m_deed (((4 : Int32) * a1) + (2 : Int32)).toNatClampNeg)]) (rest := []) (c_X6_rows l D o cI cJ (m_deed (((4 : Int32) * a1) + (1 : Int32)).toNatClampNeg) (m_deed (((4 : Int32) * a1) + (2 : Int32)).toNatClampNeg) m_s m_past m_kept m_spare m_paid m_pastPaid m_keptPaid m_sparePaid m_isKept m_pasts m_runs m_pad m_typed m_isStopped m_stop m_order m_best m_many m_bySets m_spot m_deeds m_deed q10 e10) B hK hDD hA hP hS rfl (va_recv hK hP (ci := 7) (q0 := 0) rfl rfl) k_X6_rows q_27_2 rfl ⟨Nat.le_of_ble_eq_true rfl, Nat.le_of_ble_eq_true rfl⟩ ⟨Nat.le_refl _, Nat.le_refl _⟩ hl.1 rfl (Nat.le_of_ble_eq_true rfl) dX6_does_82 (fun H locs hP hS => ?_)
        obtain rfl := Option.some.inj h
        exact hret _ _ _ _ (vp_nar_int _) dX6_does_85 hP hS

def f_X6_carryOut_J62  (m_pad : Nat → Int32) (k33 : Int32 → (Nat → Int32) → (Nat → Int32) → (Nat → Int64) → (Nat → Int64) → Int32 → Int32 → Int32 → Int32 → (Nat → Int32) → (Nat → Int32) → (Nat → Int32) → Int32 → Int32 → Int32 → (Nat → Int32) → Option (Int32 × (Nat → Int32) × (Nat → Int32) × (Nat → Int64) × (Nat → Int64) × (Int32) × (Int32) × (Int32) × (Int32) × (Nat → Int32) × (Nat → Int32) × (Nat → Int32) × (Int32) × (Int32) × (Int32) × (Nat → Int32))) (x1 : Int32) (t1 : Int32) (m_s : Nat → Int32) (m_past : Nat → Int32) (m_paid : Nat → Int64) (m_pastPaid : Nat → Int64) (m_pasts : Int32) (m_runs : Int32) (m_typed : Int32) (m_isStopped : Int32) (m_stop : Nat → Int32) (m_order : Nat → Int32) (m_best : Nat → Int32) (m_many : Int32) (m_spot : Int32) (m_deeds : Int32) (m_deed : Nat → Int32) : Option (Int32 × (Nat → Int32) × (Nat → Int32) × (Nat → Int64) × (Nat → Int64) × (Int32) × (Int32) × (Int32) × (Int32) × (Nat → Int32) × (Nat → Int32) × (Nat → Int32) × (Int32) × (Int32) × (Int32) × (Nat → Int32)) :=
  grd (isB t1) (grd (inb (0 : Int32) 2) (grd (inb (((4 : Int32) * x1) + (3 : Int32)) 124) (grd (inb (1 : Int32) 2) (if t1 = (0 : Int32) then k33 (x1 + (1 : Int32)) m_s m_past m_paid m_pastPaid m_pasts m_runs m_typed t1 (upd (upd m_stop (0 : Int32).toNatClampNeg x1) (1 : Int32).toNatClampNeg (m_deed (((4 : Int32) * x1) + (3 : Int32)).toNatClampNeg)) m_order m_best m_many m_spot m_deeds m_deed
  else k33 (x1 + (0 : Int32)) m_s m_past m_paid m_pastPaid m_pasts m_runs m_typed t1 (upd (upd m_stop (0 : Int32).toNatClampNeg x1) (1 : Int32).toNatClampNeg (m_deed (((4 : Int32) * x1) + (3 : Int32)).toNatClampNeg)) m_order m_best m_many m_spot m_deeds m_deed))))
def f_X6_carryOut_L33b  (m_pad : Nat → Int32)  (k33 : Int32 → (Nat → Int32) → (Nat → Int32) → (Nat → Int64) → (Nat → Int64) → Int32 → Int32 → Int32 → Int32 → (Nat → Int32) → (Nat → Int32) → (Nat → Int32) → Int32 → Int32 → Int32 → (Nat → Int32) → Option (Int32 × (Nat → Int32) × (Nat → Int32) × (Nat → Int64) × (Nat → Int64) × (Int32) × (Int32) × (Int32) × (Int32) × (Nat → Int32) × (Nat → Int32) × (Nat → Int32) × (Int32) × (Int32) × (Int32) × (Nat → Int32))) (x1 : Int32) (m_s : Nat → Int32) (m_past : Nat → Int32) (m_paid : Nat → Int64) (m_pastPaid : Nat → Int64) (m_pasts : Int32) (m_runs : Int32) (m_typed : Int32) (m_isStopped : Int32) (m_stop : Nat → Int32) (m_order : Nat → Int32) (m_best : Nat → Int32) (m_many : Int32) (m_spot : Int32) (m_deeds : Int32) (m_deed : Nat → Int32) : Option (Int32 × (Nat → Int32) × (Nat → Int32) × (Nat → Int64) × (Nat → Int64) × (Int32) × (Int32) × (Int32) × (Int32) × (Nat → Int32) × (Nat → Int32) × (Nat → Int32) × (Int32) × (Int32) × (Int32) × (Nat → Int32)) :=
  if m_deeds ≤ x1 then some (x1, m_s, m_past, m_paid, m_pastPaid, m_pasts, (0 : Int32), m_typed, m_isStopped, m_stop, m_order, m_best, m_many, m_spot, m_deeds, m_deed)
  else if m_isStopped = (0 : Int32) then bnd (f_X6_does x1 m_s m_past m_paid m_pastPaid m_pasts m_runs m_order m_best m_many m_deed) (fun q6 => if (0 : Int32) ≤ q6.1 then f_X6_carryOut_J62 m_pad k33 x1 (0 : Int32) q6.2.1 q6.2.2.1 q6.2.2.2.1 q6.2.2.2.2.1 q6.2.2.2.2.2.1 m_runs m_typed m_isStopped m_stop q6.2.2.2.2.2.2.1 q6.2.2.2.2.2.2.2.1 q6.2.2.2.2.2.2.2.2 m_spot m_deeds m_deed
  else f_X6_carryOut_J62 m_pad k33 x1 (1 : Int32) q6.2.1 q6.2.2.1 q6.2.2.2.1 q6.2.2.2.2.1 q6.2.2.2.2.2.1 m_runs m_typed m_isStopped m_stop q6.2.2.2.2.2.2.1 q6.2.2.2.2.2.2.2.1 q6.2.2.2.2.2.2.2.2 m_spot m_deeds m_deed)
  else some (x1, m_s, m_past, m_paid, m_pastPaid, m_pasts, (0 : Int32), m_typed, m_isStopped, m_stop, m_order, m_best, m_many, m_spot, m_deeds, m_deed)
def f_X6_carryOut_L33  (m_pad : Nat → Int32)  : Nat → Int32 → (Nat → Int32) → (Nat → Int32) → (Nat → Int64) → (Nat → Int64) → Int32 → Int32 → Int32 → Int32 → (Nat → Int32) → (Nat → Int32) → (Nat → Int32) → Int32 → Int32 → Int32 → (Nat → Int32) → Option (Int32 × (Nat → Int32) × (Nat → Int32) × (Nat → Int64) × (Nat → Int64) × (Int32) × (Int32) × (Int32) × (Int32) × (Nat → Int32) × (Nat → Int32) × (Nat → Int32) × (Int32) × (Int32) × (Int32) × (Nat → Int32))
  | 0 => fun _ _ _ _ _ _ _ _ _ _ _ _ _ _ _ _ => none
  | n + 1 => f_X6_carryOut_L33b m_pad  (f_X6_carryOut_L33 m_pad  n)
def f_X6_carryOut  (m_s : Nat → Int32) (m_past : Nat → Int32) (m_paid : Nat → Int64) (m_pastPaid : Nat → Int64) (m_pasts : Int32) (m_runs : Int32) (m_pad : Nat → Int32) (m_typed : Int32) (m_isStopped : Int32) (m_stop : Nat → Int32) (m_order : Nat → Int32) (m_best : Nat → Int32) (m_many : Int32) (m_spot : Int32) (m_deeds : Int32) (m_deed : Nat → Int32) : Option (Int32 × (Nat → Int32) × (Nat → Int32) × (Nat → Int64) × (Nat → Int64) × (Int32) × (Int32) × (Int32) × (Int32) × (Nat → Int32) × (Nat → Int32) × (Nat → Int32) × (Int32) × (Int32) × (Int32) × (Nat → Int32)) :=
  bnd (f_X6_fault  m_pad m_typed m_spot m_deeds m_deed) (fun q1 => if q1.1 = (-4 : Int32) then bnd (f_X6_changes  m_s m_past m_paid m_pastPaid m_pasts m_runs) (fun q3 => f_X6_carryOut_L33 m_pad  1024 (0 : Int32) m_s q3.1 m_paid q3.2.1 q3.2.2 (1 : Int32) (0 : Int32) (0 : Int32) m_stop m_order m_best m_many q1.2.1 q1.2.2.1 q1.2.2.2)
  else some ((-2 : Int32), m_s, m_past, m_paid, m_pastPaid, m_pasts, m_runs, m_typed, m_isStopped, m_stop, m_order, m_best, m_many, q1.2.1, q1.2.2.1, q1.2.2.2))
set_option maxRecDepth 100000 in
set_option maxHeartbeats 4000000 in
theorem c_X6_carryOut (l : Launch) (D : va_G) (o : Nat → Nat) (cI cJ : ClassId)  (m_s : Nat → Int32) (m_past : Nat → Int32) (m_kept : Nat → Int32) (m_spare : Nat → Int32) (m_paid : Nat → Int64) (m_pastPaid : Nat → Int64) (m_keptPaid : Nat → Int64) (m_sparePaid : Nat → Int64) (m_isKept : Int32) (m_pasts : Int32) (m_runs : Int32) (m_pad : Nat → Int32) (m_typed : Int32) (m_isStopped : Int32) (m_stop : Nat → Int32) (m_order : Nat → Int32) (m_best : Nat → Int32) (m_many : Int32) (m_bySets : Nat → Int64) (m_spot : Int32) (m_deeds : Int32) (m_deed : Nat → Int32) (q : Int32 × (Nat → Int32) × (Nat → Int32) × (Nat → Int64) × (Nat → Int64) × (Int32) × (Int32) × (Int32) × (Int32) × (Nat → Int32) × (Nat → Int32) × (Nat → Int32) × (Int32) × (Int32) × (Int32) × (Nat → Int32)) (h : f_X6_carryOut  m_s m_past m_paid m_pastPaid m_pasts m_runs m_pad m_typed m_isStopped m_stop m_order m_best m_many m_spot m_deeds m_deed = some q) : CF l yX6_carryOut cX6_carryOut 2 7 (some .int) D (tysMW cI cJ) [.ref (o 0)] (some (.int q.1)) (MW o cI cJ m_s m_past m_kept m_spare m_paid m_pastPaid m_keptPaid m_sparePaid m_isKept m_pasts m_runs m_pad m_typed m_isStopped m_stop m_order m_best m_many m_bySets m_spot m_deeds m_deed) (MW o cI cJ q.2.1 q.2.2.1 m_kept m_spare q.2.2.2.1 q.2.2.2.2.1 m_keptPaid m_sparePaid m_isKept q.2.2.2.2.2.1 q.2.2.2.2.2.2.1 m_pad q.2.2.2.2.2.2.2.1 q.2.2.2.2.2.2.2.2.1 q.2.2.2.2.2.2.2.2.2.1 q.2.2.2.2.2.2.2.2.2.2.1 q.2.2.2.2.2.2.2.2.2.2.2.1 q.2.2.2.2.2.2.2.2.2.2.2.2.1 m_bySets q.2.2.2.2.2.2.2.2.2.2.2.2.2.1 q.2.2.2.2.2.2.2.2.2.2.2.2.2.2.1 q.2.2.2.2.2.2.2.2.2.2.2.2.2.2.2) := by
  refine CF.mkI (by decide) (Nat.le_of_ble_eq_true rfl) ?_
  intro p e s m below meth c Q A B hK hDD hA hret hP hS ls hl
  have B0 := B
  obtain ⟨hx, hb, hml, hown, hts⟩ := B0
  have hl : lv_has ls 2 [(0, .ref (o 0))] := hl
  have hL33 : ∀ (n33 : Nat) (x1 : Int32) (m_s : Nat → Int32) (m_past : Nat → Int32) (m_paid : Nat → Int64) (m_pastPaid : Nat → Int64) (m_pasts : Int32) (m_runs : Int32) (m_typed : Int32) (m_isStopped : Int32) (m_stop : Nat → Int32) (m_order : Nat → Int32) (m_best : Nat → Int32) (m_many : Int32) (m_spot : Int32) (m_deeds : Int32) (m_deed : Nat → Int32) (ls : Array Slot) (H : Heap) (locs : List Loc), f_X6_carryOut_L33 m_pad  n33 x1 m_s m_past m_paid m_pastPaid m_pasts m_runs m_typed m_isStopped m_stop m_order m_best m_many m_spot m_deeds m_deed = some q → va_P D vwCl (MW o cI cJ m_s m_past m_kept m_spare m_paid m_pastPaid m_keptPaid m_sparePaid m_isKept m_pasts m_runs m_pad m_typed m_isStopped m_stop m_order m_best m_many m_bySets m_spot m_deeds m_deed) H → va_S A s.heap H locs → lv_has ls 2 [(0, .ref (o 0)), (1, .int x1)] → W p l e (rmF 7 0 0) s m ([.ref (o 0)] : List Value).toArray below meth c H locs 0 0 Q (F0 m 33 ls []) := by
    intro n33
    induction n33 with
    | zero =>
      intro x1 m_s m_past m_paid m_pastPaid m_pasts m_runs m_typed m_isStopped m_stop m_order m_best m_many m_spot m_deeds m_deed ls H locs h
      exact absurd (show (none : Option (Int32 × (Nat → Int32) × (Nat → Int32) × (Nat → Int64) × (Nat → Int64) × (Int32) × (Int32) × (Int32) × (Int32) × (Nat → Int32) × (Nat → Int32) × (Nat → Int32) × (Int32) × (Int32) × (Int32) × (Nat → Int32))) = some q from h) (by intro h; cases h)
    | succ n33 ih33 =>
      have hJ62 : ∀ (x1 : Int32) (t1 : Int32) (m_s : Nat → Int32) (m_past : Nat → Int32) (m_paid : Nat → Int64) (m_pastPaid : Nat → Int64) (m_pasts : Int32) (m_runs : Int32) (m_typed : Int32) (m_isStopped : Int32) (m_stop : Nat → Int32) (m_order : Nat → Int32) (m_best : Nat → Int32) (m_many : Int32) (m_spot : Int32) (m_deeds : Int32) (m_deed : Nat → Int32) (ls : Array Slot) (H : Heap) (locs : List Loc), f_X6_carryOut_J62 m_pad (f_X6_carryOut_L33 m_pad   n33) x1 t1 m_s m_past m_paid m_pastPaid m_pasts m_runs m_typed m_isStopped m_stop m_order m_best m_many m_spot m_deeds m_deed = some q → va_P D vwCl (MW o cI cJ m_s m_past m_kept m_spare m_paid m_pastPaid m_keptPaid m_sparePaid m_isKept m_pasts m_runs m_pad m_typed m_isStopped m_stop m_order m_best m_many m_bySets m_spot m_deeds m_deed) H → va_S A s.heap H locs → lv_has ls 2 [(0, .ref (o 0)), (1, .int x1)] → W p l e (rmF 7 0 0) s m ([.ref (o 0)] : List Value).toArray below meth c H locs 0 0 Q (F0 m 62 ls [.int t1, .ref (o 0)]) := by
        intro x1 t1 m_s m_past m_paid m_pastPaid m_pasts m_runs m_typed m_isStopped m_stop m_order m_best m_many m_spot m_deeds m_deed ls H locs h hP hS hl
        unfold f_X6_carryOut_J62 at h
        obtain ⟨g8, h⟩ := grd_some h
        refine va_put (D := D) (ci := 7) (v := .int t1) (ty := .boolean) (C := RX6) (T := TX6) (N := 22) hx hb hts inlX6 tyX6 tyX6_ok nmX6 hown hK hP (hDD _ rfl) hS 0 rfl rfl 13 (by decide) (hts _ q_26_14) (fun _ h9 => h9) rfl (by decide +kernel) (isB_nar g8) (isB_fit g8) (Nat.le_of_ble_eq_true rfl) dX6_carryOut_62 (fun H locs hP _ hS => ?_)
        have hP : va_P D vwCl (MW o cI cJ m_s m_past m_kept m_spare m_paid m_pastPaid m_keptPaid m_sparePaid m_isKept m_pasts m_runs m_pad m_typed t1 m_stop m_order m_best m_many m_bySets m_spot m_deeds m_deed) H := hP
        refine lv_aload_n hx hb dX6_carryOut_65 rfl (lv_at hl 0 rfl) ?_
        refine va_get (D := D) (ci := 7) (v := .ref (o 10)) (C := RX6) (T := TX6) (N := 22) hx hb hts inlX6 hown hK hP 0 rfl rfl 14 (by decide) (hts _ q_4_14) (fun _ h9 => h9) rfl dX6_carryOut_66 ?_
        refine lv_iconst (v := (0 : Int32)) hx hb dX6_carryOut_69 (by decide) ?_
        refine lv_iload_n hx hb dX6_carryOut_70 rfl (lv_at hl 1 rfl) ?_
        obtain ⟨g9, h⟩ := grd_some h
        refine va_iast hx hb hK hP (hDD _ rfl) hS 10 0 rfl rfl (inb_in g9) dX6_carryOut_71 (fun H locs hP _ hS => ?_)
        have hP : va_P D vwCl (MW o cI cJ m_s m_past m_kept m_spare m_paid m_pastPaid m_keptPaid m_sparePaid m_isKept m_pasts m_runs m_pad m_typed t1 (upd m_stop (0 : Int32).toNatClampNeg x1) m_order m_best m_many m_bySets m_spot m_deeds m_deed) H := hP
        refine lv_aload_n hx hb dX6_carryOut_72 rfl (lv_at hl 0 rfl) ?_
        refine va_get (D := D) (ci := 7) (v := .ref (o 10)) (C := RX6) (T := TX6) (N := 22) hx hb hts inlX6 hown hK hP 0 rfl rfl 14 (by decide) (hts _ q_4_14) (fun _ h9 => h9) rfl dX6_carryOut_73 ?_
        refine lv_iconst (v := (1 : Int32)) hx hb dX6_carryOut_76 (by decide) ?_
        refine lv_aload_n hx hb dX6_carryOut_77 rfl (lv_at hl 0 rfl) ?_
        refine va_get (D := D) (ci := 7) (v := .ref (o 14)) (C := RX6) (T := TX6) (N := 22) hx hb hts inlX6 hown hK hP 0 rfl rfl 21 (by decide) (hts _ q_4_18) (fun _ h9 => h9) rfl dX6_carryOut_78 ?_
        refine lv_iconst (v := (4 : Int32)) hx hb dX6_carryOut_81 (by decide) ?_
        refine lv_iload_n hx hb dX6_carryOut_82 rfl (lv_at hl 1 rfl) ?_
        refine lv_imul hx hb dX6_carryOut_83 ?_
        refine lv_iconst (v := (3 : Int32)) hx hb dX6_carryOut_84 (by decide) ?_
        refine lv_iadd hx hb dX6_carryOut_85 ?_
        obtain ⟨g10, h⟩ := grd_some h
        refine va_iald hx hb hK hP 14 0 rfl rfl (inb_in g10) dX6_carryOut_86 ?_
        obtain ⟨g11, h⟩ := grd_some h
        refine va_iast hx hb hK hP (hDD _ rfl) hS 10 0 rfl rfl (inb_in g11) dX6_carryOut_87 (fun H locs hP _ hS => ?_)
        have hP : va_P D vwCl (MW o cI cJ m_s m_past m_kept m_spare m_paid m_pastPaid m_keptPaid m_sparePaid m_isKept m_pasts m_runs m_pad m_typed t1 (upd (upd m_stop (0 : Int32).toNatClampNeg x1) (1 : Int32).toNatClampNeg (m_deed (((4 : Int32) * x1) + (3 : Int32)).toNatClampNeg)) m_order m_best m_many m_bySets m_spot m_deeds m_deed) H := hP
        refine lv_iload_n hx hb dX6_carryOut_88 rfl (lv_at hl 1 rfl) ?_
        refine lv_aload_n hx hb dX6_carryOut_89 rfl (lv_at hl 0 rfl) ?_
        refine va_get (D := D) (ci := 7) (v := .int t1) (C := RX6) (T := TX6) (N := 22) hx hb hts inlX6 hown hK hP 0 rfl rfl 13 (by decide) (hts _ q_26_14) (fun _ h9 => h9) rfl dX6_carryOut_90 ?_
        refine lv_if_eq (tgt := 100) hx hb dX6_carryOut_93 (by decide) (fun c12 => ?_) (fun c12 => ?_)
        · have h := ift c12 h
          refine lv_iconst (v := (1 : Int32)) hx hb dX6_carryOut_100 (by decide) ?_
          refine lv_iadd hx hb dX6_carryOut_101 ?_
          refine lv_istore_n (lv' := [(1, .int (x1 + (1 : Int32))), (0, .ref (o 0))]) hx hb dX6_carryOut_102 rfl hl (by decide) rfl (fun ls hl => ?_)
          refine lv_goto (tgt := 33) hx hb dX6_carryOut_103 (by decide) ?_
          exact ih33 (x1 + (1 : Int32)) m_s m_past m_paid m_pastPaid m_pasts m_runs m_typed t1 (upd (upd m_stop (0 : Int32).toNatClampNeg x1) (1 : Int32).toNatClampNeg (m_deed (((4 : Int32) * x1) + (3 : Int32)).toNatClampNeg)) m_order m_best m_many m_spot m_deeds m_deed _ _ _ h hP hS (lv_sub hl [1, 0] rfl)
        · have h := ifn c12 h
          refine lv_iconst (v := (0 : Int32)) hx hb dX6_carryOut_96 (by decide) ?_
          refine lv_goto (tgt := 101) hx hb dX6_carryOut_97 (by decide) ?_
          refine lv_iadd hx hb dX6_carryOut_101 ?_
          refine lv_istore_n (lv' := [(1, .int (x1 + (0 : Int32))), (0, .ref (o 0))]) hx hb dX6_carryOut_102 rfl hl (by decide) rfl (fun ls hl => ?_)
          refine lv_goto (tgt := 33) hx hb dX6_carryOut_103 (by decide) ?_
          exact ih33 (x1 + (0 : Int32)) m_s m_past m_paid m_pastPaid m_pasts m_runs m_typed t1 (upd (upd m_stop (0 : Int32).toNatClampNeg x1) (1 : Int32).toNatClampNeg (m_deed (((4 : Int32) * x1) + (3 : Int32)).toNatClampNeg)) m_order m_best m_many m_spot m_deeds m_deed _ _ _ h hP hS (lv_sub hl [1, 0] rfl)
      intro x1 m_s m_past m_paid m_pastPaid m_pasts m_runs m_typed m_isStopped m_stop m_order m_best m_many m_spot m_deeds m_deed ls H locs h hP hS hl
      have h : f_X6_carryOut_L33b m_pad  (f_X6_carryOut_L33 m_pad  n33) x1 m_s m_past m_paid m_pastPaid m_pasts m_runs m_typed m_isStopped m_stop m_order m_best m_many m_spot m_deeds m_deed = some q := h
      unfold f_X6_carryOut_L33b at h
      refine lv_iload_n hx hb dX6_carryOut_33 rfl (lv_at hl 1 rfl) ?_
      refine lv_aload_n hx hb dX6_carryOut_34 rfl (lv_at hl 0 rfl) ?_
      refine va_get (D := D) (ci := 7) (v := .int m_deeds) (C := RX6) (T := TX6) (N := 22) hx hb hts inlX6 hown hK hP 0 rfl rfl 20 (by decide) (hts _ q_24_18) (fun _ h9 => h9) rfl dX6_carryOut_35 ?_
      refine lv_icmp_ge (tgt := 106) hx hb dX6_carryOut_38 (by decide) (fun c4 => ?_) (fun c4 => ?_)
      · have h := ift c4 h
        refine lv_aload_n hx hb dX6_carryOut_106 rfl (lv_at hl 0 rfl) ?_
        refine lv_iconst (v := (0 : Int32)) hx hb dX6_carryOut_107 (by decide) ?_
        refine va_put (D := D) (ci := 7) (v := .int (0 : Int32)) (ty := .boolean) (C := RX6) (T := TX6) (N := 22) hx hb hts inlX6 tyX6 tyX6_ok nmX6 hown hK hP (hDD _ rfl) hS 0 rfl rfl 10 (by decide) (hts _ q_9_22) (fun _ h9 => h9) rfl (by decide +kernel) rfl rfl (Nat.le_of_ble_eq_true rfl) dX6_carryOut_108 (fun H locs hP _ hS => ?_)
        have hP : va_P D vwCl (MW o cI cJ m_s m_past m_kept m_spare m_paid m_pastPaid m_keptPaid m_sparePaid m_isKept m_pasts (0 : Int32) m_pad m_typed m_isStopped m_stop m_order m_best m_many m_bySets m_spot m_deeds m_deed) H := hP
        refine lv_iload_n hx hb dX6_carryOut_111 rfl (lv_at hl 1 rfl) ?_
        obtain rfl := Option.some.inj h
        exact hret _ _ _ _ (vp_nar_int _) dX6_carryOut_112 hP hS
      · have h := ifn c4 h
        refine lv_aload_n hx hb dX6_carryOut_41 rfl (lv_at hl 0 rfl) ?_
        refine va_get (D := D) (ci := 7) (v := .int m_isStopped) (C := RX6) (T := TX6) (N := 22) hx hb hts inlX6 hown hK hP 0 rfl rfl 13 (by decide) (hts _ q_26_14) (fun _ h9 => h9) rfl dX6_carryOut_42 ?_
        refine lv_if_ne (tgt := 106) hx hb dX6_carryOut_45 (by decide) (fun c5 => ?_) (fun c5 => ?_)
        · have h := ifn c5 h
          refine lv_aload_n hx hb dX6_carryOut_106 rfl (lv_at hl 0 rfl) ?_
          refine lv_iconst (v := (0 : Int32)) hx hb dX6_carryOut_107 (by decide) ?_
          refine va_put (D := D) (ci := 7) (v := .int (0 : Int32)) (ty := .boolean) (C := RX6) (T := TX6) (N := 22) hx hb hts inlX6 tyX6 tyX6_ok nmX6 hown hK hP (hDD _ rfl) hS 0 rfl rfl 10 (by decide) (hts _ q_9_22) (fun _ h9 => h9) rfl (by decide +kernel) rfl rfl (Nat.le_of_ble_eq_true rfl) dX6_carryOut_108 (fun H locs hP _ hS => ?_)
          have hP : va_P D vwCl (MW o cI cJ m_s m_past m_kept m_spare m_paid m_pastPaid m_keptPaid m_sparePaid m_isKept m_pasts (0 : Int32) m_pad m_typed m_isStopped m_stop m_order m_best m_many m_bySets m_spot m_deeds m_deed) H := hP
          refine lv_iload_n hx hb dX6_carryOut_111 rfl (lv_at hl 1 rfl) ?_
          obtain rfl := Option.some.inj h
          exact hret _ _ _ _ (vp_nar_int _) dX6_carryOut_112 hP hS
        · have h := ift c5 h
          refine lv_aload_n hx hb dX6_carryOut_48 rfl (lv_at hl 0 rfl) ?_
          refine lv_aload_n hx hb dX6_carryOut_49 rfl (lv_at hl 0 rfl) ?_
          refine lv_iload_n hx hb dX6_carryOut_50 rfl (lv_at hl 1 rfl) ?_
          obtain ⟨q6, e6, h⟩ := bnd_some h
          refine f_call (As := [.int x1]) (rest := [.ref (o 0)]) (c_X6_does l D o cI cJ x1 m_s m_past m_kept m_spare m_paid m_pastPaid m_keptPaid m_sparePaid m_isKept m_pasts m_runs m_pad m_typed m_isStopped m_stop m_order m_best m_many m_bySets m_spot m_deeds m_deed q6 e6) B hK hDD hA hP hS rfl (va_recv hK hP (ci := 7) (q0 := 0) rfl rfl) k_X6_does q_26_16 rfl ⟨Nat.le_of_ble_eq_true rfl, Nat.le_of_ble_eq_true rfl⟩ ⟨Nat.le_refl _, Nat.le_refl _⟩ hl.1 rfl (Nat.le_of_ble_eq_true rfl) dX6_carryOut_51 (fun H locs hP hS => ?_)
          refine lv_if_ge (tgt := 61) hx hb dX6_carryOut_54 (by decide) (fun c7 => ?_) (fun c7 => ?_)
          · have h := ift c7 h
            refine lv_iconst (v := (0 : Int32)) hx hb dX6_carryOut_61 (by decide) ?_
            exact hJ62 x1 (0 : Int32) q6.2.1 q6.2.2.1 q6.2.2.2.1 q6.2.2.2.2.1 q6.2.2.2.2.2.1 m_runs m_typed m_isStopped m_stop q6.2.2.2.2.2.2.1 q6.2.2.2.2.2.2.2.1 q6.2.2.2.2.2.2.2.2 m_spot m_deeds m_deed _ _ _ h hP hS (lv_sub hl [0, 1] rfl)
          · have h := ifn c7 h
            refine lv_iconst (v := (1 : Int32)) hx hb dX6_carryOut_57 (by decide) ?_
            refine lv_goto (tgt := 62) hx hb dX6_carryOut_58 (by decide) ?_
            exact hJ62 x1 (1 : Int32) q6.2.1 q6.2.2.1 q6.2.2.2.1 q6.2.2.2.2.1 q6.2.2.2.2.2.1 m_runs m_typed m_isStopped m_stop q6.2.2.2.2.2.2.1 q6.2.2.2.2.2.2.2.1 q6.2.2.2.2.2.2.2.2 m_spot m_deeds m_deed _ _ _ h hP hS (lv_sub hl [0, 1] rfl)
  unfold f_X6_carryOut at h
  refine lv_aload_n hx hb dX6_carryOut_0 rfl (lv_at hl 0 rfl) ?_
  obtain ⟨q1, e1, h⟩ := bnd_some h
  refine f_call (As := []) (rest := []) (c_X6_fault l D o cI cJ  m_s m_past m_kept m_spare m_paid m_pastPaid m_keptPaid m_sparePaid m_isKept m_pasts m_runs m_pad m_typed m_isStopped m_stop m_order m_best m_many m_bySets m_spot m_deeds m_deed q1 e1) B hK hDD hA hP hS rfl (va_recv hK hP (ci := 7) (q0 := 0) rfl rfl) k_X6_fault q_26_15 rfl ⟨Nat.le_of_ble_eq_true rfl, Nat.le_of_ble_eq_true rfl⟩ ⟨Nat.le_refl _, Nat.le_refl _⟩ hl.1 rfl (Nat.le_of_ble_eq_true rfl) dX6_carryOut_1 (fun H locs hP hS => ?_)
  refine lv_bipush (v := (-4 : Int32)) hx hb dX6_carryOut_4 (by decide) ?_
  refine lv_icmp_eq (tgt := 12) hx hb dX6_carryOut_6 (by decide) (fun c2 => ?_) (fun c2 => ?_)
  · have h := ift c2 h
    refine lv_aload_n hx hb dX6_carryOut_12 rfl (lv_at hl 0 rfl) ?_
    obtain ⟨q3, e3, h⟩ := bnd_some h
    refine f_call (As := []) (rest := []) (c_X6_changes l D o cI cJ  m_s m_past m_kept m_spare m_paid m_pastPaid m_keptPaid m_sparePaid m_isKept m_pasts m_runs m_pad m_typed m_isStopped m_stop m_order m_best m_many m_bySets q1.2.1 q1.2.2.1 q1.2.2.2 q3 e3) B hK hDD hA hP hS rfl (va_recv hK hP (ci := 7) (q0 := 0) rfl rfl) k_X6_changes q_9_18 rfl ⟨Nat.le_of_ble_eq_true rfl, Nat.le_of_ble_eq_true rfl⟩ ⟨Nat.le_refl _, Nat.le_refl _⟩ hl.1 rfl (Nat.le_of_ble_eq_true rfl) dX6_carryOut_13 (fun H locs hP hS => ?_)
    refine lv_aload_n hx hb dX6_carryOut_16 rfl (lv_at hl 0 rfl) ?_
    refine lv_iconst (v := (0 : Int32)) hx hb dX6_carryOut_17 (by decide) ?_
    refine va_put (D := D) (ci := 7) (v := .int (0 : Int32)) (ty := .int) (C := RX6) (T := TX6) (N := 22) hx hb hts inlX6 tyX6 tyX6_ok nmX6 hown hK hP (hDD _ rfl) hS 0 rfl rfl 12 (by decide) (hts _ q_22_1) (fun _ h9 => h9) rfl (by decide +kernel) rfl rfl (Nat.le_of_ble_eq_true rfl) dX6_carryOut_18 (fun H locs hP _ hS => ?_)
    have hP : va_P D vwCl (MW o cI cJ m_s q3.1 m_kept m_spare m_paid q3.2.1 m_keptPaid m_sparePaid m_isKept q3.2.2 m_runs m_pad (0 : Int32) m_isStopped m_stop m_order m_best m_many m_bySets q1.2.1 q1.2.2.1 q1.2.2.2) H := hP
    refine lv_aload_n hx hb dX6_carryOut_21 rfl (lv_at hl 0 rfl) ?_
    refine lv_iconst (v := (1 : Int32)) hx hb dX6_carryOut_22 (by decide) ?_
    refine va_put (D := D) (ci := 7) (v := .int (1 : Int32)) (ty := .boolean) (C := RX6) (T := TX6) (N := 22) hx hb hts inlX6 tyX6 tyX6_ok nmX6 hown hK hP (hDD _ rfl) hS 0 rfl rfl 10 (by decide) (hts _ q_9_22) (fun _ h9 => h9) rfl (by decide +kernel) rfl rfl (Nat.le_of_ble_eq_true rfl) dX6_carryOut_23 (fun H locs hP _ hS => ?_)
    have hP : va_P D vwCl (MW o cI cJ m_s q3.1 m_kept m_spare m_paid q3.2.1 m_keptPaid m_sparePaid m_isKept q3.2.2 (1 : Int32) m_pad (0 : Int32) m_isStopped m_stop m_order m_best m_many m_bySets q1.2.1 q1.2.2.1 q1.2.2.2) H := hP
    refine lv_aload_n hx hb dX6_carryOut_26 rfl (lv_at hl 0 rfl) ?_
    refine lv_iconst (v := (0 : Int32)) hx hb dX6_carryOut_27 (by decide) ?_
    refine va_put (D := D) (ci := 7) (v := .int (0 : Int32)) (ty := .boolean) (C := RX6) (T := TX6) (N := 22) hx hb hts inlX6 tyX6 tyX6_ok nmX6 hown hK hP (hDD _ rfl) hS 0 rfl rfl 13 (by decide) (hts _ q_26_14) (fun _ h9 => h9) rfl (by decide +kernel) rfl rfl (Nat.le_of_ble_eq_true rfl) dX6_carryOut_28 (fun H locs hP _ hS => ?_)
    have hP : va_P D vwCl (MW o cI cJ m_s q3.1 m_kept m_spare m_paid q3.2.1 m_keptPaid m_sparePaid m_isKept q3.2.2 (1 : Int32) m_pad (0 : Int32) (0 : Int32) m_stop m_order m_best m_many m_bySets q1.2.1 q1.2.2.1 q1.2.2.2) H := hP
    refine lv_iconst (v := (0 : Int32)) hx hb dX6_carryOut_31 (by decide) ?_
    refine lv_istore_n (lv' := [(1, .int (0 : Int32)), (0, .ref (o 0))]) hx hb dX6_carryOut_32 rfl hl (by decide) rfl (fun ls hl => ?_)
    exact hL33 1024 (0 : Int32) m_s q3.1 m_paid q3.2.1 q3.2.2 (1 : Int32) (0 : Int32) (0 : Int32) m_stop m_order m_best m_many q1.2.1 q1.2.2.1 q1.2.2.2 _ _ _ h hP hS (lv_sub hl [1, 0] rfl)
  · have h := ifn c2 h
    refine lv_bipush (v := (-2 : Int32)) hx hb dX6_carryOut_9 (by decide) ?_
    obtain rfl := Option.some.inj h
    exact hret _ _ _ _ (vp_nar_int _) dX6_carryOut_11 hP hS

def f_X6_why (a1 : Int32) (m_isStopped : Int32) (m_stop : Nat → Int32) : Option (Int32) :=
  bnd (f_X6_in a1 (0 : Int32) (1 : Int32) ) (fun q1 => if q1 = (0 : Int32) then some (-1 : Int32)
  else if m_isStopped = (0 : Int32) then some (-4 : Int32)
  else grd (inb a1 2) (some (m_stop a1.toNatClampNeg)))
set_option maxRecDepth 100000 in
set_option maxHeartbeats 4000000 in
theorem c_X6_why (l : Launch) (D : va_G) (o : Nat → Nat) (cI cJ : ClassId) (a1 : Int32) (m_s : Nat → Int32) (m_past : Nat → Int32) (m_kept : Nat → Int32) (m_spare : Nat → Int32) (m_paid : Nat → Int64) (m_pastPaid : Nat → Int64) (m_keptPaid : Nat → Int64) (m_sparePaid : Nat → Int64) (m_isKept : Int32) (m_pasts : Int32) (m_runs : Int32) (m_pad : Nat → Int32) (m_typed : Int32) (m_isStopped : Int32) (m_stop : Nat → Int32) (m_order : Nat → Int32) (m_best : Nat → Int32) (m_many : Int32) (m_bySets : Nat → Int64) (m_spot : Int32) (m_deeds : Int32) (m_deed : Nat → Int32) (q : Int32) (h : f_X6_why a1 m_isStopped m_stop = some q) : CF l yX6_why cX6_why 2 1 (some .int) D (tysMW cI cJ) [.ref (o 0), .int a1] (some (.int q)) (MW o cI cJ m_s m_past m_kept m_spare m_paid m_pastPaid m_keptPaid m_sparePaid m_isKept m_pasts m_runs m_pad m_typed m_isStopped m_stop m_order m_best m_many m_bySets m_spot m_deeds m_deed) (MW o cI cJ m_s m_past m_kept m_spare m_paid m_pastPaid m_keptPaid m_sparePaid m_isKept m_pasts m_runs m_pad m_typed m_isStopped m_stop m_order m_best m_many m_bySets m_spot m_deeds m_deed) := by
  refine CF.mkI (by decide) (Nat.le_of_ble_eq_true rfl) ?_
  intro p e s m below meth c Q A B hK hDD hA hret hP hS ls hl
  have B0 := B
  obtain ⟨hx, hb, hml, hown, hts⟩ := B0
  have hl : lv_has ls 2 [(0, .ref (o 0)), (1, .int a1)] := hl
  unfold f_X6_why at h
  refine lv_iload_n hx hb dX6_why_0 rfl (lv_at hl 1 rfl) ?_
  refine lv_iconst (v := (0 : Int32)) hx hb dX6_why_1 (by decide) ?_
  refine lv_iconst (v := (1 : Int32)) hx hb dX6_why_2 (by decide) ?_
  obtain ⟨q1, e1, h⟩ := bnd_some h
  refine s_call (As := [.int a1, .int (0 : Int32), .int (1 : Int32)]) (rest := []) (c_X6_in l a1 (0 : Int32) (1 : Int32) q1 e1) B k_X6_in q_9_15 rfl ⟨Nat.le_of_ble_eq_true rfl, Nat.le_of_ble_eq_true rfl⟩ ⟨Nat.le_refl _, Nat.le_refl _⟩ hl.1 rfl (Nat.le_of_ble_eq_true rfl) dX6_why_3 ?_
  refine lv_if_ne (tgt := 13) hx hb dX6_why_6 (by decide) (fun c2 => ?_) (fun c2 => ?_)
  · have h := ifn c2 h
    refine lv_aload_n hx hb dX6_why_13 rfl (lv_at hl 0 rfl) ?_
    refine va_get (D := D) (ci := 7) (v := .int m_isStopped) (C := RX6) (T := TX6) (N := 22) hx hb hts inlX6 hown hK hP 0 rfl rfl 13 (by decide) (hts _ q_26_14) (fun _ h9 => h9) rfl dX6_why_14 ?_
    refine lv_if_eq (tgt := 29) hx hb dX6_why_17 (by decide) (fun c3 => ?_) (fun c3 => ?_)
    · have h := ift c3 h
      refine lv_bipush (v := (-4 : Int32)) hx hb dX6_why_29 (by decide) ?_
      obtain rfl := Option.some.inj h
      exact hret _ _ _ _ (vp_nar_int _) dX6_why_31 hP hS
    · have h := ifn c3 h
      refine lv_aload_n hx hb dX6_why_20 rfl (lv_at hl 0 rfl) ?_
      refine va_get (D := D) (ci := 7) (v := .ref (o 10)) (C := RX6) (T := TX6) (N := 22) hx hb hts inlX6 hown hK hP 0 rfl rfl 14 (by decide) (hts _ q_4_14) (fun _ h9 => h9) rfl dX6_why_21 ?_
      refine lv_iload_n hx hb dX6_why_24 rfl (lv_at hl 1 rfl) ?_
      obtain ⟨g4, h⟩ := grd_some h
      refine va_iald hx hb hK hP 10 0 rfl rfl (inb_in g4) dX6_why_25 ?_
      refine lv_goto (tgt := 31) hx hb dX6_why_26 (by decide) ?_
      obtain rfl := Option.some.inj h
      exact hret _ _ _ _ (vp_nar_int _) dX6_why_31 hP hS
  · have h := ift c2 h
    refine lv_iconst (v := (-1 : Int32)) hx hb dX6_why_9 (by decide) ?_
    refine lv_goto (tgt := 31) hx hb dX6_why_10 (by decide) ?_
    obtain rfl := Option.some.inj h
    exact hret _ _ _ _ (vp_nar_int _) dX6_why_31 hP hS

def f_X6_plansWith_L4b (a1 : Int32) (m_s : Nat → Int32)  (k4 : Int32 → Int32 → Option (Int32)) (x2 : Int32) (x3 : Int32) : Option (Int32) :=
  if (4 : Int32) ≤ x3 then some x2
  else bnd (f_X6_at x3 ) (fun q2 => grd (inb q2 100) (k4 (x2 + (((m_s q2.toNatClampNeg) >>> (a1 &&& 31)) &&& (1 : Int32))) (x3 + (1 : Int32))))
def f_X6_plansWith_L4 (a1 : Int32) (m_s : Nat → Int32)  : Nat → Int32 → Int32 → Option (Int32)
  | 0 => fun _ _ => none
  | n + 1 => f_X6_plansWith_L4b a1 m_s  (f_X6_plansWith_L4 a1 m_s  n)
def f_X6_plansWith (a1 : Int32) (m_s : Nat → Int32) : Option (Int32) :=
  f_X6_plansWith_L4 a1 m_s  1024 (0 : Int32) (0 : Int32)
set_option maxRecDepth 100000 in
set_option maxHeartbeats 4000000 in
theorem c_X6_plansWith (l : Launch) (D : va_G) (o : Nat → Nat) (cI cJ : ClassId) (a1 : Int32) (m_s : Nat → Int32) (m_past : Nat → Int32) (m_kept : Nat → Int32) (m_spare : Nat → Int32) (m_paid : Nat → Int64) (m_pastPaid : Nat → Int64) (m_keptPaid : Nat → Int64) (m_sparePaid : Nat → Int64) (m_isKept : Int32) (m_pasts : Int32) (m_runs : Int32) (m_pad : Nat → Int32) (m_typed : Int32) (m_isStopped : Int32) (m_stop : Nat → Int32) (m_order : Nat → Int32) (m_best : Nat → Int32) (m_many : Int32) (m_bySets : Nat → Int64) (m_spot : Int32) (m_deeds : Int32) (m_deed : Nat → Int32) (q : Int32) (h : f_X6_plansWith a1 m_s = some q) : CF l yX6_plansWith cX6_plansWith 4 1 (some .int) D (tysMW cI cJ) [.ref (o 0), .int a1] (some (.int q)) (MW o cI cJ m_s m_past m_kept m_spare m_paid m_pastPaid m_keptPaid m_sparePaid m_isKept m_pasts m_runs m_pad m_typed m_isStopped m_stop m_order m_best m_many m_bySets m_spot m_deeds m_deed) (MW o cI cJ m_s m_past m_kept m_spare m_paid m_pastPaid m_keptPaid m_sparePaid m_isKept m_pasts m_runs m_pad m_typed m_isStopped m_stop m_order m_best m_many m_bySets m_spot m_deeds m_deed) := by
  refine CF.mkI (by decide) (Nat.le_of_ble_eq_true rfl) ?_
  intro p e s m below meth c Q A B hK hDD hA hret hP hS ls hl
  have B0 := B
  obtain ⟨hx, hb, hml, hown, hts⟩ := B0
  have hl : lv_has ls 4 [(0, .ref (o 0)), (1, .int a1)] := hl
  have hL4 : ∀ (n4 : Nat) (x2 : Int32) (x3 : Int32) (ls : Array Slot) (H : Heap) (locs : List Loc), f_X6_plansWith_L4 a1 m_s  n4 x2 x3 = some q → va_P D vwCl (MW o cI cJ m_s m_past m_kept m_spare m_paid m_pastPaid m_keptPaid m_sparePaid m_isKept m_pasts m_runs m_pad m_typed m_isStopped m_stop m_order m_best m_many m_bySets m_spot m_deeds m_deed) H → va_S A s.heap H locs → lv_has ls 4 [(0, .ref (o 0)), (1, .int a1), (2, .int x2), (3, .int x3)] → W p l e (rmF 1 0 0) s m ([.ref (o 0), .int a1] : List Value).toArray below meth c H locs 0 0 Q (F0 m 4 ls []) := by
    intro n4
    induction n4 with
    | zero =>
      intro x2 x3 ls H locs h
      exact absurd (show (none : Option (Int32)) = some q from h) (by intro h; cases h)
    | succ n4 ih4 =>
      intro x2 x3 ls H locs h hP hS hl
      have h : f_X6_plansWith_L4b a1 m_s  (f_X6_plansWith_L4 a1 m_s  n4) x2 x3 = some q := h
      unfold f_X6_plansWith_L4b at h
      refine lv_iload_n hx hb dX6_plansWith_4 rfl (lv_at hl 3 rfl) ?_
      refine lv_iconst (v := (4 : Int32)) hx hb dX6_plansWith_5 (by decide) ?_
      refine lv_icmp_ge (tgt := 31) hx hb dX6_plansWith_6 (by decide) (fun c1 => ?_) (fun c1 => ?_)
      · have h := ift c1 h
        refine lv_iload_n hx hb dX6_plansWith_31 rfl (lv_at hl 2 rfl) ?_
        obtain rfl := Option.some.inj h
        exact hret _ _ _ _ (vp_nar_int _) dX6_plansWith_32 hP hS
      · have h := ifn c1 h
        refine lv_iload_n hx hb dX6_plansWith_9 rfl (lv_at hl 2 rfl) ?_
        refine lv_aload_n hx hb dX6_plansWith_10 rfl (lv_at hl 0 rfl) ?_
        refine va_get (D := D) (ci := 7) (v := .ref (o 1)) (C := RX6) (T := TX6) (N := 22) hx hb hts inlX6 hown hK hP 0 rfl rfl 0 (by decide) (hts _ q_4_5) (fun _ h9 => h9) rfl dX6_plansWith_11 ?_
        refine lv_iload_n hx hb dX6_plansWith_14 rfl (lv_at hl 3 rfl) ?_
        obtain ⟨q2, e2, h⟩ := bnd_some h
        refine s_call (As := [.int x3]) (rest := [.ref (o 1), .int x2]) (c_X6_at l x3 q2 e2) B k_X6_at q_11_4 rfl ⟨Nat.le_of_ble_eq_true rfl, Nat.le_of_ble_eq_true rfl⟩ ⟨Nat.le_refl _, Nat.le_refl _⟩ hl.1 rfl (Nat.le_of_ble_eq_true rfl) dX6_plansWith_15 ?_
        obtain ⟨g3, h⟩ := grd_some h
        refine va_iald hx hb hK hP 1 0 rfl rfl (inb_in g3) dX6_plansWith_18 ?_
        refine lv_iload_n hx hb dX6_plansWith_19 rfl (lv_at hl 1 rfl) ?_
        refine lv_ishr hx hb dX6_plansWith_20 ?_
        refine lv_iconst (v := (1 : Int32)) hx hb dX6_plansWith_21 (by decide) ?_
        refine lv_iand hx hb dX6_plansWith_22 ?_
        refine lv_iadd hx hb dX6_plansWith_23 ?_
        refine lv_istore_n (lv' := [(2, .int (x2 + (((m_s q2.toNatClampNeg) >>> (a1 &&& 31)) &&& (1 : Int32)))), (0, .ref (o 0)), (1, .int a1), (3, .int x3)]) hx hb dX6_plansWith_24 rfl hl (by decide) rfl (fun ls hl => ?_)
        refine lv_iinc (v := (x3 + (1 : Int32))) (lv' := [(3, .int (x3 + (1 : Int32))), (2, .int (x2 + (((m_s q2.toNatClampNeg) >>> (a1 &&& 31)) &&& (1 : Int32)))), (0, .ref (o 0)), (1, .int a1)]) hx hb dX6_plansWith_25 hl (k := 3) rfl (congrArg (HAdd.hAdd x3) (by decide)) (by decide) rfl (fun ls hl => ?_)
        refine lv_goto (tgt := 4) hx hb dX6_plansWith_28 (by decide) ?_
        exact ih4 (x2 + (((m_s q2.toNatClampNeg) >>> (a1 &&& 31)) &&& (1 : Int32))) (x3 + (1 : Int32)) _ _ _ h hP hS (lv_sub hl [2, 3, 1, 0] rfl)
  unfold f_X6_plansWith at h
  refine lv_iconst (v := (0 : Int32)) hx hb dX6_plansWith_0 (by decide) ?_
  refine lv_istore_n (lv' := [(2, .int (0 : Int32)), (0, .ref (o 0)), (1, .int a1)]) hx hb dX6_plansWith_1 rfl hl (by decide) rfl (fun ls hl => ?_)
  refine lv_iconst (v := (0 : Int32)) hx hb dX6_plansWith_2 (by decide) ?_
  refine lv_istore_n (lv' := [(3, .int (0 : Int32)), (2, .int (0 : Int32)), (0, .ref (o 0)), (1, .int a1)]) hx hb dX6_plansWith_3 rfl hl (by decide) rfl (fun ls hl => ?_)
  exact hL4 1024 (0 : Int32) (0 : Int32) _ _ _ h hP hS (lv_sub hl [2, 3, 1, 0] rfl)

def f_X6_table (a1 : Int32) (a2 : Int32) (m_s : Nat → Int32) : Option (Int32) :=
  bnd (f_X6_isTable a1 ) (fun q1 => if q1 = (0 : Int32) then some (-1 : Int32)
  else bnd (f_X6_in a2 (0 : Int32) (3 : Int32) ) (fun q3 => if q3 = (0 : Int32) then some (-1 : Int32)
  else grd (inb ((0 : Int32) + a1) 100) (grd (inb ((5 : Int32) + a1) 100) (if a2 = (3 : Int32) then bnd (f_X6_plansWith a1 m_s) (fun q13 => some q13)
  else if a2 = (0 : Int32) then some (m_s ((0 : Int32) + a1).toNatClampNeg)
  else if a2 = (1 : Int32) then some (m_s ((5 : Int32) + a1).toNatClampNeg)
  else if (m_s ((0 : Int32) + a1).toNatClampNeg) ≤ (m_s ((5 : Int32) + a1).toNatClampNeg) then grd (!decide ((m_s ((0 : Int32) + a1).toNatClampNeg) = 0)) (some (((100 : Int32) * (m_s ((5 : Int32) + a1).toNatClampNeg)) / (m_s ((0 : Int32) + a1).toNatClampNeg)))
  else grd (!decide ((m_s ((5 : Int32) + a1).toNatClampNeg) = 0)) (some (((100 : Int32) * (m_s ((0 : Int32) + a1).toNatClampNeg)) / (m_s ((5 : Int32) + a1).toNatClampNeg)))))))
set_option maxRecDepth 100000 in
set_option maxHeartbeats 4000000 in
theorem c_X6_table (l : Launch) (D : va_G) (o : Nat → Nat) (cI cJ : ClassId) (a1 : Int32) (a2 : Int32) (m_s : Nat → Int32) (m_past : Nat → Int32) (m_kept : Nat → Int32) (m_spare : Nat → Int32) (m_paid : Nat → Int64) (m_pastPaid : Nat → Int64) (m_keptPaid : Nat → Int64) (m_sparePaid : Nat → Int64) (m_isKept : Int32) (m_pasts : Int32) (m_runs : Int32) (m_pad : Nat → Int32) (m_typed : Int32) (m_isStopped : Int32) (m_stop : Nat → Int32) (m_order : Nat → Int32) (m_best : Nat → Int32) (m_many : Int32) (m_bySets : Nat → Int64) (m_spot : Int32) (m_deeds : Int32) (m_deed : Nat → Int32) (q : Int32) (h : f_X6_table a1 a2 m_s = some q) : CF l yX6_table cX6_table 5 2 (some .int) D (tysMW cI cJ) [.ref (o 0), .int a1, .int a2] (some (.int q)) (MW o cI cJ m_s m_past m_kept m_spare m_paid m_pastPaid m_keptPaid m_sparePaid m_isKept m_pasts m_runs m_pad m_typed m_isStopped m_stop m_order m_best m_many m_bySets m_spot m_deeds m_deed) (MW o cI cJ m_s m_past m_kept m_spare m_paid m_pastPaid m_keptPaid m_sparePaid m_isKept m_pasts m_runs m_pad m_typed m_isStopped m_stop m_order m_best m_many m_bySets m_spot m_deeds m_deed) := by
  refine CF.mkI (by decide) (Nat.le_of_ble_eq_true rfl) ?_
  intro p e s m below meth c Q A B hK hDD hA hret hP hS ls hl
  have B0 := B
  obtain ⟨hx, hb, hml, hown, hts⟩ := B0
  have hl : lv_has ls 5 [(0, .ref (o 0)), (1, .int a1), (2, .int a2)] := hl
  unfold f_X6_table at h
  refine lv_iload_n hx hb dX6_table_0 rfl (lv_at hl 1 rfl) ?_
  obtain ⟨q1, e1, h⟩ := bnd_some h
  refine s_call (As := [.int a1]) (rest := []) (c_X6_isTable l a1 q1 e1) B k_X6_isTable q_9_12 rfl ⟨Nat.le_of_ble_eq_true rfl, Nat.le_of_ble_eq_true rfl⟩ ⟨Nat.le_refl _, Nat.le_refl _⟩ hl.1 rfl (Nat.le_of_ble_eq_true rfl) dX6_table_1 ?_
  refine lv_if_eq (tgt := 16) hx hb dX6_table_4 (by decide) (fun c2 => ?_) (fun c2 => ?_)
  · have h := ift c2 h
    refine lv_iconst (v := (-1 : Int32)) hx hb dX6_table_16 (by decide) ?_
    obtain rfl := Option.some.inj h
    exact hret _ _ _ _ (vp_nar_int _) dX6_table_17 hP hS
  · have h := ifn c2 h
    refine lv_iload_n hx hb dX6_table_7 rfl (lv_at hl 2 rfl) ?_
    refine lv_iconst (v := (0 : Int32)) hx hb dX6_table_8 (by decide) ?_
    refine lv_iconst (v := (3 : Int32)) hx hb dX6_table_9 (by decide) ?_
    obtain ⟨q3, e3, h⟩ := bnd_some h
    refine s_call (As := [.int a2, .int (0 : Int32), .int (3 : Int32)]) (rest := []) (c_X6_in l a2 (0 : Int32) (3 : Int32) q3 e3) B k_X6_in q_9_15 rfl ⟨Nat.le_of_ble_eq_true rfl, Nat.le_of_ble_eq_true rfl⟩ ⟨Nat.le_refl _, Nat.le_refl _⟩ hl.1 rfl (Nat.le_of_ble_eq_true rfl) dX6_table_10 ?_
    refine lv_if_ne (tgt := 18) hx hb dX6_table_13 (by decide) (fun c4 => ?_) (fun c4 => ?_)
    · have h := ifn c4 h
      refine lv_aload_n hx hb dX6_table_18 rfl (lv_at hl 0 rfl) ?_
      refine va_get (D := D) (ci := 7) (v := .ref (o 1)) (C := RX6) (T := TX6) (N := 22) hx hb hts inlX6 hown hK hP 0 rfl rfl 0 (by decide) (hts _ q_4_5) (fun _ h9 => h9) rfl dX6_table_19 ?_
      refine lv_iconst (v := (0 : Int32)) hx hb dX6_table_22 (by decide) ?_
      refine lv_iload_n hx hb dX6_table_23 rfl (lv_at hl 1 rfl) ?_
      refine lv_iadd hx hb dX6_table_24 ?_
      obtain ⟨g5, h⟩ := grd_some h
      refine va_iald hx hb hK hP 1 0 rfl rfl (inb_in g5) dX6_table_25 ?_
      refine lv_istore_n (lv' := [(3, .int (m_s ((0 : Int32) + a1).toNatClampNeg)), (0, .ref (o 0)), (1, .int a1), (2, .int a2)]) hx hb dX6_table_26 rfl hl (by decide) rfl (fun ls hl => ?_)
      refine lv_aload_n hx hb dX6_table_27 rfl (lv_at hl 1 rfl) ?_
      refine va_get (D := D) (ci := 7) (v := .ref (o 1)) (C := RX6) (T := TX6) (N := 22) hx hb hts inlX6 hown hK hP 0 rfl rfl 0 (by decide) (hts _ q_4_5) (fun _ h9 => h9) rfl dX6_table_28 ?_
      refine lv_iconst (v := (5 : Int32)) hx hb dX6_table_31 (by decide) ?_
      refine lv_iload_n hx hb dX6_table_32 rfl (lv_at hl 2 rfl) ?_
      refine lv_iadd hx hb dX6_table_33 ?_
      obtain ⟨g6, h⟩ := grd_some h
      refine va_iald hx hb hK hP 1 0 rfl rfl (inb_in g6) dX6_table_34 ?_
      refine lv_istore (lv' := [(4, .int (m_s ((5 : Int32) + a1).toNatClampNeg)), (3, .int (m_s ((0 : Int32) + a1).toNatClampNeg)), (0, .ref (o 0)), (1, .int a1), (2, .int a2)]) hx hb dX6_table_35 hl (by decide) rfl (fun ls hl => ?_)
      refine lv_iload_n hx hb dX6_table_37 rfl (lv_at hl 4 rfl) ?_
      refine lv_iconst (v := (3 : Int32)) hx hb dX6_table_38 (by decide) ?_
      refine lv_icmp_ne (tgt := 48) hx hb dX6_table_39 (by decide) (fun c7 => ?_) (fun c7 => ?_)
      · have h := ifn c7 h
        refine lv_iload_n hx hb dX6_table_48 rfl (lv_at hl 4 rfl) ?_
        refine lv_if_ne (tgt := 56) hx hb dX6_table_49 (by decide) (fun c8 => ?_) (fun c8 => ?_)
        · have h := ifn c8 h
          refine lv_iload_n hx hb dX6_table_56 rfl (lv_at hl 4 rfl) ?_
          refine lv_iconst (v := (1 : Int32)) hx hb dX6_table_57 (by decide) ?_
          refine lv_icmp_ne (tgt := 66) hx hb dX6_table_58 (by decide) (fun c9 => ?_) (fun c9 => ?_)
          · have h := ifn c9 h
            refine lv_iload_n hx hb dX6_table_66 rfl (lv_at hl 1 rfl) ?_
            refine lv_iload hx hb dX6_table_67 (lv_at hl 0 rfl) ?_
            refine lv_icmp_le (tgt := 82) hx hb dX6_table_69 (by decide) (fun c10 => ?_) (fun c10 => ?_)
            · have h := ift c10 h
              refine lv_bipush (v := (100 : Int32)) hx hb dX6_table_82 (by decide) ?_
              refine lv_iload hx hb dX6_table_84 (lv_at hl 0 rfl) ?_
              refine lv_imul hx hb dX6_table_86 ?_
              refine lv_iload_n hx hb dX6_table_87 rfl (lv_at hl 1 rfl) ?_
              obtain ⟨g11, h⟩ := grd_some h
              refine lv_idiv hx hb dX6_table_88 (by simpa using g11) ?_
              obtain rfl := Option.some.inj h
              exact hret _ _ _ _ (vp_nar_int _) dX6_table_89 hP hS
            · have h := ifn c10 h
              refine lv_bipush (v := (100 : Int32)) hx hb dX6_table_72 (by decide) ?_
              refine lv_iload_n hx hb dX6_table_74 rfl (lv_at hl 1 rfl) ?_
              refine lv_imul hx hb dX6_table_75 ?_
              refine lv_iload hx hb dX6_table_76 (lv_at hl 0 rfl) ?_
              obtain ⟨g12, h⟩ := grd_some h
              refine lv_idiv hx hb dX6_table_78 (by simpa using g12) ?_
              refine lv_goto (tgt := 89) hx hb dX6_table_79 (by decide) ?_
              obtain rfl := Option.some.inj h
              exact hret _ _ _ _ (vp_nar_int _) dX6_table_89 hP hS
          · have h := ift c9 h
            refine lv_iload hx hb dX6_table_61 (lv_at hl 0 rfl) ?_
            refine lv_goto (tgt := 89) hx hb dX6_table_63 (by decide) ?_
            obtain rfl := Option.some.inj h
            exact hret _ _ _ _ (vp_nar_int _) dX6_table_89 hP hS
        · have h := ift c8 h
          refine lv_iload_n hx hb dX6_table_52 rfl (lv_at hl 1 rfl) ?_
          refine lv_goto (tgt := 89) hx hb dX6_table_53 (by decide) ?_
          obtain rfl := Option.some.inj h
          exact hret _ _ _ _ (vp_nar_int _) dX6_table_89 hP hS
      · have h := ift c7 h
        refine lv_aload_n hx hb dX6_table_42 rfl (lv_at hl 2 rfl) ?_
        refine lv_iload_n hx hb dX6_table_43 rfl (lv_at hl 3 rfl) ?_
        obtain ⟨q13, e13, h⟩ := bnd_some h
        refine f_call (As := [.int a1]) (rest := []) (c_X6_plansWith l D o cI cJ a1 m_s m_past m_kept m_spare m_paid m_pastPaid m_keptPaid m_sparePaid m_isKept m_pasts m_runs m_pad m_typed m_isStopped m_stop m_order m_best m_many m_bySets m_spot m_deeds m_deed q13 e13) B hK hDD hA hP hS rfl (va_recv hK hP (ci := 7) (q0 := 0) rfl rfl) k_X6_plansWith q_28_4 rfl ⟨Nat.le_of_ble_eq_true rfl, Nat.le_of_ble_eq_true rfl⟩ ⟨Nat.le_refl _, Nat.le_refl _⟩ hl.1 rfl (Nat.le_of_ble_eq_true rfl) dX6_table_44 (fun H locs hP hS => ?_)
        obtain rfl := Option.some.inj h
        exact hret _ _ _ _ (vp_nar_int _) dX6_table_47 hP hS
    · have h := ift c4 h
      refine lv_iconst (v := (-1 : Int32)) hx hb dX6_table_16 (by decide) ?_
      obtain rfl := Option.some.inj h
      exact hret _ _ _ _ (vp_nar_int _) dX6_table_17 hP hS

def f_X6_partOf (a1 : Int32) (a2 : Int32) (m_s : Nat → Int32) : Option (Int32) :=
  bnd (f_X6_isTable a1 ) (fun q1 => if q1 = (0 : Int32) then some (-1 : Int32)
  else bnd (f_X6_isTable a2 ) (fun q3 => if q3 = (0 : Int32) then some (-1 : Int32)
  else if a1 = a2 then some (-1 : Int32)
  else grd (inb (((10 : Int32) + ((5 : Int32) * a1)) + a2) 100) (some (m_s (((10 : Int32) + ((5 : Int32) * a1)) + a2).toNatClampNeg))))
set_option maxRecDepth 100000 in
set_option maxHeartbeats 4000000 in
theorem c_X6_partOf (l : Launch) (D : va_G) (o : Nat → Nat) (cI cJ : ClassId) (a1 : Int32) (a2 : Int32) (m_s : Nat → Int32) (m_past : Nat → Int32) (m_kept : Nat → Int32) (m_spare : Nat → Int32) (m_paid : Nat → Int64) (m_pastPaid : Nat → Int64) (m_keptPaid : Nat → Int64) (m_sparePaid : Nat → Int64) (m_isKept : Int32) (m_pasts : Int32) (m_runs : Int32) (m_pad : Nat → Int32) (m_typed : Int32) (m_isStopped : Int32) (m_stop : Nat → Int32) (m_order : Nat → Int32) (m_best : Nat → Int32) (m_many : Int32) (m_bySets : Nat → Int64) (m_spot : Int32) (m_deeds : Int32) (m_deed : Nat → Int32) (q : Int32) (h : f_X6_partOf a1 a2 m_s = some q) : CF l yX6_partOf cX6_partOf 3 2 (some .int) D (tysMW cI cJ) [.ref (o 0), .int a1, .int a2] (some (.int q)) (MW o cI cJ m_s m_past m_kept m_spare m_paid m_pastPaid m_keptPaid m_sparePaid m_isKept m_pasts m_runs m_pad m_typed m_isStopped m_stop m_order m_best m_many m_bySets m_spot m_deeds m_deed) (MW o cI cJ m_s m_past m_kept m_spare m_paid m_pastPaid m_keptPaid m_sparePaid m_isKept m_pasts m_runs m_pad m_typed m_isStopped m_stop m_order m_best m_many m_bySets m_spot m_deeds m_deed) := by
  refine CF.mkI (by decide) (Nat.le_of_ble_eq_true rfl) ?_
  intro p e s m below meth c Q A B hK hDD hA hret hP hS ls hl
  have B0 := B
  obtain ⟨hx, hb, hml, hown, hts⟩ := B0
  have hl : lv_has ls 3 [(0, .ref (o 0)), (1, .int a1), (2, .int a2)] := hl
  unfold f_X6_partOf at h
  refine lv_iload_n hx hb dX6_partOf_0 rfl (lv_at hl 1 rfl) ?_
  obtain ⟨q1, e1, h⟩ := bnd_some h
  refine s_call (As := [.int a1]) (rest := []) (c_X6_isTable l a1 q1 e1) B k_X6_isTable q_9_12 rfl ⟨Nat.le_of_ble_eq_true rfl, Nat.le_of_ble_eq_true rfl⟩ ⟨Nat.le_refl _, Nat.le_refl _⟩ hl.1 rfl (Nat.le_of_ble_eq_true rfl) dX6_partOf_1 ?_
  refine lv_if_eq (tgt := 35) hx hb dX6_partOf_4 (by decide) (fun c2 => ?_) (fun c2 => ?_)
  · have h := ift c2 h
    refine lv_iconst (v := (-1 : Int32)) hx hb dX6_partOf_35 (by decide) ?_
    obtain rfl := Option.some.inj h
    exact hret _ _ _ _ (vp_nar_int _) dX6_partOf_36 hP hS
  · have h := ifn c2 h
    refine lv_iload_n hx hb dX6_partOf_7 rfl (lv_at hl 2 rfl) ?_
    obtain ⟨q3, e3, h⟩ := bnd_some h
    refine s_call (As := [.int a2]) (rest := []) (c_X6_isTable l a2 q3 e3) B k_X6_isTable q_9_12 rfl ⟨Nat.le_of_ble_eq_true rfl, Nat.le_of_ble_eq_true rfl⟩ ⟨Nat.le_refl _, Nat.le_refl _⟩ hl.1 rfl (Nat.le_of_ble_eq_true rfl) dX6_partOf_8 ?_
    refine lv_if_eq (tgt := 35) hx hb dX6_partOf_11 (by decide) (fun c4 => ?_) (fun c4 => ?_)
    · have h := ift c4 h
      refine lv_iconst (v := (-1 : Int32)) hx hb dX6_partOf_35 (by decide) ?_
      obtain rfl := Option.some.inj h
      exact hret _ _ _ _ (vp_nar_int _) dX6_partOf_36 hP hS
    · have h := ifn c4 h
      refine lv_iload_n hx hb dX6_partOf_14 rfl (lv_at hl 1 rfl) ?_
      refine lv_iload_n hx hb dX6_partOf_15 rfl (lv_at hl 2 rfl) ?_
      refine lv_icmp_eq (tgt := 35) hx hb dX6_partOf_16 (by decide) (fun c5 => ?_) (fun c5 => ?_)
      · have h := ift c5 h
        refine lv_iconst (v := (-1 : Int32)) hx hb dX6_partOf_35 (by decide) ?_
        obtain rfl := Option.some.inj h
        exact hret _ _ _ _ (vp_nar_int _) dX6_partOf_36 hP hS
      · have h := ifn c5 h
        refine lv_aload_n hx hb dX6_partOf_19 rfl (lv_at hl 0 rfl) ?_
        refine va_get (D := D) (ci := 7) (v := .ref (o 1)) (C := RX6) (T := TX6) (N := 22) hx hb hts inlX6 hown hK hP 0 rfl rfl 0 (by decide) (hts _ q_4_5) (fun _ h9 => h9) rfl dX6_partOf_20 ?_
        refine lv_bipush (v := (10 : Int32)) hx hb dX6_partOf_23 (by decide) ?_
        refine lv_iconst (v := (5 : Int32)) hx hb dX6_partOf_25 (by decide) ?_
        refine lv_iload_n hx hb dX6_partOf_26 rfl (lv_at hl 1 rfl) ?_
        refine lv_imul hx hb dX6_partOf_27 ?_
        refine lv_iadd hx hb dX6_partOf_28 ?_
        refine lv_iload_n hx hb dX6_partOf_29 rfl (lv_at hl 2 rfl) ?_
        refine lv_iadd hx hb dX6_partOf_30 ?_
        obtain ⟨g6, h⟩ := grd_some h
        refine va_iald hx hb hK hP 1 0 rfl rfl (inb_in g6) dX6_partOf_31 ?_
        refine lv_goto (tgt := 36) hx hb dX6_partOf_32 (by decide) ?_
        obtain rfl := Option.some.inj h
        exact hret _ _ _ _ (vp_nar_int _) dX6_partOf_36 hP hS

def f_X6_size (a1 : Int32) (a2 : Int32) (m_s : Nat → Int32) : Option (Int32) :=
  bnd (f_X6_isSet a1 ) (fun q1 => if q1 = (0 : Int32) then some (-1 : Int32)
  else bnd (f_X6_base a2 ) (fun q3 => bnd (f_X6_sizeOf a1 q3 m_s) (fun q4 => bnd (f_X6_cut q4 ) (fun q5 => some q5))))
set_option maxRecDepth 100000 in
set_option maxHeartbeats 4000000 in
theorem c_X6_size (l : Launch) (D : va_G) (o : Nat → Nat) (cI cJ : ClassId) (a1 : Int32) (a2 : Int32) (m_s : Nat → Int32) (m_past : Nat → Int32) (m_kept : Nat → Int32) (m_spare : Nat → Int32) (m_paid : Nat → Int64) (m_pastPaid : Nat → Int64) (m_keptPaid : Nat → Int64) (m_sparePaid : Nat → Int64) (m_isKept : Int32) (m_pasts : Int32) (m_runs : Int32) (m_pad : Nat → Int32) (m_typed : Int32) (m_isStopped : Int32) (m_stop : Nat → Int32) (m_order : Nat → Int32) (m_best : Nat → Int32) (m_many : Int32) (m_bySets : Nat → Int64) (m_spot : Int32) (m_deeds : Int32) (m_deed : Nat → Int32) (q : Int32) (h : f_X6_size a1 a2 m_s = some q) : CF l yX6_size cX6_size 3 2 (some .int) D (tysMW cI cJ) [.ref (o 0), .int a1, .int a2] (some (.int q)) (MW o cI cJ m_s m_past m_kept m_spare m_paid m_pastPaid m_keptPaid m_sparePaid m_isKept m_pasts m_runs m_pad m_typed m_isStopped m_stop m_order m_best m_many m_bySets m_spot m_deeds m_deed) (MW o cI cJ m_s m_past m_kept m_spare m_paid m_pastPaid m_keptPaid m_sparePaid m_isKept m_pasts m_runs m_pad m_typed m_isStopped m_stop m_order m_best m_many m_bySets m_spot m_deeds m_deed) := by
  refine CF.mkI (by decide) (Nat.le_of_ble_eq_true rfl) ?_
  intro p e s m below meth c Q A B hK hDD hA hret hP hS ls hl
  have B0 := B
  obtain ⟨hx, hb, hml, hown, hts⟩ := B0
  have hl : lv_has ls 3 [(0, .ref (o 0)), (1, .int a1), (2, .int a2)] := hl
  unfold f_X6_size at h
  refine lv_iload_n hx hb dX6_size_0 rfl (lv_at hl 1 rfl) ?_
  obtain ⟨q1, e1, h⟩ := bnd_some h
  refine s_call (As := [.int a1]) (rest := []) (c_X6_isSet l a1 q1 e1) B k_X6_isSet q_17_13 rfl ⟨Nat.le_of_ble_eq_true rfl, Nat.le_of_ble_eq_true rfl⟩ ⟨Nat.le_refl _, Nat.le_refl _⟩ hl.1 rfl (Nat.le_of_ble_eq_true rfl) dX6_size_1 ?_
  refine lv_if_eq (tgt := 22) hx hb dX6_size_4 (by decide) (fun c2 => ?_) (fun c2 => ?_)
  · have h := ift c2 h
    refine lv_iconst (v := (-1 : Int32)) hx hb dX6_size_22 (by decide) ?_
    obtain rfl := Option.some.inj h
    exact hret _ _ _ _ (vp_nar_int _) dX6_size_23 hP hS
  · have h := ifn c2 h
    refine lv_aload_n hx hb dX6_size_7 rfl (lv_at hl 0 rfl) ?_
    refine lv_iload_n hx hb dX6_size_8 rfl (lv_at hl 1 rfl) ?_
    refine lv_iload_n hx hb dX6_size_9 rfl (lv_at hl 2 rfl) ?_
    obtain ⟨q3, e3, h⟩ := bnd_some h
    refine s_call (As := [.int a2]) (rest := [.int a1, .ref (o 0)]) (c_X6_base l a2 q3 e3) B k_X6_base q_29_1 rfl ⟨Nat.le_of_ble_eq_true rfl, Nat.le_of_ble_eq_true rfl⟩ ⟨Nat.le_refl _, Nat.le_refl _⟩ hl.1 rfl (Nat.le_of_ble_eq_true rfl) dX6_size_10 ?_
    obtain ⟨q4, e4, h⟩ := bnd_some h
    refine f_call (As := [.int a1, .int q3]) (rest := []) (c_X6_sizeOf l D o cI cJ a1 q3 m_s m_past m_kept m_spare m_paid m_pastPaid m_keptPaid m_sparePaid m_isKept m_pasts m_runs m_pad m_typed m_isStopped m_stop m_order m_best m_many m_bySets m_spot m_deeds m_deed q4 e4) B hK hDD hA hP hS rfl (va_recv hK hP (ci := 7) (q0 := 0) rfl rfl) k_X6_sizeOf q_18_18 rfl ⟨Nat.le_of_ble_eq_true rfl, Nat.le_of_ble_eq_true rfl⟩ ⟨Nat.le_refl _, Nat.le_refl _⟩ hl.1 rfl (Nat.le_of_ble_eq_true rfl) dX6_size_13 (fun H locs hP hS => ?_)
    obtain ⟨q5, e5, h⟩ := bnd_some h
    refine s_call (As := [.long q4]) (rest := []) (c_X6_cut l q4 q5 e5) B k_X6_cut q_19_19 rfl ⟨Nat.le_of_ble_eq_true rfl, Nat.le_of_ble_eq_true rfl⟩ ⟨Nat.le_refl _, Nat.le_refl _⟩ hl.1 rfl (Nat.le_of_ble_eq_true rfl) dX6_size_16 ?_
    refine lv_goto (tgt := 23) hx hb dX6_size_19 (by decide) ?_
    obtain rfl := Option.some.inj h
    exact hret _ _ _ _ (vp_nar_int _) dX6_size_23 hP hS

def f_X6_least (a1 : Int32) (a2 : Int32) (a3 : Int32) (m_s : Nat → Int32) (m_order : Nat → Int32) (m_best : Nat → Int32) (m_many : Int32) (m_bySets : Nat → Int64) : Option (Int32 × (Nat → Int32) × (Nat → Int32) × (Int32) × (Nat → Int64)) :=
  bnd (f_X6_isSet a1 ) (fun q1 => if q1 = (0 : Int32) then some ((-1 : Int32), m_order, m_best, m_many, m_bySets)
  else bnd (f_X6_in a3 (0 : Int32) (1 : Int32) ) (fun q3 => if q3 = (0 : Int32) then some ((-1 : Int32), m_order, m_best, m_many, m_bySets)
  else if a3 = (0 : Int32) then bnd (f_X6_base a2 ) (fun q9 => bnd (f_X6_finds a1 q9 m_s m_order m_best m_many) (fun q10 => bnd (f_X6_cut q10.1 ) (fun q11 => some (q11, q10.2.1, q10.2.2.1, q10.2.2.2, m_bySets))))
  else bnd (f_X6_base a2 ) (fun q6 => bnd (f_X6_findsBySets a1 q6 m_s m_bySets) (fun q7 => bnd (f_X6_cut q7.1 ) (fun q8 => some (q8, m_order, m_best, m_many, q7.2))))))
set_option maxRecDepth 100000 in
set_option maxHeartbeats 4000000 in
theorem c_X6_least (l : Launch) (D : va_G) (o : Nat → Nat) (cI cJ : ClassId) (a1 : Int32) (a2 : Int32) (a3 : Int32) (m_s : Nat → Int32) (m_past : Nat → Int32) (m_kept : Nat → Int32) (m_spare : Nat → Int32) (m_paid : Nat → Int64) (m_pastPaid : Nat → Int64) (m_keptPaid : Nat → Int64) (m_sparePaid : Nat → Int64) (m_isKept : Int32) (m_pasts : Int32) (m_runs : Int32) (m_pad : Nat → Int32) (m_typed : Int32) (m_isStopped : Int32) (m_stop : Nat → Int32) (m_order : Nat → Int32) (m_best : Nat → Int32) (m_many : Int32) (m_bySets : Nat → Int64) (m_spot : Int32) (m_deeds : Int32) (m_deed : Nat → Int32) (q : Int32 × (Nat → Int32) × (Nat → Int32) × (Int32) × (Nat → Int64)) (h : f_X6_least a1 a2 a3 m_s m_order m_best m_many m_bySets = some q) : CF l yX6_least cX6_least 4 3 (some .int) D (tysMW cI cJ) [.ref (o 0), .int a1, .int a2, .int a3] (some (.int q.1)) (MW o cI cJ m_s m_past m_kept m_spare m_paid m_pastPaid m_keptPaid m_sparePaid m_isKept m_pasts m_runs m_pad m_typed m_isStopped m_stop m_order m_best m_many m_bySets m_spot m_deeds m_deed) (MW o cI cJ m_s m_past m_kept m_spare m_paid m_pastPaid m_keptPaid m_sparePaid m_isKept m_pasts m_runs m_pad m_typed m_isStopped m_stop q.2.1 q.2.2.1 q.2.2.2.1 q.2.2.2.2 m_spot m_deeds m_deed) := by
  refine CF.mkI (by decide) (Nat.le_of_ble_eq_true rfl) ?_
  intro p e s m below meth c Q A B hK hDD hA hret hP hS ls hl
  have B0 := B
  obtain ⟨hx, hb, hml, hown, hts⟩ := B0
  have hl : lv_has ls 4 [(0, .ref (o 0)), (1, .int a1), (2, .int a2), (3, .int a3)] := hl
  unfold f_X6_least at h
  refine lv_iload_n hx hb dX6_least_0 rfl (lv_at hl 1 rfl) ?_
  obtain ⟨q1, e1, h⟩ := bnd_some h
  refine s_call (As := [.int a1]) (rest := []) (c_X6_isSet l a1 q1 e1) B k_X6_isSet q_17_13 rfl ⟨Nat.le_of_ble_eq_true rfl, Nat.le_of_ble_eq_true rfl⟩ ⟨Nat.le_refl _, Nat.le_refl _⟩ hl.1 rfl (Nat.le_of_ble_eq_true rfl) dX6_least_1 ?_
  refine lv_if_eq (tgt := 16) hx hb dX6_least_4 (by decide) (fun c2 => ?_) (fun c2 => ?_)
  · have h := ift c2 h
    refine lv_iconst (v := (-1 : Int32)) hx hb dX6_least_16 (by decide) ?_
    obtain rfl := Option.some.inj h
    exact hret _ _ _ _ (vp_nar_int _) dX6_least_17 hP hS
  · have h := ifn c2 h
    refine lv_iload_n hx hb dX6_least_7 rfl (lv_at hl 3 rfl) ?_
    refine lv_iconst (v := (0 : Int32)) hx hb dX6_least_8 (by decide) ?_
    refine lv_iconst (v := (1 : Int32)) hx hb dX6_least_9 (by decide) ?_
    obtain ⟨q3, e3, h⟩ := bnd_some h
    refine s_call (As := [.int a3, .int (0 : Int32), .int (1 : Int32)]) (rest := []) (c_X6_in l a3 (0 : Int32) (1 : Int32) q3 e3) B k_X6_in q_9_15 rfl ⟨Nat.le_of_ble_eq_true rfl, Nat.le_of_ble_eq_true rfl⟩ ⟨Nat.le_refl _, Nat.le_refl _⟩ hl.1 rfl (Nat.le_of_ble_eq_true rfl) dX6_least_10 ?_
    refine lv_if_ne (tgt := 18) hx hb dX6_least_13 (by decide) (fun c4 => ?_) (fun c4 => ?_)
    · have h := ifn c4 h
      refine lv_iload_n hx hb dX6_least_18 rfl (lv_at hl 3 rfl) ?_
      refine lv_if_ne (tgt := 34) hx hb dX6_least_19 (by decide) (fun c5 => ?_) (fun c5 => ?_)
      · have h := ifn c5 h
        refine lv_aload_n hx hb dX6_least_34 rfl (lv_at hl 0 rfl) ?_
        refine lv_iload_n hx hb dX6_least_35 rfl (lv_at hl 1 rfl) ?_
        refine lv_iload_n hx hb dX6_least_36 rfl (lv_at hl 2 rfl) ?_
        obtain ⟨q6, e6, h⟩ := bnd_some h
        refine s_call (As := [.int a2]) (rest := [.int a1, .ref (o 0)]) (c_X6_base l a2 q6 e6) B k_X6_base q_29_1 rfl ⟨Nat.le_of_ble_eq_true rfl, Nat.le_of_ble_eq_true rfl⟩ ⟨Nat.le_refl _, Nat.le_refl _⟩ hl.1 rfl (Nat.le_of_ble_eq_true rfl) dX6_least_37 ?_
        obtain ⟨q7, e7, h⟩ := bnd_some h
        refine f_call (As := [.int a1, .int q6]) (rest := []) (c_X6_findsBySets l D o cI cJ a1 q6 m_s m_past m_kept m_spare m_paid m_pastPaid m_keptPaid m_sparePaid m_isKept m_pasts m_runs m_pad m_typed m_isStopped m_stop m_order m_best m_many m_bySets m_spot m_deeds m_deed q7 e7) B hK hDD hA hP hS rfl (va_recv hK hP (ci := 7) (q0 := 0) rfl rfl) k_X6_findsBySets q_30_0 rfl ⟨Nat.le_of_ble_eq_true rfl, Nat.le_of_ble_eq_true rfl⟩ ⟨Nat.le_refl _, Nat.le_refl _⟩ hl.1 rfl (Nat.le_of_ble_eq_true rfl) dX6_least_40 (fun H locs hP hS => ?_)
        obtain ⟨q8, e8, h⟩ := bnd_some h
        refine s_call (As := [.long q7.1]) (rest := []) (c_X6_cut l q7.1 q8 e8) B k_X6_cut q_19_19 rfl ⟨Nat.le_of_ble_eq_true rfl, Nat.le_of_ble_eq_true rfl⟩ ⟨Nat.le_refl _, Nat.le_refl _⟩ hl.1 rfl (Nat.le_of_ble_eq_true rfl) dX6_least_43 ?_
        obtain rfl := Option.some.inj h
        exact hret _ _ _ _ (vp_nar_int _) dX6_least_46 hP hS
      · have h := ift c5 h
        refine lv_aload_n hx hb dX6_least_22 rfl (lv_at hl 0 rfl) ?_
        refine lv_iload_n hx hb dX6_least_23 rfl (lv_at hl 1 rfl) ?_
        refine lv_iload_n hx hb dX6_least_24 rfl (lv_at hl 2 rfl) ?_
        obtain ⟨q9, e9, h⟩ := bnd_some h
        refine s_call (As := [.int a2]) (rest := [.int a1, .ref (o 0)]) (c_X6_base l a2 q9 e9) B k_X6_base q_29_1 rfl ⟨Nat.le_of_ble_eq_true rfl, Nat.le_of_ble_eq_true rfl⟩ ⟨Nat.le_refl _, Nat.le_refl _⟩ hl.1 rfl (Nat.le_of_ble_eq_true rfl) dX6_least_25 ?_
        obtain ⟨q10, e10, h⟩ := bnd_some h
        refine f_call (As := [.int a1, .int q9]) (rest := []) (c_X6_finds l D o cI cJ a1 q9 m_s m_past m_kept m_spare m_paid m_pastPaid m_keptPaid m_sparePaid m_isKept m_pasts m_runs m_pad m_typed m_isStopped m_stop m_order m_best m_many m_bySets m_spot m_deeds m_deed q10 e10) B hK hDD hA hP hS rfl (va_recv hK hP (ci := 7) (q0 := 0) rfl rfl) k_X6_finds q_18_9 rfl ⟨Nat.le_of_ble_eq_true rfl, Nat.le_of_ble_eq_true rfl⟩ ⟨Nat.le_refl _, Nat.le_refl _⟩ hl.1 rfl (Nat.le_of_ble_eq_true rfl) dX6_least_28 (fun H locs hP hS => ?_)
        refine lv_goto (tgt := 43) hx hb dX6_least_31 (by decide) ?_
        obtain ⟨q11, e11, h⟩ := bnd_some h
        refine s_call (As := [.long q10.1]) (rest := []) (c_X6_cut l q10.1 q11 e11) B k_X6_cut q_19_19 rfl ⟨Nat.le_of_ble_eq_true rfl, Nat.le_of_ble_eq_true rfl⟩ ⟨Nat.le_refl _, Nat.le_refl _⟩ hl.1 rfl (Nat.le_of_ble_eq_true rfl) dX6_least_43 ?_
        obtain rfl := Option.some.inj h
        exact hret _ _ _ _ (vp_nar_int _) dX6_least_46 hP hS
    · have h := ift c4 h
      refine lv_iconst (v := (-1 : Int32)) hx hb dX6_least_16 (by decide) ?_
      obtain rfl := Option.some.inj h
      exact hret _ _ _ _ (vp_nar_int _) dX6_least_17 hP hS

def f_X6_best (a1 : Int32) (a2 : Int32) (a3 : Int32) (m_s : Nat → Int32) (m_order : Nat → Int32) (m_best : Nat → Int32) (m_many : Int32) : Option (Int32 × (Nat → Int32) × (Nat → Int32) × (Int32)) :=
  bnd (f_X6_isSet a1 ) (fun q1 => if q1 = (0 : Int32) then some ((-1 : Int32), m_order, m_best, m_many)
  else if (0 : Int32) ≤ a3 then bnd (f_X6_base a2 ) (fun q4 => bnd (f_X6_finds a1 q4 m_s m_order m_best m_many) (fun q5 => if (lg_cmp q5.1 (0 : Int64)) < (0 : Int32) then some ((-4 : Int32), q5.2.1, q5.2.2.1, q5.2.2.2)
  else if q5.2.2.2 ≤ a3 then some ((-4 : Int32), q5.2.1, q5.2.2.1, q5.2.2.2)
  else grd (inb a3 5) (some ((q5.2.2.1 a3.toNatClampNeg), q5.2.1, q5.2.2.1, q5.2.2.2))))
  else some ((-1 : Int32), m_order, m_best, m_many))
set_option maxRecDepth 100000 in
set_option maxHeartbeats 4000000 in
theorem c_X6_best (l : Launch) (D : va_G) (o : Nat → Nat) (cI cJ : ClassId) (a1 : Int32) (a2 : Int32) (a3 : Int32) (m_s : Nat → Int32) (m_past : Nat → Int32) (m_kept : Nat → Int32) (m_spare : Nat → Int32) (m_paid : Nat → Int64) (m_pastPaid : Nat → Int64) (m_keptPaid : Nat → Int64) (m_sparePaid : Nat → Int64) (m_isKept : Int32) (m_pasts : Int32) (m_runs : Int32) (m_pad : Nat → Int32) (m_typed : Int32) (m_isStopped : Int32) (m_stop : Nat → Int32) (m_order : Nat → Int32) (m_best : Nat → Int32) (m_many : Int32) (m_bySets : Nat → Int64) (m_spot : Int32) (m_deeds : Int32) (m_deed : Nat → Int32) (q : Int32 × (Nat → Int32) × (Nat → Int32) × (Int32)) (h : f_X6_best a1 a2 a3 m_s m_order m_best m_many = some q) : CF l yX6_best cX6_best 4 3 (some .int) D (tysMW cI cJ) [.ref (o 0), .int a1, .int a2, .int a3] (some (.int q.1)) (MW o cI cJ m_s m_past m_kept m_spare m_paid m_pastPaid m_keptPaid m_sparePaid m_isKept m_pasts m_runs m_pad m_typed m_isStopped m_stop m_order m_best m_many m_bySets m_spot m_deeds m_deed) (MW o cI cJ m_s m_past m_kept m_spare m_paid m_pastPaid m_keptPaid m_sparePaid m_isKept m_pasts m_runs m_pad m_typed m_isStopped m_stop q.2.1 q.2.2.1 q.2.2.2 m_bySets m_spot m_deeds m_deed) := by
  refine CF.mkI (by decide) (Nat.le_of_ble_eq_true rfl) ?_
  intro p e s m below meth c Q A B hK hDD hA hret hP hS ls hl
  have B0 := B
  obtain ⟨hx, hb, hml, hown, hts⟩ := B0
  have hl : lv_has ls 4 [(0, .ref (o 0)), (1, .int a1), (2, .int a2), (3, .int a3)] := hl
  unfold f_X6_best at h
  refine lv_iload_n hx hb dX6_best_0 rfl (lv_at hl 1 rfl) ?_
  obtain ⟨q1, e1, h⟩ := bnd_some h
  refine s_call (As := [.int a1]) (rest := []) (c_X6_isSet l a1 q1 e1) B k_X6_isSet q_17_13 rfl ⟨Nat.le_of_ble_eq_true rfl, Nat.le_of_ble_eq_true rfl⟩ ⟨Nat.le_refl _, Nat.le_refl _⟩ hl.1 rfl (Nat.le_of_ble_eq_true rfl) dX6_best_1 ?_
  refine lv_if_eq (tgt := 11) hx hb dX6_best_4 (by decide) (fun c2 => ?_) (fun c2 => ?_)
  · have h := ift c2 h
    refine lv_iconst (v := (-1 : Int32)) hx hb dX6_best_11 (by decide) ?_
    obtain rfl := Option.some.inj h
    exact hret _ _ _ _ (vp_nar_int _) dX6_best_12 hP hS
  · have h := ifn c2 h
    refine lv_iload_n hx hb dX6_best_7 rfl (lv_at hl 3 rfl) ?_
    refine lv_if_ge (tgt := 13) hx hb dX6_best_8 (by decide) (fun c3 => ?_) (fun c3 => ?_)
    · have h := ift c3 h
      refine lv_aload_n hx hb dX6_best_13 rfl (lv_at hl 0 rfl) ?_
      refine lv_iload_n hx hb dX6_best_14 rfl (lv_at hl 1 rfl) ?_
      refine lv_iload_n hx hb dX6_best_15 rfl (lv_at hl 2 rfl) ?_
      obtain ⟨q4, e4, h⟩ := bnd_some h
      refine s_call (As := [.int a2]) (rest := [.int a1, .ref (o 0)]) (c_X6_base l a2 q4 e4) B k_X6_base q_29_1 rfl ⟨Nat.le_of_ble_eq_true rfl, Nat.le_of_ble_eq_true rfl⟩ ⟨Nat.le_refl _, Nat.le_refl _⟩ hl.1 rfl (Nat.le_of_ble_eq_true rfl) dX6_best_16 ?_
      obtain ⟨q5, e5, h⟩ := bnd_some h
      refine f_call (As := [.int a1, .int q4]) (rest := []) (c_X6_finds l D o cI cJ a1 q4 m_s m_past m_kept m_spare m_paid m_pastPaid m_keptPaid m_sparePaid m_isKept m_pasts m_runs m_pad m_typed m_isStopped m_stop m_order m_best m_many m_bySets m_spot m_deeds m_deed q5 e5) B hK hDD hA hP hS rfl (va_recv hK hP (ci := 7) (q0 := 0) rfl rfl) k_X6_finds q_18_9 rfl ⟨Nat.le_of_ble_eq_true rfl, Nat.le_of_ble_eq_true rfl⟩ ⟨Nat.le_refl _, Nat.le_refl _⟩ hl.1 rfl (Nat.le_of_ble_eq_true rfl) dX6_best_19 (fun H locs hP hS => ?_)
      refine lv_lconst (v := (0 : Int64)) hx hb dX6_best_22 (by decide) ?_
      refine W.lcmp hx hb dX6_best_23 ?_
      refine lv_if_lt (tgt := 44) hx hb dX6_best_24 (by decide) (fun c6 => ?_) (fun c6 => ?_)
      · have h := ift c6 h
        refine lv_bipush (v := (-4 : Int32)) hx hb dX6_best_44 (by decide) ?_
        obtain rfl := Option.some.inj h
        exact hret _ _ _ _ (vp_nar_int _) dX6_best_46 hP hS
      · have h := ifn c6 h
        refine lv_iload_n hx hb dX6_best_27 rfl (lv_at hl 3 rfl) ?_
        refine lv_aload_n hx hb dX6_best_28 rfl (lv_at hl 0 rfl) ?_
        refine va_get (D := D) (ci := 7) (v := .int q5.2.2.2) (C := RX6) (T := TX6) (N := 22) hx hb hts inlX6 hown hK hP 0 rfl rfl 17 (by decide) (hts _ q_18_8) (fun _ h9 => h9) rfl dX6_best_29 ?_
        refine lv_icmp_ge (tgt := 44) hx hb dX6_best_32 (by decide) (fun c7 => ?_) (fun c7 => ?_)
        · have h := ift c7 h
          refine lv_bipush (v := (-4 : Int32)) hx hb dX6_best_44 (by decide) ?_
          obtain rfl := Option.some.inj h
          exact hret _ _ _ _ (vp_nar_int _) dX6_best_46 hP hS
        · have h := ifn c7 h
          refine lv_aload_n hx hb dX6_best_35 rfl (lv_at hl 0 rfl) ?_
          refine va_get (D := D) (ci := 7) (v := .ref (o 12)) (C := RX6) (T := TX6) (N := 22) hx hb hts inlX6 hown hK hP 0 rfl rfl 16 (by decide) (hts _ q_4_16) (fun _ h9 => h9) rfl dX6_best_36 ?_
          refine lv_iload_n hx hb dX6_best_39 rfl (lv_at hl 3 rfl) ?_
          obtain ⟨g8, h⟩ := grd_some h
          refine va_iald hx hb hK hP 12 0 rfl rfl (inb_in g8) dX6_best_40 ?_
          refine lv_goto (tgt := 46) hx hb dX6_best_41 (by decide) ?_
          obtain rfl := Option.some.inj h
          exact hret _ _ _ _ (vp_nar_int _) dX6_best_46 hP hS
    · have h := ifn c3 h
      refine lv_iconst (v := (-1 : Int32)) hx hb dX6_best_11 (by decide) ?_
      obtain rfl := Option.some.inj h
      exact hret _ _ _ _ (vp_nar_int _) dX6_best_12 hP hS

def f_X6_orderOf_L4b (a1 : Int32) (m_s : Nat → Int32)  (k4 : Int32 → Int32 → Option (Int32)) (x2 : Int32) (x3 : Int32) : Option (Int32) :=
  if (4 : Int32) ≤ x3 then some x2
  else bnd (f_X6_at x3 ) (fun q2 => grd (inb q2 100) (if (m_s q2.toNatClampNeg) ≤ (0 : Int32) then k4 (x2 + (0 : Int32)) (x3 + (1 : Int32))
  else bnd (f_X6_at x3 ) (fun q5 => grd (inb (q5 + (12 : Int32)) 100) (bnd (f_X6_at a1 ) (fun q7 => grd (inb (q7 + (12 : Int32)) 100) (if (m_s (q7 + (12 : Int32)).toNatClampNeg) ≤ (m_s (q5 + (12 : Int32)).toNatClampNeg) then k4 (x2 + (0 : Int32)) (x3 + (1 : Int32))
  else k4 (x2 + (1 : Int32)) (x3 + (1 : Int32))))))))
def f_X6_orderOf_L4 (a1 : Int32) (m_s : Nat → Int32)  : Nat → Int32 → Int32 → Option (Int32)
  | 0 => fun _ _ => none
  | n + 1 => f_X6_orderOf_L4b a1 m_s  (f_X6_orderOf_L4 a1 m_s  n)
def f_X6_orderOf (a1 : Int32) (m_s : Nat → Int32) : Option (Int32) :=
  f_X6_orderOf_L4 a1 m_s  1024 (0 : Int32) (0 : Int32)
set_option maxRecDepth 100000 in
set_option maxHeartbeats 4000000 in
theorem c_X6_orderOf (l : Launch) (D : va_G) (o : Nat → Nat) (cI cJ : ClassId) (a1 : Int32) (m_s : Nat → Int32) (m_past : Nat → Int32) (m_kept : Nat → Int32) (m_spare : Nat → Int32) (m_paid : Nat → Int64) (m_pastPaid : Nat → Int64) (m_keptPaid : Nat → Int64) (m_sparePaid : Nat → Int64) (m_isKept : Int32) (m_pasts : Int32) (m_runs : Int32) (m_pad : Nat → Int32) (m_typed : Int32) (m_isStopped : Int32) (m_stop : Nat → Int32) (m_order : Nat → Int32) (m_best : Nat → Int32) (m_many : Int32) (m_bySets : Nat → Int64) (m_spot : Int32) (m_deeds : Int32) (m_deed : Nat → Int32) (q : Int32) (h : f_X6_orderOf a1 m_s = some q) : CF l yX6_orderOf cX6_orderOf 4 1 (some .int) D (tysMW cI cJ) [.ref (o 0), .int a1] (some (.int q)) (MW o cI cJ m_s m_past m_kept m_spare m_paid m_pastPaid m_keptPaid m_sparePaid m_isKept m_pasts m_runs m_pad m_typed m_isStopped m_stop m_order m_best m_many m_bySets m_spot m_deeds m_deed) (MW o cI cJ m_s m_past m_kept m_spare m_paid m_pastPaid m_keptPaid m_sparePaid m_isKept m_pasts m_runs m_pad m_typed m_isStopped m_stop m_order m_best m_many m_bySets m_spot m_deeds m_deed) := by
  refine CF.mkI (by decide) (Nat.le_of_ble_eq_true rfl) ?_
  intro p e s m below meth c Q A B hK hDD hA hret hP hS ls hl
  have B0 := B
  obtain ⟨hx, hb, hml, hown, hts⟩ := B0
  have hl : lv_has ls 4 [(0, .ref (o 0)), (1, .int a1)] := hl
  have hL4 : ∀ (n4 : Nat) (x2 : Int32) (x3 : Int32) (ls : Array Slot) (H : Heap) (locs : List Loc), f_X6_orderOf_L4 a1 m_s  n4 x2 x3 = some q → va_P D vwCl (MW o cI cJ m_s m_past m_kept m_spare m_paid m_pastPaid m_keptPaid m_sparePaid m_isKept m_pasts m_runs m_pad m_typed m_isStopped m_stop m_order m_best m_many m_bySets m_spot m_deeds m_deed) H → va_S A s.heap H locs → lv_has ls 4 [(0, .ref (o 0)), (1, .int a1), (2, .int x2), (3, .int x3)] → W p l e (rmF 1 0 0) s m ([.ref (o 0), .int a1] : List Value).toArray below meth c H locs 0 0 Q (F0 m 4 ls []) := by
    intro n4
    induction n4 with
    | zero =>
      intro x2 x3 ls H locs h
      exact absurd (show (none : Option (Int32)) = some q from h) (by intro h; cases h)
    | succ n4 ih4 =>
      intro x2 x3 ls H locs h hP hS hl
      have h : f_X6_orderOf_L4b a1 m_s  (f_X6_orderOf_L4 a1 m_s  n4) x2 x3 = some q := h
      unfold f_X6_orderOf_L4b at h
      refine lv_iload_n hx hb dX6_orderOf_4 rfl (lv_at hl 3 rfl) ?_
      refine lv_iconst (v := (4 : Int32)) hx hb dX6_orderOf_5 (by decide) ?_
      refine lv_icmp_ge (tgt := 62) hx hb dX6_orderOf_6 (by decide) (fun c1 => ?_) (fun c1 => ?_)
      · have h := ift c1 h
        refine lv_iload_n hx hb dX6_orderOf_62 rfl (lv_at hl 2 rfl) ?_
        obtain rfl := Option.some.inj h
        exact hret _ _ _ _ (vp_nar_int _) dX6_orderOf_63 hP hS
      · have h := ifn c1 h
        refine lv_iload_n hx hb dX6_orderOf_9 rfl (lv_at hl 2 rfl) ?_
        refine lv_aload_n hx hb dX6_orderOf_10 rfl (lv_at hl 0 rfl) ?_
        refine va_get (D := D) (ci := 7) (v := .ref (o 1)) (C := RX6) (T := TX6) (N := 22) hx hb hts inlX6 hown hK hP 0 rfl rfl 0 (by decide) (hts _ q_4_5) (fun _ h9 => h9) rfl dX6_orderOf_11 ?_
        refine lv_iload_n hx hb dX6_orderOf_14 rfl (lv_at hl 3 rfl) ?_
        obtain ⟨q2, e2, h⟩ := bnd_some h
        refine s_call (As := [.int x3]) (rest := [.ref (o 1), .int x2]) (c_X6_at l x3 q2 e2) B k_X6_at q_11_4 rfl ⟨Nat.le_of_ble_eq_true rfl, Nat.le_of_ble_eq_true rfl⟩ ⟨Nat.le_refl _, Nat.le_refl _⟩ hl.1 rfl (Nat.le_of_ble_eq_true rfl) dX6_orderOf_15 ?_
        obtain ⟨g3, h⟩ := grd_some h
        refine va_iald hx hb hK hP 1 0 rfl rfl (inb_in g3) dX6_orderOf_18 ?_
        refine lv_if_le (tgt := 53) hx hb dX6_orderOf_19 (by decide) (fun c4 => ?_) (fun c4 => ?_)
        · have h := ift c4 h
          refine lv_iconst (v := (0 : Int32)) hx hb dX6_orderOf_53 (by decide) ?_
          refine lv_iadd hx hb dX6_orderOf_54 ?_
          refine lv_istore_n (lv' := [(2, .int (x2 + (0 : Int32))), (0, .ref (o 0)), (1, .int a1), (3, .int x3)]) hx hb dX6_orderOf_55 rfl hl (by decide) rfl (fun ls hl => ?_)
          refine lv_iinc (v := (x3 + (1 : Int32))) (lv' := [(3, .int (x3 + (1 : Int32))), (2, .int (x2 + (0 : Int32))), (0, .ref (o 0)), (1, .int a1)]) hx hb dX6_orderOf_56 hl (k := 3) rfl (congrArg (HAdd.hAdd x3) (by decide)) (by decide) rfl (fun ls hl => ?_)
          refine lv_goto (tgt := 4) hx hb dX6_orderOf_59 (by decide) ?_
          exact ih4 (x2 + (0 : Int32)) (x3 + (1 : Int32)) _ _ _ h hP hS (lv_sub hl [2, 3, 1, 0] rfl)
        · have h := ifn c4 h
          refine lv_aload_n hx hb dX6_orderOf_22 rfl (lv_at hl 0 rfl) ?_
          refine va_get (D := D) (ci := 7) (v := .ref (o 1)) (C := RX6) (T := TX6) (N := 22) hx hb hts inlX6 hown hK hP 0 rfl rfl 0 (by decide) (hts _ q_4_5) (fun _ h9 => h9) rfl dX6_orderOf_23 ?_
          refine lv_iload_n hx hb dX6_orderOf_26 rfl (lv_at hl 3 rfl) ?_
          obtain ⟨q5, e5, h⟩ := bnd_some h
          refine s_call (As := [.int x3]) (rest := [.ref (o 1), .int x2]) (c_X6_at l x3 q5 e5) B k_X6_at q_11_4 rfl ⟨Nat.le_of_ble_eq_true rfl, Nat.le_of_ble_eq_true rfl⟩ ⟨Nat.le_refl _, Nat.le_refl _⟩ hl.1 rfl (Nat.le_of_ble_eq_true rfl) dX6_orderOf_27 ?_
          refine lv_bipush (v := (12 : Int32)) hx hb dX6_orderOf_30 (by decide) ?_
          refine lv_iadd hx hb dX6_orderOf_32 ?_
          obtain ⟨g6, h⟩ := grd_some h
          refine va_iald hx hb hK hP 1 0 rfl rfl (inb_in g6) dX6_orderOf_33 ?_
          refine lv_aload_n hx hb dX6_orderOf_34 rfl (lv_at hl 0 rfl) ?_
          refine va_get (D := D) (ci := 7) (v := .ref (o 1)) (C := RX6) (T := TX6) (N := 22) hx hb hts inlX6 hown hK hP 0 rfl rfl 0 (by decide) (hts _ q_4_5) (fun _ h9 => h9) rfl dX6_orderOf_35 ?_
          refine lv_iload_n hx hb dX6_orderOf_38 rfl (lv_at hl 1 rfl) ?_
          obtain ⟨q7, e7, h⟩ := bnd_some h
          refine s_call (As := [.int a1]) (rest := [.ref (o 1), .int (m_s (q5 + (12 : Int32)).toNatClampNeg), .int x2]) (c_X6_at l a1 q7 e7) B k_X6_at q_11_4 rfl ⟨Nat.le_of_ble_eq_true rfl, Nat.le_of_ble_eq_true rfl⟩ ⟨Nat.le_refl _, Nat.le_refl _⟩ hl.1 rfl (Nat.le_of_ble_eq_true rfl) dX6_orderOf_39 ?_
          refine lv_bipush (v := (12 : Int32)) hx hb dX6_orderOf_42 (by decide) ?_
          refine lv_iadd hx hb dX6_orderOf_44 ?_
          obtain ⟨g8, h⟩ := grd_some h
          refine va_iald hx hb hK hP 1 0 rfl rfl (inb_in g8) dX6_orderOf_45 ?_
          refine lv_icmp_ge (tgt := 53) hx hb dX6_orderOf_46 (by decide) (fun c9 => ?_) (fun c9 => ?_)
          · have h := ift c9 h
            refine lv_iconst (v := (0 : Int32)) hx hb dX6_orderOf_53 (by decide) ?_
            refine lv_iadd hx hb dX6_orderOf_54 ?_
            refine lv_istore_n (lv' := [(2, .int (x2 + (0 : Int32))), (0, .ref (o 0)), (1, .int a1), (3, .int x3)]) hx hb dX6_orderOf_55 rfl hl (by decide) rfl (fun ls hl => ?_)
            refine lv_iinc (v := (x3 + (1 : Int32))) (lv' := [(3, .int (x3 + (1 : Int32))), (2, .int (x2 + (0 : Int32))), (0, .ref (o 0)), (1, .int a1)]) hx hb dX6_orderOf_56 hl (k := 3) rfl (congrArg (HAdd.hAdd x3) (by decide)) (by decide) rfl (fun ls hl => ?_)
            refine lv_goto (tgt := 4) hx hb dX6_orderOf_59 (by decide) ?_
            exact ih4 (x2 + (0 : Int32)) (x3 + (1 : Int32)) _ _ _ h hP hS (lv_sub hl [2, 3, 1, 0] rfl)
          · have h := ifn c9 h
            refine lv_iconst (v := (1 : Int32)) hx hb dX6_orderOf_49 (by decide) ?_
            refine lv_goto (tgt := 54) hx hb dX6_orderOf_50 (by decide) ?_
            refine lv_iadd hx hb dX6_orderOf_54 ?_
            refine lv_istore_n (lv' := [(2, .int (x2 + (1 : Int32))), (0, .ref (o 0)), (1, .int a1), (3, .int x3)]) hx hb dX6_orderOf_55 rfl hl (by decide) rfl (fun ls hl => ?_)
            refine lv_iinc (v := (x3 + (1 : Int32))) (lv' := [(3, .int (x3 + (1 : Int32))), (2, .int (x2 + (1 : Int32))), (0, .ref (o 0)), (1, .int a1)]) hx hb dX6_orderOf_56 hl (k := 3) rfl (congrArg (HAdd.hAdd x3) (by decide)) (by decide) rfl (fun ls hl => ?_)
            refine lv_goto (tgt := 4) hx hb dX6_orderOf_59 (by decide) ?_
            exact ih4 (x2 + (1 : Int32)) (x3 + (1 : Int32)) _ _ _ h hP hS (lv_sub hl [2, 3, 1, 0] rfl)
  unfold f_X6_orderOf at h
  refine lv_iconst (v := (0 : Int32)) hx hb dX6_orderOf_0 (by decide) ?_
  refine lv_istore_n (lv' := [(2, .int (0 : Int32)), (0, .ref (o 0)), (1, .int a1)]) hx hb dX6_orderOf_1 rfl hl (by decide) rfl (fun ls hl => ?_)
  refine lv_iconst (v := (0 : Int32)) hx hb dX6_orderOf_2 (by decide) ?_
  refine lv_istore_n (lv' := [(3, .int (0 : Int32)), (2, .int (0 : Int32)), (0, .ref (o 0)), (1, .int a1)]) hx hb dX6_orderOf_3 rfl hl (by decide) rfl (fun ls hl => ?_)
  exact hL4 1024 (0 : Int32) (0 : Int32) _ _ _ h hP hS (lv_sub hl [2, 3, 1, 0] rfl)

def f_X6_over (a1 : Int32) (m_s : Nat → Int32) (m_order : Nat → Int32) (m_best : Nat → Int32) (m_many : Int32) : Option (Int64 × (Nat → Int32) × (Nat → Int32) × (Int32)) :=
  bnd (f_X6_costAt a1 (0 : Int32) m_s m_order m_many) (fun q1 => bnd (f_X6_at a1 ) (fun q2 => grd (inb q2 100) (bnd (f_X6_finds (m_s q2.toNatClampNeg) (0 : Int32) m_s q1.2.1 m_best q1.2.2) (fun q4 => some ((q1.1 - q4.1), q4.2.1, q4.2.2.1, q4.2.2.2)))))
set_option maxRecDepth 100000 in
set_option maxHeartbeats 4000000 in
theorem c_X6_over (l : Launch) (D : va_G) (o : Nat → Nat) (cI cJ : ClassId) (a1 : Int32) (m_s : Nat → Int32) (m_past : Nat → Int32) (m_kept : Nat → Int32) (m_spare : Nat → Int32) (m_paid : Nat → Int64) (m_pastPaid : Nat → Int64) (m_keptPaid : Nat → Int64) (m_sparePaid : Nat → Int64) (m_isKept : Int32) (m_pasts : Int32) (m_runs : Int32) (m_pad : Nat → Int32) (m_typed : Int32) (m_isStopped : Int32) (m_stop : Nat → Int32) (m_order : Nat → Int32) (m_best : Nat → Int32) (m_many : Int32) (m_bySets : Nat → Int64) (m_spot : Int32) (m_deeds : Int32) (m_deed : Nat → Int32) (q : Int64 × (Nat → Int32) × (Nat → Int32) × (Int32)) (h : f_X6_over a1 m_s m_order m_best m_many = some q) : CF l yX6_over cX6_over 4 3 (some .long) D (tysMW cI cJ) [.ref (o 0), .int a1] (some (.long q.1)) (MW o cI cJ m_s m_past m_kept m_spare m_paid m_pastPaid m_keptPaid m_sparePaid m_isKept m_pasts m_runs m_pad m_typed m_isStopped m_stop m_order m_best m_many m_bySets m_spot m_deeds m_deed) (MW o cI cJ m_s m_past m_kept m_spare m_paid m_pastPaid m_keptPaid m_sparePaid m_isKept m_pasts m_runs m_pad m_typed m_isStopped m_stop q.2.1 q.2.2.1 q.2.2.2 m_bySets m_spot m_deeds m_deed) := by
  refine CF.mkL (by decide) (Nat.le_of_ble_eq_true rfl) ?_
  intro p e s m below meth c Q A B hK hDD hA hret hP hS ls hl
  have B0 := B
  obtain ⟨hx, hb, hml, hown, hts⟩ := B0
  have hl : lv_has ls 4 [(0, .ref (o 0)), (1, .int a1)] := hl
  unfold f_X6_over at h
  refine lv_aload_n hx hb dX6_over_0 rfl (lv_at hl 0 rfl) ?_
  refine lv_iload_n hx hb dX6_over_1 rfl (lv_at hl 1 rfl) ?_
  refine lv_iconst (v := (0 : Int32)) hx hb dX6_over_2 (by decide) ?_
  obtain ⟨q1, e1, h⟩ := bnd_some h
  refine f_call (As := [.int a1, .int (0 : Int32)]) (rest := []) (c_X6_costAt l D o cI cJ a1 (0 : Int32) m_s m_past m_kept m_spare m_paid m_pastPaid m_keptPaid m_sparePaid m_isKept m_pasts m_runs m_pad m_typed m_isStopped m_stop m_order m_best m_many m_bySets m_spot m_deeds m_deed q1 e1) B hK hDD hA hP hS rfl (va_recv hK hP (ci := 7) (q0 := 0) rfl rfl) k_X6_costAt q_19_15 rfl ⟨Nat.le_of_ble_eq_true rfl, Nat.le_of_ble_eq_true rfl⟩ ⟨Nat.le_refl _, Nat.le_refl _⟩ hl.1 rfl (Nat.le_of_ble_eq_true rfl) dX6_over_3 (fun H locs hP hS => ?_)
  refine lv_lstore_n (lv' := [(2, .long q1.1), (0, .ref (o 0)), (1, .int a1)]) hx hb dX6_over_6 rfl hl (by decide) rfl (fun ls hl => ?_)
  refine lv_lload_n hx hb dX6_over_7 rfl (lv_at hl 0 rfl) ?_
  refine lv_aload_n hx hb dX6_over_8 rfl (lv_at hl 1 rfl) ?_
  refine lv_aload_n hx hb dX6_over_9 rfl (lv_at hl 1 rfl) ?_
  refine va_get (D := D) (ci := 7) (v := .ref (o 1)) (C := RX6) (T := TX6) (N := 22) hx hb hts inlX6 hown hK hP 0 rfl rfl 0 (by decide) (hts _ q_4_5) (fun _ h9 => h9) rfl dX6_over_10 ?_
  refine lv_iload_n hx hb dX6_over_13 rfl (lv_at hl 2 rfl) ?_
  obtain ⟨q2, e2, h⟩ := bnd_some h
  refine s_call (As := [.int a1]) (rest := [.ref (o 1), .ref (o 0), .long q1.1]) (c_X6_at l a1 q2 e2) B k_X6_at q_11_4 rfl ⟨Nat.le_of_ble_eq_true rfl, Nat.le_of_ble_eq_true rfl⟩ ⟨Nat.le_refl _, Nat.le_refl _⟩ hl.1 rfl (Nat.le_of_ble_eq_true rfl) dX6_over_14 ?_
  obtain ⟨g3, h⟩ := grd_some h
  refine va_iald hx hb hK hP 1 0 rfl rfl (inb_in g3) dX6_over_17 ?_
  refine lv_iconst (v := (0 : Int32)) hx hb dX6_over_18 (by decide) ?_
  obtain ⟨q4, e4, h⟩ := bnd_some h
  refine f_call (As := [.int (m_s q2.toNatClampNeg), .int (0 : Int32)]) (rest := [.long q1.1]) (c_X6_finds l D o cI cJ (m_s q2.toNatClampNeg) (0 : Int32) m_s m_past m_kept m_spare m_paid m_pastPaid m_keptPaid m_sparePaid m_isKept m_pasts m_runs m_pad m_typed m_isStopped m_stop q1.2.1 m_best q1.2.2 m_bySets m_spot m_deeds m_deed q4 e4) B hK hDD hA hP hS rfl (va_recv hK hP (ci := 7) (q0 := 0) rfl rfl) k_X6_finds q_18_9 rfl ⟨Nat.le_of_ble_eq_true rfl, Nat.le_of_ble_eq_true rfl⟩ ⟨Nat.le_refl _, Nat.le_refl _⟩ hl.1 rfl (Nat.le_of_ble_eq_true rfl) dX6_over_19 (fun H locs hP hS => ?_)
  refine lv_lsub hx hb dX6_over_22 ?_
  obtain rfl := Option.some.inj h
  exact hret _ _ _ _ dX6_over_23 hP hS

def f_X6_plan (a1 : Int32) (a2 : Int32) (m_s : Nat → Int32) (m_order : Nat → Int32) (m_best : Nat → Int32) (m_many : Int32) : Option (Int32 × (Nat → Int32) × (Nat → Int32) × (Int32)) :=
  bnd (f_X6_isSet a1 ) (fun q1 => if q1 = (0 : Int32) then some ((-1 : Int32), m_order, m_best, m_many)
  else bnd (f_X6_in a2 (0 : Int32) (11 : Int32) ) (fun q3 => if q3 = (0 : Int32) then some ((-1 : Int32), m_order, m_best, m_many)
  else bnd (f_X6_slotOf a1 m_s) (fun q5 => if (0 : Int32) ≤ q5 then if a2 = (5 : Int32) then bnd (f_X6_costAt q5 (0 : Int32) m_s m_order m_many) (fun q8 => bnd (f_X6_cut q8.1 ) (fun q9 => some (q9, q8.2.1, m_best, q8.2.2)))
  else if a2 = (6 : Int32) then bnd (f_X6_costAt q5 (5 : Int32) m_s m_order m_many) (fun q11 => bnd (f_X6_cut q11.1 ) (fun q12 => some (q12, q11.2.1, m_best, q11.2.2)))
  else if a2 = (7 : Int32) then bnd (f_X6_at q5 ) (fun q14 => grd (inb (q14 + (11 : Int32)) 100) (some ((m_s (q14 + (11 : Int32)).toNatClampNeg), m_order, m_best, m_many)))
  else if a2 = (8 : Int32) then bnd (f_X6_at q5 ) (fun q17 => grd (inb (q17 + (13 : Int32)) 100) (some ((m_s (q17 + (13 : Int32)).toNatClampNeg), m_order, m_best, m_many)))
  else if a2 = (9 : Int32) then bnd (f_X6_over q5 m_s m_order m_best m_many) (fun q20 => bnd (f_X6_cut q20.1 ) (fun q21 => some (q21, q20.2.1, q20.2.2.1, q20.2.2.2)))
  else if a2 = (10 : Int32) then grd (inb (35 : Int32) 100) (bnd (f_X6_hasDrifted q5 (m_s (35 : Int32).toNatClampNeg) m_s) (fun q24 => if q24 = (0 : Int32) then some ((0 : Int32), m_order, m_best, m_many)
  else some ((1 : Int32), m_order, m_best, m_many)))
  else if a2 = (11 : Int32) then bnd (f_X6_orderOf q5 m_s) (fun q27 => some (q27, m_order, m_best, m_many))
  else bnd (f_X6_tablesIn a1 ) (fun q28 => if q28 ≤ a2 then some ((-4 : Int32), m_order, m_best, m_many)
  else bnd (f_X6_at q5 ) (fun q30 => grd (inb ((q30 + (1 : Int32)) + a2) 100) (some ((m_s ((q30 + (1 : Int32)) + a2).toNatClampNeg), m_order, m_best, m_many))))
  else some ((-4 : Int32), m_order, m_best, m_many))))
set_option maxRecDepth 100000 in
set_option maxHeartbeats 4000000 in
theorem c_X6_plan (l : Launch) (D : va_G) (o : Nat → Nat) (cI cJ : ClassId) (a1 : Int32) (a2 : Int32) (m_s : Nat → Int32) (m_past : Nat → Int32) (m_kept : Nat → Int32) (m_spare : Nat → Int32) (m_paid : Nat → Int64) (m_pastPaid : Nat → Int64) (m_keptPaid : Nat → Int64) (m_sparePaid : Nat → Int64) (m_isKept : Int32) (m_pasts : Int32) (m_runs : Int32) (m_pad : Nat → Int32) (m_typed : Int32) (m_isStopped : Int32) (m_stop : Nat → Int32) (m_order : Nat → Int32) (m_best : Nat → Int32) (m_many : Int32) (m_bySets : Nat → Int64) (m_spot : Int32) (m_deeds : Int32) (m_deed : Nat → Int32) (q : Int32 × (Nat → Int32) × (Nat → Int32) × (Int32)) (h : f_X6_plan a1 a2 m_s m_order m_best m_many = some q) : CF l yX6_plan cX6_plan 4 4 (some .int) D (tysMW cI cJ) [.ref (o 0), .int a1, .int a2] (some (.int q.1)) (MW o cI cJ m_s m_past m_kept m_spare m_paid m_pastPaid m_keptPaid m_sparePaid m_isKept m_pasts m_runs m_pad m_typed m_isStopped m_stop m_order m_best m_many m_bySets m_spot m_deeds m_deed) (MW o cI cJ m_s m_past m_kept m_spare m_paid m_pastPaid m_keptPaid m_sparePaid m_isKept m_pasts m_runs m_pad m_typed m_isStopped m_stop q.2.1 q.2.2.1 q.2.2.2 m_bySets m_spot m_deeds m_deed) := by
  refine CF.mkI (by decide) (Nat.le_of_ble_eq_true rfl) ?_
  intro p e s m below meth c Q A B hK hDD hA hret hP hS ls hl
  have B0 := B
  obtain ⟨hx, hb, hml, hown, hts⟩ := B0
  have hl : lv_has ls 4 [(0, .ref (o 0)), (1, .int a1), (2, .int a2)] := hl
  unfold f_X6_plan at h
  refine lv_iload_n hx hb dX6_plan_0 rfl (lv_at hl 1 rfl) ?_
  obtain ⟨q1, e1, h⟩ := bnd_some h
  refine s_call (As := [.int a1]) (rest := []) (c_X6_isSet l a1 q1 e1) B k_X6_isSet q_17_13 rfl ⟨Nat.le_of_ble_eq_true rfl, Nat.le_of_ble_eq_true rfl⟩ ⟨Nat.le_refl _, Nat.le_refl _⟩ hl.1 rfl (Nat.le_of_ble_eq_true rfl) dX6_plan_1 ?_
  refine lv_if_eq (tgt := 17) hx hb dX6_plan_4 (by decide) (fun c2 => ?_) (fun c2 => ?_)
  · have h := ift c2 h
    refine lv_iconst (v := (-1 : Int32)) hx hb dX6_plan_17 (by decide) ?_
    obtain rfl := Option.some.inj h
    exact hret _ _ _ _ (vp_nar_int _) dX6_plan_18 hP hS
  · have h := ifn c2 h
    refine lv_iload_n hx hb dX6_plan_7 rfl (lv_at hl 2 rfl) ?_
    refine lv_iconst (v := (0 : Int32)) hx hb dX6_plan_8 (by decide) ?_
    refine lv_bipush (v := (11 : Int32)) hx hb dX6_plan_9 (by decide) ?_
    obtain ⟨q3, e3, h⟩ := bnd_some h
    refine s_call (As := [.int a2, .int (0 : Int32), .int (11 : Int32)]) (rest := []) (c_X6_in l a2 (0 : Int32) (11 : Int32) q3 e3) B k_X6_in q_9_15 rfl ⟨Nat.le_of_ble_eq_true rfl, Nat.le_of_ble_eq_true rfl⟩ ⟨Nat.le_refl _, Nat.le_refl _⟩ hl.1 rfl (Nat.le_of_ble_eq_true rfl) dX6_plan_11 ?_
    refine lv_if_ne (tgt := 19) hx hb dX6_plan_14 (by decide) (fun c4 => ?_) (fun c4 => ?_)
    · have h := ifn c4 h
      refine lv_aload_n hx hb dX6_plan_19 rfl (lv_at hl 0 rfl) ?_
      refine lv_iload_n hx hb dX6_plan_20 rfl (lv_at hl 1 rfl) ?_
      obtain ⟨q5, e5, h⟩ := bnd_some h
      refine f_call (As := [.int a1]) (rest := []) (c_X6_slotOf l D o cI cJ a1 m_s m_past m_kept m_spare m_paid m_pastPaid m_keptPaid m_sparePaid m_isKept m_pasts m_runs m_pad m_typed m_isStopped m_stop m_order m_best m_many m_bySets m_spot m_deeds m_deed q5 e5) B hK hDD hA hP hS rfl (va_recv hK hP (ci := 7) (q0 := 0) rfl rfl) k_X6_slotOf q_17_21 rfl ⟨Nat.le_of_ble_eq_true rfl, Nat.le_of_ble_eq_true rfl⟩ ⟨Nat.le_refl _, Nat.le_refl _⟩ hl.1 rfl (Nat.le_of_ble_eq_true rfl) dX6_plan_21 (fun H locs hP hS => ?_)
      refine lv_istore_n (lv' := [(3, .int q5), (0, .ref (o 0)), (1, .int a1), (2, .int a2)]) hx hb dX6_plan_24 rfl hl (by decide) rfl (fun ls hl => ?_)
      refine lv_iload_n hx hb dX6_plan_25 rfl (lv_at hl 0 rfl) ?_
      refine lv_if_ge (tgt := 32) hx hb dX6_plan_26 (by decide) (fun c6 => ?_) (fun c6 => ?_)
      · have h := ift c6 h
        refine lv_iload_n hx hb dX6_plan_32 rfl (lv_at hl 3 rfl) ?_
        by_cases c7 : a2 = (5 : Int32)
        · have h := ift c7 h
          refine lv_tableIn (off := 43) (tgt := 76) hx hb dX6_plan_33 (by rw [c7]; decide) (by rw [c7]; decide) (by rw [c7]; rfl) (by decide) ?_
          refine lv_aload_n hx hb dX6_plan_76 rfl (lv_at hl 1 rfl) ?_
          refine lv_iload_n hx hb dX6_plan_77 rfl (lv_at hl 0 rfl) ?_
          refine lv_iconst (v := (0 : Int32)) hx hb dX6_plan_78 (by decide) ?_
          obtain ⟨q8, e8, h⟩ := bnd_some h
          refine f_call (As := [.int q5, .int (0 : Int32)]) (rest := []) (c_X6_costAt l D o cI cJ q5 (0 : Int32) m_s m_past m_kept m_spare m_paid m_pastPaid m_keptPaid m_sparePaid m_isKept m_pasts m_runs m_pad m_typed m_isStopped m_stop m_order m_best m_many m_bySets m_spot m_deeds m_deed q8 e8) B hK hDD hA hP hS rfl (va_recv hK hP (ci := 7) (q0 := 0) rfl rfl) k_X6_costAt q_19_15 rfl ⟨Nat.le_of_ble_eq_true rfl, Nat.le_of_ble_eq_true rfl⟩ ⟨Nat.le_refl _, Nat.le_refl _⟩ hl.1 rfl (Nat.le_of_ble_eq_true rfl) dX6_plan_79 (fun H locs hP hS => ?_)
          obtain ⟨q9, e9, h⟩ := bnd_some h
          refine s_call (As := [.long q8.1]) (rest := []) (c_X6_cut l q8.1 q9 e9) B k_X6_cut q_19_19 rfl ⟨Nat.le_of_ble_eq_true rfl, Nat.le_of_ble_eq_true rfl⟩ ⟨Nat.le_refl _, Nat.le_refl _⟩ hl.1 rfl (Nat.le_of_ble_eq_true rfl) dX6_plan_82 ?_
          obtain rfl := Option.some.inj h
          exact hret _ _ _ _ (vp_nar_int _) dX6_plan_85 hP hS
        · have h := ifn c7 h
          by_cases c10 : a2 = (6 : Int32)
          · have h := ift c10 h
            refine lv_tableIn (off := 53) (tgt := 86) hx hb dX6_plan_33 (by rw [c10]; decide) (by rw [c10]; decide) (by rw [c10]; rfl) (by decide) ?_
            refine lv_aload_n hx hb dX6_plan_86 rfl (lv_at hl 1 rfl) ?_
            refine lv_iload_n hx hb dX6_plan_87 rfl (lv_at hl 0 rfl) ?_
            refine lv_iconst (v := (5 : Int32)) hx hb dX6_plan_88 (by decide) ?_
            obtain ⟨q11, e11, h⟩ := bnd_some h
            refine f_call (As := [.int q5, .int (5 : Int32)]) (rest := []) (c_X6_costAt l D o cI cJ q5 (5 : Int32) m_s m_past m_kept m_spare m_paid m_pastPaid m_keptPaid m_sparePaid m_isKept m_pasts m_runs m_pad m_typed m_isStopped m_stop m_order m_best m_many m_bySets m_spot m_deeds m_deed q11 e11) B hK hDD hA hP hS rfl (va_recv hK hP (ci := 7) (q0 := 0) rfl rfl) k_X6_costAt q_19_15 rfl ⟨Nat.le_of_ble_eq_true rfl, Nat.le_of_ble_eq_true rfl⟩ ⟨Nat.le_refl _, Nat.le_refl _⟩ hl.1 rfl (Nat.le_of_ble_eq_true rfl) dX6_plan_89 (fun H locs hP hS => ?_)
            obtain ⟨q12, e12, h⟩ := bnd_some h
            refine s_call (As := [.long q11.1]) (rest := []) (c_X6_cut l q11.1 q12 e12) B k_X6_cut q_19_19 rfl ⟨Nat.le_of_ble_eq_true rfl, Nat.le_of_ble_eq_true rfl⟩ ⟨Nat.le_refl _, Nat.le_refl _⟩ hl.1 rfl (Nat.le_of_ble_eq_true rfl) dX6_plan_92 ?_
            obtain rfl := Option.some.inj h
            exact hret _ _ _ _ (vp_nar_int _) dX6_plan_95 hP hS
          · have h := ifn c10 h
            by_cases c13 : a2 = (7 : Int32)
            · have h := ift c13 h
              refine lv_tableIn (off := 63) (tgt := 96) hx hb dX6_plan_33 (by rw [c13]; decide) (by rw [c13]; decide) (by rw [c13]; rfl) (by decide) ?_
              refine lv_aload_n hx hb dX6_plan_96 rfl (lv_at hl 1 rfl) ?_
              refine va_get (D := D) (ci := 7) (v := .ref (o 1)) (C := RX6) (T := TX6) (N := 22) hx hb hts inlX6 hown hK hP 0 rfl rfl 0 (by decide) (hts _ q_4_5) (fun _ h9 => h9) rfl dX6_plan_97 ?_
              refine lv_iload_n hx hb dX6_plan_100 rfl (lv_at hl 0 rfl) ?_
              obtain ⟨q14, e14, h⟩ := bnd_some h
              refine s_call (As := [.int q5]) (rest := [.ref (o 1)]) (c_X6_at l q5 q14 e14) B k_X6_at q_11_4 rfl ⟨Nat.le_of_ble_eq_true rfl, Nat.le_of_ble_eq_true rfl⟩ ⟨Nat.le_refl _, Nat.le_refl _⟩ hl.1 rfl (Nat.le_of_ble_eq_true rfl) dX6_plan_101 ?_
              refine lv_bipush (v := (11 : Int32)) hx hb dX6_plan_104 (by decide) ?_
              refine lv_iadd hx hb dX6_plan_106 ?_
              obtain ⟨g15, h⟩ := grd_some h
              refine va_iald hx hb hK hP 1 0 rfl rfl (inb_in g15) dX6_plan_107 ?_
              obtain rfl := Option.some.inj h
              exact hret _ _ _ _ (vp_nar_int _) dX6_plan_108 hP hS
            · have h := ifn c13 h
              by_cases c16 : a2 = (8 : Int32)
              · have h := ift c16 h
                refine lv_tableIn (off := 76) (tgt := 109) hx hb dX6_plan_33 (by rw [c16]; decide) (by rw [c16]; decide) (by rw [c16]; rfl) (by decide) ?_
                refine lv_aload_n hx hb dX6_plan_109 rfl (lv_at hl 1 rfl) ?_
                refine va_get (D := D) (ci := 7) (v := .ref (o 1)) (C := RX6) (T := TX6) (N := 22) hx hb hts inlX6 hown hK hP 0 rfl rfl 0 (by decide) (hts _ q_4_5) (fun _ h9 => h9) rfl dX6_plan_110 ?_
                refine lv_iload_n hx hb dX6_plan_113 rfl (lv_at hl 0 rfl) ?_
                obtain ⟨q17, e17, h⟩ := bnd_some h
                refine s_call (As := [.int q5]) (rest := [.ref (o 1)]) (c_X6_at l q5 q17 e17) B k_X6_at q_11_4 rfl ⟨Nat.le_of_ble_eq_true rfl, Nat.le_of_ble_eq_true rfl⟩ ⟨Nat.le_refl _, Nat.le_refl _⟩ hl.1 rfl (Nat.le_of_ble_eq_true rfl) dX6_plan_114 ?_
                refine lv_bipush (v := (13 : Int32)) hx hb dX6_plan_117 (by decide) ?_
                refine lv_iadd hx hb dX6_plan_119 ?_
                obtain ⟨g18, h⟩ := grd_some h
                refine va_iald hx hb hK hP 1 0 rfl rfl (inb_in g18) dX6_plan_120 ?_
                obtain rfl := Option.some.inj h
                exact hret _ _ _ _ (vp_nar_int _) dX6_plan_121 hP hS
              · have h := ifn c16 h
                by_cases c19 : a2 = (9 : Int32)
                · have h := ift c19 h
                  refine lv_tableIn (off := 89) (tgt := 122) hx hb dX6_plan_33 (by rw [c19]; decide) (by rw [c19]; decide) (by rw [c19]; rfl) (by decide) ?_
                  refine lv_aload_n hx hb dX6_plan_122 rfl (lv_at hl 1 rfl) ?_
                  refine lv_iload_n hx hb dX6_plan_123 rfl (lv_at hl 0 rfl) ?_
                  obtain ⟨q20, e20, h⟩ := bnd_some h
                  refine f_call (As := [.int q5]) (rest := []) (c_X6_over l D o cI cJ q5 m_s m_past m_kept m_spare m_paid m_pastPaid m_keptPaid m_sparePaid m_isKept m_pasts m_runs m_pad m_typed m_isStopped m_stop m_order m_best m_many m_bySets m_spot m_deeds m_deed q20 e20) B hK hDD hA hP hS rfl (va_recv hK hP (ci := 7) (q0 := 0) rfl rfl) k_X6_over q_31_4 rfl ⟨Nat.le_of_ble_eq_true rfl, Nat.le_of_ble_eq_true rfl⟩ ⟨Nat.le_refl _, Nat.le_refl _⟩ hl.1 rfl (Nat.le_of_ble_eq_true rfl) dX6_plan_124 (fun H locs hP hS => ?_)
                  obtain ⟨q21, e21, h⟩ := bnd_some h
                  refine s_call (As := [.long q20.1]) (rest := []) (c_X6_cut l q20.1 q21 e21) B k_X6_cut q_19_19 rfl ⟨Nat.le_of_ble_eq_true rfl, Nat.le_of_ble_eq_true rfl⟩ ⟨Nat.le_refl _, Nat.le_refl _⟩ hl.1 rfl (Nat.le_of_ble_eq_true rfl) dX6_plan_127 ?_
                  obtain rfl := Option.some.inj h
                  exact hret _ _ _ _ (vp_nar_int _) dX6_plan_130 hP hS
                · have h := ifn c19 h
                  by_cases c22 : a2 = (10 : Int32)
                  · have h := ift c22 h
                    refine lv_tableIn (off := 98) (tgt := 131) hx hb dX6_plan_33 (by rw [c22]; decide) (by rw [c22]; decide) (by rw [c22]; rfl) (by decide) ?_
                    refine lv_aload_n hx hb dX6_plan_131 rfl (lv_at hl 1 rfl) ?_
                    refine lv_iload_n hx hb dX6_plan_132 rfl (lv_at hl 0 rfl) ?_
                    refine lv_aload_n hx hb dX6_plan_133 rfl (lv_at hl 1 rfl) ?_
                    refine va_get (D := D) (ci := 7) (v := .ref (o 1)) (C := RX6) (T := TX6) (N := 22) hx hb hts inlX6 hown hK hP 0 rfl rfl 0 (by decide) (hts _ q_4_5) (fun _ h9 => h9) rfl dX6_plan_134 ?_
                    refine lv_bipush (v := (35 : Int32)) hx hb dX6_plan_137 (by decide) ?_
                    obtain ⟨g23, h⟩ := grd_some h
                    refine va_iald hx hb hK hP 1 0 rfl rfl (inb_in g23) dX6_plan_139 ?_
                    obtain ⟨q24, e24, h⟩ := bnd_some h
                    refine f_call (As := [.int q5, .int (m_s (35 : Int32).toNatClampNeg)]) (rest := []) (c_X6_hasDrifted l D o cI cJ q5 (m_s (35 : Int32).toNatClampNeg) m_s m_past m_kept m_spare m_paid m_pastPaid m_keptPaid m_sparePaid m_isKept m_pasts m_runs m_pad m_typed m_isStopped m_stop m_order m_best m_many m_bySets m_spot m_deeds m_deed q24 e24) B hK hDD hA hP hS rfl (va_recv hK hP (ci := 7) (q0 := 0) rfl rfl) k_X6_hasDrifted q_12_20 rfl ⟨Nat.le_of_ble_eq_true rfl, Nat.le_of_ble_eq_true rfl⟩ ⟨Nat.le_refl _, Nat.le_refl _⟩ hl.1 rfl (Nat.le_of_ble_eq_true rfl) dX6_plan_140 (fun H locs hP hS => ?_)
                    refine lv_if_eq (tgt := 150) hx hb dX6_plan_143 (by decide) (fun c25 => ?_) (fun c25 => ?_)
                    · have h := ift c25 h
                      refine lv_iconst (v := (0 : Int32)) hx hb dX6_plan_150 (by decide) ?_
                      obtain rfl := Option.some.inj h
                      exact hret _ _ _ _ (vp_nar_int _) dX6_plan_151 hP hS
                    · have h := ifn c25 h
                      refine lv_iconst (v := (1 : Int32)) hx hb dX6_plan_146 (by decide) ?_
                      refine lv_goto (tgt := 151) hx hb dX6_plan_147 (by decide) ?_
                      obtain rfl := Option.some.inj h
                      exact hret _ _ _ _ (vp_nar_int _) dX6_plan_151 hP hS
                  · have h := ifn c22 h
                    by_cases c26 : a2 = (11 : Int32)
                    · have h := ift c26 h
                      refine lv_tableIn (off := 119) (tgt := 152) hx hb dX6_plan_33 (by rw [c26]; decide) (by rw [c26]; decide) (by rw [c26]; rfl) (by decide) ?_
                      refine lv_aload_n hx hb dX6_plan_152 rfl (lv_at hl 1 rfl) ?_
                      refine lv_iload_n hx hb dX6_plan_153 rfl (lv_at hl 0 rfl) ?_
                      obtain ⟨q27, e27, h⟩ := bnd_some h
                      refine f_call (As := [.int q5]) (rest := []) (c_X6_orderOf l D o cI cJ q5 m_s m_past m_kept m_spare m_paid m_pastPaid m_keptPaid m_sparePaid m_isKept m_pasts m_runs m_pad m_typed m_isStopped m_stop m_order m_best m_many m_bySets m_spot m_deeds m_deed q27 e27) B hK hDD hA hP hS rfl (va_recv hK hP (ci := 7) (q0 := 0) rfl rfl) k_X6_orderOf q_31_8 rfl ⟨Nat.le_of_ble_eq_true rfl, Nat.le_of_ble_eq_true rfl⟩ ⟨Nat.le_refl _, Nat.le_refl _⟩ hl.1 rfl (Nat.le_of_ble_eq_true rfl) dX6_plan_154 (fun H locs hP hS => ?_)
                      obtain rfl := Option.some.inj h
                      exact hret _ _ _ _ (vp_nar_int _) dX6_plan_157 hP hS
                    · have h := ifn c26 h
                      have n7 := lv_neT (k := (5 : Int32)) (a := 5) c7 (by decide)
                      have n10 := lv_neT (k := (6 : Int32)) (a := 6) c10 (by decide)
                      have n13 := lv_neT (k := (7 : Int32)) (a := 7) c13 (by decide)
                      have n16 := lv_neT (k := (8 : Int32)) (a := 8) c16 (by decide)
                      have n19 := lv_neT (k := (9 : Int32)) (a := 9) c19 (by decide)
                      have n22 := lv_neT (k := (10 : Int32)) (a := 10) c22 (by decide)
                      have n26 := lv_neT (k := (11 : Int32)) (a := 11) c26 (by decide)
                      refine lv_tableOut (tgt := 158) hx hb dX6_plan_33 (by omega) (by decide) ?_
                      refine lv_iload_n hx hb dX6_plan_158 rfl (lv_at hl 3 rfl) ?_
                      refine lv_iload_n hx hb dX6_plan_159 rfl (lv_at hl 2 rfl) ?_
                      obtain ⟨q28, e28, h⟩ := bnd_some h
                      refine s_call (As := [.int a1]) (rest := [.int a2]) (c_X6_tablesIn l a1 q28 e28) B k_X6_tablesIn q_18_1 rfl ⟨Nat.le_of_ble_eq_true rfl, Nat.le_of_ble_eq_true rfl⟩ ⟨Nat.le_refl _, Nat.le_refl _⟩ hl.1 rfl (Nat.le_of_ble_eq_true rfl) dX6_plan_160 ?_
                      refine lv_icmp_ge (tgt := 182) hx hb dX6_plan_163 (by decide) (fun c29 => ?_) (fun c29 => ?_)
                      · have h := ift c29 h
                        refine lv_bipush (v := (-4 : Int32)) hx hb dX6_plan_182 (by decide) ?_
                        obtain rfl := Option.some.inj h
                        exact hret _ _ _ _ (vp_nar_int _) dX6_plan_184 hP hS
                      · have h := ifn c29 h
                        refine lv_aload_n hx hb dX6_plan_166 rfl (lv_at hl 1 rfl) ?_
                        refine va_get (D := D) (ci := 7) (v := .ref (o 1)) (C := RX6) (T := TX6) (N := 22) hx hb hts inlX6 hown hK hP 0 rfl rfl 0 (by decide) (hts _ q_4_5) (fun _ h9 => h9) rfl dX6_plan_167 ?_
                        refine lv_iload_n hx hb dX6_plan_170 rfl (lv_at hl 0 rfl) ?_
                        obtain ⟨q30, e30, h⟩ := bnd_some h
                        refine s_call (As := [.int q5]) (rest := [.ref (o 1)]) (c_X6_at l q5 q30 e30) B k_X6_at q_11_4 rfl ⟨Nat.le_of_ble_eq_true rfl, Nat.le_of_ble_eq_true rfl⟩ ⟨Nat.le_refl _, Nat.le_refl _⟩ hl.1 rfl (Nat.le_of_ble_eq_true rfl) dX6_plan_171 ?_
                        refine lv_iconst (v := (1 : Int32)) hx hb dX6_plan_174 (by decide) ?_
                        refine lv_iadd hx hb dX6_plan_175 ?_
                        refine lv_iload_n hx hb dX6_plan_176 rfl (lv_at hl 3 rfl) ?_
                        refine lv_iadd hx hb dX6_plan_177 ?_
                        obtain ⟨g31, h⟩ := grd_some h
                        refine va_iald hx hb hK hP 1 0 rfl rfl (inb_in g31) dX6_plan_178 ?_
                        refine lv_goto (tgt := 184) hx hb dX6_plan_179 (by decide) ?_
                        obtain rfl := Option.some.inj h
                        exact hret _ _ _ _ (vp_nar_int _) dX6_plan_184 hP hS
      · have h := ifn c6 h
        refine lv_bipush (v := (-4 : Int32)) hx hb dX6_plan_29 (by decide) ?_
        obtain rfl := Option.some.inj h
        exact hret _ _ _ _ (vp_nar_int _) dX6_plan_31 hP hS
    · have h := ift c4 h
      refine lv_iconst (v := (-1 : Int32)) hx hb dX6_plan_17 (by decide) ?_
      obtain rfl := Option.some.inj h
      exact hret _ _ _ _ (vp_nar_int _) dX6_plan_18 hP hS

def f_X6_plans_L4b  (m_s : Nat → Int32)  (k4 : Int32 → Int32 → Option (Int32)) (x1 : Int32) (x2 : Int32) : Option (Int32) :=
  if (4 : Int32) ≤ x2 then some x1
  else bnd (f_X6_at x2 ) (fun q2 => grd (inb q2 100) (if (m_s q2.toNatClampNeg) ≤ (0 : Int32) then k4 (x1 + (0 : Int32)) (x2 + (1 : Int32))
  else k4 (x1 + (1 : Int32)) (x2 + (1 : Int32))))
def f_X6_plans_L4  (m_s : Nat → Int32)  : Nat → Int32 → Int32 → Option (Int32)
  | 0 => fun _ _ => none
  | n + 1 => f_X6_plans_L4b m_s  (f_X6_plans_L4 m_s  n)
def f_X6_plans  (m_s : Nat → Int32) : Option (Int32) :=
  f_X6_plans_L4 m_s  1024 (0 : Int32) (0 : Int32)
set_option maxRecDepth 100000 in
set_option maxHeartbeats 4000000 in
theorem c_X6_plans (l : Launch) (D : va_G) (o : Nat → Nat) (cI cJ : ClassId)  (m_s : Nat → Int32) (m_past : Nat → Int32) (m_kept : Nat → Int32) (m_spare : Nat → Int32) (m_paid : Nat → Int64) (m_pastPaid : Nat → Int64) (m_keptPaid : Nat → Int64) (m_sparePaid : Nat → Int64) (m_isKept : Int32) (m_pasts : Int32) (m_runs : Int32) (m_pad : Nat → Int32) (m_typed : Int32) (m_isStopped : Int32) (m_stop : Nat → Int32) (m_order : Nat → Int32) (m_best : Nat → Int32) (m_many : Int32) (m_bySets : Nat → Int64) (m_spot : Int32) (m_deeds : Int32) (m_deed : Nat → Int32) (q : Int32) (h : f_X6_plans  m_s = some q) : CF l yX6_plans cX6_plans 3 1 (some .int) D (tysMW cI cJ) [.ref (o 0)] (some (.int q)) (MW o cI cJ m_s m_past m_kept m_spare m_paid m_pastPaid m_keptPaid m_sparePaid m_isKept m_pasts m_runs m_pad m_typed m_isStopped m_stop m_order m_best m_many m_bySets m_spot m_deeds m_deed) (MW o cI cJ m_s m_past m_kept m_spare m_paid m_pastPaid m_keptPaid m_sparePaid m_isKept m_pasts m_runs m_pad m_typed m_isStopped m_stop m_order m_best m_many m_bySets m_spot m_deeds m_deed) := by
  refine CF.mkI (by decide) (Nat.le_of_ble_eq_true rfl) ?_
  intro p e s m below meth c Q A B hK hDD hA hret hP hS ls hl
  have B0 := B
  obtain ⟨hx, hb, hml, hown, hts⟩ := B0
  have hl : lv_has ls 3 [(0, .ref (o 0))] := hl
  have hL4 : ∀ (n4 : Nat) (x1 : Int32) (x2 : Int32) (ls : Array Slot) (H : Heap) (locs : List Loc), f_X6_plans_L4 m_s  n4 x1 x2 = some q → va_P D vwCl (MW o cI cJ m_s m_past m_kept m_spare m_paid m_pastPaid m_keptPaid m_sparePaid m_isKept m_pasts m_runs m_pad m_typed m_isStopped m_stop m_order m_best m_many m_bySets m_spot m_deeds m_deed) H → va_S A s.heap H locs → lv_has ls 3 [(0, .ref (o 0)), (1, .int x1), (2, .int x2)] → W p l e (rmF 1 0 0) s m ([.ref (o 0)] : List Value).toArray below meth c H locs 0 0 Q (F0 m 4 ls []) := by
    intro n4
    induction n4 with
    | zero =>
      intro x1 x2 ls H locs h
      exact absurd (show (none : Option (Int32)) = some q from h) (by intro h; cases h)
    | succ n4 ih4 =>
      intro x1 x2 ls H locs h hP hS hl
      have h : f_X6_plans_L4b m_s  (f_X6_plans_L4 m_s  n4) x1 x2 = some q := h
      unfold f_X6_plans_L4b at h
      refine lv_iload_n hx hb dX6_plans_4 rfl (lv_at hl 2 rfl) ?_
      refine lv_iconst (v := (4 : Int32)) hx hb dX6_plans_5 (by decide) ?_
      refine lv_icmp_ge (tgt := 35) hx hb dX6_plans_6 (by decide) (fun c1 => ?_) (fun c1 => ?_)
      · have h := ift c1 h
        refine lv_iload_n hx hb dX6_plans_35 rfl (lv_at hl 1 rfl) ?_
        obtain rfl := Option.some.inj h
        exact hret _ _ _ _ (vp_nar_int _) dX6_plans_36 hP hS
      · have h := ifn c1 h
        refine lv_iload_n hx hb dX6_plans_9 rfl (lv_at hl 1 rfl) ?_
        refine lv_aload_n hx hb dX6_plans_10 rfl (lv_at hl 0 rfl) ?_
        refine va_get (D := D) (ci := 7) (v := .ref (o 1)) (C := RX6) (T := TX6) (N := 22) hx hb hts inlX6 hown hK hP 0 rfl rfl 0 (by decide) (hts _ q_4_5) (fun _ h9 => h9) rfl dX6_plans_11 ?_
        refine lv_iload_n hx hb dX6_plans_14 rfl (lv_at hl 2 rfl) ?_
        obtain ⟨q2, e2, h⟩ := bnd_some h
        refine s_call (As := [.int x2]) (rest := [.ref (o 1), .int x1]) (c_X6_at l x2 q2 e2) B k_X6_at q_11_4 rfl ⟨Nat.le_of_ble_eq_true rfl, Nat.le_of_ble_eq_true rfl⟩ ⟨Nat.le_refl _, Nat.le_refl _⟩ hl.1 rfl (Nat.le_of_ble_eq_true rfl) dX6_plans_15 ?_
        obtain ⟨g3, h⟩ := grd_some h
        refine va_iald hx hb hK hP 1 0 rfl rfl (inb_in g3) dX6_plans_18 ?_
        refine lv_if_le (tgt := 26) hx hb dX6_plans_19 (by decide) (fun c4 => ?_) (fun c4 => ?_)
        · have h := ift c4 h
          refine lv_iconst (v := (0 : Int32)) hx hb dX6_plans_26 (by decide) ?_
          refine lv_iadd hx hb dX6_plans_27 ?_
          refine lv_istore_n (lv' := [(1, .int (x1 + (0 : Int32))), (0, .ref (o 0)), (2, .int x2)]) hx hb dX6_plans_28 rfl hl (by decide) rfl (fun ls hl => ?_)
          refine lv_iinc (v := (x2 + (1 : Int32))) (lv' := [(2, .int (x2 + (1 : Int32))), (1, .int (x1 + (0 : Int32))), (0, .ref (o 0))]) hx hb dX6_plans_29 hl (k := 2) rfl (congrArg (HAdd.hAdd x2) (by decide)) (by decide) rfl (fun ls hl => ?_)
          refine lv_goto (tgt := 4) hx hb dX6_plans_32 (by decide) ?_
          exact ih4 (x1 + (0 : Int32)) (x2 + (1 : Int32)) _ _ _ h hP hS (lv_sub hl [2, 1, 0] rfl)
        · have h := ifn c4 h
          refine lv_iconst (v := (1 : Int32)) hx hb dX6_plans_22 (by decide) ?_
          refine lv_goto (tgt := 27) hx hb dX6_plans_23 (by decide) ?_
          refine lv_iadd hx hb dX6_plans_27 ?_
          refine lv_istore_n (lv' := [(1, .int (x1 + (1 : Int32))), (0, .ref (o 0)), (2, .int x2)]) hx hb dX6_plans_28 rfl hl (by decide) rfl (fun ls hl => ?_)
          refine lv_iinc (v := (x2 + (1 : Int32))) (lv' := [(2, .int (x2 + (1 : Int32))), (1, .int (x1 + (1 : Int32))), (0, .ref (o 0))]) hx hb dX6_plans_29 hl (k := 2) rfl (congrArg (HAdd.hAdd x2) (by decide)) (by decide) rfl (fun ls hl => ?_)
          refine lv_goto (tgt := 4) hx hb dX6_plans_32 (by decide) ?_
          exact ih4 (x1 + (1 : Int32)) (x2 + (1 : Int32)) _ _ _ h hP hS (lv_sub hl [2, 1, 0] rfl)
  unfold f_X6_plans at h
  refine lv_iconst (v := (0 : Int32)) hx hb dX6_plans_0 (by decide) ?_
  refine lv_istore_n (lv' := [(1, .int (0 : Int32)), (0, .ref (o 0))]) hx hb dX6_plans_1 rfl hl (by decide) rfl (fun ls hl => ?_)
  refine lv_iconst (v := (0 : Int32)) hx hb dX6_plans_2 (by decide) ?_
  refine lv_istore_n (lv' := [(2, .int (0 : Int32)), (1, .int (0 : Int32)), (0, .ref (o 0))]) hx hb dX6_plans_3 rfl hl (by decide) rfl (fun ls hl => ?_)
  exact hL4 1024 (0 : Int32) (0 : Int32) _ _ _ h hP hS (lv_sub hl [2, 1, 0] rfl)

def f_X6_pinned_L4b  (m_s : Nat → Int32)  (k4 : Int32 → Int32 → Option (Int32)) (x1 : Int32) (x2 : Int32) : Option (Int32) :=
  if (4 : Int32) ≤ x2 then some x1
  else bnd (f_X6_at x2 ) (fun q2 => grd (inb (q2 + (13 : Int32)) 100) (k4 (x1 + (m_s (q2 + (13 : Int32)).toNatClampNeg)) (x2 + (1 : Int32))))
def f_X6_pinned_L4  (m_s : Nat → Int32)  : Nat → Int32 → Int32 → Option (Int32)
  | 0 => fun _ _ => none
  | n + 1 => f_X6_pinned_L4b m_s  (f_X6_pinned_L4 m_s  n)
def f_X6_pinned  (m_s : Nat → Int32) : Option (Int32) :=
  f_X6_pinned_L4 m_s  1024 (0 : Int32) (0 : Int32)
set_option maxRecDepth 100000 in
set_option maxHeartbeats 4000000 in
theorem c_X6_pinned (l : Launch) (D : va_G) (o : Nat → Nat) (cI cJ : ClassId)  (m_s : Nat → Int32) (m_past : Nat → Int32) (m_kept : Nat → Int32) (m_spare : Nat → Int32) (m_paid : Nat → Int64) (m_pastPaid : Nat → Int64) (m_keptPaid : Nat → Int64) (m_sparePaid : Nat → Int64) (m_isKept : Int32) (m_pasts : Int32) (m_runs : Int32) (m_pad : Nat → Int32) (m_typed : Int32) (m_isStopped : Int32) (m_stop : Nat → Int32) (m_order : Nat → Int32) (m_best : Nat → Int32) (m_many : Int32) (m_bySets : Nat → Int64) (m_spot : Int32) (m_deeds : Int32) (m_deed : Nat → Int32) (q : Int32) (h : f_X6_pinned  m_s = some q) : CF l yX6_pinned cX6_pinned 3 1 (some .int) D (tysMW cI cJ) [.ref (o 0)] (some (.int q)) (MW o cI cJ m_s m_past m_kept m_spare m_paid m_pastPaid m_keptPaid m_sparePaid m_isKept m_pasts m_runs m_pad m_typed m_isStopped m_stop m_order m_best m_many m_bySets m_spot m_deeds m_deed) (MW o cI cJ m_s m_past m_kept m_spare m_paid m_pastPaid m_keptPaid m_sparePaid m_isKept m_pasts m_runs m_pad m_typed m_isStopped m_stop m_order m_best m_many m_bySets m_spot m_deeds m_deed) := by
  refine CF.mkI (by decide) (Nat.le_of_ble_eq_true rfl) ?_
  intro p e s m below meth c Q A B hK hDD hA hret hP hS ls hl
  have B0 := B
  obtain ⟨hx, hb, hml, hown, hts⟩ := B0
  have hl : lv_has ls 3 [(0, .ref (o 0))] := hl
  have hL4 : ∀ (n4 : Nat) (x1 : Int32) (x2 : Int32) (ls : Array Slot) (H : Heap) (locs : List Loc), f_X6_pinned_L4 m_s  n4 x1 x2 = some q → va_P D vwCl (MW o cI cJ m_s m_past m_kept m_spare m_paid m_pastPaid m_keptPaid m_sparePaid m_isKept m_pasts m_runs m_pad m_typed m_isStopped m_stop m_order m_best m_many m_bySets m_spot m_deeds m_deed) H → va_S A s.heap H locs → lv_has ls 3 [(0, .ref (o 0)), (1, .int x1), (2, .int x2)] → W p l e (rmF 1 0 0) s m ([.ref (o 0)] : List Value).toArray below meth c H locs 0 0 Q (F0 m 4 ls []) := by
    intro n4
    induction n4 with
    | zero =>
      intro x1 x2 ls H locs h
      exact absurd (show (none : Option (Int32)) = some q from h) (by intro h; cases h)
    | succ n4 ih4 =>
      intro x1 x2 ls H locs h hP hS hl
      have h : f_X6_pinned_L4b m_s  (f_X6_pinned_L4 m_s  n4) x1 x2 = some q := h
      unfold f_X6_pinned_L4b at h
      refine lv_iload_n hx hb dX6_pinned_4 rfl (lv_at hl 2 rfl) ?_
      refine lv_iconst (v := (4 : Int32)) hx hb dX6_pinned_5 (by decide) ?_
      refine lv_icmp_ge (tgt := 30) hx hb dX6_pinned_6 (by decide) (fun c1 => ?_) (fun c1 => ?_)
      · have h := ift c1 h
        refine lv_iload_n hx hb dX6_pinned_30 rfl (lv_at hl 1 rfl) ?_
        obtain rfl := Option.some.inj h
        exact hret _ _ _ _ (vp_nar_int _) dX6_pinned_31 hP hS
      · have h := ifn c1 h
        refine lv_iload_n hx hb dX6_pinned_9 rfl (lv_at hl 1 rfl) ?_
        refine lv_aload_n hx hb dX6_pinned_10 rfl (lv_at hl 0 rfl) ?_
        refine va_get (D := D) (ci := 7) (v := .ref (o 1)) (C := RX6) (T := TX6) (N := 22) hx hb hts inlX6 hown hK hP 0 rfl rfl 0 (by decide) (hts _ q_4_5) (fun _ h9 => h9) rfl dX6_pinned_11 ?_
        refine lv_iload_n hx hb dX6_pinned_14 rfl (lv_at hl 2 rfl) ?_
        obtain ⟨q2, e2, h⟩ := bnd_some h
        refine s_call (As := [.int x2]) (rest := [.ref (o 1), .int x1]) (c_X6_at l x2 q2 e2) B k_X6_at q_11_4 rfl ⟨Nat.le_of_ble_eq_true rfl, Nat.le_of_ble_eq_true rfl⟩ ⟨Nat.le_refl _, Nat.le_refl _⟩ hl.1 rfl (Nat.le_of_ble_eq_true rfl) dX6_pinned_15 ?_
        refine lv_bipush (v := (13 : Int32)) hx hb dX6_pinned_18 (by decide) ?_
        refine lv_iadd hx hb dX6_pinned_20 ?_
        obtain ⟨g3, h⟩ := grd_some h
        refine va_iald hx hb hK hP 1 0 rfl rfl (inb_in g3) dX6_pinned_21 ?_
        refine lv_iadd hx hb dX6_pinned_22 ?_
        refine lv_istore_n (lv' := [(1, .int (x1 + (m_s (q2 + (13 : Int32)).toNatClampNeg))), (0, .ref (o 0)), (2, .int x2)]) hx hb dX6_pinned_23 rfl hl (by decide) rfl (fun ls hl => ?_)
        refine lv_iinc (v := (x2 + (1 : Int32))) (lv' := [(2, .int (x2 + (1 : Int32))), (1, .int (x1 + (m_s (q2 + (13 : Int32)).toNatClampNeg))), (0, .ref (o 0))]) hx hb dX6_pinned_24 hl (k := 2) rfl (congrArg (HAdd.hAdd x2) (by decide)) (by decide) rfl (fun ls hl => ?_)
        refine lv_goto (tgt := 4) hx hb dX6_pinned_27 (by decide) ?_
        exact ih4 (x1 + (m_s (q2 + (13 : Int32)).toNatClampNeg)) (x2 + (1 : Int32)) _ _ _ h hP hS (lv_sub hl [2, 1, 0] rfl)
  unfold f_X6_pinned at h
  refine lv_iconst (v := (0 : Int32)) hx hb dX6_pinned_0 (by decide) ?_
  refine lv_istore_n (lv' := [(1, .int (0 : Int32)), (0, .ref (o 0))]) hx hb dX6_pinned_1 rfl hl (by decide) rfl (fun ls hl => ?_)
  refine lv_iconst (v := (0 : Int32)) hx hb dX6_pinned_2 (by decide) ?_
  refine lv_istore_n (lv' := [(2, .int (0 : Int32)), (1, .int (0 : Int32)), (0, .ref (o 0))]) hx hb dX6_pinned_3 rfl hl (by decide) rfl (fun ls hl => ?_)
  exact hL4 1024 (0 : Int32) (0 : Int32) _ _ _ h hP hS (lv_sub hl [2, 1, 0] rfl)

def f_X6_counted_J114 (a1 : Int32) (m_s : Nat → Int32) (m_paid : Nat → Int64) (m_pasts : Int32) (m_typed : Int32)   : Option (Int32) :=
  grd (inb (((95 : Int32) + a1) - (7 : Int32)) 100) (some (m_s (((95 : Int32) + a1) - (7 : Int32)).toNatClampNeg))
def f_X6_counted (a1 : Int32) (m_s : Nat → Int32) (m_paid : Nat → Int64) (m_pasts : Int32) (m_typed : Int32) : Option (Int32) :=
  if a1 = (0 : Int32) then bnd (f_X6_plans  m_s) (fun q2 => some q2)
  else if a1 = (1 : Int32) then bnd (f_X6_pinned  m_s) (fun q4 => some q4)
  else if a1 = (2 : Int32) then grd (inb (35 : Int32) 100) (some (m_s (35 : Int32).toNatClampNeg))
  else if a1 = (3 : Int32) then grd (inb (((93 : Int32) + a1) - (3 : Int32)) 100) (some (m_s (((93 : Int32) + a1) - (3 : Int32)).toNatClampNeg))
  else if a1 = (4 : Int32) then grd (inb (((93 : Int32) + a1) - (3 : Int32)) 100) (some (m_s (((93 : Int32) + a1) - (3 : Int32)).toNatClampNeg))
  else if a1 = (5 : Int32) then grd (inb (a1 - (5 : Int32)) 2) (bnd (f_X6_cut (m_paid (a1 - (5 : Int32)).toNatClampNeg) ) (fun q13 => some q13))
  else if a1 = (6 : Int32) then grd (inb (a1 - (5 : Int32)) 2) (bnd (f_X6_cut (m_paid (a1 - (5 : Int32)).toNatClampNeg) ) (fun q16 => some q16))
  else if a1 = (7 : Int32) then f_X6_counted_J114 a1 m_s m_paid m_pasts m_typed  
  else if a1 = (8 : Int32) then f_X6_counted_J114 a1 m_s m_paid m_pasts m_typed  
  else if a1 = (9 : Int32) then f_X6_counted_J114 a1 m_s m_paid m_pasts m_typed  
  else if a1 = (10 : Int32) then f_X6_counted_J114 a1 m_s m_paid m_pasts m_typed  
  else if a1 = (11 : Int32) then f_X6_counted_J114 a1 m_s m_paid m_pasts m_typed  
  else if a1 = (12 : Int32) then some m_typed
  else if a1 = (13 : Int32) then some m_pasts
  else some (-1 : Int32)
set_option maxRecDepth 100000 in
set_option maxHeartbeats 4000000 in
theorem c_X6_counted (l : Launch) (D : va_G) (o : Nat → Nat) (cI cJ : ClassId) (a1 : Int32) (m_s : Nat → Int32) (m_past : Nat → Int32) (m_kept : Nat → Int32) (m_spare : Nat → Int32) (m_paid : Nat → Int64) (m_pastPaid : Nat → Int64) (m_keptPaid : Nat → Int64) (m_sparePaid : Nat → Int64) (m_isKept : Int32) (m_pasts : Int32) (m_runs : Int32) (m_pad : Nat → Int32) (m_typed : Int32) (m_isStopped : Int32) (m_stop : Nat → Int32) (m_order : Nat → Int32) (m_best : Nat → Int32) (m_many : Int32) (m_bySets : Nat → Int64) (m_spot : Int32) (m_deeds : Int32) (m_deed : Nat → Int32) (q : Int32) (h : f_X6_counted a1 m_s m_paid m_pasts m_typed = some q) : CF l yX6_counted cX6_counted 2 2 (some .int) D (tysMW cI cJ) [.ref (o 0), .int a1] (some (.int q)) (MW o cI cJ m_s m_past m_kept m_spare m_paid m_pastPaid m_keptPaid m_sparePaid m_isKept m_pasts m_runs m_pad m_typed m_isStopped m_stop m_order m_best m_many m_bySets m_spot m_deeds m_deed) (MW o cI cJ m_s m_past m_kept m_spare m_paid m_pastPaid m_keptPaid m_sparePaid m_isKept m_pasts m_runs m_pad m_typed m_isStopped m_stop m_order m_best m_many m_bySets m_spot m_deeds m_deed) := by
  refine CF.mkI (by decide) (Nat.le_of_ble_eq_true rfl) ?_
  intro p e s m below meth c Q A B hK hDD hA hret hP hS ls hl
  have B0 := B
  obtain ⟨hx, hb, hml, hown, hts⟩ := B0
  have hl : lv_has ls 2 [(0, .ref (o 0)), (1, .int a1)] := hl
  have hJ114 : ∀  (ls : Array Slot) (H : Heap) (locs : List Loc), f_X6_counted_J114 a1 m_s m_paid m_pasts m_typed   = some q → va_P D vwCl (MW o cI cJ m_s m_past m_kept m_spare m_paid m_pastPaid m_keptPaid m_sparePaid m_isKept m_pasts m_runs m_pad m_typed m_isStopped m_stop m_order m_best m_many m_bySets m_spot m_deeds m_deed) H → va_S A s.heap H locs → lv_has ls 2 [(0, .ref (o 0)), (1, .int a1)] → W p l e (rmF 2 0 0) s m ([.ref (o 0), .int a1] : List Value).toArray below meth c H locs 0 0 Q (F0 m 114 ls []) := by
    intro  ls H locs h hP hS hl
    unfold f_X6_counted_J114 at h
    refine lv_aload_n hx hb dX6_counted_114 rfl (lv_at hl 0 rfl) ?_
    refine va_get (D := D) (ci := 7) (v := .ref (o 1)) (C := RX6) (T := TX6) (N := 22) hx hb hts inlX6 hown hK hP 0 rfl rfl 0 (by decide) (hts _ q_4_5) (fun _ h9 => h9) rfl dX6_counted_115 ?_
    refine lv_bipush (v := (95 : Int32)) hx hb dX6_counted_118 (by decide) ?_
    refine lv_iload_n hx hb dX6_counted_120 rfl (lv_at hl 1 rfl) ?_
    refine lv_iadd hx hb dX6_counted_121 ?_
    refine lv_bipush (v := (7 : Int32)) hx hb dX6_counted_122 (by decide) ?_
    refine lv_isub hx hb dX6_counted_124 ?_
    obtain ⟨g18, h⟩ := grd_some h
    refine va_iald hx hb hK hP 1 0 rfl rfl (inb_in g18) dX6_counted_125 ?_
    obtain rfl := Option.some.inj h
    exact hret _ _ _ _ (vp_nar_int _) dX6_counted_126 hP hS
  unfold f_X6_counted at h
  refine lv_iload_n hx hb dX6_counted_0 rfl (lv_at hl 1 rfl) ?_
  by_cases c1 : a1 = (0 : Int32)
  · have h := ift c1 h
    refine lv_tableIn (off := 71) (tgt := 72) hx hb dX6_counted_1 (by rw [c1]; decide) (by rw [c1]; decide) (by rw [c1]; rfl) (by decide) ?_
    refine lv_aload_n hx hb dX6_counted_72 rfl (lv_at hl 0 rfl) ?_
    obtain ⟨q2, e2, h⟩ := bnd_some h
    refine f_call (As := []) (rest := []) (c_X6_plans l D o cI cJ  m_s m_past m_kept m_spare m_paid m_pastPaid m_keptPaid m_sparePaid m_isKept m_pasts m_runs m_pad m_typed m_isStopped m_stop m_order m_best m_many m_bySets m_spot m_deeds m_deed q2 e2) B hK hDD hA hP hS rfl (va_recv hK hP (ci := 7) (q0 := 0) rfl rfl) k_X6_plans q_32_7 rfl ⟨Nat.le_of_ble_eq_true rfl, Nat.le_of_ble_eq_true rfl⟩ ⟨Nat.le_refl _, Nat.le_refl _⟩ hl.1 rfl (Nat.le_of_ble_eq_true rfl) dX6_counted_73 (fun H locs hP hS => ?_)
    obtain rfl := Option.some.inj h
    exact hret _ _ _ _ (vp_nar_int _) dX6_counted_76 hP hS
  · have h := ifn c1 h
    by_cases c3 : a1 = (1 : Int32)
    · have h := ift c3 h
      refine lv_tableIn (off := 76) (tgt := 77) hx hb dX6_counted_1 (by rw [c3]; decide) (by rw [c3]; decide) (by rw [c3]; rfl) (by decide) ?_
      refine lv_aload_n hx hb dX6_counted_77 rfl (lv_at hl 0 rfl) ?_
      obtain ⟨q4, e4, h⟩ := bnd_some h
      refine f_call (As := []) (rest := []) (c_X6_pinned l D o cI cJ  m_s m_past m_kept m_spare m_paid m_pastPaid m_keptPaid m_sparePaid m_isKept m_pasts m_runs m_pad m_typed m_isStopped m_stop m_order m_best m_many m_bySets m_spot m_deeds m_deed q4 e4) B hK hDD hA hP hS rfl (va_recv hK hP (ci := 7) (q0 := 0) rfl rfl) k_X6_pinned q_32_11 rfl ⟨Nat.le_of_ble_eq_true rfl, Nat.le_of_ble_eq_true rfl⟩ ⟨Nat.le_refl _, Nat.le_refl _⟩ hl.1 rfl (Nat.le_of_ble_eq_true rfl) dX6_counted_78 (fun H locs hP hS => ?_)
      obtain rfl := Option.some.inj h
      exact hret _ _ _ _ (vp_nar_int _) dX6_counted_81 hP hS
    · have h := ifn c3 h
      by_cases c5 : a1 = (2 : Int32)
      · have h := ift c5 h
        refine lv_tableIn (off := 81) (tgt := 82) hx hb dX6_counted_1 (by rw [c5]; decide) (by rw [c5]; decide) (by rw [c5]; rfl) (by decide) ?_
        refine lv_aload_n hx hb dX6_counted_82 rfl (lv_at hl 0 rfl) ?_
        refine va_get (D := D) (ci := 7) (v := .ref (o 1)) (C := RX6) (T := TX6) (N := 22) hx hb hts inlX6 hown hK hP 0 rfl rfl 0 (by decide) (hts _ q_4_5) (fun _ h9 => h9) rfl dX6_counted_83 ?_
        refine lv_bipush (v := (35 : Int32)) hx hb dX6_counted_86 (by decide) ?_
        obtain ⟨g6, h⟩ := grd_some h
        refine va_iald hx hb hK hP 1 0 rfl rfl (inb_in g6) dX6_counted_88 ?_
        obtain rfl := Option.some.inj h
        exact hret _ _ _ _ (vp_nar_int _) dX6_counted_89 hP hS
      · have h := ifn c5 h
        by_cases c7 : a1 = (3 : Int32)
        · have h := ift c7 h
          refine lv_tableIn (off := 89) (tgt := 90) hx hb dX6_counted_1 (by rw [c7]; decide) (by rw [c7]; decide) (by rw [c7]; rfl) (by decide) ?_
          refine lv_aload_n hx hb dX6_counted_90 rfl (lv_at hl 0 rfl) ?_
          refine va_get (D := D) (ci := 7) (v := .ref (o 1)) (C := RX6) (T := TX6) (N := 22) hx hb hts inlX6 hown hK hP 0 rfl rfl 0 (by decide) (hts _ q_4_5) (fun _ h9 => h9) rfl dX6_counted_91 ?_
          refine lv_bipush (v := (93 : Int32)) hx hb dX6_counted_94 (by decide) ?_
          refine lv_iload_n hx hb dX6_counted_96 rfl (lv_at hl 1 rfl) ?_
          refine lv_iadd hx hb dX6_counted_97 ?_
          refine lv_iconst (v := (3 : Int32)) hx hb dX6_counted_98 (by decide) ?_
          refine lv_isub hx hb dX6_counted_99 ?_
          obtain ⟨g8, h⟩ := grd_some h
          refine va_iald hx hb hK hP 1 0 rfl rfl (inb_in g8) dX6_counted_100 ?_
          obtain rfl := Option.some.inj h
          exact hret _ _ _ _ (vp_nar_int _) dX6_counted_101 hP hS
        · have h := ifn c7 h
          by_cases c9 : a1 = (4 : Int32)
          · have h := ift c9 h
            refine lv_tableIn (off := 89) (tgt := 90) hx hb dX6_counted_1 (by rw [c9]; decide) (by rw [c9]; decide) (by rw [c9]; rfl) (by decide) ?_
            refine lv_aload_n hx hb dX6_counted_90 rfl (lv_at hl 0 rfl) ?_
            refine va_get (D := D) (ci := 7) (v := .ref (o 1)) (C := RX6) (T := TX6) (N := 22) hx hb hts inlX6 hown hK hP 0 rfl rfl 0 (by decide) (hts _ q_4_5) (fun _ h9 => h9) rfl dX6_counted_91 ?_
            refine lv_bipush (v := (93 : Int32)) hx hb dX6_counted_94 (by decide) ?_
            refine lv_iload_n hx hb dX6_counted_96 rfl (lv_at hl 1 rfl) ?_
            refine lv_iadd hx hb dX6_counted_97 ?_
            refine lv_iconst (v := (3 : Int32)) hx hb dX6_counted_98 (by decide) ?_
            refine lv_isub hx hb dX6_counted_99 ?_
            obtain ⟨g10, h⟩ := grd_some h
            refine va_iald hx hb hK hP 1 0 rfl rfl (inb_in g10) dX6_counted_100 ?_
            obtain rfl := Option.some.inj h
            exact hret _ _ _ _ (vp_nar_int _) dX6_counted_101 hP hS
          · have h := ifn c9 h
            by_cases c11 : a1 = (5 : Int32)
            · have h := ift c11 h
              refine lv_tableIn (off := 101) (tgt := 102) hx hb dX6_counted_1 (by rw [c11]; decide) (by rw [c11]; decide) (by rw [c11]; rfl) (by decide) ?_
              refine lv_aload_n hx hb dX6_counted_102 rfl (lv_at hl 0 rfl) ?_
              refine va_get (D := D) (ci := 7) (v := .ref (o 5)) (C := RX6) (T := TX6) (N := 22) hx hb hts inlX6 hown hK hP 0 rfl rfl 4 (by decide) (hts _ q_4_9) (fun _ h9 => h9) rfl dX6_counted_103 ?_
              refine lv_iload_n hx hb dX6_counted_106 rfl (lv_at hl 1 rfl) ?_
              refine lv_iconst (v := (5 : Int32)) hx hb dX6_counted_107 (by decide) ?_
              refine lv_isub hx hb dX6_counted_108 ?_
              obtain ⟨g12, h⟩ := grd_some h
              refine va_lald hx hb hK hP 5 1 rfl rfl (inb_in g12) dX6_counted_109 ?_
              obtain ⟨q13, e13, h⟩ := bnd_some h
              refine s_call (As := [.long (m_paid (a1 - (5 : Int32)).toNatClampNeg)]) (rest := []) (c_X6_cut l (m_paid (a1 - (5 : Int32)).toNatClampNeg) q13 e13) B k_X6_cut q_19_19 rfl ⟨Nat.le_of_ble_eq_true rfl, Nat.le_of_ble_eq_true rfl⟩ ⟨Nat.le_refl _, Nat.le_refl _⟩ hl.1 rfl (Nat.le_of_ble_eq_true rfl) dX6_counted_110 ?_
              obtain rfl := Option.some.inj h
              exact hret _ _ _ _ (vp_nar_int _) dX6_counted_113 hP hS
            · have h := ifn c11 h
              by_cases c14 : a1 = (6 : Int32)
              · have h := ift c14 h
                refine lv_tableIn (off := 101) (tgt := 102) hx hb dX6_counted_1 (by rw [c14]; decide) (by rw [c14]; decide) (by rw [c14]; rfl) (by decide) ?_
                refine lv_aload_n hx hb dX6_counted_102 rfl (lv_at hl 0 rfl) ?_
                refine va_get (D := D) (ci := 7) (v := .ref (o 5)) (C := RX6) (T := TX6) (N := 22) hx hb hts inlX6 hown hK hP 0 rfl rfl 4 (by decide) (hts _ q_4_9) (fun _ h9 => h9) rfl dX6_counted_103 ?_
                refine lv_iload_n hx hb dX6_counted_106 rfl (lv_at hl 1 rfl) ?_
                refine lv_iconst (v := (5 : Int32)) hx hb dX6_counted_107 (by decide) ?_
                refine lv_isub hx hb dX6_counted_108 ?_
                obtain ⟨g15, h⟩ := grd_some h
                refine va_lald hx hb hK hP 5 1 rfl rfl (inb_in g15) dX6_counted_109 ?_
                obtain ⟨q16, e16, h⟩ := bnd_some h
                refine s_call (As := [.long (m_paid (a1 - (5 : Int32)).toNatClampNeg)]) (rest := []) (c_X6_cut l (m_paid (a1 - (5 : Int32)).toNatClampNeg) q16 e16) B k_X6_cut q_19_19 rfl ⟨Nat.le_of_ble_eq_true rfl, Nat.le_of_ble_eq_true rfl⟩ ⟨Nat.le_refl _, Nat.le_refl _⟩ hl.1 rfl (Nat.le_of_ble_eq_true rfl) dX6_counted_110 ?_
                obtain rfl := Option.some.inj h
                exact hret _ _ _ _ (vp_nar_int _) dX6_counted_113 hP hS
              · have h := ifn c14 h
                by_cases c17 : a1 = (7 : Int32)
                · have h := ift c17 h
                  refine lv_tableIn (off := 113) (tgt := 114) hx hb dX6_counted_1 (by rw [c17]; decide) (by rw [c17]; decide) (by rw [c17]; rfl) (by decide) ?_
                  exact hJ114  _ _ _ h hP hS (lv_sub hl [0, 1] rfl)
                · have h := ifn c17 h
                  by_cases c19 : a1 = (8 : Int32)
                  · have h := ift c19 h
                    refine lv_tableIn (off := 113) (tgt := 114) hx hb dX6_counted_1 (by rw [c19]; decide) (by rw [c19]; decide) (by rw [c19]; rfl) (by decide) ?_
                    exact hJ114  _ _ _ h hP hS (lv_sub hl [0, 1] rfl)
                  · have h := ifn c19 h
                    by_cases c20 : a1 = (9 : Int32)
                    · have h := ift c20 h
                      refine lv_tableIn (off := 113) (tgt := 114) hx hb dX6_counted_1 (by rw [c20]; decide) (by rw [c20]; decide) (by rw [c20]; rfl) (by decide) ?_
                      exact hJ114  _ _ _ h hP hS (lv_sub hl [0, 1] rfl)
                    · have h := ifn c20 h
                      by_cases c21 : a1 = (10 : Int32)
                      · have h := ift c21 h
                        refine lv_tableIn (off := 113) (tgt := 114) hx hb dX6_counted_1 (by rw [c21]; decide) (by rw [c21]; decide) (by rw [c21]; rfl) (by decide) ?_
                        exact hJ114  _ _ _ h hP hS (lv_sub hl [0, 1] rfl)
                      · have h := ifn c21 h
                        by_cases c22 : a1 = (11 : Int32)
                        · have h := ift c22 h
                          refine lv_tableIn (off := 113) (tgt := 114) hx hb dX6_counted_1 (by rw [c22]; decide) (by rw [c22]; decide) (by rw [c22]; rfl) (by decide) ?_
                          exact hJ114  _ _ _ h hP hS (lv_sub hl [0, 1] rfl)
                        · have h := ifn c22 h
                          by_cases c23 : a1 = (12 : Int32)
                          · have h := ift c23 h
                            refine lv_tableIn (off := 126) (tgt := 127) hx hb dX6_counted_1 (by rw [c23]; decide) (by rw [c23]; decide) (by rw [c23]; rfl) (by decide) ?_
                            refine lv_aload_n hx hb dX6_counted_127 rfl (lv_at hl 0 rfl) ?_
                            refine va_get (D := D) (ci := 7) (v := .int m_typed) (C := RX6) (T := TX6) (N := 22) hx hb hts inlX6 hown hK hP 0 rfl rfl 12 (by decide) (hts _ q_22_1) (fun _ h9 => h9) rfl dX6_counted_128 ?_
                            obtain rfl := Option.some.inj h
                            exact hret _ _ _ _ (vp_nar_int _) dX6_counted_131 hP hS
                          · have h := ifn c23 h
                            by_cases c24 : a1 = (13 : Int32)
                            · have h := ift c24 h
                              refine lv_tableIn (off := 131) (tgt := 132) hx hb dX6_counted_1 (by rw [c24]; decide) (by rw [c24]; decide) (by rw [c24]; rfl) (by decide) ?_
                              refine lv_aload_n hx hb dX6_counted_132 rfl (lv_at hl 0 rfl) ?_
                              refine va_get (D := D) (ci := 7) (v := .int m_pasts) (C := RX6) (T := TX6) (N := 22) hx hb hts inlX6 hown hK hP 0 rfl rfl 9 (by decide) (hts _ q_9_23) (fun _ h9 => h9) rfl dX6_counted_133 ?_
                              obtain rfl := Option.some.inj h
                              exact hret _ _ _ _ (vp_nar_int _) dX6_counted_136 hP hS
                            · have h := ifn c24 h
                              have n1 := lv_neT (k := (0 : Int32)) (a := 0) c1 (by decide)
                              have n3 := lv_neT (k := (1 : Int32)) (a := 1) c3 (by decide)
                              have n5 := lv_neT (k := (2 : Int32)) (a := 2) c5 (by decide)
                              have n7 := lv_neT (k := (3 : Int32)) (a := 3) c7 (by decide)
                              have n9 := lv_neT (k := (4 : Int32)) (a := 4) c9 (by decide)
                              have n11 := lv_neT (k := (5 : Int32)) (a := 5) c11 (by decide)
                              have n14 := lv_neT (k := (6 : Int32)) (a := 6) c14 (by decide)
                              have n17 := lv_neT (k := (7 : Int32)) (a := 7) c17 (by decide)
                              have n19 := lv_neT (k := (8 : Int32)) (a := 8) c19 (by decide)
                              have n20 := lv_neT (k := (9 : Int32)) (a := 9) c20 (by decide)
                              have n21 := lv_neT (k := (10 : Int32)) (a := 10) c21 (by decide)
                              have n22 := lv_neT (k := (11 : Int32)) (a := 11) c22 (by decide)
                              have n23 := lv_neT (k := (12 : Int32)) (a := 12) c23 (by decide)
                              have n24 := lv_neT (k := (13 : Int32)) (a := 13) c24 (by decide)
                              refine lv_tableOut (tgt := 137) hx hb dX6_counted_1 (by omega) (by decide) ?_
                              refine lv_iconst (v := (-1 : Int32)) hx hb dX6_counted_137 (by decide) ?_
                              obtain rfl := Option.some.inj h
                              exact hret _ _ _ _ (vp_nar_int _) dX6_counted_138 hP hS

def f_X6_dearer_L4b  (m_s : Nat → Int32)  (k4 : Int32 → Int32 → (Nat → Int32) → (Nat → Int32) → Int32 → Option (Int32 × (Nat → Int32) × (Nat → Int32) × (Int32))) (x1 : Int32) (x2 : Int32) (m_order : Nat → Int32) (m_best : Nat → Int32) (m_many : Int32) : Option (Int32 × (Nat → Int32) × (Nat → Int32) × (Int32)) :=
  if (4 : Int32) ≤ x2 then some (x1, m_order, m_best, m_many)
  else bnd (f_X6_at x2 ) (fun q2 => grd (inb q2 100) (if (m_s q2.toNatClampNeg) ≤ (0 : Int32) then k4 (x1 + (0 : Int32)) (x2 + (1 : Int32)) m_order m_best m_many
  else bnd (f_X6_over x2 m_s m_order m_best m_many) (fun q5 => if (lg_cmp q5.1 (0 : Int64)) ≤ (0 : Int32) then k4 (x1 + (0 : Int32)) (x2 + (1 : Int32)) q5.2.1 q5.2.2.1 q5.2.2.2
  else k4 (x1 + (1 : Int32)) (x2 + (1 : Int32)) q5.2.1 q5.2.2.1 q5.2.2.2)))
def f_X6_dearer_L4  (m_s : Nat → Int32)  : Nat → Int32 → Int32 → (Nat → Int32) → (Nat → Int32) → Int32 → Option (Int32 × (Nat → Int32) × (Nat → Int32) × (Int32))
  | 0 => fun _ _ _ _ _ => none
  | n + 1 => f_X6_dearer_L4b m_s  (f_X6_dearer_L4 m_s  n)
def f_X6_dearer  (m_s : Nat → Int32) (m_order : Nat → Int32) (m_best : Nat → Int32) (m_many : Int32) : Option (Int32 × (Nat → Int32) × (Nat → Int32) × (Int32)) :=
  f_X6_dearer_L4 m_s  1024 (0 : Int32) (0 : Int32) m_order m_best m_many
set_option maxRecDepth 100000 in
set_option maxHeartbeats 4000000 in
theorem c_X6_dearer (l : Launch) (D : va_G) (o : Nat → Nat) (cI cJ : ClassId)  (m_s : Nat → Int32) (m_past : Nat → Int32) (m_kept : Nat → Int32) (m_spare : Nat → Int32) (m_paid : Nat → Int64) (m_pastPaid : Nat → Int64) (m_keptPaid : Nat → Int64) (m_sparePaid : Nat → Int64) (m_isKept : Int32) (m_pasts : Int32) (m_runs : Int32) (m_pad : Nat → Int32) (m_typed : Int32) (m_isStopped : Int32) (m_stop : Nat → Int32) (m_order : Nat → Int32) (m_best : Nat → Int32) (m_many : Int32) (m_bySets : Nat → Int64) (m_spot : Int32) (m_deeds : Int32) (m_deed : Nat → Int32) (q : Int32 × (Nat → Int32) × (Nat → Int32) × (Int32)) (h : f_X6_dearer  m_s m_order m_best m_many = some q) : CF l yX6_dearer cX6_dearer 3 4 (some .int) D (tysMW cI cJ) [.ref (o 0)] (some (.int q.1)) (MW o cI cJ m_s m_past m_kept m_spare m_paid m_pastPaid m_keptPaid m_sparePaid m_isKept m_pasts m_runs m_pad m_typed m_isStopped m_stop m_order m_best m_many m_bySets m_spot m_deeds m_deed) (MW o cI cJ m_s m_past m_kept m_spare m_paid m_pastPaid m_keptPaid m_sparePaid m_isKept m_pasts m_runs m_pad m_typed m_isStopped m_stop q.2.1 q.2.2.1 q.2.2.2 m_bySets m_spot m_deeds m_deed) := by
  refine CF.mkI (by decide) (Nat.le_of_ble_eq_true rfl) ?_
  intro p e s m below meth c Q A B hK hDD hA hret hP hS ls hl
  have B0 := B
  obtain ⟨hx, hb, hml, hown, hts⟩ := B0
  have hl : lv_has ls 3 [(0, .ref (o 0))] := hl
  have hL4 : ∀ (n4 : Nat) (x1 : Int32) (x2 : Int32) (m_order : Nat → Int32) (m_best : Nat → Int32) (m_many : Int32) (ls : Array Slot) (H : Heap) (locs : List Loc), f_X6_dearer_L4 m_s  n4 x1 x2 m_order m_best m_many = some q → va_P D vwCl (MW o cI cJ m_s m_past m_kept m_spare m_paid m_pastPaid m_keptPaid m_sparePaid m_isKept m_pasts m_runs m_pad m_typed m_isStopped m_stop m_order m_best m_many m_bySets m_spot m_deeds m_deed) H → va_S A s.heap H locs → lv_has ls 3 [(0, .ref (o 0)), (1, .int x1), (2, .int x2)] → W p l e (rmF 4 0 0) s m ([.ref (o 0)] : List Value).toArray below meth c H locs 0 0 Q (F0 m 4 ls []) := by
    intro n4
    induction n4 with
    | zero =>
      intro x1 x2 m_order m_best m_many ls H locs h
      exact absurd (show (none : Option (Int32 × (Nat → Int32) × (Nat → Int32) × (Int32))) = some q from h) (by intro h; cases h)
    | succ n4 ih4 =>
      intro x1 x2 m_order m_best m_many ls H locs h hP hS hl
      have h : f_X6_dearer_L4b m_s  (f_X6_dearer_L4 m_s  n4) x1 x2 m_order m_best m_many = some q := h
      unfold f_X6_dearer_L4b at h
      refine lv_iload_n hx hb dX6_dearer_4 rfl (lv_at hl 2 rfl) ?_
      refine lv_iconst (v := (4 : Int32)) hx hb dX6_dearer_5 (by decide) ?_
      refine lv_icmp_ge (tgt := 45) hx hb dX6_dearer_6 (by decide) (fun c1 => ?_) (fun c1 => ?_)
      · have h := ift c1 h
        refine lv_iload_n hx hb dX6_dearer_45 rfl (lv_at hl 1 rfl) ?_
        obtain rfl := Option.some.inj h
        exact hret _ _ _ _ (vp_nar_int _) dX6_dearer_46 hP hS
      · have h := ifn c1 h
        refine lv_iload_n hx hb dX6_dearer_9 rfl (lv_at hl 1 rfl) ?_
        refine lv_aload_n hx hb dX6_dearer_10 rfl (lv_at hl 0 rfl) ?_
        refine va_get (D := D) (ci := 7) (v := .ref (o 1)) (C := RX6) (T := TX6) (N := 22) hx hb hts inlX6 hown hK hP 0 rfl rfl 0 (by decide) (hts _ q_4_5) (fun _ h9 => h9) rfl dX6_dearer_11 ?_
        refine lv_iload_n hx hb dX6_dearer_14 rfl (lv_at hl 2 rfl) ?_
        obtain ⟨q2, e2, h⟩ := bnd_some h
        refine s_call (As := [.int x2]) (rest := [.ref (o 1), .int x1]) (c_X6_at l x2 q2 e2) B k_X6_at q_11_4 rfl ⟨Nat.le_of_ble_eq_true rfl, Nat.le_of_ble_eq_true rfl⟩ ⟨Nat.le_refl _, Nat.le_refl _⟩ hl.1 rfl (Nat.le_of_ble_eq_true rfl) dX6_dearer_15 ?_
        obtain ⟨g3, h⟩ := grd_some h
        refine va_iald hx hb hK hP 1 0 rfl rfl (inb_in g3) dX6_dearer_18 ?_
        refine lv_if_le (tgt := 36) hx hb dX6_dearer_19 (by decide) (fun c4 => ?_) (fun c4 => ?_)
        · have h := ift c4 h
          refine lv_iconst (v := (0 : Int32)) hx hb dX6_dearer_36 (by decide) ?_
          refine lv_iadd hx hb dX6_dearer_37 ?_
          refine lv_istore_n (lv' := [(1, .int (x1 + (0 : Int32))), (0, .ref (o 0)), (2, .int x2)]) hx hb dX6_dearer_38 rfl hl (by decide) rfl (fun ls hl => ?_)
          refine lv_iinc (v := (x2 + (1 : Int32))) (lv' := [(2, .int (x2 + (1 : Int32))), (1, .int (x1 + (0 : Int32))), (0, .ref (o 0))]) hx hb dX6_dearer_39 hl (k := 2) rfl (congrArg (HAdd.hAdd x2) (by decide)) (by decide) rfl (fun ls hl => ?_)
          refine lv_goto (tgt := 4) hx hb dX6_dearer_42 (by decide) ?_
          exact ih4 (x1 + (0 : Int32)) (x2 + (1 : Int32)) m_order m_best m_many _ _ _ h hP hS (lv_sub hl [2, 1, 0] rfl)
        · have h := ifn c4 h
          refine lv_aload_n hx hb dX6_dearer_22 rfl (lv_at hl 0 rfl) ?_
          refine lv_iload_n hx hb dX6_dearer_23 rfl (lv_at hl 2 rfl) ?_
          obtain ⟨q5, e5, h⟩ := bnd_some h
          refine f_call (As := [.int x2]) (rest := [.int x1]) (c_X6_over l D o cI cJ x2 m_s m_past m_kept m_spare m_paid m_pastPaid m_keptPaid m_sparePaid m_isKept m_pasts m_runs m_pad m_typed m_isStopped m_stop m_order m_best m_many m_bySets m_spot m_deeds m_deed q5 e5) B hK hDD hA hP hS rfl (va_recv hK hP (ci := 7) (q0 := 0) rfl rfl) k_X6_over q_31_4 rfl ⟨Nat.le_of_ble_eq_true rfl, Nat.le_of_ble_eq_true rfl⟩ ⟨Nat.le_refl _, Nat.le_refl _⟩ hl.1 rfl (Nat.le_of_ble_eq_true rfl) dX6_dearer_24 (fun H locs hP hS => ?_)
          refine lv_lconst (v := (0 : Int64)) hx hb dX6_dearer_27 (by decide) ?_
          refine W.lcmp hx hb dX6_dearer_28 ?_
          refine lv_if_le (tgt := 36) hx hb dX6_dearer_29 (by decide) (fun c6 => ?_) (fun c6 => ?_)
          · have h := ift c6 h
            refine lv_iconst (v := (0 : Int32)) hx hb dX6_dearer_36 (by decide) ?_
            refine lv_iadd hx hb dX6_dearer_37 ?_
            refine lv_istore_n (lv' := [(1, .int (x1 + (0 : Int32))), (0, .ref (o 0)), (2, .int x2)]) hx hb dX6_dearer_38 rfl hl (by decide) rfl (fun ls hl => ?_)
            refine lv_iinc (v := (x2 + (1 : Int32))) (lv' := [(2, .int (x2 + (1 : Int32))), (1, .int (x1 + (0 : Int32))), (0, .ref (o 0))]) hx hb dX6_dearer_39 hl (k := 2) rfl (congrArg (HAdd.hAdd x2) (by decide)) (by decide) rfl (fun ls hl => ?_)
            refine lv_goto (tgt := 4) hx hb dX6_dearer_42 (by decide) ?_
            exact ih4 (x1 + (0 : Int32)) (x2 + (1 : Int32)) q5.2.1 q5.2.2.1 q5.2.2.2 _ _ _ h hP hS (lv_sub hl [2, 1, 0] rfl)
          · have h := ifn c6 h
            refine lv_iconst (v := (1 : Int32)) hx hb dX6_dearer_32 (by decide) ?_
            refine lv_goto (tgt := 37) hx hb dX6_dearer_33 (by decide) ?_
            refine lv_iadd hx hb dX6_dearer_37 ?_
            refine lv_istore_n (lv' := [(1, .int (x1 + (1 : Int32))), (0, .ref (o 0)), (2, .int x2)]) hx hb dX6_dearer_38 rfl hl (by decide) rfl (fun ls hl => ?_)
            refine lv_iinc (v := (x2 + (1 : Int32))) (lv' := [(2, .int (x2 + (1 : Int32))), (1, .int (x1 + (1 : Int32))), (0, .ref (o 0))]) hx hb dX6_dearer_39 hl (k := 2) rfl (congrArg (HAdd.hAdd x2) (by decide)) (by decide) rfl (fun ls hl => ?_)
            refine lv_goto (tgt := 4) hx hb dX6_dearer_42 (by decide) ?_
            exact ih4 (x1 + (1 : Int32)) (x2 + (1 : Int32)) q5.2.1 q5.2.2.1 q5.2.2.2 _ _ _ h hP hS (lv_sub hl [2, 1, 0] rfl)
  unfold f_X6_dearer at h
  refine lv_iconst (v := (0 : Int32)) hx hb dX6_dearer_0 (by decide) ?_
  refine lv_istore_n (lv' := [(1, .int (0 : Int32)), (0, .ref (o 0))]) hx hb dX6_dearer_1 rfl hl (by decide) rfl (fun ls hl => ?_)
  refine lv_iconst (v := (0 : Int32)) hx hb dX6_dearer_2 (by decide) ?_
  refine lv_istore_n (lv' := [(2, .int (0 : Int32)), (1, .int (0 : Int32)), (0, .ref (o 0))]) hx hb dX6_dearer_3 rfl hl (by decide) rfl (fun ls hl => ?_)
  exact hL4 1024 (0 : Int32) (0 : Int32) m_order m_best m_many _ _ _ h hP hS (lv_sub hl [2, 1, 0] rfl)

def f_X6_ifCounted_L27b (a1 : Int32) (a2 : Int32)   (k27 : Int32 → Int32 → (Nat → Int32) → (Nat → Int32) → (Nat → Int64) → (Nat → Int64) → (Nat → Int32) → (Nat → Int32) → Int32 → Option (Int32 × (Nat → Int32) × (Nat → Int32) × (Nat → Int64) × (Nat → Int64) × (Nat → Int32) × (Nat → Int32) × (Int32))) (x3 : Int32) (x4 : Int32) (m_s : Nat → Int32) (m_spare : Nat → Int32) (m_paid : Nat → Int64) (m_sparePaid : Nat → Int64) (m_order : Nat → Int32) (m_best : Nat → Int32) (m_many : Int32) : Option (Int32 × (Nat → Int32) × (Nat → Int32) × (Nat → Int64) × (Nat → Int64) × (Nat → Int32) × (Nat → Int32) × (Int32)) :=
  if (5 : Int32) ≤ x4 then if a2 = (0 : Int32) then bnd (f_X6_putsBack  m_s m_spare m_paid m_sparePaid) (fun q10 => some (x3, q10.1, m_spare, q10.2, m_sparePaid, m_order, m_best, m_many))
  else bnd (f_X6_dearer  m_s m_order m_best m_many) (fun q8 => bnd (f_X6_putsBack  m_s m_spare m_paid m_sparePaid) (fun q9 => some (q8.1, q9.1, m_spare, q9.2, m_sparePaid, q8.2.1, q8.2.2.1, q8.2.2.2)))
  else if ((a1 >>> (x4 &&& 31)) &&& (1 : Int32)) = (1 : Int32) then bnd (f_X6_counts x4 m_s) (fun q12 => k27 (x3 + q12.1) (x4 + (1 : Int32)) q12.2 m_spare m_paid m_sparePaid m_order m_best m_many)
  else k27 (x3 + (0 : Int32)) (x4 + (1 : Int32)) m_s m_spare m_paid m_sparePaid m_order m_best m_many
def f_X6_ifCounted_L27 (a1 : Int32) (a2 : Int32)   : Nat → Int32 → Int32 → (Nat → Int32) → (Nat → Int32) → (Nat → Int64) → (Nat → Int64) → (Nat → Int32) → (Nat → Int32) → Int32 → Option (Int32 × (Nat → Int32) × (Nat → Int32) × (Nat → Int64) × (Nat → Int64) × (Nat → Int32) × (Nat → Int32) × (Int32))
  | 0 => fun _ _ _ _ _ _ _ _ _ => none
  | n + 1 => f_X6_ifCounted_L27b a1 a2  (f_X6_ifCounted_L27 a1 a2  n)
def f_X6_ifCounted (a1 : Int32) (a2 : Int32) (m_s : Nat → Int32) (m_spare : Nat → Int32) (m_paid : Nat → Int64) (m_sparePaid : Nat → Int64) (m_order : Nat → Int32) (m_best : Nat → Int32) (m_many : Int32) : Option (Int32 × (Nat → Int32) × (Nat → Int32) × (Nat → Int64) × (Nat → Int64) × (Nat → Int32) × (Nat → Int32) × (Int32)) :=
  bnd (f_X6_isSet a1 ) (fun q1 => if q1 = (0 : Int32) then some ((-1 : Int32), m_s, m_spare, m_paid, m_sparePaid, m_order, m_best, m_many)
  else bnd (f_X6_in a2 (0 : Int32) (1 : Int32) ) (fun q3 => if q3 = (0 : Int32) then some ((-1 : Int32), m_s, m_spare, m_paid, m_sparePaid, m_order, m_best, m_many)
  else bnd (f_X6_putsAside  m_s m_spare m_paid m_sparePaid) (fun q5 => f_X6_ifCounted_L27 a1 a2  1024 (0 : Int32) (0 : Int32) m_s q5.1 m_paid q5.2 m_order m_best m_many)))
set_option maxRecDepth 100000 in
set_option maxHeartbeats 4000000 in
theorem c_X6_ifCounted (l : Launch) (D : va_G) (o : Nat → Nat) (cI cJ : ClassId) (a1 : Int32) (a2 : Int32) (m_s : Nat → Int32) (m_past : Nat → Int32) (m_kept : Nat → Int32) (m_spare : Nat → Int32) (m_paid : Nat → Int64) (m_pastPaid : Nat → Int64) (m_keptPaid : Nat → Int64) (m_sparePaid : Nat → Int64) (m_isKept : Int32) (m_pasts : Int32) (m_runs : Int32) (m_pad : Nat → Int32) (m_typed : Int32) (m_isStopped : Int32) (m_stop : Nat → Int32) (m_order : Nat → Int32) (m_best : Nat → Int32) (m_many : Int32) (m_bySets : Nat → Int64) (m_spot : Int32) (m_deeds : Int32) (m_deed : Nat → Int32) (q : Int32 × (Nat → Int32) × (Nat → Int32) × (Nat → Int64) × (Nat → Int64) × (Nat → Int32) × (Nat → Int32) × (Int32)) (h : f_X6_ifCounted a1 a2 m_s m_spare m_paid m_sparePaid m_order m_best m_many = some q) : CF l yX6_ifCounted cX6_ifCounted 5 5 (some .int) D (tysMW cI cJ) [.ref (o 0), .int a1, .int a2] (some (.int q.1)) (MW o cI cJ m_s m_past m_kept m_spare m_paid m_pastPaid m_keptPaid m_sparePaid m_isKept m_pasts m_runs m_pad m_typed m_isStopped m_stop m_order m_best m_many m_bySets m_spot m_deeds m_deed) (MW o cI cJ q.2.1 m_past m_kept q.2.2.1 q.2.2.2.1 m_pastPaid m_keptPaid q.2.2.2.2.1 m_isKept m_pasts m_runs m_pad m_typed m_isStopped m_stop q.2.2.2.2.2.1 q.2.2.2.2.2.2.1 q.2.2.2.2.2.2.2 m_bySets m_spot m_deeds m_deed) := by
  refine CF.mkI (by decide) (Nat.le_of_ble_eq_true rfl) ?_
  intro p e s m below meth c Q A B hK hDD hA hret hP hS ls hl
  have B0 := B
  obtain ⟨hx, hb, hml, hown, hts⟩ := B0
  have hl : lv_has ls 5 [(0, .ref (o 0)), (1, .int a1), (2, .int a2)] := hl
  have hL27 : ∀ (n27 : Nat) (x3 : Int32) (x4 : Int32) (m_s : Nat → Int32) (m_spare : Nat → Int32) (m_paid : Nat → Int64) (m_sparePaid : Nat → Int64) (m_order : Nat → Int32) (m_best : Nat → Int32) (m_many : Int32) (ls : Array Slot) (H : Heap) (locs : List Loc), f_X6_ifCounted_L27 a1 a2  n27 x3 x4 m_s m_spare m_paid m_sparePaid m_order m_best m_many = some q → va_P D vwCl (MW o cI cJ m_s m_past m_kept m_spare m_paid m_pastPaid m_keptPaid m_sparePaid m_isKept m_pasts m_runs m_pad m_typed m_isStopped m_stop m_order m_best m_many m_bySets m_spot m_deeds m_deed) H → va_S A s.heap H locs → lv_has ls 5 [(0, .ref (o 0)), (1, .int a1), (2, .int a2), (3, .int x3), (4, .int x4)] → W p l e (rmF 5 0 0) s m ([.ref (o 0), .int a1, .int a2] : List Value).toArray below meth c H locs 0 0 Q (F0 m 27 ls []) := by
    intro n27
    induction n27 with
    | zero =>
      intro x3 x4 m_s m_spare m_paid m_sparePaid m_order m_best m_many ls H locs h
      exact absurd (show (none : Option (Int32 × (Nat → Int32) × (Nat → Int32) × (Nat → Int64) × (Nat → Int64) × (Nat → Int32) × (Nat → Int32) × (Int32))) = some q from h) (by intro h; cases h)
    | succ n27 ih27 =>
      intro x3 x4 m_s m_spare m_paid m_sparePaid m_order m_best m_many ls H locs h hP hS hl
      have h : f_X6_ifCounted_L27b a1 a2  (f_X6_ifCounted_L27 a1 a2  n27) x3 x4 m_s m_spare m_paid m_sparePaid m_order m_best m_many = some q := h
      unfold f_X6_ifCounted_L27b at h
      refine lv_iload hx hb dX6_ifCounted_27 (lv_at hl 4 rfl) ?_
      refine lv_iconst (v := (5 : Int32)) hx hb dX6_ifCounted_29 (by decide) ?_
      refine lv_icmp_ge (tgt := 62) hx hb dX6_ifCounted_30 (by decide) (fun c6 => ?_) (fun c6 => ?_)
      · have h := ift c6 h
        refine lv_iload_n hx hb dX6_ifCounted_62 rfl (lv_at hl 2 rfl) ?_
        refine lv_if_ne (tgt := 70) hx hb dX6_ifCounted_63 (by decide) (fun c7 => ?_) (fun c7 => ?_)
        · have h := ifn c7 h
          refine lv_aload_n hx hb dX6_ifCounted_70 rfl (lv_at hl 0 rfl) ?_
          obtain ⟨q8, e8, h⟩ := bnd_some h
          refine f_call (As := []) (rest := []) (c_X6_dearer l D o cI cJ  m_s m_past m_kept m_spare m_paid m_pastPaid m_keptPaid m_sparePaid m_isKept m_pasts m_runs m_pad m_typed m_isStopped m_stop m_order m_best m_many m_bySets m_spot m_deeds m_deed q8 e8) B hK hDD hA hP hS rfl (va_recv hK hP (ci := 7) (q0 := 0) rfl rfl) k_X6_dearer q_33_12 rfl ⟨Nat.le_of_ble_eq_true rfl, Nat.le_of_ble_eq_true rfl⟩ ⟨Nat.le_refl _, Nat.le_refl _⟩ hl.1 rfl (Nat.le_of_ble_eq_true rfl) dX6_ifCounted_71 (fun H locs hP hS => ?_)
          refine lv_istore_n (lv' := [(3, .int q8.1), (0, .ref (o 0)), (1, .int a1), (2, .int a2), (4, .int x4)]) hx hb dX6_ifCounted_74 rfl hl (by decide) rfl (fun ls hl => ?_)
          refine lv_aload_n hx hb dX6_ifCounted_75 rfl (lv_at hl 1 rfl) ?_
          obtain ⟨q9, e9, h⟩ := bnd_some h
          refine f_call (As := []) (rest := []) (c_X6_putsBack l D o cI cJ  m_s m_past m_kept m_spare m_paid m_pastPaid m_keptPaid m_sparePaid m_isKept m_pasts m_runs m_pad m_typed m_isStopped m_stop q8.2.1 q8.2.2.1 q8.2.2.2 m_bySets m_spot m_deeds m_deed q9 e9) B hK hDD hA hP hS rfl (va_recv hK hP (ci := 7) (q0 := 0) rfl rfl) k_X6_putsBack q_33_16 rfl ⟨Nat.le_of_ble_eq_true rfl, Nat.le_of_ble_eq_true rfl⟩ ⟨Nat.le_refl _, Nat.le_refl _⟩ hl.1 rfl (Nat.le_of_ble_eq_true rfl) dX6_ifCounted_76 (fun H locs hP hS => ?_)
          refine lv_iload_n hx hb dX6_ifCounted_79 rfl (lv_at hl 0 rfl) ?_
          obtain rfl := Option.some.inj h
          exact hret _ _ _ _ (vp_nar_int _) dX6_ifCounted_80 hP hS
        · have h := ift c7 h
          refine lv_iload_n hx hb dX6_ifCounted_66 rfl (lv_at hl 3 rfl) ?_
          refine lv_goto (tgt := 74) hx hb dX6_ifCounted_67 (by decide) ?_
          refine lv_istore_n (lv' := [(3, .int x3), (0, .ref (o 0)), (1, .int a1), (2, .int a2), (4, .int x4)]) hx hb dX6_ifCounted_74 rfl hl (by decide) rfl (fun ls hl => ?_)
          refine lv_aload_n hx hb dX6_ifCounted_75 rfl (lv_at hl 1 rfl) ?_
          obtain ⟨q10, e10, h⟩ := bnd_some h
          refine f_call (As := []) (rest := []) (c_X6_putsBack l D o cI cJ  m_s m_past m_kept m_spare m_paid m_pastPaid m_keptPaid m_sparePaid m_isKept m_pasts m_runs m_pad m_typed m_isStopped m_stop m_order m_best m_many m_bySets m_spot m_deeds m_deed q10 e10) B hK hDD hA hP hS rfl (va_recv hK hP (ci := 7) (q0 := 0) rfl rfl) k_X6_putsBack q_33_16 rfl ⟨Nat.le_of_ble_eq_true rfl, Nat.le_of_ble_eq_true rfl⟩ ⟨Nat.le_refl _, Nat.le_refl _⟩ hl.1 rfl (Nat.le_of_ble_eq_true rfl) dX6_ifCounted_76 (fun H locs hP hS => ?_)
          refine lv_iload_n hx hb dX6_ifCounted_79 rfl (lv_at hl 0 rfl) ?_
          obtain rfl := Option.some.inj h
          exact hret _ _ _ _ (vp_nar_int _) dX6_ifCounted_80 hP hS
      · have h := ifn c6 h
        refine lv_iload_n hx hb dX6_ifCounted_33 rfl (lv_at hl 3 rfl) ?_
        refine lv_iload_n hx hb dX6_ifCounted_34 rfl (lv_at hl 1 rfl) ?_
        refine lv_iload hx hb dX6_ifCounted_35 (lv_at hl 4 rfl) ?_
        refine lv_ishr hx hb dX6_ifCounted_37 ?_
        refine lv_iconst (v := (1 : Int32)) hx hb dX6_ifCounted_38 (by decide) ?_
        refine lv_iand hx hb dX6_ifCounted_39 ?_
        refine lv_iconst (v := (1 : Int32)) hx hb dX6_ifCounted_40 (by decide) ?_
        refine lv_icmp_ne (tgt := 53) hx hb dX6_ifCounted_41 (by decide) (fun c11 => ?_) (fun c11 => ?_)
        · have h := ifn c11 h
          refine lv_iconst (v := (0 : Int32)) hx hb dX6_ifCounted_53 (by decide) ?_
          refine lv_iadd hx hb dX6_ifCounted_54 ?_
          refine lv_istore_n (lv' := [(3, .int (x3 + (0 : Int32))), (0, .ref (o 0)), (1, .int a1), (2, .int a2), (4, .int x4)]) hx hb dX6_ifCounted_55 rfl hl (by decide) rfl (fun ls hl => ?_)
          refine lv_iinc (v := (x4 + (1 : Int32))) (lv' := [(4, .int (x4 + (1 : Int32))), (3, .int (x3 + (0 : Int32))), (0, .ref (o 0)), (1, .int a1), (2, .int a2)]) hx hb dX6_ifCounted_56 hl (k := 4) rfl (congrArg (HAdd.hAdd x4) (by decide)) (by decide) rfl (fun ls hl => ?_)
          refine lv_goto (tgt := 27) hx hb dX6_ifCounted_59 (by decide) ?_
          exact ih27 (x3 + (0 : Int32)) (x4 + (1 : Int32)) m_s m_spare m_paid m_sparePaid m_order m_best m_many _ _ _ h hP hS (lv_sub hl [2, 3, 4, 1, 0] rfl)
        · have h := ift c11 h
          refine lv_aload_n hx hb dX6_ifCounted_44 rfl (lv_at hl 0 rfl) ?_
          refine lv_iload hx hb dX6_ifCounted_45 (lv_at hl 4 rfl) ?_
          obtain ⟨q12, e12, h⟩ := bnd_some h
          refine f_call (As := [.int x4]) (rest := [.int x3]) (c_X6_counts l D o cI cJ x4 m_s m_past m_kept m_spare m_paid m_pastPaid m_keptPaid m_sparePaid m_isKept m_pasts m_runs m_pad m_typed m_isStopped m_stop m_order m_best m_many m_bySets m_spot m_deeds m_deed q12 e12) B hK hDD hA hP hS rfl (va_recv hK hP (ci := 7) (q0 := 0) rfl rfl) k_X6_counts q_12_12 rfl ⟨Nat.le_of_ble_eq_true rfl, Nat.le_of_ble_eq_true rfl⟩ ⟨Nat.le_refl _, Nat.le_refl _⟩ hl.1 rfl (Nat.le_of_ble_eq_true rfl) dX6_ifCounted_47 (fun H locs hP hS => ?_)
          refine lv_goto (tgt := 54) hx hb dX6_ifCounted_50 (by decide) ?_
          refine lv_iadd hx hb dX6_ifCounted_54 ?_
          refine lv_istore_n (lv' := [(3, .int (x3 + q12.1)), (0, .ref (o 0)), (1, .int a1), (2, .int a2), (4, .int x4)]) hx hb dX6_ifCounted_55 rfl hl (by decide) rfl (fun ls hl => ?_)
          refine lv_iinc (v := (x4 + (1 : Int32))) (lv' := [(4, .int (x4 + (1 : Int32))), (3, .int (x3 + q12.1)), (0, .ref (o 0)), (1, .int a1), (2, .int a2)]) hx hb dX6_ifCounted_56 hl (k := 4) rfl (congrArg (HAdd.hAdd x4) (by decide)) (by decide) rfl (fun ls hl => ?_)
          refine lv_goto (tgt := 27) hx hb dX6_ifCounted_59 (by decide) ?_
          exact ih27 (x3 + q12.1) (x4 + (1 : Int32)) q12.2 m_spare m_paid m_sparePaid m_order m_best m_many _ _ _ h hP hS (lv_sub hl [2, 3, 4, 1, 0] rfl)
  unfold f_X6_ifCounted at h
  refine lv_iload_n hx hb dX6_ifCounted_0 rfl (lv_at hl 1 rfl) ?_
  obtain ⟨q1, e1, h⟩ := bnd_some h
  refine s_call (As := [.int a1]) (rest := []) (c_X6_isSet l a1 q1 e1) B k_X6_isSet q_17_13 rfl ⟨Nat.le_of_ble_eq_true rfl, Nat.le_of_ble_eq_true rfl⟩ ⟨Nat.le_refl _, Nat.le_refl _⟩ hl.1 rfl (Nat.le_of_ble_eq_true rfl) dX6_ifCounted_1 ?_
  refine lv_if_eq (tgt := 16) hx hb dX6_ifCounted_4 (by decide) (fun c2 => ?_) (fun c2 => ?_)
  · have h := ift c2 h
    refine lv_iconst (v := (-1 : Int32)) hx hb dX6_ifCounted_16 (by decide) ?_
    obtain rfl := Option.some.inj h
    exact hret _ _ _ _ (vp_nar_int _) dX6_ifCounted_17 hP hS
  · have h := ifn c2 h
    refine lv_iload_n hx hb dX6_ifCounted_7 rfl (lv_at hl 2 rfl) ?_
    refine lv_iconst (v := (0 : Int32)) hx hb dX6_ifCounted_8 (by decide) ?_
    refine lv_iconst (v := (1 : Int32)) hx hb dX6_ifCounted_9 (by decide) ?_
    obtain ⟨q3, e3, h⟩ := bnd_some h
    refine s_call (As := [.int a2, .int (0 : Int32), .int (1 : Int32)]) (rest := []) (c_X6_in l a2 (0 : Int32) (1 : Int32) q3 e3) B k_X6_in q_9_15 rfl ⟨Nat.le_of_ble_eq_true rfl, Nat.le_of_ble_eq_true rfl⟩ ⟨Nat.le_refl _, Nat.le_refl _⟩ hl.1 rfl (Nat.le_of_ble_eq_true rfl) dX6_ifCounted_10 ?_
    refine lv_if_ne (tgt := 18) hx hb dX6_ifCounted_13 (by decide) (fun c4 => ?_) (fun c4 => ?_)
    · have h := ifn c4 h
      refine lv_aload_n hx hb dX6_ifCounted_18 rfl (lv_at hl 0 rfl) ?_
      obtain ⟨q5, e5, h⟩ := bnd_some h
      refine f_call (As := []) (rest := []) (c_X6_putsAside l D o cI cJ  m_s m_past m_kept m_spare m_paid m_pastPaid m_keptPaid m_sparePaid m_isKept m_pasts m_runs m_pad m_typed m_isStopped m_stop m_order m_best m_many m_bySets m_spot m_deeds m_deed q5 e5) B hK hDD hA hP hS rfl (va_recv hK hP (ci := 7) (q0 := 0) rfl rfl) k_X6_putsAside q_33_8 rfl ⟨Nat.le_of_ble_eq_true rfl, Nat.le_of_ble_eq_true rfl⟩ ⟨Nat.le_refl _, Nat.le_refl _⟩ hl.1 rfl (Nat.le_of_ble_eq_true rfl) dX6_ifCounted_19 (fun H locs hP hS => ?_)
      refine lv_iconst (v := (0 : Int32)) hx hb dX6_ifCounted_22 (by decide) ?_
      refine lv_istore_n (lv' := [(3, .int (0 : Int32)), (0, .ref (o 0)), (1, .int a1), (2, .int a2)]) hx hb dX6_ifCounted_23 rfl hl (by decide) rfl (fun ls hl => ?_)
      refine lv_iconst (v := (0 : Int32)) hx hb dX6_ifCounted_24 (by decide) ?_
      refine lv_istore (lv' := [(4, .int (0 : Int32)), (3, .int (0 : Int32)), (0, .ref (o 0)), (1, .int a1), (2, .int a2)]) hx hb dX6_ifCounted_25 hl (by decide) rfl (fun ls hl => ?_)
      exact hL27 1024 (0 : Int32) (0 : Int32) m_s q5.1 m_paid q5.2 m_order m_best m_many _ _ _ h hP hS (lv_sub hl [2, 3, 4, 1, 0] rfl)
    · have h := ift c4 h
      refine lv_iconst (v := (-1 : Int32)) hx hb dX6_ifCounted_16 (by decide) ?_
      obtain rfl := Option.some.inj h
      exact hret _ _ _ _ (vp_nar_int _) dX6_ifCounted_17 hP hS

def f_X6_ifRun (a1 : Int32) (m_s : Nat → Int32) (m_spare : Nat → Int32) (m_paid : Nat → Int64) (m_sparePaid : Nat → Int64) (m_order : Nat → Int32) (m_best : Nat → Int32) (m_many : Int32) : Option (Int32 × (Nat → Int32) × (Nat → Int32) × (Nat → Int64) × (Nat → Int64) × (Nat → Int32) × (Nat → Int32) × (Int32)) :=
  bnd (f_X6_isSet a1 ) (fun q1 => if q1 = (0 : Int32) then some ((-1 : Int32), m_s, m_spare, m_paid, m_sparePaid, m_order, m_best, m_many)
  else bnd (f_X6_putsAside  m_s m_spare m_paid m_sparePaid) (fun q3 => bnd (f_X6_runsOf a1 m_s m_paid m_order m_best m_many) (fun q4 => bnd (f_X6_cut q4.1 ) (fun q5 => bnd (f_X6_putsBack  q4.2.1 q3.1 q4.2.2.1 q3.2) (fun q6 => some (q5, q6.1, q3.1, q6.2, q3.2, q4.2.2.2.1, q4.2.2.2.2.1, q4.2.2.2.2.2))))))
set_option maxRecDepth 100000 in
set_option maxHeartbeats 4000000 in
theorem c_X6_ifRun (l : Launch) (D : va_G) (o : Nat → Nat) (cI cJ : ClassId) (a1 : Int32) (m_s : Nat → Int32) (m_past : Nat → Int32) (m_kept : Nat → Int32) (m_spare : Nat → Int32) (m_paid : Nat → Int64) (m_pastPaid : Nat → Int64) (m_keptPaid : Nat → Int64) (m_sparePaid : Nat → Int64) (m_isKept : Int32) (m_pasts : Int32) (m_runs : Int32) (m_pad : Nat → Int32) (m_typed : Int32) (m_isStopped : Int32) (m_stop : Nat → Int32) (m_order : Nat → Int32) (m_best : Nat → Int32) (m_many : Int32) (m_bySets : Nat → Int64) (m_spot : Int32) (m_deeds : Int32) (m_deed : Nat → Int32) (q : Int32 × (Nat → Int32) × (Nat → Int32) × (Nat → Int64) × (Nat → Int64) × (Nat → Int32) × (Nat → Int32) × (Int32)) (h : f_X6_ifRun a1 m_s m_spare m_paid m_sparePaid m_order m_best m_many = some q) : CF l yX6_ifRun cX6_ifRun 3 5 (some .int) D (tysMW cI cJ) [.ref (o 0), .int a1] (some (.int q.1)) (MW o cI cJ m_s m_past m_kept m_spare m_paid m_pastPaid m_keptPaid m_sparePaid m_isKept m_pasts m_runs m_pad m_typed m_isStopped m_stop m_order m_best m_many m_bySets m_spot m_deeds m_deed) (MW o cI cJ q.2.1 m_past m_kept q.2.2.1 q.2.2.2.1 m_pastPaid m_keptPaid q.2.2.2.2.1 m_isKept m_pasts m_runs m_pad m_typed m_isStopped m_stop q.2.2.2.2.2.1 q.2.2.2.2.2.2.1 q.2.2.2.2.2.2.2 m_bySets m_spot m_deeds m_deed) := by
  refine CF.mkI (by decide) (Nat.le_of_ble_eq_true rfl) ?_
  intro p e s m below meth c Q A B hK hDD hA hret hP hS ls hl
  have B0 := B
  obtain ⟨hx, hb, hml, hown, hts⟩ := B0
  have hl : lv_has ls 3 [(0, .ref (o 0)), (1, .int a1)] := hl
  unfold f_X6_ifRun at h
  refine lv_iload_n hx hb dX6_ifRun_0 rfl (lv_at hl 1 rfl) ?_
  obtain ⟨q1, e1, h⟩ := bnd_some h
  refine s_call (As := [.int a1]) (rest := []) (c_X6_isSet l a1 q1 e1) B k_X6_isSet q_17_13 rfl ⟨Nat.le_of_ble_eq_true rfl, Nat.le_of_ble_eq_true rfl⟩ ⟨Nat.le_refl _, Nat.le_refl _⟩ hl.1 rfl (Nat.le_of_ble_eq_true rfl) dX6_ifRun_1 ?_
  refine lv_if_ne (tgt := 9) hx hb dX6_ifRun_4 (by decide) (fun c2 => ?_) (fun c2 => ?_)
  · have h := ifn c2 h
    refine lv_aload_n hx hb dX6_ifRun_9 rfl (lv_at hl 0 rfl) ?_
    obtain ⟨q3, e3, h⟩ := bnd_some h
    refine f_call (As := []) (rest := []) (c_X6_putsAside l D o cI cJ  m_s m_past m_kept m_spare m_paid m_pastPaid m_keptPaid m_sparePaid m_isKept m_pasts m_runs m_pad m_typed m_isStopped m_stop m_order m_best m_many m_bySets m_spot m_deeds m_deed q3 e3) B hK hDD hA hP hS rfl (va_recv hK hP (ci := 7) (q0 := 0) rfl rfl) k_X6_putsAside q_33_8 rfl ⟨Nat.le_of_ble_eq_true rfl, Nat.le_of_ble_eq_true rfl⟩ ⟨Nat.le_refl _, Nat.le_refl _⟩ hl.1 rfl (Nat.le_of_ble_eq_true rfl) dX6_ifRun_10 (fun H locs hP hS => ?_)
    refine lv_aload_n hx hb dX6_ifRun_13 rfl (lv_at hl 0 rfl) ?_
    refine lv_iload_n hx hb dX6_ifRun_14 rfl (lv_at hl 1 rfl) ?_
    obtain ⟨q4, e4, h⟩ := bnd_some h
    refine f_call (As := [.int a1]) (rest := []) (c_X6_runsOf l D o cI cJ a1 m_s m_past m_kept q3.1 m_paid m_pastPaid m_keptPaid q3.2 m_isKept m_pasts m_runs m_pad m_typed m_isStopped m_stop m_order m_best m_many m_bySets m_spot m_deeds m_deed q4 e4) B hK hDD hA hP hS rfl (va_recv hK hP (ci := 7) (q0 := 0) rfl rfl) k_X6_runsOf q_17_16 rfl ⟨Nat.le_of_ble_eq_true rfl, Nat.le_of_ble_eq_true rfl⟩ ⟨Nat.le_refl _, Nat.le_refl _⟩ hl.1 rfl (Nat.le_of_ble_eq_true rfl) dX6_ifRun_15 (fun H locs hP hS => ?_)
    obtain ⟨q5, e5, h⟩ := bnd_some h
    refine s_call (As := [.long q4.1]) (rest := []) (c_X6_cut l q4.1 q5 e5) B k_X6_cut q_19_19 rfl ⟨Nat.le_of_ble_eq_true rfl, Nat.le_of_ble_eq_true rfl⟩ ⟨Nat.le_refl _, Nat.le_refl _⟩ hl.1 rfl (Nat.le_of_ble_eq_true rfl) dX6_ifRun_18 ?_
    refine lv_istore_n (lv' := [(2, .int q5), (0, .ref (o 0)), (1, .int a1)]) hx hb dX6_ifRun_21 rfl hl (by decide) rfl (fun ls hl => ?_)
    refine lv_aload_n hx hb dX6_ifRun_22 rfl (lv_at hl 1 rfl) ?_
    obtain ⟨q6, e6, h⟩ := bnd_some h
    refine f_call (As := []) (rest := []) (c_X6_putsBack l D o cI cJ  q4.2.1 m_past m_kept q3.1 q4.2.2.1 m_pastPaid m_keptPaid q3.2 m_isKept m_pasts m_runs m_pad m_typed m_isStopped m_stop q4.2.2.2.1 q4.2.2.2.2.1 q4.2.2.2.2.2 m_bySets m_spot m_deeds m_deed q6 e6) B hK hDD hA hP hS rfl (va_recv hK hP (ci := 7) (q0 := 0) rfl rfl) k_X6_putsBack q_33_16 rfl ⟨Nat.le_of_ble_eq_true rfl, Nat.le_of_ble_eq_true rfl⟩ ⟨Nat.le_refl _, Nat.le_refl _⟩ hl.1 rfl (Nat.le_of_ble_eq_true rfl) dX6_ifRun_23 (fun H locs hP hS => ?_)
    refine lv_iload_n hx hb dX6_ifRun_26 rfl (lv_at hl 0 rfl) ?_
    obtain rfl := Option.some.inj h
    exact hret _ _ _ _ (vp_nar_int _) dX6_ifRun_27 hP hS
  · have h := ift c2 h
    refine lv_iconst (v := (-1 : Int32)) hx hb dX6_ifRun_7 (by decide) ?_
    obtain rfl := Option.some.inj h
    exact hret _ _ _ _ (vp_nar_int _) dX6_ifRun_8 hP hS

def f_X6_leastDrift_L14b  (m_s : Nat → Int32) (k3 : Int32 → Option (Int32)) (k14 : Int32 → Int32 → Int32 → Option (Int32)) (x1 : Int32) (x2 : Int32) (x3 : Int32) : Option (Int32) :=
  if (4 : Int32) ≤ x3 then if x2 = (0 : Int32) then k3 (x1 + (1 : Int32))
  else some x1
  else if x2 = (0 : Int32) then k14 x1 (0 : Int32) (x3 + (1 : Int32))
  else bnd (f_X6_isLoose x3 m_s) (fun q5 => if q5 = (0 : Int32) then k14 x1 (1 : Int32) (x3 + (1 : Int32))
  else bnd (f_X6_hasDrifted x3 x1 m_s) (fun q7 => if q7 = (0 : Int32) then k14 x1 (1 : Int32) (x3 + (1 : Int32))
  else k14 x1 (0 : Int32) (x3 + (1 : Int32))))
def f_X6_leastDrift_L14  (m_s : Nat → Int32) (k3 : Int32 → Option (Int32)) : Nat → Int32 → Int32 → Int32 → Option (Int32)
  | 0 => fun _ _ _ => none
  | n + 1 => f_X6_leastDrift_L14b m_s k3 (f_X6_leastDrift_L14 m_s k3 n)
def f_X6_leastDrift_L3b  (m_s : Nat → Int32)  (k3 : Int32 → Option (Int32)) (x1 : Int32) : Option (Int32) :=
  if (1000 : Int32) < x1 then some (-4 : Int32)
  else f_X6_leastDrift_L14 m_s k3 1024 x1 (1 : Int32) (0 : Int32)
def f_X6_leastDrift_L3  (m_s : Nat → Int32)  : Nat → Int32 → Option (Int32)
  | 0 => fun _ => none
  | n + 1 => f_X6_leastDrift_L3b m_s  (f_X6_leastDrift_L3 m_s  n)
def f_X6_leastDrift  (m_s : Nat → Int32) : Option (Int32) :=
  f_X6_leastDrift_L3 m_s  1024 (100 : Int32)
set_option maxRecDepth 100000 in
set_option maxHeartbeats 4000000 in
theorem c_X6_leastDrift (l : Launch) (D : va_G) (o : Nat → Nat) (cI cJ : ClassId)  (m_s : Nat → Int32) (m_past : Nat → Int32) (m_kept : Nat → Int32) (m_spare : Nat → Int32) (m_paid : Nat → Int64) (m_pastPaid : Nat → Int64) (m_keptPaid : Nat → Int64) (m_sparePaid : Nat → Int64) (m_isKept : Int32) (m_pasts : Int32) (m_runs : Int32) (m_pad : Nat → Int32) (m_typed : Int32) (m_isStopped : Int32) (m_stop : Nat → Int32) (m_order : Nat → Int32) (m_best : Nat → Int32) (m_many : Int32) (m_bySets : Nat → Int64) (m_spot : Int32) (m_deeds : Int32) (m_deed : Nat → Int32) (q : Int32) (h : f_X6_leastDrift  m_s = some q) : CF l yX6_leastDrift cX6_leastDrift 4 2 (some .int) D (tysMW cI cJ) [.ref (o 0)] (some (.int q)) (MW o cI cJ m_s m_past m_kept m_spare m_paid m_pastPaid m_keptPaid m_sparePaid m_isKept m_pasts m_runs m_pad m_typed m_isStopped m_stop m_order m_best m_many m_bySets m_spot m_deeds m_deed) (MW o cI cJ m_s m_past m_kept m_spare m_paid m_pastPaid m_keptPaid m_sparePaid m_isKept m_pasts m_runs m_pad m_typed m_isStopped m_stop m_order m_best m_many m_bySets m_spot m_deeds m_deed) := by
  refine CF.mkI (by decide) (Nat.le_of_ble_eq_true rfl) ?_
  intro p e s m below meth c Q A B hK hDD hA hret hP hS ls hl
  have B0 := B
  obtain ⟨hx, hb, hml, hown, hts⟩ := B0
  have hl : lv_has ls 4 [(0, .ref (o 0))] := hl
  have hL3 : ∀ (n3 : Nat) (x1 : Int32) (ls : Array Slot) (H : Heap) (locs : List Loc), f_X6_leastDrift_L3 m_s  n3 x1 = some q → va_P D vwCl (MW o cI cJ m_s m_past m_kept m_spare m_paid m_pastPaid m_keptPaid m_sparePaid m_isKept m_pasts m_runs m_pad m_typed m_isStopped m_stop m_order m_best m_many m_bySets m_spot m_deeds m_deed) H → va_S A s.heap H locs → lv_has ls 4 [(0, .ref (o 0)), (1, .int x1)] → W p l e (rmF 2 0 0) s m ([.ref (o 0)] : List Value).toArray below meth c H locs 0 0 Q (F0 m 3 ls []) := by
    intro n3
    induction n3 with
    | zero =>
      intro x1 ls H locs h
      exact absurd (show (none : Option (Int32)) = some q from h) (by intro h; cases h)
    | succ n3 ih3 =>
      have hL14 : ∀ (n14 : Nat) (x1 : Int32) (x2 : Int32) (x3 : Int32) (ls : Array Slot) (H : Heap) (locs : List Loc), f_X6_leastDrift_L14 m_s (f_X6_leastDrift_L3 m_s   n3) n14 x1 x2 x3 = some q → va_P D vwCl (MW o cI cJ m_s m_past m_kept m_spare m_paid m_pastPaid m_keptPaid m_sparePaid m_isKept m_pasts m_runs m_pad m_typed m_isStopped m_stop m_order m_best m_many m_bySets m_spot m_deeds m_deed) H → va_S A s.heap H locs → lv_has ls 4 [(0, .ref (o 0)), (1, .int x1), (2, .int x2), (3, .int x3)] → W p l e (rmF 2 0 0) s m ([.ref (o 0)] : List Value).toArray below meth c H locs 0 0 Q (F0 m 14 ls []) := by
        intro n14
        induction n14 with
        | zero =>
          intro x1 x2 x3 ls H locs h
          exact absurd (show (none : Option (Int32)) = some q from h) (by intro h; cases h)
        | succ n14 ih14 =>
          intro x1 x2 x3 ls H locs h hP hS hl
          have h : f_X6_leastDrift_L14b m_s (f_X6_leastDrift_L3 m_s   n3) (f_X6_leastDrift_L14 m_s (f_X6_leastDrift_L3 m_s   n3) n14) x1 x2 x3 = some q := h
          unfold f_X6_leastDrift_L14b at h
          refine lv_iload_n hx hb dX6_leastDrift_14 rfl (lv_at hl 3 rfl) ?_
          refine lv_iconst (v := (4 : Int32)) hx hb dX6_leastDrift_15 (by decide) ?_
          refine lv_icmp_ge (tgt := 52) hx hb dX6_leastDrift_16 (by decide) (fun c2 => ?_) (fun c2 => ?_)
          · have h := ift c2 h
            refine lv_iload_n hx hb dX6_leastDrift_52 rfl (lv_at hl 2 rfl) ?_
            refine lv_if_eq (tgt := 58) hx hb dX6_leastDrift_53 (by decide) (fun c3 => ?_) (fun c3 => ?_)
            · have h := ift c3 h
              refine lv_iinc (v := (x1 + (1 : Int32))) (lv' := [(1, .int (x1 + (1 : Int32))), (0, .ref (o 0)), (2, .int x2), (3, .int x3)]) hx hb dX6_leastDrift_58 hl (k := 1) rfl (congrArg (HAdd.hAdd x1) (by decide)) (by decide) rfl (fun ls hl => ?_)
              refine lv_goto (tgt := 3) hx hb dX6_leastDrift_61 (by decide) ?_
              exact ih3 (x1 + (1 : Int32)) _ _ _ h hP hS (lv_sub hl [1, 0] rfl)
            · have h := ifn c3 h
              refine lv_iload_n hx hb dX6_leastDrift_56 rfl (lv_at hl 1 rfl) ?_
              obtain rfl := Option.some.inj h
              exact hret _ _ _ _ (vp_nar_int _) dX6_leastDrift_57 hP hS
          · have h := ifn c2 h
            refine lv_iload_n hx hb dX6_leastDrift_19 rfl (lv_at hl 2 rfl) ?_
            refine lv_if_eq (tgt := 44) hx hb dX6_leastDrift_20 (by decide) (fun c4 => ?_) (fun c4 => ?_)
            · have h := ift c4 h
              refine lv_iconst (v := (0 : Int32)) hx hb dX6_leastDrift_44 (by decide) ?_
              refine lv_istore_n (lv' := [(2, .int (0 : Int32)), (0, .ref (o 0)), (1, .int x1), (3, .int x3)]) hx hb dX6_leastDrift_45 rfl hl (by decide) rfl (fun ls hl => ?_)
              refine lv_iinc (v := (x3 + (1 : Int32))) (lv' := [(3, .int (x3 + (1 : Int32))), (2, .int (0 : Int32)), (0, .ref (o 0)), (1, .int x1)]) hx hb dX6_leastDrift_46 hl (k := 3) rfl (congrArg (HAdd.hAdd x3) (by decide)) (by decide) rfl (fun ls hl => ?_)
              refine lv_goto (tgt := 14) hx hb dX6_leastDrift_49 (by decide) ?_
              exact ih14 x1 (0 : Int32) (x3 + (1 : Int32)) _ _ _ h hP hS (lv_sub hl [2, 3, 1, 0] rfl)
            · have h := ifn c4 h
              refine lv_aload_n hx hb dX6_leastDrift_23 rfl (lv_at hl 0 rfl) ?_
              refine lv_iload_n hx hb dX6_leastDrift_24 rfl (lv_at hl 3 rfl) ?_
              obtain ⟨q5, e5, h⟩ := bnd_some h
              refine f_call (As := [.int x3]) (rest := []) (c_X6_isLoose l D o cI cJ x3 m_s m_past m_kept m_spare m_paid m_pastPaid m_keptPaid m_sparePaid m_isKept m_pasts m_runs m_pad m_typed m_isStopped m_stop m_order m_best m_many m_bySets m_spot m_deeds m_deed q5 e5) B hK hDD hA hP hS rfl (va_recv hK hP (ci := 7) (q0 := 0) rfl rfl) k_X6_isLoose q_11_0 rfl ⟨Nat.le_of_ble_eq_true rfl, Nat.le_of_ble_eq_true rfl⟩ ⟨Nat.le_refl _, Nat.le_refl _⟩ hl.1 rfl (Nat.le_of_ble_eq_true rfl) dX6_leastDrift_25 (fun H locs hP hS => ?_)
              refine lv_if_eq (tgt := 40) hx hb dX6_leastDrift_28 (by decide) (fun c6 => ?_) (fun c6 => ?_)
              · have h := ift c6 h
                refine lv_iconst (v := (1 : Int32)) hx hb dX6_leastDrift_40 (by decide) ?_
                refine lv_goto (tgt := 45) hx hb dX6_leastDrift_41 (by decide) ?_
                refine lv_istore_n (lv' := [(2, .int (1 : Int32)), (0, .ref (o 0)), (1, .int x1), (3, .int x3)]) hx hb dX6_leastDrift_45 rfl hl (by decide) rfl (fun ls hl => ?_)
                refine lv_iinc (v := (x3 + (1 : Int32))) (lv' := [(3, .int (x3 + (1 : Int32))), (2, .int (1 : Int32)), (0, .ref (o 0)), (1, .int x1)]) hx hb dX6_leastDrift_46 hl (k := 3) rfl (congrArg (HAdd.hAdd x3) (by decide)) (by decide) rfl (fun ls hl => ?_)
                refine lv_goto (tgt := 14) hx hb dX6_leastDrift_49 (by decide) ?_
                exact ih14 x1 (1 : Int32) (x3 + (1 : Int32)) _ _ _ h hP hS (lv_sub hl [2, 3, 1, 0] rfl)
              · have h := ifn c6 h
                refine lv_aload_n hx hb dX6_leastDrift_31 rfl (lv_at hl 0 rfl) ?_
                refine lv_iload_n hx hb dX6_leastDrift_32 rfl (lv_at hl 3 rfl) ?_
                refine lv_iload_n hx hb dX6_leastDrift_33 rfl (lv_at hl 1 rfl) ?_
                obtain ⟨q7, e7, h⟩ := bnd_some h
                refine f_call (As := [.int x3, .int x1]) (rest := []) (c_X6_hasDrifted l D o cI cJ x3 x1 m_s m_past m_kept m_spare m_paid m_pastPaid m_keptPaid m_sparePaid m_isKept m_pasts m_runs m_pad m_typed m_isStopped m_stop m_order m_best m_many m_bySets m_spot m_deeds m_deed q7 e7) B hK hDD hA hP hS rfl (va_recv hK hP (ci := 7) (q0 := 0) rfl rfl) k_X6_hasDrifted q_12_20 rfl ⟨Nat.le_of_ble_eq_true rfl, Nat.le_of_ble_eq_true rfl⟩ ⟨Nat.le_refl _, Nat.le_refl _⟩ hl.1 rfl (Nat.le_of_ble_eq_true rfl) dX6_leastDrift_34 (fun H locs hP hS => ?_)
                refine lv_if_ne (tgt := 44) hx hb dX6_leastDrift_37 (by decide) (fun c8 => ?_) (fun c8 => ?_)
                · have h := ifn c8 h
                  refine lv_iconst (v := (0 : Int32)) hx hb dX6_leastDrift_44 (by decide) ?_
                  refine lv_istore_n (lv' := [(2, .int (0 : Int32)), (0, .ref (o 0)), (1, .int x1), (3, .int x3)]) hx hb dX6_leastDrift_45 rfl hl (by decide) rfl (fun ls hl => ?_)
                  refine lv_iinc (v := (x3 + (1 : Int32))) (lv' := [(3, .int (x3 + (1 : Int32))), (2, .int (0 : Int32)), (0, .ref (o 0)), (1, .int x1)]) hx hb dX6_leastDrift_46 hl (k := 3) rfl (congrArg (HAdd.hAdd x3) (by decide)) (by decide) rfl (fun ls hl => ?_)
                  refine lv_goto (tgt := 14) hx hb dX6_leastDrift_49 (by decide) ?_
                  exact ih14 x1 (0 : Int32) (x3 + (1 : Int32)) _ _ _ h hP hS (lv_sub hl [2, 3, 1, 0] rfl)
                · have h := ift c8 h
                  refine lv_iconst (v := (1 : Int32)) hx hb dX6_leastDrift_40 (by decide) ?_
                  refine lv_goto (tgt := 45) hx hb dX6_leastDrift_41 (by decide) ?_
                  refine lv_istore_n (lv' := [(2, .int (1 : Int32)), (0, .ref (o 0)), (1, .int x1), (3, .int x3)]) hx hb dX6_leastDrift_45 rfl hl (by decide) rfl (fun ls hl => ?_)
                  refine lv_iinc (v := (x3 + (1 : Int32))) (lv' := [(3, .int (x3 + (1 : Int32))), (2, .int (1 : Int32)), (0, .ref (o 0)), (1, .int x1)]) hx hb dX6_leastDrift_46 hl (k := 3) rfl (congrArg (HAdd.hAdd x3) (by decide)) (by decide) rfl (fun ls hl => ?_)
                  refine lv_goto (tgt := 14) hx hb dX6_leastDrift_49 (by decide) ?_
                  exact ih14 x1 (1 : Int32) (x3 + (1 : Int32)) _ _ _ h hP hS (lv_sub hl [2, 3, 1, 0] rfl)
      intro x1 ls H locs h hP hS hl
      have h : f_X6_leastDrift_L3b m_s  (f_X6_leastDrift_L3 m_s  n3) x1 = some q := h
      unfold f_X6_leastDrift_L3b at h
      refine lv_iload_n hx hb dX6_leastDrift_3 rfl (lv_at hl 1 rfl) ?_
      refine lv_sipush (v := (1000 : Int32)) hx hb dX6_leastDrift_4 (by decide) ?_
      refine lv_icmp_gt (tgt := 64) hx hb dX6_leastDrift_7 (by decide) (fun c1 => ?_) (fun c1 => ?_)
      · have h := ift c1 h
        refine lv_bipush (v := (-4 : Int32)) hx hb dX6_leastDrift_64 (by decide) ?_
        obtain rfl := Option.some.inj h
        exact hret _ _ _ _ (vp_nar_int _) dX6_leastDrift_66 hP hS
      · have h := ifn c1 h
        refine lv_iconst (v := (1 : Int32)) hx hb dX6_leastDrift_10 (by decide) ?_
        refine lv_istore_n (lv' := [(2, .int (1 : Int32)), (0, .ref (o 0)), (1, .int x1)]) hx hb dX6_leastDrift_11 rfl hl (by decide) rfl (fun ls hl => ?_)
        refine lv_iconst (v := (0 : Int32)) hx hb dX6_leastDrift_12 (by decide) ?_
        refine lv_istore_n (lv' := [(3, .int (0 : Int32)), (2, .int (1 : Int32)), (0, .ref (o 0)), (1, .int x1)]) hx hb dX6_leastDrift_13 rfl hl (by decide) rfl (fun ls hl => ?_)
        exact hL14 1024 x1 (1 : Int32) (0 : Int32) _ _ _ h hP hS (lv_sub hl [2, 3, 1, 0] rfl)
  unfold f_X6_leastDrift at h
  refine lv_bipush (v := (100 : Int32)) hx hb dX6_leastDrift_0 (by decide) ?_
  refine lv_istore_n (lv' := [(1, .int (100 : Int32)), (0, .ref (o 0))]) hx hb dX6_leastDrift_2 rfl hl (by decide) rfl (fun ls hl => ?_)
  exact hL3 1024 (100 : Int32) _ _ _ h hP hS (lv_sub hl [1, 0] rfl)

def f_X6_undo_L22b  (m_past : Nat → Int32) (m_pastPaid : Nat → Int64)  (k22 : Int32 → (Nat → Int32) → (Nat → Int64) → Int32 → Option (Int32 × (Nat → Int32) × (Nat → Int64) × (Int32))) (x1 : Int32) (m_s : Nat → Int32) (m_paid : Nat → Int64) (m_pasts : Int32) : Option (Int32 × (Nat → Int32) × (Nat → Int64) × (Int32)) :=
  if (100 : Int32) ≤ x1 then grd (inb ((2 : Int32) * m_pasts) 8) (grd (inb (0 : Int32) 2) (grd (inb (((2 : Int32) * m_pasts) + (1 : Int32)) 8) (grd (inb (1 : Int32) 2) (some (m_pasts, m_s, (vp_updL (vp_updL m_paid (0 : Int32).toNatClampNeg (m_pastPaid ((2 : Int32) * m_pasts).toNatClampNeg)) (1 : Int32).toNatClampNeg (m_pastPaid (((2 : Int32) * m_pasts) + (1 : Int32)).toNatClampNeg)), m_pasts)))))
  else grd (inb (((100 : Int32) * m_pasts) + x1) 400) (grd (inb x1 100) (k22 (x1 + (1 : Int32)) (upd m_s x1.toNatClampNeg (m_past (((100 : Int32) * m_pasts) + x1).toNatClampNeg)) m_paid m_pasts))
def f_X6_undo_L22  (m_past : Nat → Int32) (m_pastPaid : Nat → Int64)  : Nat → Int32 → (Nat → Int32) → (Nat → Int64) → Int32 → Option (Int32 × (Nat → Int32) × (Nat → Int64) × (Int32))
  | 0 => fun _ _ _ _ => none
  | n + 1 => f_X6_undo_L22b m_past m_pastPaid  (f_X6_undo_L22 m_past m_pastPaid  n)
def f_X6_undo  (m_s : Nat → Int32) (m_past : Nat → Int32) (m_paid : Nat → Int64) (m_pastPaid : Nat → Int64) (m_pasts : Int32) : Option (Int32 × (Nat → Int32) × (Nat → Int64) × (Int32)) :=
  if m_pasts = (0 : Int32) then some ((-2 : Int32), m_s, m_paid, m_pasts)
  else f_X6_undo_L22 m_past m_pastPaid  1024 (0 : Int32) m_s m_paid (m_pasts - (1 : Int32))
set_option maxRecDepth 100000 in
set_option maxHeartbeats 4000000 in
theorem c_X6_undo (l : Launch) (D : va_G) (o : Nat → Nat) (cI cJ : ClassId)  (m_s : Nat → Int32) (m_past : Nat → Int32) (m_kept : Nat → Int32) (m_spare : Nat → Int32) (m_paid : Nat → Int64) (m_pastPaid : Nat → Int64) (m_keptPaid : Nat → Int64) (m_sparePaid : Nat → Int64) (m_isKept : Int32) (m_pasts : Int32) (m_runs : Int32) (m_pad : Nat → Int32) (m_typed : Int32) (m_isStopped : Int32) (m_stop : Nat → Int32) (m_order : Nat → Int32) (m_best : Nat → Int32) (m_many : Int32) (m_bySets : Nat → Int64) (m_spot : Int32) (m_deeds : Int32) (m_deed : Nat → Int32) (q : Int32 × (Nat → Int32) × (Nat → Int64) × (Int32)) (h : f_X6_undo  m_s m_past m_paid m_pastPaid m_pasts = some q) : CF l yX6_undo cX6_undo 2 0 (some .int) D (tysMW cI cJ) [.ref (o 0)] (some (.int q.1)) (MW o cI cJ m_s m_past m_kept m_spare m_paid m_pastPaid m_keptPaid m_sparePaid m_isKept m_pasts m_runs m_pad m_typed m_isStopped m_stop m_order m_best m_many m_bySets m_spot m_deeds m_deed) (MW o cI cJ q.2.1 m_past m_kept m_spare q.2.2.1 m_pastPaid m_keptPaid m_sparePaid m_isKept q.2.2.2 m_runs m_pad m_typed m_isStopped m_stop m_order m_best m_many m_bySets m_spot m_deeds m_deed) := by
  refine CF.mkI (by decide) (Nat.le_of_ble_eq_true rfl) ?_
  intro p e s m below meth c Q A B hK hDD hA hret hP hS ls hl
  have B0 := B
  obtain ⟨hx, hb, hml, hown, hts⟩ := B0
  have hl : lv_has ls 2 [(0, .ref (o 0))] := hl
  have hL22 : ∀ (n22 : Nat) (x1 : Int32) (m_s : Nat → Int32) (m_paid : Nat → Int64) (m_pasts : Int32) (ls : Array Slot) (H : Heap) (locs : List Loc), f_X6_undo_L22 m_past m_pastPaid  n22 x1 m_s m_paid m_pasts = some q → va_P D vwCl (MW o cI cJ m_s m_past m_kept m_spare m_paid m_pastPaid m_keptPaid m_sparePaid m_isKept m_pasts m_runs m_pad m_typed m_isStopped m_stop m_order m_best m_many m_bySets m_spot m_deeds m_deed) H → va_S A s.heap H locs → lv_has ls 2 [(0, .ref (o 0)), (1, .int x1)] → W p l e (rmF 0 0 0) s m ([.ref (o 0)] : List Value).toArray below meth c H locs 0 0 Q (F0 m 22 ls []) := by
    intro n22
    induction n22 with
    | zero =>
      intro x1 m_s m_paid m_pasts ls H locs h
      exact absurd (show (none : Option (Int32 × (Nat → Int32) × (Nat → Int64) × (Int32))) = some q from h) (by intro h; cases h)
    | succ n22 ih22 =>
      intro x1 m_s m_paid m_pasts ls H locs h hP hS hl
      have h : f_X6_undo_L22b m_past m_pastPaid  (f_X6_undo_L22 m_past m_pastPaid  n22) x1 m_s m_paid m_pasts = some q := h
      unfold f_X6_undo_L22b at h
      refine lv_iload_n hx hb dX6_undo_22 rfl (lv_at hl 1 rfl) ?_
      refine lv_bipush (v := (100 : Int32)) hx hb dX6_undo_23 (by decide) ?_
      refine lv_icmp_ge (tgt := 54) hx hb dX6_undo_25 (by decide) (fun c2 => ?_) (fun c2 => ?_)
      · have h := ift c2 h
        refine lv_aload_n hx hb dX6_undo_54 rfl (lv_at hl 0 rfl) ?_
        refine va_get (D := D) (ci := 7) (v := .ref (o 5)) (C := RX6) (T := TX6) (N := 22) hx hb hts inlX6 hown hK hP 0 rfl rfl 4 (by decide) (hts _ q_4_9) (fun _ h9 => h9) rfl dX6_undo_55 ?_
        refine lv_iconst (v := (0 : Int32)) hx hb dX6_undo_58 (by decide) ?_
        refine lv_aload_n hx hb dX6_undo_59 rfl (lv_at hl 0 rfl) ?_
        refine va_get (D := D) (ci := 7) (v := .ref (o 6)) (C := RX6) (T := TX6) (N := 22) hx hb hts inlX6 hown hK hP 0 rfl rfl 5 (by decide) (hts _ q_4_10) (fun _ h9 => h9) rfl dX6_undo_60 ?_
        refine lv_iconst (v := (2 : Int32)) hx hb dX6_undo_63 (by decide) ?_
        refine lv_aload_n hx hb dX6_undo_64 rfl (lv_at hl 0 rfl) ?_
        refine va_get (D := D) (ci := 7) (v := .int m_pasts) (C := RX6) (T := TX6) (N := 22) hx hb hts inlX6 hown hK hP 0 rfl rfl 9 (by decide) (hts _ q_9_23) (fun _ h9 => h9) rfl dX6_undo_65 ?_
        refine lv_imul hx hb dX6_undo_68 ?_
        obtain ⟨g3, h⟩ := grd_some h
        refine va_lald hx hb hK hP 6 1 rfl rfl (inb_in g3) dX6_undo_69 ?_
        obtain ⟨g4, h⟩ := grd_some h
        refine va_last hx hb hK hP (hDD _ rfl) hS 5 1 rfl rfl (inb_in g4) dX6_undo_70 (fun H locs hP _ hS => ?_)
        have hP : va_P D vwCl (MW o cI cJ m_s m_past m_kept m_spare (vp_updL m_paid (0 : Int32).toNatClampNeg (m_pastPaid ((2 : Int32) * m_pasts).toNatClampNeg)) m_pastPaid m_keptPaid m_sparePaid m_isKept m_pasts m_runs m_pad m_typed m_isStopped m_stop m_order m_best m_many m_bySets m_spot m_deeds m_deed) H := hP
        refine lv_aload_n hx hb dX6_undo_71 rfl (lv_at hl 0 rfl) ?_
        refine va_get (D := D) (ci := 7) (v := .ref (o 5)) (C := RX6) (T := TX6) (N := 22) hx hb hts inlX6 hown hK hP 0 rfl rfl 4 (by decide) (hts _ q_4_9) (fun _ h9 => h9) rfl dX6_undo_72 ?_
        refine lv_iconst (v := (1 : Int32)) hx hb dX6_undo_75 (by decide) ?_
        refine lv_aload_n hx hb dX6_undo_76 rfl (lv_at hl 0 rfl) ?_
        refine va_get (D := D) (ci := 7) (v := .ref (o 6)) (C := RX6) (T := TX6) (N := 22) hx hb hts inlX6 hown hK hP 0 rfl rfl 5 (by decide) (hts _ q_4_10) (fun _ h9 => h9) rfl dX6_undo_77 ?_
        refine lv_iconst (v := (2 : Int32)) hx hb dX6_undo_80 (by decide) ?_
        refine lv_aload_n hx hb dX6_undo_81 rfl (lv_at hl 0 rfl) ?_
        refine va_get (D := D) (ci := 7) (v := .int m_pasts) (C := RX6) (T := TX6) (N := 22) hx hb hts inlX6 hown hK hP 0 rfl rfl 9 (by decide) (hts _ q_9_23) (fun _ h9 => h9) rfl dX6_undo_82 ?_
        refine lv_imul hx hb dX6_undo_85 ?_
        refine lv_iconst (v := (1 : Int32)) hx hb dX6_undo_86 (by decide) ?_
        refine lv_iadd hx hb dX6_undo_87 ?_
        obtain ⟨g5, h⟩ := grd_some h
        refine va_lald hx hb hK hP 6 1 rfl rfl (inb_in g5) dX6_undo_88 ?_
        obtain ⟨g6, h⟩ := grd_some h
        refine va_last hx hb hK hP (hDD _ rfl) hS 5 1 rfl rfl (inb_in g6) dX6_undo_89 (fun H locs hP _ hS => ?_)
        have hP : va_P D vwCl (MW o cI cJ m_s m_past m_kept m_spare (vp_updL (vp_updL m_paid (0 : Int32).toNatClampNeg (m_pastPaid ((2 : Int32) * m_pasts).toNatClampNeg)) (1 : Int32).toNatClampNeg (m_pastPaid (((2 : Int32) * m_pasts) + (1 : Int32)).toNatClampNeg)) m_pastPaid m_keptPaid m_sparePaid m_isKept m_pasts m_runs m_pad m_typed m_isStopped m_stop m_order m_best m_many m_bySets m_spot m_deeds m_deed) H := hP
        refine lv_aload_n hx hb dX6_undo_90 rfl (lv_at hl 0 rfl) ?_
        refine va_get (D := D) (ci := 7) (v := .int m_pasts) (C := RX6) (T := TX6) (N := 22) hx hb hts inlX6 hown hK hP 0 rfl rfl 9 (by decide) (hts _ q_9_23) (fun _ h9 => h9) rfl dX6_undo_91 ?_
        obtain rfl := Option.some.inj h
        exact hret _ _ _ _ (vp_nar_int _) dX6_undo_94 hP hS
      · have h := ifn c2 h
        refine lv_aload_n hx hb dX6_undo_28 rfl (lv_at hl 0 rfl) ?_
        refine va_get (D := D) (ci := 7) (v := .ref (o 1)) (C := RX6) (T := TX6) (N := 22) hx hb hts inlX6 hown hK hP 0 rfl rfl 0 (by decide) (hts _ q_4_5) (fun _ h9 => h9) rfl dX6_undo_29 ?_
        refine lv_iload_n hx hb dX6_undo_32 rfl (lv_at hl 1 rfl) ?_
        refine lv_aload_n hx hb dX6_undo_33 rfl (lv_at hl 0 rfl) ?_
        refine va_get (D := D) (ci := 7) (v := .ref (o 2)) (C := RX6) (T := TX6) (N := 22) hx hb hts inlX6 hown hK hP 0 rfl rfl 1 (by decide) (hts _ q_4_6) (fun _ h9 => h9) rfl dX6_undo_34 ?_
        refine lv_bipush (v := (100 : Int32)) hx hb dX6_undo_37 (by decide) ?_
        refine lv_aload_n hx hb dX6_undo_39 rfl (lv_at hl 0 rfl) ?_
        refine va_get (D := D) (ci := 7) (v := .int m_pasts) (C := RX6) (T := TX6) (N := 22) hx hb hts inlX6 hown hK hP 0 rfl rfl 9 (by decide) (hts _ q_9_23) (fun _ h9 => h9) rfl dX6_undo_40 ?_
        refine lv_imul hx hb dX6_undo_43 ?_
        refine lv_iload_n hx hb dX6_undo_44 rfl (lv_at hl 1 rfl) ?_
        refine lv_iadd hx hb dX6_undo_45 ?_
        obtain ⟨g7, h⟩ := grd_some h
        refine va_iald hx hb hK hP 2 0 rfl rfl (inb_in g7) dX6_undo_46 ?_
        obtain ⟨g8, h⟩ := grd_some h
        refine va_iast hx hb hK hP (hDD _ rfl) hS 1 0 rfl rfl (inb_in g8) dX6_undo_47 (fun H locs hP _ hS => ?_)
        have hP : va_P D vwCl (MW o cI cJ (upd m_s x1.toNatClampNeg (m_past (((100 : Int32) * m_pasts) + x1).toNatClampNeg)) m_past m_kept m_spare m_paid m_pastPaid m_keptPaid m_sparePaid m_isKept m_pasts m_runs m_pad m_typed m_isStopped m_stop m_order m_best m_many m_bySets m_spot m_deeds m_deed) H := hP
        refine lv_iinc (v := (x1 + (1 : Int32))) (lv' := [(1, .int (x1 + (1 : Int32))), (0, .ref (o 0))]) hx hb dX6_undo_48 hl (k := 1) rfl (congrArg (HAdd.hAdd x1) (by decide)) (by decide) rfl (fun ls hl => ?_)
        refine lv_goto (tgt := 22) hx hb dX6_undo_51 (by decide) ?_
        exact ih22 (x1 + (1 : Int32)) (upd m_s x1.toNatClampNeg (m_past (((100 : Int32) * m_pasts) + x1).toNatClampNeg)) m_paid m_pasts _ _ _ h hP hS (lv_sub hl [1, 0] rfl)
  unfold f_X6_undo at h
  refine lv_aload_n hx hb dX6_undo_0 rfl (lv_at hl 0 rfl) ?_
  refine va_get (D := D) (ci := 7) (v := .int m_pasts) (C := RX6) (T := TX6) (N := 22) hx hb hts inlX6 hown hK hP 0 rfl rfl 9 (by decide) (hts _ q_9_23) (fun _ h9 => h9) rfl dX6_undo_1 ?_
  refine lv_if_ne (tgt := 10) hx hb dX6_undo_4 (by decide) (fun c1 => ?_) (fun c1 => ?_)
  · have h := ifn c1 h
    refine lv_aload_n hx hb dX6_undo_10 rfl (lv_at hl 0 rfl) ?_
    refine lv_dup hx hb dX6_undo_11 rfl ?_
    refine va_get (D := D) (ci := 7) (v := .int m_pasts) (C := RX6) (T := TX6) (N := 22) hx hb hts inlX6 hown hK hP 0 rfl rfl 9 (by decide) (hts _ q_9_23) (fun _ h9 => h9) rfl dX6_undo_12 ?_
    refine lv_iconst (v := (1 : Int32)) hx hb dX6_undo_15 (by decide) ?_
    refine lv_isub hx hb dX6_undo_16 ?_
    refine va_put (D := D) (ci := 7) (v := .int (m_pasts - (1 : Int32))) (ty := .int) (C := RX6) (T := TX6) (N := 22) hx hb hts inlX6 tyX6 tyX6_ok nmX6 hown hK hP (hDD _ rfl) hS 0 rfl rfl 9 (by decide) (hts _ q_9_23) (fun _ h9 => h9) rfl (by decide +kernel) rfl rfl (Nat.le_of_ble_eq_true rfl) dX6_undo_17 (fun H locs hP _ hS => ?_)
    have hP : va_P D vwCl (MW o cI cJ m_s m_past m_kept m_spare m_paid m_pastPaid m_keptPaid m_sparePaid m_isKept (m_pasts - (1 : Int32)) m_runs m_pad m_typed m_isStopped m_stop m_order m_best m_many m_bySets m_spot m_deeds m_deed) H := hP
    refine lv_iconst (v := (0 : Int32)) hx hb dX6_undo_20 (by decide) ?_
    refine lv_istore_n (lv' := [(1, .int (0 : Int32)), (0, .ref (o 0))]) hx hb dX6_undo_21 rfl hl (by decide) rfl (fun ls hl => ?_)
    exact hL22 1024 (0 : Int32) m_s m_paid (m_pasts - (1 : Int32)) _ _ _ h hP hS (lv_sub hl [1, 0] rfl)
  · have h := ift c1 h
    refine lv_bipush (v := (-2 : Int32)) hx hb dX6_undo_7 (by decide) ?_
    obtain rfl := Option.some.inj h
    exact hret _ _ _ _ (vp_nar_int _) dX6_undo_9 hP hS

def f_X6_save_L7b  (m_s : Nat → Int32) (m_paid : Nat → Int64)  (k7 : Int32 → (Nat → Int32) → (Nat → Int64) → Int32 → Option (Int32 × (Nat → Int32) × (Nat → Int64) × (Int32))) (x1 : Int32) (m_kept : Nat → Int32) (m_keptPaid : Nat → Int64) (m_isKept : Int32) : Option (Int32 × (Nat → Int32) × (Nat → Int64) × (Int32)) :=
  if (100 : Int32) ≤ x1 then grd (inb (0 : Int32) 2) (grd (inb (0 : Int32) 2) (grd (inb (1 : Int32) 2) (grd (inb (1 : Int32) 2) (bnd (f_X6_plans  m_s) (fun q6 => some (q6, m_kept, (vp_updL (vp_updL m_keptPaid (0 : Int32).toNatClampNeg (m_paid (0 : Int32).toNatClampNeg)) (1 : Int32).toNatClampNeg (m_paid (1 : Int32).toNatClampNeg)), m_isKept))))))
  else grd (inb x1 100) (grd (inb x1 100) (k7 (x1 + (1 : Int32)) (upd m_kept x1.toNatClampNeg (m_s x1.toNatClampNeg)) m_keptPaid m_isKept))
def f_X6_save_L7  (m_s : Nat → Int32) (m_paid : Nat → Int64)  : Nat → Int32 → (Nat → Int32) → (Nat → Int64) → Int32 → Option (Int32 × (Nat → Int32) × (Nat → Int64) × (Int32))
  | 0 => fun _ _ _ _ => none
  | n + 1 => f_X6_save_L7b m_s m_paid  (f_X6_save_L7 m_s m_paid  n)
def f_X6_save  (m_s : Nat → Int32) (m_kept : Nat → Int32) (m_paid : Nat → Int64) (m_keptPaid : Nat → Int64) (m_isKept : Int32) : Option (Int32 × (Nat → Int32) × (Nat → Int64) × (Int32)) :=
  f_X6_save_L7 m_s m_paid  1024 (0 : Int32) m_kept m_keptPaid (1 : Int32)
set_option maxRecDepth 100000 in
set_option maxHeartbeats 4000000 in
theorem c_X6_save (l : Launch) (D : va_G) (o : Nat → Nat) (cI cJ : ClassId)  (m_s : Nat → Int32) (m_past : Nat → Int32) (m_kept : Nat → Int32) (m_spare : Nat → Int32) (m_paid : Nat → Int64) (m_pastPaid : Nat → Int64) (m_keptPaid : Nat → Int64) (m_sparePaid : Nat → Int64) (m_isKept : Int32) (m_pasts : Int32) (m_runs : Int32) (m_pad : Nat → Int32) (m_typed : Int32) (m_isStopped : Int32) (m_stop : Nat → Int32) (m_order : Nat → Int32) (m_best : Nat → Int32) (m_many : Int32) (m_bySets : Nat → Int64) (m_spot : Int32) (m_deeds : Int32) (m_deed : Nat → Int32) (q : Int32 × (Nat → Int32) × (Nat → Int64) × (Int32)) (h : f_X6_save  m_s m_kept m_paid m_keptPaid m_isKept = some q) : CF l yX6_save cX6_save 2 2 (some .int) D (tysMW cI cJ) [.ref (o 0)] (some (.int q.1)) (MW o cI cJ m_s m_past m_kept m_spare m_paid m_pastPaid m_keptPaid m_sparePaid m_isKept m_pasts m_runs m_pad m_typed m_isStopped m_stop m_order m_best m_many m_bySets m_spot m_deeds m_deed) (MW o cI cJ m_s m_past q.2.1 m_spare m_paid m_pastPaid q.2.2.1 m_sparePaid q.2.2.2 m_pasts m_runs m_pad m_typed m_isStopped m_stop m_order m_best m_many m_bySets m_spot m_deeds m_deed) := by
  refine CF.mkI (by decide) (Nat.le_of_ble_eq_true rfl) ?_
  intro p e s m below meth c Q A B hK hDD hA hret hP hS ls hl
  have B0 := B
  obtain ⟨hx, hb, hml, hown, hts⟩ := B0
  have hl : lv_has ls 2 [(0, .ref (o 0))] := hl
  have hL7 : ∀ (n7 : Nat) (x1 : Int32) (m_kept : Nat → Int32) (m_keptPaid : Nat → Int64) (m_isKept : Int32) (ls : Array Slot) (H : Heap) (locs : List Loc), f_X6_save_L7 m_s m_paid  n7 x1 m_kept m_keptPaid m_isKept = some q → va_P D vwCl (MW o cI cJ m_s m_past m_kept m_spare m_paid m_pastPaid m_keptPaid m_sparePaid m_isKept m_pasts m_runs m_pad m_typed m_isStopped m_stop m_order m_best m_many m_bySets m_spot m_deeds m_deed) H → va_S A s.heap H locs → lv_has ls 2 [(0, .ref (o 0)), (1, .int x1)] → W p l e (rmF 2 0 0) s m ([.ref (o 0)] : List Value).toArray below meth c H locs 0 0 Q (F0 m 7 ls []) := by
    intro n7
    induction n7 with
    | zero =>
      intro x1 m_kept m_keptPaid m_isKept ls H locs h
      exact absurd (show (none : Option (Int32 × (Nat → Int32) × (Nat → Int64) × (Int32))) = some q from h) (by intro h; cases h)
    | succ n7 ih7 =>
      intro x1 m_kept m_keptPaid m_isKept ls H locs h hP hS hl
      have h : f_X6_save_L7b m_s m_paid  (f_X6_save_L7 m_s m_paid  n7) x1 m_kept m_keptPaid m_isKept = some q := h
      unfold f_X6_save_L7b at h
      refine lv_iload_n hx hb dX6_save_7 rfl (lv_at hl 1 rfl) ?_
      refine lv_bipush (v := (100 : Int32)) hx hb dX6_save_8 (by decide) ?_
      refine lv_icmp_ge (tgt := 31) hx hb dX6_save_10 (by decide) (fun c1 => ?_) (fun c1 => ?_)
      · have h := ift c1 h
        refine lv_aload_n hx hb dX6_save_31 rfl (lv_at hl 0 rfl) ?_
        refine va_get (D := D) (ci := 7) (v := .ref (o 7)) (C := RX6) (T := TX6) (N := 22) hx hb hts inlX6 hown hK hP 0 rfl rfl 6 (by decide) (hts _ q_4_11) (fun _ h9 => h9) rfl dX6_save_32 ?_
        refine lv_iconst (v := (0 : Int32)) hx hb dX6_save_35 (by decide) ?_
        refine lv_aload_n hx hb dX6_save_36 rfl (lv_at hl 0 rfl) ?_
        refine va_get (D := D) (ci := 7) (v := .ref (o 5)) (C := RX6) (T := TX6) (N := 22) hx hb hts inlX6 hown hK hP 0 rfl rfl 4 (by decide) (hts _ q_4_9) (fun _ h9 => h9) rfl dX6_save_37 ?_
        refine lv_iconst (v := (0 : Int32)) hx hb dX6_save_40 (by decide) ?_
        obtain ⟨g2, h⟩ := grd_some h
        refine va_lald hx hb hK hP 5 1 rfl rfl (inb_in g2) dX6_save_41 ?_
        obtain ⟨g3, h⟩ := grd_some h
        refine va_last hx hb hK hP (hDD _ rfl) hS 7 1 rfl rfl (inb_in g3) dX6_save_42 (fun H locs hP _ hS => ?_)
        have hP : va_P D vwCl (MW o cI cJ m_s m_past m_kept m_spare m_paid m_pastPaid (vp_updL m_keptPaid (0 : Int32).toNatClampNeg (m_paid (0 : Int32).toNatClampNeg)) m_sparePaid m_isKept m_pasts m_runs m_pad m_typed m_isStopped m_stop m_order m_best m_many m_bySets m_spot m_deeds m_deed) H := hP
        refine lv_aload_n hx hb dX6_save_43 rfl (lv_at hl 0 rfl) ?_
        refine va_get (D := D) (ci := 7) (v := .ref (o 7)) (C := RX6) (T := TX6) (N := 22) hx hb hts inlX6 hown hK hP 0 rfl rfl 6 (by decide) (hts _ q_4_11) (fun _ h9 => h9) rfl dX6_save_44 ?_
        refine lv_iconst (v := (1 : Int32)) hx hb dX6_save_47 (by decide) ?_
        refine lv_aload_n hx hb dX6_save_48 rfl (lv_at hl 0 rfl) ?_
        refine va_get (D := D) (ci := 7) (v := .ref (o 5)) (C := RX6) (T := TX6) (N := 22) hx hb hts inlX6 hown hK hP 0 rfl rfl 4 (by decide) (hts _ q_4_9) (fun _ h9 => h9) rfl dX6_save_49 ?_
        refine lv_iconst (v := (1 : Int32)) hx hb dX6_save_52 (by decide) ?_
        obtain ⟨g4, h⟩ := grd_some h
        refine va_lald hx hb hK hP 5 1 rfl rfl (inb_in g4) dX6_save_53 ?_
        obtain ⟨g5, h⟩ := grd_some h
        refine va_last hx hb hK hP (hDD _ rfl) hS 7 1 rfl rfl (inb_in g5) dX6_save_54 (fun H locs hP _ hS => ?_)
        have hP : va_P D vwCl (MW o cI cJ m_s m_past m_kept m_spare m_paid m_pastPaid (vp_updL (vp_updL m_keptPaid (0 : Int32).toNatClampNeg (m_paid (0 : Int32).toNatClampNeg)) (1 : Int32).toNatClampNeg (m_paid (1 : Int32).toNatClampNeg)) m_sparePaid m_isKept m_pasts m_runs m_pad m_typed m_isStopped m_stop m_order m_best m_many m_bySets m_spot m_deeds m_deed) H := hP
        refine lv_aload_n hx hb dX6_save_55 rfl (lv_at hl 0 rfl) ?_
        obtain ⟨q6, e6, h⟩ := bnd_some h
        refine f_call (As := []) (rest := []) (c_X6_plans l D o cI cJ  m_s m_past m_kept m_spare m_paid m_pastPaid (vp_updL (vp_updL m_keptPaid (0 : Int32).toNatClampNeg (m_paid (0 : Int32).toNatClampNeg)) (1 : Int32).toNatClampNeg (m_paid (1 : Int32).toNatClampNeg)) m_sparePaid m_isKept m_pasts m_runs m_pad m_typed m_isStopped m_stop m_order m_best m_many m_bySets m_spot m_deeds m_deed q6 e6) B hK hDD hA hP hS rfl (va_recv hK hP (ci := 7) (q0 := 0) rfl rfl) k_X6_plans q_32_7 rfl ⟨Nat.le_of_ble_eq_true rfl, Nat.le_of_ble_eq_true rfl⟩ ⟨Nat.le_refl _, Nat.le_refl _⟩ hl.1 rfl (Nat.le_of_ble_eq_true rfl) dX6_save_56 (fun H locs hP hS => ?_)
        obtain rfl := Option.some.inj h
        exact hret _ _ _ _ (vp_nar_int _) dX6_save_59 hP hS
      · have h := ifn c1 h
        refine lv_aload_n hx hb dX6_save_13 rfl (lv_at hl 0 rfl) ?_
        refine va_get (D := D) (ci := 7) (v := .ref (o 3)) (C := RX6) (T := TX6) (N := 22) hx hb hts inlX6 hown hK hP 0 rfl rfl 2 (by decide) (hts _ q_4_7) (fun _ h9 => h9) rfl dX6_save_14 ?_
        refine lv_iload_n hx hb dX6_save_17 rfl (lv_at hl 1 rfl) ?_
        refine lv_aload_n hx hb dX6_save_18 rfl (lv_at hl 0 rfl) ?_
        refine va_get (D := D) (ci := 7) (v := .ref (o 1)) (C := RX6) (T := TX6) (N := 22) hx hb hts inlX6 hown hK hP 0 rfl rfl 0 (by decide) (hts _ q_4_5) (fun _ h9 => h9) rfl dX6_save_19 ?_
        refine lv_iload_n hx hb dX6_save_22 rfl (lv_at hl 1 rfl) ?_
        obtain ⟨g7, h⟩ := grd_some h
        refine va_iald hx hb hK hP 1 0 rfl rfl (inb_in g7) dX6_save_23 ?_
        obtain ⟨g8, h⟩ := grd_some h
        refine va_iast hx hb hK hP (hDD _ rfl) hS 3 0 rfl rfl (inb_in g8) dX6_save_24 (fun H locs hP _ hS => ?_)
        have hP : va_P D vwCl (MW o cI cJ m_s m_past (upd m_kept x1.toNatClampNeg (m_s x1.toNatClampNeg)) m_spare m_paid m_pastPaid m_keptPaid m_sparePaid m_isKept m_pasts m_runs m_pad m_typed m_isStopped m_stop m_order m_best m_many m_bySets m_spot m_deeds m_deed) H := hP
        refine lv_iinc (v := (x1 + (1 : Int32))) (lv' := [(1, .int (x1 + (1 : Int32))), (0, .ref (o 0))]) hx hb dX6_save_25 hl (k := 1) rfl (congrArg (HAdd.hAdd x1) (by decide)) (by decide) rfl (fun ls hl => ?_)
        refine lv_goto (tgt := 7) hx hb dX6_save_28 (by decide) ?_
        exact ih7 (x1 + (1 : Int32)) (upd m_kept x1.toNatClampNeg (m_s x1.toNatClampNeg)) m_keptPaid m_isKept _ _ _ h hP hS (lv_sub hl [1, 0] rfl)
  unfold f_X6_save at h
  refine lv_aload_n hx hb dX6_save_0 rfl (lv_at hl 0 rfl) ?_
  refine lv_iconst (v := (1 : Int32)) hx hb dX6_save_1 (by decide) ?_
  refine va_put (D := D) (ci := 7) (v := .int (1 : Int32)) (ty := .boolean) (C := RX6) (T := TX6) (N := 22) hx hb hts inlX6 tyX6 tyX6_ok nmX6 hown hK hP (hDD _ rfl) hS 0 rfl rfl 8 (by decide) (hts _ q_35_11) (fun _ h9 => h9) rfl (by decide +kernel) rfl rfl (Nat.le_of_ble_eq_true rfl) dX6_save_2 (fun H locs hP _ hS => ?_)
  have hP : va_P D vwCl (MW o cI cJ m_s m_past m_kept m_spare m_paid m_pastPaid m_keptPaid m_sparePaid (1 : Int32) m_pasts m_runs m_pad m_typed m_isStopped m_stop m_order m_best m_many m_bySets m_spot m_deeds m_deed) H := hP
  refine lv_iconst (v := (0 : Int32)) hx hb dX6_save_5 (by decide) ?_
  refine lv_istore_n (lv' := [(1, .int (0 : Int32)), (0, .ref (o 0))]) hx hb dX6_save_6 rfl hl (by decide) rfl (fun ls hl => ?_)
  exact hL7 1024 (0 : Int32) m_kept m_keptPaid (1 : Int32) _ _ _ h hP hS (lv_sub hl [1, 0] rfl)

def f_X6_restore_L16b  (m_kept : Nat → Int32) (m_keptPaid : Nat → Int64) (m_isKept : Int32) (m_runs : Int32)  (k16 : Int32 → (Nat → Int32) → (Nat → Int32) → (Nat → Int64) → (Nat → Int64) → Int32 → Option (Int32 × (Nat → Int32) × (Nat → Int32) × (Nat → Int64) × (Nat → Int64) × (Int32))) (x1 : Int32) (m_s : Nat → Int32) (m_past : Nat → Int32) (m_paid : Nat → Int64) (m_pastPaid : Nat → Int64) (m_pasts : Int32) : Option (Int32 × (Nat → Int32) × (Nat → Int32) × (Nat → Int64) × (Nat → Int64) × (Int32)) :=
  if (100 : Int32) ≤ x1 then grd (inb (0 : Int32) 2) (grd (inb (0 : Int32) 2) (grd (inb (1 : Int32) 2) (grd (inb (1 : Int32) 2) (bnd (f_X6_plans  m_s) (fun q8 => some (q8, m_s, m_past, (vp_updL (vp_updL m_paid (0 : Int32).toNatClampNeg (m_keptPaid (0 : Int32).toNatClampNeg)) (1 : Int32).toNatClampNeg (m_keptPaid (1 : Int32).toNatClampNeg)), m_pastPaid, m_pasts))))))
  else grd (inb x1 100) (grd (inb x1 100) (k16 (x1 + (1 : Int32)) (upd m_s x1.toNatClampNeg (m_kept x1.toNatClampNeg)) m_past m_paid m_pastPaid m_pasts))
def f_X6_restore_L16  (m_kept : Nat → Int32) (m_keptPaid : Nat → Int64) (m_isKept : Int32) (m_runs : Int32)  : Nat → Int32 → (Nat → Int32) → (Nat → Int32) → (Nat → Int64) → (Nat → Int64) → Int32 → Option (Int32 × (Nat → Int32) × (Nat → Int32) × (Nat → Int64) × (Nat → Int64) × (Int32))
  | 0 => fun _ _ _ _ _ _ => none
  | n + 1 => f_X6_restore_L16b m_kept m_keptPaid m_isKept m_runs  (f_X6_restore_L16 m_kept m_keptPaid m_isKept m_runs  n)
def f_X6_restore  (m_s : Nat → Int32) (m_past : Nat → Int32) (m_kept : Nat → Int32) (m_paid : Nat → Int64) (m_pastPaid : Nat → Int64) (m_keptPaid : Nat → Int64) (m_isKept : Int32) (m_pasts : Int32) (m_runs : Int32) : Option (Int32 × (Nat → Int32) × (Nat → Int32) × (Nat → Int64) × (Nat → Int64) × (Int32)) :=
  if m_isKept = (0 : Int32) then some ((-2 : Int32), m_s, m_past, m_paid, m_pastPaid, m_pasts)
  else bnd (f_X6_changes  m_s m_past m_paid m_pastPaid m_pasts m_runs) (fun q2 => f_X6_restore_L16 m_kept m_keptPaid m_isKept m_runs  1024 (0 : Int32) m_s q2.1 m_paid q2.2.1 q2.2.2)
set_option maxRecDepth 100000 in
set_option maxHeartbeats 4000000 in
theorem c_X6_restore (l : Launch) (D : va_G) (o : Nat → Nat) (cI cJ : ClassId)  (m_s : Nat → Int32) (m_past : Nat → Int32) (m_kept : Nat → Int32) (m_spare : Nat → Int32) (m_paid : Nat → Int64) (m_pastPaid : Nat → Int64) (m_keptPaid : Nat → Int64) (m_sparePaid : Nat → Int64) (m_isKept : Int32) (m_pasts : Int32) (m_runs : Int32) (m_pad : Nat → Int32) (m_typed : Int32) (m_isStopped : Int32) (m_stop : Nat → Int32) (m_order : Nat → Int32) (m_best : Nat → Int32) (m_many : Int32) (m_bySets : Nat → Int64) (m_spot : Int32) (m_deeds : Int32) (m_deed : Nat → Int32) (q : Int32 × (Nat → Int32) × (Nat → Int32) × (Nat → Int64) × (Nat → Int64) × (Int32)) (h : f_X6_restore  m_s m_past m_kept m_paid m_pastPaid m_keptPaid m_isKept m_pasts m_runs = some q) : CF l yX6_restore cX6_restore 2 2 (some .int) D (tysMW cI cJ) [.ref (o 0)] (some (.int q.1)) (MW o cI cJ m_s m_past m_kept m_spare m_paid m_pastPaid m_keptPaid m_sparePaid m_isKept m_pasts m_runs m_pad m_typed m_isStopped m_stop m_order m_best m_many m_bySets m_spot m_deeds m_deed) (MW o cI cJ q.2.1 q.2.2.1 m_kept m_spare q.2.2.2.1 q.2.2.2.2.1 m_keptPaid m_sparePaid m_isKept q.2.2.2.2.2 m_runs m_pad m_typed m_isStopped m_stop m_order m_best m_many m_bySets m_spot m_deeds m_deed) := by
  refine CF.mkI (by decide) (Nat.le_of_ble_eq_true rfl) ?_
  intro p e s m below meth c Q A B hK hDD hA hret hP hS ls hl
  have B0 := B
  obtain ⟨hx, hb, hml, hown, hts⟩ := B0
  have hl : lv_has ls 2 [(0, .ref (o 0))] := hl
  have hL16 : ∀ (n16 : Nat) (x1 : Int32) (m_s : Nat → Int32) (m_past : Nat → Int32) (m_paid : Nat → Int64) (m_pastPaid : Nat → Int64) (m_pasts : Int32) (ls : Array Slot) (H : Heap) (locs : List Loc), f_X6_restore_L16 m_kept m_keptPaid m_isKept m_runs  n16 x1 m_s m_past m_paid m_pastPaid m_pasts = some q → va_P D vwCl (MW o cI cJ m_s m_past m_kept m_spare m_paid m_pastPaid m_keptPaid m_sparePaid m_isKept m_pasts m_runs m_pad m_typed m_isStopped m_stop m_order m_best m_many m_bySets m_spot m_deeds m_deed) H → va_S A s.heap H locs → lv_has ls 2 [(0, .ref (o 0)), (1, .int x1)] → W p l e (rmF 2 0 0) s m ([.ref (o 0)] : List Value).toArray below meth c H locs 0 0 Q (F0 m 16 ls []) := by
    intro n16
    induction n16 with
    | zero =>
      intro x1 m_s m_past m_paid m_pastPaid m_pasts ls H locs h
      exact absurd (show (none : Option (Int32 × (Nat → Int32) × (Nat → Int32) × (Nat → Int64) × (Nat → Int64) × (Int32))) = some q from h) (by intro h; cases h)
    | succ n16 ih16 =>
      intro x1 m_s m_past m_paid m_pastPaid m_pasts ls H locs h hP hS hl
      have h : f_X6_restore_L16b m_kept m_keptPaid m_isKept m_runs  (f_X6_restore_L16 m_kept m_keptPaid m_isKept m_runs  n16) x1 m_s m_past m_paid m_pastPaid m_pasts = some q := h
      unfold f_X6_restore_L16b at h
      refine lv_iload_n hx hb dX6_restore_16 rfl (lv_at hl 1 rfl) ?_
      refine lv_bipush (v := (100 : Int32)) hx hb dX6_restore_17 (by decide) ?_
      refine lv_icmp_ge (tgt := 40) hx hb dX6_restore_19 (by decide) (fun c3 => ?_) (fun c3 => ?_)
      · have h := ift c3 h
        refine lv_aload_n hx hb dX6_restore_40 rfl (lv_at hl 0 rfl) ?_
        refine va_get (D := D) (ci := 7) (v := .ref (o 5)) (C := RX6) (T := TX6) (N := 22) hx hb hts inlX6 hown hK hP 0 rfl rfl 4 (by decide) (hts _ q_4_9) (fun _ h9 => h9) rfl dX6_restore_41 ?_
        refine lv_iconst (v := (0 : Int32)) hx hb dX6_restore_44 (by decide) ?_
        refine lv_aload_n hx hb dX6_restore_45 rfl (lv_at hl 0 rfl) ?_
        refine va_get (D := D) (ci := 7) (v := .ref (o 7)) (C := RX6) (T := TX6) (N := 22) hx hb hts inlX6 hown hK hP 0 rfl rfl 6 (by decide) (hts _ q_4_11) (fun _ h9 => h9) rfl dX6_restore_46 ?_
        refine lv_iconst (v := (0 : Int32)) hx hb dX6_restore_49 (by decide) ?_
        obtain ⟨g4, h⟩ := grd_some h
        refine va_lald hx hb hK hP 7 1 rfl rfl (inb_in g4) dX6_restore_50 ?_
        obtain ⟨g5, h⟩ := grd_some h
        refine va_last hx hb hK hP (hDD _ rfl) hS 5 1 rfl rfl (inb_in g5) dX6_restore_51 (fun H locs hP _ hS => ?_)
        have hP : va_P D vwCl (MW o cI cJ m_s m_past m_kept m_spare (vp_updL m_paid (0 : Int32).toNatClampNeg (m_keptPaid (0 : Int32).toNatClampNeg)) m_pastPaid m_keptPaid m_sparePaid m_isKept m_pasts m_runs m_pad m_typed m_isStopped m_stop m_order m_best m_many m_bySets m_spot m_deeds m_deed) H := hP
        refine lv_aload_n hx hb dX6_restore_52 rfl (lv_at hl 0 rfl) ?_
        refine va_get (D := D) (ci := 7) (v := .ref (o 5)) (C := RX6) (T := TX6) (N := 22) hx hb hts inlX6 hown hK hP 0 rfl rfl 4 (by decide) (hts _ q_4_9) (fun _ h9 => h9) rfl dX6_restore_53 ?_
        refine lv_iconst (v := (1 : Int32)) hx hb dX6_restore_56 (by decide) ?_
        refine lv_aload_n hx hb dX6_restore_57 rfl (lv_at hl 0 rfl) ?_
        refine va_get (D := D) (ci := 7) (v := .ref (o 7)) (C := RX6) (T := TX6) (N := 22) hx hb hts inlX6 hown hK hP 0 rfl rfl 6 (by decide) (hts _ q_4_11) (fun _ h9 => h9) rfl dX6_restore_58 ?_
        refine lv_iconst (v := (1 : Int32)) hx hb dX6_restore_61 (by decide) ?_
        obtain ⟨g6, h⟩ := grd_some h
        refine va_lald hx hb hK hP 7 1 rfl rfl (inb_in g6) dX6_restore_62 ?_
        obtain ⟨g7, h⟩ := grd_some h
        refine va_last hx hb hK hP (hDD _ rfl) hS 5 1 rfl rfl (inb_in g7) dX6_restore_63 (fun H locs hP _ hS => ?_)
        have hP : va_P D vwCl (MW o cI cJ m_s m_past m_kept m_spare (vp_updL (vp_updL m_paid (0 : Int32).toNatClampNeg (m_keptPaid (0 : Int32).toNatClampNeg)) (1 : Int32).toNatClampNeg (m_keptPaid (1 : Int32).toNatClampNeg)) m_pastPaid m_keptPaid m_sparePaid m_isKept m_pasts m_runs m_pad m_typed m_isStopped m_stop m_order m_best m_many m_bySets m_spot m_deeds m_deed) H := hP
        refine lv_aload_n hx hb dX6_restore_64 rfl (lv_at hl 0 rfl) ?_
        obtain ⟨q8, e8, h⟩ := bnd_some h
        refine f_call (As := []) (rest := []) (c_X6_plans l D o cI cJ  m_s m_past m_kept m_spare (vp_updL (vp_updL m_paid (0 : Int32).toNatClampNeg (m_keptPaid (0 : Int32).toNatClampNeg)) (1 : Int32).toNatClampNeg (m_keptPaid (1 : Int32).toNatClampNeg)) m_pastPaid m_keptPaid m_sparePaid m_isKept m_pasts m_runs m_pad m_typed m_isStopped m_stop m_order m_best m_many m_bySets m_spot m_deeds m_deed q8 e8) B hK hDD hA hP hS rfl (va_recv hK hP (ci := 7) (q0 := 0) rfl rfl) k_X6_plans q_32_7 rfl ⟨Nat.le_of_ble_eq_true rfl, Nat.le_of_ble_eq_true rfl⟩ ⟨Nat.le_refl _, Nat.le_refl _⟩ hl.1 rfl (Nat.le_of_ble_eq_true rfl) dX6_restore_65 (fun H locs hP hS => ?_)
        obtain rfl := Option.some.inj h
        exact hret _ _ _ _ (vp_nar_int _) dX6_restore_68 hP hS
      · have h := ifn c3 h
        refine lv_aload_n hx hb dX6_restore_22 rfl (lv_at hl 0 rfl) ?_
        refine va_get (D := D) (ci := 7) (v := .ref (o 1)) (C := RX6) (T := TX6) (N := 22) hx hb hts inlX6 hown hK hP 0 rfl rfl 0 (by decide) (hts _ q_4_5) (fun _ h9 => h9) rfl dX6_restore_23 ?_
        refine lv_iload_n hx hb dX6_restore_26 rfl (lv_at hl 1 rfl) ?_
        refine lv_aload_n hx hb dX6_restore_27 rfl (lv_at hl 0 rfl) ?_
        refine va_get (D := D) (ci := 7) (v := .ref (o 3)) (C := RX6) (T := TX6) (N := 22) hx hb hts inlX6 hown hK hP 0 rfl rfl 2 (by decide) (hts _ q_4_7) (fun _ h9 => h9) rfl dX6_restore_28 ?_
        refine lv_iload_n hx hb dX6_restore_31 rfl (lv_at hl 1 rfl) ?_
        obtain ⟨g9, h⟩ := grd_some h
        refine va_iald hx hb hK hP 3 0 rfl rfl (inb_in g9) dX6_restore_32 ?_
        obtain ⟨g10, h⟩ := grd_some h
        refine va_iast hx hb hK hP (hDD _ rfl) hS 1 0 rfl rfl (inb_in g10) dX6_restore_33 (fun H locs hP _ hS => ?_)
        have hP : va_P D vwCl (MW o cI cJ (upd m_s x1.toNatClampNeg (m_kept x1.toNatClampNeg)) m_past m_kept m_spare m_paid m_pastPaid m_keptPaid m_sparePaid m_isKept m_pasts m_runs m_pad m_typed m_isStopped m_stop m_order m_best m_many m_bySets m_spot m_deeds m_deed) H := hP
        refine lv_iinc (v := (x1 + (1 : Int32))) (lv' := [(1, .int (x1 + (1 : Int32))), (0, .ref (o 0))]) hx hb dX6_restore_34 hl (k := 1) rfl (congrArg (HAdd.hAdd x1) (by decide)) (by decide) rfl (fun ls hl => ?_)
        refine lv_goto (tgt := 16) hx hb dX6_restore_37 (by decide) ?_
        exact ih16 (x1 + (1 : Int32)) (upd m_s x1.toNatClampNeg (m_kept x1.toNatClampNeg)) m_past m_paid m_pastPaid m_pasts _ _ _ h hP hS (lv_sub hl [1, 0] rfl)
  unfold f_X6_restore at h
  refine lv_aload_n hx hb dX6_restore_0 rfl (lv_at hl 0 rfl) ?_
  refine va_get (D := D) (ci := 7) (v := .int m_isKept) (C := RX6) (T := TX6) (N := 22) hx hb hts inlX6 hown hK hP 0 rfl rfl 8 (by decide) (hts _ q_35_11) (fun _ h9 => h9) rfl dX6_restore_1 ?_
  refine lv_if_ne (tgt := 10) hx hb dX6_restore_4 (by decide) (fun c1 => ?_) (fun c1 => ?_)
  · have h := ifn c1 h
    refine lv_aload_n hx hb dX6_restore_10 rfl (lv_at hl 0 rfl) ?_
    obtain ⟨q2, e2, h⟩ := bnd_some h
    refine f_call (As := []) (rest := []) (c_X6_changes l D o cI cJ  m_s m_past m_kept m_spare m_paid m_pastPaid m_keptPaid m_sparePaid m_isKept m_pasts m_runs m_pad m_typed m_isStopped m_stop m_order m_best m_many m_bySets m_spot m_deeds m_deed q2 e2) B hK hDD hA hP hS rfl (va_recv hK hP (ci := 7) (q0 := 0) rfl rfl) k_X6_changes q_9_18 rfl ⟨Nat.le_of_ble_eq_true rfl, Nat.le_of_ble_eq_true rfl⟩ ⟨Nat.le_refl _, Nat.le_refl _⟩ hl.1 rfl (Nat.le_of_ble_eq_true rfl) dX6_restore_11 (fun H locs hP hS => ?_)
    refine lv_iconst (v := (0 : Int32)) hx hb dX6_restore_14 (by decide) ?_
    refine lv_istore_n (lv' := [(1, .int (0 : Int32)), (0, .ref (o 0))]) hx hb dX6_restore_15 rfl hl (by decide) rfl (fun ls hl => ?_)
    exact hL16 1024 (0 : Int32) m_s q2.1 m_paid q2.2.1 q2.2.2 _ _ _ h hP hS (lv_sub hl [1, 0] rfl)
  · have h := ift c1 h
    refine lv_bipush (v := (-2 : Int32)) hx hb dX6_restore_7 (by decide) ?_
    obtain rfl := Option.some.inj h
    exact hret _ _ _ _ (vp_nar_int _) dX6_restore_9 hP hS
