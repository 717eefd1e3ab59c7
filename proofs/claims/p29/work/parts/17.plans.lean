/-! DriftPlans over the known heap: laid by wip/whole/genk.py -/
theorem k_X1_init : Cond.code yX1_init cX1_init 1 none ∈ wsL_law ∧ Cond.instanceMethod yX1_init ∈ wsL_law ∧ Cond.initialized (yX1_init).cls ∈ wsL_law ∧ (yX1_init).name = "<init>" ∧ ((yX1_init).cls ≠ "java/lang/invoke/MethodHandle" ∧ (yX1_init).cls ≠ "java/lang/invoke/VarHandle" ∧ (parseMethodDescriptor (yX1_init).desc).map (fun d => d.parameters.length) = some 0) := ⟨q_3_18, q_3_17, q_2_3, rfl, by decide +kernel⟩
theorem k_X3_init : Cond.code yX3_init cX3_init 1 none ∈ wsL_law ∧ Cond.instanceMethod yX3_init ∈ wsL_law ∧ Cond.initialized (yX3_init).cls ∈ wsL_law ∧ (yX3_init).name = "<init>" ∧ ((yX3_init).cls ≠ "java/lang/invoke/MethodHandle" ∧ (yX3_init).cls ≠ "java/lang/invoke/VarHandle" ∧ (parseMethodDescriptor (yX3_init).desc).map (fun d => d.parameters.length) = some 0) := ⟨q_3_12, q_3_11, q_1_23, rfl, by decide +kernel⟩
theorem k_X5_init : Cond.code yX5_init cX5_init 1 none ∈ wsL_law ∧ Cond.instanceMethod yX5_init ∈ wsL_law ∧ Cond.initialized (yX5_init).cls ∈ wsL_law ∧ (yX5_init).name = "<init>" ∧ ((yX5_init).cls ≠ "java/lang/invoke/MethodHandle" ∧ (yX5_init).cls ≠ "java/lang/invoke/VarHandle" ∧ (parseMethodDescriptor (yX5_init).desc).map (fun d => d.parameters.length) = some 0) := ⟨q_1_8, q_1_7, q_1_2, rfl, by decide +kernel⟩
theorem k_X5_remember : VOk yX5_remember cX5_remember 1 none 0 := ⟨q_4_18, q_4_16, q_4_17, q_1_2, by decide +kernel⟩
theorem k_X5_rows : VOk yX5_rows cX5_rows 4 (some .int) 2 := ⟨q_4_10, q_4_8, q_4_9, q_1_2, by decide +kernel⟩
theorem k_X5_part : VOk yX5_part cX5_part 4 (some .int) 3 := ⟨q_9_2, q_9_0, q_9_1, q_1_2, by decide +kernel⟩
theorem k_X5_count : VOk yX5_count cX5_count 2 (some .int) 1 := ⟨q_10_7, q_10_5, q_10_6, q_1_2, by decide +kernel⟩
theorem k_X5_reckoned : VOk yX5_reckoned cX5_reckoned 2 (some (.object "DriftPlans$Reckoner")) 1 := ⟨q_13_21, q_13_19, q_13_20, q_1_2, by decide +kernel⟩
theorem k_X5_runQuery : VOk yX5_runQuery cX5_runQuery 8 (some .long) 1 := ⟨q_12_14, q_12_12, q_12_13, q_1_2, by decide +kernel⟩
theorem k_X5_run : VOk yX5_run cX5_run 2 (some .int) 1 := ⟨q_12_7, q_12_5, q_12_6, q_1_2, by decide +kernel⟩
theorem k_X5_pin : VOk yX5_pin cX5_pin 4 (some .int) 1 := ⟨q_16_23, q_16_21, q_16_22, q_1_2, by decide +kernel⟩
theorem k_X5_forget : VOk yX5_forget cX5_forget 3 (some .int) 1 := ⟨q_17_13, q_17_11, q_17_12, q_1_2, by decide +kernel⟩
theorem k_X5_drift : VOk yX5_drift cX5_drift 2 (some .int) 1 := ⟨q_17_19, q_17_17, q_17_18, q_1_2, by decide +kernel⟩
theorem k_X5_table : VOk yX5_table cX5_table 3 (some .int) 2 := ⟨q_19_19, q_19_17, q_19_18, q_1_2, by decide +kernel⟩
theorem k_X5_partOf : VOk yX5_partOf cX5_partOf 3 (some .int) 2 := ⟨q_20_8, q_20_6, q_20_7, q_1_2, by decide +kernel⟩
theorem k_X5_size : VOk yX5_size cX5_size 3 (some .int) 2 := ⟨q_20_19, q_20_17, q_20_18, q_1_2, by decide +kernel⟩
theorem k_X5_least : VOk yX5_least cX5_least 5 (some .int) 3 := ⟨q_21_0, q_20_22, q_20_23, q_1_2, by decide +kernel⟩
theorem k_X5_best : VOk yX5_best cX5_best 5 (some .int) 3 := ⟨q_20_15, q_20_13, q_20_14, q_1_2, by decide +kernel⟩
theorem k_X5_plan : VOk yX5_plan cX5_plan 6 (some .int) 2 := ⟨q_18_3, q_18_1, q_18_2, q_1_2, by decide +kernel⟩
theorem k_X5_counted : VOk yX5_counted cX5_counted 2 (some .int) 1 := ⟨q_18_18, q_18_16, q_18_17, q_1_2, by decide +kernel⟩
def g_X1_init (ct : Nat → ClassId) (a0 : Nat) (this : Nat) (h : KH) (Post : Unit → KH → Prop) : Prop :=
  nwC h (.inl (ct 2, 60, .inl (fun _ => 0))) (fun q2 h2 => wrF h2 this 2 0 (.ref q2) (fun h3 => wrF h3 this 2 1 (.int (0 : Int32)) (fun h4 => Post () h4)))
set_option maxRecDepth 100000 in
set_option maxHeartbeats 4000000 in
theorem cg_X1_init (l : Launch) (D : va_G) (ct : Nat → ClassId) (a0 : Nat) (this : Nat) (h : KH) (Post : Unit → KH → Prop) (hw : g_X1_init ct a0 this h Post) : CK l yX1_init cX1_init 1 1 1 60 none D ct a0 [.ref this] vV h Post := by
  refine CK.mkV (by decide) (Nat.le_of_ble_eq_true rfl) ?_
  intro p e s m below meth c Q A X hret hW hS ls hl
  obtain ⟨B, hin, hK, hN, hZ, hA⟩ := X
  have B0 := B
  obtain ⟨hx, hb, hml, hown, hts⟩ := B0
  have hl : lv_has ls 1 [(0, .ref this)] := hl
  unfold g_X1_init at hw
  refine lv_aload_n hx hb dX1_init_0 rfl (lv_at hl 0 rfl) ?_
  refine W.objInit hx hb hown (hts _ q_3_19) (hts _ q_1_10) (hts _ q_1_11) rfl (by rw [hml]; exact hl.1) rfl dX1_init_1 (Nat.le_of_ble_eq_true rfl) (Nat.le_of_ble_eq_true rfl) ?_
  refine W.eq (g2 := F0 m 4 ls []) rfl ?_
  refine lv_aload_n hx hb dX1_init_4 rfl (lv_at hl 0 rfl) ?_
  refine lv_bipush (v := (60 : Int32)) hx hb dX1_init_5 (by decide) ?_
  refine kw_newa (atype := .char) (a0 := (60, .inl (fun _ => 0))) (n := (60 : Int32)) (N' := 60) hx hb (hts _ q_3_20) rfl hK 2 rfl hW hS hA (fun _ => rfl) (by decide) (by decide) (by decide) (Nat.le_of_ble_eq_true rfl) (Nat.le_of_ble_eq_true rfl) dX1_init_7 (fun q2 H h2 n2 eh2 hW hS => ?_)
  have hw := hw q2 h2 n2 eh2
  obtain ⟨fs3, e3, l3, hw⟩ := hw
  refine kw_putF (ci := 2) (v := .ref q2) (ty := .array .char) (C := RX1) (T := TX1) (N := 2) hx hb hts inlX1 tyX1 tyX1_ok nmX1 hown hK hW hS e3 rfl 0 (by decide) (hts _ q_3_21) (fun _ h9 => h9) rfl hin rfl (by decide +kernel) rfl rfl l3 dX1_init_9 (fun H locs h3 eh3 hW hS => ?_)
  have hw := hw h3 eh3
  refine lv_aload_n hx hb dX1_init_12 rfl (lv_at hl 0 rfl) ?_
  refine lv_iconst (v := (0 : Int32)) hx hb dX1_init_13 (by decide) ?_
  obtain ⟨fs4, e4, l4, hw⟩ := hw
  refine kw_put (ci := 2) (v := .int (0 : Int32)) (ty := .int) (C := RX1) (T := TX1) (N := 2) hx hb hts inlX1 tyX1 tyX1_ok nmX1 hown hK hW hS e4 rfl 1 (by decide) (hts _ q_3_22) (fun _ h9 => h9) rfl  (by decide +kernel) rfl rfl l4 dX1_init_14 (fun H locs h4 eh4 hW hS => ?_)
  have hw := hw h4 eh4
  refine W.widen (k := 1) (n := 60) (by omega) (by omega) ?_
  exact hret _ _ _ _ h4 dX1_init_17 hw hW hS

def g_X3_init (ct : Nat → ClassId) (a0 : Nat) (this : Nat) (h : KH) (Post : Unit → KH → Prop) : Prop :=
  nwC h (.inl (ct 1, 32, .inr (.inl (fun _ => 0)))) (fun q2 h2 => wrF h2 this 4 0 (.ref q2) (fun h3 => nwC h3 (.inl (ct 1, 32, .inr (.inl (fun _ => 0)))) (fun q4 h4 => wrF h4 this 4 1 (.ref q4) (fun h5 => nwC h5 (.inl (ct 0, 32, .inl (fun _ => 0))) (fun q6 h6 => wrF h6 this 4 2 (.ref q6) (fun h7 => rdR h7 this 4 0 (fun v8 => stL h7 v8 (0 : Int32) (ct 1) (1 : Int64) (fun h9 => Post () h9))))))))
set_option maxRecDepth 100000 in
set_option maxHeartbeats 4000000 in
theorem cg_X3_init (l : Launch) (D : va_G) (ct : Nat → ClassId) (a0 : Nat) (this : Nat) (h : KH) (Post : Unit → KH → Prop) (hw : g_X3_init ct a0 this h Post) : CK l yX3_init cX3_init 1 1 3 96 none D ct a0 [.ref this] vV h Post := by
  refine CK.mkV (by decide) (Nat.le_of_ble_eq_true rfl) ?_
  intro p e s m below meth c Q A X hret hW hS ls hl
  obtain ⟨B, hin, hK, hN, hZ, hA⟩ := X
  have B0 := B
  obtain ⟨hx, hb, hml, hown, hts⟩ := B0
  have hl : lv_has ls 1 [(0, .ref this)] := hl
  unfold g_X3_init at hw
  refine lv_aload_n hx hb dX3_init_0 rfl (lv_at hl 0 rfl) ?_
  refine W.objInit hx hb hown (hts _ q_3_13) (hts _ q_1_10) (hts _ q_1_11) rfl (by rw [hml]; exact hl.1) rfl dX3_init_1 (Nat.le_of_ble_eq_true rfl) (Nat.le_of_ble_eq_true rfl) ?_
  refine W.eq (g2 := F0 m 4 ls []) rfl ?_
  refine lv_aload_n hx hb dX3_init_4 rfl (lv_at hl 0 rfl) ?_
  refine lv_bipush (v := (32 : Int32)) hx hb dX3_init_5 (by decide) ?_
  refine kw_newa (atype := .long) (a0 := (32, .inr (.inl (fun _ => 0)))) (n := (32 : Int32)) (N' := 32) hx hb (hts _ q_1_4) rfl hK 1 rfl hW hS hA (fun _ => rfl) (by decide) (by decide) (by decide) (Nat.le_of_ble_eq_true rfl) (Nat.le_of_ble_eq_true rfl) dX3_init_7 (fun q2 H h2 n2 eh2 hW hS => ?_)
  have hw := hw q2 h2 n2 eh2
  obtain ⟨fs3, e3, l3, hw⟩ := hw
  refine kw_putF (ci := 4) (v := .ref q2) (ty := .array .long) (C := RX3) (T := TX3) (N := 3) hx hb hts inlX3 tyX3 tyX3_ok nmX3 hown hK hW hS e3 rfl 0 (by decide) (hts _ q_3_14) (fun _ h9 => h9) rfl hin rfl (by decide +kernel) rfl rfl l3 dX3_init_9 (fun H locs h3 eh3 hW hS => ?_)
  have hw := hw h3 eh3
  refine lv_aload_n hx hb dX3_init_12 rfl (lv_at hl 0 rfl) ?_
  refine lv_bipush (v := (32 : Int32)) hx hb dX3_init_13 (by decide) ?_
  refine kw_newa (atype := .long) (a0 := (32, .inr (.inl (fun _ => 0)))) (n := (32 : Int32)) (N' := 32) hx hb (hts _ q_1_4) rfl hK 1 rfl hW hS hA (fun _ => rfl) (by decide) (by decide) (by decide) (Nat.le_of_ble_eq_true rfl) (Nat.le_of_ble_eq_true rfl) dX3_init_15 (fun q4 H h4 n4 eh4 hW hS => ?_)
  have hw := hw q4 h4 n4 eh4
  obtain ⟨fs5, e5, l5, hw⟩ := hw
  refine kw_putF (ci := 4) (v := .ref q4) (ty := .array .long) (C := RX3) (T := TX3) (N := 3) hx hb hts inlX3 tyX3 tyX3_ok nmX3 hown hK hW hS e5 rfl 1 (by decide) (hts _ q_3_15) (fun _ h9 => h9) rfl hin rfl (by decide +kernel) rfl rfl l5 dX3_init_17 (fun H locs h5 eh5 hW hS => ?_)
  have hw := hw h5 eh5
  refine lv_aload_n hx hb dX3_init_20 rfl (lv_at hl 0 rfl) ?_
  refine lv_bipush (v := (32 : Int32)) hx hb dX3_init_21 (by decide) ?_
  refine kw_newa (atype := .int) (a0 := (32, .inl (fun _ => 0))) (n := (32 : Int32)) (N' := 32) hx hb (hts _ q_1_3) rfl hK 0 rfl hW hS hA (fun _ => rfl) (by decide) (by decide) (by decide) (Nat.le_of_ble_eq_true rfl) (Nat.le_of_ble_eq_true rfl) dX3_init_23 (fun q6 H h6 n6 eh6 hW hS => ?_)
  have hw := hw q6 h6 n6 eh6
  obtain ⟨fs7, e7, l7, hw⟩ := hw
  refine kw_putF (ci := 4) (v := .ref q6) (ty := .array .int) (C := RX3) (T := TX3) (N := 3) hx hb hts inlX3 tyX3 tyX3_ok nmX3 hown hK hW hS e7 rfl 2 (by decide) (hts _ q_3_16) (fun _ h9 => h9) rfl hin rfl (by decide +kernel) rfl rfl l7 dX3_init_25 (fun H locs h7 eh7 hW hS => ?_)
  have hw := hw h7 eh7
  refine lv_aload_n hx hb dX3_init_28 rfl (lv_at hl 0 rfl) ?_
  obtain ⟨fs8, v8, e8, f8, hw⟩ := hw
  refine kw_get (ci := 4) (C := RX3) (T := TX3) (N := 3) hx hb hts inlX3 hown hK hW e8 rfl 0 (by decide) (hts _ q_3_14) (fun _ h9 => h9) f8 dX3_init_29 ?_
  refine lv_iconst (v := (0 : Int32)) hx hb dX3_init_32 (by decide) ?_
  refine lv_lconst (v := (1 : Int64)) hx hb dX3_init_33 (by decide) ?_
  obtain ⟨n9, f9, e9, g9, hw⟩ := hw
  refine kw_last hx hb hK hW hS 1 e9 rfl g9 dX3_init_34 (fun H locs h9 eh9 hW hS => ?_)
  have hw := hw h9 eh9
  refine W.widen (k := 3) (n := 96) (by omega) (by omega) ?_
  exact hret _ _ _ _ h9 dX3_init_35 hw hW hS

def g_X5_init (ct : Nat → ClassId) (a0 : Nat) (this : Nat) (h : KH) (Post : Unit → KH → Prop) : Prop :=
  nwC h (.inr (5, [.null, .null, .null, .null, .int 0, .long 0, .long 0, .long 0, .long 0, .long 0, .long 0, .long 0, .long 0, .long 0])) (fun q2 h2 => g_X4_init ct a0 q2 h2 (fun _ h3 => wrF h3 this 6 0 (.ref q2) (fun h4 => wrF h4 this 6 1 (.null) (fun h5 => nwC h5 (.inr (0, [.int 0, .null, .int 0])) (fun q6 h6 => g_Jx4a65c_init_da8c8 ct a0 q6 h6 (fun _ h7 => wrF h7 this 6 2 (.ref q6) (fun h8 => nwC h8 (.inr (4, [.null, .null, .null])) (fun q9 h9 => g_X3_init ct a0 q9 h9 (fun _ h10 => wrF h10 this 6 3 (.ref q9) (fun h11 => nwC h11 (.inr (2, [.null, .int 0])) (fun q12 h12 => g_X1_init ct a0 q12 h12 (fun _ h13 => wrF h13 this 6 4 (.ref q12) (fun h14 => wrF h14 this 6 5 (.int (-1 : Int32)) (fun h15 => wrF h15 this 6 6 (.int (-1 : Int32)) (fun h16 => Post () h16)))))))))))))))
set_option maxRecDepth 100000 in
set_option maxHeartbeats 4000000 in
theorem cg_X5_init (l : Launch) (D : va_G) (ct : Nat → ClassId) (a0 : Nat) (this : Nat) (h : KH) (Post : Unit → KH → Prop) (hw : g_X5_init ct a0 this h Post) : CK l yX5_init cX5_init 1 5 17 221 none D ct a0 [.ref this] vV h Post := by
  refine CK.mkV (by decide) (Nat.le_of_ble_eq_true rfl) ?_
  intro p e s m below meth c Q A X hret hW hS ls hl
  obtain ⟨B, hin, hK, hN, hZ, hA⟩ := X
  have B0 := B
  obtain ⟨hx, hb, hml, hown, hts⟩ := B0
  have hl : lv_has ls 1 [(0, .ref this)] := hl
  unfold g_X5_init at hw
  refine lv_aload_n hx hb dX5_init_0 rfl (lv_at hl 0 rfl) ?_
  refine W.objInit hx hb hown (hts _ q_1_9) (hts _ q_1_10) (hts _ q_1_11) rfl (by rw [hml]; exact hl.1) rfl dX5_init_1 (Nat.le_of_ble_eq_true rfl) (Nat.le_of_ble_eq_true rfl) ?_
  refine W.eq (g2 := F0 m 4 ls []) rfl ?_
  refine lv_aload_n hx hb dX5_init_4 rfl (lv_at hl 0 rfl) ?_
  refine kw_new (ci := 5) (fs := [.null, .null, .null, .null, .int 0, .long 0, .long 0, .long 0, .long 0, .long 0, .long 0, .long 0, .long 0, .long 0]) (C := RX4) (T := TX4) (N := 14) hx hb hts inlX4 tyX4 tyX4_ok hown (hts _ q_1_12) (hts _ q_1_13) (hts _ q_1_14) hK hW hS hA rfl (fun j hj => by rcases (show j = 0 ∨ j = 1 ∨ j = 2 ∨ j = 3 ∨ j = 4 ∨ j = 5 ∨ j = 6 ∨ j = 7 ∨ j = 8 ∨ j = 9 ∨ j = 10 ∨ j = 11 ∨ j = 12 ∨ j = 13 by omega) with rfl | rfl | rfl | rfl | rfl | rfl | rfl | rfl | rfl | rfl | rfl | rfl | rfl | rfl <;> rfl) (Nat.le_of_ble_eq_true rfl) (Nat.le_of_ble_eq_true rfl) dX5_init_5 (fun q2 H h2 n2 eh2 hW hS => ?_)
  have hw := hw q2 h2 n2 eh2
  refine lv_dup hx hb dX5_init_8 rfl ?_
  refine ki_call (As := []) (rest := [.ref q2, .ref this]) (cg_X4_init l D ct a0 q2 h2 _ hw) B hK hN hZ hA hW hS k_X4_init q_2_7 rfl ⟨Nat.le_of_ble_eq_true rfl, Nat.le_of_ble_eq_true rfl⟩ ⟨Nat.le_of_ble_eq_true rfl, Nat.le_of_ble_eq_true rfl⟩ hl.1 rfl (Nat.le_of_ble_eq_true rfl) dX5_init_9 (fun v3 h3 H locs hw hW hS => ?_)
  obtain ⟨fs4, e4, l4, hw⟩ := hw
  refine kw_put (ci := 6) (v := .ref q2) (ty := .object "DriftPlans$State") (C := RX5) (T := TX5) (N := 7) hx hb hts inlX5 tyX5 tyX5_ok nmX5 hown hK hW hS e4 rfl 0 (by decide) (hts _ q_1_15) (fun _ h9 => h9) rfl  (by decide +kernel) rfl rfl l4 dX5_init_12 (fun H locs h4 eh4 hW hS => ?_)
  have hw := hw h4 eh4
  refine lv_aload_n hx hb dX5_init_15 rfl (lv_at hl 0 rfl) ?_
  refine lv_null hx hb dX5_init_16 ?_
  obtain ⟨fs5, e5, l5, hw⟩ := hw
  refine kw_put (ci := 6) (v := .null) (ty := .object "DriftPlans$State") (C := RX5) (T := TX5) (N := 7) hx hb hts inlX5 tyX5 tyX5_ok nmX5 hown hK hW hS e5 rfl 1 (by decide) (hts _ q_1_16) (fun _ h9 => h9) rfl  (by decide +kernel) rfl rfl l5 dX5_init_17 (fun H locs h5 eh5 hW hS => ?_)
  have hw := hw h5 eh5
  refine lv_aload_n hx hb dX5_init_20 rfl (lv_at hl 0 rfl) ?_
  refine kw_new (ci := 0) (fs := [.int 0, .null, .int 0]) (C := RJx4a65c) (T := TJx4a65c) (N := 3) hx hb hts inlJx4a65c tyJx4a65c tyJx4a65c_ok hown (hts _ q_1_17) (hts _ q_1_18) (hts _ q_1_19) hK hW hS hA rfl (fun j hj => by rcases (show j = 0 ∨ j = 1 ∨ j = 2 by omega) with rfl | rfl | rfl <;> rfl) (Nat.le_of_ble_eq_true rfl) (Nat.le_of_ble_eq_true rfl) dX5_init_21 (fun q6 H h6 n6 eh6 hW hS => ?_)
  have hw := hw q6 h6 n6 eh6
  refine lv_dup hx hb dX5_init_24 rfl ?_
  refine ki_call (As := []) (rest := [.ref q6, .ref this]) (cg_Jx4a65c_init_da8c8 l D ct a0 q6 h6 _ hw) B hK hN hZ hA hW hS k_Jx4a65c_init_da8c8 q_3_9 rfl ⟨Nat.le_of_ble_eq_true rfl, Nat.le_of_ble_eq_true rfl⟩ ⟨Nat.le_of_ble_eq_true rfl, Nat.le_of_ble_eq_true rfl⟩ hl.1 rfl (Nat.le_of_ble_eq_true rfl) dX5_init_25 (fun v7 h7 H locs hw hW hS => ?_)
  obtain ⟨fs8, e8, l8, hw⟩ := hw
  refine kw_putF (ci := 6) (v := .ref q6) (ty := .object "java/util/ArrayList") (C := RX5) (T := TX5) (N := 7) hx hb hts inlX5 tyX5 tyX5_ok nmX5 hown hK hW hS e8 rfl 2 (by decide) (hts _ q_1_20) (fun _ h9 => h9) rfl hin rfl (by decide +kernel) rfl rfl l8 dX5_init_28 (fun H locs h8 eh8 hW hS => ?_)
  have hw := hw h8 eh8
  refine lv_aload_n hx hb dX5_init_31 rfl (lv_at hl 0 rfl) ?_
  refine kw_new (ci := 4) (fs := [.null, .null, .null]) (C := RX3) (T := TX3) (N := 3) hx hb hts inlX3 tyX3 tyX3_ok hown (hts _ q_1_21) (hts _ q_1_22) (hts _ q_1_23) hK hW hS hA rfl (fun j hj => by rcases (show j = 0 ∨ j = 1 ∨ j = 2 by omega) with rfl | rfl | rfl <;> rfl) (Nat.le_of_ble_eq_true rfl) (Nat.le_of_ble_eq_true rfl) dX5_init_32 (fun q9 H h9 n9 eh9 hW hS => ?_)
  have hw := hw q9 h9 n9 eh9
  refine lv_dup hx hb dX5_init_35 rfl ?_
  refine ki_call (As := []) (rest := [.ref q9, .ref this]) (cg_X3_init l D ct a0 q9 h9 _ hw) B hK hN hZ hA hW hS k_X3_init q_3_10 rfl ⟨Nat.le_of_ble_eq_true rfl, Nat.le_of_ble_eq_true rfl⟩ ⟨Nat.le_of_ble_eq_true rfl, Nat.le_of_ble_eq_true rfl⟩ hl.1 rfl (Nat.le_of_ble_eq_true rfl) dX5_init_36 (fun v10 h10 H locs hw hW hS => ?_)
  obtain ⟨fs11, e11, l11, hw⟩ := hw
  refine kw_putF (ci := 6) (v := .ref q9) (ty := .object "DriftPlans$Reckoner") (C := RX5) (T := TX5) (N := 7) hx hb hts inlX5 tyX5 tyX5_ok nmX5 hown hK hW hS e11 rfl 3 (by decide) (hts _ q_2_0) (fun _ h9 => h9) rfl hin rfl (by decide +kernel) rfl rfl l11 dX5_init_39 (fun H locs h11 eh11 hW hS => ?_)
  have hw := hw h11 eh11
  refine lv_aload_n hx hb dX5_init_42 rfl (lv_at hl 0 rfl) ?_
  refine kw_new (ci := 2) (fs := [.null, .int 0]) (C := RX1) (T := TX1) (N := 2) hx hb hts inlX1 tyX1 tyX1_ok hown (hts _ q_2_1) (hts _ q_2_2) (hts _ q_2_3) hK hW hS hA rfl (fun j hj => by rcases (show j = 0 ∨ j = 1 by omega) with rfl | rfl <;> rfl) (Nat.le_of_ble_eq_true rfl) (Nat.le_of_ble_eq_true rfl) dX5_init_43 (fun q12 H h12 n12 eh12 hW hS => ?_)
  have hw := hw q12 h12 n12 eh12
  refine lv_dup hx hb dX5_init_46 rfl ?_
  refine kn_call (As := []) (rest := [.ref q12, .ref this]) (cg_X1_init l D ct a0 q12 h12 _ hw) B hK hN hZ hA hW hS k_X1_init (List.mem_of_getElem? (i := 0) rfl) rfl ⟨Nat.le_of_ble_eq_true rfl, Nat.le_of_ble_eq_true rfl⟩ ⟨Nat.le_of_ble_eq_true rfl, Nat.le_of_ble_eq_true rfl⟩ hl.1 rfl (Nat.le_of_ble_eq_true rfl) dX5_init_47 (fun v13 h13 H locs hw hW hS => ?_)
  obtain ⟨fs14, e14, l14, hw⟩ := hw
  refine kw_putF (ci := 6) (v := .ref q12) (ty := .object "DriftPlans$Pad") (C := RX5) (T := TX5) (N := 7) hx hb hts inlX5 tyX5 tyX5_ok nmX5 hown hK hW hS e14 rfl 4 (by decide) (hts _ q_2_4) (fun _ h9 => h9) rfl hin rfl (by decide +kernel) rfl rfl l14 dX5_init_50 (fun H locs h14 eh14 hW hS => ?_)
  have hw := hw h14 eh14
  refine lv_aload_n hx hb dX5_init_53 rfl (lv_at hl 0 rfl) ?_
  refine lv_iconst (v := (-1 : Int32)) hx hb dX5_init_54 (by decide) ?_
  obtain ⟨fs15, e15, l15, hw⟩ := hw
  refine kw_put (ci := 6) (v := .int (-1 : Int32)) (ty := .int) (C := RX5) (T := TX5) (N := 7) hx hb hts inlX5 tyX5 tyX5_ok nmX5 hown hK hW hS e15 rfl 5 (by decide) (hts _ q_2_5) (fun _ h9 => h9) rfl  (by decide +kernel) rfl rfl l15 dX5_init_55 (fun H locs h15 eh15 hW hS => ?_)
  have hw := hw h15 eh15
  refine lv_aload_n hx hb dX5_init_58 rfl (lv_at hl 0 rfl) ?_
  refine lv_iconst (v := (-1 : Int32)) hx hb dX5_init_59 (by decide) ?_
  obtain ⟨fs16, e16, l16, hw⟩ := hw
  refine kw_put (ci := 6) (v := .int (-1 : Int32)) (ty := .int) (C := RX5) (T := TX5) (N := 7) hx hb hts inlX5 tyX5 tyX5_ok nmX5 hown hK hW hS e16 rfl 6 (by decide) (hts _ q_2_6) (fun _ h9 => h9) rfl  (by decide +kernel) rfl rfl l16 dX5_init_60 (fun H locs h16 eh16 hW hS => ?_)
  have hw := hw h16 eh16
  refine W.widen (k := 17) (n := 221) (by omega) (by omega) ?_
  exact hret _ _ _ _ h16 dX5_init_63 hw hW hS

def g_X5_remember (ct : Nat → ClassId) (a0 : Nat) (this : Nat) (h : KH) (Post : Unit → KH → Prop) : Prop :=
  rdR h this 6 2 (fun v1 => nwC h (.inr (5, [.null, .null, .null, .null, .int 0, .long 0, .long 0, .long 0, .long 0, .long 0, .long 0, .long 0, .long 0, .long 0])) (fun q2 h2 => rdR h2 this 6 0 (fun v3 => g_X4_init_ ct a0 q2 v3 h2 (fun _ h4 => isO h4 v1 0 (g_Jx4a65c_add_9ea2d ct a0 v1 q2 h4 (fun v5 h5 => rdR h5 this 6 2 (fun v6 => isO h5 v6 0 (g_Jx4a65c_size_8abf5 ct a0 v6 h5 (fun v7 h7 => if v7 ≤ (4 : Int32) then Post () h7
  else rdR h7 this 6 2 (fun v9 => isO h7 v9 0 (g_Jx4a65c_remove_915e3 ct a0 v9 (0 : Int32) h7 (fun v10 h10 => Post () h10))))))))))))
set_option maxRecDepth 100000 in
set_option maxHeartbeats 4000000 in
theorem cg_X5_remember (l : Launch) (D : va_G) (ct : Nat → ClassId) (a0 : Nat) (this : Nat) (h : KH) (Post : Unit → KH → Prop) (hw : g_X5_remember ct a0 this h Post) : CK l yX5_remember cX5_remember 1 6 19 147 none D ct a0 [.ref this] vV h Post := by
  refine CK.mkV (by decide) (Nat.le_of_ble_eq_true rfl) ?_
  intro p e s m below meth c Q A X hret hW hS ls hl
  obtain ⟨B, hin, hK, hN, hZ, hA⟩ := X
  have B0 := B
  obtain ⟨hx, hb, hml, hown, hts⟩ := B0
  have hl : lv_has ls 1 [(0, .ref this)] := hl
  unfold g_X5_remember at hw
  refine lv_aload_n hx hb dX5_remember_0 rfl (lv_at hl 0 rfl) ?_
  obtain ⟨fs1, v1, e1, f1, hw⟩ := hw
  refine kw_get (ci := 6) (C := RX5) (T := TX5) (N := 7) hx hb hts inlX5 hown hK hW e1 rfl 2 (by decide) (hts _ q_1_20) (fun _ h9 => h9) f1 dX5_remember_1 ?_
  refine kw_new (ci := 5) (fs := [.null, .null, .null, .null, .int 0, .long 0, .long 0, .long 0, .long 0, .long 0, .long 0, .long 0, .long 0, .long 0]) (C := RX4) (T := TX4) (N := 14) hx hb hts inlX4 tyX4 tyX4_ok hown (hts _ q_1_12) (hts _ q_1_13) (hts _ q_1_14) hK hW hS hA rfl (fun j hj => by rcases (show j = 0 ∨ j = 1 ∨ j = 2 ∨ j = 3 ∨ j = 4 ∨ j = 5 ∨ j = 6 ∨ j = 7 ∨ j = 8 ∨ j = 9 ∨ j = 10 ∨ j = 11 ∨ j = 12 ∨ j = 13 by omega) with rfl | rfl | rfl | rfl | rfl | rfl | rfl | rfl | rfl | rfl | rfl | rfl | rfl | rfl <;> rfl) (Nat.le_of_ble_eq_true rfl) (Nat.le_of_ble_eq_true rfl) dX5_remember_4 (fun q2 H h2 n2 eh2 hW hS => ?_)
  have hw := hw q2 h2 n2 eh2
  refine lv_dup hx hb dX5_remember_7 rfl ?_
  refine lv_aload_n hx hb dX5_remember_8 rfl (lv_at hl 0 rfl) ?_
  obtain ⟨fs3, v3, e3, f3, hw⟩ := hw
  refine kw_get (ci := 6) (C := RX5) (T := TX5) (N := 7) hx hb hts inlX5 hown hK hW e3 rfl 0 (by decide) (hts _ q_1_15) (fun _ h9 => h9) f3 dX5_remember_9 ?_
  refine ki_call (As := [.ref v3]) (rest := [.ref q2, .ref v1]) (cg_X4_init_ l D ct a0 q2 v3 h2 _ hw) B hK hN hZ hA hW hS k_X4_init_ q_4_19 rfl ⟨Nat.le_of_ble_eq_true rfl, Nat.le_of_ble_eq_true rfl⟩ ⟨Nat.le_of_ble_eq_true rfl, Nat.le_of_ble_eq_true rfl⟩ hl.1 rfl (Nat.le_of_ble_eq_true rfl) dX5_remember_12 (fun v4 h4 H locs hw hW hS => ?_)
  obtain ⟨⟨fs5, e5⟩, hw⟩ := hw
  refine k_call (As := [.ref q2]) (rest := []) (ci := 0) (cg_Jx4a65c_add_9ea2d l D ct a0 v1 q2 h4 _ hw) B hK hN hZ hA hW hS e5 rfl k_Jx4a65c_add_9ea2d q_8_9 rfl ⟨Nat.le_of_ble_eq_true rfl, Nat.le_of_ble_eq_true rfl⟩ ⟨Nat.le_of_ble_eq_true rfl, Nat.le_of_ble_eq_true rfl⟩ hl.1 rfl (Nat.le_of_ble_eq_true rfl) dX5_remember_15 (fun v5 h5 H locs hw hW hS => ?_)
  refine lv_pop hx hb dX5_remember_18 rfl ?_
  refine lv_aload_n hx hb dX5_remember_19 rfl (lv_at hl 0 rfl) ?_
  obtain ⟨fs6, v6, e6, f6, hw⟩ := hw
  refine kw_get (ci := 6) (C := RX5) (T := TX5) (N := 7) hx hb hts inlX5 hown hK hW e6 rfl 2 (by decide) (hts _ q_1_20) (fun _ h9 => h9) f6 dX5_remember_20 ?_
  obtain ⟨⟨fs7, e7⟩, hw⟩ := hw
  refine k_call (As := []) (rest := []) (ci := 0) (cg_Jx4a65c_size_8abf5 l D ct a0 v6 h5 _ hw) B hK hN hZ hA hW hS e7 rfl k_Jx4a65c_size_8abf5 q_8_10 rfl ⟨Nat.le_of_ble_eq_true rfl, Nat.le_of_ble_eq_true rfl⟩ ⟨Nat.le_of_ble_eq_true rfl, Nat.le_of_ble_eq_true rfl⟩ hl.1 rfl (Nat.le_of_ble_eq_true rfl) dX5_remember_23 (fun v7 h7 H locs hw hW hS => ?_)
  refine lv_iconst (v := (4 : Int32)) hx hb dX5_remember_26 (by decide) ?_
  refine lv_icmp_le (tgt := 39) hx hb dX5_remember_27 (by decide) (fun c8 => ?_) (fun c8 => ?_)
  · have hw := itp c8 hw
    refine W.widen (k := 19) (n := 147) (by omega) (by omega) ?_
    exact hret _ _ _ _ h7 dX5_remember_39 hw hW hS
  · have hw := itn c8 hw
    refine lv_aload_n hx hb dX5_remember_30 rfl (lv_at hl 0 rfl) ?_
    obtain ⟨fs9, v9, e9, f9, hw⟩ := hw
    refine kw_get (ci := 6) (C := RX5) (T := TX5) (N := 7) hx hb hts inlX5 hown hK hW e9 rfl 2 (by decide) (hts _ q_1_20) (fun _ h9 => h9) f9 dX5_remember_31 ?_
    refine lv_iconst (v := (0 : Int32)) hx hb dX5_remember_34 (by decide) ?_
    obtain ⟨⟨fs10, e10⟩, hw⟩ := hw
    refine k_call (As := [.int (0 : Int32)]) (rest := []) (ci := 0) (cg_Jx4a65c_remove_915e3 l D ct a0 v9 (0 : Int32) h7 _ hw) B hK hN hZ hA hW hS e10 rfl k_Jx4a65c_remove_915e3 q_8_11 rfl ⟨Nat.le_of_ble_eq_true rfl, Nat.le_of_ble_eq_true rfl⟩ ⟨Nat.le_of_ble_eq_true rfl, Nat.le_of_ble_eq_true rfl⟩ hl.1 rfl (Nat.le_of_ble_eq_true rfl) dX5_remember_35 (fun v10 h10 H locs hw hW hS => ?_)
    refine lv_pop hx hb dX5_remember_38 rfl ?_
    refine W.widen (k := 19) (n := 147) (by omega) (by omega) ?_
    exact hret _ _ _ _ h10 dX5_remember_39 hw hW hS

def g_X5_rows (ct : Nat → ClassId) (a0 : Nat) (this : Nat) (a1 : Int32) (a2 : Int32) (h : KH) (Post : Int32 → KH → Prop) : Prop :=
  (∃ q1, f_X5_isTable a1 = some q1 ∧ if q1 = (0 : Int32) then Post (-1 : Int32) h
  else if a2 < (1 : Int32) then Post (-1 : Int32) h
  else if a2 ≤ (500 : Int32) then isO h this 6 (g_X5_remember ct a0 this h (fun _ h5 => rdR h5 this 6 0 (fun v6 => rdR h5 v6 5 0 (fun v7 => ldI h5 v7 a1 (ct 0) (fun v8 => rdR h5 this 6 0 (fun v9 => rdR h5 v9 5 0 (fun v10 => stI h5 v10 a1 (ct 0) a2 (fun h11 => Post v8 h11))))))))
  else Post (-1 : Int32) h)
set_option maxRecDepth 100000 in
set_option maxHeartbeats 4000000 in
theorem cg_X5_rows (l : Launch) (D : va_G) (ct : Nat → ClassId) (a0 : Nat) (this : Nat) (a1 : Int32) (a2 : Int32) (h : KH) (Post : Int32 → KH → Prop) (hw : g_X5_rows ct a0 this a1 a2 h Post) : CK l yX5_rows cX5_rows 4 7 19 147 (some .int) D ct a0 [.ref this, .int a1, .int a2] vI h Post := by
  refine CK.mkI (by decide) (Nat.le_of_ble_eq_true rfl) ?_
  intro p e s m below meth c Q A X hret hW hS ls hl
  obtain ⟨B, hin, hK, hN, hZ, hA⟩ := X
  have B0 := B
  obtain ⟨hx, hb, hml, hown, hts⟩ := B0
  have hl : lv_has ls 4 [(0, .ref this), (1, .int a1), (2, .int a2)] := hl
  unfold g_X5_rows at hw
  refine lv_iload_n hx hb dX5_rows_0 rfl (lv_at hl 1 rfl) ?_
  obtain ⟨q1, e1, hw⟩ := hw
  refine s_call (As := [.int a1]) (rest := []) (c_X5_isTable l a1 q1 e1) B k_X5_isTable q_4_12 rfl ⟨Nat.le_of_ble_eq_true rfl, Nat.le_of_ble_eq_true rfl⟩ ⟨Nat.le_of_ble_eq_true rfl, Nat.le_of_ble_eq_true rfl⟩ hl.1 rfl (Nat.le_of_ble_eq_true rfl) dX5_rows_1 ?_
  refine lv_if_eq (tgt := 19) hx hb dX5_rows_4 (by decide) (fun c2 => ?_) (fun c2 => ?_)
  · have hw := itp c2 hw
    refine lv_iconst (v := (-1 : Int32)) hx hb dX5_rows_19 (by decide) ?_
    refine W.widen (k := 19) (n := 147) (by omega) (by omega) ?_
    exact hret _ _ _ _ (-1 : Int32) h (vp_nar_int _) dX5_rows_20 hw hW hS
  · have hw := itn c2 hw
    refine lv_iload_n hx hb dX5_rows_7 rfl (lv_at hl 2 rfl) ?_
    refine lv_iconst (v := (1 : Int32)) hx hb dX5_rows_8 (by decide) ?_
    refine lv_icmp_lt (tgt := 19) hx hb dX5_rows_9 (by decide) (fun c3 => ?_) (fun c3 => ?_)
    · have hw := itp c3 hw
      refine lv_iconst (v := (-1 : Int32)) hx hb dX5_rows_19 (by decide) ?_
      refine W.widen (k := 19) (n := 147) (by omega) (by omega) ?_
      exact hret _ _ _ _ (-1 : Int32) h (vp_nar_int _) dX5_rows_20 hw hW hS
    · have hw := itn c3 hw
      refine lv_iload_n hx hb dX5_rows_12 rfl (lv_at hl 2 rfl) ?_
      refine lv_sipush (v := (500 : Int32)) hx hb dX5_rows_13 (by decide) ?_
      refine lv_icmp_le (tgt := 21) hx hb dX5_rows_16 (by decide) (fun c4 => ?_) (fun c4 => ?_)
      · have hw := itp c4 hw
        refine lv_aload_n hx hb dX5_rows_21 rfl (lv_at hl 0 rfl) ?_
        obtain ⟨⟨fs5, e5⟩, hw⟩ := hw
        refine k_call (As := []) (rest := []) (ci := 6) (cg_X5_remember l D ct a0 this h _ hw) B hK hN hZ hA hW hS e5 rfl k_X5_remember q_4_15 rfl ⟨Nat.le_of_ble_eq_true rfl, Nat.le_of_ble_eq_true rfl⟩ ⟨Nat.le_of_ble_eq_true rfl, Nat.le_of_ble_eq_true rfl⟩ hl.1 rfl (Nat.le_of_ble_eq_true rfl) dX5_rows_22 (fun v5 h5 H locs hw hW hS => ?_)
        refine lv_aload_n hx hb dX5_rows_25 rfl (lv_at hl 0 rfl) ?_
        obtain ⟨fs6, v6, e6, f6, hw⟩ := hw
        refine kw_get (ci := 6) (C := RX5) (T := TX5) (N := 7) hx hb hts inlX5 hown hK hW e6 rfl 0 (by decide) (hts _ q_1_15) (fun _ h9 => h9) f6 dX5_rows_26 ?_
        obtain ⟨fs7, v7, e7, f7, hw⟩ := hw
        refine kw_get (ci := 5) (C := RX4) (T := TX4) (N := 14) hx hb hts inlX4 hown hK hW e7 rfl 0 (by decide) (hts _ q_4_11) (fun _ h9 => h9) f7 dX5_rows_29 ?_
        refine lv_iload_n hx hb dX5_rows_32 rfl (lv_at hl 1 rfl) ?_
        obtain ⟨n8, f8, v8, e8, g8, ev8, hw⟩ := hw
        refine kw_iald hx hb hK hW 0 e8 rfl g8 ev8 dX5_rows_33 ?_
        refine lv_istore_n (lv' := [(3, .int v8), (0, .ref this), (1, .int a1), (2, .int a2)]) hx hb dX5_rows_34 rfl hl (by decide) rfl (fun ls hl => ?_)
        refine lv_aload_n hx hb dX5_rows_35 rfl (lv_at hl 1 rfl) ?_
        obtain ⟨fs9, v9, e9, f9, hw⟩ := hw
        refine kw_get (ci := 6) (C := RX5) (T := TX5) (N := 7) hx hb hts inlX5 hown hK hW e9 rfl 0 (by decide) (hts _ q_1_15) (fun _ h9 => h9) f9 dX5_rows_36 ?_
        obtain ⟨fs10, v10, e10, f10, hw⟩ := hw
        refine kw_get (ci := 5) (C := RX4) (T := TX4) (N := 14) hx hb hts inlX4 hown hK hW e10 rfl 0 (by decide) (hts _ q_4_11) (fun _ h9 => h9) f10 dX5_rows_39 ?_
        refine lv_iload_n hx hb dX5_rows_42 rfl (lv_at hl 2 rfl) ?_
        refine lv_iload_n hx hb dX5_rows_43 rfl (lv_at hl 3 rfl) ?_
        obtain ⟨n11, f11, e11, g11, hw⟩ := hw
        refine kw_iast hx hb hK hW hS 0 e11 rfl g11 dX5_rows_44 (fun H locs h11 eh11 hW hS => ?_)
        have hw := hw h11 eh11
        refine lv_iload_n hx hb dX5_rows_45 rfl (lv_at hl 0 rfl) ?_
        refine W.widen (k := 19) (n := 147) (by omega) (by omega) ?_
        exact hret _ _ _ _ v8 h11 (vp_nar_int _) dX5_rows_46 hw hW hS
      · have hw := itn c4 hw
        refine lv_iconst (v := (-1 : Int32)) hx hb dX5_rows_19 (by decide) ?_
        refine W.widen (k := 19) (n := 147) (by omega) (by omega) ?_
        exact hret _ _ _ _ (-1 : Int32) h (vp_nar_int _) dX5_rows_20 hw hW hS

def g_X5_part (ct : Nat → ClassId) (a0 : Nat) (this : Nat) (a1 : Int32) (a2 : Int32) (a3 : Int32) (h : KH) (Post : Int32 → KH → Prop) : Prop :=
  (∃ q1, f_X5_isJoin a1 a2 = some q1 ∧ if q1 = (0 : Int32) then Post (-1 : Int32) h
  else if a3 < (1 : Int32) then Post (-1 : Int32) h
  else if a3 ≤ (100 : Int32) then isO h this 6 (g_X5_remember ct a0 this h (fun _ h5 => rdR h5 this 6 0 (fun v6 => rdR h5 v6 5 2 (fun v7 => ldR h5 v7 a1 (ct 4) (fun v8 => stI h5 v8 a2 (ct 0) a3 (fun h9 => rdR h9 this 6 0 (fun v10 => rdR h9 v10 5 2 (fun v11 => ldR h9 v11 a2 (ct 4) (fun v12 => stI h9 v12 a1 (ct 0) a3 (fun h13 => rdR h13 this 6 0 (fun v14 => (∃ q15, f_X5_bit a1 = some q15 ∧ (∃ q16, f_X5_bit a2 = some q16 ∧ isO h13 v14 5 (g_X4_throwOutJoins ct a0 v14 (q15 ||| q16) h13 (fun v17 h17 => Post v17 h17)))))))))))))))
  else Post (-1 : Int32) h)
set_option maxRecDepth 100000 in
set_option maxHeartbeats 4000000 in
theorem cg_X5_part (l : Launch) (D : va_G) (ct : Nat → ClassId) (a0 : Nat) (this : Nat) (a1 : Int32) (a2 : Int32) (a3 : Int32) (h : KH) (Post : Int32 → KH → Prop) (hw : g_X5_part ct a0 this a1 a2 a3 h Post) : CK l yX5_part cX5_part 4 7 19 147 (some .int) D ct a0 [.ref this, .int a1, .int a2, .int a3] vI h Post := by
  refine CK.mkI (by decide) (Nat.le_of_ble_eq_true rfl) ?_
  intro p e s m below meth c Q A X hret hW hS ls hl
  obtain ⟨B, hin, hK, hN, hZ, hA⟩ := X
  have B0 := B
  obtain ⟨hx, hb, hml, hown, hts⟩ := B0
  have hl : lv_has ls 4 [(0, .ref this), (1, .int a1), (2, .int a2), (3, .int a3)] := hl
  unfold g_X5_part at hw
  refine lv_iload_n hx hb dX5_part_0 rfl (lv_at hl 1 rfl) ?_
  refine lv_iload_n hx hb dX5_part_1 rfl (lv_at hl 2 rfl) ?_
  obtain ⟨q1, e1, hw⟩ := hw
  refine s_call (As := [.int a1, .int a2]) (rest := []) (c_X5_isJoin l a1 a2 q1 e1) B k_X5_isJoin q_9_4 rfl ⟨Nat.le_of_ble_eq_true rfl, Nat.le_of_ble_eq_true rfl⟩ ⟨Nat.le_of_ble_eq_true rfl, Nat.le_of_ble_eq_true rfl⟩ hl.1 rfl (Nat.le_of_ble_eq_true rfl) dX5_part_2 ?_
  refine lv_if_eq (tgt := 19) hx hb dX5_part_5 (by decide) (fun c2 => ?_) (fun c2 => ?_)
  · have hw := itp c2 hw
    refine lv_iconst (v := (-1 : Int32)) hx hb dX5_part_19 (by decide) ?_
    refine W.widen (k := 19) (n := 147) (by omega) (by omega) ?_
    exact hret _ _ _ _ (-1 : Int32) h (vp_nar_int _) dX5_part_20 hw hW hS
  · have hw := itn c2 hw
    refine lv_iload_n hx hb dX5_part_8 rfl (lv_at hl 3 rfl) ?_
    refine lv_iconst (v := (1 : Int32)) hx hb dX5_part_9 (by decide) ?_
    refine lv_icmp_lt (tgt := 19) hx hb dX5_part_10 (by decide) (fun c3 => ?_) (fun c3 => ?_)
    · have hw := itp c3 hw
      refine lv_iconst (v := (-1 : Int32)) hx hb dX5_part_19 (by decide) ?_
      refine W.widen (k := 19) (n := 147) (by omega) (by omega) ?_
      exact hret _ _ _ _ (-1 : Int32) h (vp_nar_int _) dX5_part_20 hw hW hS
    · have hw := itn c3 hw
      refine lv_iload_n hx hb dX5_part_13 rfl (lv_at hl 3 rfl) ?_
      refine lv_bipush (v := (100 : Int32)) hx hb dX5_part_14 (by decide) ?_
      refine lv_icmp_le (tgt := 21) hx hb dX5_part_16 (by decide) (fun c4 => ?_) (fun c4 => ?_)
      · have hw := itp c4 hw
        refine lv_aload_n hx hb dX5_part_21 rfl (lv_at hl 0 rfl) ?_
        obtain ⟨⟨fs5, e5⟩, hw⟩ := hw
        refine k_call (As := []) (rest := []) (ci := 6) (cg_X5_remember l D ct a0 this h _ hw) B hK hN hZ hA hW hS e5 rfl k_X5_remember q_4_15 rfl ⟨Nat.le_of_ble_eq_true rfl, Nat.le_of_ble_eq_true rfl⟩ ⟨Nat.le_of_ble_eq_true rfl, Nat.le_of_ble_eq_true rfl⟩ hl.1 rfl (Nat.le_of_ble_eq_true rfl) dX5_part_22 (fun v5 h5 H locs hw hW hS => ?_)
        refine lv_aload_n hx hb dX5_part_25 rfl (lv_at hl 0 rfl) ?_
        obtain ⟨fs6, v6, e6, f6, hw⟩ := hw
        refine kw_get (ci := 6) (C := RX5) (T := TX5) (N := 7) hx hb hts inlX5 hown hK hW e6 rfl 0 (by decide) (hts _ q_1_15) (fun _ h9 => h9) f6 dX5_part_26 ?_
        obtain ⟨fs7, v7, e7, f7, hw⟩ := hw
        refine kw_get (ci := 5) (C := RX4) (T := TX4) (N := 14) hx hb hts inlX4 hown hK hW e7 rfl 2 (by decide) (hts _ q_9_3) (fun _ h9 => h9) f7 dX5_part_29 ?_
        refine lv_iload_n hx hb dX5_part_32 rfl (lv_at hl 1 rfl) ?_
        obtain ⟨n8, f8, v8, e8, g8, ev8, hw⟩ := hw
        refine kw_gald hx hb hK hW 4 e8 rfl g8 ev8 dX5_part_33 ?_
        refine lv_iload_n hx hb dX5_part_34 rfl (lv_at hl 2 rfl) ?_
        refine lv_iload_n hx hb dX5_part_35 rfl (lv_at hl 3 rfl) ?_
        obtain ⟨n9, f9, e9, g9, hw⟩ := hw
        refine kw_iast hx hb hK hW hS 0 e9 rfl g9 dX5_part_36 (fun H locs h9 eh9 hW hS => ?_)
        have hw := hw h9 eh9
        refine lv_aload_n hx hb dX5_part_37 rfl (lv_at hl 0 rfl) ?_
        obtain ⟨fs10, v10, e10, f10, hw⟩ := hw
        refine kw_get (ci := 6) (C := RX5) (T := TX5) (N := 7) hx hb hts inlX5 hown hK hW e10 rfl 0 (by decide) (hts _ q_1_15) (fun _ h9 => h9) f10 dX5_part_38 ?_
        obtain ⟨fs11, v11, e11, f11, hw⟩ := hw
        refine kw_get (ci := 5) (C := RX4) (T := TX4) (N := 14) hx hb hts inlX4 hown hK hW e11 rfl 2 (by decide) (hts _ q_9_3) (fun _ h9 => h9) f11 dX5_part_41 ?_
        refine lv_iload_n hx hb dX5_part_44 rfl (lv_at hl 2 rfl) ?_
        obtain ⟨n12, f12, v12, e12, g12, ev12, hw⟩ := hw
        refine kw_gald hx hb hK hW 4 e12 rfl g12 ev12 dX5_part_45 ?_
        refine lv_iload_n hx hb dX5_part_46 rfl (lv_at hl 1 rfl) ?_
        refine lv_iload_n hx hb dX5_part_47 rfl (lv_at hl 3 rfl) ?_
        obtain ⟨n13, f13, e13, g13, hw⟩ := hw
        refine kw_iast hx hb hK hW hS 0 e13 rfl g13 dX5_part_48 (fun H locs h13 eh13 hW hS => ?_)
        have hw := hw h13 eh13
        refine lv_aload_n hx hb dX5_part_49 rfl (lv_at hl 0 rfl) ?_
        obtain ⟨fs14, v14, e14, f14, hw⟩ := hw
        refine kw_get (ci := 6) (C := RX5) (T := TX5) (N := 7) hx hb hts inlX5 hown hK hW e14 rfl 0 (by decide) (hts _ q_1_15) (fun _ h9 => h9) f14 dX5_part_50 ?_
        refine lv_iload_n hx hb dX5_part_53 rfl (lv_at hl 1 rfl) ?_
        obtain ⟨q15, e15, hw⟩ := hw
        refine s_call (As := [.int a1]) (rest := [.ref v14]) (c_X5_bit l a1 q15 e15) B k_X5_bit q_9_7 rfl ⟨Nat.le_of_ble_eq_true rfl, Nat.le_of_ble_eq_true rfl⟩ ⟨Nat.le_of_ble_eq_true rfl, Nat.le_of_ble_eq_true rfl⟩ hl.1 rfl (Nat.le_of_ble_eq_true rfl) dX5_part_54 ?_
        refine lv_iload_n hx hb dX5_part_57 rfl (lv_at hl 2 rfl) ?_
        obtain ⟨q16, e16, hw⟩ := hw
        refine s_call (As := [.int a2]) (rest := [.int q15, .ref v14]) (c_X5_bit l a2 q16 e16) B k_X5_bit q_9_7 rfl ⟨Nat.le_of_ble_eq_true rfl, Nat.le_of_ble_eq_true rfl⟩ ⟨Nat.le_of_ble_eq_true rfl, Nat.le_of_ble_eq_true rfl⟩ hl.1 rfl (Nat.le_of_ble_eq_true rfl) dX5_part_58 ?_
        refine lv_ior hx hb dX5_part_61 ?_
        obtain ⟨⟨fs17, e17⟩, hw⟩ := hw
        refine k_call (As := [.int (q15 ||| q16)]) (rest := []) (ci := 5) (cg_X4_throwOutJoins l D ct a0 v14 (q15 ||| q16) h13 _ hw) B hK hN hZ hA hW hS e17 rfl k_X4_throwOutJoins q_9_10 rfl ⟨Nat.le_of_ble_eq_true rfl, Nat.le_of_ble_eq_true rfl⟩ ⟨Nat.le_of_ble_eq_true rfl, Nat.le_of_ble_eq_true rfl⟩ hl.1 rfl (Nat.le_of_ble_eq_true rfl) dX5_part_62 (fun v17 h17 H locs hw hW hS => ?_)
        refine W.widen (k := 19) (n := 147) (by omega) (by omega) ?_
        exact hret _ _ _ _ v17 h17 (vp_nar_int _) dX5_part_65 hw hW hS
      · have hw := itn c4 hw
        refine lv_iconst (v := (-1 : Int32)) hx hb dX5_part_19 (by decide) ?_
        refine W.widen (k := 19) (n := 147) (by omega) (by omega) ?_
        exact hret _ _ _ _ (-1 : Int32) h (vp_nar_int _) dX5_part_20 hw hW hS

def g_X5_count (ct : Nat → ClassId) (a0 : Nat) (this : Nat) (a1 : Int32) (h : KH) (Post : Int32 → KH → Prop) : Prop :=
  (∃ q1, f_X5_isTable a1 = some q1 ∧ if q1 = (0 : Int32) then Post (-1 : Int32) h
  else isO h this 6 (g_X5_remember ct a0 this h (fun _ h3 => rdR h3 this 6 0 (fun v4 => (∃ q5, f_X5_bit a1 = some q5 ∧ isO h3 v4 5 (g_X4_countTables ct a0 v4 q5 h3 (fun v6 h6 => Post v6 h6)))))))
set_option maxRecDepth 100000 in
set_option maxHeartbeats 4000000 in
theorem cg_X5_count (l : Launch) (D : va_G) (ct : Nat → ClassId) (a0 : Nat) (this : Nat) (a1 : Int32) (h : KH) (Post : Int32 → KH → Prop) (hw : g_X5_count ct a0 this a1 h Post) : CK l yX5_count cX5_count 2 7 19 147 (some .int) D ct a0 [.ref this, .int a1] vI h Post := by
  refine CK.mkI (by decide) (Nat.le_of_ble_eq_true rfl) ?_
  intro p e s m below meth c Q A X hret hW hS ls hl
  obtain ⟨B, hin, hK, hN, hZ, hA⟩ := X
  have B0 := B
  obtain ⟨hx, hb, hml, hown, hts⟩ := B0
  have hl : lv_has ls 2 [(0, .ref this), (1, .int a1)] := hl
  unfold g_X5_count at hw
  refine lv_iload_n hx hb dX5_count_0 rfl (lv_at hl 1 rfl) ?_
  obtain ⟨q1, e1, hw⟩ := hw
  refine s_call (As := [.int a1]) (rest := []) (c_X5_isTable l a1 q1 e1) B k_X5_isTable q_4_12 rfl ⟨Nat.le_of_ble_eq_true rfl, Nat.le_of_ble_eq_true rfl⟩ ⟨Nat.le_of_ble_eq_true rfl, Nat.le_of_ble_eq_true rfl⟩ hl.1 rfl (Nat.le_of_ble_eq_true rfl) dX5_count_1 ?_
  refine lv_if_ne (tgt := 9) hx hb dX5_count_4 (by decide) (fun c2 => ?_) (fun c2 => ?_)
  · have hw := itn c2 hw
    refine lv_aload_n hx hb dX5_count_9 rfl (lv_at hl 0 rfl) ?_
    obtain ⟨⟨fs3, e3⟩, hw⟩ := hw
    refine k_call (As := []) (rest := []) (ci := 6) (cg_X5_remember l D ct a0 this h _ hw) B hK hN hZ hA hW hS e3 rfl k_X5_remember q_4_15 rfl ⟨Nat.le_of_ble_eq_true rfl, Nat.le_of_ble_eq_true rfl⟩ ⟨Nat.le_of_ble_eq_true rfl, Nat.le_of_ble_eq_true rfl⟩ hl.1 rfl (Nat.le_of_ble_eq_true rfl) dX5_count_10 (fun v3 h3 H locs hw hW hS => ?_)
    refine lv_aload_n hx hb dX5_count_13 rfl (lv_at hl 0 rfl) ?_
    obtain ⟨fs4, v4, e4, f4, hw⟩ := hw
    refine kw_get (ci := 6) (C := RX5) (T := TX5) (N := 7) hx hb hts inlX5 hown hK hW e4 rfl 0 (by decide) (hts _ q_1_15) (fun _ h9 => h9) f4 dX5_count_14 ?_
    refine lv_iload_n hx hb dX5_count_17 rfl (lv_at hl 1 rfl) ?_
    obtain ⟨q5, e5, hw⟩ := hw
    refine s_call (As := [.int a1]) (rest := [.ref v4]) (c_X5_bit l a1 q5 e5) B k_X5_bit q_9_7 rfl ⟨Nat.le_of_ble_eq_true rfl, Nat.le_of_ble_eq_true rfl⟩ ⟨Nat.le_of_ble_eq_true rfl, Nat.le_of_ble_eq_true rfl⟩ hl.1 rfl (Nat.le_of_ble_eq_true rfl) dX5_count_18 ?_
    obtain ⟨⟨fs6, e6⟩, hw⟩ := hw
    refine k_call (As := [.int q5]) (rest := []) (ci := 5) (cg_X4_countTables l D ct a0 v4 q5 h3 _ hw) B hK hN hZ hA hW hS e6 rfl k_X4_countTables q_10_8 rfl ⟨Nat.le_of_ble_eq_true rfl, Nat.le_of_ble_eq_true rfl⟩ ⟨Nat.le_of_ble_eq_true rfl, Nat.le_of_ble_eq_true rfl⟩ hl.1 rfl (Nat.le_of_ble_eq_true rfl) dX5_count_21 (fun v6 h6 H locs hw hW hS => ?_)
    refine W.widen (k := 19) (n := 147) (by omega) (by omega) ?_
    exact hret _ _ _ _ v6 h6 (vp_nar_int _) dX5_count_24 hw hW hS
  · have hw := itp c2 hw
    refine lv_iconst (v := (-1 : Int32)) hx hb dX5_count_7 (by decide) ?_
    refine W.widen (k := 19) (n := 147) (by omega) (by omega) ?_
    exact hret _ _ _ _ (-1 : Int32) h (vp_nar_int _) dX5_count_8 hw hW hS

def g_X5_reckoned (ct : Nat → ClassId) (a0 : Nat) (this : Nat) (a1 : Int32) (h : KH) (Post : Nat → KH → Prop) : Prop :=
  rdR h this 6 3 (fun v1 => if a1 = (0 : Int32) then rdR h this 6 0 (fun v3 => rdR h v3 5 1 (fun v4 => rdR h this 6 0 (fun v5 => rdR h v5 5 2 (fun v6 => (∃ (o7 : Nat → Nat) (k_products_7 : Nat → Int64) (k_leastCosts_7 : Nat → Int64) (k_bestOrders_7 : Nat → Int32) (k_numbers_7 : Nat → Int32) (k_parts_7 : Nat → Nat → Int32) (q7 : (Nat → Int64) × (Nat → Int64) × (Nat → Int32)), (o7 0 = v1 ∧ o7 4 = v4 ∧ o7 5 = v6) ∧ inW h (QW2 o7 ct k_products_7 k_leastCosts_7 k_bestOrders_7 k_numbers_7 k_parts_7) ∧ f_X3_reckon  k_products_7 k_leastCosts_7 k_bestOrders_7 k_numbers_7 k_parts_7 = some q7 ∧ (∀ h7 : KH, h7 = hupw h (QW2 o7 ct q7.1 q7.2.1 q7.2.2 k_numbers_7 k_parts_7) → rdR h7 this 6 3 (fun v8 => Post v8 h7)))))))
  else rdR h this 6 0 (fun v9 => rdR h v9 5 0 (fun v10 => rdR h this 6 0 (fun v11 => rdR h v11 5 2 (fun v12 => (∃ (o13 : Nat → Nat) (k_products_13 : Nat → Int64) (k_leastCosts_13 : Nat → Int64) (k_bestOrders_13 : Nat → Int32) (k_numbers_13 : Nat → Int32) (k_parts_13 : Nat → Nat → Int32) (q13 : (Nat → Int64) × (Nat → Int64) × (Nat → Int32)), (o13 0 = v1 ∧ o13 4 = v10 ∧ o13 5 = v12) ∧ inW h (QW2 o13 ct k_products_13 k_leastCosts_13 k_bestOrders_13 k_numbers_13 k_parts_13) ∧ f_X3_reckon  k_products_13 k_leastCosts_13 k_bestOrders_13 k_numbers_13 k_parts_13 = some q13 ∧ (∀ h13 : KH, h13 = hupw h (QW2 o13 ct q13.1 q13.2.1 q13.2.2 k_numbers_13 k_parts_13) → rdR h13 this 6 3 (fun v14 => Post v14 h13))))))))
set_option maxRecDepth 100000 in
set_option maxHeartbeats 4000000 in
theorem cg_X5_reckoned (l : Launch) (D : va_G) (ct : Nat → ClassId) (a0 : Nat) (this : Nat) (a1 : Int32) (h : KH) (Post : Nat → KH → Prop) (hw : g_X5_reckoned ct a0 this a1 h Post) : CK l yX5_reckoned cX5_reckoned 2 3 0 0 (some (.object "DriftPlans$Reckoner")) D ct a0 [.ref this, .int a1] vR h Post := by
  refine CK.mkR (by decide) (Nat.le_of_ble_eq_true rfl) (Or.inl ⟨_, rfl⟩) ?_
  intro p e s m below meth c Q A X hret hW hS ls hl
  obtain ⟨B, hin, hK, hN, hZ, hA⟩ := X
  have B0 := B
  obtain ⟨hx, hb, hml, hown, hts⟩ := B0
  have hl : lv_has ls 2 [(0, .ref this), (1, .int a1)] := hl
  unfold g_X5_reckoned at hw
  refine lv_aload_n hx hb dX5_reckoned_0 rfl (lv_at hl 0 rfl) ?_
  obtain ⟨fs1, v1, e1, f1, hw⟩ := hw
  refine kw_get (ci := 6) (C := RX5) (T := TX5) (N := 7) hx hb hts inlX5 hown hK hW e1 rfl 3 (by decide) (hts _ q_2_0) (fun _ h9 => h9) f1 dX5_reckoned_1 ?_
  refine lv_iload_n hx hb dX5_reckoned_4 rfl (lv_at hl 1 rfl) ?_
  refine lv_if_eq (tgt := 18) hx hb dX5_reckoned_5 (by decide) (fun c2 => ?_) (fun c2 => ?_)
  · have hw := itp c2 hw
    refine lv_aload_n hx hb dX5_reckoned_18 rfl (lv_at hl 0 rfl) ?_
    obtain ⟨fs3, v3, e3, f3, hw⟩ := hw
    refine kw_get (ci := 6) (C := RX5) (T := TX5) (N := 7) hx hb hts inlX5 hown hK hW e3 rfl 0 (by decide) (hts _ q_1_15) (fun _ h9 => h9) f3 dX5_reckoned_19 ?_
    obtain ⟨fs4, v4, e4, f4, hw⟩ := hw
    refine kw_get (ci := 5) (C := RX4) (T := TX4) (N := 14) hx hb hts inlX4 hown hK hW e4 rfl 1 (by decide) (hts _ q_13_22) (fun _ h9 => h9) f4 dX5_reckoned_22 ?_
    refine lv_aload_n hx hb dX5_reckoned_25 rfl (lv_at hl 0 rfl) ?_
    obtain ⟨fs5, v5, e5, f5, hw⟩ := hw
    refine kw_get (ci := 6) (C := RX5) (T := TX5) (N := 7) hx hb hts inlX5 hown hK hW e5 rfl 0 (by decide) (hts _ q_1_15) (fun _ h9 => h9) f5 dX5_reckoned_26 ?_
    obtain ⟨fs6, v6, e6, f6, hw⟩ := hw
    refine kw_get (ci := 5) (C := RX4) (T := TX4) (N := 14) hx hb hts inlX4 hown hK hW e6 rfl 2 (by decide) (hts _ q_9_3) (fun _ h9 => h9) f6 dX5_reckoned_29 ?_
    obtain ⟨o7, k_products_7, k_leastCosts_7, k_bestOrders_7, k_numbers_7, k_parts_7, q7, ⟨eo7_0, eo7_1, eo7_2⟩, iw7, e7, hw⟩ := hw
    refine W.eq (g2 := F0 m 32 ls [.ref (o7 5), .ref (o7 4), .ref (o7 0)]) (by first | (rw [eo7_0, eo7_1, eo7_2]; done) | (rw [eo7_0, eo7_1, eo7_2]; rfl)) ?_
    refine kf_call (As := [.ref (o7 4), .ref (o7 5)]) (rest := []) (c_X3_reckon l D o7 ct  k_products_7 k_leastCosts_7 k_bestOrders_7 k_numbers_7 k_parts_7 q7 e7) B hK hN hA hW hS iw7 rfl (iw7.1 _ _ (List.mem_of_getElem? (i := 0) rfl)) (ci := 4) rfl k_X3_reckon q_13_23 rfl ⟨Nat.le_of_ble_eq_true rfl, Nat.le_of_ble_eq_true rfl⟩ ⟨Nat.le_of_ble_eq_true rfl, Nat.le_of_ble_eq_true rfl⟩ hl.1 rfl (Nat.le_of_ble_eq_true rfl) dX5_reckoned_32 (fun h7 H locs eh7 hW hS => ?_)
    have hw := hw h7 eh7
    refine lv_aload_n hx hb dX5_reckoned_35 rfl (lv_at hl 0 rfl) ?_
    obtain ⟨fs8, v8, e8, f8, hw⟩ := hw
    refine kw_get (ci := 6) (C := RX5) (T := TX5) (N := 7) hx hb hts inlX5 hown hK hW e8 rfl 3 (by decide) (hts _ q_2_0) (fun _ h9 => h9) f8 dX5_reckoned_36 ?_
    exact hret _ _ _ _ v8 h7 dX5_reckoned_39 hw hW hS
  · have hw := itn c2 hw
    refine lv_aload_n hx hb dX5_reckoned_8 rfl (lv_at hl 0 rfl) ?_
    obtain ⟨fs9, v9, e9, f9, hw⟩ := hw
    refine kw_get (ci := 6) (C := RX5) (T := TX5) (N := 7) hx hb hts inlX5 hown hK hW e9 rfl 0 (by decide) (hts _ q_1_15) (fun _ h9 => h9) f9 dX5_reckoned_9 ?_
    obtain ⟨fs10, v10, e10, f10, hw⟩ := hw
    refine kw_get (ci := 5) (C := RX4) (T := TX4) (N := 14) hx hb hts inlX4 hown hK hW e10 rfl 0 (by decide) (hts _ q_4_11) (fun _ h9 => h9) f10 dX5_reckoned_12 ?_
    refine lv_goto (tgt := 25) hx hb dX5_reckoned_15 (by decide) ?_
    refine lv_aload_n hx hb dX5_reckoned_25 rfl (lv_at hl 0 rfl) ?_
    obtain ⟨fs11, v11, e11, f11, hw⟩ := hw
    refine kw_get (ci := 6) (C := RX5) (T := TX5) (N := 7) hx hb hts inlX5 hown hK hW e11 rfl 0 (by decide) (hts _ q_1_15) (fun _ h9 => h9) f11 dX5_reckoned_26 ?_
    obtain ⟨fs12, v12, e12, f12, hw⟩ := hw
    refine kw_get (ci := 5) (C := RX4) (T := TX4) (N := 14) hx hb hts inlX4 hown hK hW e12 rfl 2 (by decide) (hts _ q_9_3) (fun _ h9 => h9) f12 dX5_reckoned_29 ?_
    obtain ⟨o13, k_products_13, k_leastCosts_13, k_bestOrders_13, k_numbers_13, k_parts_13, q13, ⟨eo13_0, eo13_1, eo13_2⟩, iw13, e13, hw⟩ := hw
    refine W.eq (g2 := F0 m 32 ls [.ref (o13 5), .ref (o13 4), .ref (o13 0)]) (by first | (rw [eo13_0, eo13_1, eo13_2]; done) | (rw [eo13_0, eo13_1, eo13_2]; rfl)) ?_
    refine kf_call (As := [.ref (o13 4), .ref (o13 5)]) (rest := []) (c_X3_reckon l D o13 ct  k_products_13 k_leastCosts_13 k_bestOrders_13 k_numbers_13 k_parts_13 q13 e13) B hK hN hA hW hS iw13 rfl (iw13.1 _ _ (List.mem_of_getElem? (i := 0) rfl)) (ci := 4) rfl k_X3_reckon q_13_23 rfl ⟨Nat.le_of_ble_eq_true rfl, Nat.le_of_ble_eq_true rfl⟩ ⟨Nat.le_of_ble_eq_true rfl, Nat.le_of_ble_eq_true rfl⟩ hl.1 rfl (Nat.le_of_ble_eq_true rfl) dX5_reckoned_32 (fun h13 H locs eh13 hW hS => ?_)
    have hw := hw h13 eh13
    refine lv_aload_n hx hb dX5_reckoned_35 rfl (lv_at hl 0 rfl) ?_
    obtain ⟨fs14, v14, e14, f14, hw⟩ := hw
    refine kw_get (ci := 6) (C := RX5) (T := TX5) (N := 7) hx hb hts inlX5 hown hK hW e14 rfl 3 (by decide) (hts _ q_2_0) (fun _ h9 => h9) f14 dX5_reckoned_36 ?_
    exact hret _ _ _ _ v14 h13 dX5_reckoned_39 hw hW hS

def g_X5_runQuery_J73 (ct : Nat → ClassId) (a0 : Nat) (this : Nat) (a1 : Int32) (Post : Int64 → KH → Prop)  (x3 : Int32) (x4 : Int64) (h : KH) : Prop :=
  isO h this 6 (g_X5_reckoned ct a0 this (1 : Int32) h (fun v9 h9 => (∃ (o10 : Nat → Nat) (k_products_10 : Nat → Int64) (k_leastCosts_10 : Nat → Int64) (k_bestOrders_10 : Nat → Int32) (q10 : Int64), (o10 0 = v9) ∧ inW h9 (QW o10 ct k_products_10 k_leastCosts_10 k_bestOrders_10) ∧ f_X3_costOf a1 x3 k_products_10 = some q10 ∧ rdR h9 this 6 0 (fun v11 => rdL h9 v11 5 7 (fun v12 => wrF h9 v11 5 7 (.long (v12 + q10)) (fun h13 => rdR h13 this 6 0 (fun v14 => isO h13 v14 5 (g_X4_countTables ct a0 v14 a1 h13 (fun v15 h15 => Post (x4 + q10) h15)))))))))
def g_X5_runQuery (ct : Nat → ClassId) (a0 : Nat) (this : Nat) (a1 : Int32) (h : KH) (Post : Int64 → KH → Prop) : Prop :=
  rdR h this 6 0 (fun v1 => isO h v1 5 (g_X4_placeOf ct a0 v1 a1 h (fun v2 h2 => if v2 = (-1 : Int32) then isO h2 this 6 (g_X5_reckoned ct a0 this (0 : Int32) h2 (fun v4 h4 => (∃ (o5 : Nat → Nat) (k_products_5 : Nat → Int64) (k_leastCosts_5 : Nat → Int64) (k_bestOrders_5 : Nat → Int32) (q5 : Int32), (o5 0 = v4) ∧ inW h4 (QW o5 ct k_products_5 k_leastCosts_5 k_bestOrders_5) ∧ f_X3_bestOrder a1 k_bestOrders_5 = some q5 ∧ (∃ q6, f_X5_makingCost a1 = some q6 ∧ rdR h4 this 6 0 (fun v7 => isO h4 v7 5 (g_X4_keepNew ct a0 v7 a1 q5 q6 h4 (fun _ h8 => g_X5_runQuery_J73 ct a0 this a1 Post  q5 q6 h8)))))))
  else rdR h2 this 6 0 (fun v16 => rdR h2 v16 5 3 (fun v17 => isO h2 v17 0 (g_Jx4a65c_get_915e3 ct a0 v17 v2 h2 (fun v18 h18 => isO h18 v18 1 (rdI h18 v18 1 1 (fun v20 => rdR h18 this 6 0 (fun v21 => isO h18 v21 5 (g_X4_useAgain ct a0 v21 v2 h18 (fun _ h22 => g_X5_runQuery_J73 ct a0 this a1 Post  v20 (0 : Int64) h22))))))))))))
set_option maxRecDepth 100000 in
set_option maxHeartbeats 4000000 in
theorem cg_X5_runQuery (l : Launch) (D : va_G) (ct : Nat → ClassId) (a0 : Nat) (this : Nat) (a1 : Int32) (h : KH) (Post : Int64 → KH → Prop) (hw : g_X5_runQuery ct a0 this a1 h Post) : CK l yX5_runQuery cX5_runQuery 8 6 3 20 (some .long) D ct a0 [.ref this, .int a1] vL h Post := by
  refine CK.mkL (by decide) (Nat.le_of_ble_eq_true rfl) ?_
  intro p e s m below meth c Q A X hret hW hS ls hl
  obtain ⟨B, hin, hK, hN, hZ, hA⟩ := X
  have B0 := B
  obtain ⟨hx, hb, hml, hown, hts⟩ := B0
  have hl : lv_has ls 8 [(0, .ref this), (1, .int a1)] := hl
  have hJ73 : ∀ (x3 : Int32) (x4 : Int64) (h : KH) (ls : Array Slot) (H : Heap) (locs : List Loc), g_X5_runQuery_J73 ct a0 this a1 Post  x3 x4 h → KW D A h H → va_S A s.heap H locs → lv_has ls 8 [(0, .ref this), (1, .int a1), (3, .int x3), (4, .long x4)] → W p l e (rmF 6 3 20) s m ([.ref this, .int a1] : List Value).toArray below meth c H locs 3 20 Q (F0 m 73 ls []) := by
    intro x3 x4 h ls H locs hw hW hS hl
    unfold g_X5_runQuery_J73 at hw
    refine lv_aload_n hx hb dX5_runQuery_73 rfl (lv_at hl 0 rfl) ?_
    refine lv_iconst (v := (1 : Int32)) hx hb dX5_runQuery_74 (by decide) ?_
    obtain ⟨⟨fs9, e9⟩, hw⟩ := hw
    refine k_call (As := [.int (1 : Int32)]) (rest := []) (ci := 6) (cg_X5_reckoned l D ct a0 this (1 : Int32) h _ hw) B hK hN hZ hA hW hS e9 rfl k_X5_reckoned q_13_18 rfl ⟨Nat.le_of_ble_eq_true rfl, Nat.le_of_ble_eq_true rfl⟩ ⟨Nat.le_of_ble_eq_true rfl, Nat.le_of_ble_eq_true rfl⟩ hl.1 rfl (Nat.le_of_ble_eq_true rfl) dX5_runQuery_75 (fun v9 h9 H locs hw hW hS => ?_)
    refine lv_iload_n hx hb dX5_runQuery_78 rfl (lv_at hl 1 rfl) ?_
    refine lv_iload_n hx hb dX5_runQuery_79 rfl (lv_at hl 2 rfl) ?_
    obtain ⟨o10, k_products_10, k_leastCosts_10, k_bestOrders_10, q10, eo10_0, iw10, e10, hw⟩ := hw
    refine W.eq (g2 := F0 m 80 ls [.int x3, .int a1, .ref (o10 0)]) (by first | (rw [eo10_0]; done) | (rw [eo10_0]; rfl)) ?_
    refine kf_call (As := [.int a1, .int x3]) (rest := []) (c_X3_costOf l D o10 ct a1 x3 k_products_10 k_leastCosts_10 k_bestOrders_10 q10 e10) B hK hN hA hW hS iw10 rfl (iw10.1 _ _ (List.mem_of_getElem? (i := 0) rfl)) (ci := 4) rfl k_X3_costOf q_15_19 rfl ⟨Nat.le_of_ble_eq_true rfl, Nat.le_of_ble_eq_true rfl⟩ ⟨Nat.le_of_ble_eq_true rfl, Nat.le_of_ble_eq_true rfl⟩ hl.1 rfl (Nat.le_of_ble_eq_true rfl) dX5_runQuery_80 (fun h10 H locs eh10 hW hS => ?_)
    rw [hupw_same iw10] at eh10
    rw [eh10] at hW
    refine lv_lstore (lv' := [(6, .long q10), (0, .ref this), (1, .int a1), (3, .int x3), (4, .long x4)]) hx hb dX5_runQuery_83 hl (by decide) rfl (fun ls hl => ?_)
    refine lv_aload_n hx hb dX5_runQuery_85 rfl (lv_at hl 1 rfl) ?_
    obtain ⟨fs11, v11, e11, f11, hw⟩ := hw
    refine kw_get (ci := 6) (C := RX5) (T := TX5) (N := 7) hx hb hts inlX5 hown hK hW e11 rfl 0 (by decide) (hts _ q_1_15) (fun _ h9 => h9) f11 dX5_runQuery_86 ?_
    refine lv_dup hx hb dX5_runQuery_89 rfl ?_
    obtain ⟨fs12, v12, e12, f12, hw⟩ := hw
    refine kw_get (ci := 5) (C := RX4) (T := TX4) (N := 14) hx hb hts inlX4 hown hK hW e12 rfl 7 (by decide) (hts _ q_12_18) (fun _ h9 => h9) f12 dX5_runQuery_90 ?_
    refine lv_lload hx hb dX5_runQuery_93 (lv_at hl 0 rfl) ?_
    refine lv_ladd hx hb dX5_runQuery_95 ?_
    obtain ⟨fs13, e13, l13, hw⟩ := hw
    refine kw_put (ci := 5) (v := .long (v12 + q10)) (ty := .long) (C := RX4) (T := TX4) (N := 14) hx hb hts inlX4 tyX4 tyX4_ok nmX4 hown hK hW hS e13 rfl 7 (by decide) (hts _ q_12_18) (fun _ h9 => h9) rfl  (by decide +kernel) rfl rfl l13 dX5_runQuery_96 (fun H locs h13 eh13 hW hS => ?_)
    have hw := hw h13 eh13
    refine lv_aload_n hx hb dX5_runQuery_99 rfl (lv_at hl 1 rfl) ?_
    obtain ⟨fs14, v14, e14, f14, hw⟩ := hw
    refine kw_get (ci := 6) (C := RX5) (T := TX5) (N := 7) hx hb hts inlX5 hown hK hW e14 rfl 0 (by decide) (hts _ q_1_15) (fun _ h9 => h9) f14 dX5_runQuery_100 ?_
    refine lv_iload_n hx hb dX5_runQuery_103 rfl (lv_at hl 2 rfl) ?_
    obtain ⟨⟨fs15, e15⟩, hw⟩ := hw
    refine k_call (As := [.int a1]) (rest := []) (ci := 5) (cg_X4_countTables l D ct a0 v14 a1 h13 _ hw) B hK hN hZ hA hW hS e15 rfl k_X4_countTables q_10_8 rfl ⟨Nat.le_of_ble_eq_true rfl, Nat.le_of_ble_eq_true rfl⟩ ⟨Nat.le_of_ble_eq_true rfl, Nat.le_of_ble_eq_true rfl⟩ hl.1 rfl (Nat.le_of_ble_eq_true rfl) dX5_runQuery_104 (fun v15 h15 H locs hw hW hS => ?_)
    refine lv_pop hx hb dX5_runQuery_107 rfl ?_
    refine lv_lload hx hb dX5_runQuery_108 (lv_at hl 4 rfl) ?_
    refine lv_lload hx hb dX5_runQuery_110 (lv_at hl 0 rfl) ?_
    refine lv_ladd hx hb dX5_runQuery_112 ?_
    refine W.widen (k := 3) (n := 20) (by omega) (by omega) ?_
    exact hret _ _ _ _ (x4 + q10) h15 dX5_runQuery_113 hw hW hS
  unfold g_X5_runQuery at hw
  refine lv_aload_n hx hb dX5_runQuery_0 rfl (lv_at hl 0 rfl) ?_
  obtain ⟨fs1, v1, e1, f1, hw⟩ := hw
  refine kw_get (ci := 6) (C := RX5) (T := TX5) (N := 7) hx hb hts inlX5 hown hK hW e1 rfl 0 (by decide) (hts _ q_1_15) (fun _ h9 => h9) f1 dX5_runQuery_1 ?_
  refine lv_iload_n hx hb dX5_runQuery_4 rfl (lv_at hl 1 rfl) ?_
  obtain ⟨⟨fs2, e2⟩, hw⟩ := hw
  refine k_call (As := [.int a1]) (rest := []) (ci := 5) (cg_X4_placeOf l D ct a0 v1 a1 h _ hw) B hK hN hZ hA hW hS e2 rfl k_X4_placeOf q_12_19 rfl ⟨Nat.le_of_ble_eq_true rfl, Nat.le_of_ble_eq_true rfl⟩ ⟨Nat.le_of_ble_eq_true rfl, Nat.le_of_ble_eq_true rfl⟩ hl.1 rfl (Nat.le_of_ble_eq_true rfl) dX5_runQuery_5 (fun v2 h2 H locs hw hW hS => ?_)
  refine lv_istore_n (lv' := [(2, .int v2), (0, .ref this), (1, .int a1)]) hx hb dX5_runQuery_8 rfl hl (by decide) rfl (fun ls hl => ?_)
  refine lv_lconst (v := (0 : Int64)) hx hb dX5_runQuery_9 (by decide) ?_
  refine lv_lstore (lv' := [(4, .long (0 : Int64)), (2, .int v2), (0, .ref this), (1, .int a1)]) hx hb dX5_runQuery_10 hl (by decide) rfl (fun ls hl => ?_)
  refine lv_iload_n hx hb dX5_runQuery_12 rfl (lv_at hl 1 rfl) ?_
  refine lv_iconst (v := (-1 : Int32)) hx hb dX5_runQuery_13 (by decide) ?_
  refine lv_icmp_eq (tgt := 46) hx hb dX5_runQuery_14 (by decide) (fun c3 => ?_) (fun c3 => ?_)
  · have hw := itp c3 hw
    refine lv_aload_n hx hb dX5_runQuery_46 rfl (lv_at hl 2 rfl) ?_
    refine lv_iconst (v := (0 : Int32)) hx hb dX5_runQuery_47 (by decide) ?_
    obtain ⟨⟨fs4, e4⟩, hw⟩ := hw
    refine k_call (As := [.int (0 : Int32)]) (rest := []) (ci := 6) (cg_X5_reckoned l D ct a0 this (0 : Int32) h2 _ hw) B hK hN hZ hA hW hS e4 rfl k_X5_reckoned q_13_18 rfl ⟨Nat.le_of_ble_eq_true rfl, Nat.le_of_ble_eq_true rfl⟩ ⟨Nat.le_of_ble_eq_true rfl, Nat.le_of_ble_eq_true rfl⟩ hl.1 rfl (Nat.le_of_ble_eq_true rfl) dX5_runQuery_48 (fun v4 h4 H locs hw hW hS => ?_)
    refine lv_iload_n hx hb dX5_runQuery_51 rfl (lv_at hl 3 rfl) ?_
    obtain ⟨o5, k_products_5, k_leastCosts_5, k_bestOrders_5, q5, eo5_0, iw5, e5, hw⟩ := hw
    refine W.eq (g2 := F0 m 52 ls [.int a1, .ref (o5 0)]) (by first | (rw [eo5_0]; done) | (rw [eo5_0]; rfl)) ?_
    refine kf_call (As := [.int a1]) (rest := []) (c_X3_bestOrder l D o5 ct a1 k_products_5 k_leastCosts_5 k_bestOrders_5 q5 e5) B hK hN hA hW hS iw5 rfl (iw5.1 _ _ (List.mem_of_getElem? (i := 0) rfl)) (ci := 4) rfl k_X3_bestOrder q_14_14 rfl ⟨Nat.le_of_ble_eq_true rfl, Nat.le_of_ble_eq_true rfl⟩ ⟨Nat.le_of_ble_eq_true rfl, Nat.le_of_ble_eq_true rfl⟩ hl.1 rfl (Nat.le_of_ble_eq_true rfl) dX5_runQuery_52 (fun h5 H locs eh5 hW hS => ?_)
    rw [hupw_same iw5] at eh5
    rw [eh5] at hW
    refine lv_istore_n (lv' := [(3, .int q5), (4, .long (0 : Int64)), (2, .int v2), (0, .ref this), (1, .int a1)]) hx hb dX5_runQuery_55 rfl hl (by decide) rfl (fun ls hl => ?_)
    refine lv_iload_n hx hb dX5_runQuery_56 rfl (lv_at hl 4 rfl) ?_
    obtain ⟨q6, e6, hw⟩ := hw
    refine s_call (As := [.int a1]) (rest := []) (c_X5_makingCost l a1 q6 e6) B k_X5_makingCost q_14_18 rfl ⟨Nat.le_of_ble_eq_true rfl, Nat.le_of_ble_eq_true rfl⟩ ⟨Nat.le_of_ble_eq_true rfl, Nat.le_of_ble_eq_true rfl⟩ hl.1 rfl (Nat.le_of_ble_eq_true rfl) dX5_runQuery_57 ?_
    refine lv_lstore (lv' := [(4, .long q6), (3, .int q5), (2, .int v2), (0, .ref this), (1, .int a1)]) hx hb dX5_runQuery_60 hl (by decide) rfl (fun ls hl => ?_)
    refine lv_aload_n hx hb dX5_runQuery_62 rfl (lv_at hl 3 rfl) ?_
    obtain ⟨fs7, v7, e7, f7, hw⟩ := hw
    refine kw_get (ci := 6) (C := RX5) (T := TX5) (N := 7) hx hb hts inlX5 hown hK hW e7 rfl 0 (by decide) (hts _ q_1_15) (fun _ h9 => h9) f7 dX5_runQuery_63 ?_
    refine lv_iload_n hx hb dX5_runQuery_66 rfl (lv_at hl 4 rfl) ?_
    refine lv_iload_n hx hb dX5_runQuery_67 rfl (lv_at hl 1 rfl) ?_
    refine lv_lload hx hb dX5_runQuery_68 (lv_at hl 0 rfl) ?_
    obtain ⟨⟨fs8, e8⟩, hw⟩ := hw
    refine k_call (As := [.int a1, .int q5, .long q6]) (rest := []) (ci := 5) (cg_X4_keepNew l D ct a0 v7 a1 q5 q6 h4 _ hw) B hK hN hZ hA hW hS e8 rfl k_X4_keepNew q_15_5 rfl ⟨Nat.le_of_ble_eq_true rfl, Nat.le_of_ble_eq_true rfl⟩ ⟨Nat.le_of_ble_eq_true rfl, Nat.le_of_ble_eq_true rfl⟩ hl.1 rfl (Nat.le_of_ble_eq_true rfl) dX5_runQuery_70 (fun v8 h8 H locs hw hW hS => ?_)
    refine W.widen (k := 3) (n := 20) (by omega) (by omega) ?_
    exact hJ73 q5 q6 h8 _ _ _ hw hW hS (lv_sub hl [3, 4, 1, 0] rfl)
  · have hw := itn c3 hw
    refine lv_aload_n hx hb dX5_runQuery_17 rfl (lv_at hl 2 rfl) ?_
    obtain ⟨fs16, v16, e16, f16, hw⟩ := hw
    refine kw_get (ci := 6) (C := RX5) (T := TX5) (N := 7) hx hb hts inlX5 hown hK hW e16 rfl 0 (by decide) (hts _ q_1_15) (fun _ h9 => h9) f16 dX5_runQuery_18 ?_
    obtain ⟨fs17, v17, e17, f17, hw⟩ := hw
    refine kw_get (ci := 5) (C := RX4) (T := TX4) (N := 14) hx hb hts inlX4 hown hK hW e17 rfl 3 (by decide) (hts _ q_12_15) (fun _ h9 => h9) f17 dX5_runQuery_21 ?_
    refine lv_iload_n hx hb dX5_runQuery_24 rfl (lv_at hl 1 rfl) ?_
    obtain ⟨⟨fs18, e18⟩, hw⟩ := hw
    refine k_call (As := [.int v2]) (rest := []) (ci := 0) (cg_Jx4a65c_get_915e3 l D ct a0 v17 v2 h2 _ hw) B hK hN hZ hA hW hS e18 rfl k_Jx4a65c_get_915e3 q_12_23 rfl ⟨Nat.le_of_ble_eq_true rfl, Nat.le_of_ble_eq_true rfl⟩ ⟨Nat.le_of_ble_eq_true rfl, Nat.le_of_ble_eq_true rfl⟩ hl.1 rfl (Nat.le_of_ble_eq_true rfl) dX5_runQuery_25 (fun v18 h18 H locs hw hW hS => ?_)
    obtain ⟨⟨xa19, e19⟩, hw⟩ := hw
    refine kw_castO (ci := 1) hx hb hown (hts _ q_12_16) hK hW e19 rfl dX5_runQuery_28 ?_
    obtain ⟨fs20, v20, e20, f20, hw⟩ := hw
    refine kw_get (ci := 1) (C := RX0) (T := TX0) (N := 5) hx hb hts inlX0 hown hK hW e20 rfl 1 (by decide) (hts _ q_12_17) (fun _ h9 => h9) f20 dX5_runQuery_31 ?_
    refine lv_istore_n (lv' := [(3, .int v20), (4, .long (0 : Int64)), (2, .int v2), (0, .ref this), (1, .int a1)]) hx hb dX5_runQuery_34 rfl hl (by decide) rfl (fun ls hl => ?_)
    refine lv_aload_n hx hb dX5_runQuery_35 rfl (lv_at hl 3 rfl) ?_
    obtain ⟨fs21, v21, e21, f21, hw⟩ := hw
    refine kw_get (ci := 6) (C := RX5) (T := TX5) (N := 7) hx hb hts inlX5 hown hK hW e21 rfl 0 (by decide) (hts _ q_1_15) (fun _ h9 => h9) f21 dX5_runQuery_36 ?_
    refine lv_iload_n hx hb dX5_runQuery_39 rfl (lv_at hl 2 rfl) ?_
    obtain ⟨⟨fs22, e22⟩, hw⟩ := hw
    refine k_call (As := [.int v2]) (rest := []) (ci := 5) (cg_X4_useAgain l D ct a0 v21 v2 h18 _ hw) B hK hN hZ hA hW hS e22 rfl k_X4_useAgain q_13_0 rfl ⟨Nat.le_of_ble_eq_true rfl, Nat.le_of_ble_eq_true rfl⟩ ⟨Nat.le_of_ble_eq_true rfl, Nat.le_of_ble_eq_true rfl⟩ hl.1 rfl (Nat.le_of_ble_eq_true rfl) dX5_runQuery_40 (fun v22 h22 H locs hw hW hS => ?_)
    refine lv_goto (tgt := 73) hx hb dX5_runQuery_43 (by decide) ?_
    refine W.widen (k := 3) (n := 20) (by omega) (by omega) ?_
    exact hJ73 v20 (0 : Int64) h22 _ _ _ hw hW hS (lv_sub hl [3, 4, 0, 1] rfl)

def g_X5_run (ct : Nat → ClassId) (a0 : Nat) (this : Nat) (a1 : Int32) (h : KH) (Post : Int32 → KH → Prop) : Prop :=
  (∃ q1, f_X5_isSet a1 = some q1 ∧ if q1 = (0 : Int32) then Post (-1 : Int32) h
  else isO h this 6 (g_X5_remember ct a0 this h (fun _ h3 => isO h3 this 6 (g_X5_runQuery ct a0 this a1 h3 (fun v4 h4 => (∃ q5, f_X5_told v4 = some q5 ∧ Post q5 h4))))))
set_option maxRecDepth 100000 in
set_option maxHeartbeats 4000000 in
theorem cg_X5_run (l : Launch) (D : va_G) (ct : Nat → ClassId) (a0 : Nat) (this : Nat) (a1 : Int32) (h : KH) (Post : Int32 → KH → Prop) (hw : g_X5_run ct a0 this a1 h Post) : CK l yX5_run cX5_run 2 7 22 167 (some .int) D ct a0 [.ref this, .int a1] vI h Post := by
  refine CK.mkI (by decide) (Nat.le_of_ble_eq_true rfl) ?_
  intro p e s m below meth c Q A X hret hW hS ls hl
  obtain ⟨B, hin, hK, hN, hZ, hA⟩ := X
  have B0 := B
  obtain ⟨hx, hb, hml, hown, hts⟩ := B0
  have hl : lv_has ls 2 [(0, .ref this), (1, .int a1)] := hl
  unfold g_X5_run at hw
  refine lv_iload_n hx hb dX5_run_0 rfl (lv_at hl 1 rfl) ?_
  obtain ⟨q1, e1, hw⟩ := hw
  refine s_call (As := [.int a1]) (rest := []) (c_X5_isSet l a1 q1 e1) B k_X5_isSet q_12_8 rfl ⟨Nat.le_of_ble_eq_true rfl, Nat.le_of_ble_eq_true rfl⟩ ⟨Nat.le_of_ble_eq_true rfl, Nat.le_of_ble_eq_true rfl⟩ hl.1 rfl (Nat.le_of_ble_eq_true rfl) dX5_run_1 ?_
  refine lv_if_ne (tgt := 9) hx hb dX5_run_4 (by decide) (fun c2 => ?_) (fun c2 => ?_)
  · have hw := itn c2 hw
    refine lv_aload_n hx hb dX5_run_9 rfl (lv_at hl 0 rfl) ?_
    obtain ⟨⟨fs3, e3⟩, hw⟩ := hw
    refine k_call (As := []) (rest := []) (ci := 6) (cg_X5_remember l D ct a0 this h _ hw) B hK hN hZ hA hW hS e3 rfl k_X5_remember q_4_15 rfl ⟨Nat.le_of_ble_eq_true rfl, Nat.le_of_ble_eq_true rfl⟩ ⟨Nat.le_of_ble_eq_true rfl, Nat.le_of_ble_eq_true rfl⟩ hl.1 rfl (Nat.le_of_ble_eq_true rfl) dX5_run_10 (fun v3 h3 H locs hw hW hS => ?_)
    refine lv_aload_n hx hb dX5_run_13 rfl (lv_at hl 0 rfl) ?_
    refine lv_iload_n hx hb dX5_run_14 rfl (lv_at hl 1 rfl) ?_
    obtain ⟨⟨fs4, e4⟩, hw⟩ := hw
    refine k_call (As := [.int a1]) (rest := []) (ci := 6) (cg_X5_runQuery l D ct a0 this a1 h3 _ hw) B hK hN hZ hA hW hS e4 rfl k_X5_runQuery q_12_11 rfl ⟨Nat.le_of_ble_eq_true rfl, Nat.le_of_ble_eq_true rfl⟩ ⟨Nat.le_of_ble_eq_true rfl, Nat.le_of_ble_eq_true rfl⟩ hl.1 rfl (Nat.le_of_ble_eq_true rfl) dX5_run_15 (fun v4 h4 H locs hw hW hS => ?_)
    obtain ⟨q5, e5, hw⟩ := hw
    refine s_call (As := [.long v4]) (rest := []) (c_X5_told l v4 q5 e5) B k_X5_told q_16_6 rfl ⟨Nat.le_of_ble_eq_true rfl, Nat.le_of_ble_eq_true rfl⟩ ⟨Nat.le_of_ble_eq_true rfl, Nat.le_of_ble_eq_true rfl⟩ hl.1 rfl (Nat.le_of_ble_eq_true rfl) dX5_run_18 ?_
    refine W.widen (k := 22) (n := 167) (by omega) (by omega) ?_
    exact hret _ _ _ _ q5 h4 (vp_nar_int _) dX5_run_21 hw hW hS
  · have hw := itp c2 hw
    refine lv_iconst (v := (-1 : Int32)) hx hb dX5_run_7 (by decide) ?_
    refine W.widen (k := 22) (n := 167) (by omega) (by omega) ?_
    exact hret _ _ _ _ (-1 : Int32) h (vp_nar_int _) dX5_run_8 hw hW hS

def g_X5_pin_J55 (ct : Nat → ClassId) (a0 : Nat) (this : Nat) (a1 : Int32) (Post : Int32 → KH → Prop)  (x2 : Int32) (t0 : Int32) (h : KH) : Prop :=
  rdR h this 6 0 (fun v13 => isO h v13 5 (g_X4_setPinned ct a0 v13 x2 t0 h (fun _ h14 => rdR h14 this 6 0 (fun v15 => isO h14 v15 5 (g_X4_throwOutDrifted ct a0 v15 h14 (fun v16 h16 => if t0 = (0 : Int32) then Post (0 : Int32) h16
  else Post (1 : Int32) h16))))))
def g_X5_pin (ct : Nat → ClassId) (a0 : Nat) (this : Nat) (a1 : Int32) (h : KH) (Post : Int32 → KH → Prop) : Prop :=
  (∃ q1, f_X5_isSet a1 = some q1 ∧ if q1 = (0 : Int32) then Post (-1 : Int32) h
  else rdR h this 6 0 (fun v3 => isO h v3 5 (g_X4_placeOf ct a0 v3 a1 h (fun v4 h4 => if v4 = (-1 : Int32) then Post (-2 : Int32) h4
  else isO h4 this 6 (g_X5_remember ct a0 this h4 (fun _ h6 => rdR h6 this 6 0 (fun v7 => rdR h6 v7 5 3 (fun v8 => isO h6 v8 0 (g_Jx4a65c_get_915e3 ct a0 v8 v4 h6 (fun v9 h9 => isO h9 v9 1 (rdI h9 v9 1 4 (fun v11 => if v11 = (0 : Int32) then g_X5_pin_J55 ct a0 this a1 Post  v4 (1 : Int32) h9
  else g_X5_pin_J55 ct a0 this a1 Post  v4 (0 : Int32) h9))))))))))))
set_option maxRecDepth 100000 in
set_option maxHeartbeats 4000000 in
theorem cg_X5_pin (l : Launch) (D : va_G) (ct : Nat → ClassId) (a0 : Nat) (this : Nat) (a1 : Int32) (h : KH) (Post : Int32 → KH → Prop) (hw : g_X5_pin ct a0 this a1 h Post) : CK l yX5_pin cX5_pin 4 7 20 152 (some .int) D ct a0 [.ref this, .int a1] vI h Post := by
  refine CK.mkI (by decide) (Nat.le_of_ble_eq_true rfl) ?_
  intro p e s m below meth c Q A X hret hW hS ls hl
  obtain ⟨B, hin, hK, hN, hZ, hA⟩ := X
  have B0 := B
  obtain ⟨hx, hb, hml, hown, hts⟩ := B0
  have hl : lv_has ls 4 [(0, .ref this), (1, .int a1)] := hl
  have hJ55 : ∀ (x2 : Int32) (t0 : Int32) (h : KH) (ls : Array Slot) (H : Heap) (locs : List Loc), g_X5_pin_J55 ct a0 this a1 Post  x2 t0 h → KW D A h H → va_S A s.heap H locs → lv_has ls 4 [(0, .ref this), (2, .int x2)] → W p l e (rmF 7 20 152) s m ([.ref this, .int a1] : List Value).toArray below meth c H locs 19 147 Q (F0 m 55 ls [.int t0]) := by
    intro x2 t0 h ls H locs hw hW hS hl
    unfold g_X5_pin_J55 at hw
    refine lv_istore_n (lv' := [(3, .int t0), (0, .ref this), (2, .int x2)]) hx hb dX5_pin_55 rfl hl (by decide) rfl (fun ls hl => ?_)
    refine lv_aload_n hx hb dX5_pin_56 rfl (lv_at hl 1 rfl) ?_
    obtain ⟨fs13, v13, e13, f13, hw⟩ := hw
    refine kw_get (ci := 6) (C := RX5) (T := TX5) (N := 7) hx hb hts inlX5 hown hK hW e13 rfl 0 (by decide) (hts _ q_1_15) (fun _ h9 => h9) f13 dX5_pin_57 ?_
    refine lv_iload_n hx hb dX5_pin_60 rfl (lv_at hl 2 rfl) ?_
    refine lv_iload_n hx hb dX5_pin_61 rfl (lv_at hl 0 rfl) ?_
    obtain ⟨⟨fs14, e14⟩, hw⟩ := hw
    refine k_call (As := [.int x2, .int t0]) (rest := []) (ci := 5) (cg_X4_setPinned l D ct a0 v13 x2 t0 h _ hw) B hK hN hZ hA hW hS e14 rfl k_X4_setPinned q_17_1 rfl ⟨Nat.le_of_ble_eq_true rfl, Nat.le_of_ble_eq_true rfl⟩ ⟨Nat.le_of_ble_eq_true rfl, Nat.le_of_ble_eq_true rfl⟩ hl.1 rfl (Nat.le_of_ble_eq_true rfl) dX5_pin_62 (fun v14 h14 H locs hw hW hS => ?_)
    refine lv_aload_n hx hb dX5_pin_65 rfl (lv_at hl 1 rfl) ?_
    obtain ⟨fs15, v15, e15, f15, hw⟩ := hw
    refine kw_get (ci := 6) (C := RX5) (T := TX5) (N := 7) hx hb hts inlX5 hown hK hW e15 rfl 0 (by decide) (hts _ q_1_15) (fun _ h9 => h9) f15 dX5_pin_66 ?_
    obtain ⟨⟨fs16, e16⟩, hw⟩ := hw
    refine k_call (As := []) (rest := []) (ci := 5) (cg_X4_throwOutDrifted l D ct a0 v15 h14 _ hw) B hK hN hZ hA hW hS e16 rfl k_X4_throwOutDrifted q_17_9 rfl ⟨Nat.le_of_ble_eq_true rfl, Nat.le_of_ble_eq_true rfl⟩ ⟨Nat.le_of_ble_eq_true rfl, Nat.le_of_ble_eq_true rfl⟩ hl.1 rfl (Nat.le_of_ble_eq_true rfl) dX5_pin_69 (fun v16 h16 H locs hw hW hS => ?_)
    refine lv_pop hx hb dX5_pin_72 rfl ?_
    refine lv_iload_n hx hb dX5_pin_73 rfl (lv_at hl 0 rfl) ?_
    refine lv_if_eq (tgt := 81) hx hb dX5_pin_74 (by decide) (fun c17 => ?_) (fun c17 => ?_)
    · have hw := itp c17 hw
      refine lv_iconst (v := (0 : Int32)) hx hb dX5_pin_81 (by decide) ?_
      refine W.widen (k := 20) (n := 152) (by omega) (by omega) ?_
      exact hret _ _ _ _ (0 : Int32) h16 (vp_nar_int _) dX5_pin_82 hw hW hS
    · have hw := itn c17 hw
      refine lv_iconst (v := (1 : Int32)) hx hb dX5_pin_77 (by decide) ?_
      refine lv_goto (tgt := 82) hx hb dX5_pin_78 (by decide) ?_
      refine W.widen (k := 20) (n := 152) (by omega) (by omega) ?_
      exact hret _ _ _ _ (1 : Int32) h16 (vp_nar_int _) dX5_pin_82 hw hW hS
  unfold g_X5_pin at hw
  refine lv_iload_n hx hb dX5_pin_0 rfl (lv_at hl 1 rfl) ?_
  obtain ⟨q1, e1, hw⟩ := hw
  refine s_call (As := [.int a1]) (rest := []) (c_X5_isSet l a1 q1 e1) B k_X5_isSet q_12_8 rfl ⟨Nat.le_of_ble_eq_true rfl, Nat.le_of_ble_eq_true rfl⟩ ⟨Nat.le_of_ble_eq_true rfl, Nat.le_of_ble_eq_true rfl⟩ hl.1 rfl (Nat.le_of_ble_eq_true rfl) dX5_pin_1 ?_
  refine lv_if_ne (tgt := 9) hx hb dX5_pin_4 (by decide) (fun c2 => ?_) (fun c2 => ?_)
  · have hw := itn c2 hw
    refine lv_aload_n hx hb dX5_pin_9 rfl (lv_at hl 0 rfl) ?_
    obtain ⟨fs3, v3, e3, f3, hw⟩ := hw
    refine kw_get (ci := 6) (C := RX5) (T := TX5) (N := 7) hx hb hts inlX5 hown hK hW e3 rfl 0 (by decide) (hts _ q_1_15) (fun _ h9 => h9) f3 dX5_pin_10 ?_
    refine lv_iload_n hx hb dX5_pin_13 rfl (lv_at hl 1 rfl) ?_
    obtain ⟨⟨fs4, e4⟩, hw⟩ := hw
    refine k_call (As := [.int a1]) (rest := []) (ci := 5) (cg_X4_placeOf l D ct a0 v3 a1 h _ hw) B hK hN hZ hA hW hS e4 rfl k_X4_placeOf q_12_19 rfl ⟨Nat.le_of_ble_eq_true rfl, Nat.le_of_ble_eq_true rfl⟩ ⟨Nat.le_of_ble_eq_true rfl, Nat.le_of_ble_eq_true rfl⟩ hl.1 rfl (Nat.le_of_ble_eq_true rfl) dX5_pin_14 (fun v4 h4 H locs hw hW hS => ?_)
    refine lv_istore_n (lv' := [(2, .int v4), (0, .ref this), (1, .int a1)]) hx hb dX5_pin_17 rfl hl (by decide) rfl (fun ls hl => ?_)
    refine lv_iload_n hx hb dX5_pin_18 rfl (lv_at hl 0 rfl) ?_
    refine lv_iconst (v := (-1 : Int32)) hx hb dX5_pin_19 (by decide) ?_
    refine lv_icmp_ne (tgt := 26) hx hb dX5_pin_20 (by decide) (fun c5 => ?_) (fun c5 => ?_)
    · have hw := itn c5 hw
      refine lv_aload_n hx hb dX5_pin_26 rfl (lv_at hl 1 rfl) ?_
      obtain ⟨⟨fs6, e6⟩, hw⟩ := hw
      refine k_call (As := []) (rest := []) (ci := 6) (cg_X5_remember l D ct a0 this h4 _ hw) B hK hN hZ hA hW hS e6 rfl k_X5_remember q_4_15 rfl ⟨Nat.le_of_ble_eq_true rfl, Nat.le_of_ble_eq_true rfl⟩ ⟨Nat.le_of_ble_eq_true rfl, Nat.le_of_ble_eq_true rfl⟩ hl.1 rfl (Nat.le_of_ble_eq_true rfl) dX5_pin_27 (fun v6 h6 H locs hw hW hS => ?_)
      refine lv_aload_n hx hb dX5_pin_30 rfl (lv_at hl 1 rfl) ?_
      obtain ⟨fs7, v7, e7, f7, hw⟩ := hw
      refine kw_get (ci := 6) (C := RX5) (T := TX5) (N := 7) hx hb hts inlX5 hown hK hW e7 rfl 0 (by decide) (hts _ q_1_15) (fun _ h9 => h9) f7 dX5_pin_31 ?_
      obtain ⟨fs8, v8, e8, f8, hw⟩ := hw
      refine kw_get (ci := 5) (C := RX4) (T := TX4) (N := 14) hx hb hts inlX4 hown hK hW e8 rfl 3 (by decide) (hts _ q_12_15) (fun _ h9 => h9) f8 dX5_pin_34 ?_
      refine lv_iload_n hx hb dX5_pin_37 rfl (lv_at hl 0 rfl) ?_
      obtain ⟨⟨fs9, e9⟩, hw⟩ := hw
      refine k_call (As := [.int v4]) (rest := []) (ci := 0) (cg_Jx4a65c_get_915e3 l D ct a0 v8 v4 h6 _ hw) B hK hN hZ hA hW hS e9 rfl k_Jx4a65c_get_915e3 q_12_23 rfl ⟨Nat.le_of_ble_eq_true rfl, Nat.le_of_ble_eq_true rfl⟩ ⟨Nat.le_of_ble_eq_true rfl, Nat.le_of_ble_eq_true rfl⟩ hl.1 rfl (Nat.le_of_ble_eq_true rfl) dX5_pin_38 (fun v9 h9 H locs hw hW hS => ?_)
      obtain ⟨⟨xa10, e10⟩, hw⟩ := hw
      refine kw_castO (ci := 1) hx hb hown (hts _ q_12_16) hK hW e10 rfl dX5_pin_41 ?_
      obtain ⟨fs11, v11, e11, f11, hw⟩ := hw
      refine kw_get (ci := 1) (C := RX0) (T := TX0) (N := 5) hx hb hts inlX0 hown hK hW e11 rfl 4 (by decide) (hts _ q_17_0) (fun _ h9 => h9) f11 dX5_pin_44 ?_
      refine lv_if_ne (tgt := 54) hx hb dX5_pin_47 (by decide) (fun c12 => ?_) (fun c12 => ?_)
      · have hw := itn c12 hw
        refine lv_iconst (v := (0 : Int32)) hx hb dX5_pin_54 (by decide) ?_
        refine W.widen (k := 19) (n := 147) (by omega) (by omega) ?_
        exact hJ55 v4 (0 : Int32) h9 _ _ _ hw hW hS (lv_sub hl [1, 0] rfl)
      · have hw := itp c12 hw
        refine lv_iconst (v := (1 : Int32)) hx hb dX5_pin_50 (by decide) ?_
        refine lv_goto (tgt := 55) hx hb dX5_pin_51 (by decide) ?_
        refine W.widen (k := 19) (n := 147) (by omega) (by omega) ?_
        exact hJ55 v4 (1 : Int32) h9 _ _ _ hw hW hS (lv_sub hl [1, 0] rfl)
    · have hw := itp c5 hw
      refine lv_bipush (v := (-2 : Int32)) hx hb dX5_pin_23 (by decide) ?_
      refine W.widen (k := 20) (n := 152) (by omega) (by omega) ?_
      exact hret _ _ _ _ (-2 : Int32) h4 (vp_nar_int _) dX5_pin_25 hw hW hS
  · have hw := itp c2 hw
    refine lv_iconst (v := (-1 : Int32)) hx hb dX5_pin_7 (by decide) ?_
    refine W.widen (k := 20) (n := 152) (by omega) (by omega) ?_
    exact hret _ _ _ _ (-1 : Int32) h (vp_nar_int _) dX5_pin_8 hw hW hS

def g_X5_forget (ct : Nat → ClassId) (a0 : Nat) (this : Nat) (a1 : Int32) (h : KH) (Post : Int32 → KH → Prop) : Prop :=
  (∃ q1, f_X5_isSet a1 = some q1 ∧ if q1 = (0 : Int32) then Post (-1 : Int32) h
  else rdR h this 6 0 (fun v3 => isO h v3 5 (g_X4_placeOf ct a0 v3 a1 h (fun v4 h4 => if v4 = (-1 : Int32) then Post (-2 : Int32) h4
  else isO h4 this 6 (g_X5_remember ct a0 this h4 (fun _ h6 => rdR h6 this 6 0 (fun v7 => rdL h6 v7 5 12 (fun v8 => wrF h6 v7 5 12 (.long (v8 + (1 : Int64))) (fun h9 => rdR h9 this 6 0 (fun v10 => rdR h9 v10 5 3 (fun v11 => isO h9 v11 0 (g_Jx4a65c_remove_915e3 ct a0 v11 v4 h9 (fun v12 h12 => isO h12 v12 1 (rdL h12 v12 1 3 (fun v14 => (∃ q15, f_X5_told v14 = some q15 ∧ Post q15 h12))))))))))))))))
set_option maxRecDepth 100000 in
set_option maxHeartbeats 4000000 in
theorem cg_X5_forget (l : Launch) (D : va_G) (ct : Nat → ClassId) (a0 : Nat) (this : Nat) (a1 : Int32) (h : KH) (Post : Int32 → KH → Prop) (hw : g_X5_forget ct a0 this a1 h Post) : CK l yX5_forget cX5_forget 3 7 19 147 (some .int) D ct a0 [.ref this, .int a1] vI h Post := by
  refine CK.mkI (by decide) (Nat.le_of_ble_eq_true rfl) ?_
  intro p e s m below meth c Q A X hret hW hS ls hl
  obtain ⟨B, hin, hK, hN, hZ, hA⟩ := X
  have B0 := B
  obtain ⟨hx, hb, hml, hown, hts⟩ := B0
  have hl : lv_has ls 3 [(0, .ref this), (1, .int a1)] := hl
  unfold g_X5_forget at hw
  refine lv_iload_n hx hb dX5_forget_0 rfl (lv_at hl 1 rfl) ?_
  obtain ⟨q1, e1, hw⟩ := hw
  refine s_call (As := [.int a1]) (rest := []) (c_X5_isSet l a1 q1 e1) B k_X5_isSet q_12_8 rfl ⟨Nat.le_of_ble_eq_true rfl, Nat.le_of_ble_eq_true rfl⟩ ⟨Nat.le_of_ble_eq_true rfl, Nat.le_of_ble_eq_true rfl⟩ hl.1 rfl (Nat.le_of_ble_eq_true rfl) dX5_forget_1 ?_
  refine lv_if_ne (tgt := 9) hx hb dX5_forget_4 (by decide) (fun c2 => ?_) (fun c2 => ?_)
  · have hw := itn c2 hw
    refine lv_aload_n hx hb dX5_forget_9 rfl (lv_at hl 0 rfl) ?_
    obtain ⟨fs3, v3, e3, f3, hw⟩ := hw
    refine kw_get (ci := 6) (C := RX5) (T := TX5) (N := 7) hx hb hts inlX5 hown hK hW e3 rfl 0 (by decide) (hts _ q_1_15) (fun _ h9 => h9) f3 dX5_forget_10 ?_
    refine lv_iload_n hx hb dX5_forget_13 rfl (lv_at hl 1 rfl) ?_
    obtain ⟨⟨fs4, e4⟩, hw⟩ := hw
    refine k_call (As := [.int a1]) (rest := []) (ci := 5) (cg_X4_placeOf l D ct a0 v3 a1 h _ hw) B hK hN hZ hA hW hS e4 rfl k_X4_placeOf q_12_19 rfl ⟨Nat.le_of_ble_eq_true rfl, Nat.le_of_ble_eq_true rfl⟩ ⟨Nat.le_of_ble_eq_true rfl, Nat.le_of_ble_eq_true rfl⟩ hl.1 rfl (Nat.le_of_ble_eq_true rfl) dX5_forget_14 (fun v4 h4 H locs hw hW hS => ?_)
    refine lv_istore_n (lv' := [(2, .int v4), (0, .ref this), (1, .int a1)]) hx hb dX5_forget_17 rfl hl (by decide) rfl (fun ls hl => ?_)
    refine lv_iload_n hx hb dX5_forget_18 rfl (lv_at hl 0 rfl) ?_
    refine lv_iconst (v := (-1 : Int32)) hx hb dX5_forget_19 (by decide) ?_
    refine lv_icmp_ne (tgt := 26) hx hb dX5_forget_20 (by decide) (fun c5 => ?_) (fun c5 => ?_)
    · have hw := itn c5 hw
      refine lv_aload_n hx hb dX5_forget_26 rfl (lv_at hl 1 rfl) ?_
      obtain ⟨⟨fs6, e6⟩, hw⟩ := hw
      refine k_call (As := []) (rest := []) (ci := 6) (cg_X5_remember l D ct a0 this h4 _ hw) B hK hN hZ hA hW hS e6 rfl k_X5_remember q_4_15 rfl ⟨Nat.le_of_ble_eq_true rfl, Nat.le_of_ble_eq_true rfl⟩ ⟨Nat.le_of_ble_eq_true rfl, Nat.le_of_ble_eq_true rfl⟩ hl.1 rfl (Nat.le_of_ble_eq_true rfl) dX5_forget_27 (fun v6 h6 H locs hw hW hS => ?_)
      refine lv_aload_n hx hb dX5_forget_30 rfl (lv_at hl 1 rfl) ?_
      obtain ⟨fs7, v7, e7, f7, hw⟩ := hw
      refine kw_get (ci := 6) (C := RX5) (T := TX5) (N := 7) hx hb hts inlX5 hown hK hW e7 rfl 0 (by decide) (hts _ q_1_15) (fun _ h9 => h9) f7 dX5_forget_31 ?_
      refine lv_dup hx hb dX5_forget_34 rfl ?_
      obtain ⟨fs8, v8, e8, f8, hw⟩ := hw
      refine kw_get (ci := 5) (C := RX4) (T := TX4) (N := 14) hx hb hts inlX4 hown hK hW e8 rfl 12 (by decide) (hts _ q_17_14) (fun _ h9 => h9) f8 dX5_forget_35 ?_
      refine lv_lconst (v := (1 : Int64)) hx hb dX5_forget_38 (by decide) ?_
      refine lv_ladd hx hb dX5_forget_39 ?_
      obtain ⟨fs9, e9, l9, hw⟩ := hw
      refine kw_put (ci := 5) (v := .long (v8 + (1 : Int64))) (ty := .long) (C := RX4) (T := TX4) (N := 14) hx hb hts inlX4 tyX4 tyX4_ok nmX4 hown hK hW hS e9 rfl 12 (by decide) (hts _ q_17_14) (fun _ h9 => h9) rfl  (by decide +kernel) rfl rfl l9 dX5_forget_40 (fun H locs h9 eh9 hW hS => ?_)
      have hw := hw h9 eh9
      refine lv_aload_n hx hb dX5_forget_43 rfl (lv_at hl 1 rfl) ?_
      obtain ⟨fs10, v10, e10, f10, hw⟩ := hw
      refine kw_get (ci := 6) (C := RX5) (T := TX5) (N := 7) hx hb hts inlX5 hown hK hW e10 rfl 0 (by decide) (hts _ q_1_15) (fun _ h9 => h9) f10 dX5_forget_44 ?_
      obtain ⟨fs11, v11, e11, f11, hw⟩ := hw
      refine kw_get (ci := 5) (C := RX4) (T := TX4) (N := 14) hx hb hts inlX4 hown hK hW e11 rfl 3 (by decide) (hts _ q_12_15) (fun _ h9 => h9) f11 dX5_forget_47 ?_
      refine lv_iload_n hx hb dX5_forget_50 rfl (lv_at hl 0 rfl) ?_
      obtain ⟨⟨fs12, e12⟩, hw⟩ := hw
      refine k_call (As := [.int v4]) (rest := []) (ci := 0) (cg_Jx4a65c_remove_915e3 l D ct a0 v11 v4 h9 _ hw) B hK hN hZ hA hW hS e12 rfl k_Jx4a65c_remove_915e3 q_8_11 rfl ⟨Nat.le_of_ble_eq_true rfl, Nat.le_of_ble_eq_true rfl⟩ ⟨Nat.le_of_ble_eq_true rfl, Nat.le_of_ble_eq_true rfl⟩ hl.1 rfl (Nat.le_of_ble_eq_true rfl) dX5_forget_51 (fun v12 h12 H locs hw hW hS => ?_)
      obtain ⟨⟨xa13, e13⟩, hw⟩ := hw
      refine kw_castO (ci := 1) hx hb hown (hts _ q_12_16) hK hW e13 rfl dX5_forget_54 ?_
      obtain ⟨fs14, v14, e14, f14, hw⟩ := hw
      refine kw_get (ci := 1) (C := RX0) (T := TX0) (N := 5) hx hb hts inlX0 hown hK hW e14 rfl 3 (by decide) (hts _ q_17_15) (fun _ h9 => h9) f14 dX5_forget_57 ?_
      obtain ⟨q15, e15, hw⟩ := hw
      refine s_call (As := [.long v14]) (rest := []) (c_X5_told l v14 q15 e15) B k_X5_told q_16_6 rfl ⟨Nat.le_of_ble_eq_true rfl, Nat.le_of_ble_eq_true rfl⟩ ⟨Nat.le_of_ble_eq_true rfl, Nat.le_of_ble_eq_true rfl⟩ hl.1 rfl (Nat.le_of_ble_eq_true rfl) dX5_forget_60 ?_
      refine W.widen (k := 19) (n := 147) (by omega) (by omega) ?_
      exact hret _ _ _ _ q15 h12 (vp_nar_int _) dX5_forget_63 hw hW hS
    · have hw := itp c5 hw
      refine lv_bipush (v := (-2 : Int32)) hx hb dX5_forget_23 (by decide) ?_
      refine W.widen (k := 19) (n := 147) (by omega) (by omega) ?_
      exact hret _ _ _ _ (-2 : Int32) h4 (vp_nar_int _) dX5_forget_25 hw hW hS
  · have hw := itp c2 hw
    refine lv_iconst (v := (-1 : Int32)) hx hb dX5_forget_7 (by decide) ?_
    refine W.widen (k := 19) (n := 147) (by omega) (by omega) ?_
    exact hret _ _ _ _ (-1 : Int32) h (vp_nar_int _) dX5_forget_8 hw hW hS

def g_X5_drift (ct : Nat → ClassId) (a0 : Nat) (this : Nat) (a1 : Int32) (h : KH) (Post : Int32 → KH → Prop) : Prop :=
  if a1 < (100 : Int32) then Post (-1 : Int32) h
  else if a1 ≤ (1000 : Int32) then isO h this 6 (g_X5_remember ct a0 this h (fun _ h3 => rdR h3 this 6 0 (fun v4 => wrF h3 v4 5 4 (.int a1) (fun h5 => rdR h5 this 6 0 (fun v6 => isO h5 v6 5 (g_X4_throwOutDrifted ct a0 v6 h5 (fun v7 h7 => Post v7 h7)))))))
  else Post (-1 : Int32) h
set_option maxRecDepth 100000 in
set_option maxHeartbeats 4000000 in
theorem cg_X5_drift (l : Launch) (D : va_G) (ct : Nat → ClassId) (a0 : Nat) (this : Nat) (a1 : Int32) (h : KH) (Post : Int32 → KH → Prop) (hw : g_X5_drift ct a0 this a1 h Post) : CK l yX5_drift cX5_drift 2 7 19 147 (some .int) D ct a0 [.ref this, .int a1] vI h Post := by
  refine CK.mkI (by decide) (Nat.le_of_ble_eq_true rfl) ?_
  intro p e s m below meth c Q A X hret hW hS ls hl
  obtain ⟨B, hin, hK, hN, hZ, hA⟩ := X
  have B0 := B
  obtain ⟨hx, hb, hml, hown, hts⟩ := B0
  have hl : lv_has ls 2 [(0, .ref this), (1, .int a1)] := hl
  unfold g_X5_drift at hw
  refine lv_iload_n hx hb dX5_drift_0 rfl (lv_at hl 1 rfl) ?_
  refine lv_bipush (v := (100 : Int32)) hx hb dX5_drift_1 (by decide) ?_
  refine lv_icmp_lt (tgt := 13) hx hb dX5_drift_3 (by decide) (fun c1 => ?_) (fun c1 => ?_)
  · have hw := itp c1 hw
    refine lv_iconst (v := (-1 : Int32)) hx hb dX5_drift_13 (by decide) ?_
    refine W.widen (k := 19) (n := 147) (by omega) (by omega) ?_
    exact hret _ _ _ _ (-1 : Int32) h (vp_nar_int _) dX5_drift_14 hw hW hS
  · have hw := itn c1 hw
    refine lv_iload_n hx hb dX5_drift_6 rfl (lv_at hl 1 rfl) ?_
    refine lv_sipush (v := (1000 : Int32)) hx hb dX5_drift_7 (by decide) ?_
    refine lv_icmp_le (tgt := 15) hx hb dX5_drift_10 (by decide) (fun c2 => ?_) (fun c2 => ?_)
    · have hw := itp c2 hw
      refine lv_aload_n hx hb dX5_drift_15 rfl (lv_at hl 0 rfl) ?_
      obtain ⟨⟨fs3, e3⟩, hw⟩ := hw
      refine k_call (As := []) (rest := []) (ci := 6) (cg_X5_remember l D ct a0 this h _ hw) B hK hN hZ hA hW hS e3 rfl k_X5_remember q_4_15 rfl ⟨Nat.le_of_ble_eq_true rfl, Nat.le_of_ble_eq_true rfl⟩ ⟨Nat.le_of_ble_eq_true rfl, Nat.le_of_ble_eq_true rfl⟩ hl.1 rfl (Nat.le_of_ble_eq_true rfl) dX5_drift_16 (fun v3 h3 H locs hw hW hS => ?_)
      refine lv_aload_n hx hb dX5_drift_19 rfl (lv_at hl 0 rfl) ?_
      obtain ⟨fs4, v4, e4, f4, hw⟩ := hw
      refine kw_get (ci := 6) (C := RX5) (T := TX5) (N := 7) hx hb hts inlX5 hown hK hW e4 rfl 0 (by decide) (hts _ q_1_15) (fun _ h9 => h9) f4 dX5_drift_20 ?_
      refine lv_iload_n hx hb dX5_drift_23 rfl (lv_at hl 1 rfl) ?_
      obtain ⟨fs5, e5, l5, hw⟩ := hw
      refine kw_put (ci := 5) (v := .int a1) (ty := .int) (C := RX4) (T := TX4) (N := 14) hx hb hts inlX4 tyX4 tyX4_ok nmX4 hown hK hW hS e5 rfl 4 (by decide) (hts _ q_17_20) (fun _ h9 => h9) rfl  (by decide +kernel) rfl rfl l5 dX5_drift_24 (fun H locs h5 eh5 hW hS => ?_)
      have hw := hw h5 eh5
      refine lv_aload_n hx hb dX5_drift_27 rfl (lv_at hl 0 rfl) ?_
      obtain ⟨fs6, v6, e6, f6, hw⟩ := hw
      refine kw_get (ci := 6) (C := RX5) (T := TX5) (N := 7) hx hb hts inlX5 hown hK hW e6 rfl 0 (by decide) (hts _ q_1_15) (fun _ h9 => h9) f6 dX5_drift_28 ?_
      obtain ⟨⟨fs7, e7⟩, hw⟩ := hw
      refine k_call (As := []) (rest := []) (ci := 5) (cg_X4_throwOutDrifted l D ct a0 v6 h5 _ hw) B hK hN hZ hA hW hS e7 rfl k_X4_throwOutDrifted q_17_9 rfl ⟨Nat.le_of_ble_eq_true rfl, Nat.le_of_ble_eq_true rfl⟩ ⟨Nat.le_of_ble_eq_true rfl, Nat.le_of_ble_eq_true rfl⟩ hl.1 rfl (Nat.le_of_ble_eq_true rfl) dX5_drift_31 (fun v7 h7 H locs hw hW hS => ?_)
      refine W.widen (k := 19) (n := 147) (by omega) (by omega) ?_
      exact hret _ _ _ _ v7 h7 (vp_nar_int _) dX5_drift_34 hw hW hS
    · have hw := itn c2 hw
      refine lv_iconst (v := (-1 : Int32)) hx hb dX5_drift_13 (by decide) ?_
      refine W.widen (k := 19) (n := 147) (by omega) (by omega) ?_
      exact hret _ _ _ _ (-1 : Int32) h (vp_nar_int _) dX5_drift_14 hw hW hS

def g_X5_table (ct : Nat → ClassId) (a0 : Nat) (this : Nat) (a1 : Int32) (a2 : Int32) (h : KH) (Post : Int32 → KH → Prop) : Prop :=
  (∃ q1, f_X5_isTable a1 = some q1 ∧ if q1 = (0 : Int32) then Post (-1 : Int32) h
  else if a2 = (0 : Int32) then rdR h this 6 0 (fun v4 => rdR h v4 5 0 (fun v5 => ldI h v5 a1 (ct 0) (fun v6 => Post v6 h)))
  else if a2 = (1 : Int32) then rdR h this 6 0 (fun v8 => rdR h v8 5 1 (fun v9 => ldI h v9 a1 (ct 0) (fun v10 => Post v10 h)))
  else if a2 = (2 : Int32) then rdR h this 6 0 (fun v12 => rdR h v12 5 0 (fun v13 => ldI h v13 a1 (ct 0) (fun v14 => rdR h this 6 0 (fun v15 => rdR h v15 5 1 (fun v16 => ldI h v16 a1 (ct 0) (fun v17 => (∃ q18, f_X5_driftDown v14 v17 = some q18 ∧ Post q18 h)))))))
  else if a2 = (3 : Int32) then rdR h this 6 0 (fun v20 => (∃ q21, f_X5_bit a1 = some q21 ∧ isO h v20 5 (g_X4_keptWith ct a0 v20 q21 h (fun v22 h22 => Post v22 h22))))
  else Post (-1 : Int32) h)
set_option maxRecDepth 100000 in
set_option maxHeartbeats 4000000 in
theorem cg_X5_table (l : Launch) (D : va_G) (ct : Nat → ClassId) (a0 : Nat) (this : Nat) (a1 : Int32) (a2 : Int32) (h : KH) (Post : Int32 → KH → Prop) (hw : g_X5_table ct a0 this a1 a2 h Post) : CK l yX5_table cX5_table 3 4 0 0 (some .int) D ct a0 [.ref this, .int a1, .int a2] vI h Post := by
  refine CK.mkI (by decide) (Nat.le_of_ble_eq_true rfl) ?_
  intro p e s m below meth c Q A X hret hW hS ls hl
  obtain ⟨B, hin, hK, hN, hZ, hA⟩ := X
  have B0 := B
  obtain ⟨hx, hb, hml, hown, hts⟩ := B0
  have hl : lv_has ls 3 [(0, .ref this), (1, .int a1), (2, .int a2)] := hl
  unfold g_X5_table at hw
  refine lv_iload_n hx hb dX5_table_0 rfl (lv_at hl 1 rfl) ?_
  obtain ⟨q1, e1, hw⟩ := hw
  refine s_call (As := [.int a1]) (rest := []) (c_X5_isTable l a1 q1 e1) B k_X5_isTable q_4_12 rfl ⟨Nat.le_of_ble_eq_true rfl, Nat.le_of_ble_eq_true rfl⟩ ⟨Nat.le_of_ble_eq_true rfl, Nat.le_of_ble_eq_true rfl⟩ hl.1 rfl (Nat.le_of_ble_eq_true rfl) dX5_table_1 ?_
  refine lv_if_ne (tgt := 9) hx hb dX5_table_4 (by decide) (fun c2 => ?_) (fun c2 => ?_)
  · have hw := itn c2 hw
    refine lv_iload_n hx hb dX5_table_9 rfl (lv_at hl 2 rfl) ?_
    by_cases c3 : a2 = (0 : Int32)
    · have hw := itp c3 hw
      refine lv_tableIn (off := 30) (tgt := 40) hx hb dX5_table_10 (by rw [c3]; decide) (by rw [c3]; decide) (by rw [c3]; rfl) (by decide) ?_
      refine lv_aload_n hx hb dX5_table_40 rfl (lv_at hl 0 rfl) ?_
      obtain ⟨fs4, v4, e4, f4, hw⟩ := hw
      refine kw_get (ci := 6) (C := RX5) (T := TX5) (N := 7) hx hb hts inlX5 hown hK hW e4 rfl 0 (by decide) (hts _ q_1_15) (fun _ h9 => h9) f4 dX5_table_41 ?_
      obtain ⟨fs5, v5, e5, f5, hw⟩ := hw
      refine kw_get (ci := 5) (C := RX4) (T := TX4) (N := 14) hx hb hts inlX4 hown hK hW e5 rfl 0 (by decide) (hts _ q_4_11) (fun _ h9 => h9) f5 dX5_table_44 ?_
      refine lv_iload_n hx hb dX5_table_47 rfl (lv_at hl 1 rfl) ?_
      obtain ⟨n6, f6, v6, e6, g6, ev6, hw⟩ := hw
      refine kw_iald hx hb hK hW 0 e6 rfl g6 ev6 dX5_table_48 ?_
      exact hret _ _ _ _ v6 h (vp_nar_int _) dX5_table_49 hw hW hS
    · have hw := itn c3 hw
      by_cases c7 : a2 = (1 : Int32)
      · have hw := itp c7 hw
        refine lv_tableIn (off := 40) (tgt := 50) hx hb dX5_table_10 (by rw [c7]; decide) (by rw [c7]; decide) (by rw [c7]; rfl) (by decide) ?_
        refine lv_aload_n hx hb dX5_table_50 rfl (lv_at hl 0 rfl) ?_
        obtain ⟨fs8, v8, e8, f8, hw⟩ := hw
        refine kw_get (ci := 6) (C := RX5) (T := TX5) (N := 7) hx hb hts inlX5 hown hK hW e8 rfl 0 (by decide) (hts _ q_1_15) (fun _ h9 => h9) f8 dX5_table_51 ?_
        obtain ⟨fs9, v9, e9, f9, hw⟩ := hw
        refine kw_get (ci := 5) (C := RX4) (T := TX4) (N := 14) hx hb hts inlX4 hown hK hW e9 rfl 1 (by decide) (hts _ q_13_22) (fun _ h9 => h9) f9 dX5_table_54 ?_
        refine lv_iload_n hx hb dX5_table_57 rfl (lv_at hl 1 rfl) ?_
        obtain ⟨n10, f10, v10, e10, g10, ev10, hw⟩ := hw
        refine kw_iald hx hb hK hW 0 e10 rfl g10 ev10 dX5_table_58 ?_
        exact hret _ _ _ _ v10 h (vp_nar_int _) dX5_table_59 hw hW hS
      · have hw := itn c7 hw
        by_cases c11 : a2 = (2 : Int32)
        · have hw := itp c11 hw
          refine lv_tableIn (off := 50) (tgt := 60) hx hb dX5_table_10 (by rw [c11]; decide) (by rw [c11]; decide) (by rw [c11]; rfl) (by decide) ?_
          refine lv_aload_n hx hb dX5_table_60 rfl (lv_at hl 0 rfl) ?_
          obtain ⟨fs12, v12, e12, f12, hw⟩ := hw
          refine kw_get (ci := 6) (C := RX5) (T := TX5) (N := 7) hx hb hts inlX5 hown hK hW e12 rfl 0 (by decide) (hts _ q_1_15) (fun _ h9 => h9) f12 dX5_table_61 ?_
          obtain ⟨fs13, v13, e13, f13, hw⟩ := hw
          refine kw_get (ci := 5) (C := RX4) (T := TX4) (N := 14) hx hb hts inlX4 hown hK hW e13 rfl 0 (by decide) (hts _ q_4_11) (fun _ h9 => h9) f13 dX5_table_64 ?_
          refine lv_iload_n hx hb dX5_table_67 rfl (lv_at hl 1 rfl) ?_
          obtain ⟨n14, f14, v14, e14, g14, ev14, hw⟩ := hw
          refine kw_iald hx hb hK hW 0 e14 rfl g14 ev14 dX5_table_68 ?_
          refine lv_aload_n hx hb dX5_table_69 rfl (lv_at hl 0 rfl) ?_
          obtain ⟨fs15, v15, e15, f15, hw⟩ := hw
          refine kw_get (ci := 6) (C := RX5) (T := TX5) (N := 7) hx hb hts inlX5 hown hK hW e15 rfl 0 (by decide) (hts _ q_1_15) (fun _ h9 => h9) f15 dX5_table_70 ?_
          obtain ⟨fs16, v16, e16, f16, hw⟩ := hw
          refine kw_get (ci := 5) (C := RX4) (T := TX4) (N := 14) hx hb hts inlX4 hown hK hW e16 rfl 1 (by decide) (hts _ q_13_22) (fun _ h9 => h9) f16 dX5_table_73 ?_
          refine lv_iload_n hx hb dX5_table_76 rfl (lv_at hl 1 rfl) ?_
          obtain ⟨n17, f17, v17, e17, g17, ev17, hw⟩ := hw
          refine kw_iald hx hb hK hW 0 e17 rfl g17 ev17 dX5_table_77 ?_
          obtain ⟨q18, e18, hw⟩ := hw
          refine s_call (As := [.int v14, .int v17]) (rest := []) (c_X5_driftDown l v14 v17 q18 e18) B k_X5_driftDown q_19_20 rfl ⟨Nat.le_of_ble_eq_true rfl, Nat.le_of_ble_eq_true rfl⟩ ⟨Nat.le_of_ble_eq_true rfl, Nat.le_of_ble_eq_true rfl⟩ hl.1 rfl (Nat.le_of_ble_eq_true rfl) dX5_table_78 ?_
          exact hret _ _ _ _ q18 h (vp_nar_int _) dX5_table_81 hw hW hS
        · have hw := itn c11 hw
          by_cases c19 : a2 = (3 : Int32)
          · have hw := itp c19 hw
            refine lv_tableIn (off := 72) (tgt := 82) hx hb dX5_table_10 (by rw [c19]; decide) (by rw [c19]; decide) (by rw [c19]; rfl) (by decide) ?_
            refine lv_aload_n hx hb dX5_table_82 rfl (lv_at hl 0 rfl) ?_
            obtain ⟨fs20, v20, e20, f20, hw⟩ := hw
            refine kw_get (ci := 6) (C := RX5) (T := TX5) (N := 7) hx hb hts inlX5 hown hK hW e20 rfl 0 (by decide) (hts _ q_1_15) (fun _ h9 => h9) f20 dX5_table_83 ?_
            refine lv_iload_n hx hb dX5_table_86 rfl (lv_at hl 1 rfl) ?_
            obtain ⟨q21, e21, hw⟩ := hw
            refine s_call (As := [.int a1]) (rest := [.ref v20]) (c_X5_bit l a1 q21 e21) B k_X5_bit q_9_7 rfl ⟨Nat.le_of_ble_eq_true rfl, Nat.le_of_ble_eq_true rfl⟩ ⟨Nat.le_of_ble_eq_true rfl, Nat.le_of_ble_eq_true rfl⟩ hl.1 rfl (Nat.le_of_ble_eq_true rfl) dX5_table_87 ?_
            obtain ⟨⟨fs22, e22⟩, hw⟩ := hw
            refine k_call (As := [.int q21]) (rest := []) (ci := 5) (cg_X4_keptWith l D ct a0 v20 q21 h _ hw) B hK hN hZ hA hW hS e22 rfl k_X4_keptWith q_20_1 rfl ⟨Nat.le_of_ble_eq_true rfl, Nat.le_of_ble_eq_true rfl⟩ ⟨Nat.le_of_ble_eq_true rfl, Nat.le_of_ble_eq_true rfl⟩ hl.1 rfl (Nat.le_of_ble_eq_true rfl) dX5_table_90 (fun v22 h22 H locs hw hW hS => ?_)
            refine W.widen (k := 0) (n := 0) (by omega) (by omega) ?_
            exact hret _ _ _ _ v22 h22 (vp_nar_int _) dX5_table_93 hw hW hS
          · have hw := itn c19 hw
            have n3 := lv_neT (k := (0 : Int32)) (a := 0) c3 (by decide)
            have n7 := lv_neT (k := (1 : Int32)) (a := 1) c7 (by decide)
            have n11 := lv_neT (k := (2 : Int32)) (a := 2) c11 (by decide)
            have n19 := lv_neT (k := (3 : Int32)) (a := 3) c19 (by decide)
            refine lv_tableOut (tgt := 94) hx hb dX5_table_10 (by omega) (by decide) ?_
            refine lv_iconst (v := (-1 : Int32)) hx hb dX5_table_94 (by decide) ?_
            exact hret _ _ _ _ (-1 : Int32) h (vp_nar_int _) dX5_table_95 hw hW hS
  · have hw := itp c2 hw
    refine lv_iconst (v := (-1 : Int32)) hx hb dX5_table_7 (by decide) ?_
    exact hret _ _ _ _ (-1 : Int32) h (vp_nar_int _) dX5_table_8 hw hW hS

def g_X5_partOf (ct : Nat → ClassId) (a0 : Nat) (this : Nat) (a1 : Int32) (a2 : Int32) (h : KH) (Post : Int32 → KH → Prop) : Prop :=
  (∃ q1, f_X5_isJoin a1 a2 = some q1 ∧ if q1 = (0 : Int32) then Post (-1 : Int32) h
  else rdR h this 6 0 (fun v3 => rdR h v3 5 2 (fun v4 => ldR h v4 a1 (ct 4) (fun v5 => ldI h v5 a2 (ct 0) (fun v6 => Post v6 h)))))
set_option maxRecDepth 100000 in
set_option maxHeartbeats 4000000 in
theorem cg_X5_partOf (l : Launch) (D : va_G) (ct : Nat → ClassId) (a0 : Nat) (this : Nat) (a1 : Int32) (a2 : Int32) (h : KH) (Post : Int32 → KH → Prop) (hw : g_X5_partOf ct a0 this a1 a2 h Post) : CK l yX5_partOf cX5_partOf 3 2 0 0 (some .int) D ct a0 [.ref this, .int a1, .int a2] vI h Post := by
  refine CK.mkI (by decide) (Nat.le_of_ble_eq_true rfl) ?_
  intro p e s m below meth c Q A X hret hW hS ls hl
  obtain ⟨B, hin, hK, hN, hZ, hA⟩ := X
  have B0 := B
  obtain ⟨hx, hb, hml, hown, hts⟩ := B0
  have hl : lv_has ls 3 [(0, .ref this), (1, .int a1), (2, .int a2)] := hl
  unfold g_X5_partOf at hw
  refine lv_iload_n hx hb dX5_partOf_0 rfl (lv_at hl 1 rfl) ?_
  refine lv_iload_n hx hb dX5_partOf_1 rfl (lv_at hl 2 rfl) ?_
  obtain ⟨q1, e1, hw⟩ := hw
  refine s_call (As := [.int a1, .int a2]) (rest := []) (c_X5_isJoin l a1 a2 q1 e1) B k_X5_isJoin q_9_4 rfl ⟨Nat.le_of_ble_eq_true rfl, Nat.le_of_ble_eq_true rfl⟩ ⟨Nat.le_of_ble_eq_true rfl, Nat.le_of_ble_eq_true rfl⟩ hl.1 rfl (Nat.le_of_ble_eq_true rfl) dX5_partOf_2 ?_
  refine lv_if_eq (tgt := 22) hx hb dX5_partOf_5 (by decide) (fun c2 => ?_) (fun c2 => ?_)
  · have hw := itp c2 hw
    refine lv_iconst (v := (-1 : Int32)) hx hb dX5_partOf_22 (by decide) ?_
    exact hret _ _ _ _ (-1 : Int32) h (vp_nar_int _) dX5_partOf_23 hw hW hS
  · have hw := itn c2 hw
    refine lv_aload_n hx hb dX5_partOf_8 rfl (lv_at hl 0 rfl) ?_
    obtain ⟨fs3, v3, e3, f3, hw⟩ := hw
    refine kw_get (ci := 6) (C := RX5) (T := TX5) (N := 7) hx hb hts inlX5 hown hK hW e3 rfl 0 (by decide) (hts _ q_1_15) (fun _ h9 => h9) f3 dX5_partOf_9 ?_
    obtain ⟨fs4, v4, e4, f4, hw⟩ := hw
    refine kw_get (ci := 5) (C := RX4) (T := TX4) (N := 14) hx hb hts inlX4 hown hK hW e4 rfl 2 (by decide) (hts _ q_9_3) (fun _ h9 => h9) f4 dX5_partOf_12 ?_
    refine lv_iload_n hx hb dX5_partOf_15 rfl (lv_at hl 1 rfl) ?_
    obtain ⟨n5, f5, v5, e5, g5, ev5, hw⟩ := hw
    refine kw_gald hx hb hK hW 4 e5 rfl g5 ev5 dX5_partOf_16 ?_
    refine lv_iload_n hx hb dX5_partOf_17 rfl (lv_at hl 2 rfl) ?_
    obtain ⟨n6, f6, v6, e6, g6, ev6, hw⟩ := hw
    refine kw_iald hx hb hK hW 0 e6 rfl g6 ev6 dX5_partOf_18 ?_
    refine lv_goto (tgt := 23) hx hb dX5_partOf_19 (by decide) ?_
    exact hret _ _ _ _ v6 h (vp_nar_int _) dX5_partOf_23 hw hW hS

def g_X5_size (ct : Nat → ClassId) (a0 : Nat) (this : Nat) (a1 : Int32) (a2 : Int32) (h : KH) (Post : Int32 → KH → Prop) : Prop :=
  (∃ q1, f_X5_isSet a1 = some q1 ∧ if q1 = (0 : Int32) then Post (-1 : Int32) h
  else isO h this 6 (g_X5_reckoned ct a0 this a2 h (fun v3 h3 => (∃ (o4 : Nat → Nat) (k_products_4 : Nat → Int64) (k_leastCosts_4 : Nat → Int64) (k_bestOrders_4 : Nat → Int32) (q4 : Int64), (o4 0 = v3) ∧ inW h3 (QW o4 ct k_products_4 k_leastCosts_4 k_bestOrders_4) ∧ f_X3_sizeOf a1 k_products_4 = some q4 ∧ (∃ q5, f_X5_told q4 = some q5 ∧ Post q5 h3)))))
set_option maxRecDepth 100000 in
set_option maxHeartbeats 4000000 in
theorem cg_X5_size (l : Launch) (D : va_G) (ct : Nat → ClassId) (a0 : Nat) (this : Nat) (a1 : Int32) (a2 : Int32) (h : KH) (Post : Int32 → KH → Prop) (hw : g_X5_size ct a0 this a1 a2 h Post) : CK l yX5_size cX5_size 3 4 0 0 (some .int) D ct a0 [.ref this, .int a1, .int a2] vI h Post := by
  refine CK.mkI (by decide) (Nat.le_of_ble_eq_true rfl) ?_
  intro p e s m below meth c Q A X hret hW hS ls hl
  obtain ⟨B, hin, hK, hN, hZ, hA⟩ := X
  have B0 := B
  obtain ⟨hx, hb, hml, hown, hts⟩ := B0
  have hl : lv_has ls 3 [(0, .ref this), (1, .int a1), (2, .int a2)] := hl
  unfold g_X5_size at hw
  refine lv_iload_n hx hb dX5_size_0 rfl (lv_at hl 1 rfl) ?_
  obtain ⟨q1, e1, hw⟩ := hw
  refine s_call (As := [.int a1]) (rest := []) (c_X5_isSet l a1 q1 e1) B k_X5_isSet q_12_8 rfl ⟨Nat.le_of_ble_eq_true rfl, Nat.le_of_ble_eq_true rfl⟩ ⟨Nat.le_of_ble_eq_true rfl, Nat.le_of_ble_eq_true rfl⟩ hl.1 rfl (Nat.le_of_ble_eq_true rfl) dX5_size_1 ?_
  refine lv_if_eq (tgt := 22) hx hb dX5_size_4 (by decide) (fun c2 => ?_) (fun c2 => ?_)
  · have hw := itp c2 hw
    refine lv_iconst (v := (-1 : Int32)) hx hb dX5_size_22 (by decide) ?_
    exact hret _ _ _ _ (-1 : Int32) h (vp_nar_int _) dX5_size_23 hw hW hS
  · have hw := itn c2 hw
    refine lv_aload_n hx hb dX5_size_7 rfl (lv_at hl 0 rfl) ?_
    refine lv_iload_n hx hb dX5_size_8 rfl (lv_at hl 2 rfl) ?_
    obtain ⟨⟨fs3, e3⟩, hw⟩ := hw
    refine k_call (As := [.int a2]) (rest := []) (ci := 6) (cg_X5_reckoned l D ct a0 this a2 h _ hw) B hK hN hZ hA hW hS e3 rfl k_X5_reckoned q_13_18 rfl ⟨Nat.le_of_ble_eq_true rfl, Nat.le_of_ble_eq_true rfl⟩ ⟨Nat.le_of_ble_eq_true rfl, Nat.le_of_ble_eq_true rfl⟩ hl.1 rfl (Nat.le_of_ble_eq_true rfl) dX5_size_9 (fun v3 h3 H locs hw hW hS => ?_)
    refine lv_iload_n hx hb dX5_size_12 rfl (lv_at hl 1 rfl) ?_
    obtain ⟨o4, k_products_4, k_leastCosts_4, k_bestOrders_4, q4, eo4_0, iw4, e4, hw⟩ := hw
    refine W.eq (g2 := F0 m 13 ls [.int a1, .ref (o4 0)]) (by first | (rw [eo4_0]; done) | (rw [eo4_0]; rfl)) ?_
    refine kf_call (As := [.int a1]) (rest := []) (c_X3_sizeOf l D o4 ct a1 k_products_4 k_leastCosts_4 k_bestOrders_4 q4 e4) B hK hN hA hW hS iw4 rfl (iw4.1 _ _ (List.mem_of_getElem? (i := 0) rfl)) (ci := 4) rfl k_X3_sizeOf q_20_20 rfl ⟨Nat.le_of_ble_eq_true rfl, Nat.le_of_ble_eq_true rfl⟩ ⟨Nat.le_of_ble_eq_true rfl, Nat.le_of_ble_eq_true rfl⟩ hl.1 rfl (Nat.le_of_ble_eq_true rfl) dX5_size_13 (fun h4 H locs eh4 hW hS => ?_)
    rw [hupw_same iw4] at eh4
    rw [eh4] at hW
    obtain ⟨q5, e5, hw⟩ := hw
    refine s_call (As := [.long q4]) (rest := []) (c_X5_told l q4 q5 e5) B k_X5_told q_16_6 rfl ⟨Nat.le_of_ble_eq_true rfl, Nat.le_of_ble_eq_true rfl⟩ ⟨Nat.le_of_ble_eq_true rfl, Nat.le_of_ble_eq_true rfl⟩ hl.1 rfl (Nat.le_of_ble_eq_true rfl) dX5_size_16 ?_
    refine lv_goto (tgt := 23) hx hb dX5_size_19 (by decide) ?_
    refine W.widen (k := 0) (n := 0) (by omega) (by omega) ?_
    exact hret _ _ _ _ q5 h3 (vp_nar_int _) dX5_size_23 hw hW hS

def g_X5_least (ct : Nat → ClassId) (a0 : Nat) (this : Nat) (a1 : Int32) (a2 : Int32) (a3 : Int32) (h : KH) (Post : Int32 → KH → Prop) : Prop :=
  (∃ q1, f_X5_isSet a1 = some q1 ∧ if q1 = (0 : Int32) then Post (-1 : Int32) h
  else if a3 < (0 : Int32) then Post (-1 : Int32) h
  else if a3 ≤ (1 : Int32) then isO h this 6 (g_X5_reckoned ct a0 this a2 h (fun v5 h5 => if a3 = (0 : Int32) then (∃ (o9 : Nat → Nat) (k_products_9 : Nat → Int64) (k_leastCosts_9 : Nat → Int64) (k_bestOrders_9 : Nat → Int32) (q9 : Int64), (o9 0 = v5) ∧ inW h5 (QW o9 ct k_products_9 k_leastCosts_9 k_bestOrders_9) ∧ f_X3_leastByOrders a1 k_products_9 = some q9 ∧ (∃ q10, f_X5_told q9 = some q10 ∧ Post q10 h5))
  else (∃ (o7 : Nat → Nat) (k_products_7 : Nat → Int64) (k_leastCosts_7 : Nat → Int64) (k_bestOrders_7 : Nat → Int32) (q7 : Int64), (o7 0 = v5) ∧ inW h5 (QW o7 ct k_products_7 k_leastCosts_7 k_bestOrders_7) ∧ f_X3_leastBySets a1 k_leastCosts_7 = some q7 ∧ (∃ q8, f_X5_told q7 = some q8 ∧ Post q8 h5))))
  else Post (-1 : Int32) h)
set_option maxRecDepth 100000 in
set_option maxHeartbeats 4000000 in
theorem cg_X5_least (l : Launch) (D : va_G) (ct : Nat → ClassId) (a0 : Nat) (this : Nat) (a1 : Int32) (a2 : Int32) (a3 : Int32) (h : KH) (Post : Int32 → KH → Prop) (hw : g_X5_least ct a0 this a1 a2 a3 h Post) : CK l yX5_least cX5_least 5 10 0 0 (some .int) D ct a0 [.ref this, .int a1, .int a2, .int a3] vI h Post := by
  refine CK.mkI (by decide) (Nat.le_of_ble_eq_true rfl) ?_
  intro p e s m below meth c Q A X hret hW hS ls hl
  obtain ⟨B, hin, hK, hN, hZ, hA⟩ := X
  have B0 := B
  obtain ⟨hx, hb, hml, hown, hts⟩ := B0
  have hl : lv_has ls 5 [(0, .ref this), (1, .int a1), (2, .int a2), (3, .int a3)] := hl
  unfold g_X5_least at hw
  refine lv_iload_n hx hb dX5_least_0 rfl (lv_at hl 1 rfl) ?_
  obtain ⟨q1, e1, hw⟩ := hw
  refine s_call (As := [.int a1]) (rest := []) (c_X5_isSet l a1 q1 e1) B k_X5_isSet q_12_8 rfl ⟨Nat.le_of_ble_eq_true rfl, Nat.le_of_ble_eq_true rfl⟩ ⟨Nat.le_of_ble_eq_true rfl, Nat.le_of_ble_eq_true rfl⟩ hl.1 rfl (Nat.le_of_ble_eq_true rfl) dX5_least_1 ?_
  refine lv_if_eq (tgt := 16) hx hb dX5_least_4 (by decide) (fun c2 => ?_) (fun c2 => ?_)
  · have hw := itp c2 hw
    refine lv_iconst (v := (-1 : Int32)) hx hb dX5_least_16 (by decide) ?_
    exact hret _ _ _ _ (-1 : Int32) h (vp_nar_int _) dX5_least_17 hw hW hS
  · have hw := itn c2 hw
    refine lv_iload_n hx hb dX5_least_7 rfl (lv_at hl 3 rfl) ?_
    refine lv_if_lt (tgt := 16) hx hb dX5_least_8 (by decide) (fun c3 => ?_) (fun c3 => ?_)
    · have hw := itp c3 hw
      refine lv_iconst (v := (-1 : Int32)) hx hb dX5_least_16 (by decide) ?_
      exact hret _ _ _ _ (-1 : Int32) h (vp_nar_int _) dX5_least_17 hw hW hS
    · have hw := itn c3 hw
      refine lv_iload_n hx hb dX5_least_11 rfl (lv_at hl 3 rfl) ?_
      refine lv_iconst (v := (1 : Int32)) hx hb dX5_least_12 (by decide) ?_
      refine lv_icmp_le (tgt := 18) hx hb dX5_least_13 (by decide) (fun c4 => ?_) (fun c4 => ?_)
      · have hw := itp c4 hw
        refine lv_aload_n hx hb dX5_least_18 rfl (lv_at hl 0 rfl) ?_
        refine lv_iload_n hx hb dX5_least_19 rfl (lv_at hl 2 rfl) ?_
        obtain ⟨⟨fs5, e5⟩, hw⟩ := hw
        refine k_call (As := [.int a2]) (rest := []) (ci := 6) (cg_X5_reckoned l D ct a0 this a2 h _ hw) B hK hN hZ hA hW hS e5 rfl k_X5_reckoned q_13_18 rfl ⟨Nat.le_of_ble_eq_true rfl, Nat.le_of_ble_eq_true rfl⟩ ⟨Nat.le_of_ble_eq_true rfl, Nat.le_of_ble_eq_true rfl⟩ hl.1 rfl (Nat.le_of_ble_eq_true rfl) dX5_least_20 (fun v5 h5 H locs hw hW hS => ?_)
        refine lv_astore (lv' := [(4, .ref v5), (0, .ref this), (1, .int a1), (2, .int a2), (3, .int a3)]) hx hb dX5_least_23 hl (by decide) rfl (fun ls hl => ?_)
        refine lv_iload_n hx hb dX5_least_25 rfl (lv_at hl 4 rfl) ?_
        refine lv_if_ne (tgt := 38) hx hb dX5_least_26 (by decide) (fun c6 => ?_) (fun c6 => ?_)
        · have hw := itn c6 hw
          refine lv_aload hx hb dX5_least_38 (lv_at hl 0 rfl) ?_
          refine lv_iload_n hx hb dX5_least_40 rfl (lv_at hl 2 rfl) ?_
          obtain ⟨o7, k_products_7, k_leastCosts_7, k_bestOrders_7, q7, eo7_0, iw7, e7, hw⟩ := hw
          refine W.eq (g2 := F0 m 41 ls [.int a1, .ref (o7 0)]) (by first | (rw [eo7_0]; done) | (rw [eo7_0]; rfl)) ?_
          refine kf_call (As := [.int a1]) (rest := []) (c_X3_leastBySets l D o7 ct a1 k_products_7 k_leastCosts_7 k_bestOrders_7 q7 e7) B hK hN hA hW hS iw7 rfl (iw7.1 _ _ (List.mem_of_getElem? (i := 0) rfl)) (ci := 4) rfl k_X3_leastBySets q_19_12 rfl ⟨Nat.le_of_ble_eq_true rfl, Nat.le_of_ble_eq_true rfl⟩ ⟨Nat.le_of_ble_eq_true rfl, Nat.le_of_ble_eq_true rfl⟩ hl.1 rfl (Nat.le_of_ble_eq_true rfl) dX5_least_41 (fun h7 H locs eh7 hW hS => ?_)
          rw [hupw_same iw7] at eh7
          rw [eh7] at hW
          obtain ⟨q8, e8, hw⟩ := hw
          refine s_call (As := [.long q7]) (rest := []) (c_X5_told l q7 q8 e8) B k_X5_told q_16_6 rfl ⟨Nat.le_of_ble_eq_true rfl, Nat.le_of_ble_eq_true rfl⟩ ⟨Nat.le_of_ble_eq_true rfl, Nat.le_of_ble_eq_true rfl⟩ hl.1 rfl (Nat.le_of_ble_eq_true rfl) dX5_least_44 ?_
          refine W.widen (k := 0) (n := 0) (by omega) (by omega) ?_
          exact hret _ _ _ _ q8 h5 (vp_nar_int _) dX5_least_47 hw hW hS
        · have hw := itp c6 hw
          refine lv_aload hx hb dX5_least_29 (lv_at hl 0 rfl) ?_
          refine lv_iload_n hx hb dX5_least_31 rfl (lv_at hl 2 rfl) ?_
          obtain ⟨o9, k_products_9, k_leastCosts_9, k_bestOrders_9, q9, eo9_0, iw9, e9, hw⟩ := hw
          refine W.eq (g2 := F0 m 32 ls [.int a1, .ref (o9 0)]) (by first | (rw [eo9_0]; done) | (rw [eo9_0]; rfl)) ?_
          refine kf_call (As := [.int a1]) (rest := []) (c_X3_leastByOrders l D o9 ct a1 k_products_9 k_leastCosts_9 k_bestOrders_9 q9 e9) B hK hN hA hW hS iw9 rfl (iw9.1 _ _ (List.mem_of_getElem? (i := 0) rfl)) (ci := 4) rfl k_X3_leastByOrders q_21_1 rfl ⟨Nat.le_of_ble_eq_true rfl, Nat.le_of_ble_eq_true rfl⟩ ⟨Nat.le_of_ble_eq_true rfl, Nat.le_of_ble_eq_true rfl⟩ hl.1 rfl (Nat.le_of_ble_eq_true rfl) dX5_least_32 (fun h9 H locs eh9 hW hS => ?_)
          rw [hupw_same iw9] at eh9
          rw [eh9] at hW
          refine lv_goto (tgt := 44) hx hb dX5_least_35 (by decide) ?_
          obtain ⟨q10, e10, hw⟩ := hw
          refine s_call (As := [.long q9]) (rest := []) (c_X5_told l q9 q10 e10) B k_X5_told q_16_6 rfl ⟨Nat.le_of_ble_eq_true rfl, Nat.le_of_ble_eq_true rfl⟩ ⟨Nat.le_of_ble_eq_true rfl, Nat.le_of_ble_eq_true rfl⟩ hl.1 rfl (Nat.le_of_ble_eq_true rfl) dX5_least_44 ?_
          refine W.widen (k := 0) (n := 0) (by omega) (by omega) ?_
          exact hret _ _ _ _ q10 h5 (vp_nar_int _) dX5_least_47 hw hW hS
      · have hw := itn c4 hw
        refine lv_iconst (v := (-1 : Int32)) hx hb dX5_least_16 (by decide) ?_
        exact hret _ _ _ _ (-1 : Int32) h (vp_nar_int _) dX5_least_17 hw hW hS

def g_X5_best (ct : Nat → ClassId) (a0 : Nat) (this : Nat) (a1 : Int32) (a2 : Int32) (a3 : Int32) (h : KH) (Post : Int32 → KH → Prop) : Prop :=
  (∃ q1, f_X5_isSet a1 = some q1 ∧ if q1 = (0 : Int32) then Post (-1 : Int32) h
  else if (0 : Int32) ≤ a3 then (∃ q4, f_J6_bitCount_0f7a4 a1 = some q4 ∧ if q4 ≤ a3 then Post (-4 : Int32) h
  else isO h this 6 (g_X5_reckoned ct a0 this a2 h (fun v6 h6 => (∃ (o7 : Nat → Nat) (k_products_7 : Nat → Int64) (k_leastCosts_7 : Nat → Int64) (k_bestOrders_7 : Nat → Int32) (q7 : Int32), (o7 0 = v6) ∧ inW h6 (QW o7 ct k_products_7 k_leastCosts_7 k_bestOrders_7) ∧ f_X3_bestOrder a1 k_bestOrders_7 = some q7 ∧ (∃ q8, f_X5_tableAt q7 q4 a3 = some q8 ∧ Post q8 h6)))))
  else Post (-1 : Int32) h)
set_option maxRecDepth 100000 in
set_option maxHeartbeats 4000000 in
theorem cg_X5_best (l : Launch) (D : va_G) (ct : Nat → ClassId) (a0 : Nat) (this : Nat) (a1 : Int32) (a2 : Int32) (a3 : Int32) (h : KH) (Post : Int32 → KH → Prop) (hw : g_X5_best ct a0 this a1 a2 a3 h Post) : CK l yX5_best cX5_best 5 4 0 0 (some .int) D ct a0 [.ref this, .int a1, .int a2, .int a3] vI h Post := by
  refine CK.mkI (by decide) (Nat.le_of_ble_eq_true rfl) ?_
  intro p e s m below meth c Q A X hret hW hS ls hl
  obtain ⟨B, hin, hK, hN, hZ, hA⟩ := X
  have B0 := B
  obtain ⟨hx, hb, hml, hown, hts⟩ := B0
  have hl : lv_has ls 5 [(0, .ref this), (1, .int a1), (2, .int a2), (3, .int a3)] := hl
  unfold g_X5_best at hw
  refine lv_iload_n hx hb dX5_best_0 rfl (lv_at hl 1 rfl) ?_
  obtain ⟨q1, e1, hw⟩ := hw
  refine s_call (As := [.int a1]) (rest := []) (c_X5_isSet l a1 q1 e1) B k_X5_isSet q_12_8 rfl ⟨Nat.le_of_ble_eq_true rfl, Nat.le_of_ble_eq_true rfl⟩ ⟨Nat.le_of_ble_eq_true rfl, Nat.le_of_ble_eq_true rfl⟩ hl.1 rfl (Nat.le_of_ble_eq_true rfl) dX5_best_1 ?_
  refine lv_if_eq (tgt := 11) hx hb dX5_best_4 (by decide) (fun c2 => ?_) (fun c2 => ?_)
  · have hw := itp c2 hw
    refine lv_iconst (v := (-1 : Int32)) hx hb dX5_best_11 (by decide) ?_
    exact hret _ _ _ _ (-1 : Int32) h (vp_nar_int _) dX5_best_12 hw hW hS
  · have hw := itn c2 hw
    refine lv_iload_n hx hb dX5_best_7 rfl (lv_at hl 3 rfl) ?_
    refine lv_if_ge (tgt := 13) hx hb dX5_best_8 (by decide) (fun c3 => ?_) (fun c3 => ?_)
    · have hw := itp c3 hw
      refine lv_iload_n hx hb dX5_best_13 rfl (lv_at hl 1 rfl) ?_
      obtain ⟨q4, e4, hw⟩ := hw
      refine s_call (As := [.int a1]) (rest := []) (c_J6_bitCount_0f7a4 l a1 q4 e4) B k_J6_bitCount_0f7a4 q_14_22 rfl ⟨Nat.le_of_ble_eq_true rfl, Nat.le_of_ble_eq_true rfl⟩ ⟨Nat.le_of_ble_eq_true rfl, Nat.le_of_ble_eq_true rfl⟩ hl.1 rfl (Nat.le_of_ble_eq_true rfl) dX5_best_14 ?_
      refine lv_istore (lv' := [(4, .int q4), (0, .ref this), (1, .int a1), (2, .int a2), (3, .int a3)]) hx hb dX5_best_17 hl (by decide) rfl (fun ls hl => ?_)
      refine lv_iload_n hx hb dX5_best_19 rfl (lv_at hl 4 rfl) ?_
      refine lv_iload hx hb dX5_best_20 (lv_at hl 0 rfl) ?_
      refine lv_icmp_ge (tgt := 43) hx hb dX5_best_22 (by decide) (fun c5 => ?_) (fun c5 => ?_)
      · have hw := itp c5 hw
        refine lv_bipush (v := (-4 : Int32)) hx hb dX5_best_43 (by decide) ?_
        exact hret _ _ _ _ (-4 : Int32) h (vp_nar_int _) dX5_best_45 hw hW hS
      · have hw := itn c5 hw
        refine lv_aload_n hx hb dX5_best_25 rfl (lv_at hl 1 rfl) ?_
        refine lv_iload_n hx hb dX5_best_26 rfl (lv_at hl 3 rfl) ?_
        obtain ⟨⟨fs6, e6⟩, hw⟩ := hw
        refine k_call (As := [.int a2]) (rest := []) (ci := 6) (cg_X5_reckoned l D ct a0 this a2 h _ hw) B hK hN hZ hA hW hS e6 rfl k_X5_reckoned q_13_18 rfl ⟨Nat.le_of_ble_eq_true rfl, Nat.le_of_ble_eq_true rfl⟩ ⟨Nat.le_of_ble_eq_true rfl, Nat.le_of_ble_eq_true rfl⟩ hl.1 rfl (Nat.le_of_ble_eq_true rfl) dX5_best_27 (fun v6 h6 H locs hw hW hS => ?_)
        refine lv_iload_n hx hb dX5_best_30 rfl (lv_at hl 2 rfl) ?_
        obtain ⟨o7, k_products_7, k_leastCosts_7, k_bestOrders_7, q7, eo7_0, iw7, e7, hw⟩ := hw
        refine W.eq (g2 := F0 m 31 ls [.int a1, .ref (o7 0)]) (by first | (rw [eo7_0]; done) | (rw [eo7_0]; rfl)) ?_
        refine kf_call (As := [.int a1]) (rest := []) (c_X3_bestOrder l D o7 ct a1 k_products_7 k_leastCosts_7 k_bestOrders_7 q7 e7) B hK hN hA hW hS iw7 rfl (iw7.1 _ _ (List.mem_of_getElem? (i := 0) rfl)) (ci := 4) rfl k_X3_bestOrder q_14_14 rfl ⟨Nat.le_of_ble_eq_true rfl, Nat.le_of_ble_eq_true rfl⟩ ⟨Nat.le_of_ble_eq_true rfl, Nat.le_of_ble_eq_true rfl⟩ hl.1 rfl (Nat.le_of_ble_eq_true rfl) dX5_best_31 (fun h7 H locs eh7 hW hS => ?_)
        rw [hupw_same iw7] at eh7
        rw [eh7] at hW
        refine lv_iload hx hb dX5_best_34 (lv_at hl 0 rfl) ?_
        refine lv_iload_n hx hb dX5_best_36 rfl (lv_at hl 4 rfl) ?_
        obtain ⟨q8, e8, hw⟩ := hw
        refine s_call (As := [.int q7, .int q4, .int a3]) (rest := []) (c_X5_tableAt l q7 q4 a3 q8 e8) B k_X5_tableAt q_18_14 rfl ⟨Nat.le_of_ble_eq_true rfl, Nat.le_of_ble_eq_true rfl⟩ ⟨Nat.le_of_ble_eq_true rfl, Nat.le_of_ble_eq_true rfl⟩ hl.1 rfl (Nat.le_of_ble_eq_true rfl) dX5_best_37 ?_
        refine lv_goto (tgt := 45) hx hb dX5_best_40 (by decide) ?_
        refine W.widen (k := 0) (n := 0) (by omega) (by omega) ?_
        exact hret _ _ _ _ q8 h6 (vp_nar_int _) dX5_best_45 hw hW hS
    · have hw := itn c3 hw
      refine lv_iconst (v := (-1 : Int32)) hx hb dX5_best_11 (by decide) ?_
      exact hret _ _ _ _ (-1 : Int32) h (vp_nar_int _) dX5_best_12 hw hW hS

def g_X5_plan (ct : Nat → ClassId) (a0 : Nat) (this : Nat) (a1 : Int32) (a2 : Int32) (h : KH) (Post : Int32 → KH → Prop) : Prop :=
  (∃ q1, f_X5_isSet a1 = some q1 ∧ if q1 = (0 : Int32) then Post (-1 : Int32) h
  else if a2 < (0 : Int32) then Post (-1 : Int32) h
  else if a2 ≤ (11 : Int32) then rdR h this 6 0 (fun v5 => isO h v5 5 (g_X4_placeOf ct a0 v5 a1 h (fun v6 h6 => if v6 = (-1 : Int32) then Post (-4 : Int32) h6
  else rdR h6 this 6 0 (fun v8 => rdR h6 v8 5 3 (fun v9 => isO h6 v9 0 (g_Jx4a65c_get_915e3 ct a0 v9 v6 h6 (fun v10 h10 => isO h10 v10 1 (if a2 = (5 : Int32) then isO h10 this 6 (g_X5_reckoned ct a0 this (1 : Int32) h10 (fun v13 h13 => rdI h13 v10 1 1 (fun v14 => (∃ (o15 : Nat → Nat) (k_products_15 : Nat → Int64) (k_leastCosts_15 : Nat → Int64) (k_bestOrders_15 : Nat → Int32) (q15 : Int64), (o15 0 = v13) ∧ inW h13 (QW o15 ct k_products_15 k_leastCosts_15 k_bestOrders_15) ∧ f_X3_costOf a1 v14 k_products_15 = some q15 ∧ (∃ q16, f_X5_told q15 = some q16 ∧ Post q16 h13)))))
  else if a2 = (6 : Int32) then isO h10 this 6 (g_X5_reckoned ct a0 this (0 : Int32) h10 (fun v18 h18 => rdI h18 v10 1 1 (fun v19 => (∃ (o20 : Nat → Nat) (k_products_20 : Nat → Int64) (k_leastCosts_20 : Nat → Int64) (k_bestOrders_20 : Nat → Int32) (q20 : Int64), (o20 0 = v18) ∧ inW h18 (QW o20 ct k_products_20 k_leastCosts_20 k_bestOrders_20) ∧ f_X3_costOf a1 v19 k_products_20 = some q20 ∧ (∃ q21, f_X5_told q20 = some q21 ∧ Post q21 h18)))))
  else if a2 = (7 : Int32) then rdL h10 v10 1 3 (fun v23 => (∃ q24, f_X5_told v23 = some q24 ∧ Post q24 h10))
  else if a2 = (8 : Int32) then rdI h10 v10 1 4 (fun v26 => if v26 = (0 : Int32) then Post (0 : Int32) h10
  else Post (1 : Int32) h10)
  else if a2 = (9 : Int32) then isO h10 this 6 (g_X5_reckoned ct a0 this (1 : Int32) h10 (fun v29 h29 => rdI h29 v10 1 1 (fun v30 => (∃ (o31 : Nat → Nat) (k_products_31 : Nat → Int64) (k_leastCosts_31 : Nat → Int64) (k_bestOrders_31 : Nat → Int32) (q31 : Int64), (o31 0 = v29) ∧ inW h29 (QW o31 ct k_products_31 k_leastCosts_31 k_bestOrders_31) ∧ f_X3_excessOf a1 v30 k_products_31 k_leastCosts_31 = some q31 ∧ (∃ q32, f_X5_told q31 = some q32 ∧ Post q32 h29)))))
  else if a2 = (10 : Int32) then rdR h10 this 6 0 (fun v34 => isO h10 v34 5 (g_X4_driftsOnceCounted ct a0 v34 v10 (0 : Int32) h10 (fun v35 h35 => if v35 = (0 : Int32) then Post (0 : Int32) h35
  else Post (1 : Int32) h35)))
  else if a2 = (11 : Int32) then Post v6 h10
  else (∃ q38, f_J6_bitCount_0f7a4 a1 = some q38 ∧ if q38 ≤ a2 then Post (-4 : Int32) h10
  else rdI h10 v10 1 1 (fun v40 => (∃ q41, f_X5_tableAt v40 q38 a2 = some q41 ∧ Post q41 h10)))))))))))
  else Post (-1 : Int32) h)
set_option maxRecDepth 100000 in
set_option maxHeartbeats 4000000 in
theorem cg_X5_plan (l : Launch) (D : va_G) (ct : Nat → ClassId) (a0 : Nat) (this : Nat) (a1 : Int32) (a2 : Int32) (h : KH) (Post : Int32 → KH → Prop) (hw : g_X5_plan ct a0 this a1 a2 h Post) : CK l yX5_plan cX5_plan 6 4 0 0 (some .int) D ct a0 [.ref this, .int a1, .int a2] vI h Post := by
  refine CK.mkI (by decide) (Nat.le_of_ble_eq_true rfl) ?_
  intro p e s m below meth c Q A X hret hW hS ls hl
  obtain ⟨B, hin, hK, hN, hZ, hA⟩ := X
  have B0 := B
  obtain ⟨hx, hb, hml, hown, hts⟩ := B0
  have hl : lv_has ls 6 [(0, .ref this), (1, .int a1), (2, .int a2)] := hl
  unfold g_X5_plan at hw
  refine lv_iload_n hx hb dX5_plan_0 rfl (lv_at hl 1 rfl) ?_
  obtain ⟨q1, e1, hw⟩ := hw
  refine s_call (As := [.int a1]) (rest := []) (c_X5_isSet l a1 q1 e1) B k_X5_isSet q_12_8 rfl ⟨Nat.le_of_ble_eq_true rfl, Nat.le_of_ble_eq_true rfl⟩ ⟨Nat.le_of_ble_eq_true rfl, Nat.le_of_ble_eq_true rfl⟩ hl.1 rfl (Nat.le_of_ble_eq_true rfl) dX5_plan_1 ?_
  refine lv_if_eq (tgt := 17) hx hb dX5_plan_4 (by decide) (fun c2 => ?_) (fun c2 => ?_)
  · have hw := itp c2 hw
    refine lv_iconst (v := (-1 : Int32)) hx hb dX5_plan_17 (by decide) ?_
    exact hret _ _ _ _ (-1 : Int32) h (vp_nar_int _) dX5_plan_18 hw hW hS
  · have hw := itn c2 hw
    refine lv_iload_n hx hb dX5_plan_7 rfl (lv_at hl 2 rfl) ?_
    refine lv_if_lt (tgt := 17) hx hb dX5_plan_8 (by decide) (fun c3 => ?_) (fun c3 => ?_)
    · have hw := itp c3 hw
      refine lv_iconst (v := (-1 : Int32)) hx hb dX5_plan_17 (by decide) ?_
      exact hret _ _ _ _ (-1 : Int32) h (vp_nar_int _) dX5_plan_18 hw hW hS
    · have hw := itn c3 hw
      refine lv_iload_n hx hb dX5_plan_11 rfl (lv_at hl 2 rfl) ?_
      refine lv_bipush (v := (11 : Int32)) hx hb dX5_plan_12 (by decide) ?_
      refine lv_icmp_le (tgt := 19) hx hb dX5_plan_14 (by decide) (fun c4 => ?_) (fun c4 => ?_)
      · have hw := itp c4 hw
        refine lv_aload_n hx hb dX5_plan_19 rfl (lv_at hl 0 rfl) ?_
        obtain ⟨fs5, v5, e5, f5, hw⟩ := hw
        refine kw_get (ci := 6) (C := RX5) (T := TX5) (N := 7) hx hb hts inlX5 hown hK hW e5 rfl 0 (by decide) (hts _ q_1_15) (fun _ h9 => h9) f5 dX5_plan_20 ?_
        refine lv_iload_n hx hb dX5_plan_23 rfl (lv_at hl 1 rfl) ?_
        obtain ⟨⟨fs6, e6⟩, hw⟩ := hw
        refine k_call (As := [.int a1]) (rest := []) (ci := 5) (cg_X4_placeOf l D ct a0 v5 a1 h _ hw) B hK hN hZ hA hW hS e6 rfl k_X4_placeOf q_12_19 rfl ⟨Nat.le_of_ble_eq_true rfl, Nat.le_of_ble_eq_true rfl⟩ ⟨Nat.le_of_ble_eq_true rfl, Nat.le_of_ble_eq_true rfl⟩ hl.1 rfl (Nat.le_of_ble_eq_true rfl) dX5_plan_24 (fun v6 h6 H locs hw hW hS => ?_)
        refine lv_istore_n (lv' := [(3, .int v6), (0, .ref this), (1, .int a1), (2, .int a2)]) hx hb dX5_plan_27 rfl hl (by decide) rfl (fun ls hl => ?_)
        refine lv_iload_n hx hb dX5_plan_28 rfl (lv_at hl 0 rfl) ?_
        refine lv_iconst (v := (-1 : Int32)) hx hb dX5_plan_29 (by decide) ?_
        refine lv_icmp_ne (tgt := 36) hx hb dX5_plan_30 (by decide) (fun c7 => ?_) (fun c7 => ?_)
        · have hw := itn c7 hw
          refine lv_aload_n hx hb dX5_plan_36 rfl (lv_at hl 1 rfl) ?_
          obtain ⟨fs8, v8, e8, f8, hw⟩ := hw
          refine kw_get (ci := 6) (C := RX5) (T := TX5) (N := 7) hx hb hts inlX5 hown hK hW e8 rfl 0 (by decide) (hts _ q_1_15) (fun _ h9 => h9) f8 dX5_plan_37 ?_
          obtain ⟨fs9, v9, e9, f9, hw⟩ := hw
          refine kw_get (ci := 5) (C := RX4) (T := TX4) (N := 14) hx hb hts inlX4 hown hK hW e9 rfl 3 (by decide) (hts _ q_12_15) (fun _ h9 => h9) f9 dX5_plan_40 ?_
          refine lv_iload_n hx hb dX5_plan_43 rfl (lv_at hl 0 rfl) ?_
          obtain ⟨⟨fs10, e10⟩, hw⟩ := hw
          refine k_call (As := [.int v6]) (rest := []) (ci := 0) (cg_Jx4a65c_get_915e3 l D ct a0 v9 v6 h6 _ hw) B hK hN hZ hA hW hS e10 rfl k_Jx4a65c_get_915e3 q_12_23 rfl ⟨Nat.le_of_ble_eq_true rfl, Nat.le_of_ble_eq_true rfl⟩ ⟨Nat.le_of_ble_eq_true rfl, Nat.le_of_ble_eq_true rfl⟩ hl.1 rfl (Nat.le_of_ble_eq_true rfl) dX5_plan_44 (fun v10 h10 H locs hw hW hS => ?_)
          obtain ⟨⟨xa11, e11⟩, hw⟩ := hw
          refine kw_castO (ci := 1) hx hb hown (hts _ q_12_16) hK hW e11 rfl dX5_plan_47 ?_
          refine lv_astore (lv' := [(4, .ref v10), (3, .int v6), (0, .ref this), (1, .int a1), (2, .int a2)]) hx hb dX5_plan_50 hl (by decide) rfl (fun ls hl => ?_)
          refine lv_iload_n hx hb dX5_plan_52 rfl (lv_at hl 4 rfl) ?_
          by_cases c12 : a2 = (5 : Int32)
          · have hw := itp c12 hw
            refine lv_tableIn (off := 43) (tgt := 96) hx hb dX5_plan_53 (by rw [c12]; decide) (by rw [c12]; decide) (by rw [c12]; rfl) (by decide) ?_
            refine lv_aload_n hx hb dX5_plan_96 rfl (lv_at hl 2 rfl) ?_
            refine lv_iconst (v := (1 : Int32)) hx hb dX5_plan_97 (by decide) ?_
            obtain ⟨⟨fs13, e13⟩, hw⟩ := hw
            refine k_call (As := [.int (1 : Int32)]) (rest := []) (ci := 6) (cg_X5_reckoned l D ct a0 this (1 : Int32) h10 _ hw) B hK hN hZ hA hW hS e13 rfl k_X5_reckoned q_13_18 rfl ⟨Nat.le_of_ble_eq_true rfl, Nat.le_of_ble_eq_true rfl⟩ ⟨Nat.le_of_ble_eq_true rfl, Nat.le_of_ble_eq_true rfl⟩ hl.1 rfl (Nat.le_of_ble_eq_true rfl) dX5_plan_98 (fun v13 h13 H locs hw hW hS => ?_)
            refine lv_iload_n hx hb dX5_plan_101 rfl (lv_at hl 3 rfl) ?_
            refine lv_aload hx hb dX5_plan_102 (lv_at hl 0 rfl) ?_
            obtain ⟨fs14, v14, e14, f14, hw⟩ := hw
            refine kw_get (ci := 1) (C := RX0) (T := TX0) (N := 5) hx hb hts inlX0 hown hK hW e14 rfl 1 (by decide) (hts _ q_12_17) (fun _ h9 => h9) f14 dX5_plan_104 ?_
            obtain ⟨o15, k_products_15, k_leastCosts_15, k_bestOrders_15, q15, eo15_0, iw15, e15, hw⟩ := hw
            refine W.eq (g2 := F0 m 107 ls [.int v14, .int a1, .ref (o15 0)]) (by first | (rw [eo15_0]; done) | (rw [eo15_0]; rfl)) ?_
            refine kf_call (As := [.int a1, .int v14]) (rest := []) (c_X3_costOf l D o15 ct a1 v14 k_products_15 k_leastCosts_15 k_bestOrders_15 q15 e15) B hK hN hA hW hS iw15 rfl (iw15.1 _ _ (List.mem_of_getElem? (i := 0) rfl)) (ci := 4) rfl k_X3_costOf q_15_19 rfl ⟨Nat.le_of_ble_eq_true rfl, Nat.le_of_ble_eq_true rfl⟩ ⟨Nat.le_of_ble_eq_true rfl, Nat.le_of_ble_eq_true rfl⟩ hl.1 rfl (Nat.le_of_ble_eq_true rfl) dX5_plan_107 (fun h15 H locs eh15 hW hS => ?_)
            rw [hupw_same iw15] at eh15
            rw [eh15] at hW
            obtain ⟨q16, e16, hw⟩ := hw
            refine s_call (As := [.long q15]) (rest := []) (c_X5_told l q15 q16 e16) B k_X5_told q_16_6 rfl ⟨Nat.le_of_ble_eq_true rfl, Nat.le_of_ble_eq_true rfl⟩ ⟨Nat.le_of_ble_eq_true rfl, Nat.le_of_ble_eq_true rfl⟩ hl.1 rfl (Nat.le_of_ble_eq_true rfl) dX5_plan_110 ?_
            refine W.widen (k := 0) (n := 0) (by omega) (by omega) ?_
            exact hret _ _ _ _ q16 h13 (vp_nar_int _) dX5_plan_113 hw hW hS
          · have hw := itn c12 hw
            by_cases c17 : a2 = (6 : Int32)
            · have hw := itp c17 hw
              refine lv_tableIn (off := 61) (tgt := 114) hx hb dX5_plan_53 (by rw [c17]; decide) (by rw [c17]; decide) (by rw [c17]; rfl) (by decide) ?_
              refine lv_aload_n hx hb dX5_plan_114 rfl (lv_at hl 2 rfl) ?_
              refine lv_iconst (v := (0 : Int32)) hx hb dX5_plan_115 (by decide) ?_
              obtain ⟨⟨fs18, e18⟩, hw⟩ := hw
              refine k_call (As := [.int (0 : Int32)]) (rest := []) (ci := 6) (cg_X5_reckoned l D ct a0 this (0 : Int32) h10 _ hw) B hK hN hZ hA hW hS e18 rfl k_X5_reckoned q_13_18 rfl ⟨Nat.le_of_ble_eq_true rfl, Nat.le_of_ble_eq_true rfl⟩ ⟨Nat.le_of_ble_eq_true rfl, Nat.le_of_ble_eq_true rfl⟩ hl.1 rfl (Nat.le_of_ble_eq_true rfl) dX5_plan_116 (fun v18 h18 H locs hw hW hS => ?_)
              refine lv_iload_n hx hb dX5_plan_119 rfl (lv_at hl 3 rfl) ?_
              refine lv_aload hx hb dX5_plan_120 (lv_at hl 0 rfl) ?_
              obtain ⟨fs19, v19, e19, f19, hw⟩ := hw
              refine kw_get (ci := 1) (C := RX0) (T := TX0) (N := 5) hx hb hts inlX0 hown hK hW e19 rfl 1 (by decide) (hts _ q_12_17) (fun _ h9 => h9) f19 dX5_plan_122 ?_
              obtain ⟨o20, k_products_20, k_leastCosts_20, k_bestOrders_20, q20, eo20_0, iw20, e20, hw⟩ := hw
              refine W.eq (g2 := F0 m 125 ls [.int v19, .int a1, .ref (o20 0)]) (by first | (rw [eo20_0]; done) | (rw [eo20_0]; rfl)) ?_
              refine kf_call (As := [.int a1, .int v19]) (rest := []) (c_X3_costOf l D o20 ct a1 v19 k_products_20 k_leastCosts_20 k_bestOrders_20 q20 e20) B hK hN hA hW hS iw20 rfl (iw20.1 _ _ (List.mem_of_getElem? (i := 0) rfl)) (ci := 4) rfl k_X3_costOf q_15_19 rfl ⟨Nat.le_of_ble_eq_true rfl, Nat.le_of_ble_eq_true rfl⟩ ⟨Nat.le_of_ble_eq_true rfl, Nat.le_of_ble_eq_true rfl⟩ hl.1 rfl (Nat.le_of_ble_eq_true rfl) dX5_plan_125 (fun h20 H locs eh20 hW hS => ?_)
              rw [hupw_same iw20] at eh20
              rw [eh20] at hW
              obtain ⟨q21, e21, hw⟩ := hw
              refine s_call (As := [.long q20]) (rest := []) (c_X5_told l q20 q21 e21) B k_X5_told q_16_6 rfl ⟨Nat.le_of_ble_eq_true rfl, Nat.le_of_ble_eq_true rfl⟩ ⟨Nat.le_of_ble_eq_true rfl, Nat.le_of_ble_eq_true rfl⟩ hl.1 rfl (Nat.le_of_ble_eq_true rfl) dX5_plan_128 ?_
              refine W.widen (k := 0) (n := 0) (by omega) (by omega) ?_
              exact hret _ _ _ _ q21 h18 (vp_nar_int _) dX5_plan_131 hw hW hS
            · have hw := itn c17 hw
              by_cases c22 : a2 = (7 : Int32)
              · have hw := itp c22 hw
                refine lv_tableIn (off := 79) (tgt := 132) hx hb dX5_plan_53 (by rw [c22]; decide) (by rw [c22]; decide) (by rw [c22]; rfl) (by decide) ?_
                refine lv_aload hx hb dX5_plan_132 (lv_at hl 0 rfl) ?_
                obtain ⟨fs23, v23, e23, f23, hw⟩ := hw
                refine kw_get (ci := 1) (C := RX0) (T := TX0) (N := 5) hx hb hts inlX0 hown hK hW e23 rfl 3 (by decide) (hts _ q_17_15) (fun _ h9 => h9) f23 dX5_plan_134 ?_
                obtain ⟨q24, e24, hw⟩ := hw
                refine s_call (As := [.long v23]) (rest := []) (c_X5_told l v23 q24 e24) B k_X5_told q_16_6 rfl ⟨Nat.le_of_ble_eq_true rfl, Nat.le_of_ble_eq_true rfl⟩ ⟨Nat.le_of_ble_eq_true rfl, Nat.le_of_ble_eq_true rfl⟩ hl.1 rfl (Nat.le_of_ble_eq_true rfl) dX5_plan_137 ?_
                refine W.widen (k := 0) (n := 0) (by omega) (by omega) ?_
                exact hret _ _ _ _ q24 h10 (vp_nar_int _) dX5_plan_140 hw hW hS
              · have hw := itn c22 hw
                by_cases c25 : a2 = (8 : Int32)
                · have hw := itp c25 hw
                  refine lv_tableIn (off := 88) (tgt := 141) hx hb dX5_plan_53 (by rw [c25]; decide) (by rw [c25]; decide) (by rw [c25]; rfl) (by decide) ?_
                  refine lv_aload hx hb dX5_plan_141 (lv_at hl 0 rfl) ?_
                  obtain ⟨fs26, v26, e26, f26, hw⟩ := hw
                  refine kw_get (ci := 1) (C := RX0) (T := TX0) (N := 5) hx hb hts inlX0 hown hK hW e26 rfl 4 (by decide) (hts _ q_17_0) (fun _ h9 => h9) f26 dX5_plan_143 ?_
                  refine lv_if_eq (tgt := 153) hx hb dX5_plan_146 (by decide) (fun c27 => ?_) (fun c27 => ?_)
                  · have hw := itp c27 hw
                    refine lv_iconst (v := (0 : Int32)) hx hb dX5_plan_153 (by decide) ?_
                    refine W.widen (k := 0) (n := 0) (by omega) (by omega) ?_
                    exact hret _ _ _ _ (0 : Int32) h10 (vp_nar_int _) dX5_plan_154 hw hW hS
                  · have hw := itn c27 hw
                    refine lv_iconst (v := (1 : Int32)) hx hb dX5_plan_149 (by decide) ?_
                    refine lv_goto (tgt := 154) hx hb dX5_plan_150 (by decide) ?_
                    refine W.widen (k := 0) (n := 0) (by omega) (by omega) ?_
                    exact hret _ _ _ _ (1 : Int32) h10 (vp_nar_int _) dX5_plan_154 hw hW hS
                · have hw := itn c25 hw
                  by_cases c28 : a2 = (9 : Int32)
                  · have hw := itp c28 hw
                    refine lv_tableIn (off := 102) (tgt := 155) hx hb dX5_plan_53 (by rw [c28]; decide) (by rw [c28]; decide) (by rw [c28]; rfl) (by decide) ?_
                    refine lv_aload_n hx hb dX5_plan_155 rfl (lv_at hl 2 rfl) ?_
                    refine lv_iconst (v := (1 : Int32)) hx hb dX5_plan_156 (by decide) ?_
                    obtain ⟨⟨fs29, e29⟩, hw⟩ := hw
                    refine k_call (As := [.int (1 : Int32)]) (rest := []) (ci := 6) (cg_X5_reckoned l D ct a0 this (1 : Int32) h10 _ hw) B hK hN hZ hA hW hS e29 rfl k_X5_reckoned q_13_18 rfl ⟨Nat.le_of_ble_eq_true rfl, Nat.le_of_ble_eq_true rfl⟩ ⟨Nat.le_of_ble_eq_true rfl, Nat.le_of_ble_eq_true rfl⟩ hl.1 rfl (Nat.le_of_ble_eq_true rfl) dX5_plan_157 (fun v29 h29 H locs hw hW hS => ?_)
                    refine lv_iload_n hx hb dX5_plan_160 rfl (lv_at hl 3 rfl) ?_
                    refine lv_aload hx hb dX5_plan_161 (lv_at hl 0 rfl) ?_
                    obtain ⟨fs30, v30, e30, f30, hw⟩ := hw
                    refine kw_get (ci := 1) (C := RX0) (T := TX0) (N := 5) hx hb hts inlX0 hown hK hW e30 rfl 1 (by decide) (hts _ q_12_17) (fun _ h9 => h9) f30 dX5_plan_163 ?_
                    obtain ⟨o31, k_products_31, k_leastCosts_31, k_bestOrders_31, q31, eo31_0, iw31, e31, hw⟩ := hw
                    refine W.eq (g2 := F0 m 166 ls [.int v30, .int a1, .ref (o31 0)]) (by first | (rw [eo31_0]; done) | (rw [eo31_0]; rfl)) ?_
                    refine kf_call (As := [.int a1, .int v30]) (rest := []) (c_X3_excessOf l D o31 ct a1 v30 k_products_31 k_leastCosts_31 k_bestOrders_31 q31 e31) B hK hN hA hW hS iw31 rfl (iw31.1 _ _ (List.mem_of_getElem? (i := 0) rfl)) (ci := 4) rfl k_X3_excessOf q_18_4 rfl ⟨Nat.le_of_ble_eq_true rfl, Nat.le_of_ble_eq_true rfl⟩ ⟨Nat.le_of_ble_eq_true rfl, Nat.le_of_ble_eq_true rfl⟩ hl.1 rfl (Nat.le_of_ble_eq_true rfl) dX5_plan_166 (fun h31 H locs eh31 hW hS => ?_)
                    rw [hupw_same iw31] at eh31
                    rw [eh31] at hW
                    obtain ⟨q32, e32, hw⟩ := hw
                    refine s_call (As := [.long q31]) (rest := []) (c_X5_told l q31 q32 e32) B k_X5_told q_16_6 rfl ⟨Nat.le_of_ble_eq_true rfl, Nat.le_of_ble_eq_true rfl⟩ ⟨Nat.le_of_ble_eq_true rfl, Nat.le_of_ble_eq_true rfl⟩ hl.1 rfl (Nat.le_of_ble_eq_true rfl) dX5_plan_169 ?_
                    refine W.widen (k := 0) (n := 0) (by omega) (by omega) ?_
                    exact hret _ _ _ _ q32 h29 (vp_nar_int _) dX5_plan_172 hw hW hS
                  · have hw := itn c28 hw
                    by_cases c33 : a2 = (10 : Int32)
                    · have hw := itp c33 hw
                      refine lv_tableIn (off := 120) (tgt := 173) hx hb dX5_plan_53 (by rw [c33]; decide) (by rw [c33]; decide) (by rw [c33]; rfl) (by decide) ?_
                      refine lv_aload_n hx hb dX5_plan_173 rfl (lv_at hl 2 rfl) ?_
                      obtain ⟨fs34, v34, e34, f34, hw⟩ := hw
                      refine kw_get (ci := 6) (C := RX5) (T := TX5) (N := 7) hx hb hts inlX5 hown hK hW e34 rfl 0 (by decide) (hts _ q_1_15) (fun _ h9 => h9) f34 dX5_plan_174 ?_
                      refine lv_aload hx hb dX5_plan_177 (lv_at hl 0 rfl) ?_
                      refine lv_iconst (v := (0 : Int32)) hx hb dX5_plan_179 (by decide) ?_
                      obtain ⟨⟨fs35, e35⟩, hw⟩ := hw
                      refine k_call (As := [.ref v10, .int (0 : Int32)]) (rest := []) (ci := 5) (cg_X4_driftsOnceCounted l D ct a0 v34 v10 (0 : Int32) h10 _ hw) B hK hN hZ hA hW hS e35 rfl k_X4_driftsOnceCounted q_18_13 rfl ⟨Nat.le_of_ble_eq_true rfl, Nat.le_of_ble_eq_true rfl⟩ ⟨Nat.le_of_ble_eq_true rfl, Nat.le_of_ble_eq_true rfl⟩ hl.1 rfl (Nat.le_of_ble_eq_true rfl) dX5_plan_180 (fun v35 h35 H locs hw hW hS => ?_)
                      refine lv_if_eq (tgt := 190) hx hb dX5_plan_183 (by decide) (fun c36 => ?_) (fun c36 => ?_)
                      · have hw := itp c36 hw
                        refine lv_iconst (v := (0 : Int32)) hx hb dX5_plan_190 (by decide) ?_
                        refine W.widen (k := 0) (n := 0) (by omega) (by omega) ?_
                        exact hret _ _ _ _ (0 : Int32) h35 (vp_nar_int _) dX5_plan_191 hw hW hS
                      · have hw := itn c36 hw
                        refine lv_iconst (v := (1 : Int32)) hx hb dX5_plan_186 (by decide) ?_
                        refine lv_goto (tgt := 191) hx hb dX5_plan_187 (by decide) ?_
                        refine W.widen (k := 0) (n := 0) (by omega) (by omega) ?_
                        exact hret _ _ _ _ (1 : Int32) h35 (vp_nar_int _) dX5_plan_191 hw hW hS
                    · have hw := itn c33 hw
                      by_cases c37 : a2 = (11 : Int32)
                      · have hw := itp c37 hw
                        refine lv_tableIn (off := 139) (tgt := 192) hx hb dX5_plan_53 (by rw [c37]; decide) (by rw [c37]; decide) (by rw [c37]; rfl) (by decide) ?_
                        refine lv_iload_n hx hb dX5_plan_192 rfl (lv_at hl 1 rfl) ?_
                        refine W.widen (k := 0) (n := 0) (by omega) (by omega) ?_
                        exact hret _ _ _ _ v6 h10 (vp_nar_int _) dX5_plan_193 hw hW hS
                      · have hw := itn c37 hw
                        have n12 := lv_neT (k := (5 : Int32)) (a := 5) c12 (by decide)
                        have n17 := lv_neT (k := (6 : Int32)) (a := 6) c17 (by decide)
                        have n22 := lv_neT (k := (7 : Int32)) (a := 7) c22 (by decide)
                        have n25 := lv_neT (k := (8 : Int32)) (a := 8) c25 (by decide)
                        have n28 := lv_neT (k := (9 : Int32)) (a := 9) c28 (by decide)
                        have n33 := lv_neT (k := (10 : Int32)) (a := 10) c33 (by decide)
                        have n37 := lv_neT (k := (11 : Int32)) (a := 11) c37 (by decide)
                        refine lv_tableOut (tgt := 194) hx hb dX5_plan_53 (by omega) (by decide) ?_
                        refine lv_iload_n hx hb dX5_plan_194 rfl (lv_at hl 3 rfl) ?_
                        obtain ⟨q38, e38, hw⟩ := hw
                        refine s_call (As := [.int a1]) (rest := []) (c_J6_bitCount_0f7a4 l a1 q38 e38) B k_J6_bitCount_0f7a4 q_14_22 rfl ⟨Nat.le_of_ble_eq_true rfl, Nat.le_of_ble_eq_true rfl⟩ ⟨Nat.le_of_ble_eq_true rfl, Nat.le_of_ble_eq_true rfl⟩ hl.1 rfl (Nat.le_of_ble_eq_true rfl) dX5_plan_195 ?_
                        refine lv_istore (lv' := [(5, .int q38), (4, .ref v10), (3, .int v6), (0, .ref this), (1, .int a1), (2, .int a2)]) hx hb dX5_plan_198 hl (by decide) rfl (fun ls hl => ?_)
                        refine lv_iload_n hx hb dX5_plan_200 rfl (lv_at hl 5 rfl) ?_
                        refine lv_iload hx hb dX5_plan_201 (lv_at hl 0 rfl) ?_
                        refine lv_icmp_ge (tgt := 220) hx hb dX5_plan_203 (by decide) (fun c39 => ?_) (fun c39 => ?_)
                        · have hw := itp c39 hw
                          refine lv_bipush (v := (-4 : Int32)) hx hb dX5_plan_220 (by decide) ?_
                          refine W.widen (k := 0) (n := 0) (by omega) (by omega) ?_
                          exact hret _ _ _ _ (-4 : Int32) h10 (vp_nar_int _) dX5_plan_222 hw hW hS
                        · have hw := itn c39 hw
                          refine lv_aload hx hb dX5_plan_206 (lv_at hl 1 rfl) ?_
                          obtain ⟨fs40, v40, e40, f40, hw⟩ := hw
                          refine kw_get (ci := 1) (C := RX0) (T := TX0) (N := 5) hx hb hts inlX0 hown hK hW e40 rfl 1 (by decide) (hts _ q_12_17) (fun _ h9 => h9) f40 dX5_plan_208 ?_
                          refine lv_iload hx hb dX5_plan_211 (lv_at hl 0 rfl) ?_
                          refine lv_iload_n hx hb dX5_plan_213 rfl (lv_at hl 5 rfl) ?_
                          obtain ⟨q41, e41, hw⟩ := hw
                          refine s_call (As := [.int v40, .int q38, .int a2]) (rest := []) (c_X5_tableAt l v40 q38 a2 q41 e41) B k_X5_tableAt q_18_14 rfl ⟨Nat.le_of_ble_eq_true rfl, Nat.le_of_ble_eq_true rfl⟩ ⟨Nat.le_of_ble_eq_true rfl, Nat.le_of_ble_eq_true rfl⟩ hl.1 rfl (Nat.le_of_ble_eq_true rfl) dX5_plan_214 ?_
                          refine lv_goto (tgt := 222) hx hb dX5_plan_217 (by decide) ?_
                          refine W.widen (k := 0) (n := 0) (by omega) (by omega) ?_
                          exact hret _ _ _ _ q41 h10 (vp_nar_int _) dX5_plan_222 hw hW hS
        · have hw := itp c7 hw
          refine lv_bipush (v := (-4 : Int32)) hx hb dX5_plan_33 (by decide) ?_
          refine W.widen (k := 0) (n := 0) (by omega) (by omega) ?_
          exact hret _ _ _ _ (-4 : Int32) h6 (vp_nar_int _) dX5_plan_35 hw hW hS
      · have hw := itn c4 hw
        refine lv_iconst (v := (-1 : Int32)) hx hb dX5_plan_17 (by decide) ?_
        exact hret _ _ _ _ (-1 : Int32) h (vp_nar_int _) dX5_plan_18 hw hW hS

def g_X5_counted (ct : Nat → ClassId) (a0 : Nat) (this : Nat) (a1 : Int32) (h : KH) (Post : Int32 → KH → Prop) : Prop :=
  if a1 = (0 : Int32) then rdR h this 6 0 (fun v2 => rdR h v2 5 3 (fun v3 => isO h v3 0 (g_Jx4a65c_size_8abf5 ct a0 v3 h (fun v4 h4 => Post v4 h4))))
  else if a1 = (1 : Int32) then rdR h this 6 0 (fun v6 => isO h v6 5 (g_X4_countPinned ct a0 v6 h (fun v7 h7 => Post v7 h7)))
  else if a1 = (2 : Int32) then rdR h this 6 0 (fun v9 => rdI h v9 5 4 (fun v10 => Post v10 h))
  else if a1 = (3 : Int32) then rdR h this 6 0 (fun v12 => rdL h v12 5 5 (fun v13 => (∃ q14, f_X5_told v13 = some q14 ∧ Post q14 h)))
  else if a1 = (4 : Int32) then rdR h this 6 0 (fun v16 => rdL h v16 5 6 (fun v17 => (∃ q18, f_X5_told v17 = some q18 ∧ Post q18 h)))
  else if a1 = (5 : Int32) then rdR h this 6 0 (fun v20 => rdL h v20 5 7 (fun v21 => (∃ q22, f_X5_told v21 = some q22 ∧ Post q22 h)))
  else if a1 = (6 : Int32) then rdR h this 6 0 (fun v24 => rdL h v24 5 8 (fun v25 => (∃ q26, f_X5_told v25 = some q26 ∧ Post q26 h)))
  else if a1 = (7 : Int32) then rdR h this 6 0 (fun v28 => rdL h v28 5 9 (fun v29 => (∃ q30, f_X5_told v29 = some q30 ∧ Post q30 h)))
  else if a1 = (8 : Int32) then rdR h this 6 0 (fun v32 => rdL h v32 5 10 (fun v33 => (∃ q34, f_X5_told v33 = some q34 ∧ Post q34 h)))
  else if a1 = (9 : Int32) then rdR h this 6 0 (fun v36 => rdL h v36 5 11 (fun v37 => (∃ q38, f_X5_told v37 = some q38 ∧ Post q38 h)))
  else if a1 = (10 : Int32) then rdR h this 6 0 (fun v40 => rdL h v40 5 12 (fun v41 => (∃ q42, f_X5_told v41 = some q42 ∧ Post q42 h)))
  else if a1 = (11 : Int32) then rdR h this 6 0 (fun v44 => rdL h v44 5 13 (fun v45 => (∃ q46, f_X5_told v45 = some q46 ∧ Post q46 h)))
  else if a1 = (12 : Int32) then rdR h this 6 4 (fun v48 => rdI h v48 2 1 (fun v49 => Post v49 h))
  else if a1 = (13 : Int32) then rdR h this 6 2 (fun v51 => isO h v51 0 (g_Jx4a65c_size_8abf5 ct a0 v51 h (fun v52 h52 => Post v52 h52)))
  else Post (-1 : Int32) h
set_option maxRecDepth 100000 in
set_option maxHeartbeats 4000000 in
theorem cg_X5_counted (l : Launch) (D : va_G) (ct : Nat → ClassId) (a0 : Nat) (this : Nat) (a1 : Int32) (h : KH) (Post : Int32 → KH → Prop) (hw : g_X5_counted ct a0 this a1 h Post) : CK l yX5_counted cX5_counted 2 4 0 0 (some .int) D ct a0 [.ref this, .int a1] vI h Post := by
  refine CK.mkI (by decide) (Nat.le_of_ble_eq_true rfl) ?_
  intro p e s m below meth c Q A X hret hW hS ls hl
  obtain ⟨B, hin, hK, hN, hZ, hA⟩ := X
  have B0 := B
  obtain ⟨hx, hb, hml, hown, hts⟩ := B0
  have hl : lv_has ls 2 [(0, .ref this), (1, .int a1)] := hl
  unfold g_X5_counted at hw
  refine lv_iload_n hx hb dX5_counted_0 rfl (lv_at hl 1 rfl) ?_
  by_cases c1 : a1 = (0 : Int32)
  · have hw := itp c1 hw
    refine lv_tableIn (off := 71) (tgt := 72) hx hb dX5_counted_1 (by rw [c1]; decide) (by rw [c1]; decide) (by rw [c1]; rfl) (by decide) ?_
    refine lv_aload_n hx hb dX5_counted_72 rfl (lv_at hl 0 rfl) ?_
    obtain ⟨fs2, v2, e2, f2, hw⟩ := hw
    refine kw_get (ci := 6) (C := RX5) (T := TX5) (N := 7) hx hb hts inlX5 hown hK hW e2 rfl 0 (by decide) (hts _ q_1_15) (fun _ h9 => h9) f2 dX5_counted_73 ?_
    obtain ⟨fs3, v3, e3, f3, hw⟩ := hw
    refine kw_get (ci := 5) (C := RX4) (T := TX4) (N := 14) hx hb hts inlX4 hown hK hW e3 rfl 3 (by decide) (hts _ q_12_15) (fun _ h9 => h9) f3 dX5_counted_76 ?_
    obtain ⟨⟨fs4, e4⟩, hw⟩ := hw
    refine k_call (As := []) (rest := []) (ci := 0) (cg_Jx4a65c_size_8abf5 l D ct a0 v3 h _ hw) B hK hN hZ hA hW hS e4 rfl k_Jx4a65c_size_8abf5 q_8_10 rfl ⟨Nat.le_of_ble_eq_true rfl, Nat.le_of_ble_eq_true rfl⟩ ⟨Nat.le_of_ble_eq_true rfl, Nat.le_of_ble_eq_true rfl⟩ hl.1 rfl (Nat.le_of_ble_eq_true rfl) dX5_counted_79 (fun v4 h4 H locs hw hW hS => ?_)
    refine W.widen (k := 0) (n := 0) (by omega) (by omega) ?_
    exact hret _ _ _ _ v4 h4 (vp_nar_int _) dX5_counted_82 hw hW hS
  · have hw := itn c1 hw
    by_cases c5 : a1 = (1 : Int32)
    · have hw := itp c5 hw
      refine lv_tableIn (off := 82) (tgt := 83) hx hb dX5_counted_1 (by rw [c5]; decide) (by rw [c5]; decide) (by rw [c5]; rfl) (by decide) ?_
      refine lv_aload_n hx hb dX5_counted_83 rfl (lv_at hl 0 rfl) ?_
      obtain ⟨fs6, v6, e6, f6, hw⟩ := hw
      refine kw_get (ci := 6) (C := RX5) (T := TX5) (N := 7) hx hb hts inlX5 hown hK hW e6 rfl 0 (by decide) (hts _ q_1_15) (fun _ h9 => h9) f6 dX5_counted_84 ?_
      obtain ⟨⟨fs7, e7⟩, hw⟩ := hw
      refine k_call (As := []) (rest := []) (ci := 5) (cg_X4_countPinned l D ct a0 v6 h _ hw) B hK hN hZ hA hW hS e7 rfl k_X4_countPinned q_19_3 rfl ⟨Nat.le_of_ble_eq_true rfl, Nat.le_of_ble_eq_true rfl⟩ ⟨Nat.le_of_ble_eq_true rfl, Nat.le_of_ble_eq_true rfl⟩ hl.1 rfl (Nat.le_of_ble_eq_true rfl) dX5_counted_87 (fun v7 h7 H locs hw hW hS => ?_)
      refine W.widen (k := 0) (n := 0) (by omega) (by omega) ?_
      exact hret _ _ _ _ v7 h7 (vp_nar_int _) dX5_counted_90 hw hW hS
    · have hw := itn c5 hw
      by_cases c8 : a1 = (2 : Int32)
      · have hw := itp c8 hw
        refine lv_tableIn (off := 90) (tgt := 91) hx hb dX5_counted_1 (by rw [c8]; decide) (by rw [c8]; decide) (by rw [c8]; rfl) (by decide) ?_
        refine lv_aload_n hx hb dX5_counted_91 rfl (lv_at hl 0 rfl) ?_
        obtain ⟨fs9, v9, e9, f9, hw⟩ := hw
        refine kw_get (ci := 6) (C := RX5) (T := TX5) (N := 7) hx hb hts inlX5 hown hK hW e9 rfl 0 (by decide) (hts _ q_1_15) (fun _ h9 => h9) f9 dX5_counted_92 ?_
        obtain ⟨fs10, v10, e10, f10, hw⟩ := hw
        refine kw_get (ci := 5) (C := RX4) (T := TX4) (N := 14) hx hb hts inlX4 hown hK hW e10 rfl 4 (by decide) (hts _ q_17_20) (fun _ h9 => h9) f10 dX5_counted_95 ?_
        exact hret _ _ _ _ v10 h (vp_nar_int _) dX5_counted_98 hw hW hS
      · have hw := itn c8 hw
        by_cases c11 : a1 = (3 : Int32)
        · have hw := itp c11 hw
          refine lv_tableIn (off := 98) (tgt := 99) hx hb dX5_counted_1 (by rw [c11]; decide) (by rw [c11]; decide) (by rw [c11]; rfl) (by decide) ?_
          refine lv_aload_n hx hb dX5_counted_99 rfl (lv_at hl 0 rfl) ?_
          obtain ⟨fs12, v12, e12, f12, hw⟩ := hw
          refine kw_get (ci := 6) (C := RX5) (T := TX5) (N := 7) hx hb hts inlX5 hown hK hW e12 rfl 0 (by decide) (hts _ q_1_15) (fun _ h9 => h9) f12 dX5_counted_100 ?_
          obtain ⟨fs13, v13, e13, f13, hw⟩ := hw
          refine kw_get (ci := 5) (C := RX4) (T := TX4) (N := 14) hx hb hts inlX4 hown hK hW e13 rfl 5 (by decide) (hts _ q_18_19) (fun _ h9 => h9) f13 dX5_counted_103 ?_
          obtain ⟨q14, e14, hw⟩ := hw
          refine s_call (As := [.long v13]) (rest := []) (c_X5_told l v13 q14 e14) B k_X5_told q_16_6 rfl ⟨Nat.le_of_ble_eq_true rfl, Nat.le_of_ble_eq_true rfl⟩ ⟨Nat.le_of_ble_eq_true rfl, Nat.le_of_ble_eq_true rfl⟩ hl.1 rfl (Nat.le_of_ble_eq_true rfl) dX5_counted_106 ?_
          exact hret _ _ _ _ q14 h (vp_nar_int _) dX5_counted_109 hw hW hS
        · have hw := itn c11 hw
          by_cases c15 : a1 = (4 : Int32)
          · have hw := itp c15 hw
            refine lv_tableIn (off := 109) (tgt := 110) hx hb dX5_counted_1 (by rw [c15]; decide) (by rw [c15]; decide) (by rw [c15]; rfl) (by decide) ?_
            refine lv_aload_n hx hb dX5_counted_110 rfl (lv_at hl 0 rfl) ?_
            obtain ⟨fs16, v16, e16, f16, hw⟩ := hw
            refine kw_get (ci := 6) (C := RX5) (T := TX5) (N := 7) hx hb hts inlX5 hown hK hW e16 rfl 0 (by decide) (hts _ q_1_15) (fun _ h9 => h9) f16 dX5_counted_111 ?_
            obtain ⟨fs17, v17, e17, f17, hw⟩ := hw
            refine kw_get (ci := 5) (C := RX4) (T := TX4) (N := 14) hx hb hts inlX4 hown hK hW e17 rfl 6 (by decide) (hts _ q_18_20) (fun _ h9 => h9) f17 dX5_counted_114 ?_
            obtain ⟨q18, e18, hw⟩ := hw
            refine s_call (As := [.long v17]) (rest := []) (c_X5_told l v17 q18 e18) B k_X5_told q_16_6 rfl ⟨Nat.le_of_ble_eq_true rfl, Nat.le_of_ble_eq_true rfl⟩ ⟨Nat.le_of_ble_eq_true rfl, Nat.le_of_ble_eq_true rfl⟩ hl.1 rfl (Nat.le_of_ble_eq_true rfl) dX5_counted_117 ?_
            exact hret _ _ _ _ q18 h (vp_nar_int _) dX5_counted_120 hw hW hS
          · have hw := itn c15 hw
            by_cases c19 : a1 = (5 : Int32)
            · have hw := itp c19 hw
              refine lv_tableIn (off := 120) (tgt := 121) hx hb dX5_counted_1 (by rw [c19]; decide) (by rw [c19]; decide) (by rw [c19]; rfl) (by decide) ?_
              refine lv_aload_n hx hb dX5_counted_121 rfl (lv_at hl 0 rfl) ?_
              obtain ⟨fs20, v20, e20, f20, hw⟩ := hw
              refine kw_get (ci := 6) (C := RX5) (T := TX5) (N := 7) hx hb hts inlX5 hown hK hW e20 rfl 0 (by decide) (hts _ q_1_15) (fun _ h9 => h9) f20 dX5_counted_122 ?_
              obtain ⟨fs21, v21, e21, f21, hw⟩ := hw
              refine kw_get (ci := 5) (C := RX4) (T := TX4) (N := 14) hx hb hts inlX4 hown hK hW e21 rfl 7 (by decide) (hts _ q_12_18) (fun _ h9 => h9) f21 dX5_counted_125 ?_
              obtain ⟨q22, e22, hw⟩ := hw
              refine s_call (As := [.long v21]) (rest := []) (c_X5_told l v21 q22 e22) B k_X5_told q_16_6 rfl ⟨Nat.le_of_ble_eq_true rfl, Nat.le_of_ble_eq_true rfl⟩ ⟨Nat.le_of_ble_eq_true rfl, Nat.le_of_ble_eq_true rfl⟩ hl.1 rfl (Nat.le_of_ble_eq_true rfl) dX5_counted_128 ?_
              exact hret _ _ _ _ q22 h (vp_nar_int _) dX5_counted_131 hw hW hS
            · have hw := itn c19 hw
              by_cases c23 : a1 = (6 : Int32)
              · have hw := itp c23 hw
                refine lv_tableIn (off := 131) (tgt := 132) hx hb dX5_counted_1 (by rw [c23]; decide) (by rw [c23]; decide) (by rw [c23]; rfl) (by decide) ?_
                refine lv_aload_n hx hb dX5_counted_132 rfl (lv_at hl 0 rfl) ?_
                obtain ⟨fs24, v24, e24, f24, hw⟩ := hw
                refine kw_get (ci := 6) (C := RX5) (T := TX5) (N := 7) hx hb hts inlX5 hown hK hW e24 rfl 0 (by decide) (hts _ q_1_15) (fun _ h9 => h9) f24 dX5_counted_133 ?_
                obtain ⟨fs25, v25, e25, f25, hw⟩ := hw
                refine kw_get (ci := 5) (C := RX4) (T := TX4) (N := 14) hx hb hts inlX4 hown hK hW e25 rfl 8 (by decide) (hts _ q_18_21) (fun _ h9 => h9) f25 dX5_counted_136 ?_
                obtain ⟨q26, e26, hw⟩ := hw
                refine s_call (As := [.long v25]) (rest := []) (c_X5_told l v25 q26 e26) B k_X5_told q_16_6 rfl ⟨Nat.le_of_ble_eq_true rfl, Nat.le_of_ble_eq_true rfl⟩ ⟨Nat.le_of_ble_eq_true rfl, Nat.le_of_ble_eq_true rfl⟩ hl.1 rfl (Nat.le_of_ble_eq_true rfl) dX5_counted_139 ?_
                exact hret _ _ _ _ q26 h (vp_nar_int _) dX5_counted_142 hw hW hS
              · have hw := itn c23 hw
                by_cases c27 : a1 = (7 : Int32)
                · have hw := itp c27 hw
                  refine lv_tableIn (off := 142) (tgt := 143) hx hb dX5_counted_1 (by rw [c27]; decide) (by rw [c27]; decide) (by rw [c27]; rfl) (by decide) ?_
                  refine lv_aload_n hx hb dX5_counted_143 rfl (lv_at hl 0 rfl) ?_
                  obtain ⟨fs28, v28, e28, f28, hw⟩ := hw
                  refine kw_get (ci := 6) (C := RX5) (T := TX5) (N := 7) hx hb hts inlX5 hown hK hW e28 rfl 0 (by decide) (hts _ q_1_15) (fun _ h9 => h9) f28 dX5_counted_144 ?_
                  obtain ⟨fs29, v29, e29, f29, hw⟩ := hw
                  refine kw_get (ci := 5) (C := RX4) (T := TX4) (N := 14) hx hb hts inlX4 hown hK hW e29 rfl 9 (by decide) (hts _ q_18_22) (fun _ h9 => h9) f29 dX5_counted_147 ?_
                  obtain ⟨q30, e30, hw⟩ := hw
                  refine s_call (As := [.long v29]) (rest := []) (c_X5_told l v29 q30 e30) B k_X5_told q_16_6 rfl ⟨Nat.le_of_ble_eq_true rfl, Nat.le_of_ble_eq_true rfl⟩ ⟨Nat.le_of_ble_eq_true rfl, Nat.le_of_ble_eq_true rfl⟩ hl.1 rfl (Nat.le_of_ble_eq_true rfl) dX5_counted_150 ?_
                  exact hret _ _ _ _ q30 h (vp_nar_int _) dX5_counted_153 hw hW hS
                · have hw := itn c27 hw
                  by_cases c31 : a1 = (8 : Int32)
                  · have hw := itp c31 hw
                    refine lv_tableIn (off := 153) (tgt := 154) hx hb dX5_counted_1 (by rw [c31]; decide) (by rw [c31]; decide) (by rw [c31]; rfl) (by decide) ?_
                    refine lv_aload_n hx hb dX5_counted_154 rfl (lv_at hl 0 rfl) ?_
                    obtain ⟨fs32, v32, e32, f32, hw⟩ := hw
                    refine kw_get (ci := 6) (C := RX5) (T := TX5) (N := 7) hx hb hts inlX5 hown hK hW e32 rfl 0 (by decide) (hts _ q_1_15) (fun _ h9 => h9) f32 dX5_counted_155 ?_
                    obtain ⟨fs33, v33, e33, f33, hw⟩ := hw
                    refine kw_get (ci := 5) (C := RX4) (T := TX4) (N := 14) hx hb hts inlX4 hown hK hW e33 rfl 10 (by decide) (hts _ q_18_23) (fun _ h9 => h9) f33 dX5_counted_158 ?_
                    obtain ⟨q34, e34, hw⟩ := hw
                    refine s_call (As := [.long v33]) (rest := []) (c_X5_told l v33 q34 e34) B k_X5_told q_16_6 rfl ⟨Nat.le_of_ble_eq_true rfl, Nat.le_of_ble_eq_true rfl⟩ ⟨Nat.le_of_ble_eq_true rfl, Nat.le_of_ble_eq_true rfl⟩ hl.1 rfl (Nat.le_of_ble_eq_true rfl) dX5_counted_161 ?_
                    exact hret _ _ _ _ q34 h (vp_nar_int _) dX5_counted_164 hw hW hS
                  · have hw := itn c31 hw
                    by_cases c35 : a1 = (9 : Int32)
                    · have hw := itp c35 hw
                      refine lv_tableIn (off := 164) (tgt := 165) hx hb dX5_counted_1 (by rw [c35]; decide) (by rw [c35]; decide) (by rw [c35]; rfl) (by decide) ?_
                      refine lv_aload_n hx hb dX5_counted_165 rfl (lv_at hl 0 rfl) ?_
                      obtain ⟨fs36, v36, e36, f36, hw⟩ := hw
                      refine kw_get (ci := 6) (C := RX5) (T := TX5) (N := 7) hx hb hts inlX5 hown hK hW e36 rfl 0 (by decide) (hts _ q_1_15) (fun _ h9 => h9) f36 dX5_counted_166 ?_
                      obtain ⟨fs37, v37, e37, f37, hw⟩ := hw
                      refine kw_get (ci := 5) (C := RX4) (T := TX4) (N := 14) hx hb hts inlX4 hown hK hW e37 rfl 11 (by decide) (hts _ q_19_0) (fun _ h9 => h9) f37 dX5_counted_169 ?_
                      obtain ⟨q38, e38, hw⟩ := hw
                      refine s_call (As := [.long v37]) (rest := []) (c_X5_told l v37 q38 e38) B k_X5_told q_16_6 rfl ⟨Nat.le_of_ble_eq_true rfl, Nat.le_of_ble_eq_true rfl⟩ ⟨Nat.le_of_ble_eq_true rfl, Nat.le_of_ble_eq_true rfl⟩ hl.1 rfl (Nat.le_of_ble_eq_true rfl) dX5_counted_172 ?_
                      exact hret _ _ _ _ q38 h (vp_nar_int _) dX5_counted_175 hw hW hS
                    · have hw := itn c35 hw
                      by_cases c39 : a1 = (10 : Int32)
                      · have hw := itp c39 hw
                        refine lv_tableIn (off := 175) (tgt := 176) hx hb dX5_counted_1 (by rw [c39]; decide) (by rw [c39]; decide) (by rw [c39]; rfl) (by decide) ?_
                        refine lv_aload_n hx hb dX5_counted_176 rfl (lv_at hl 0 rfl) ?_
                        obtain ⟨fs40, v40, e40, f40, hw⟩ := hw
                        refine kw_get (ci := 6) (C := RX5) (T := TX5) (N := 7) hx hb hts inlX5 hown hK hW e40 rfl 0 (by decide) (hts _ q_1_15) (fun _ h9 => h9) f40 dX5_counted_177 ?_
                        obtain ⟨fs41, v41, e41, f41, hw⟩ := hw
                        refine kw_get (ci := 5) (C := RX4) (T := TX4) (N := 14) hx hb hts inlX4 hown hK hW e41 rfl 12 (by decide) (hts _ q_17_14) (fun _ h9 => h9) f41 dX5_counted_180 ?_
                        obtain ⟨q42, e42, hw⟩ := hw
                        refine s_call (As := [.long v41]) (rest := []) (c_X5_told l v41 q42 e42) B k_X5_told q_16_6 rfl ⟨Nat.le_of_ble_eq_true rfl, Nat.le_of_ble_eq_true rfl⟩ ⟨Nat.le_of_ble_eq_true rfl, Nat.le_of_ble_eq_true rfl⟩ hl.1 rfl (Nat.le_of_ble_eq_true rfl) dX5_counted_183 ?_
                        exact hret _ _ _ _ q42 h (vp_nar_int _) dX5_counted_186 hw hW hS
                      · have hw := itn c39 hw
                        by_cases c43 : a1 = (11 : Int32)
                        · have hw := itp c43 hw
                          refine lv_tableIn (off := 186) (tgt := 187) hx hb dX5_counted_1 (by rw [c43]; decide) (by rw [c43]; decide) (by rw [c43]; rfl) (by decide) ?_
                          refine lv_aload_n hx hb dX5_counted_187 rfl (lv_at hl 0 rfl) ?_
                          obtain ⟨fs44, v44, e44, f44, hw⟩ := hw
                          refine kw_get (ci := 6) (C := RX5) (T := TX5) (N := 7) hx hb hts inlX5 hown hK hW e44 rfl 0 (by decide) (hts _ q_1_15) (fun _ h9 => h9) f44 dX5_counted_188 ?_
                          obtain ⟨fs45, v45, e45, f45, hw⟩ := hw
                          refine kw_get (ci := 5) (C := RX4) (T := TX4) (N := 14) hx hb hts inlX4 hown hK hW e45 rfl 13 (by decide) (hts _ q_19_1) (fun _ h9 => h9) f45 dX5_counted_191 ?_
                          obtain ⟨q46, e46, hw⟩ := hw
                          refine s_call (As := [.long v45]) (rest := []) (c_X5_told l v45 q46 e46) B k_X5_told q_16_6 rfl ⟨Nat.le_of_ble_eq_true rfl, Nat.le_of_ble_eq_true rfl⟩ ⟨Nat.le_of_ble_eq_true rfl, Nat.le_of_ble_eq_true rfl⟩ hl.1 rfl (Nat.le_of_ble_eq_true rfl) dX5_counted_194 ?_
                          exact hret _ _ _ _ q46 h (vp_nar_int _) dX5_counted_197 hw hW hS
                        · have hw := itn c43 hw
                          by_cases c47 : a1 = (12 : Int32)
                          · have hw := itp c47 hw
                            refine lv_tableIn (off := 197) (tgt := 198) hx hb dX5_counted_1 (by rw [c47]; decide) (by rw [c47]; decide) (by rw [c47]; rfl) (by decide) ?_
                            refine lv_aload_n hx hb dX5_counted_198 rfl (lv_at hl 0 rfl) ?_
                            obtain ⟨fs48, v48, e48, f48, hw⟩ := hw
                            refine kw_get (ci := 6) (C := RX5) (T := TX5) (N := 7) hx hb hts inlX5 hown hK hW e48 rfl 4 (by decide) (hts _ q_2_4) (fun _ h9 => h9) f48 dX5_counted_199 ?_
                            obtain ⟨fs49, v49, e49, f49, hw⟩ := hw
                            refine kw_get (ci := 2) (C := RX1) (T := TX1) (N := 2) hx hb hts inlX1 hown hK hW e49 rfl 1 (by decide) (hts _ q_19_2) (fun _ h9 => h9) f49 dX5_counted_202 ?_
                            exact hret _ _ _ _ v49 h (vp_nar_int _) dX5_counted_205 hw hW hS
                          · have hw := itn c47 hw
                            by_cases c50 : a1 = (13 : Int32)
                            · have hw := itp c50 hw
                              refine lv_tableIn (off := 205) (tgt := 206) hx hb dX5_counted_1 (by rw [c50]; decide) (by rw [c50]; decide) (by rw [c50]; rfl) (by decide) ?_
                              refine lv_aload_n hx hb dX5_counted_206 rfl (lv_at hl 0 rfl) ?_
                              obtain ⟨fs51, v51, e51, f51, hw⟩ := hw
                              refine kw_get (ci := 6) (C := RX5) (T := TX5) (N := 7) hx hb hts inlX5 hown hK hW e51 rfl 2 (by decide) (hts _ q_1_20) (fun _ h9 => h9) f51 dX5_counted_207 ?_
                              obtain ⟨⟨fs52, e52⟩, hw⟩ := hw
                              refine k_call (As := []) (rest := []) (ci := 0) (cg_Jx4a65c_size_8abf5 l D ct a0 v51 h _ hw) B hK hN hZ hA hW hS e52 rfl k_Jx4a65c_size_8abf5 q_8_10 rfl ⟨Nat.le_of_ble_eq_true rfl, Nat.le_of_ble_eq_true rfl⟩ ⟨Nat.le_of_ble_eq_true rfl, Nat.le_of_ble_eq_true rfl⟩ hl.1 rfl (Nat.le_of_ble_eq_true rfl) dX5_counted_210 (fun v52 h52 H locs hw hW hS => ?_)
                              refine W.widen (k := 0) (n := 0) (by omega) (by omega) ?_
                              exact hret _ _ _ _ v52 h52 (vp_nar_int _) dX5_counted_213 hw hW hS
                            · have hw := itn c50 hw
                              have n1 := lv_neT (k := (0 : Int32)) (a := 0) c1 (by decide)
                              have n5 := lv_neT (k := (1 : Int32)) (a := 1) c5 (by decide)
                              have n8 := lv_neT (k := (2 : Int32)) (a := 2) c8 (by decide)
                              have n11 := lv_neT (k := (3 : Int32)) (a := 3) c11 (by decide)
                              have n15 := lv_neT (k := (4 : Int32)) (a := 4) c15 (by decide)
                              have n19 := lv_neT (k := (5 : Int32)) (a := 5) c19 (by decide)
                              have n23 := lv_neT (k := (6 : Int32)) (a := 6) c23 (by decide)
                              have n27 := lv_neT (k := (7 : Int32)) (a := 7) c27 (by decide)
                              have n31 := lv_neT (k := (8 : Int32)) (a := 8) c31 (by decide)
                              have n35 := lv_neT (k := (9 : Int32)) (a := 9) c35 (by decide)
                              have n39 := lv_neT (k := (10 : Int32)) (a := 10) c39 (by decide)
                              have n43 := lv_neT (k := (11 : Int32)) (a := 11) c43 (by decide)
                              have n47 := lv_neT (k := (12 : Int32)) (a := 12) c47 (by decide)
                              have n50 := lv_neT (k := (13 : Int32)) (a := 13) c50 (by decide)
                              refine lv_tableOut (tgt := 214) hx hb dX5_counted_1 (by omega) (by decide) ?_
                              refine lv_iconst (v := (-1 : Int32)) hx hb dX5_counted_214 (by decide) ?_
                              exact hret _ _ _ _ (-1 : Int32) h (vp_nar_int _) dX5_counted_215 hw hW hS
