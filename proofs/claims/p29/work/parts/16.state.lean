/-! State and Kept over the known heap: laid by wip/whole/genk.py -/
theorem k_X0_init : Cond.code yX0_init cX0_init 7 none ∈ wsL_law ∧ Cond.instanceMethod yX0_init ∈ wsL_law ∧ Cond.initialized (yX0_init).cls ∈ wsL_law ∧ (yX0_init).name = "<init>" ∧ ((yX0_init).cls ≠ "java/lang/invoke/MethodHandle" ∧ (yX0_init).cls ≠ "java/lang/invoke/VarHandle" ∧ (parseMethodDescriptor (yX0_init).desc).map (fun d => d.parameters.length) = some 5) := ⟨q_13_11, q_13_10, q_13_6, rfl, by decide +kernel⟩
theorem k_X4_init : Cond.code yX4_init cX4_init 3 none ∈ wsL_law ∧ Cond.instanceMethod yX4_init ∈ wsL_law ∧ Cond.initialized (yX4_init).cls ∈ wsL_law ∧ (yX4_init).name = "<init>" ∧ ((yX4_init).cls ≠ "java/lang/invoke/MethodHandle" ∧ (yX4_init).cls ≠ "java/lang/invoke/VarHandle" ∧ (parseMethodDescriptor (yX4_init).desc).map (fun d => d.parameters.length) = some 0) := ⟨q_2_9, q_2_8, q_1_14, rfl, by decide +kernel⟩
theorem k_X4_init_ : Cond.code yX4_init_ cX4_init_ 4 none ∈ wsL_law ∧ Cond.instanceMethod yX4_init_ ∈ wsL_law ∧ Cond.initialized (yX4_init_).cls ∈ wsL_law ∧ (yX4_init_).name = "<init>" ∧ ((yX4_init_).cls ≠ "java/lang/invoke/MethodHandle" ∧ (yX4_init_).cls ≠ "java/lang/invoke/VarHandle" ∧ (parseMethodDescriptor (yX4_init_).desc).map (fun d => d.parameters.length) = some 1) := ⟨q_4_21, q_4_20, q_1_14, rfl, by decide +kernel⟩
theorem k_X4_placeOf : VOk yX4_placeOf cX4_placeOf 3 (some .int) 1 := ⟨q_12_22, q_12_20, q_12_21, q_1_14, by decide +kernel⟩
theorem k_X4_keptWith : VOk yX4_keptWith cX4_keptWith 4 (some .int) 1 := ⟨q_20_4, q_20_2, q_20_3, q_1_14, by decide +kernel⟩
theorem k_X4_countPinned : VOk yX4_countPinned cX4_countPinned 3 (some .int) 0 := ⟨q_19_6, q_19_4, q_19_5, q_1_14, by decide +kernel⟩
theorem k_X4_setPinned : VOk yX4_setPinned cX4_setPinned 4 none 2 := ⟨q_17_4, q_17_2, q_17_3, q_1_14, by decide +kernel⟩
theorem k_X4_useAgain : VOk yX4_useAgain cX4_useAgain 3 none 1 := ⟨q_13_3, q_13_1, q_13_2, q_1_14, by decide +kernel⟩
theorem k_X4_pushOneOut : VOk yX4_pushOneOut cX4_pushOneOut 2 (some .boolean) 0 := ⟨q_15_18, q_15_16, q_15_17, q_1_14, by decide +kernel⟩
theorem k_X4_keepNew : VOk yX4_keepNew cX4_keepNew 5 none 3 := ⟨q_15_8, q_15_6, q_15_7, q_1_14, by decide +kernel⟩
theorem k_X4_driftsOnceCounted : VOk yX4_driftsOnceCounted cX4_driftsOnceCounted 6 (some .boolean) 2 := ⟨q_10_21, q_10_19, q_10_20, q_1_14, by decide +kernel⟩
theorem k_X4_throwOutDrifted : VOk yX4_throwOutDrifted cX4_throwOutDrifted 4 (some .int) 0 := ⟨q_10_17, q_10_15, q_10_16, q_1_14, by decide +kernel⟩
theorem k_X4_countTables : VOk yX4_countTables cX4_countTables 3 (some .int) 1 := ⟨q_10_11, q_10_9, q_10_10, q_1_14, by decide +kernel⟩
theorem k_X4_throwOutJoins : VOk yX4_throwOutJoins cX4_throwOutJoins 5 (some .int) 1 := ⟨q_9_13, q_9_11, q_9_12, q_1_14, by decide +kernel⟩
def g_X0_init (ct : Nat → ClassId) (a0 : Nat) (this : Nat) (a1 : Int32) (a2 : Int32) (a3 : Nat) (a4 : Int64) (a5 : Int32) (h : KH) (Post : Unit → KH → Prop) : Prop :=
  wrF h this 1 0 (.int a1) (fun h2 => wrF h2 this 1 1 (.int a2) (fun h3 => wrF h3 this 1 2 (.ref a3) (fun h4 => wrF h4 this 1 3 (.long a4) (fun h5 => (isB a5 = true ∧ (wrF h5 this 1 4 (.int a5) (fun h6 => Post () h6)))))))
set_option maxRecDepth 100000 in
set_option maxHeartbeats 4000000 in
theorem cg_X0_init (l : Launch) (D : va_G) (ct : Nat → ClassId) (a0 : Nat) (this : Nat) (a1 : Int32) (a2 : Int32) (a3 : Nat) (a4 : Int64) (a5 : Int32) (h : KH) (Post : Unit → KH → Prop) (hw : g_X0_init ct a0 this a1 a2 a3 a4 a5 h Post) : CK l yX0_init cX0_init 7 1 0 0 none D ct a0 [.ref this, .int a1, .int a2, .ref a3, .long a4, .int a5] vV h Post := by
  refine CK.mkV (by decide) (Nat.le_of_ble_eq_true rfl) ?_
  intro p e s m below meth c Q A X hret hW hS ls hl
  obtain ⟨B, hin, hK, hN, hZ, hA⟩ := X
  have B0 := B
  obtain ⟨hx, hb, hml, hown, hts⟩ := B0
  have hl : lv_has ls 7 [(0, .ref this), (1, .int a1), (2, .int a2), (3, .ref a3), (4, .long a4), (6, .int a5)] := hl
  unfold g_X0_init at hw
  refine lv_aload_n hx hb dX0_init_0 rfl (lv_at hl 0 rfl) ?_
  refine W.objInit hx hb hown (hts _ q_13_12) (hts _ q_1_10) (hts _ q_1_11) rfl (by rw [hml]; exact hl.1) rfl dX0_init_1 (Nat.le_of_ble_eq_true rfl) (Nat.le_of_ble_eq_true rfl) ?_
  refine W.eq (g2 := F0 m 4 ls []) rfl ?_
  refine lv_aload_n hx hb dX0_init_4 rfl (lv_at hl 0 rfl) ?_
  refine lv_iload_n hx hb dX0_init_5 rfl (lv_at hl 1 rfl) ?_
  obtain ⟨fs2, e2, l2, hw⟩ := hw
  refine kw_putF (ci := 1) (v := .int a1) (ty := .int) (C := RX0) (T := TX0) (N := 5) hx hb hts inlX0 tyX0 tyX0_ok nmX0 hown hK hW hS e2 rfl 0 (by decide) (hts _ q_13_13) (fun _ h9 => h9) rfl hin rfl (by decide +kernel) rfl rfl l2 dX0_init_6 (fun H locs h2 eh2 hW hS => ?_)
  have hw := hw h2 eh2
  refine lv_aload_n hx hb dX0_init_9 rfl (lv_at hl 0 rfl) ?_
  refine lv_iload_n hx hb dX0_init_10 rfl (lv_at hl 2 rfl) ?_
  obtain ⟨fs3, e3, l3, hw⟩ := hw
  refine kw_putF (ci := 1) (v := .int a2) (ty := .int) (C := RX0) (T := TX0) (N := 5) hx hb hts inlX0 tyX0 tyX0_ok nmX0 hown hK hW hS e3 rfl 1 (by decide) (hts _ q_13_14) (fun _ h9 => h9) rfl hin rfl (by decide +kernel) rfl rfl l3 dX0_init_11 (fun H locs h3 eh3 hW hS => ?_)
  have hw := hw h3 eh3
  refine lv_aload_n hx hb dX0_init_14 rfl (lv_at hl 0 rfl) ?_
  refine lv_aload_n hx hb dX0_init_15 rfl (lv_at hl 3 rfl) ?_
  obtain ⟨fs4, e4, l4, hw⟩ := hw
  refine kw_putF (ci := 1) (v := .ref a3) (ty := .array .int) (C := RX0) (T := TX0) (N := 5) hx hb hts inlX0 tyX0 tyX0_ok nmX0 hown hK hW hS e4 rfl 2 (by decide) (hts _ q_13_15) (fun _ h9 => h9) rfl hin rfl (by decide +kernel) rfl rfl l4 dX0_init_16 (fun H locs h4 eh4 hW hS => ?_)
  have hw := hw h4 eh4
  refine lv_aload_n hx hb dX0_init_19 rfl (lv_at hl 0 rfl) ?_
  refine lv_lload hx hb dX0_init_20 (lv_at hl 4 rfl) ?_
  obtain ⟨fs5, e5, l5, hw⟩ := hw
  refine kw_putF (ci := 1) (v := .long a4) (ty := .long) (C := RX0) (T := TX0) (N := 5) hx hb hts inlX0 tyX0 tyX0_ok nmX0 hown hK hW hS e5 rfl 3 (by decide) (hts _ q_13_16) (fun _ h9 => h9) rfl hin rfl (by decide +kernel) rfl rfl l5 dX0_init_22 (fun H locs h5 eh5 hW hS => ?_)
  have hw := hw h5 eh5
  refine lv_aload_n hx hb dX0_init_25 rfl (lv_at hl 0 rfl) ?_
  refine lv_iload hx hb dX0_init_26 (lv_at hl 5 rfl) ?_
  obtain ⟨g6, hw⟩ := hw
  obtain ⟨fs6, e6, l6, hw⟩ := hw
  refine kw_putF (ci := 1) (v := .int a5) (ty := .boolean) (C := RX0) (T := TX0) (N := 5) hx hb hts inlX0 tyX0 tyX0_ok nmX0 hown hK hW hS e6 rfl 4 (by decide) (hts _ q_13_17) (fun _ h9 => h9) rfl hin rfl (by decide +kernel) (isB_nar g6) (isB_fit g6) l6 dX0_init_28 (fun H locs h6 eh6 hW hS => ?_)
  have hw := hw h6 eh6
  exact hret _ _ _ _ h6 dX0_init_31 hw hW hS

def g_X4_init_L64b (ct : Nat → ClassId) (a0 : Nat) (this : Nat) (Post : Unit → KH → Prop) (k41 : Int32 → KH → Prop) (k64 : Int32 → Int32 → KH → Prop) (x1 : Int32) (x2 : Int32) (h : KH) : Prop :=
  if (5 : Int32) ≤ x2 then k41 (x1 + (1 : Int32)) h
  else rdR h this 5 2 (fun v18 => ldR h v18 x1 (ct 4) (fun v19 => stI h v19 x2 (ct 0) (100 : Int32) (fun h20 => k64 x1 (x2 + (1 : Int32)) h20)))
def g_X4_init_L64 (ct : Nat → ClassId) (a0 : Nat) (this : Nat) (Post : Unit → KH → Prop) (k41 : Int32 → KH → Prop) : Nat → Int32 → Int32 → KH → Prop
  | 0 => fun _ _ _ => False
  | n + 1 => g_X4_init_L64b ct a0 this Post k41 (g_X4_init_L64 ct a0 this Post k41 n)
def g_X4_init_L41b (ct : Nat → ClassId) (a0 : Nat) (this : Nat) (Post : Unit → KH → Prop)  (k41 : Int32 → KH → Prop) (x1 : Int32) (h : KH) : Prop :=
  if (5 : Int32) ≤ x1 then wrF h this 5 4 (.int (200 : Int32)) (fun h12 => Post () h12)
  else rdR h this 5 0 (fun v13 => stI h v13 x1 (ct 0) (10 : Int32) (fun h14 => rdR h14 this 5 1 (fun v15 => stI h14 v15 x1 (ct 0) (10 : Int32) (fun h16 => g_X4_init_L64 ct a0 this Post k41 1024 x1 (0 : Int32) h16))))
def g_X4_init_L41 (ct : Nat → ClassId) (a0 : Nat) (this : Nat) (Post : Unit → KH → Prop)  : Nat → Int32 → KH → Prop
  | 0 => fun _ _ => False
  | n + 1 => g_X4_init_L41b ct a0 this Post  (g_X4_init_L41 ct a0 this Post  n)
def g_X4_init (ct : Nat → ClassId) (a0 : Nat) (this : Nat) (h : KH) (Post : Unit → KH → Prop) : Prop :=
  nwC h (.inl (ct 0, 5, .inl (fun _ => 0))) (fun q2 h2 => wrF h2 this 5 0 (.ref q2) (fun h3 => nwC h3 (.inl (ct 0, 5, .inl (fun _ => 0))) (fun q4 h4 => wrF h4 this 5 1 (.ref q4) (fun h5 => nwG h5 ct (fun q6 h6 => wrF h6 this 5 2 (.ref q6) (fun h7 => nwC h7 (.inr (0, [.int 0, .null, .int 0])) (fun q8 h8 => g_Jx4a65c_init_da8c8 ct a0 q8 h8 (fun _ h9 => wrF h9 this 5 3 (.ref q8) (fun h10 => g_X4_init_L41 ct a0 this Post  1024 (0 : Int32) h10)))))))))
set_option maxRecDepth 100000 in
set_option maxHeartbeats 4000000 in
theorem cg_X4_init (l : Launch) (D : va_G) (ct : Nat → ClassId) (a0 : Nat) (this : Nat) (h : KH) (Post : Unit → KH → Prop) (hw : g_X4_init ct a0 this h Post) : CK l yX4_init cX4_init 3 4 9 43 none D ct a0 [.ref this] vV h Post := by
  refine CK.mkV (by decide) (Nat.le_of_ble_eq_true rfl) ?_
  intro p e s m below meth c Q A X hret hW hS ls hl
  obtain ⟨B, hin, hK, hN, hZ, hA⟩ := X
  have B0 := B
  obtain ⟨hx, hb, hml, hown, hts⟩ := B0
  have hl : lv_has ls 3 [(0, .ref this)] := hl
  have hL41 : ∀ (n41 : Nat), ∀ (x1 : Int32) (h : KH) (ls : Array Slot) (H : Heap) (locs : List Loc), g_X4_init_L41 ct a0 this Post  n41 x1 h → KW D A h H → va_S A s.heap H locs → lv_has ls 3 [(0, .ref this), (1, .int x1)] → W p l e (rmF 4 9 43) s m ([.ref this] : List Value).toArray below meth c H locs 9 43 Q (F0 m 41 ls []) := by
    intro n41
    induction n41 with
    | zero =>
      intro x1 h ls H locs hw
      exact (show False from hw).elim
    | succ n41 ih41 =>
      have hL64 : ∀ (n64 : Nat), ∀ (x1 : Int32) (x2 : Int32) (h : KH) (ls : Array Slot) (H : Heap) (locs : List Loc), g_X4_init_L64 ct a0 this Post (g_X4_init_L41 ct a0 this Post  n41) n64 x1 x2 h → KW D A h H → va_S A s.heap H locs → lv_has ls 3 [(0, .ref this), (1, .int x1), (2, .int x2)] → W p l e (rmF 4 9 43) s m ([.ref this] : List Value).toArray below meth c H locs 9 43 Q (F0 m 64 ls []) := by
        intro n64
        induction n64 with
        | zero =>
          intro x1 x2 h ls H locs hw
          exact (show False from hw).elim
        | succ n64 ih64 =>
          intro x1 x2 h ls H locs hw hW hS hl
          have hw : g_X4_init_L64b ct a0 this Post (g_X4_init_L41 ct a0 this Post  n41) (g_X4_init_L64 ct a0 this Post (g_X4_init_L41 ct a0 this Post  n41) n64) x1 x2 h := hw
          unfold g_X4_init_L64b at hw
          refine lv_iload_n hx hb dX4_init_64 rfl (lv_at hl 2 rfl) ?_
          refine lv_iconst (v := (5 : Int32)) hx hb dX4_init_65 (by decide) ?_
          refine lv_icmp_ge (tgt := 85) hx hb dX4_init_66 (by decide) (fun c17 => ?_) (fun c17 => ?_)
          · have hw := itp c17 hw
            refine lv_iinc (v := (x1 + (1 : Int32))) (lv' := [(1, .int (x1 + (1 : Int32))), (0, .ref this), (2, .int x2)]) hx hb dX4_init_85 hl (k := 1) rfl (congrArg (HAdd.hAdd x1) (by decide)) (by decide) rfl (fun ls hl => ?_)
            refine lv_goto (tgt := 41) hx hb dX4_init_88 (by decide) ?_
            exact ih41 (x1 + (1 : Int32)) h _ _ _ hw hW hS (lv_sub hl [1, 0] rfl)
          · have hw := itn c17 hw
            refine lv_aload_n hx hb dX4_init_69 rfl (lv_at hl 0 rfl) ?_
            obtain ⟨fs18, v18, e18, f18, hw⟩ := hw
            refine kw_get (ci := 5) (C := RX4) (T := TX4) (N := 14) hx hb hts inlX4 hown hK hW e18 rfl 2 (by decide) (hts _ q_2_14) (fun _ h9 => h9) f18 dX4_init_70 ?_
            refine lv_iload_n hx hb dX4_init_73 rfl (lv_at hl 1 rfl) ?_
            obtain ⟨n19, f19, v19, e19, g19, ev19, hw⟩ := hw
            refine kw_gald hx hb hK hW 4 e19 rfl g19 ev19 dX4_init_74 ?_
            refine lv_iload_n hx hb dX4_init_75 rfl (lv_at hl 2 rfl) ?_
            refine lv_bipush (v := (100 : Int32)) hx hb dX4_init_76 (by decide) ?_
            obtain ⟨n20, f20, e20, g20, hw⟩ := hw
            refine kw_iast hx hb hK hW hS 0 e20 rfl g20 dX4_init_78 (fun H locs h20 eh20 hW hS => ?_)
            have hw := hw h20 eh20
            refine lv_iinc (v := (x2 + (1 : Int32))) (lv' := [(2, .int (x2 + (1 : Int32))), (0, .ref this), (1, .int x1)]) hx hb dX4_init_79 hl (k := 2) rfl (congrArg (HAdd.hAdd x2) (by decide)) (by decide) rfl (fun ls hl => ?_)
            refine lv_goto (tgt := 64) hx hb dX4_init_82 (by decide) ?_
            exact ih64 x1 (x2 + (1 : Int32)) h20 _ _ _ hw hW hS (lv_sub hl [1, 2, 0] rfl)
      intro x1 h ls H locs hw hW hS hl
      have hw : g_X4_init_L41b ct a0 this Post  (g_X4_init_L41 ct a0 this Post  n41) x1 h := hw
      unfold g_X4_init_L41b at hw
      refine lv_iload_n hx hb dX4_init_41 rfl (lv_at hl 1 rfl) ?_
      refine lv_iconst (v := (5 : Int32)) hx hb dX4_init_42 (by decide) ?_
      refine lv_icmp_ge (tgt := 91) hx hb dX4_init_43 (by decide) (fun c11 => ?_) (fun c11 => ?_)
      · have hw := itp c11 hw
        refine lv_aload_n hx hb dX4_init_91 rfl (lv_at hl 0 rfl) ?_
        refine lv_sipush (v := (200 : Int32)) hx hb dX4_init_92 (by decide) ?_
        obtain ⟨fs12, e12, l12, hw⟩ := hw
        refine kw_put (ci := 5) (v := .int (200 : Int32)) (ty := .int) (C := RX4) (T := TX4) (N := 14) hx hb hts inlX4 tyX4 tyX4_ok nmX4 hown hK hW hS e12 rfl 4 (by decide) (hts _ q_2_17) (fun _ h9 => h9) rfl  (by decide +kernel) rfl rfl l12 dX4_init_95 (fun H locs h12 eh12 hW hS => ?_)
        have hw := hw h12 eh12
        exact hret _ _ _ _ h12 dX4_init_98 hw hW hS
      · have hw := itn c11 hw
        refine lv_aload_n hx hb dX4_init_46 rfl (lv_at hl 0 rfl) ?_
        obtain ⟨fs13, v13, e13, f13, hw⟩ := hw
        refine kw_get (ci := 5) (C := RX4) (T := TX4) (N := 14) hx hb hts inlX4 hown hK hW e13 rfl 0 (by decide) (hts _ q_2_11) (fun _ h9 => h9) f13 dX4_init_47 ?_
        refine lv_iload_n hx hb dX4_init_50 rfl (lv_at hl 1 rfl) ?_
        refine lv_bipush (v := (10 : Int32)) hx hb dX4_init_51 (by decide) ?_
        obtain ⟨n14, f14, e14, g14, hw⟩ := hw
        refine kw_iast hx hb hK hW hS 0 e14 rfl g14 dX4_init_53 (fun H locs h14 eh14 hW hS => ?_)
        have hw := hw h14 eh14
        refine lv_aload_n hx hb dX4_init_54 rfl (lv_at hl 0 rfl) ?_
        obtain ⟨fs15, v15, e15, f15, hw⟩ := hw
        refine kw_get (ci := 5) (C := RX4) (T := TX4) (N := 14) hx hb hts inlX4 hown hK hW e15 rfl 1 (by decide) (hts _ q_2_12) (fun _ h9 => h9) f15 dX4_init_55 ?_
        refine lv_iload_n hx hb dX4_init_58 rfl (lv_at hl 1 rfl) ?_
        refine lv_bipush (v := (10 : Int32)) hx hb dX4_init_59 (by decide) ?_
        obtain ⟨n16, f16, e16, g16, hw⟩ := hw
        refine kw_iast hx hb hK hW hS 0 e16 rfl g16 dX4_init_61 (fun H locs h16 eh16 hW hS => ?_)
        have hw := hw h16 eh16
        refine lv_iconst (v := (0 : Int32)) hx hb dX4_init_62 (by decide) ?_
        refine lv_istore_n (lv' := [(2, .int (0 : Int32)), (0, .ref this), (1, .int x1)]) hx hb dX4_init_63 rfl hl (by decide) rfl (fun ls hl => ?_)
        exact hL64 1024 x1 (0 : Int32) h16 _ _ _ hw hW hS (lv_sub hl [1, 2, 0] rfl)
  unfold g_X4_init at hw
  refine lv_aload_n hx hb dX4_init_0 rfl (lv_at hl 0 rfl) ?_
  refine W.objInit hx hb hown (hts _ q_2_10) (hts _ q_1_10) (hts _ q_1_11) rfl (by rw [hml]; exact hl.1) rfl dX4_init_1 (Nat.le_of_ble_eq_true rfl) (Nat.le_of_ble_eq_true rfl) ?_
  refine W.eq (g2 := F0 m 4 ls []) rfl ?_
  refine lv_aload_n hx hb dX4_init_4 rfl (lv_at hl 0 rfl) ?_
  refine lv_iconst (v := (5 : Int32)) hx hb dX4_init_5 (by decide) ?_
  refine kw_newa (atype := .int) (a0 := (5, .inl (fun _ => 0))) (n := (5 : Int32)) (N' := 5) hx hb (hts _ q_1_3) rfl hK 0 rfl hW hS hA (fun _ => rfl) (by decide) (by decide) (by decide) (Nat.le_of_ble_eq_true rfl) (Nat.le_of_ble_eq_true rfl) dX4_init_6 (fun q2 H h2 n2 eh2 hW hS => ?_)
  have hw := hw q2 h2 n2 eh2
  obtain ⟨fs3, e3, l3, hw⟩ := hw
  refine kw_putF (ci := 5) (v := .ref q2) (ty := .array .int) (C := RX4) (T := TX4) (N := 14) hx hb hts inlX4 tyX4 tyX4_ok nmX4 hown hK hW hS e3 rfl 0 (by decide) (hts _ q_2_11) (fun _ h9 => h9) rfl hin rfl (by decide +kernel) rfl rfl l3 dX4_init_8 (fun H locs h3 eh3 hW hS => ?_)
  have hw := hw h3 eh3
  refine lv_aload_n hx hb dX4_init_11 rfl (lv_at hl 0 rfl) ?_
  refine lv_iconst (v := (5 : Int32)) hx hb dX4_init_12 (by decide) ?_
  refine kw_newa (atype := .int) (a0 := (5, .inl (fun _ => 0))) (n := (5 : Int32)) (N' := 5) hx hb (hts _ q_1_3) rfl hK 0 rfl hW hS hA (fun _ => rfl) (by decide) (by decide) (by decide) (Nat.le_of_ble_eq_true rfl) (Nat.le_of_ble_eq_true rfl) dX4_init_13 (fun q4 H h4 n4 eh4 hW hS => ?_)
  have hw := hw q4 h4 n4 eh4
  obtain ⟨fs5, e5, l5, hw⟩ := hw
  refine kw_putF (ci := 5) (v := .ref q4) (ty := .array .int) (C := RX4) (T := TX4) (N := 14) hx hb hts inlX4 tyX4 tyX4_ok nmX4 hown hK hW hS e5 rfl 1 (by decide) (hts _ q_2_12) (fun _ h9 => h9) rfl hin rfl (by decide +kernel) rfl rfl l5 dX4_init_15 (fun H locs h5 eh5 hW hS => ?_)
  have hw := hw h5 eh5
  refine lv_aload_n hx hb dX4_init_18 rfl (lv_at hl 0 rfl) ?_
  refine lv_iconst (v := (5 : Int32)) hx hb dX4_init_19 (by decide) ?_
  refine lv_iconst (v := (5 : Int32)) hx hb dX4_init_20 (by decide) ?_
  refine kw_mna hx hb hown (hts _ q_2_13) hN (hts _ q_1_3) hK hW hS hA (Nat.le_of_ble_eq_true rfl) (Nat.le_of_ble_eq_true rfl) dX4_init_21 (fun q6 r6 h6 H n6 m6 o6 p6 eh6 hW hS => ?_)
  have hw := hw q6 r6 h6 n6 m6 o6 p6 eh6
  obtain ⟨fs7, e7, l7, hw⟩ := hw
  refine kw_putF (ci := 5) (v := .ref q6) (ty := .array (.array .int)) (C := RX4) (T := TX4) (N := 14) hx hb hts inlX4 tyX4 tyX4_ok nmX4 hown hK hW hS e7 rfl 2 (by decide) (hts _ q_2_14) (fun _ h9 => h9) rfl hin rfl (by decide +kernel) rfl rfl l7 dX4_init_25 (fun H locs h7 eh7 hW hS => ?_)
  have hw := hw h7 eh7
  refine lv_aload_n hx hb dX4_init_28 rfl (lv_at hl 0 rfl) ?_
  refine kw_new (ci := 0) (fs := [.int 0, .null, .int 0]) (C := RJx4a65c) (T := TJx4a65c) (N := 3) hx hb hts inlJx4a65c tyJx4a65c tyJx4a65c_ok hown (hts _ q_2_15) (hts _ q_1_18) (hts _ q_1_19) hK hW hS hA rfl (fun j hj => by rcases (show j = 0 ∨ j = 1 ∨ j = 2 by omega) with rfl | rfl | rfl <;> rfl) (Nat.le_of_ble_eq_true rfl) (Nat.le_of_ble_eq_true rfl) dX4_init_29 (fun q8 H h8 n8 eh8 hW hS => ?_)
  have hw := hw q8 h8 n8 eh8
  refine lv_dup hx hb dX4_init_32 rfl ?_
  refine ki_call (As := []) (rest := [.ref q8, .ref this]) (cg_Jx4a65c_init_da8c8 l D ct a0 q8 h8 _ hw) B hK hN hZ hA hW hS k_Jx4a65c_init_da8c8 q_2_18 rfl ⟨Nat.le_of_ble_eq_true rfl, Nat.le_of_ble_eq_true rfl⟩ ⟨Nat.le_of_ble_eq_true rfl, Nat.le_of_ble_eq_true rfl⟩ hl.1 rfl (Nat.le_of_ble_eq_true rfl) dX4_init_33 (fun v9 h9 H locs hw hW hS => ?_)
  obtain ⟨fs10, e10, l10, hw⟩ := hw
  refine kw_putF (ci := 5) (v := .ref q8) (ty := .object "java/util/ArrayList") (C := RX4) (T := TX4) (N := 14) hx hb hts inlX4 tyX4 tyX4_ok nmX4 hown hK hW hS e10 rfl 3 (by decide) (hts _ q_2_16) (fun _ h9 => h9) rfl hin rfl (by decide +kernel) rfl rfl l10 dX4_init_36 (fun H locs h10 eh10 hW hS => ?_)
  have hw := hw h10 eh10
  refine lv_iconst (v := (0 : Int32)) hx hb dX4_init_39 (by decide) ?_
  refine lv_istore_n (lv' := [(1, .int (0 : Int32)), (0, .ref this)]) hx hb dX4_init_40 rfl hl (by decide) rfl (fun ls hl => ?_)
  refine W.widen (k := 9) (n := 43) (by omega) (by omega) ?_
  exact hL41 1024 (0 : Int32) h10 _ _ _ hw hW hS (lv_sub hl [1, 0] rfl)

def g_X4_init__L107b (ct : Nat → ClassId) (a0 : Nat) (this : Nat) (a1 : Nat) (Post : Unit → KH → Prop)  (k107 : Int32 → KH → Prop) (x2 : Int32) (h : KH) : Prop :=
  rdR h a1 5 3 (fun v12 => isO h v12 0 (g_Jx4a65c_size_8abf5 ct a0 v12 h (fun v13 h13 => if v13 ≤ x2 then rdI h13 a1 5 4 (fun v15 => wrF h13 this 5 4 (.int v15) (fun h16 => rdL h16 a1 5 5 (fun v17 => wrF h16 this 5 5 (.long v17) (fun h18 => rdL h18 a1 5 6 (fun v19 => wrF h18 this 5 6 (.long v19) (fun h20 => rdL h20 a1 5 7 (fun v21 => wrF h20 this 5 7 (.long v21) (fun h22 => rdL h22 a1 5 8 (fun v23 => wrF h22 this 5 8 (.long v23) (fun h24 => rdL h24 a1 5 9 (fun v25 => wrF h24 this 5 9 (.long v25) (fun h26 => rdL h26 a1 5 10 (fun v27 => wrF h26 this 5 10 (.long v27) (fun h28 => rdL h28 a1 5 11 (fun v29 => wrF h28 this 5 11 (.long v29) (fun h30 => rdL h30 a1 5 12 (fun v31 => wrF h30 this 5 12 (.long v31) (fun h32 => rdL h32 a1 5 13 (fun v33 => wrF h32 this 5 13 (.long v33) (fun h34 => Post () h34))))))))))))))))))))
  else rdR h13 this 5 3 (fun v35 => rdR h13 a1 5 3 (fun v36 => isO h13 v36 0 (g_Jx4a65c_get_915e3 ct a0 v36 x2 h13 (fun v37 h37 => isO h37 v37 1 (isO h37 v35 0 (g_Jx4a65c_add_9ea2d ct a0 v35 v37 h37 (fun v39 h39 => k107 (x2 + (1 : Int32)) h39))))))))))
def g_X4_init__L107 (ct : Nat → ClassId) (a0 : Nat) (this : Nat) (a1 : Nat) (Post : Unit → KH → Prop)  : Nat → Int32 → KH → Prop
  | 0 => fun _ _ => False
  | n + 1 => g_X4_init__L107b ct a0 this a1 Post  (g_X4_init__L107 ct a0 this a1 Post  n)
def g_X4_init__L72b (ct : Nat → ClassId) (a0 : Nat) (this : Nat) (a1 : Nat) (Post : Unit → KH → Prop) (k41 : Int32 → KH → Prop) (k72 : Int32 → Int32 → KH → Prop) (x2 : Int32) (x3 : Int32) (h : KH) : Prop :=
  if (5 : Int32) ≤ x3 then k41 (x2 + (1 : Int32)) h
  else rdR h this 5 2 (fun v49 => ldR h v49 x2 (ct 4) (fun v50 => rdR h a1 5 2 (fun v51 => ldR h v51 x2 (ct 4) (fun v52 => ldI h v52 x3 (ct 0) (fun v53 => stI h v50 x3 (ct 0) v53 (fun h54 => k72 x2 (x3 + (1 : Int32)) h54))))))
def g_X4_init__L72 (ct : Nat → ClassId) (a0 : Nat) (this : Nat) (a1 : Nat) (Post : Unit → KH → Prop) (k41 : Int32 → KH → Prop) : Nat → Int32 → Int32 → KH → Prop
  | 0 => fun _ _ _ => False
  | n + 1 => g_X4_init__L72b ct a0 this a1 Post k41 (g_X4_init__L72 ct a0 this a1 Post k41 n)
def g_X4_init__L41b (ct : Nat → ClassId) (a0 : Nat) (this : Nat) (a1 : Nat) (Post : Unit → KH → Prop)  (k41 : Int32 → KH → Prop) (x2 : Int32) (h : KH) : Prop :=
  if (5 : Int32) ≤ x2 then g_X4_init__L107 ct a0 this a1 Post  8 (0 : Int32) h
  else rdR h this 5 0 (fun v40 => rdR h a1 5 0 (fun v41 => ldI h v41 x2 (ct 0) (fun v42 => stI h v40 x2 (ct 0) v42 (fun h43 => rdR h43 this 5 1 (fun v44 => rdR h43 a1 5 1 (fun v45 => ldI h43 v45 x2 (ct 0) (fun v46 => stI h43 v44 x2 (ct 0) v46 (fun h47 => g_X4_init__L72 ct a0 this a1 Post k41 1024 x2 (0 : Int32) h47))))))))
def g_X4_init__L41 (ct : Nat → ClassId) (a0 : Nat) (this : Nat) (a1 : Nat) (Post : Unit → KH → Prop)  : Nat → Int32 → KH → Prop
  | 0 => fun _ _ => False
  | n + 1 => g_X4_init__L41b ct a0 this a1 Post  (g_X4_init__L41 ct a0 this a1 Post  n)
def g_X4_init_ (ct : Nat → ClassId) (a0 : Nat) (this : Nat) (a1 : Nat) (h : KH) (Post : Unit → KH → Prop) : Prop :=
  nwC h (.inl (ct 0, 5, .inl (fun _ => 0))) (fun q2 h2 => wrF h2 this 5 0 (.ref q2) (fun h3 => nwC h3 (.inl (ct 0, 5, .inl (fun _ => 0))) (fun q4 h4 => wrF h4 this 5 1 (.ref q4) (fun h5 => nwG h5 ct (fun q6 h6 => wrF h6 this 5 2 (.ref q6) (fun h7 => nwC h7 (.inr (0, [.int 0, .null, .int 0])) (fun q8 h8 => g_Jx4a65c_init_da8c8 ct a0 q8 h8 (fun _ h9 => wrF h9 this 5 3 (.ref q8) (fun h10 => g_X4_init__L41 ct a0 this a1 Post  1024 (0 : Int32) h10)))))))))
set_option maxRecDepth 100000 in
set_option maxHeartbeats 4000000 in
theorem cg_X4_init_ (l : Launch) (D : va_G) (ct : Nat → ClassId) (a0 : Nat) (this : Nat) (a1 : Nat) (h : KH) (Post : Unit → KH → Prop) (hw : g_X4_init_ ct a0 this a1 h Post) : CK l yX4_init_ cX4_init_ 4 5 17 123 none D ct a0 [.ref this, .ref a1] vV h Post := by
  refine CK.mkV (by decide) (Nat.le_of_ble_eq_true rfl) ?_
  intro p e s m below meth c Q A X hret hW hS ls hl
  obtain ⟨B, hin, hK, hN, hZ, hA⟩ := X
  have B0 := B
  obtain ⟨hx, hb, hml, hown, hts⟩ := B0
  have hl : lv_has ls 4 [(0, .ref this), (1, .ref a1)] := hl
  have hL107 : ∀ (n107 : Nat), n107 ≤ 8 → ∀ (x2 : Int32) (h : KH) (ls : Array Slot) (H : Heap) (locs : List Loc), g_X4_init__L107 ct a0 this a1 Post  n107 x2 h → KW D A h H → va_S A s.heap H locs → lv_has ls 4 [(0, .ref this), (1, .ref a1), (2, .int x2)] → W p l e (rmF 5 17 123) s m ([.ref this, .ref a1] : List Value).toArray below meth c H locs (9 + (8 - n107) * 1) (43 + (8 - n107) * 10) Q (F0 m 107 ls []) := by
    intro n107
    induction n107 with
    | zero =>
      intro _ x2 h ls H locs hw
      exact (show False from hw).elim
    | succ n107 ih107 =>
      intro hn107
      intro x2 h ls H locs hw hW hS hl
      have hw : g_X4_init__L107b ct a0 this a1 Post  (g_X4_init__L107 ct a0 this a1 Post  n107) x2 h := hw
      unfold g_X4_init__L107b at hw
      refine lv_iload_n hx hb dX4_init__107 rfl (lv_at hl 2 rfl) ?_
      refine lv_aload_n hx hb dX4_init__108 rfl (lv_at hl 1 rfl) ?_
      obtain ⟨fs12, v12, e12, f12, hw⟩ := hw
      refine kw_get (ci := 5) (C := RX4) (T := TX4) (N := 14) hx hb hts inlX4 hown hK hW e12 rfl 3 (by decide) (hts _ q_2_16) (fun _ h9 => h9) f12 dX4_init__109 ?_
      obtain ⟨⟨fs13, e13⟩, hw⟩ := hw
      refine k_call (As := []) (rest := [.int x2]) (ci := 0) (cg_Jx4a65c_size_8abf5 l D ct a0 v12 h _ hw) B hK hN hZ hA hW hS e13 rfl k_Jx4a65c_size_8abf5 q_5_8 rfl ⟨Nat.le_of_ble_eq_true rfl, Nat.le_of_ble_eq_true rfl⟩ ⟨by show _ ≤ 17; omega, by show _ ≤ 123; omega⟩ hl.1 rfl (Nat.le_of_ble_eq_true rfl) dX4_init__112 (fun v13 h13 H locs hw hW hS => ?_)
      refine lv_icmp_ge (tgt := 143) hx hb dX4_init__115 (by decide) (fun c14 => ?_) (fun c14 => ?_)
      · have hw := itp c14 hw
        refine lv_aload_n hx hb dX4_init__143 rfl (lv_at hl 0 rfl) ?_
        refine lv_aload_n hx hb dX4_init__144 rfl (lv_at hl 1 rfl) ?_
        obtain ⟨fs15, v15, e15, f15, hw⟩ := hw
        refine kw_get (ci := 5) (C := RX4) (T := TX4) (N := 14) hx hb hts inlX4 hown hK hW e15 rfl 4 (by decide) (hts _ q_2_17) (fun _ h9 => h9) f15 dX4_init__145 ?_
        obtain ⟨fs16, e16, l16, hw⟩ := hw
        refine kw_put (ci := 5) (v := .int v15) (ty := .int) (C := RX4) (T := TX4) (N := 14) hx hb hts inlX4 tyX4 tyX4_ok nmX4 hown hK hW hS e16 rfl 4 (by decide) (hts _ q_2_17) (fun _ h9 => h9) rfl  (by decide +kernel) rfl rfl l16 dX4_init__148 (fun H locs h16 eh16 hW hS => ?_)
        have hw := hw h16 eh16
        refine lv_aload_n hx hb dX4_init__151 rfl (lv_at hl 0 rfl) ?_
        refine lv_aload_n hx hb dX4_init__152 rfl (lv_at hl 1 rfl) ?_
        obtain ⟨fs17, v17, e17, f17, hw⟩ := hw
        refine kw_get (ci := 5) (C := RX4) (T := TX4) (N := 14) hx hb hts inlX4 hown hK hW e17 rfl 5 (by decide) (hts _ q_4_23) (fun _ h9 => h9) f17 dX4_init__153 ?_
        obtain ⟨fs18, e18, l18, hw⟩ := hw
        refine kw_put (ci := 5) (v := .long v17) (ty := .long) (C := RX4) (T := TX4) (N := 14) hx hb hts inlX4 tyX4 tyX4_ok nmX4 hown hK hW hS e18 rfl 5 (by decide) (hts _ q_4_23) (fun _ h9 => h9) rfl  (by decide +kernel) rfl rfl l18 dX4_init__156 (fun H locs h18 eh18 hW hS => ?_)
        have hw := hw h18 eh18
        refine lv_aload_n hx hb dX4_init__159 rfl (lv_at hl 0 rfl) ?_
        refine lv_aload_n hx hb dX4_init__160 rfl (lv_at hl 1 rfl) ?_
        obtain ⟨fs19, v19, e19, f19, hw⟩ := hw
        refine kw_get (ci := 5) (C := RX4) (T := TX4) (N := 14) hx hb hts inlX4 hown hK hW e19 rfl 6 (by decide) (hts _ q_5_0) (fun _ h9 => h9) f19 dX4_init__161 ?_
        obtain ⟨fs20, e20, l20, hw⟩ := hw
        refine kw_put (ci := 5) (v := .long v19) (ty := .long) (C := RX4) (T := TX4) (N := 14) hx hb hts inlX4 tyX4 tyX4_ok nmX4 hown hK hW hS e20 rfl 6 (by decide) (hts _ q_5_0) (fun _ h9 => h9) rfl  (by decide +kernel) rfl rfl l20 dX4_init__164 (fun H locs h20 eh20 hW hS => ?_)
        have hw := hw h20 eh20
        refine lv_aload_n hx hb dX4_init__167 rfl (lv_at hl 0 rfl) ?_
        refine lv_aload_n hx hb dX4_init__168 rfl (lv_at hl 1 rfl) ?_
        obtain ⟨fs21, v21, e21, f21, hw⟩ := hw
        refine kw_get (ci := 5) (C := RX4) (T := TX4) (N := 14) hx hb hts inlX4 hown hK hW e21 rfl 7 (by decide) (hts _ q_5_1) (fun _ h9 => h9) f21 dX4_init__169 ?_
        obtain ⟨fs22, e22, l22, hw⟩ := hw
        refine kw_put (ci := 5) (v := .long v21) (ty := .long) (C := RX4) (T := TX4) (N := 14) hx hb hts inlX4 tyX4 tyX4_ok nmX4 hown hK hW hS e22 rfl 7 (by decide) (hts _ q_5_1) (fun _ h9 => h9) rfl  (by decide +kernel) rfl rfl l22 dX4_init__172 (fun H locs h22 eh22 hW hS => ?_)
        have hw := hw h22 eh22
        refine lv_aload_n hx hb dX4_init__175 rfl (lv_at hl 0 rfl) ?_
        refine lv_aload_n hx hb dX4_init__176 rfl (lv_at hl 1 rfl) ?_
        obtain ⟨fs23, v23, e23, f23, hw⟩ := hw
        refine kw_get (ci := 5) (C := RX4) (T := TX4) (N := 14) hx hb hts inlX4 hown hK hW e23 rfl 8 (by decide) (hts _ q_5_2) (fun _ h9 => h9) f23 dX4_init__177 ?_
        obtain ⟨fs24, e24, l24, hw⟩ := hw
        refine kw_put (ci := 5) (v := .long v23) (ty := .long) (C := RX4) (T := TX4) (N := 14) hx hb hts inlX4 tyX4 tyX4_ok nmX4 hown hK hW hS e24 rfl 8 (by decide) (hts _ q_5_2) (fun _ h9 => h9) rfl  (by decide +kernel) rfl rfl l24 dX4_init__180 (fun H locs h24 eh24 hW hS => ?_)
        have hw := hw h24 eh24
        refine lv_aload_n hx hb dX4_init__183 rfl (lv_at hl 0 rfl) ?_
        refine lv_aload_n hx hb dX4_init__184 rfl (lv_at hl 1 rfl) ?_
        obtain ⟨fs25, v25, e25, f25, hw⟩ := hw
        refine kw_get (ci := 5) (C := RX4) (T := TX4) (N := 14) hx hb hts inlX4 hown hK hW e25 rfl 9 (by decide) (hts _ q_5_3) (fun _ h9 => h9) f25 dX4_init__185 ?_
        obtain ⟨fs26, e26, l26, hw⟩ := hw
        refine kw_put (ci := 5) (v := .long v25) (ty := .long) (C := RX4) (T := TX4) (N := 14) hx hb hts inlX4 tyX4 tyX4_ok nmX4 hown hK hW hS e26 rfl 9 (by decide) (hts _ q_5_3) (fun _ h9 => h9) rfl  (by decide +kernel) rfl rfl l26 dX4_init__188 (fun H locs h26 eh26 hW hS => ?_)
        have hw := hw h26 eh26
        refine lv_aload_n hx hb dX4_init__191 rfl (lv_at hl 0 rfl) ?_
        refine lv_aload_n hx hb dX4_init__192 rfl (lv_at hl 1 rfl) ?_
        obtain ⟨fs27, v27, e27, f27, hw⟩ := hw
        refine kw_get (ci := 5) (C := RX4) (T := TX4) (N := 14) hx hb hts inlX4 hown hK hW e27 rfl 10 (by decide) (hts _ q_5_4) (fun _ h9 => h9) f27 dX4_init__193 ?_
        obtain ⟨fs28, e28, l28, hw⟩ := hw
        refine kw_put (ci := 5) (v := .long v27) (ty := .long) (C := RX4) (T := TX4) (N := 14) hx hb hts inlX4 tyX4 tyX4_ok nmX4 hown hK hW hS e28 rfl 10 (by decide) (hts _ q_5_4) (fun _ h9 => h9) rfl  (by decide +kernel) rfl rfl l28 dX4_init__196 (fun H locs h28 eh28 hW hS => ?_)
        have hw := hw h28 eh28
        refine lv_aload_n hx hb dX4_init__199 rfl (lv_at hl 0 rfl) ?_
        refine lv_aload_n hx hb dX4_init__200 rfl (lv_at hl 1 rfl) ?_
        obtain ⟨fs29, v29, e29, f29, hw⟩ := hw
        refine kw_get (ci := 5) (C := RX4) (T := TX4) (N := 14) hx hb hts inlX4 hown hK hW e29 rfl 11 (by decide) (hts _ q_5_5) (fun _ h9 => h9) f29 dX4_init__201 ?_
        obtain ⟨fs30, e30, l30, hw⟩ := hw
        refine kw_put (ci := 5) (v := .long v29) (ty := .long) (C := RX4) (T := TX4) (N := 14) hx hb hts inlX4 tyX4 tyX4_ok nmX4 hown hK hW hS e30 rfl 11 (by decide) (hts _ q_5_5) (fun _ h9 => h9) rfl  (by decide +kernel) rfl rfl l30 dX4_init__204 (fun H locs h30 eh30 hW hS => ?_)
        have hw := hw h30 eh30
        refine lv_aload_n hx hb dX4_init__207 rfl (lv_at hl 0 rfl) ?_
        refine lv_aload_n hx hb dX4_init__208 rfl (lv_at hl 1 rfl) ?_
        obtain ⟨fs31, v31, e31, f31, hw⟩ := hw
        refine kw_get (ci := 5) (C := RX4) (T := TX4) (N := 14) hx hb hts inlX4 hown hK hW e31 rfl 12 (by decide) (hts _ q_5_6) (fun _ h9 => h9) f31 dX4_init__209 ?_
        obtain ⟨fs32, e32, l32, hw⟩ := hw
        refine kw_put (ci := 5) (v := .long v31) (ty := .long) (C := RX4) (T := TX4) (N := 14) hx hb hts inlX4 tyX4 tyX4_ok nmX4 hown hK hW hS e32 rfl 12 (by decide) (hts _ q_5_6) (fun _ h9 => h9) rfl  (by decide +kernel) rfl rfl l32 dX4_init__212 (fun H locs h32 eh32 hW hS => ?_)
        have hw := hw h32 eh32
        refine lv_aload_n hx hb dX4_init__215 rfl (lv_at hl 0 rfl) ?_
        refine lv_aload_n hx hb dX4_init__216 rfl (lv_at hl 1 rfl) ?_
        obtain ⟨fs33, v33, e33, f33, hw⟩ := hw
        refine kw_get (ci := 5) (C := RX4) (T := TX4) (N := 14) hx hb hts inlX4 hown hK hW e33 rfl 13 (by decide) (hts _ q_5_7) (fun _ h9 => h9) f33 dX4_init__217 ?_
        obtain ⟨fs34, e34, l34, hw⟩ := hw
        refine kw_put (ci := 5) (v := .long v33) (ty := .long) (C := RX4) (T := TX4) (N := 14) hx hb hts inlX4 tyX4 tyX4_ok nmX4 hown hK hW hS e34 rfl 13 (by decide) (hts _ q_5_7) (fun _ h9 => h9) rfl  (by decide +kernel) rfl rfl l34 dX4_init__220 (fun H locs h34 eh34 hW hS => ?_)
        have hw := hw h34 eh34
        refine W.widen (k := 17) (n := 123) (by omega) (by omega) ?_
        exact hret _ _ _ _ h34 dX4_init__223 hw hW hS
      · have hw := itn c14 hw
        refine lv_aload_n hx hb dX4_init__118 rfl (lv_at hl 0 rfl) ?_
        obtain ⟨fs35, v35, e35, f35, hw⟩ := hw
        refine kw_get (ci := 5) (C := RX4) (T := TX4) (N := 14) hx hb hts inlX4 hown hK hW e35 rfl 3 (by decide) (hts _ q_2_16) (fun _ h9 => h9) f35 dX4_init__119 ?_
        refine lv_aload_n hx hb dX4_init__122 rfl (lv_at hl 1 rfl) ?_
        obtain ⟨fs36, v36, e36, f36, hw⟩ := hw
        refine kw_get (ci := 5) (C := RX4) (T := TX4) (N := 14) hx hb hts inlX4 hown hK hW e36 rfl 3 (by decide) (hts _ q_2_16) (fun _ h9 => h9) f36 dX4_init__123 ?_
        refine lv_iload_n hx hb dX4_init__126 rfl (lv_at hl 2 rfl) ?_
        obtain ⟨⟨fs37, e37⟩, hw⟩ := hw
        refine k_call (As := [.int x2]) (rest := [.ref v35]) (ci := 0) (cg_Jx4a65c_get_915e3 l D ct a0 v36 x2 h13 _ hw) B hK hN hZ hA hW hS e37 rfl k_Jx4a65c_get_915e3 q_5_13 rfl ⟨Nat.le_of_ble_eq_true rfl, Nat.le_of_ble_eq_true rfl⟩ ⟨by show _ ≤ 17; omega, by show _ ≤ 123; omega⟩ hl.1 rfl (Nat.le_of_ble_eq_true rfl) dX4_init__127 (fun v37 h37 H locs hw hW hS => ?_)
        obtain ⟨⟨xa38, e38⟩, hw⟩ := hw
        refine kw_castO (ci := 1) hx hb hown (hts _ q_13_4) hK hW e38 rfl dX4_init__130 ?_
        obtain ⟨⟨fs39, e39⟩, hw⟩ := hw
        refine k_call (As := [.ref v37]) (rest := []) (ci := 0) (cg_Jx4a65c_add_9ea2d l D ct a0 v35 v37 h37 _ hw) B hK hN hZ hA hW hS e39 rfl k_Jx4a65c_add_9ea2d q_6_5 rfl ⟨Nat.le_of_ble_eq_true rfl, Nat.le_of_ble_eq_true rfl⟩ ⟨by show _ ≤ 17; omega, by show _ ≤ 123; omega⟩ hl.1 rfl (Nat.le_of_ble_eq_true rfl) dX4_init__133 (fun v39 h39 H locs hw hW hS => ?_)
        refine lv_pop hx hb dX4_init__136 rfl ?_
        refine lv_iinc (v := (x2 + (1 : Int32))) (lv' := [(2, .int (x2 + (1 : Int32))), (0, .ref this), (1, .ref a1)]) hx hb dX4_init__137 hl (k := 2) rfl (congrArg (HAdd.hAdd x2) (by decide)) (by decide) rfl (fun ls hl => ?_)
        refine lv_goto (tgt := 107) hx hb dX4_init__140 (by decide) ?_
        refine W.widen (k := (9 + (8 - n107) * 1)) (n := (43 + (8 - n107) * 10)) (by omega) (by omega) ?_
        exact ih107 (by omega) (x2 + (1 : Int32)) h39 _ _ _ hw hW hS (lv_sub hl [1, 2, 0] rfl)
  have hL41 : ∀ (n41 : Nat), ∀ (x2 : Int32) (h : KH) (ls : Array Slot) (H : Heap) (locs : List Loc), g_X4_init__L41 ct a0 this a1 Post  n41 x2 h → KW D A h H → va_S A s.heap H locs → lv_has ls 4 [(0, .ref this), (1, .ref a1), (2, .int x2)] → W p l e (rmF 5 17 123) s m ([.ref this, .ref a1] : List Value).toArray below meth c H locs 9 43 Q (F0 m 41 ls []) := by
    intro n41
    induction n41 with
    | zero =>
      intro x2 h ls H locs hw
      exact (show False from hw).elim
    | succ n41 ih41 =>
      have hL72 : ∀ (n72 : Nat), ∀ (x2 : Int32) (x3 : Int32) (h : KH) (ls : Array Slot) (H : Heap) (locs : List Loc), g_X4_init__L72 ct a0 this a1 Post (g_X4_init__L41 ct a0 this a1 Post  n41) n72 x2 x3 h → KW D A h H → va_S A s.heap H locs → lv_has ls 4 [(0, .ref this), (1, .ref a1), (2, .int x2), (3, .int x3)] → W p l e (rmF 5 17 123) s m ([.ref this, .ref a1] : List Value).toArray below meth c H locs 9 43 Q (F0 m 72 ls []) := by
        intro n72
        induction n72 with
        | zero =>
          intro x2 x3 h ls H locs hw
          exact (show False from hw).elim
        | succ n72 ih72 =>
          intro x2 x3 h ls H locs hw hW hS hl
          have hw : g_X4_init__L72b ct a0 this a1 Post (g_X4_init__L41 ct a0 this a1 Post  n41) (g_X4_init__L72 ct a0 this a1 Post (g_X4_init__L41 ct a0 this a1 Post  n41) n72) x2 x3 h := hw
          unfold g_X4_init__L72b at hw
          refine lv_iload_n hx hb dX4_init__72 rfl (lv_at hl 3 rfl) ?_
          refine lv_iconst (v := (5 : Int32)) hx hb dX4_init__73 (by decide) ?_
          refine lv_icmp_ge (tgt := 99) hx hb dX4_init__74 (by decide) (fun c48 => ?_) (fun c48 => ?_)
          · have hw := itp c48 hw
            refine lv_iinc (v := (x2 + (1 : Int32))) (lv' := [(2, .int (x2 + (1 : Int32))), (0, .ref this), (1, .ref a1), (3, .int x3)]) hx hb dX4_init__99 hl (k := 2) rfl (congrArg (HAdd.hAdd x2) (by decide)) (by decide) rfl (fun ls hl => ?_)
            refine lv_goto (tgt := 41) hx hb dX4_init__102 (by decide) ?_
            exact ih41 (x2 + (1 : Int32)) h _ _ _ hw hW hS (lv_sub hl [1, 2, 0] rfl)
          · have hw := itn c48 hw
            refine lv_aload_n hx hb dX4_init__77 rfl (lv_at hl 0 rfl) ?_
            obtain ⟨fs49, v49, e49, f49, hw⟩ := hw
            refine kw_get (ci := 5) (C := RX4) (T := TX4) (N := 14) hx hb hts inlX4 hown hK hW e49 rfl 2 (by decide) (hts _ q_2_14) (fun _ h9 => h9) f49 dX4_init__78 ?_
            refine lv_iload_n hx hb dX4_init__81 rfl (lv_at hl 2 rfl) ?_
            obtain ⟨n50, f50, v50, e50, g50, ev50, hw⟩ := hw
            refine kw_gald hx hb hK hW 4 e50 rfl g50 ev50 dX4_init__82 ?_
            refine lv_iload_n hx hb dX4_init__83 rfl (lv_at hl 3 rfl) ?_
            refine lv_aload_n hx hb dX4_init__84 rfl (lv_at hl 1 rfl) ?_
            obtain ⟨fs51, v51, e51, f51, hw⟩ := hw
            refine kw_get (ci := 5) (C := RX4) (T := TX4) (N := 14) hx hb hts inlX4 hown hK hW e51 rfl 2 (by decide) (hts _ q_2_14) (fun _ h9 => h9) f51 dX4_init__85 ?_
            refine lv_iload_n hx hb dX4_init__88 rfl (lv_at hl 2 rfl) ?_
            obtain ⟨n52, f52, v52, e52, g52, ev52, hw⟩ := hw
            refine kw_gald hx hb hK hW 4 e52 rfl g52 ev52 dX4_init__89 ?_
            refine lv_iload_n hx hb dX4_init__90 rfl (lv_at hl 3 rfl) ?_
            obtain ⟨n53, f53, v53, e53, g53, ev53, hw⟩ := hw
            refine kw_iald hx hb hK hW 0 e53 rfl g53 ev53 dX4_init__91 ?_
            obtain ⟨n54, f54, e54, g54, hw⟩ := hw
            refine kw_iast hx hb hK hW hS 0 e54 rfl g54 dX4_init__92 (fun H locs h54 eh54 hW hS => ?_)
            have hw := hw h54 eh54
            refine lv_iinc (v := (x3 + (1 : Int32))) (lv' := [(3, .int (x3 + (1 : Int32))), (0, .ref this), (1, .ref a1), (2, .int x2)]) hx hb dX4_init__93 hl (k := 3) rfl (congrArg (HAdd.hAdd x3) (by decide)) (by decide) rfl (fun ls hl => ?_)
            refine lv_goto (tgt := 72) hx hb dX4_init__96 (by decide) ?_
            exact ih72 x2 (x3 + (1 : Int32)) h54 _ _ _ hw hW hS (lv_sub hl [1, 2, 3, 0] rfl)
      intro x2 h ls H locs hw hW hS hl
      have hw : g_X4_init__L41b ct a0 this a1 Post  (g_X4_init__L41 ct a0 this a1 Post  n41) x2 h := hw
      unfold g_X4_init__L41b at hw
      refine lv_iload_n hx hb dX4_init__41 rfl (lv_at hl 2 rfl) ?_
      refine lv_iconst (v := (5 : Int32)) hx hb dX4_init__42 (by decide) ?_
      refine lv_icmp_ge (tgt := 105) hx hb dX4_init__43 (by decide) (fun c11 => ?_) (fun c11 => ?_)
      · have hw := itp c11 hw
        refine lv_iconst (v := (0 : Int32)) hx hb dX4_init__105 (by decide) ?_
        refine lv_istore_n (lv' := [(2, .int (0 : Int32)), (0, .ref this), (1, .ref a1)]) hx hb dX4_init__106 rfl hl (by decide) rfl (fun ls hl => ?_)
        refine W.widen (k := (9 + (8 - 8) * 1)) (n := (43 + (8 - 8) * 10)) (by omega) (by omega) ?_
        exact hL107 8 (Nat.le_refl _) (0 : Int32) h _ _ _ hw hW hS (lv_sub hl [1, 2, 0] rfl)
      · have hw := itn c11 hw
        refine lv_aload_n hx hb dX4_init__46 rfl (lv_at hl 0 rfl) ?_
        obtain ⟨fs40, v40, e40, f40, hw⟩ := hw
        refine kw_get (ci := 5) (C := RX4) (T := TX4) (N := 14) hx hb hts inlX4 hown hK hW e40 rfl 0 (by decide) (hts _ q_2_11) (fun _ h9 => h9) f40 dX4_init__47 ?_
        refine lv_iload_n hx hb dX4_init__50 rfl (lv_at hl 2 rfl) ?_
        refine lv_aload_n hx hb dX4_init__51 rfl (lv_at hl 1 rfl) ?_
        obtain ⟨fs41, v41, e41, f41, hw⟩ := hw
        refine kw_get (ci := 5) (C := RX4) (T := TX4) (N := 14) hx hb hts inlX4 hown hK hW e41 rfl 0 (by decide) (hts _ q_2_11) (fun _ h9 => h9) f41 dX4_init__52 ?_
        refine lv_iload_n hx hb dX4_init__55 rfl (lv_at hl 2 rfl) ?_
        obtain ⟨n42, f42, v42, e42, g42, ev42, hw⟩ := hw
        refine kw_iald hx hb hK hW 0 e42 rfl g42 ev42 dX4_init__56 ?_
        obtain ⟨n43, f43, e43, g43, hw⟩ := hw
        refine kw_iast hx hb hK hW hS 0 e43 rfl g43 dX4_init__57 (fun H locs h43 eh43 hW hS => ?_)
        have hw := hw h43 eh43
        refine lv_aload_n hx hb dX4_init__58 rfl (lv_at hl 0 rfl) ?_
        obtain ⟨fs44, v44, e44, f44, hw⟩ := hw
        refine kw_get (ci := 5) (C := RX4) (T := TX4) (N := 14) hx hb hts inlX4 hown hK hW e44 rfl 1 (by decide) (hts _ q_2_12) (fun _ h9 => h9) f44 dX4_init__59 ?_
        refine lv_iload_n hx hb dX4_init__62 rfl (lv_at hl 2 rfl) ?_
        refine lv_aload_n hx hb dX4_init__63 rfl (lv_at hl 1 rfl) ?_
        obtain ⟨fs45, v45, e45, f45, hw⟩ := hw
        refine kw_get (ci := 5) (C := RX4) (T := TX4) (N := 14) hx hb hts inlX4 hown hK hW e45 rfl 1 (by decide) (hts _ q_2_12) (fun _ h9 => h9) f45 dX4_init__64 ?_
        refine lv_iload_n hx hb dX4_init__67 rfl (lv_at hl 2 rfl) ?_
        obtain ⟨n46, f46, v46, e46, g46, ev46, hw⟩ := hw
        refine kw_iald hx hb hK hW 0 e46 rfl g46 ev46 dX4_init__68 ?_
        obtain ⟨n47, f47, e47, g47, hw⟩ := hw
        refine kw_iast hx hb hK hW hS 0 e47 rfl g47 dX4_init__69 (fun H locs h47 eh47 hW hS => ?_)
        have hw := hw h47 eh47
        refine lv_iconst (v := (0 : Int32)) hx hb dX4_init__70 (by decide) ?_
        refine lv_istore_n (lv' := [(3, .int (0 : Int32)), (0, .ref this), (1, .ref a1), (2, .int x2)]) hx hb dX4_init__71 rfl hl (by decide) rfl (fun ls hl => ?_)
        exact hL72 1024 x2 (0 : Int32) h47 _ _ _ hw hW hS (lv_sub hl [1, 2, 3, 0] rfl)
  unfold g_X4_init_ at hw
  refine lv_aload_n hx hb dX4_init__0 rfl (lv_at hl 0 rfl) ?_
  refine W.objInit hx hb hown (hts _ q_2_10) (hts _ q_1_10) (hts _ q_1_11) rfl (by rw [hml]; exact hl.1) rfl dX4_init__1 (Nat.le_of_ble_eq_true rfl) (Nat.le_of_ble_eq_true rfl) ?_
  refine W.eq (g2 := F0 m 4 ls []) rfl ?_
  refine lv_aload_n hx hb dX4_init__4 rfl (lv_at hl 0 rfl) ?_
  refine lv_iconst (v := (5 : Int32)) hx hb dX4_init__5 (by decide) ?_
  refine kw_newa (atype := .int) (a0 := (5, .inl (fun _ => 0))) (n := (5 : Int32)) (N' := 5) hx hb (hts _ q_1_3) rfl hK 0 rfl hW hS hA (fun _ => rfl) (by decide) (by decide) (by decide) (by show _ ≤ 17; omega) (by show _ ≤ 123; omega) dX4_init__6 (fun q2 H h2 n2 eh2 hW hS => ?_)
  have hw := hw q2 h2 n2 eh2
  obtain ⟨fs3, e3, l3, hw⟩ := hw
  refine kw_putF (ci := 5) (v := .ref q2) (ty := .array .int) (C := RX4) (T := TX4) (N := 14) hx hb hts inlX4 tyX4 tyX4_ok nmX4 hown hK hW hS e3 rfl 0 (by decide) (hts _ q_2_11) (fun _ h9 => h9) rfl hin rfl (by decide +kernel) rfl rfl l3 dX4_init__8 (fun H locs h3 eh3 hW hS => ?_)
  have hw := hw h3 eh3
  refine lv_aload_n hx hb dX4_init__11 rfl (lv_at hl 0 rfl) ?_
  refine lv_iconst (v := (5 : Int32)) hx hb dX4_init__12 (by decide) ?_
  refine kw_newa (atype := .int) (a0 := (5, .inl (fun _ => 0))) (n := (5 : Int32)) (N' := 5) hx hb (hts _ q_1_3) rfl hK 0 rfl hW hS hA (fun _ => rfl) (by decide) (by decide) (by decide) (by show _ ≤ 17; omega) (by show _ ≤ 123; omega) dX4_init__13 (fun q4 H h4 n4 eh4 hW hS => ?_)
  have hw := hw q4 h4 n4 eh4
  obtain ⟨fs5, e5, l5, hw⟩ := hw
  refine kw_putF (ci := 5) (v := .ref q4) (ty := .array .int) (C := RX4) (T := TX4) (N := 14) hx hb hts inlX4 tyX4 tyX4_ok nmX4 hown hK hW hS e5 rfl 1 (by decide) (hts _ q_2_12) (fun _ h9 => h9) rfl hin rfl (by decide +kernel) rfl rfl l5 dX4_init__15 (fun H locs h5 eh5 hW hS => ?_)
  have hw := hw h5 eh5
  refine lv_aload_n hx hb dX4_init__18 rfl (lv_at hl 0 rfl) ?_
  refine lv_iconst (v := (5 : Int32)) hx hb dX4_init__19 (by decide) ?_
  refine lv_iconst (v := (5 : Int32)) hx hb dX4_init__20 (by decide) ?_
  refine kw_mna hx hb hown (hts _ q_2_13) hN (hts _ q_1_3) hK hW hS hA (by show _ ≤ 17; omega) (by show _ ≤ 123; omega) dX4_init__21 (fun q6 r6 h6 H n6 m6 o6 p6 eh6 hW hS => ?_)
  have hw := hw q6 r6 h6 n6 m6 o6 p6 eh6
  obtain ⟨fs7, e7, l7, hw⟩ := hw
  refine kw_putF (ci := 5) (v := .ref q6) (ty := .array (.array .int)) (C := RX4) (T := TX4) (N := 14) hx hb hts inlX4 tyX4 tyX4_ok nmX4 hown hK hW hS e7 rfl 2 (by decide) (hts _ q_2_14) (fun _ h9 => h9) rfl hin rfl (by decide +kernel) rfl rfl l7 dX4_init__25 (fun H locs h7 eh7 hW hS => ?_)
  have hw := hw h7 eh7
  refine lv_aload_n hx hb dX4_init__28 rfl (lv_at hl 0 rfl) ?_
  refine kw_new (ci := 0) (fs := [.int 0, .null, .int 0]) (C := RJx4a65c) (T := TJx4a65c) (N := 3) hx hb hts inlJx4a65c tyJx4a65c tyJx4a65c_ok hown (hts _ q_2_15) (hts _ q_1_18) (hts _ q_1_19) hK hW hS hA rfl (fun j hj => by rcases (show j = 0 ∨ j = 1 ∨ j = 2 by omega) with rfl | rfl | rfl <;> rfl) (by show _ ≤ 17; omega) (by show _ ≤ 123; omega) dX4_init__29 (fun q8 H h8 n8 eh8 hW hS => ?_)
  have hw := hw q8 h8 n8 eh8
  refine lv_dup hx hb dX4_init__32 rfl ?_
  refine ki_call (As := []) (rest := [.ref q8, .ref this]) (cg_Jx4a65c_init_da8c8 l D ct a0 q8 h8 _ hw) B hK hN hZ hA hW hS k_Jx4a65c_init_da8c8 q_2_18 rfl ⟨Nat.le_of_ble_eq_true rfl, Nat.le_of_ble_eq_true rfl⟩ ⟨by show _ ≤ 17; omega, by show _ ≤ 123; omega⟩ hl.1 rfl (Nat.le_of_ble_eq_true rfl) dX4_init__33 (fun v9 h9 H locs hw hW hS => ?_)
  obtain ⟨fs10, e10, l10, hw⟩ := hw
  refine kw_putF (ci := 5) (v := .ref q8) (ty := .object "java/util/ArrayList") (C := RX4) (T := TX4) (N := 14) hx hb hts inlX4 tyX4 tyX4_ok nmX4 hown hK hW hS e10 rfl 3 (by decide) (hts _ q_2_16) (fun _ h9 => h9) rfl hin rfl (by decide +kernel) rfl rfl l10 dX4_init__36 (fun H locs h10 eh10 hW hS => ?_)
  have hw := hw h10 eh10
  refine lv_iconst (v := (0 : Int32)) hx hb dX4_init__39 (by decide) ?_
  refine lv_istore_n (lv' := [(2, .int (0 : Int32)), (0, .ref this), (1, .ref a1)]) hx hb dX4_init__40 rfl hl (by decide) rfl (fun ls hl => ?_)
  refine W.widen (k := 9) (n := 43) (by omega) (by omega) ?_
  exact hL41 1024 (0 : Int32) h10 _ _ _ hw hW hS (lv_sub hl [1, 2, 0] rfl)

def g_X4_placeOf_L2b (ct : Nat → ClassId) (a0 : Nat) (this : Nat) (a1 : Int32) (Post : Int32 → KH → Prop)  (k2 : Int32 → KH → Prop) (x2 : Int32) (h : KH) : Prop :=
  rdR h this 5 3 (fun v1 => isO h v1 0 (g_Jx4a65c_size_8abf5 ct a0 v1 h (fun v2 h2 => if v2 ≤ x2 then Post (-1 : Int32) h2
  else rdR h2 this 5 3 (fun v4 => isO h2 v4 0 (g_Jx4a65c_get_915e3 ct a0 v4 x2 h2 (fun v5 h5 => isO h5 v5 1 (rdI h5 v5 1 0 (fun v7 => if v7 = a1 then Post x2 h5
  else k2 (x2 + (1 : Int32)) h5))))))))
def g_X4_placeOf_L2 (ct : Nat → ClassId) (a0 : Nat) (this : Nat) (a1 : Int32) (Post : Int32 → KH → Prop)  : Nat → Int32 → KH → Prop
  | 0 => fun _ _ => False
  | n + 1 => g_X4_placeOf_L2b ct a0 this a1 Post  (g_X4_placeOf_L2 ct a0 this a1 Post  n)
def g_X4_placeOf (ct : Nat → ClassId) (a0 : Nat) (this : Nat) (a1 : Int32) (h : KH) (Post : Int32 → KH → Prop) : Prop :=
  g_X4_placeOf_L2 ct a0 this a1 Post  1024 (0 : Int32) h
set_option maxRecDepth 100000 in
set_option maxHeartbeats 4000000 in
theorem cg_X4_placeOf (l : Launch) (D : va_G) (ct : Nat → ClassId) (a0 : Nat) (this : Nat) (a1 : Int32) (h : KH) (Post : Int32 → KH → Prop) (hw : g_X4_placeOf ct a0 this a1 h Post) : CK l yX4_placeOf cX4_placeOf 3 3 0 0 (some .int) D ct a0 [.ref this, .int a1] vI h Post := by
  refine CK.mkI (by decide) (Nat.le_of_ble_eq_true rfl) ?_
  intro p e s m below meth c Q A X hret hW hS ls hl
  obtain ⟨B, hin, hK, hN, hZ, hA⟩ := X
  have B0 := B
  obtain ⟨hx, hb, hml, hown, hts⟩ := B0
  have hl : lv_has ls 3 [(0, .ref this), (1, .int a1)] := hl
  have hL2 : ∀ (n2 : Nat), ∀ (x2 : Int32) (h : KH) (ls : Array Slot) (H : Heap) (locs : List Loc), g_X4_placeOf_L2 ct a0 this a1 Post  n2 x2 h → KW D A h H → va_S A s.heap H locs → lv_has ls 3 [(0, .ref this), (1, .int a1), (2, .int x2)] → W p l e (rmF 3 0 0) s m ([.ref this, .int a1] : List Value).toArray below meth c H locs 0 0 Q (F0 m 2 ls []) := by
    intro n2
    induction n2 with
    | zero =>
      intro x2 h ls H locs hw
      exact (show False from hw).elim
    | succ n2 ih2 =>
      intro x2 h ls H locs hw hW hS hl
      have hw : g_X4_placeOf_L2b ct a0 this a1 Post  (g_X4_placeOf_L2 ct a0 this a1 Post  n2) x2 h := hw
      unfold g_X4_placeOf_L2b at hw
      refine lv_iload_n hx hb dX4_placeOf_2 rfl (lv_at hl 2 rfl) ?_
      refine lv_aload_n hx hb dX4_placeOf_3 rfl (lv_at hl 0 rfl) ?_
      obtain ⟨fs1, v1, e1, f1, hw⟩ := hw
      refine kw_get (ci := 5) (C := RX4) (T := TX4) (N := 14) hx hb hts inlX4 hown hK hW e1 rfl 3 (by decide) (hts _ q_2_16) (fun _ h9 => h9) f1 dX4_placeOf_4 ?_
      obtain ⟨⟨fs2, e2⟩, hw⟩ := hw
      refine k_call (As := []) (rest := [.int x2]) (ci := 0) (cg_Jx4a65c_size_8abf5 l D ct a0 v1 h _ hw) B hK hN hZ hA hW hS e2 rfl k_Jx4a65c_size_8abf5 q_5_8 rfl ⟨Nat.le_of_ble_eq_true rfl, Nat.le_of_ble_eq_true rfl⟩ ⟨Nat.le_of_ble_eq_true rfl, Nat.le_of_ble_eq_true rfl⟩ hl.1 rfl (Nat.le_of_ble_eq_true rfl) dX4_placeOf_7 (fun v2 h2 H locs hw hW hS => ?_)
      refine lv_icmp_ge (tgt := 39) hx hb dX4_placeOf_10 (by decide) (fun c3 => ?_) (fun c3 => ?_)
      · have hw := itp c3 hw
        refine lv_iconst (v := (-1 : Int32)) hx hb dX4_placeOf_39 (by decide) ?_
        refine W.widen (k := 0) (n := 0) (by omega) (by omega) ?_
        exact hret _ _ _ _ (-1 : Int32) h2 (vp_nar_int _) dX4_placeOf_40 hw hW hS
      · have hw := itn c3 hw
        refine lv_aload_n hx hb dX4_placeOf_13 rfl (lv_at hl 0 rfl) ?_
        obtain ⟨fs4, v4, e4, f4, hw⟩ := hw
        refine kw_get (ci := 5) (C := RX4) (T := TX4) (N := 14) hx hb hts inlX4 hown hK hW e4 rfl 3 (by decide) (hts _ q_2_16) (fun _ h9 => h9) f4 dX4_placeOf_14 ?_
        refine lv_iload_n hx hb dX4_placeOf_17 rfl (lv_at hl 2 rfl) ?_
        obtain ⟨⟨fs5, e5⟩, hw⟩ := hw
        refine k_call (As := [.int x2]) (rest := []) (ci := 0) (cg_Jx4a65c_get_915e3 l D ct a0 v4 x2 h2 _ hw) B hK hN hZ hA hW hS e5 rfl k_Jx4a65c_get_915e3 q_5_13 rfl ⟨Nat.le_of_ble_eq_true rfl, Nat.le_of_ble_eq_true rfl⟩ ⟨Nat.le_of_ble_eq_true rfl, Nat.le_of_ble_eq_true rfl⟩ hl.1 rfl (Nat.le_of_ble_eq_true rfl) dX4_placeOf_18 (fun v5 h5 H locs hw hW hS => ?_)
        obtain ⟨⟨xa6, e6⟩, hw⟩ := hw
        refine kw_castO (ci := 1) hx hb hown (hts _ q_13_4) hK hW e6 rfl dX4_placeOf_21 ?_
        obtain ⟨fs7, v7, e7, f7, hw⟩ := hw
        refine kw_get (ci := 1) (C := RX0) (T := TX0) (N := 5) hx hb hts inlX0 hown hK hW e7 rfl 0 (by decide) (hts _ q_9_15) (fun _ h9 => h9) f7 dX4_placeOf_24 ?_
        refine lv_iload_n hx hb dX4_placeOf_27 rfl (lv_at hl 1 rfl) ?_
        refine lv_icmp_ne (tgt := 33) hx hb dX4_placeOf_28 (by decide) (fun c8 => ?_) (fun c8 => ?_)
        · have hw := itn c8 hw
          refine lv_iinc (v := (x2 + (1 : Int32))) (lv' := [(2, .int (x2 + (1 : Int32))), (0, .ref this), (1, .int a1)]) hx hb dX4_placeOf_33 hl (k := 2) rfl (congrArg (HAdd.hAdd x2) (by decide)) (by decide) rfl (fun ls hl => ?_)
          refine lv_goto (tgt := 2) hx hb dX4_placeOf_36 (by decide) ?_
          refine W.widen (k := 0) (n := 0) (by omega) (by omega) ?_
          exact ih2 (x2 + (1 : Int32)) h5 _ _ _ hw hW hS (lv_sub hl [1, 2, 0] rfl)
        · have hw := itp c8 hw
          refine lv_iload_n hx hb dX4_placeOf_31 rfl (lv_at hl 2 rfl) ?_
          refine W.widen (k := 0) (n := 0) (by omega) (by omega) ?_
          exact hret _ _ _ _ x2 h5 (vp_nar_int _) dX4_placeOf_32 hw hW hS
  unfold g_X4_placeOf at hw
  refine lv_iconst (v := (0 : Int32)) hx hb dX4_placeOf_0 (by decide) ?_
  refine lv_istore_n (lv' := [(2, .int (0 : Int32)), (0, .ref this), (1, .int a1)]) hx hb dX4_placeOf_1 rfl hl (by decide) rfl (fun ls hl => ?_)
  exact hL2 1024 (0 : Int32) h _ _ _ hw hW hS (lv_sub hl [1, 2, 0] rfl)

def g_X4_keptWith_L4b (ct : Nat → ClassId) (a0 : Nat) (this : Nat) (a1 : Int32) (Post : Int32 → KH → Prop)  (k4 : Int32 → Int32 → KH → Prop) (x2 : Int32) (x3 : Int32) (h : KH) : Prop :=
  rdR h this 5 3 (fun v1 => isO h v1 0 (g_Jx4a65c_size_8abf5 ct a0 v1 h (fun v2 h2 => if v2 ≤ x3 then Post x2 h2
  else rdR h2 this 5 3 (fun v4 => isO h2 v4 0 (g_Jx4a65c_get_915e3 ct a0 v4 x3 h2 (fun v5 h5 => isO h5 v5 1 (rdI h5 v5 1 0 (fun v7 => (∃ q8, f_X5_hasAll v7 a1 = some q8 ∧ if q8 = (0 : Int32) then k4 x2 (x3 + (1 : Int32)) h5
  else k4 (x2 + (1 : Int32)) (x3 + (1 : Int32)) h5)))))))))
def g_X4_keptWith_L4 (ct : Nat → ClassId) (a0 : Nat) (this : Nat) (a1 : Int32) (Post : Int32 → KH → Prop)  : Nat → Int32 → Int32 → KH → Prop
  | 0 => fun _ _ _ => False
  | n + 1 => g_X4_keptWith_L4b ct a0 this a1 Post  (g_X4_keptWith_L4 ct a0 this a1 Post  n)
def g_X4_keptWith (ct : Nat → ClassId) (a0 : Nat) (this : Nat) (a1 : Int32) (h : KH) (Post : Int32 → KH → Prop) : Prop :=
  g_X4_keptWith_L4 ct a0 this a1 Post  1024 (0 : Int32) (0 : Int32) h
set_option maxRecDepth 100000 in
set_option maxHeartbeats 4000000 in
theorem cg_X4_keptWith (l : Launch) (D : va_G) (ct : Nat → ClassId) (a0 : Nat) (this : Nat) (a1 : Int32) (h : KH) (Post : Int32 → KH → Prop) (hw : g_X4_keptWith ct a0 this a1 h Post) : CK l yX4_keptWith cX4_keptWith 4 3 0 0 (some .int) D ct a0 [.ref this, .int a1] vI h Post := by
  refine CK.mkI (by decide) (Nat.le_of_ble_eq_true rfl) ?_
  intro p e s m below meth c Q A X hret hW hS ls hl
  obtain ⟨B, hin, hK, hN, hZ, hA⟩ := X
  have B0 := B
  obtain ⟨hx, hb, hml, hown, hts⟩ := B0
  have hl : lv_has ls 4 [(0, .ref this), (1, .int a1)] := hl
  have hL4 : ∀ (n4 : Nat), ∀ (x2 : Int32) (x3 : Int32) (h : KH) (ls : Array Slot) (H : Heap) (locs : List Loc), g_X4_keptWith_L4 ct a0 this a1 Post  n4 x2 x3 h → KW D A h H → va_S A s.heap H locs → lv_has ls 4 [(0, .ref this), (1, .int a1), (2, .int x2), (3, .int x3)] → W p l e (rmF 3 0 0) s m ([.ref this, .int a1] : List Value).toArray below meth c H locs 0 0 Q (F0 m 4 ls []) := by
    intro n4
    induction n4 with
    | zero =>
      intro x2 x3 h ls H locs hw
      exact (show False from hw).elim
    | succ n4 ih4 =>
      intro x2 x3 h ls H locs hw hW hS hl
      have hw : g_X4_keptWith_L4b ct a0 this a1 Post  (g_X4_keptWith_L4 ct a0 this a1 Post  n4) x2 x3 h := hw
      unfold g_X4_keptWith_L4b at hw
      refine lv_iload_n hx hb dX4_keptWith_4 rfl (lv_at hl 3 rfl) ?_
      refine lv_aload_n hx hb dX4_keptWith_5 rfl (lv_at hl 0 rfl) ?_
      obtain ⟨fs1, v1, e1, f1, hw⟩ := hw
      refine kw_get (ci := 5) (C := RX4) (T := TX4) (N := 14) hx hb hts inlX4 hown hK hW e1 rfl 3 (by decide) (hts _ q_2_16) (fun _ h9 => h9) f1 dX4_keptWith_6 ?_
      obtain ⟨⟨fs2, e2⟩, hw⟩ := hw
      refine k_call (As := []) (rest := [.int x3]) (ci := 0) (cg_Jx4a65c_size_8abf5 l D ct a0 v1 h _ hw) B hK hN hZ hA hW hS e2 rfl k_Jx4a65c_size_8abf5 q_5_8 rfl ⟨Nat.le_of_ble_eq_true rfl, Nat.le_of_ble_eq_true rfl⟩ ⟨Nat.le_of_ble_eq_true rfl, Nat.le_of_ble_eq_true rfl⟩ hl.1 rfl (Nat.le_of_ble_eq_true rfl) dX4_keptWith_9 (fun v2 h2 H locs hw hW hS => ?_)
      refine lv_icmp_ge (tgt := 45) hx hb dX4_keptWith_12 (by decide) (fun c3 => ?_) (fun c3 => ?_)
      · have hw := itp c3 hw
        refine lv_iload_n hx hb dX4_keptWith_45 rfl (lv_at hl 2 rfl) ?_
        refine W.widen (k := 0) (n := 0) (by omega) (by omega) ?_
        exact hret _ _ _ _ x2 h2 (vp_nar_int _) dX4_keptWith_46 hw hW hS
      · have hw := itn c3 hw
        refine lv_aload_n hx hb dX4_keptWith_15 rfl (lv_at hl 0 rfl) ?_
        obtain ⟨fs4, v4, e4, f4, hw⟩ := hw
        refine kw_get (ci := 5) (C := RX4) (T := TX4) (N := 14) hx hb hts inlX4 hown hK hW e4 rfl 3 (by decide) (hts _ q_2_16) (fun _ h9 => h9) f4 dX4_keptWith_16 ?_
        refine lv_iload_n hx hb dX4_keptWith_19 rfl (lv_at hl 3 rfl) ?_
        obtain ⟨⟨fs5, e5⟩, hw⟩ := hw
        refine k_call (As := [.int x3]) (rest := []) (ci := 0) (cg_Jx4a65c_get_915e3 l D ct a0 v4 x3 h2 _ hw) B hK hN hZ hA hW hS e5 rfl k_Jx4a65c_get_915e3 q_5_13 rfl ⟨Nat.le_of_ble_eq_true rfl, Nat.le_of_ble_eq_true rfl⟩ ⟨Nat.le_of_ble_eq_true rfl, Nat.le_of_ble_eq_true rfl⟩ hl.1 rfl (Nat.le_of_ble_eq_true rfl) dX4_keptWith_20 (fun v5 h5 H locs hw hW hS => ?_)
        obtain ⟨⟨xa6, e6⟩, hw⟩ := hw
        refine kw_castO (ci := 1) hx hb hown (hts _ q_13_4) hK hW e6 rfl dX4_keptWith_23 ?_
        obtain ⟨fs7, v7, e7, f7, hw⟩ := hw
        refine kw_get (ci := 1) (C := RX0) (T := TX0) (N := 5) hx hb hts inlX0 hown hK hW e7 rfl 0 (by decide) (hts _ q_9_15) (fun _ h9 => h9) f7 dX4_keptWith_26 ?_
        refine lv_iload_n hx hb dX4_keptWith_29 rfl (lv_at hl 1 rfl) ?_
        obtain ⟨q8, e8, hw⟩ := hw
        refine n_call (As := [.int v7, .int a1]) (rest := []) (c_X5_hasAll l v7 a1 q8 e8) B hN.1 k_X5_hasAll (List.mem_of_getElem? (i := 10) rfl) rfl ⟨Nat.le_of_ble_eq_true rfl, Nat.le_of_ble_eq_true rfl⟩ ⟨Nat.le_of_ble_eq_true rfl, Nat.le_of_ble_eq_true rfl⟩ hl.1 rfl (Nat.le_of_ble_eq_true rfl) dX4_keptWith_30 ?_
        refine lv_if_eq (tgt := 39) hx hb dX4_keptWith_33 (by decide) (fun c9 => ?_) (fun c9 => ?_)
        · have hw := itp c9 hw
          refine lv_iinc (v := (x3 + (1 : Int32))) (lv' := [(3, .int (x3 + (1 : Int32))), (0, .ref this), (1, .int a1), (2, .int x2)]) hx hb dX4_keptWith_39 hl (k := 3) rfl (congrArg (HAdd.hAdd x3) (by decide)) (by decide) rfl (fun ls hl => ?_)
          refine lv_goto (tgt := 4) hx hb dX4_keptWith_42 (by decide) ?_
          refine W.widen (k := 0) (n := 0) (by omega) (by omega) ?_
          exact ih4 x2 (x3 + (1 : Int32)) h5 _ _ _ hw hW hS (lv_sub hl [1, 2, 3, 0] rfl)
        · have hw := itn c9 hw
          refine lv_iinc (v := (x2 + (1 : Int32))) (lv' := [(2, .int (x2 + (1 : Int32))), (0, .ref this), (1, .int a1), (3, .int x3)]) hx hb dX4_keptWith_36 hl (k := 2) rfl (congrArg (HAdd.hAdd x2) (by decide)) (by decide) rfl (fun ls hl => ?_)
          refine lv_iinc (v := (x3 + (1 : Int32))) (lv' := [(3, .int (x3 + (1 : Int32))), (2, .int (x2 + (1 : Int32))), (0, .ref this), (1, .int a1)]) hx hb dX4_keptWith_39 hl (k := 3) rfl (congrArg (HAdd.hAdd x3) (by decide)) (by decide) rfl (fun ls hl => ?_)
          refine lv_goto (tgt := 4) hx hb dX4_keptWith_42 (by decide) ?_
          refine W.widen (k := 0) (n := 0) (by omega) (by omega) ?_
          exact ih4 (x2 + (1 : Int32)) (x3 + (1 : Int32)) h5 _ _ _ hw hW hS (lv_sub hl [2, 3, 1, 0] rfl)
  unfold g_X4_keptWith at hw
  refine lv_iconst (v := (0 : Int32)) hx hb dX4_keptWith_0 (by decide) ?_
  refine lv_istore_n (lv' := [(2, .int (0 : Int32)), (0, .ref this), (1, .int a1)]) hx hb dX4_keptWith_1 rfl hl (by decide) rfl (fun ls hl => ?_)
  refine lv_iconst (v := (0 : Int32)) hx hb dX4_keptWith_2 (by decide) ?_
  refine lv_istore_n (lv' := [(3, .int (0 : Int32)), (2, .int (0 : Int32)), (0, .ref this), (1, .int a1)]) hx hb dX4_keptWith_3 rfl hl (by decide) rfl (fun ls hl => ?_)
  exact hL4 1024 (0 : Int32) (0 : Int32) h _ _ _ hw hW hS (lv_sub hl [2, 3, 1, 0] rfl)

def g_X4_countPinned_L4b (ct : Nat → ClassId) (a0 : Nat) (this : Nat) (Post : Int32 → KH → Prop)  (k4 : Int32 → Int32 → KH → Prop) (x1 : Int32) (x2 : Int32) (h : KH) : Prop :=
  rdR h this 5 3 (fun v1 => isO h v1 0 (g_Jx4a65c_size_8abf5 ct a0 v1 h (fun v2 h2 => if v2 ≤ x2 then Post x1 h2
  else rdR h2 this 5 3 (fun v4 => isO h2 v4 0 (g_Jx4a65c_get_915e3 ct a0 v4 x2 h2 (fun v5 h5 => isO h5 v5 1 (rdI h5 v5 1 4 (fun v7 => if v7 = (0 : Int32) then k4 x1 (x2 + (1 : Int32)) h5
  else k4 (x1 + (1 : Int32)) (x2 + (1 : Int32)) h5))))))))
def g_X4_countPinned_L4 (ct : Nat → ClassId) (a0 : Nat) (this : Nat) (Post : Int32 → KH → Prop)  : Nat → Int32 → Int32 → KH → Prop
  | 0 => fun _ _ _ => False
  | n + 1 => g_X4_countPinned_L4b ct a0 this Post  (g_X4_countPinned_L4 ct a0 this Post  n)
def g_X4_countPinned (ct : Nat → ClassId) (a0 : Nat) (this : Nat) (h : KH) (Post : Int32 → KH → Prop) : Prop :=
  g_X4_countPinned_L4 ct a0 this Post  1024 (0 : Int32) (0 : Int32) h
set_option maxRecDepth 100000 in
set_option maxHeartbeats 4000000 in
theorem cg_X4_countPinned (l : Launch) (D : va_G) (ct : Nat → ClassId) (a0 : Nat) (this : Nat) (h : KH) (Post : Int32 → KH → Prop) (hw : g_X4_countPinned ct a0 this h Post) : CK l yX4_countPinned cX4_countPinned 3 3 0 0 (some .int) D ct a0 [.ref this] vI h Post := by
  refine CK.mkI (by decide) (Nat.le_of_ble_eq_true rfl) ?_
  intro p e s m below meth c Q A X hret hW hS ls hl
  obtain ⟨B, hin, hK, hN, hZ, hA⟩ := X
  have B0 := B
  obtain ⟨hx, hb, hml, hown, hts⟩ := B0
  have hl : lv_has ls 3 [(0, .ref this)] := hl
  have hL4 : ∀ (n4 : Nat), ∀ (x1 : Int32) (x2 : Int32) (h : KH) (ls : Array Slot) (H : Heap) (locs : List Loc), g_X4_countPinned_L4 ct a0 this Post  n4 x1 x2 h → KW D A h H → va_S A s.heap H locs → lv_has ls 3 [(0, .ref this), (1, .int x1), (2, .int x2)] → W p l e (rmF 3 0 0) s m ([.ref this] : List Value).toArray below meth c H locs 0 0 Q (F0 m 4 ls []) := by
    intro n4
    induction n4 with
    | zero =>
      intro x1 x2 h ls H locs hw
      exact (show False from hw).elim
    | succ n4 ih4 =>
      intro x1 x2 h ls H locs hw hW hS hl
      have hw : g_X4_countPinned_L4b ct a0 this Post  (g_X4_countPinned_L4 ct a0 this Post  n4) x1 x2 h := hw
      unfold g_X4_countPinned_L4b at hw
      refine lv_iload_n hx hb dX4_countPinned_4 rfl (lv_at hl 2 rfl) ?_
      refine lv_aload_n hx hb dX4_countPinned_5 rfl (lv_at hl 0 rfl) ?_
      obtain ⟨fs1, v1, e1, f1, hw⟩ := hw
      refine kw_get (ci := 5) (C := RX4) (T := TX4) (N := 14) hx hb hts inlX4 hown hK hW e1 rfl 3 (by decide) (hts _ q_2_16) (fun _ h9 => h9) f1 dX4_countPinned_6 ?_
      obtain ⟨⟨fs2, e2⟩, hw⟩ := hw
      refine k_call (As := []) (rest := [.int x2]) (ci := 0) (cg_Jx4a65c_size_8abf5 l D ct a0 v1 h _ hw) B hK hN hZ hA hW hS e2 rfl k_Jx4a65c_size_8abf5 q_5_8 rfl ⟨Nat.le_of_ble_eq_true rfl, Nat.le_of_ble_eq_true rfl⟩ ⟨Nat.le_of_ble_eq_true rfl, Nat.le_of_ble_eq_true rfl⟩ hl.1 rfl (Nat.le_of_ble_eq_true rfl) dX4_countPinned_9 (fun v2 h2 H locs hw hW hS => ?_)
      refine lv_icmp_ge (tgt := 41) hx hb dX4_countPinned_12 (by decide) (fun c3 => ?_) (fun c3 => ?_)
      · have hw := itp c3 hw
        refine lv_iload_n hx hb dX4_countPinned_41 rfl (lv_at hl 1 rfl) ?_
        refine W.widen (k := 0) (n := 0) (by omega) (by omega) ?_
        exact hret _ _ _ _ x1 h2 (vp_nar_int _) dX4_countPinned_42 hw hW hS
      · have hw := itn c3 hw
        refine lv_aload_n hx hb dX4_countPinned_15 rfl (lv_at hl 0 rfl) ?_
        obtain ⟨fs4, v4, e4, f4, hw⟩ := hw
        refine kw_get (ci := 5) (C := RX4) (T := TX4) (N := 14) hx hb hts inlX4 hown hK hW e4 rfl 3 (by decide) (hts _ q_2_16) (fun _ h9 => h9) f4 dX4_countPinned_16 ?_
        refine lv_iload_n hx hb dX4_countPinned_19 rfl (lv_at hl 2 rfl) ?_
        obtain ⟨⟨fs5, e5⟩, hw⟩ := hw
        refine k_call (As := [.int x2]) (rest := []) (ci := 0) (cg_Jx4a65c_get_915e3 l D ct a0 v4 x2 h2 _ hw) B hK hN hZ hA hW hS e5 rfl k_Jx4a65c_get_915e3 q_5_13 rfl ⟨Nat.le_of_ble_eq_true rfl, Nat.le_of_ble_eq_true rfl⟩ ⟨Nat.le_of_ble_eq_true rfl, Nat.le_of_ble_eq_true rfl⟩ hl.1 rfl (Nat.le_of_ble_eq_true rfl) dX4_countPinned_20 (fun v5 h5 H locs hw hW hS => ?_)
        obtain ⟨⟨xa6, e6⟩, hw⟩ := hw
        refine kw_castO (ci := 1) hx hb hown (hts _ q_13_4) hK hW e6 rfl dX4_countPinned_23 ?_
        obtain ⟨fs7, v7, e7, f7, hw⟩ := hw
        refine kw_get (ci := 1) (C := RX0) (T := TX0) (N := 5) hx hb hts inlX0 hown hK hW e7 rfl 4 (by decide) (hts _ q_9_14) (fun _ h9 => h9) f7 dX4_countPinned_26 ?_
        refine lv_if_eq (tgt := 35) hx hb dX4_countPinned_29 (by decide) (fun c8 => ?_) (fun c8 => ?_)
        · have hw := itp c8 hw
          refine lv_iinc (v := (x2 + (1 : Int32))) (lv' := [(2, .int (x2 + (1 : Int32))), (0, .ref this), (1, .int x1)]) hx hb dX4_countPinned_35 hl (k := 2) rfl (congrArg (HAdd.hAdd x2) (by decide)) (by decide) rfl (fun ls hl => ?_)
          refine lv_goto (tgt := 4) hx hb dX4_countPinned_38 (by decide) ?_
          refine W.widen (k := 0) (n := 0) (by omega) (by omega) ?_
          exact ih4 x1 (x2 + (1 : Int32)) h5 _ _ _ hw hW hS (lv_sub hl [1, 2, 0] rfl)
        · have hw := itn c8 hw
          refine lv_iinc (v := (x1 + (1 : Int32))) (lv' := [(1, .int (x1 + (1 : Int32))), (0, .ref this), (2, .int x2)]) hx hb dX4_countPinned_32 hl (k := 1) rfl (congrArg (HAdd.hAdd x1) (by decide)) (by decide) rfl (fun ls hl => ?_)
          refine lv_iinc (v := (x2 + (1 : Int32))) (lv' := [(2, .int (x2 + (1 : Int32))), (1, .int (x1 + (1 : Int32))), (0, .ref this)]) hx hb dX4_countPinned_35 hl (k := 2) rfl (congrArg (HAdd.hAdd x2) (by decide)) (by decide) rfl (fun ls hl => ?_)
          refine lv_goto (tgt := 4) hx hb dX4_countPinned_38 (by decide) ?_
          refine W.widen (k := 0) (n := 0) (by omega) (by omega) ?_
          exact ih4 (x1 + (1 : Int32)) (x2 + (1 : Int32)) h5 _ _ _ hw hW hS (lv_sub hl [2, 1, 0] rfl)
  unfold g_X4_countPinned at hw
  refine lv_iconst (v := (0 : Int32)) hx hb dX4_countPinned_0 (by decide) ?_
  refine lv_istore_n (lv' := [(1, .int (0 : Int32)), (0, .ref this)]) hx hb dX4_countPinned_1 rfl hl (by decide) rfl (fun ls hl => ?_)
  refine lv_iconst (v := (0 : Int32)) hx hb dX4_countPinned_2 (by decide) ?_
  refine lv_istore_n (lv' := [(2, .int (0 : Int32)), (1, .int (0 : Int32)), (0, .ref this)]) hx hb dX4_countPinned_3 rfl hl (by decide) rfl (fun ls hl => ?_)
  exact hL4 1024 (0 : Int32) (0 : Int32) h _ _ _ hw hW hS (lv_sub hl [2, 1, 0] rfl)

def g_X4_setPinned (ct : Nat → ClassId) (a0 : Nat) (this : Nat) (a1 : Int32) (a2 : Int32) (h : KH) (Post : Unit → KH → Prop) : Prop :=
  if a1 < (0 : Int32) then Post () h
  else rdR h this 5 3 (fun v2 => isO h v2 0 (g_Jx4a65c_size_8abf5 ct a0 v2 h (fun v3 h3 => if v3 ≤ a1 then Post () h3
  else rdR h3 this 5 3 (fun v5 => isO h3 v5 0 (g_Jx4a65c_get_915e3 ct a0 v5 a1 h3 (fun v6 h6 => isO h6 v6 1 (rdR h6 this 5 3 (fun v8 => nwC h6 (.inr (1, [.int 0, .int 0, .null, .long 0, .int 0])) (fun q9 h9 => rdI h9 v6 1 0 (fun v10 => rdI h9 v6 1 1 (fun v11 => rdR h9 v6 1 2 (fun v12 => rdL h9 v6 1 3 (fun v13 => g_X0_init ct a0 q9 v10 v11 v12 v13 a2 h9 (fun _ h14 => isO h14 v8 0 (g_Jx4a65c_set_bcc79 ct a0 v8 a1 q9 h14 (fun v15 h15 => Post () h15))))))))))))))))
set_option maxRecDepth 100000 in
set_option maxHeartbeats 4000000 in
theorem cg_X4_setPinned (l : Launch) (D : va_G) (ct : Nat → ClassId) (a0 : Nat) (this : Nat) (a1 : Int32) (a2 : Int32) (h : KH) (Post : Unit → KH → Prop) (hw : g_X4_setPinned ct a0 this a1 a2 h Post) : CK l yX4_setPinned cX4_setPinned 4 3 1 5 none D ct a0 [.ref this, .int a1, .int a2] vV h Post := by
  refine CK.mkV (by decide) (Nat.le_of_ble_eq_true rfl) ?_
  intro p e s m below meth c Q A X hret hW hS ls hl
  obtain ⟨B, hin, hK, hN, hZ, hA⟩ := X
  have B0 := B
  obtain ⟨hx, hb, hml, hown, hts⟩ := B0
  have hl : lv_has ls 4 [(0, .ref this), (1, .int a1), (2, .int a2)] := hl
  unfold g_X4_setPinned at hw
  refine lv_iload_n hx hb dX4_setPinned_0 rfl (lv_at hl 1 rfl) ?_
  refine lv_if_lt (tgt := 60) hx hb dX4_setPinned_1 (by decide) (fun c1 => ?_) (fun c1 => ?_)
  · have hw := itp c1 hw
    refine W.widen (k := 1) (n := 5) (by omega) (by omega) ?_
    exact hret _ _ _ _ h dX4_setPinned_60 hw hW hS
  · have hw := itn c1 hw
    refine lv_iload_n hx hb dX4_setPinned_4 rfl (lv_at hl 1 rfl) ?_
    refine lv_aload_n hx hb dX4_setPinned_5 rfl (lv_at hl 0 rfl) ?_
    obtain ⟨fs2, v2, e2, f2, hw⟩ := hw
    refine kw_get (ci := 5) (C := RX4) (T := TX4) (N := 14) hx hb hts inlX4 hown hK hW e2 rfl 3 (by decide) (hts _ q_2_16) (fun _ h9 => h9) f2 dX4_setPinned_6 ?_
    obtain ⟨⟨fs3, e3⟩, hw⟩ := hw
    refine k_call (As := []) (rest := [.int a1]) (ci := 0) (cg_Jx4a65c_size_8abf5 l D ct a0 v2 h _ hw) B hK hN hZ hA hW hS e3 rfl k_Jx4a65c_size_8abf5 q_5_8 rfl ⟨Nat.le_of_ble_eq_true rfl, Nat.le_of_ble_eq_true rfl⟩ ⟨Nat.le_of_ble_eq_true rfl, Nat.le_of_ble_eq_true rfl⟩ hl.1 rfl (Nat.le_of_ble_eq_true rfl) dX4_setPinned_9 (fun v3 h3 H locs hw hW hS => ?_)
    refine lv_icmp_ge (tgt := 60) hx hb dX4_setPinned_12 (by decide) (fun c4 => ?_) (fun c4 => ?_)
    · have hw := itp c4 hw
      refine W.widen (k := 1) (n := 5) (by omega) (by omega) ?_
      exact hret _ _ _ _ h3 dX4_setPinned_60 hw hW hS
    · have hw := itn c4 hw
      refine lv_aload_n hx hb dX4_setPinned_15 rfl (lv_at hl 0 rfl) ?_
      obtain ⟨fs5, v5, e5, f5, hw⟩ := hw
      refine kw_get (ci := 5) (C := RX4) (T := TX4) (N := 14) hx hb hts inlX4 hown hK hW e5 rfl 3 (by decide) (hts _ q_2_16) (fun _ h9 => h9) f5 dX4_setPinned_16 ?_
      refine lv_iload_n hx hb dX4_setPinned_19 rfl (lv_at hl 1 rfl) ?_
      obtain ⟨⟨fs6, e6⟩, hw⟩ := hw
      refine k_call (As := [.int a1]) (rest := []) (ci := 0) (cg_Jx4a65c_get_915e3 l D ct a0 v5 a1 h3 _ hw) B hK hN hZ hA hW hS e6 rfl k_Jx4a65c_get_915e3 q_5_13 rfl ⟨Nat.le_of_ble_eq_true rfl, Nat.le_of_ble_eq_true rfl⟩ ⟨Nat.le_of_ble_eq_true rfl, Nat.le_of_ble_eq_true rfl⟩ hl.1 rfl (Nat.le_of_ble_eq_true rfl) dX4_setPinned_20 (fun v6 h6 H locs hw hW hS => ?_)
      obtain ⟨⟨xa7, e7⟩, hw⟩ := hw
      refine kw_castO (ci := 1) hx hb hown (hts _ q_13_4) hK hW e7 rfl dX4_setPinned_23 ?_
      refine lv_astore_n (lv' := [(3, .ref v6), (0, .ref this), (1, .int a1), (2, .int a2)]) hx hb dX4_setPinned_26 rfl hl (by decide) rfl (fun ls hl => ?_)
      refine lv_aload_n hx hb dX4_setPinned_27 rfl (lv_at hl 1 rfl) ?_
      obtain ⟨fs8, v8, e8, f8, hw⟩ := hw
      refine kw_get (ci := 5) (C := RX4) (T := TX4) (N := 14) hx hb hts inlX4 hown hK hW e8 rfl 3 (by decide) (hts _ q_2_16) (fun _ h9 => h9) f8 dX4_setPinned_28 ?_
      refine lv_iload_n hx hb dX4_setPinned_31 rfl (lv_at hl 2 rfl) ?_
      refine kw_new (ci := 1) (fs := [.int 0, .int 0, .null, .long 0, .int 0]) (C := RX0) (T := TX0) (N := 5) hx hb hts inlX0 tyX0 tyX0_ok hown (hts _ q_13_4) (hts _ q_13_5) (hts _ q_13_6) hK hW hS hA rfl (fun j hj => by rcases (show j = 0 ∨ j = 1 ∨ j = 2 ∨ j = 3 ∨ j = 4 by omega) with rfl | rfl | rfl | rfl | rfl <;> rfl) (Nat.le_of_ble_eq_true rfl) (Nat.le_of_ble_eq_true rfl) dX4_setPinned_32 (fun q9 H h9 n9 eh9 hW hS => ?_)
      have hw := hw q9 h9 n9 eh9
      refine lv_dup hx hb dX4_setPinned_35 rfl ?_
      refine lv_aload_n hx hb dX4_setPinned_36 rfl (lv_at hl 0 rfl) ?_
      obtain ⟨fs10, v10, e10, f10, hw⟩ := hw
      refine kw_get (ci := 1) (C := RX0) (T := TX0) (N := 5) hx hb hts inlX0 hown hK hW e10 rfl 0 (by decide) (hts _ q_9_15) (fun _ h9 => h9) f10 dX4_setPinned_37 ?_
      refine lv_aload_n hx hb dX4_setPinned_40 rfl (lv_at hl 0 rfl) ?_
      obtain ⟨fs11, v11, e11, f11, hw⟩ := hw
      refine kw_get (ci := 1) (C := RX0) (T := TX0) (N := 5) hx hb hts inlX0 hown hK hW e11 rfl 1 (by decide) (hts _ q_13_7) (fun _ h9 => h9) f11 dX4_setPinned_41 ?_
      refine lv_aload_n hx hb dX4_setPinned_44 rfl (lv_at hl 0 rfl) ?_
      obtain ⟨fs12, v12, e12, f12, hw⟩ := hw
      refine kw_get (ci := 1) (C := RX0) (T := TX0) (N := 5) hx hb hts inlX0 hown hK hW e12 rfl 2 (by decide) (hts _ q_10_22) (fun _ h9 => h9) f12 dX4_setPinned_45 ?_
      refine lv_aload_n hx hb dX4_setPinned_48 rfl (lv_at hl 0 rfl) ?_
      obtain ⟨fs13, v13, e13, f13, hw⟩ := hw
      refine kw_get (ci := 1) (C := RX0) (T := TX0) (N := 5) hx hb hts inlX0 hown hK hW e13 rfl 3 (by decide) (hts _ q_13_8) (fun _ h9 => h9) f13 dX4_setPinned_49 ?_
      refine lv_iload_n hx hb dX4_setPinned_52 rfl (lv_at hl 3 rfl) ?_
      refine ki_call (As := [.int v10, .int v11, .ref v12, .long v13, .int a2]) (rest := [.ref q9, .int a1, .ref v8]) (cg_X0_init l D ct a0 q9 v10 v11 v12 v13 a2 h9 _ hw) B hK hN hZ hA hW hS k_X0_init q_13_9 rfl ⟨Nat.le_of_ble_eq_true rfl, Nat.le_of_ble_eq_true rfl⟩ ⟨Nat.le_of_ble_eq_true rfl, Nat.le_of_ble_eq_true rfl⟩ hl.1 rfl (Nat.le_of_ble_eq_true rfl) dX4_setPinned_53 (fun v14 h14 H locs hw hW hS => ?_)
      obtain ⟨⟨fs15, e15⟩, hw⟩ := hw
      refine k_call (As := [.int a1, .ref q9]) (rest := []) (ci := 0) (cg_Jx4a65c_set_bcc79 l D ct a0 v8 a1 q9 h14 _ hw) B hK hN hZ hA hW hS e15 rfl k_Jx4a65c_set_bcc79 q_17_5 rfl ⟨Nat.le_of_ble_eq_true rfl, Nat.le_of_ble_eq_true rfl⟩ ⟨Nat.le_of_ble_eq_true rfl, Nat.le_of_ble_eq_true rfl⟩ hl.1 rfl (Nat.le_of_ble_eq_true rfl) dX4_setPinned_56 (fun v15 h15 H locs hw hW hS => ?_)
      refine lv_pop hx hb dX4_setPinned_59 rfl ?_
      refine W.widen (k := 1) (n := 5) (by omega) (by omega) ?_
      exact hret _ _ _ _ h15 dX4_setPinned_60 hw hW hS

def g_X4_useAgain (ct : Nat → ClassId) (a0 : Nat) (this : Nat) (a1 : Int32) (h : KH) (Post : Unit → KH → Prop) : Prop :=
  if a1 < (0 : Int32) then Post () h
  else rdR h this 5 3 (fun v2 => isO h v2 0 (g_Jx4a65c_size_8abf5 ct a0 v2 h (fun v3 h3 => if v3 ≤ a1 then Post () h3
  else rdR h3 this 5 3 (fun v5 => isO h3 v5 0 (g_Jx4a65c_remove_915e3 ct a0 v5 a1 h3 (fun v6 h6 => isO h6 v6 1 (rdR h6 this 5 3 (fun v8 => nwC h6 (.inr (1, [.int 0, .int 0, .null, .long 0, .int 0])) (fun q9 h9 => rdI h9 v6 1 0 (fun v10 => rdI h9 v6 1 1 (fun v11 => rdR h9 v6 1 2 (fun v12 => rdL h9 v6 1 3 (fun v13 => rdI h9 v6 1 4 (fun v14 => g_X0_init ct a0 q9 v10 v11 v12 (v13 + (1 : Int64)) v14 h9 (fun _ h15 => isO h15 v8 0 (g_Jx4a65c_add_9ea2d ct a0 v8 q9 h15 (fun v16 h16 => rdL h16 this 5 5 (fun v17 => wrF h16 this 5 5 (.long (v17 + (1 : Int64))) (fun h18 => Post () h18)))))))))))))))))))
set_option maxRecDepth 100000 in
set_option maxHeartbeats 4000000 in
theorem cg_X4_useAgain (l : Launch) (D : va_G) (ct : Nat → ClassId) (a0 : Nat) (this : Nat) (a1 : Int32) (h : KH) (Post : Unit → KH → Prop) (hw : g_X4_useAgain ct a0 this a1 h Post) : CK l yX4_useAgain cX4_useAgain 3 5 2 15 none D ct a0 [.ref this, .int a1] vV h Post := by
  refine CK.mkV (by decide) (Nat.le_of_ble_eq_true rfl) ?_
  intro p e s m below meth c Q A X hret hW hS ls hl
  obtain ⟨B, hin, hK, hN, hZ, hA⟩ := X
  have B0 := B
  obtain ⟨hx, hb, hml, hown, hts⟩ := B0
  have hl : lv_has ls 3 [(0, .ref this), (1, .int a1)] := hl
  unfold g_X4_useAgain at hw
  refine lv_iload_n hx hb dX4_useAgain_0 rfl (lv_at hl 1 rfl) ?_
  refine lv_if_lt (tgt := 74) hx hb dX4_useAgain_1 (by decide) (fun c1 => ?_) (fun c1 => ?_)
  · have hw := itp c1 hw
    refine W.widen (k := 2) (n := 15) (by omega) (by omega) ?_
    exact hret _ _ _ _ h dX4_useAgain_74 hw hW hS
  · have hw := itn c1 hw
    refine lv_iload_n hx hb dX4_useAgain_4 rfl (lv_at hl 1 rfl) ?_
    refine lv_aload_n hx hb dX4_useAgain_5 rfl (lv_at hl 0 rfl) ?_
    obtain ⟨fs2, v2, e2, f2, hw⟩ := hw
    refine kw_get (ci := 5) (C := RX4) (T := TX4) (N := 14) hx hb hts inlX4 hown hK hW e2 rfl 3 (by decide) (hts _ q_2_16) (fun _ h9 => h9) f2 dX4_useAgain_6 ?_
    obtain ⟨⟨fs3, e3⟩, hw⟩ := hw
    refine k_call (As := []) (rest := [.int a1]) (ci := 0) (cg_Jx4a65c_size_8abf5 l D ct a0 v2 h _ hw) B hK hN hZ hA hW hS e3 rfl k_Jx4a65c_size_8abf5 q_5_8 rfl ⟨Nat.le_of_ble_eq_true rfl, Nat.le_of_ble_eq_true rfl⟩ ⟨Nat.le_of_ble_eq_true rfl, Nat.le_of_ble_eq_true rfl⟩ hl.1 rfl (Nat.le_of_ble_eq_true rfl) dX4_useAgain_9 (fun v3 h3 H locs hw hW hS => ?_)
    refine lv_icmp_ge (tgt := 74) hx hb dX4_useAgain_12 (by decide) (fun c4 => ?_) (fun c4 => ?_)
    · have hw := itp c4 hw
      refine W.widen (k := 2) (n := 15) (by omega) (by omega) ?_
      exact hret _ _ _ _ h3 dX4_useAgain_74 hw hW hS
    · have hw := itn c4 hw
      refine lv_aload_n hx hb dX4_useAgain_15 rfl (lv_at hl 0 rfl) ?_
      obtain ⟨fs5, v5, e5, f5, hw⟩ := hw
      refine kw_get (ci := 5) (C := RX4) (T := TX4) (N := 14) hx hb hts inlX4 hown hK hW e5 rfl 3 (by decide) (hts _ q_2_16) (fun _ h9 => h9) f5 dX4_useAgain_16 ?_
      refine lv_iload_n hx hb dX4_useAgain_19 rfl (lv_at hl 1 rfl) ?_
      obtain ⟨⟨fs6, e6⟩, hw⟩ := hw
      refine k_call (As := [.int a1]) (rest := []) (ci := 0) (cg_Jx4a65c_remove_915e3 l D ct a0 v5 a1 h3 _ hw) B hK hN hZ hA hW hS e6 rfl k_Jx4a65c_remove_915e3 q_9_18 rfl ⟨Nat.le_of_ble_eq_true rfl, Nat.le_of_ble_eq_true rfl⟩ ⟨Nat.le_of_ble_eq_true rfl, Nat.le_of_ble_eq_true rfl⟩ hl.1 rfl (Nat.le_of_ble_eq_true rfl) dX4_useAgain_20 (fun v6 h6 H locs hw hW hS => ?_)
      obtain ⟨⟨xa7, e7⟩, hw⟩ := hw
      refine kw_castO (ci := 1) hx hb hown (hts _ q_13_4) hK hW e7 rfl dX4_useAgain_23 ?_
      refine lv_astore_n (lv' := [(2, .ref v6), (0, .ref this), (1, .int a1)]) hx hb dX4_useAgain_26 rfl hl (by decide) rfl (fun ls hl => ?_)
      refine lv_aload_n hx hb dX4_useAgain_27 rfl (lv_at hl 1 rfl) ?_
      obtain ⟨fs8, v8, e8, f8, hw⟩ := hw
      refine kw_get (ci := 5) (C := RX4) (T := TX4) (N := 14) hx hb hts inlX4 hown hK hW e8 rfl 3 (by decide) (hts _ q_2_16) (fun _ h9 => h9) f8 dX4_useAgain_28 ?_
      refine kw_new (ci := 1) (fs := [.int 0, .int 0, .null, .long 0, .int 0]) (C := RX0) (T := TX0) (N := 5) hx hb hts inlX0 tyX0 tyX0_ok hown (hts _ q_13_4) (hts _ q_13_5) (hts _ q_13_6) hK hW hS hA rfl (fun j hj => by rcases (show j = 0 ∨ j = 1 ∨ j = 2 ∨ j = 3 ∨ j = 4 by omega) with rfl | rfl | rfl | rfl | rfl <;> rfl) (Nat.le_of_ble_eq_true rfl) (Nat.le_of_ble_eq_true rfl) dX4_useAgain_31 (fun q9 H h9 n9 eh9 hW hS => ?_)
      have hw := hw q9 h9 n9 eh9
      refine lv_dup hx hb dX4_useAgain_34 rfl ?_
      refine lv_aload_n hx hb dX4_useAgain_35 rfl (lv_at hl 0 rfl) ?_
      obtain ⟨fs10, v10, e10, f10, hw⟩ := hw
      refine kw_get (ci := 1) (C := RX0) (T := TX0) (N := 5) hx hb hts inlX0 hown hK hW e10 rfl 0 (by decide) (hts _ q_9_15) (fun _ h9 => h9) f10 dX4_useAgain_36 ?_
      refine lv_aload_n hx hb dX4_useAgain_39 rfl (lv_at hl 0 rfl) ?_
      obtain ⟨fs11, v11, e11, f11, hw⟩ := hw
      refine kw_get (ci := 1) (C := RX0) (T := TX0) (N := 5) hx hb hts inlX0 hown hK hW e11 rfl 1 (by decide) (hts _ q_13_7) (fun _ h9 => h9) f11 dX4_useAgain_40 ?_
      refine lv_aload_n hx hb dX4_useAgain_43 rfl (lv_at hl 0 rfl) ?_
      obtain ⟨fs12, v12, e12, f12, hw⟩ := hw
      refine kw_get (ci := 1) (C := RX0) (T := TX0) (N := 5) hx hb hts inlX0 hown hK hW e12 rfl 2 (by decide) (hts _ q_10_22) (fun _ h9 => h9) f12 dX4_useAgain_44 ?_
      refine lv_aload_n hx hb dX4_useAgain_47 rfl (lv_at hl 0 rfl) ?_
      obtain ⟨fs13, v13, e13, f13, hw⟩ := hw
      refine kw_get (ci := 1) (C := RX0) (T := TX0) (N := 5) hx hb hts inlX0 hown hK hW e13 rfl 3 (by decide) (hts _ q_13_8) (fun _ h9 => h9) f13 dX4_useAgain_48 ?_
      refine lv_lconst (v := (1 : Int64)) hx hb dX4_useAgain_51 (by decide) ?_
      refine lv_ladd hx hb dX4_useAgain_52 ?_
      refine lv_aload_n hx hb dX4_useAgain_53 rfl (lv_at hl 0 rfl) ?_
      obtain ⟨fs14, v14, e14, f14, hw⟩ := hw
      refine kw_get (ci := 1) (C := RX0) (T := TX0) (N := 5) hx hb hts inlX0 hown hK hW e14 rfl 4 (by decide) (hts _ q_9_14) (fun _ h9 => h9) f14 dX4_useAgain_54 ?_
      refine ki_call (As := [.int v10, .int v11, .ref v12, .long (v13 + (1 : Int64)), .int v14]) (rest := [.ref q9, .ref v8]) (cg_X0_init l D ct a0 q9 v10 v11 v12 (v13 + (1 : Int64)) v14 h9 _ hw) B hK hN hZ hA hW hS k_X0_init q_13_9 rfl ⟨Nat.le_of_ble_eq_true rfl, Nat.le_of_ble_eq_true rfl⟩ ⟨Nat.le_of_ble_eq_true rfl, Nat.le_of_ble_eq_true rfl⟩ hl.1 rfl (Nat.le_of_ble_eq_true rfl) dX4_useAgain_57 (fun v15 h15 H locs hw hW hS => ?_)
      obtain ⟨⟨fs16, e16⟩, hw⟩ := hw
      refine k_call (As := [.ref q9]) (rest := []) (ci := 0) (cg_Jx4a65c_add_9ea2d l D ct a0 v8 q9 h15 _ hw) B hK hN hZ hA hW hS e16 rfl k_Jx4a65c_add_9ea2d q_6_5 rfl ⟨Nat.le_of_ble_eq_true rfl, Nat.le_of_ble_eq_true rfl⟩ ⟨Nat.le_of_ble_eq_true rfl, Nat.le_of_ble_eq_true rfl⟩ hl.1 rfl (Nat.le_of_ble_eq_true rfl) dX4_useAgain_60 (fun v16 h16 H locs hw hW hS => ?_)
      refine lv_pop hx hb dX4_useAgain_63 rfl ?_
      refine lv_aload_n hx hb dX4_useAgain_64 rfl (lv_at hl 1 rfl) ?_
      refine lv_dup hx hb dX4_useAgain_65 rfl ?_
      obtain ⟨fs17, v17, e17, f17, hw⟩ := hw
      refine kw_get (ci := 5) (C := RX4) (T := TX4) (N := 14) hx hb hts inlX4 hown hK hW e17 rfl 5 (by decide) (hts _ q_4_23) (fun _ h9 => h9) f17 dX4_useAgain_66 ?_
      refine lv_lconst (v := (1 : Int64)) hx hb dX4_useAgain_69 (by decide) ?_
      refine lv_ladd hx hb dX4_useAgain_70 ?_
      obtain ⟨fs18, e18, l18, hw⟩ := hw
      refine kw_put (ci := 5) (v := .long (v17 + (1 : Int64))) (ty := .long) (C := RX4) (T := TX4) (N := 14) hx hb hts inlX4 tyX4 tyX4_ok nmX4 hown hK hW hS e18 rfl 5 (by decide) (hts _ q_4_23) (fun _ h9 => h9) rfl  (by decide +kernel) rfl rfl l18 dX4_useAgain_71 (fun H locs h18 eh18 hW hS => ?_)
      have hw := hw h18 eh18
      refine W.widen (k := 2) (n := 15) (by omega) (by omega) ?_
      exact hret _ _ _ _ h18 dX4_useAgain_74 hw hW hS

def g_X4_pushOneOut_L2b (ct : Nat → ClassId) (a0 : Nat) (this : Nat) (Post : Int32 → KH → Prop)  (k2 : Int32 → KH → Prop) (x1 : Int32) (h : KH) : Prop :=
  rdR h this 5 3 (fun v1 => isO h v1 0 (g_Jx4a65c_size_8abf5 ct a0 v1 h (fun v2 h2 => if v2 ≤ x1 then Post (0 : Int32) h2
  else rdR h2 this 5 3 (fun v4 => isO h2 v4 0 (g_Jx4a65c_get_915e3 ct a0 v4 x1 h2 (fun v5 h5 => isO h5 v5 1 (rdI h5 v5 1 4 (fun v7 => if v7 = (0 : Int32) then rdR h5 this 5 3 (fun v9 => isO h5 v9 0 (g_Jx4a65c_remove_915e3 ct a0 v9 x1 h5 (fun v10 h10 => rdL h10 this 5 10 (fun v11 => wrF h10 this 5 10 (.long (v11 + (1 : Int64))) (fun h12 => Post (1 : Int32) h12)))))
  else k2 (x1 + (1 : Int32)) h5))))))))
def g_X4_pushOneOut_L2 (ct : Nat → ClassId) (a0 : Nat) (this : Nat) (Post : Int32 → KH → Prop)  : Nat → Int32 → KH → Prop
  | 0 => fun _ _ => False
  | n + 1 => g_X4_pushOneOut_L2b ct a0 this Post  (g_X4_pushOneOut_L2 ct a0 this Post  n)
def g_X4_pushOneOut (ct : Nat → ClassId) (a0 : Nat) (this : Nat) (h : KH) (Post : Int32 → KH → Prop) : Prop :=
  g_X4_pushOneOut_L2 ct a0 this Post  1024 (0 : Int32) h
set_option maxRecDepth 100000 in
set_option maxHeartbeats 4000000 in
theorem cg_X4_pushOneOut (l : Launch) (D : va_G) (ct : Nat → ClassId) (a0 : Nat) (this : Nat) (h : KH) (Post : Int32 → KH → Prop) (hw : g_X4_pushOneOut ct a0 this h Post) : CK l yX4_pushOneOut cX4_pushOneOut 2 3 0 0 (some .boolean) D ct a0 [.ref this] vI h Post := by
  refine CK.mkI (by decide) (Nat.le_of_ble_eq_true rfl) ?_
  intro p e s m below meth c Q A X hret hW hS ls hl
  obtain ⟨B, hin, hK, hN, hZ, hA⟩ := X
  have B0 := B
  obtain ⟨hx, hb, hml, hown, hts⟩ := B0
  have hl : lv_has ls 2 [(0, .ref this)] := hl
  have hL2 : ∀ (n2 : Nat), ∀ (x1 : Int32) (h : KH) (ls : Array Slot) (H : Heap) (locs : List Loc), g_X4_pushOneOut_L2 ct a0 this Post  n2 x1 h → KW D A h H → va_S A s.heap H locs → lv_has ls 2 [(0, .ref this), (1, .int x1)] → W p l e (rmF 3 0 0) s m ([.ref this] : List Value).toArray below meth c H locs 0 0 Q (F0 m 2 ls []) := by
    intro n2
    induction n2 with
    | zero =>
      intro x1 h ls H locs hw
      exact (show False from hw).elim
    | succ n2 ih2 =>
      intro x1 h ls H locs hw hW hS hl
      have hw : g_X4_pushOneOut_L2b ct a0 this Post  (g_X4_pushOneOut_L2 ct a0 this Post  n2) x1 h := hw
      unfold g_X4_pushOneOut_L2b at hw
      refine lv_iload_n hx hb dX4_pushOneOut_2 rfl (lv_at hl 1 rfl) ?_
      refine lv_aload_n hx hb dX4_pushOneOut_3 rfl (lv_at hl 0 rfl) ?_
      obtain ⟨fs1, v1, e1, f1, hw⟩ := hw
      refine kw_get (ci := 5) (C := RX4) (T := TX4) (N := 14) hx hb hts inlX4 hown hK hW e1 rfl 3 (by decide) (hts _ q_2_16) (fun _ h9 => h9) f1 dX4_pushOneOut_4 ?_
      obtain ⟨⟨fs2, e2⟩, hw⟩ := hw
      refine k_call (As := []) (rest := [.int x1]) (ci := 0) (cg_Jx4a65c_size_8abf5 l D ct a0 v1 h _ hw) B hK hN hZ hA hW hS e2 rfl k_Jx4a65c_size_8abf5 q_5_8 rfl ⟨Nat.le_of_ble_eq_true rfl, Nat.le_of_ble_eq_true rfl⟩ ⟨Nat.le_of_ble_eq_true rfl, Nat.le_of_ble_eq_true rfl⟩ hl.1 rfl (Nat.le_of_ble_eq_true rfl) dX4_pushOneOut_7 (fun v2 h2 H locs hw hW hS => ?_)
      refine lv_icmp_ge (tgt := 57) hx hb dX4_pushOneOut_10 (by decide) (fun c3 => ?_) (fun c3 => ?_)
      · have hw := itp c3 hw
        refine lv_iconst (v := (0 : Int32)) hx hb dX4_pushOneOut_57 (by decide) ?_
        refine W.widen (k := 0) (n := 0) (by omega) (by omega) ?_
        exact hret _ _ _ _ (0 : Int32) h2 nb0 dX4_pushOneOut_58 hw hW hS
      · have hw := itn c3 hw
        refine lv_aload_n hx hb dX4_pushOneOut_13 rfl (lv_at hl 0 rfl) ?_
        obtain ⟨fs4, v4, e4, f4, hw⟩ := hw
        refine kw_get (ci := 5) (C := RX4) (T := TX4) (N := 14) hx hb hts inlX4 hown hK hW e4 rfl 3 (by decide) (hts _ q_2_16) (fun _ h9 => h9) f4 dX4_pushOneOut_14 ?_
        refine lv_iload_n hx hb dX4_pushOneOut_17 rfl (lv_at hl 1 rfl) ?_
        obtain ⟨⟨fs5, e5⟩, hw⟩ := hw
        refine k_call (As := [.int x1]) (rest := []) (ci := 0) (cg_Jx4a65c_get_915e3 l D ct a0 v4 x1 h2 _ hw) B hK hN hZ hA hW hS e5 rfl k_Jx4a65c_get_915e3 q_5_13 rfl ⟨Nat.le_of_ble_eq_true rfl, Nat.le_of_ble_eq_true rfl⟩ ⟨Nat.le_of_ble_eq_true rfl, Nat.le_of_ble_eq_true rfl⟩ hl.1 rfl (Nat.le_of_ble_eq_true rfl) dX4_pushOneOut_18 (fun v5 h5 H locs hw hW hS => ?_)
        obtain ⟨⟨xa6, e6⟩, hw⟩ := hw
        refine kw_castO (ci := 1) hx hb hown (hts _ q_13_4) hK hW e6 rfl dX4_pushOneOut_21 ?_
        obtain ⟨fs7, v7, e7, f7, hw⟩ := hw
        refine kw_get (ci := 1) (C := RX0) (T := TX0) (N := 5) hx hb hts inlX0 hown hK hW e7 rfl 4 (by decide) (hts _ q_9_14) (fun _ h9 => h9) f7 dX4_pushOneOut_24 ?_
        refine lv_if_ne (tgt := 51) hx hb dX4_pushOneOut_27 (by decide) (fun c8 => ?_) (fun c8 => ?_)
        · have hw := itn c8 hw
          refine lv_iinc (v := (x1 + (1 : Int32))) (lv' := [(1, .int (x1 + (1 : Int32))), (0, .ref this)]) hx hb dX4_pushOneOut_51 hl (k := 1) rfl (congrArg (HAdd.hAdd x1) (by decide)) (by decide) rfl (fun ls hl => ?_)
          refine lv_goto (tgt := 2) hx hb dX4_pushOneOut_54 (by decide) ?_
          refine W.widen (k := 0) (n := 0) (by omega) (by omega) ?_
          exact ih2 (x1 + (1 : Int32)) h5 _ _ _ hw hW hS (lv_sub hl [1, 0] rfl)
        · have hw := itp c8 hw
          refine lv_aload_n hx hb dX4_pushOneOut_30 rfl (lv_at hl 0 rfl) ?_
          obtain ⟨fs9, v9, e9, f9, hw⟩ := hw
          refine kw_get (ci := 5) (C := RX4) (T := TX4) (N := 14) hx hb hts inlX4 hown hK hW e9 rfl 3 (by decide) (hts _ q_2_16) (fun _ h9 => h9) f9 dX4_pushOneOut_31 ?_
          refine lv_iload_n hx hb dX4_pushOneOut_34 rfl (lv_at hl 1 rfl) ?_
          obtain ⟨⟨fs10, e10⟩, hw⟩ := hw
          refine k_call (As := [.int x1]) (rest := []) (ci := 0) (cg_Jx4a65c_remove_915e3 l D ct a0 v9 x1 h5 _ hw) B hK hN hZ hA hW hS e10 rfl k_Jx4a65c_remove_915e3 q_9_18 rfl ⟨Nat.le_of_ble_eq_true rfl, Nat.le_of_ble_eq_true rfl⟩ ⟨Nat.le_of_ble_eq_true rfl, Nat.le_of_ble_eq_true rfl⟩ hl.1 rfl (Nat.le_of_ble_eq_true rfl) dX4_pushOneOut_35 (fun v10 h10 H locs hw hW hS => ?_)
          refine lv_pop hx hb dX4_pushOneOut_38 rfl ?_
          refine lv_aload_n hx hb dX4_pushOneOut_39 rfl (lv_at hl 0 rfl) ?_
          refine lv_dup hx hb dX4_pushOneOut_40 rfl ?_
          obtain ⟨fs11, v11, e11, f11, hw⟩ := hw
          refine kw_get (ci := 5) (C := RX4) (T := TX4) (N := 14) hx hb hts inlX4 hown hK hW e11 rfl 10 (by decide) (hts _ q_5_4) (fun _ h9 => h9) f11 dX4_pushOneOut_41 ?_
          refine lv_lconst (v := (1 : Int64)) hx hb dX4_pushOneOut_44 (by decide) ?_
          refine lv_ladd hx hb dX4_pushOneOut_45 ?_
          obtain ⟨fs12, e12, l12, hw⟩ := hw
          refine kw_put (ci := 5) (v := .long (v11 + (1 : Int64))) (ty := .long) (C := RX4) (T := TX4) (N := 14) hx hb hts inlX4 tyX4 tyX4_ok nmX4 hown hK hW hS e12 rfl 10 (by decide) (hts _ q_5_4) (fun _ h9 => h9) rfl  (by decide +kernel) rfl rfl l12 dX4_pushOneOut_46 (fun H locs h12 eh12 hW hS => ?_)
          have hw := hw h12 eh12
          refine lv_iconst (v := (1 : Int32)) hx hb dX4_pushOneOut_49 (by decide) ?_
          refine W.widen (k := 0) (n := 0) (by omega) (by omega) ?_
          exact hret _ _ _ _ (1 : Int32) h12 nb1 dX4_pushOneOut_50 hw hW hS
  unfold g_X4_pushOneOut at hw
  refine lv_iconst (v := (0 : Int32)) hx hb dX4_pushOneOut_0 (by decide) ?_
  refine lv_istore_n (lv' := [(1, .int (0 : Int32)), (0, .ref this)]) hx hb dX4_pushOneOut_1 rfl hl (by decide) rfl (fun ls hl => ?_)
  exact hL2 1024 (0 : Int32) h _ _ _ hw hW hS (lv_sub hl [1, 0] rfl)

def g_X4_keepNew (ct : Nat → ClassId) (a0 : Nat) (this : Nat) (a1 : Int32) (a2 : Int32) (a3 : Int64) (h : KH) (Post : Unit → KH → Prop) : Prop :=
  rdL h this 5 6 (fun v1 => wrF h this 5 6 (.long (v1 + (1 : Int64))) (fun h2 => rdL h2 this 5 8 (fun v3 => wrF h2 this 5 8 (.long (v3 + a3)) (fun h4 => rdR h4 this 5 3 (fun v5 => isO h4 v5 0 (g_Jx4a65c_size_8abf5 ct a0 v5 h4 (fun v6 h6 => if v6 < (4 : Int32) then rdR h6 this 5 3 (fun v8 => nwC h6 (.inr (1, [.int 0, .int 0, .null, .long 0, .int 0])) (fun q9 h9 => rdR h9 this 5 1 (fun v10 => clI h9 v10 (ct 0) (fun q11 h11 => isA h11 q11 (ct 0) (g_X0_init ct a0 q9 a1 a2 q11 (1 : Int64) (0 : Int32) h11 (fun _ h13 => isO h13 v8 0 (g_Jx4a65c_add_9ea2d ct a0 v8 q9 h13 (fun v14 h14 => Post () h14))))))))
  else isO h6 this 5 (g_X4_pushOneOut ct a0 this h6 (fun v15 h15 => if v15 = (0 : Int32) then rdL h15 this 5 13 (fun v24 => wrF h15 this 5 13 (.long (v24 + (1 : Int64))) (fun h25 => Post () h25))
  else rdR h15 this 5 3 (fun v17 => nwC h15 (.inr (1, [.int 0, .int 0, .null, .long 0, .int 0])) (fun q18 h18 => rdR h18 this 5 1 (fun v19 => clI h18 v19 (ct 0) (fun q20 h20 => isA h20 q20 (ct 0) (g_X0_init ct a0 q18 a1 a2 q20 (1 : Int64) (0 : Int32) h20 (fun _ h22 => isO h22 v17 0 (g_Jx4a65c_add_9ea2d ct a0 v17 q18 h22 (fun v23 h23 => Post () h23)))))))))))))))))
set_option maxRecDepth 100000 in
set_option maxHeartbeats 4000000 in
theorem cg_X4_keepNew (l : Launch) (D : va_G) (ct : Nat → ClassId) (a0 : Nat) (this : Nat) (a1 : Int32) (a2 : Int32) (a3 : Int64) (h : KH) (Post : Unit → KH → Prop) (hw : g_X4_keepNew ct a0 this a1 a2 a3 h Post) : CK l yX4_keepNew cX4_keepNew 5 5 3 20 none D ct a0 [.ref this, .int a1, .int a2, .long a3] vV h Post := by
  refine CK.mkV (by decide) (Nat.le_of_ble_eq_true rfl) ?_
  intro p e s m below meth c Q A X hret hW hS ls hl
  obtain ⟨B, hin, hK, hN, hZ, hA⟩ := X
  have B0 := B
  obtain ⟨hx, hb, hml, hown, hts⟩ := B0
  have hl : lv_has ls 5 [(0, .ref this), (1, .int a1), (2, .int a2), (3, .long a3)] := hl
  unfold g_X4_keepNew at hw
  refine lv_aload_n hx hb dX4_keepNew_0 rfl (lv_at hl 0 rfl) ?_
  refine lv_dup hx hb dX4_keepNew_1 rfl ?_
  obtain ⟨fs1, v1, e1, f1, hw⟩ := hw
  refine kw_get (ci := 5) (C := RX4) (T := TX4) (N := 14) hx hb hts inlX4 hown hK hW e1 rfl 6 (by decide) (hts _ q_5_0) (fun _ h9 => h9) f1 dX4_keepNew_2 ?_
  refine lv_lconst (v := (1 : Int64)) hx hb dX4_keepNew_5 (by decide) ?_
  refine lv_ladd hx hb dX4_keepNew_6 ?_
  obtain ⟨fs2, e2, l2, hw⟩ := hw
  refine kw_put (ci := 5) (v := .long (v1 + (1 : Int64))) (ty := .long) (C := RX4) (T := TX4) (N := 14) hx hb hts inlX4 tyX4 tyX4_ok nmX4 hown hK hW hS e2 rfl 6 (by decide) (hts _ q_5_0) (fun _ h9 => h9) rfl  (by decide +kernel) rfl rfl l2 dX4_keepNew_7 (fun H locs h2 eh2 hW hS => ?_)
  have hw := hw h2 eh2
  refine lv_aload_n hx hb dX4_keepNew_10 rfl (lv_at hl 0 rfl) ?_
  refine lv_dup hx hb dX4_keepNew_11 rfl ?_
  obtain ⟨fs3, v3, e3, f3, hw⟩ := hw
  refine kw_get (ci := 5) (C := RX4) (T := TX4) (N := 14) hx hb hts inlX4 hown hK hW e3 rfl 8 (by decide) (hts _ q_5_2) (fun _ h9 => h9) f3 dX4_keepNew_12 ?_
  refine lv_lload_n hx hb dX4_keepNew_15 rfl (lv_at hl 3 rfl) ?_
  refine lv_ladd hx hb dX4_keepNew_16 ?_
  obtain ⟨fs4, e4, l4, hw⟩ := hw
  refine kw_put (ci := 5) (v := .long (v3 + a3)) (ty := .long) (C := RX4) (T := TX4) (N := 14) hx hb hts inlX4 tyX4 tyX4_ok nmX4 hown hK hW hS e4 rfl 8 (by decide) (hts _ q_5_2) (fun _ h9 => h9) rfl  (by decide +kernel) rfl rfl l4 dX4_keepNew_17 (fun H locs h4 eh4 hW hS => ?_)
  have hw := hw h4 eh4
  refine lv_aload_n hx hb dX4_keepNew_20 rfl (lv_at hl 0 rfl) ?_
  obtain ⟨fs5, v5, e5, f5, hw⟩ := hw
  refine kw_get (ci := 5) (C := RX4) (T := TX4) (N := 14) hx hb hts inlX4 hown hK hW e5 rfl 3 (by decide) (hts _ q_2_16) (fun _ h9 => h9) f5 dX4_keepNew_21 ?_
  obtain ⟨⟨fs6, e6⟩, hw⟩ := hw
  refine k_call (As := []) (rest := []) (ci := 0) (cg_Jx4a65c_size_8abf5 l D ct a0 v5 h4 _ hw) B hK hN hZ hA hW hS e6 rfl k_Jx4a65c_size_8abf5 q_5_8 rfl ⟨Nat.le_of_ble_eq_true rfl, Nat.le_of_ble_eq_true rfl⟩ ⟨Nat.le_of_ble_eq_true rfl, Nat.le_of_ble_eq_true rfl⟩ hl.1 rfl (Nat.le_of_ble_eq_true rfl) dX4_keepNew_24 (fun v6 h6 H locs hw hW hS => ?_)
  refine lv_iconst (v := (4 : Int32)) hx hb dX4_keepNew_27 (by decide) ?_
  refine lv_icmp_lt (tgt := 51) hx hb dX4_keepNew_28 (by decide) (fun c7 => ?_) (fun c7 => ?_)
  · have hw := itp c7 hw
    refine lv_aload_n hx hb dX4_keepNew_51 rfl (lv_at hl 0 rfl) ?_
    obtain ⟨fs8, v8, e8, f8, hw⟩ := hw
    refine kw_get (ci := 5) (C := RX4) (T := TX4) (N := 14) hx hb hts inlX4 hown hK hW e8 rfl 3 (by decide) (hts _ q_2_16) (fun _ h9 => h9) f8 dX4_keepNew_52 ?_
    refine kw_new (ci := 1) (fs := [.int 0, .int 0, .null, .long 0, .int 0]) (C := RX0) (T := TX0) (N := 5) hx hb hts inlX0 tyX0 tyX0_ok hown (hts _ q_13_4) (hts _ q_13_5) (hts _ q_13_6) hK hW hS hA rfl (fun j hj => by rcases (show j = 0 ∨ j = 1 ∨ j = 2 ∨ j = 3 ∨ j = 4 by omega) with rfl | rfl | rfl | rfl | rfl <;> rfl) (Nat.le_of_ble_eq_true rfl) (Nat.le_of_ble_eq_true rfl) dX4_keepNew_55 (fun q9 H h9 n9 eh9 hW hS => ?_)
    have hw := hw q9 h9 n9 eh9
    refine lv_dup hx hb dX4_keepNew_58 rfl ?_
    refine lv_iload_n hx hb dX4_keepNew_59 rfl (lv_at hl 1 rfl) ?_
    refine lv_iload_n hx hb dX4_keepNew_60 rfl (lv_at hl 2 rfl) ?_
    refine lv_aload_n hx hb dX4_keepNew_61 rfl (lv_at hl 0 rfl) ?_
    obtain ⟨fs10, v10, e10, f10, hw⟩ := hw
    refine kw_get (ci := 5) (C := RX4) (T := TX4) (N := 14) hx hb hts inlX4 hown hK hW e10 rfl 1 (by decide) (hts _ q_2_12) (fun _ h9 => h9) f10 dX4_keepNew_62 ?_
    obtain ⟨f11, e11, hw⟩ := hw
    refine kw_clone hx hb (hml.trans hl.1.symm) hown (hts _ q_15_9) (hts _ q_15_10) (hts _ q_15_11) (hts _ q_15_12) (hts _ q_15_13) hN hK hW hS hA e11 (Nat.le_of_ble_eq_true rfl) (Nat.le_of_ble_eq_true rfl) (Nat.le_of_ble_eq_true rfl) (Nat.le_of_ble_eq_true rfl) dX4_keepNew_65 (fun q11 H h11 n11 eh11 hW hS => ?_)
    have hw := hw q11 h11 n11 eh11
    obtain ⟨⟨xa12, e12⟩, hw⟩ := hw
    refine kw_castA hx hb hown (hts _ q_15_14) hK hW e12 dX4_keepNew_68 ?_
    refine lv_lconst (v := (1 : Int64)) hx hb dX4_keepNew_71 (by decide) ?_
    refine lv_iconst (v := (0 : Int32)) hx hb dX4_keepNew_72 (by decide) ?_
    refine ki_call (As := [.int a1, .int a2, .ref q11, .long (1 : Int64), .int (0 : Int32)]) (rest := [.ref q9, .ref v8]) (cg_X0_init l D ct a0 q9 a1 a2 q11 (1 : Int64) (0 : Int32) h11 _ hw) B hK hN hZ hA hW hS k_X0_init q_13_9 rfl ⟨Nat.le_of_ble_eq_true rfl, Nat.le_of_ble_eq_true rfl⟩ ⟨Nat.le_of_ble_eq_true rfl, Nat.le_of_ble_eq_true rfl⟩ hl.1 rfl (Nat.le_of_ble_eq_true rfl) dX4_keepNew_73 (fun v13 h13 H locs hw hW hS => ?_)
    obtain ⟨⟨fs14, e14⟩, hw⟩ := hw
    refine k_call (As := [.ref q9]) (rest := []) (ci := 0) (cg_Jx4a65c_add_9ea2d l D ct a0 v8 q9 h13 _ hw) B hK hN hZ hA hW hS e14 rfl k_Jx4a65c_add_9ea2d q_6_5 rfl ⟨Nat.le_of_ble_eq_true rfl, Nat.le_of_ble_eq_true rfl⟩ ⟨Nat.le_of_ble_eq_true rfl, Nat.le_of_ble_eq_true rfl⟩ hl.1 rfl (Nat.le_of_ble_eq_true rfl) dX4_keepNew_76 (fun v14 h14 H locs hw hW hS => ?_)
    refine lv_pop hx hb dX4_keepNew_79 rfl ?_
    refine W.widen (k := 3) (n := 20) (by omega) (by omega) ?_
    exact hret _ _ _ _ h14 dX4_keepNew_80 hw hW hS
  · have hw := itn c7 hw
    refine lv_aload_n hx hb dX4_keepNew_31 rfl (lv_at hl 0 rfl) ?_
    obtain ⟨⟨fs15, e15⟩, hw⟩ := hw
    refine k_call (As := []) (rest := []) (ci := 5) (cg_X4_pushOneOut l D ct a0 this h6 _ hw) B hK hN hZ hA hW hS e15 rfl k_X4_pushOneOut q_15_15 rfl ⟨Nat.le_of_ble_eq_true rfl, Nat.le_of_ble_eq_true rfl⟩ ⟨Nat.le_of_ble_eq_true rfl, Nat.le_of_ble_eq_true rfl⟩ hl.1 rfl (Nat.le_of_ble_eq_true rfl) dX4_keepNew_32 (fun v15 h15 H locs hw hW hS => ?_)
    refine lv_if_ne (tgt := 51) hx hb dX4_keepNew_35 (by decide) (fun c16 => ?_) (fun c16 => ?_)
    · have hw := itn c16 hw
      refine lv_aload_n hx hb dX4_keepNew_51 rfl (lv_at hl 0 rfl) ?_
      obtain ⟨fs17, v17, e17, f17, hw⟩ := hw
      refine kw_get (ci := 5) (C := RX4) (T := TX4) (N := 14) hx hb hts inlX4 hown hK hW e17 rfl 3 (by decide) (hts _ q_2_16) (fun _ h9 => h9) f17 dX4_keepNew_52 ?_
      refine kw_new (ci := 1) (fs := [.int 0, .int 0, .null, .long 0, .int 0]) (C := RX0) (T := TX0) (N := 5) hx hb hts inlX0 tyX0 tyX0_ok hown (hts _ q_13_4) (hts _ q_13_5) (hts _ q_13_6) hK hW hS hA rfl (fun j hj => by rcases (show j = 0 ∨ j = 1 ∨ j = 2 ∨ j = 3 ∨ j = 4 by omega) with rfl | rfl | rfl | rfl | rfl <;> rfl) (Nat.le_of_ble_eq_true rfl) (Nat.le_of_ble_eq_true rfl) dX4_keepNew_55 (fun q18 H h18 n18 eh18 hW hS => ?_)
      have hw := hw q18 h18 n18 eh18
      refine lv_dup hx hb dX4_keepNew_58 rfl ?_
      refine lv_iload_n hx hb dX4_keepNew_59 rfl (lv_at hl 1 rfl) ?_
      refine lv_iload_n hx hb dX4_keepNew_60 rfl (lv_at hl 2 rfl) ?_
      refine lv_aload_n hx hb dX4_keepNew_61 rfl (lv_at hl 0 rfl) ?_
      obtain ⟨fs19, v19, e19, f19, hw⟩ := hw
      refine kw_get (ci := 5) (C := RX4) (T := TX4) (N := 14) hx hb hts inlX4 hown hK hW e19 rfl 1 (by decide) (hts _ q_2_12) (fun _ h9 => h9) f19 dX4_keepNew_62 ?_
      obtain ⟨f20, e20, hw⟩ := hw
      refine kw_clone hx hb (hml.trans hl.1.symm) hown (hts _ q_15_9) (hts _ q_15_10) (hts _ q_15_11) (hts _ q_15_12) (hts _ q_15_13) hN hK hW hS hA e20 (Nat.le_of_ble_eq_true rfl) (Nat.le_of_ble_eq_true rfl) (Nat.le_of_ble_eq_true rfl) (Nat.le_of_ble_eq_true rfl) dX4_keepNew_65 (fun q20 H h20 n20 eh20 hW hS => ?_)
      have hw := hw q20 h20 n20 eh20
      obtain ⟨⟨xa21, e21⟩, hw⟩ := hw
      refine kw_castA hx hb hown (hts _ q_15_14) hK hW e21 dX4_keepNew_68 ?_
      refine lv_lconst (v := (1 : Int64)) hx hb dX4_keepNew_71 (by decide) ?_
      refine lv_iconst (v := (0 : Int32)) hx hb dX4_keepNew_72 (by decide) ?_
      refine ki_call (As := [.int a1, .int a2, .ref q20, .long (1 : Int64), .int (0 : Int32)]) (rest := [.ref q18, .ref v17]) (cg_X0_init l D ct a0 q18 a1 a2 q20 (1 : Int64) (0 : Int32) h20 _ hw) B hK hN hZ hA hW hS k_X0_init q_13_9 rfl ⟨Nat.le_of_ble_eq_true rfl, Nat.le_of_ble_eq_true rfl⟩ ⟨Nat.le_of_ble_eq_true rfl, Nat.le_of_ble_eq_true rfl⟩ hl.1 rfl (Nat.le_of_ble_eq_true rfl) dX4_keepNew_73 (fun v22 h22 H locs hw hW hS => ?_)
      obtain ⟨⟨fs23, e23⟩, hw⟩ := hw
      refine k_call (As := [.ref q18]) (rest := []) (ci := 0) (cg_Jx4a65c_add_9ea2d l D ct a0 v17 q18 h22 _ hw) B hK hN hZ hA hW hS e23 rfl k_Jx4a65c_add_9ea2d q_6_5 rfl ⟨Nat.le_of_ble_eq_true rfl, Nat.le_of_ble_eq_true rfl⟩ ⟨Nat.le_of_ble_eq_true rfl, Nat.le_of_ble_eq_true rfl⟩ hl.1 rfl (Nat.le_of_ble_eq_true rfl) dX4_keepNew_76 (fun v23 h23 H locs hw hW hS => ?_)
      refine lv_pop hx hb dX4_keepNew_79 rfl ?_
      refine W.widen (k := 3) (n := 20) (by omega) (by omega) ?_
      exact hret _ _ _ _ h23 dX4_keepNew_80 hw hW hS
    · have hw := itp c16 hw
      refine lv_aload_n hx hb dX4_keepNew_38 rfl (lv_at hl 0 rfl) ?_
      refine lv_dup hx hb dX4_keepNew_39 rfl ?_
      obtain ⟨fs24, v24, e24, f24, hw⟩ := hw
      refine kw_get (ci := 5) (C := RX4) (T := TX4) (N := 14) hx hb hts inlX4 hown hK hW e24 rfl 13 (by decide) (hts _ q_5_7) (fun _ h9 => h9) f24 dX4_keepNew_40 ?_
      refine lv_lconst (v := (1 : Int64)) hx hb dX4_keepNew_43 (by decide) ?_
      refine lv_ladd hx hb dX4_keepNew_44 ?_
      obtain ⟨fs25, e25, l25, hw⟩ := hw
      refine kw_put (ci := 5) (v := .long (v24 + (1 : Int64))) (ty := .long) (C := RX4) (T := TX4) (N := 14) hx hb hts inlX4 tyX4 tyX4_ok nmX4 hown hK hW hS e25 rfl 13 (by decide) (hts _ q_5_7) (fun _ h9 => h9) rfl  (by decide +kernel) rfl rfl l25 dX4_keepNew_45 (fun H locs h25 eh25 hW hS => ?_)
      have hw := hw h25 eh25
      refine lv_goto (tgt := 80) hx hb dX4_keepNew_48 (by decide) ?_
      refine W.widen (k := 3) (n := 20) (by omega) (by omega) ?_
      exact hret _ _ _ _ h25 dX4_keepNew_80 hw hW hS

def g_X4_driftsOnceCounted_J39 (ct : Nat → ClassId) (a0 : Nat) (this : Nat) (a1 : Nat) (a2 : Int32) (Post : Int32 → KH → Prop) (k2 : Int32 → KH → Prop) (x3 : Int32) (t0 : Int32) (h : KH) : Prop :=
  rdR h a1 1 2 (fun v9 => ldI h v9 x3 (ct 0) (fun v10 => rdI h a1 1 0 (fun v11 => (∃ q12, f_X5_has v11 x3 = some q12 ∧ if q12 = (0 : Int32) then k2 (x3 + (1 : Int32)) h
  else rdI h this 5 4 (fun v16 => if ((if t0 < v10 then v10 else t0) * (100 : Int32)) ≤ ((if v10 < t0 then v10 else t0) * v16) then k2 (x3 + (1 : Int32)) h
  else Post (1 : Int32) h)))))
def g_X4_driftsOnceCounted_L2b (ct : Nat → ClassId) (a0 : Nat) (this : Nat) (a1 : Nat) (a2 : Int32) (Post : Int32 → KH → Prop)  (k2 : Int32 → KH → Prop) (x3 : Int32) (h : KH) : Prop :=
  if (5 : Int32) ≤ x3 then Post (0 : Int32) h
  else rdR h a1 1 2 (fun v2 => aln h v2 (ct 0) (fun v3 => if v3 ≤ x3 then Post (0 : Int32) h
  else (∃ q5, f_X5_has a2 x3 = some q5 ∧ if q5 = (0 : Int32) then rdR h this 5 1 (fun v7 => ldI h v7 x3 (ct 0) (fun v8 => g_X4_driftsOnceCounted_J39 ct a0 this a1 a2 Post k2 x3 v8 h))
  else rdR h this 5 0 (fun v18 => ldI h v18 x3 (ct 0) (fun v19 => g_X4_driftsOnceCounted_J39 ct a0 this a1 a2 Post k2 x3 v19 h)))))
def g_X4_driftsOnceCounted_L2 (ct : Nat → ClassId) (a0 : Nat) (this : Nat) (a1 : Nat) (a2 : Int32) (Post : Int32 → KH → Prop)  : Nat → Int32 → KH → Prop
  | 0 => fun _ _ => False
  | n + 1 => g_X4_driftsOnceCounted_L2b ct a0 this a1 a2 Post  (g_X4_driftsOnceCounted_L2 ct a0 this a1 a2 Post  n)
def g_X4_driftsOnceCounted (ct : Nat → ClassId) (a0 : Nat) (this : Nat) (a1 : Nat) (a2 : Int32) (h : KH) (Post : Int32 → KH → Prop) : Prop :=
  g_X4_driftsOnceCounted_L2 ct a0 this a1 a2 Post  1024 (0 : Int32) h
set_option maxRecDepth 100000 in
set_option maxHeartbeats 4000000 in
theorem cg_X4_driftsOnceCounted (l : Launch) (D : va_G) (ct : Nat → ClassId) (a0 : Nat) (this : Nat) (a1 : Nat) (a2 : Int32) (h : KH) (Post : Int32 → KH → Prop) (hw : g_X4_driftsOnceCounted ct a0 this a1 a2 h Post) : CK l yX4_driftsOnceCounted cX4_driftsOnceCounted 6 1 0 0 (some .boolean) D ct a0 [.ref this, .ref a1, .int a2] vI h Post := by
  refine CK.mkI (by decide) (Nat.le_of_ble_eq_true rfl) ?_
  intro p e s m below meth c Q A X hret hW hS ls hl
  obtain ⟨B, hin, hK, hN, hZ, hA⟩ := X
  have B0 := B
  obtain ⟨hx, hb, hml, hown, hts⟩ := B0
  have hl : lv_has ls 6 [(0, .ref this), (1, .ref a1), (2, .int a2)] := hl
  have hL2 : ∀ (n2 : Nat), ∀ (x3 : Int32) (h : KH) (ls : Array Slot) (H : Heap) (locs : List Loc), g_X4_driftsOnceCounted_L2 ct a0 this a1 a2 Post  n2 x3 h → KW D A h H → va_S A s.heap H locs → lv_has ls 6 [(0, .ref this), (1, .ref a1), (2, .int a2), (3, .int x3)] → W p l e (rmF 1 0 0) s m ([.ref this, .ref a1, .int a2] : List Value).toArray below meth c H locs 0 0 Q (F0 m 2 ls []) := by
    intro n2
    induction n2 with
    | zero =>
      intro x3 h ls H locs hw
      exact (show False from hw).elim
    | succ n2 ih2 =>
      have hJ39 : ∀ (x3 : Int32) (t0 : Int32) (h : KH) (ls : Array Slot) (H : Heap) (locs : List Loc), g_X4_driftsOnceCounted_J39 ct a0 this a1 a2 Post (g_X4_driftsOnceCounted_L2 ct a0 this a1 a2 Post  n2) x3 t0 h → KW D A h H → va_S A s.heap H locs → lv_has ls 6 [(0, .ref this), (1, .ref a1), (2, .int a2), (3, .int x3)] → W p l e (rmF 1 0 0) s m ([.ref this, .ref a1, .int a2] : List Value).toArray below meth c H locs 0 0 Q (F0 m 39 ls [.int t0]) := by
        intro x3 t0 h ls H locs hw hW hS hl
        unfold g_X4_driftsOnceCounted_J39 at hw
        refine lv_istore (lv' := [(4, .int t0), (0, .ref this), (1, .ref a1), (2, .int a2), (3, .int x3)]) hx hb dX4_driftsOnceCounted_39 hl (by decide) rfl (fun ls hl => ?_)
        refine lv_aload_n hx hb dX4_driftsOnceCounted_41 rfl (lv_at hl 2 rfl) ?_
        obtain ⟨fs9, v9, e9, f9, hw⟩ := hw
        refine kw_get (ci := 1) (C := RX0) (T := TX0) (N := 5) hx hb hts inlX0 hown hK hW e9 rfl 2 (by decide) (hts _ q_10_22) (fun _ h9 => h9) f9 dX4_driftsOnceCounted_42 ?_
        refine lv_iload_n hx hb dX4_driftsOnceCounted_45 rfl (lv_at hl 4 rfl) ?_
        obtain ⟨n10, f10, v10, e10, g10, ev10, hw⟩ := hw
        refine kw_iald hx hb hK hW 0 e10 rfl g10 ev10 dX4_driftsOnceCounted_46 ?_
        refine lv_istore (lv' := [(5, .int v10), (4, .int t0), (0, .ref this), (1, .ref a1), (2, .int a2), (3, .int x3)]) hx hb dX4_driftsOnceCounted_47 hl (by decide) rfl (fun ls hl => ?_)
        refine lv_aload_n hx hb dX4_driftsOnceCounted_49 rfl (lv_at hl 3 rfl) ?_
        obtain ⟨fs11, v11, e11, f11, hw⟩ := hw
        refine kw_get (ci := 1) (C := RX0) (T := TX0) (N := 5) hx hb hts inlX0 hown hK hW e11 rfl 0 (by decide) (hts _ q_9_15) (fun _ h9 => h9) f11 dX4_driftsOnceCounted_50 ?_
        refine lv_iload_n hx hb dX4_driftsOnceCounted_53 rfl (lv_at hl 5 rfl) ?_
        obtain ⟨q12, e12, hw⟩ := hw
        refine n_call (As := [.int v11, .int x3]) (rest := []) (c_X5_has l v11 x3 q12 e12) B hN.1 k_X5_has (List.mem_of_getElem? (i := 8) rfl) rfl ⟨Nat.le_of_ble_eq_true rfl, Nat.le_of_ble_eq_true rfl⟩ ⟨Nat.le_of_ble_eq_true rfl, Nat.le_of_ble_eq_true rfl⟩ hl.1 rfl (Nat.le_of_ble_eq_true rfl) dX4_driftsOnceCounted_54 ?_
        refine lv_if_eq (tgt := 87) hx hb dX4_driftsOnceCounted_57 (by decide) (fun c13 => ?_) (fun c13 => ?_)
        · have hw := itp c13 hw
          refine lv_iinc (v := (x3 + (1 : Int32))) (lv' := [(3, .int (x3 + (1 : Int32))), (5, .int v10), (4, .int t0), (0, .ref this), (1, .ref a1), (2, .int a2)]) hx hb dX4_driftsOnceCounted_87 hl (k := 5) rfl (congrArg (HAdd.hAdd x3) (by decide)) (by decide) rfl (fun ls hl => ?_)
          refine lv_goto (tgt := 2) hx hb dX4_driftsOnceCounted_90 (by decide) ?_
          exact ih2 (x3 + (1 : Int32)) h _ _ _ hw hW hS (lv_sub hl [3, 4, 5, 0] rfl)
        · have hw := itn c13 hw
          refine lv_iload hx hb dX4_driftsOnceCounted_60 (lv_at hl 1 rfl) ?_
          refine lv_iload hx hb dX4_driftsOnceCounted_62 (lv_at hl 0 rfl) ?_
          refine va_mmax hx hb (hml.trans hl.1.symm) hown (hts _ q_10_23) (hts _ q_7_0) (hts _ q_7_1) (hts _ q_7_2) (Nat.le_of_ble_eq_true rfl) (Nat.le_of_ble_eq_true rfl) (Nat.le_of_ble_eq_true rfl) (Nat.le_of_ble_eq_true rfl) dX4_driftsOnceCounted_64 ?_
          refine lv_bipush (v := (100 : Int32)) hx hb dX4_driftsOnceCounted_67 (by decide) ?_
          refine lv_imul hx hb dX4_driftsOnceCounted_69 ?_
          refine lv_iload hx hb dX4_driftsOnceCounted_70 (lv_at hl 1 rfl) ?_
          refine lv_iload hx hb dX4_driftsOnceCounted_72 (lv_at hl 0 rfl) ?_
          refine va_mmin hx hb (hml.trans hl.1.symm) hown (hts _ q_11_0) (hts _ q_8_3) (hts _ q_7_1) (hts _ q_8_4) (Nat.le_of_ble_eq_true rfl) (Nat.le_of_ble_eq_true rfl) (Nat.le_of_ble_eq_true rfl) (Nat.le_of_ble_eq_true rfl) dX4_driftsOnceCounted_74 ?_
          refine lv_aload_n hx hb dX4_driftsOnceCounted_77 rfl (lv_at hl 2 rfl) ?_
          obtain ⟨fs16, v16, e16, f16, hw⟩ := hw
          refine kw_get (ci := 5) (C := RX4) (T := TX4) (N := 14) hx hb hts inlX4 hown hK hW e16 rfl 4 (by decide) (hts _ q_2_17) (fun _ h9 => h9) f16 dX4_driftsOnceCounted_78 ?_
          refine lv_imul hx hb dX4_driftsOnceCounted_81 ?_
          refine lv_icmp_le (tgt := 87) hx hb dX4_driftsOnceCounted_82 (by decide) (fun c17 => ?_) (fun c17 => ?_)
          · have hw := itp c17 hw
            refine lv_iinc (v := (x3 + (1 : Int32))) (lv' := [(3, .int (x3 + (1 : Int32))), (5, .int v10), (4, .int t0), (0, .ref this), (1, .ref a1), (2, .int a2)]) hx hb dX4_driftsOnceCounted_87 hl (k := 5) rfl (congrArg (HAdd.hAdd x3) (by decide)) (by decide) rfl (fun ls hl => ?_)
            refine lv_goto (tgt := 2) hx hb dX4_driftsOnceCounted_90 (by decide) ?_
            exact ih2 (x3 + (1 : Int32)) h _ _ _ hw hW hS (lv_sub hl [3, 4, 5, 0] rfl)
          · have hw := itn c17 hw
            refine lv_iconst (v := (1 : Int32)) hx hb dX4_driftsOnceCounted_85 (by decide) ?_
            exact hret _ _ _ _ (1 : Int32) h nb1 dX4_driftsOnceCounted_86 hw hW hS
      intro x3 h ls H locs hw hW hS hl
      have hw : g_X4_driftsOnceCounted_L2b ct a0 this a1 a2 Post  (g_X4_driftsOnceCounted_L2 ct a0 this a1 a2 Post  n2) x3 h := hw
      unfold g_X4_driftsOnceCounted_L2b at hw
      refine lv_iload_n hx hb dX4_driftsOnceCounted_2 rfl (lv_at hl 3 rfl) ?_
      refine lv_iconst (v := (5 : Int32)) hx hb dX4_driftsOnceCounted_3 (by decide) ?_
      refine lv_icmp_ge (tgt := 93) hx hb dX4_driftsOnceCounted_4 (by decide) (fun c1 => ?_) (fun c1 => ?_)
      · have hw := itp c1 hw
        refine lv_iconst (v := (0 : Int32)) hx hb dX4_driftsOnceCounted_93 (by decide) ?_
        exact hret _ _ _ _ (0 : Int32) h nb0 dX4_driftsOnceCounted_94 hw hW hS
      · have hw := itn c1 hw
        refine lv_iload_n hx hb dX4_driftsOnceCounted_7 rfl (lv_at hl 3 rfl) ?_
        refine lv_aload_n hx hb dX4_driftsOnceCounted_8 rfl (lv_at hl 1 rfl) ?_
        obtain ⟨fs2, v2, e2, f2, hw⟩ := hw
        refine kw_get (ci := 1) (C := RX0) (T := TX0) (N := 5) hx hb hts inlX0 hown hK hW e2 rfl 2 (by decide) (hts _ q_10_22) (fun _ h9 => h9) f2 dX4_driftsOnceCounted_9 ?_
        obtain ⟨xa3, v3, e3, ev3, hw⟩ := hw
        refine kw_alen hx hb hK hW 0 e3 rfl ev3 dX4_driftsOnceCounted_12 ?_
        refine lv_icmp_ge (tgt := 93) hx hb dX4_driftsOnceCounted_13 (by decide) (fun c4 => ?_) (fun c4 => ?_)
        · have hw := itp c4 hw
          refine lv_iconst (v := (0 : Int32)) hx hb dX4_driftsOnceCounted_93 (by decide) ?_
          exact hret _ _ _ _ (0 : Int32) h nb0 dX4_driftsOnceCounted_94 hw hW hS
        · have hw := itn c4 hw
          refine lv_iload_n hx hb dX4_driftsOnceCounted_16 rfl (lv_at hl 2 rfl) ?_
          refine lv_iload_n hx hb dX4_driftsOnceCounted_17 rfl (lv_at hl 3 rfl) ?_
          obtain ⟨q5, e5, hw⟩ := hw
          refine n_call (As := [.int a2, .int x3]) (rest := []) (c_X5_has l a2 x3 q5 e5) B hN.1 k_X5_has (List.mem_of_getElem? (i := 8) rfl) rfl ⟨Nat.le_of_ble_eq_true rfl, Nat.le_of_ble_eq_true rfl⟩ ⟨Nat.le_of_ble_eq_true rfl, Nat.le_of_ble_eq_true rfl⟩ hl.1 rfl (Nat.le_of_ble_eq_true rfl) dX4_driftsOnceCounted_18 ?_
          refine lv_if_eq (tgt := 33) hx hb dX4_driftsOnceCounted_21 (by decide) (fun c6 => ?_) (fun c6 => ?_)
          · have hw := itp c6 hw
            refine lv_aload_n hx hb dX4_driftsOnceCounted_33 rfl (lv_at hl 0 rfl) ?_
            obtain ⟨fs7, v7, e7, f7, hw⟩ := hw
            refine kw_get (ci := 5) (C := RX4) (T := TX4) (N := 14) hx hb hts inlX4 hown hK hW e7 rfl 1 (by decide) (hts _ q_2_12) (fun _ h9 => h9) f7 dX4_driftsOnceCounted_34 ?_
            refine lv_iload_n hx hb dX4_driftsOnceCounted_37 rfl (lv_at hl 3 rfl) ?_
            obtain ⟨n8, f8, v8, e8, g8, ev8, hw⟩ := hw
            refine kw_iald hx hb hK hW 0 e8 rfl g8 ev8 dX4_driftsOnceCounted_38 ?_
            exact hJ39 x3 v8 h _ _ _ hw hW hS (lv_sub hl [0, 1, 2, 3] rfl)
          · have hw := itn c6 hw
            refine lv_aload_n hx hb dX4_driftsOnceCounted_24 rfl (lv_at hl 0 rfl) ?_
            obtain ⟨fs18, v18, e18, f18, hw⟩ := hw
            refine kw_get (ci := 5) (C := RX4) (T := TX4) (N := 14) hx hb hts inlX4 hown hK hW e18 rfl 0 (by decide) (hts _ q_2_11) (fun _ h9 => h9) f18 dX4_driftsOnceCounted_25 ?_
            refine lv_iload_n hx hb dX4_driftsOnceCounted_28 rfl (lv_at hl 3 rfl) ?_
            obtain ⟨n19, f19, v19, e19, g19, ev19, hw⟩ := hw
            refine kw_iald hx hb hK hW 0 e19 rfl g19 ev19 dX4_driftsOnceCounted_29 ?_
            refine lv_goto (tgt := 39) hx hb dX4_driftsOnceCounted_30 (by decide) ?_
            exact hJ39 x3 v19 h _ _ _ hw hW hS (lv_sub hl [0, 1, 2, 3] rfl)
  unfold g_X4_driftsOnceCounted at hw
  refine lv_iconst (v := (0 : Int32)) hx hb dX4_driftsOnceCounted_0 (by decide) ?_
  refine lv_istore_n (lv' := [(3, .int (0 : Int32)), (0, .ref this), (1, .ref a1), (2, .int a2)]) hx hb dX4_driftsOnceCounted_1 rfl hl (by decide) rfl (fun ls hl => ?_)
  exact hL2 1024 (0 : Int32) h _ _ _ hw hW hS (lv_sub hl [1, 2, 3, 0] rfl)

def g_X4_throwOutDrifted_L12b (ct : Nat → ClassId) (a0 : Nat) (this : Nat) (Post : Int32 → KH → Prop)  (k12 : Int32 → Int32 → KH → Prop) (x1 : Int32) (x2 : Int32) (h : KH) : Prop :=
  if x2 < (0 : Int32) then rdR h this 5 3 (fun v4 => isO h v4 0 (g_Jx4a65c_size_8abf5 ct a0 v4 h (fun v5 h5 => rdL h5 this 5 9 (fun v6 => wrF h5 this 5 9 (.long (v6 + (x1 - v5).toInt64)) (fun h7 => Post (x1 - v5) h7)))))
  else rdR h this 5 3 (fun v8 => isO h v8 0 (g_Jx4a65c_get_915e3 ct a0 v8 x2 h (fun v9 h9 => isO h9 v9 1 (rdI h9 v9 1 4 (fun v11 => if v11 = (0 : Int32) then isO h9 this 5 (g_X4_driftsOnceCounted ct a0 this v9 (0 : Int32) h9 (fun v13 h13 => if v13 = (0 : Int32) then k12 x1 (x2 + (-1 : Int32)) h13
  else rdR h13 this 5 3 (fun v15 => isO h13 v15 0 (g_Jx4a65c_remove_915e3 ct a0 v15 x2 h13 (fun v16 h16 => k12 x1 (x2 + (-1 : Int32)) h16)))))
  else k12 x1 (x2 + (-1 : Int32)) h9)))))
def g_X4_throwOutDrifted_L12 (ct : Nat → ClassId) (a0 : Nat) (this : Nat) (Post : Int32 → KH → Prop)  : Nat → Int32 → Int32 → KH → Prop
  | 0 => fun _ _ _ => False
  | n + 1 => g_X4_throwOutDrifted_L12b ct a0 this Post  (g_X4_throwOutDrifted_L12 ct a0 this Post  n)
def g_X4_throwOutDrifted (ct : Nat → ClassId) (a0 : Nat) (this : Nat) (h : KH) (Post : Int32 → KH → Prop) : Prop :=
  rdR h this 5 3 (fun v1 => isO h v1 0 (g_Jx4a65c_size_8abf5 ct a0 v1 h (fun v2 h2 => g_X4_throwOutDrifted_L12 ct a0 this Post  1024 v2 (v2 - (1 : Int32)) h2)))
set_option maxRecDepth 100000 in
set_option maxHeartbeats 4000000 in
theorem cg_X4_throwOutDrifted (l : Launch) (D : va_G) (ct : Nat → ClassId) (a0 : Nat) (this : Nat) (h : KH) (Post : Int32 → KH → Prop) (hw : g_X4_throwOutDrifted ct a0 this h Post) : CK l yX4_throwOutDrifted cX4_throwOutDrifted 4 3 0 0 (some .int) D ct a0 [.ref this] vI h Post := by
  refine CK.mkI (by decide) (Nat.le_of_ble_eq_true rfl) ?_
  intro p e s m below meth c Q A X hret hW hS ls hl
  obtain ⟨B, hin, hK, hN, hZ, hA⟩ := X
  have B0 := B
  obtain ⟨hx, hb, hml, hown, hts⟩ := B0
  have hl : lv_has ls 4 [(0, .ref this)] := hl
  have hL12 : ∀ (n12 : Nat), ∀ (x1 : Int32) (x2 : Int32) (h : KH) (ls : Array Slot) (H : Heap) (locs : List Loc), g_X4_throwOutDrifted_L12 ct a0 this Post  n12 x1 x2 h → KW D A h H → va_S A s.heap H locs → lv_has ls 4 [(0, .ref this), (1, .int x1), (2, .int x2)] → W p l e (rmF 3 0 0) s m ([.ref this] : List Value).toArray below meth c H locs 0 0 Q (F0 m 12 ls []) := by
    intro n12
    induction n12 with
    | zero =>
      intro x1 x2 h ls H locs hw
      exact (show False from hw).elim
    | succ n12 ih12 =>
      intro x1 x2 h ls H locs hw hW hS hl
      have hw : g_X4_throwOutDrifted_L12b ct a0 this Post  (g_X4_throwOutDrifted_L12 ct a0 this Post  n12) x1 x2 h := hw
      unfold g_X4_throwOutDrifted_L12b at hw
      refine lv_iload_n hx hb dX4_throwOutDrifted_12 rfl (lv_at hl 2 rfl) ?_
      refine lv_if_lt (tgt := 59) hx hb dX4_throwOutDrifted_13 (by decide) (fun c3 => ?_) (fun c3 => ?_)
      · have hw := itp c3 hw
        refine lv_iload_n hx hb dX4_throwOutDrifted_59 rfl (lv_at hl 1 rfl) ?_
        refine lv_aload_n hx hb dX4_throwOutDrifted_60 rfl (lv_at hl 0 rfl) ?_
        obtain ⟨fs4, v4, e4, f4, hw⟩ := hw
        refine kw_get (ci := 5) (C := RX4) (T := TX4) (N := 14) hx hb hts inlX4 hown hK hW e4 rfl 3 (by decide) (hts _ q_2_16) (fun _ h9 => h9) f4 dX4_throwOutDrifted_61 ?_
        obtain ⟨⟨fs5, e5⟩, hw⟩ := hw
        refine k_call (As := []) (rest := [.int x1]) (ci := 0) (cg_Jx4a65c_size_8abf5 l D ct a0 v4 h _ hw) B hK hN hZ hA hW hS e5 rfl k_Jx4a65c_size_8abf5 q_5_8 rfl ⟨Nat.le_of_ble_eq_true rfl, Nat.le_of_ble_eq_true rfl⟩ ⟨Nat.le_of_ble_eq_true rfl, Nat.le_of_ble_eq_true rfl⟩ hl.1 rfl (Nat.le_of_ble_eq_true rfl) dX4_throwOutDrifted_64 (fun v5 h5 H locs hw hW hS => ?_)
        refine lv_isub hx hb dX4_throwOutDrifted_67 ?_
        refine lv_istore_n (lv' := [(2, .int (x1 - v5)), (0, .ref this), (1, .int x1)]) hx hb dX4_throwOutDrifted_68 rfl hl (by decide) rfl (fun ls hl => ?_)
        refine lv_aload_n hx hb dX4_throwOutDrifted_69 rfl (lv_at hl 1 rfl) ?_
        refine lv_dup hx hb dX4_throwOutDrifted_70 rfl ?_
        obtain ⟨fs6, v6, e6, f6, hw⟩ := hw
        refine kw_get (ci := 5) (C := RX4) (T := TX4) (N := 14) hx hb hts inlX4 hown hK hW e6 rfl 9 (by decide) (hts _ q_5_3) (fun _ h9 => h9) f6 dX4_throwOutDrifted_71 ?_
        refine lv_iload_n hx hb dX4_throwOutDrifted_74 rfl (lv_at hl 0 rfl) ?_
        refine lv_i2l hx hb dX4_throwOutDrifted_75 rfl ?_
        refine lv_ladd hx hb dX4_throwOutDrifted_76 ?_
        obtain ⟨fs7, e7, l7, hw⟩ := hw
        refine kw_put (ci := 5) (v := .long (v6 + (x1 - v5).toInt64)) (ty := .long) (C := RX4) (T := TX4) (N := 14) hx hb hts inlX4 tyX4 tyX4_ok nmX4 hown hK hW hS e7 rfl 9 (by decide) (hts _ q_5_3) (fun _ h9 => h9) rfl  (by decide +kernel) rfl rfl l7 dX4_throwOutDrifted_77 (fun H locs h7 eh7 hW hS => ?_)
        have hw := hw h7 eh7
        refine lv_iload_n hx hb dX4_throwOutDrifted_80 rfl (lv_at hl 0 rfl) ?_
        refine W.widen (k := 0) (n := 0) (by omega) (by omega) ?_
        exact hret _ _ _ _ (x1 - v5) h7 (vp_nar_int _) dX4_throwOutDrifted_81 hw hW hS
      · have hw := itn c3 hw
        refine lv_aload_n hx hb dX4_throwOutDrifted_16 rfl (lv_at hl 0 rfl) ?_
        obtain ⟨fs8, v8, e8, f8, hw⟩ := hw
        refine kw_get (ci := 5) (C := RX4) (T := TX4) (N := 14) hx hb hts inlX4 hown hK hW e8 rfl 3 (by decide) (hts _ q_2_16) (fun _ h9 => h9) f8 dX4_throwOutDrifted_17 ?_
        refine lv_iload_n hx hb dX4_throwOutDrifted_20 rfl (lv_at hl 2 rfl) ?_
        obtain ⟨⟨fs9, e9⟩, hw⟩ := hw
        refine k_call (As := [.int x2]) (rest := []) (ci := 0) (cg_Jx4a65c_get_915e3 l D ct a0 v8 x2 h _ hw) B hK hN hZ hA hW hS e9 rfl k_Jx4a65c_get_915e3 q_5_13 rfl ⟨Nat.le_of_ble_eq_true rfl, Nat.le_of_ble_eq_true rfl⟩ ⟨Nat.le_of_ble_eq_true rfl, Nat.le_of_ble_eq_true rfl⟩ hl.1 rfl (Nat.le_of_ble_eq_true rfl) dX4_throwOutDrifted_21 (fun v9 h9 H locs hw hW hS => ?_)
        obtain ⟨⟨xa10, e10⟩, hw⟩ := hw
        refine kw_castO (ci := 1) hx hb hown (hts _ q_13_4) hK hW e10 rfl dX4_throwOutDrifted_24 ?_
        refine lv_astore_n (lv' := [(3, .ref v9), (0, .ref this), (1, .int x1), (2, .int x2)]) hx hb dX4_throwOutDrifted_27 rfl hl (by decide) rfl (fun ls hl => ?_)
        refine lv_aload_n hx hb dX4_throwOutDrifted_28 rfl (lv_at hl 0 rfl) ?_
        obtain ⟨fs11, v11, e11, f11, hw⟩ := hw
        refine kw_get (ci := 1) (C := RX0) (T := TX0) (N := 5) hx hb hts inlX0 hown hK hW e11 rfl 4 (by decide) (hts _ q_9_14) (fun _ h9 => h9) f11 dX4_throwOutDrifted_29 ?_
        refine lv_if_ne (tgt := 53) hx hb dX4_throwOutDrifted_32 (by decide) (fun c12 => ?_) (fun c12 => ?_)
        · have hw := itn c12 hw
          refine lv_iinc (v := (x2 + (-1 : Int32))) (lv' := [(2, .int (x2 + (-1 : Int32))), (3, .ref v9), (0, .ref this), (1, .int x1)]) hx hb dX4_throwOutDrifted_53 hl (k := 3) rfl (congrArg (HAdd.hAdd x2) (by decide)) (by decide) rfl (fun ls hl => ?_)
          refine lv_goto (tgt := 12) hx hb dX4_throwOutDrifted_56 (by decide) ?_
          refine W.widen (k := 0) (n := 0) (by omega) (by omega) ?_
          exact ih12 x1 (x2 + (-1 : Int32)) h9 _ _ _ hw hW hS (lv_sub hl [2, 3, 0] rfl)
        · have hw := itp c12 hw
          refine lv_aload_n hx hb dX4_throwOutDrifted_35 rfl (lv_at hl 1 rfl) ?_
          refine lv_aload_n hx hb dX4_throwOutDrifted_36 rfl (lv_at hl 0 rfl) ?_
          refine lv_iconst (v := (0 : Int32)) hx hb dX4_throwOutDrifted_37 (by decide) ?_
          obtain ⟨⟨fs13, e13⟩, hw⟩ := hw
          refine k_call (As := [.ref v9, .int (0 : Int32)]) (rest := []) (ci := 5) (cg_X4_driftsOnceCounted l D ct a0 this v9 (0 : Int32) h9 _ hw) B hK hN hZ hA hW hS e13 rfl k_X4_driftsOnceCounted q_10_18 rfl ⟨Nat.le_of_ble_eq_true rfl, Nat.le_of_ble_eq_true rfl⟩ ⟨Nat.le_of_ble_eq_true rfl, Nat.le_of_ble_eq_true rfl⟩ hl.1 rfl (Nat.le_of_ble_eq_true rfl) dX4_throwOutDrifted_38 (fun v13 h13 H locs hw hW hS => ?_)
          refine lv_if_eq (tgt := 53) hx hb dX4_throwOutDrifted_41 (by decide) (fun c14 => ?_) (fun c14 => ?_)
          · have hw := itp c14 hw
            refine lv_iinc (v := (x2 + (-1 : Int32))) (lv' := [(2, .int (x2 + (-1 : Int32))), (3, .ref v9), (0, .ref this), (1, .int x1)]) hx hb dX4_throwOutDrifted_53 hl (k := 3) rfl (congrArg (HAdd.hAdd x2) (by decide)) (by decide) rfl (fun ls hl => ?_)
            refine lv_goto (tgt := 12) hx hb dX4_throwOutDrifted_56 (by decide) ?_
            refine W.widen (k := 0) (n := 0) (by omega) (by omega) ?_
            exact ih12 x1 (x2 + (-1 : Int32)) h13 _ _ _ hw hW hS (lv_sub hl [2, 3, 0] rfl)
          · have hw := itn c14 hw
            refine lv_aload_n hx hb dX4_throwOutDrifted_44 rfl (lv_at hl 1 rfl) ?_
            obtain ⟨fs15, v15, e15, f15, hw⟩ := hw
            refine kw_get (ci := 5) (C := RX4) (T := TX4) (N := 14) hx hb hts inlX4 hown hK hW e15 rfl 3 (by decide) (hts _ q_2_16) (fun _ h9 => h9) f15 dX4_throwOutDrifted_45 ?_
            refine lv_iload_n hx hb dX4_throwOutDrifted_48 rfl (lv_at hl 3 rfl) ?_
            obtain ⟨⟨fs16, e16⟩, hw⟩ := hw
            refine k_call (As := [.int x2]) (rest := []) (ci := 0) (cg_Jx4a65c_remove_915e3 l D ct a0 v15 x2 h13 _ hw) B hK hN hZ hA hW hS e16 rfl k_Jx4a65c_remove_915e3 q_9_18 rfl ⟨Nat.le_of_ble_eq_true rfl, Nat.le_of_ble_eq_true rfl⟩ ⟨Nat.le_of_ble_eq_true rfl, Nat.le_of_ble_eq_true rfl⟩ hl.1 rfl (Nat.le_of_ble_eq_true rfl) dX4_throwOutDrifted_49 (fun v16 h16 H locs hw hW hS => ?_)
            refine lv_pop hx hb dX4_throwOutDrifted_52 rfl ?_
            refine lv_iinc (v := (x2 + (-1 : Int32))) (lv' := [(2, .int (x2 + (-1 : Int32))), (3, .ref v9), (0, .ref this), (1, .int x1)]) hx hb dX4_throwOutDrifted_53 hl (k := 3) rfl (congrArg (HAdd.hAdd x2) (by decide)) (by decide) rfl (fun ls hl => ?_)
            refine lv_goto (tgt := 12) hx hb dX4_throwOutDrifted_56 (by decide) ?_
            refine W.widen (k := 0) (n := 0) (by omega) (by omega) ?_
            exact ih12 x1 (x2 + (-1 : Int32)) h16 _ _ _ hw hW hS (lv_sub hl [2, 3, 0] rfl)
  unfold g_X4_throwOutDrifted at hw
  refine lv_aload_n hx hb dX4_throwOutDrifted_0 rfl (lv_at hl 0 rfl) ?_
  obtain ⟨fs1, v1, e1, f1, hw⟩ := hw
  refine kw_get (ci := 5) (C := RX4) (T := TX4) (N := 14) hx hb hts inlX4 hown hK hW e1 rfl 3 (by decide) (hts _ q_2_16) (fun _ h9 => h9) f1 dX4_throwOutDrifted_1 ?_
  obtain ⟨⟨fs2, e2⟩, hw⟩ := hw
  refine k_call (As := []) (rest := []) (ci := 0) (cg_Jx4a65c_size_8abf5 l D ct a0 v1 h _ hw) B hK hN hZ hA hW hS e2 rfl k_Jx4a65c_size_8abf5 q_5_8 rfl ⟨Nat.le_of_ble_eq_true rfl, Nat.le_of_ble_eq_true rfl⟩ ⟨Nat.le_of_ble_eq_true rfl, Nat.le_of_ble_eq_true rfl⟩ hl.1 rfl (Nat.le_of_ble_eq_true rfl) dX4_throwOutDrifted_4 (fun v2 h2 H locs hw hW hS => ?_)
  refine lv_istore_n (lv' := [(1, .int v2), (0, .ref this)]) hx hb dX4_throwOutDrifted_7 rfl hl (by decide) rfl (fun ls hl => ?_)
  refine lv_iload_n hx hb dX4_throwOutDrifted_8 rfl (lv_at hl 0 rfl) ?_
  refine lv_iconst (v := (1 : Int32)) hx hb dX4_throwOutDrifted_9 (by decide) ?_
  refine lv_isub hx hb dX4_throwOutDrifted_10 ?_
  refine lv_istore_n (lv' := [(2, .int (v2 - (1 : Int32))), (1, .int v2), (0, .ref this)]) hx hb dX4_throwOutDrifted_11 rfl hl (by decide) rfl (fun ls hl => ?_)
  refine W.widen (k := 0) (n := 0) (by omega) (by omega) ?_
  exact hL12 1024 v2 (v2 - (1 : Int32)) h2 _ _ _ hw hW hS (lv_sub hl [2, 1, 0] rfl)

def g_X4_countTables_L2b (ct : Nat → ClassId) (a0 : Nat) (this : Nat) (a1 : Int32) (Post : Int32 → KH → Prop)  (k2 : Int32 → KH → Prop) (x2 : Int32) (h : KH) : Prop :=
  if (5 : Int32) ≤ x2 then isO h this 5 (g_X4_throwOutDrifted ct a0 this h (fun v2 h2 => Post v2 h2))
  else (∃ q3, f_X5_has a1 x2 = some q3 ∧ if q3 = (0 : Int32) then k2 (x2 + (1 : Int32)) h
  else rdR h this 5 1 (fun v5 => rdR h this 5 0 (fun v6 => ldI h v6 x2 (ct 0) (fun v7 => stI h v5 x2 (ct 0) v7 (fun h8 => k2 (x2 + (1 : Int32)) h8)))))
def g_X4_countTables_L2 (ct : Nat → ClassId) (a0 : Nat) (this : Nat) (a1 : Int32) (Post : Int32 → KH → Prop)  : Nat → Int32 → KH → Prop
  | 0 => fun _ _ => False
  | n + 1 => g_X4_countTables_L2b ct a0 this a1 Post  (g_X4_countTables_L2 ct a0 this a1 Post  n)
def g_X4_countTables (ct : Nat → ClassId) (a0 : Nat) (this : Nat) (a1 : Int32) (h : KH) (Post : Int32 → KH → Prop) : Prop :=
  g_X4_countTables_L2 ct a0 this a1 Post  1024 (0 : Int32) h
set_option maxRecDepth 100000 in
set_option maxHeartbeats 4000000 in
theorem cg_X4_countTables (l : Launch) (D : va_G) (ct : Nat → ClassId) (a0 : Nat) (this : Nat) (a1 : Int32) (h : KH) (Post : Int32 → KH → Prop) (hw : g_X4_countTables ct a0 this a1 h Post) : CK l yX4_countTables cX4_countTables 3 4 0 0 (some .int) D ct a0 [.ref this, .int a1] vI h Post := by
  refine CK.mkI (by decide) (Nat.le_of_ble_eq_true rfl) ?_
  intro p e s m below meth c Q A X hret hW hS ls hl
  obtain ⟨B, hin, hK, hN, hZ, hA⟩ := X
  have B0 := B
  obtain ⟨hx, hb, hml, hown, hts⟩ := B0
  have hl : lv_has ls 3 [(0, .ref this), (1, .int a1)] := hl
  have hL2 : ∀ (n2 : Nat), ∀ (x2 : Int32) (h : KH) (ls : Array Slot) (H : Heap) (locs : List Loc), g_X4_countTables_L2 ct a0 this a1 Post  n2 x2 h → KW D A h H → va_S A s.heap H locs → lv_has ls 3 [(0, .ref this), (1, .int a1), (2, .int x2)] → W p l e (rmF 4 0 0) s m ([.ref this, .int a1] : List Value).toArray below meth c H locs 0 0 Q (F0 m 2 ls []) := by
    intro n2
    induction n2 with
    | zero =>
      intro x2 h ls H locs hw
      exact (show False from hw).elim
    | succ n2 ih2 =>
      intro x2 h ls H locs hw hW hS hl
      have hw : g_X4_countTables_L2b ct a0 this a1 Post  (g_X4_countTables_L2 ct a0 this a1 Post  n2) x2 h := hw
      unfold g_X4_countTables_L2b at hw
      refine lv_iload_n hx hb dX4_countTables_2 rfl (lv_at hl 2 rfl) ?_
      refine lv_iconst (v := (5 : Int32)) hx hb dX4_countTables_3 (by decide) ?_
      refine lv_icmp_ge (tgt := 33) hx hb dX4_countTables_4 (by decide) (fun c1 => ?_) (fun c1 => ?_)
      · have hw := itp c1 hw
        refine lv_aload_n hx hb dX4_countTables_33 rfl (lv_at hl 0 rfl) ?_
        obtain ⟨⟨fs2, e2⟩, hw⟩ := hw
        refine k_call (As := []) (rest := []) (ci := 5) (cg_X4_throwOutDrifted l D ct a0 this h _ hw) B hK hN hZ hA hW hS e2 rfl k_X4_throwOutDrifted q_10_14 rfl ⟨Nat.le_of_ble_eq_true rfl, Nat.le_of_ble_eq_true rfl⟩ ⟨Nat.le_of_ble_eq_true rfl, Nat.le_of_ble_eq_true rfl⟩ hl.1 rfl (Nat.le_of_ble_eq_true rfl) dX4_countTables_34 (fun v2 h2 H locs hw hW hS => ?_)
        refine W.widen (k := 0) (n := 0) (by omega) (by omega) ?_
        exact hret _ _ _ _ v2 h2 (vp_nar_int _) dX4_countTables_37 hw hW hS
      · have hw := itn c1 hw
        refine lv_iload_n hx hb dX4_countTables_7 rfl (lv_at hl 1 rfl) ?_
        refine lv_iload_n hx hb dX4_countTables_8 rfl (lv_at hl 2 rfl) ?_
        obtain ⟨q3, e3, hw⟩ := hw
        refine n_call (As := [.int a1, .int x2]) (rest := []) (c_X5_has l a1 x2 q3 e3) B hN.1 k_X5_has (List.mem_of_getElem? (i := 8) rfl) rfl ⟨Nat.le_of_ble_eq_true rfl, Nat.le_of_ble_eq_true rfl⟩ ⟨Nat.le_of_ble_eq_true rfl, Nat.le_of_ble_eq_true rfl⟩ hl.1 rfl (Nat.le_of_ble_eq_true rfl) dX4_countTables_9 ?_
        refine lv_if_eq (tgt := 27) hx hb dX4_countTables_12 (by decide) (fun c4 => ?_) (fun c4 => ?_)
        · have hw := itp c4 hw
          refine lv_iinc (v := (x2 + (1 : Int32))) (lv' := [(2, .int (x2 + (1 : Int32))), (0, .ref this), (1, .int a1)]) hx hb dX4_countTables_27 hl (k := 2) rfl (congrArg (HAdd.hAdd x2) (by decide)) (by decide) rfl (fun ls hl => ?_)
          refine lv_goto (tgt := 2) hx hb dX4_countTables_30 (by decide) ?_
          exact ih2 (x2 + (1 : Int32)) h _ _ _ hw hW hS (lv_sub hl [1, 2, 0] rfl)
        · have hw := itn c4 hw
          refine lv_aload_n hx hb dX4_countTables_15 rfl (lv_at hl 0 rfl) ?_
          obtain ⟨fs5, v5, e5, f5, hw⟩ := hw
          refine kw_get (ci := 5) (C := RX4) (T := TX4) (N := 14) hx hb hts inlX4 hown hK hW e5 rfl 1 (by decide) (hts _ q_2_12) (fun _ h9 => h9) f5 dX4_countTables_16 ?_
          refine lv_iload_n hx hb dX4_countTables_19 rfl (lv_at hl 2 rfl) ?_
          refine lv_aload_n hx hb dX4_countTables_20 rfl (lv_at hl 0 rfl) ?_
          obtain ⟨fs6, v6, e6, f6, hw⟩ := hw
          refine kw_get (ci := 5) (C := RX4) (T := TX4) (N := 14) hx hb hts inlX4 hown hK hW e6 rfl 0 (by decide) (hts _ q_2_11) (fun _ h9 => h9) f6 dX4_countTables_21 ?_
          refine lv_iload_n hx hb dX4_countTables_24 rfl (lv_at hl 2 rfl) ?_
          obtain ⟨n7, f7, v7, e7, g7, ev7, hw⟩ := hw
          refine kw_iald hx hb hK hW 0 e7 rfl g7 ev7 dX4_countTables_25 ?_
          obtain ⟨n8, f8, e8, g8, hw⟩ := hw
          refine kw_iast hx hb hK hW hS 0 e8 rfl g8 dX4_countTables_26 (fun H locs h8 eh8 hW hS => ?_)
          have hw := hw h8 eh8
          refine lv_iinc (v := (x2 + (1 : Int32))) (lv' := [(2, .int (x2 + (1 : Int32))), (0, .ref this), (1, .int a1)]) hx hb dX4_countTables_27 hl (k := 2) rfl (congrArg (HAdd.hAdd x2) (by decide)) (by decide) rfl (fun ls hl => ?_)
          refine lv_goto (tgt := 2) hx hb dX4_countTables_30 (by decide) ?_
          exact ih2 (x2 + (1 : Int32)) h8 _ _ _ hw hW hS (lv_sub hl [1, 2, 0] rfl)
  unfold g_X4_countTables at hw
  refine lv_iconst (v := (0 : Int32)) hx hb dX4_countTables_0 (by decide) ?_
  refine lv_istore_n (lv' := [(2, .int (0 : Int32)), (0, .ref this), (1, .int a1)]) hx hb dX4_countTables_1 rfl hl (by decide) rfl (fun ls hl => ?_)
  exact hL2 1024 (0 : Int32) h _ _ _ hw hW hS (lv_sub hl [1, 2, 0] rfl)

def g_X4_throwOutJoins_L12b (ct : Nat → ClassId) (a0 : Nat) (this : Nat) (a1 : Int32) (Post : Int32 → KH → Prop)  (k12 : Int32 → Int32 → KH → Prop) (x2 : Int32) (x3 : Int32) (h : KH) : Prop :=
  if x3 < (0 : Int32) then rdR h this 5 3 (fun v4 => isO h v4 0 (g_Jx4a65c_size_8abf5 ct a0 v4 h (fun v5 h5 => rdL h5 this 5 11 (fun v6 => wrF h5 this 5 11 (.long (v6 + (x2 - v5).toInt64)) (fun h7 => Post (x2 - v5) h7)))))
  else rdR h this 5 3 (fun v8 => isO h v8 0 (g_Jx4a65c_get_915e3 ct a0 v8 x3 h (fun v9 h9 => isO h9 v9 1 (rdI h9 v9 1 4 (fun v11 => if v11 = (0 : Int32) then rdI h9 v9 1 0 (fun v13 => (∃ q14, f_X5_hasAll v13 a1 = some q14 ∧ if q14 = (0 : Int32) then k12 x2 (x3 + (-1 : Int32)) h9
  else rdR h9 this 5 3 (fun v16 => isO h9 v16 0 (g_Jx4a65c_remove_915e3 ct a0 v16 x3 h9 (fun v17 h17 => k12 x2 (x3 + (-1 : Int32)) h17)))))
  else k12 x2 (x3 + (-1 : Int32)) h9)))))
def g_X4_throwOutJoins_L12 (ct : Nat → ClassId) (a0 : Nat) (this : Nat) (a1 : Int32) (Post : Int32 → KH → Prop)  : Nat → Int32 → Int32 → KH → Prop
  | 0 => fun _ _ _ => False
  | n + 1 => g_X4_throwOutJoins_L12b ct a0 this a1 Post  (g_X4_throwOutJoins_L12 ct a0 this a1 Post  n)
def g_X4_throwOutJoins (ct : Nat → ClassId) (a0 : Nat) (this : Nat) (a1 : Int32) (h : KH) (Post : Int32 → KH → Prop) : Prop :=
  rdR h this 5 3 (fun v1 => isO h v1 0 (g_Jx4a65c_size_8abf5 ct a0 v1 h (fun v2 h2 => g_X4_throwOutJoins_L12 ct a0 this a1 Post  1024 v2 (v2 - (1 : Int32)) h2)))
set_option maxRecDepth 100000 in
set_option maxHeartbeats 4000000 in
theorem cg_X4_throwOutJoins (l : Launch) (D : va_G) (ct : Nat → ClassId) (a0 : Nat) (this : Nat) (a1 : Int32) (h : KH) (Post : Int32 → KH → Prop) (hw : g_X4_throwOutJoins ct a0 this a1 h Post) : CK l yX4_throwOutJoins cX4_throwOutJoins 5 3 0 0 (some .int) D ct a0 [.ref this, .int a1] vI h Post := by
  refine CK.mkI (by decide) (Nat.le_of_ble_eq_true rfl) ?_
  intro p e s m below meth c Q A X hret hW hS ls hl
  obtain ⟨B, hin, hK, hN, hZ, hA⟩ := X
  have B0 := B
  obtain ⟨hx, hb, hml, hown, hts⟩ := B0
  have hl : lv_has ls 5 [(0, .ref this), (1, .int a1)] := hl
  have hL12 : ∀ (n12 : Nat), ∀ (x2 : Int32) (x3 : Int32) (h : KH) (ls : Array Slot) (H : Heap) (locs : List Loc), g_X4_throwOutJoins_L12 ct a0 this a1 Post  n12 x2 x3 h → KW D A h H → va_S A s.heap H locs → lv_has ls 5 [(0, .ref this), (1, .int a1), (2, .int x2), (3, .int x3)] → W p l e (rmF 3 0 0) s m ([.ref this, .int a1] : List Value).toArray below meth c H locs 0 0 Q (F0 m 12 ls []) := by
    intro n12
    induction n12 with
    | zero =>
      intro x2 x3 h ls H locs hw
      exact (show False from hw).elim
    | succ n12 ih12 =>
      intro x2 x3 h ls H locs hw hW hS hl
      have hw : g_X4_throwOutJoins_L12b ct a0 this a1 Post  (g_X4_throwOutJoins_L12 ct a0 this a1 Post  n12) x2 x3 h := hw
      unfold g_X4_throwOutJoins_L12b at hw
      refine lv_iload_n hx hb dX4_throwOutJoins_12 rfl (lv_at hl 3 rfl) ?_
      refine lv_if_lt (tgt := 64) hx hb dX4_throwOutJoins_13 (by decide) (fun c3 => ?_) (fun c3 => ?_)
      · have hw := itp c3 hw
        refine lv_iload_n hx hb dX4_throwOutJoins_64 rfl (lv_at hl 2 rfl) ?_
        refine lv_aload_n hx hb dX4_throwOutJoins_65 rfl (lv_at hl 0 rfl) ?_
        obtain ⟨fs4, v4, e4, f4, hw⟩ := hw
        refine kw_get (ci := 5) (C := RX4) (T := TX4) (N := 14) hx hb hts inlX4 hown hK hW e4 rfl 3 (by decide) (hts _ q_2_16) (fun _ h9 => h9) f4 dX4_throwOutJoins_66 ?_
        obtain ⟨⟨fs5, e5⟩, hw⟩ := hw
        refine k_call (As := []) (rest := [.int x2]) (ci := 0) (cg_Jx4a65c_size_8abf5 l D ct a0 v4 h _ hw) B hK hN hZ hA hW hS e5 rfl k_Jx4a65c_size_8abf5 q_5_8 rfl ⟨Nat.le_of_ble_eq_true rfl, Nat.le_of_ble_eq_true rfl⟩ ⟨Nat.le_of_ble_eq_true rfl, Nat.le_of_ble_eq_true rfl⟩ hl.1 rfl (Nat.le_of_ble_eq_true rfl) dX4_throwOutJoins_69 (fun v5 h5 H locs hw hW hS => ?_)
        refine lv_isub hx hb dX4_throwOutJoins_72 ?_
        refine lv_istore_n (lv' := [(3, .int (x2 - v5)), (0, .ref this), (1, .int a1), (2, .int x2)]) hx hb dX4_throwOutJoins_73 rfl hl (by decide) rfl (fun ls hl => ?_)
        refine lv_aload_n hx hb dX4_throwOutJoins_74 rfl (lv_at hl 1 rfl) ?_
        refine lv_dup hx hb dX4_throwOutJoins_75 rfl ?_
        obtain ⟨fs6, v6, e6, f6, hw⟩ := hw
        refine kw_get (ci := 5) (C := RX4) (T := TX4) (N := 14) hx hb hts inlX4 hown hK hW e6 rfl 11 (by decide) (hts _ q_5_5) (fun _ h9 => h9) f6 dX4_throwOutJoins_76 ?_
        refine lv_iload_n hx hb dX4_throwOutJoins_79 rfl (lv_at hl 0 rfl) ?_
        refine lv_i2l hx hb dX4_throwOutJoins_80 rfl ?_
        refine lv_ladd hx hb dX4_throwOutJoins_81 ?_
        obtain ⟨fs7, e7, l7, hw⟩ := hw
        refine kw_put (ci := 5) (v := .long (v6 + (x2 - v5).toInt64)) (ty := .long) (C := RX4) (T := TX4) (N := 14) hx hb hts inlX4 tyX4 tyX4_ok nmX4 hown hK hW hS e7 rfl 11 (by decide) (hts _ q_5_5) (fun _ h9 => h9) rfl  (by decide +kernel) rfl rfl l7 dX4_throwOutJoins_82 (fun H locs h7 eh7 hW hS => ?_)
        have hw := hw h7 eh7
        refine lv_iload_n hx hb dX4_throwOutJoins_85 rfl (lv_at hl 0 rfl) ?_
        refine W.widen (k := 0) (n := 0) (by omega) (by omega) ?_
        exact hret _ _ _ _ (x2 - v5) h7 (vp_nar_int _) dX4_throwOutJoins_86 hw hW hS
      · have hw := itn c3 hw
        refine lv_aload_n hx hb dX4_throwOutJoins_16 rfl (lv_at hl 0 rfl) ?_
        obtain ⟨fs8, v8, e8, f8, hw⟩ := hw
        refine kw_get (ci := 5) (C := RX4) (T := TX4) (N := 14) hx hb hts inlX4 hown hK hW e8 rfl 3 (by decide) (hts _ q_2_16) (fun _ h9 => h9) f8 dX4_throwOutJoins_17 ?_
        refine lv_iload_n hx hb dX4_throwOutJoins_20 rfl (lv_at hl 3 rfl) ?_
        obtain ⟨⟨fs9, e9⟩, hw⟩ := hw
        refine k_call (As := [.int x3]) (rest := []) (ci := 0) (cg_Jx4a65c_get_915e3 l D ct a0 v8 x3 h _ hw) B hK hN hZ hA hW hS e9 rfl k_Jx4a65c_get_915e3 q_5_13 rfl ⟨Nat.le_of_ble_eq_true rfl, Nat.le_of_ble_eq_true rfl⟩ ⟨Nat.le_of_ble_eq_true rfl, Nat.le_of_ble_eq_true rfl⟩ hl.1 rfl (Nat.le_of_ble_eq_true rfl) dX4_throwOutJoins_21 (fun v9 h9 H locs hw hW hS => ?_)
        obtain ⟨⟨xa10, e10⟩, hw⟩ := hw
        refine kw_castO (ci := 1) hx hb hown (hts _ q_13_4) hK hW e10 rfl dX4_throwOutJoins_24 ?_
        refine lv_astore (lv' := [(4, .ref v9), (0, .ref this), (1, .int a1), (2, .int x2), (3, .int x3)]) hx hb dX4_throwOutJoins_27 hl (by decide) rfl (fun ls hl => ?_)
        refine lv_aload hx hb dX4_throwOutJoins_29 (lv_at hl 0 rfl) ?_
        obtain ⟨fs11, v11, e11, f11, hw⟩ := hw
        refine kw_get (ci := 1) (C := RX0) (T := TX0) (N := 5) hx hb hts inlX0 hown hK hW e11 rfl 4 (by decide) (hts _ q_9_14) (fun _ h9 => h9) f11 dX4_throwOutJoins_31 ?_
        refine lv_if_ne (tgt := 58) hx hb dX4_throwOutJoins_34 (by decide) (fun c12 => ?_) (fun c12 => ?_)
        · have hw := itn c12 hw
          refine lv_iinc (v := (x3 + (-1 : Int32))) (lv' := [(3, .int (x3 + (-1 : Int32))), (4, .ref v9), (0, .ref this), (1, .int a1), (2, .int x2)]) hx hb dX4_throwOutJoins_58 hl (k := 4) rfl (congrArg (HAdd.hAdd x3) (by decide)) (by decide) rfl (fun ls hl => ?_)
          refine lv_goto (tgt := 12) hx hb dX4_throwOutJoins_61 (by decide) ?_
          refine W.widen (k := 0) (n := 0) (by omega) (by omega) ?_
          exact ih12 x2 (x3 + (-1 : Int32)) h9 _ _ _ hw hW hS (lv_sub hl [2, 3, 4, 0] rfl)
        · have hw := itp c12 hw
          refine lv_aload hx hb dX4_throwOutJoins_37 (lv_at hl 0 rfl) ?_
          obtain ⟨fs13, v13, e13, f13, hw⟩ := hw
          refine kw_get (ci := 1) (C := RX0) (T := TX0) (N := 5) hx hb hts inlX0 hown hK hW e13 rfl 0 (by decide) (hts _ q_9_15) (fun _ h9 => h9) f13 dX4_throwOutJoins_39 ?_
          refine lv_iload_n hx hb dX4_throwOutJoins_42 rfl (lv_at hl 2 rfl) ?_
          obtain ⟨q14, e14, hw⟩ := hw
          refine n_call (As := [.int v13, .int a1]) (rest := []) (c_X5_hasAll l v13 a1 q14 e14) B hN.1 k_X5_hasAll (List.mem_of_getElem? (i := 10) rfl) rfl ⟨Nat.le_of_ble_eq_true rfl, Nat.le_of_ble_eq_true rfl⟩ ⟨Nat.le_of_ble_eq_true rfl, Nat.le_of_ble_eq_true rfl⟩ hl.1 rfl (Nat.le_of_ble_eq_true rfl) dX4_throwOutJoins_43 ?_
          refine lv_if_eq (tgt := 58) hx hb dX4_throwOutJoins_46 (by decide) (fun c15 => ?_) (fun c15 => ?_)
          · have hw := itp c15 hw
            refine lv_iinc (v := (x3 + (-1 : Int32))) (lv' := [(3, .int (x3 + (-1 : Int32))), (4, .ref v9), (0, .ref this), (1, .int a1), (2, .int x2)]) hx hb dX4_throwOutJoins_58 hl (k := 4) rfl (congrArg (HAdd.hAdd x3) (by decide)) (by decide) rfl (fun ls hl => ?_)
            refine lv_goto (tgt := 12) hx hb dX4_throwOutJoins_61 (by decide) ?_
            refine W.widen (k := 0) (n := 0) (by omega) (by omega) ?_
            exact ih12 x2 (x3 + (-1 : Int32)) h9 _ _ _ hw hW hS (lv_sub hl [2, 3, 4, 0] rfl)
          · have hw := itn c15 hw
            refine lv_aload_n hx hb dX4_throwOutJoins_49 rfl (lv_at hl 1 rfl) ?_
            obtain ⟨fs16, v16, e16, f16, hw⟩ := hw
            refine kw_get (ci := 5) (C := RX4) (T := TX4) (N := 14) hx hb hts inlX4 hown hK hW e16 rfl 3 (by decide) (hts _ q_2_16) (fun _ h9 => h9) f16 dX4_throwOutJoins_50 ?_
            refine lv_iload_n hx hb dX4_throwOutJoins_53 rfl (lv_at hl 4 rfl) ?_
            obtain ⟨⟨fs17, e17⟩, hw⟩ := hw
            refine k_call (As := [.int x3]) (rest := []) (ci := 0) (cg_Jx4a65c_remove_915e3 l D ct a0 v16 x3 h9 _ hw) B hK hN hZ hA hW hS e17 rfl k_Jx4a65c_remove_915e3 q_9_18 rfl ⟨Nat.le_of_ble_eq_true rfl, Nat.le_of_ble_eq_true rfl⟩ ⟨Nat.le_of_ble_eq_true rfl, Nat.le_of_ble_eq_true rfl⟩ hl.1 rfl (Nat.le_of_ble_eq_true rfl) dX4_throwOutJoins_54 (fun v17 h17 H locs hw hW hS => ?_)
            refine lv_pop hx hb dX4_throwOutJoins_57 rfl ?_
            refine lv_iinc (v := (x3 + (-1 : Int32))) (lv' := [(3, .int (x3 + (-1 : Int32))), (4, .ref v9), (0, .ref this), (1, .int a1), (2, .int x2)]) hx hb dX4_throwOutJoins_58 hl (k := 4) rfl (congrArg (HAdd.hAdd x3) (by decide)) (by decide) rfl (fun ls hl => ?_)
            refine lv_goto (tgt := 12) hx hb dX4_throwOutJoins_61 (by decide) ?_
            refine W.widen (k := 0) (n := 0) (by omega) (by omega) ?_
            exact ih12 x2 (x3 + (-1 : Int32)) h17 _ _ _ hw hW hS (lv_sub hl [2, 3, 4, 0] rfl)
  unfold g_X4_throwOutJoins at hw
  refine lv_aload_n hx hb dX4_throwOutJoins_0 rfl (lv_at hl 0 rfl) ?_
  obtain ⟨fs1, v1, e1, f1, hw⟩ := hw
  refine kw_get (ci := 5) (C := RX4) (T := TX4) (N := 14) hx hb hts inlX4 hown hK hW e1 rfl 3 (by decide) (hts _ q_2_16) (fun _ h9 => h9) f1 dX4_throwOutJoins_1 ?_
  obtain ⟨⟨fs2, e2⟩, hw⟩ := hw
  refine k_call (As := []) (rest := []) (ci := 0) (cg_Jx4a65c_size_8abf5 l D ct a0 v1 h _ hw) B hK hN hZ hA hW hS e2 rfl k_Jx4a65c_size_8abf5 q_5_8 rfl ⟨Nat.le_of_ble_eq_true rfl, Nat.le_of_ble_eq_true rfl⟩ ⟨Nat.le_of_ble_eq_true rfl, Nat.le_of_ble_eq_true rfl⟩ hl.1 rfl (Nat.le_of_ble_eq_true rfl) dX4_throwOutJoins_4 (fun v2 h2 H locs hw hW hS => ?_)
  refine lv_istore_n (lv' := [(2, .int v2), (0, .ref this), (1, .int a1)]) hx hb dX4_throwOutJoins_7 rfl hl (by decide) rfl (fun ls hl => ?_)
  refine lv_iload_n hx hb dX4_throwOutJoins_8 rfl (lv_at hl 0 rfl) ?_
  refine lv_iconst (v := (1 : Int32)) hx hb dX4_throwOutJoins_9 (by decide) ?_
  refine lv_isub hx hb dX4_throwOutJoins_10 ?_
  refine lv_istore_n (lv' := [(3, .int (v2 - (1 : Int32))), (2, .int v2), (0, .ref this), (1, .int a1)]) hx hb dX4_throwOutJoins_11 rfl hl (by decide) rfl (fun ls hl => ?_)
  refine W.widen (k := 0) (n := 0) (by omega) (by omega) ?_
  exact hL12 1024 v2 (v2 - (1 : Int32)) h2 _ _ _ hw hW hS (lv_sub hl [2, 3, 1, 0] rfl)
