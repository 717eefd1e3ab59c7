/-! fitness: laid by wip/p29/genk.py -/
theorem k_X5_fitness : VOk yX5_fitness cX5_fitness 8 (some .double) 0 := ⟨q_19_10, q_19_8, q_19_9, q_1_2, by decide +kernel⟩
def g_X5_fitness_L14b (ct : Nat → ClassId) (a0 : Nat) (this : Nat) (Post : DR → KH → Prop)  (k14 : Nat → Int64 → Int64 → Int32 → KH → Prop) (x1 : Nat) (x2 : Int64) (x4 : Int64) (x6 : Int32) (h : KH) : Prop :=
  rdR h this 6 0 (fun v2 => rdR h v2 5 3 (fun v3 => isO h v3 0 (g_Jx4a65c_size_8abf5 ct a0 v3 h (fun v4 h4 => if v4 ≤ x6 then if (lg_cmp x4 (0 : Int64)) ≤ (0 : Int32) then Post none h4
  else Post (some ((FP.l2d x2), (FP.l2d x4))) h4
  else rdR h4 this 6 0 (fun v7 => rdR h4 v7 5 3 (fun v8 => isO h4 v8 0 (g_Jx4a65c_get_915e3 ct a0 v8 x6 h4 (fun v9 h9 => isO h9 v9 1 (rdI h9 v9 1 0 (fun v11 => (∃ (o12 : Nat → Nat) (k_products_12 : Nat → Int64) (k_leastCosts_12 : Nat → Int64) (k_bestOrders_12 : Nat → Int32) (q12 : Int64), (o12 0 = x1) ∧ inW h9 (QW o12 ct k_products_12 k_leastCosts_12 k_bestOrders_12) ∧ f_X3_leastBySets v11 k_leastCosts_12 = some q12 ∧ rdI h9 v9 1 0 (fun v13 => rdI h9 v9 1 1 (fun v14 => (∃ (o15 : Nat → Nat) (k_products_15 : Nat → Int64) (k_leastCosts_15 : Nat → Int64) (k_bestOrders_15 : Nat → Int32) (q15 : Int64), (o15 0 = x1) ∧ inW h9 (QW o15 ct k_products_15 k_leastCosts_15 k_bestOrders_15) ∧ f_X3_costOf v13 v14 k_products_15 = some q15 ∧ k14 x1 (x2 + q12) (x4 + q15) (x6 + (1 : Int32)) h9))))))))))))))
def g_X5_fitness_L14 (ct : Nat → ClassId) (a0 : Nat) (this : Nat) (Post : DR → KH → Prop)  : Nat → Nat → Int64 → Int64 → Int32 → KH → Prop
  | 0 => fun _ _ _ _ _ => False
  | n + 1 => g_X5_fitness_L14b ct a0 this Post  (g_X5_fitness_L14 ct a0 this Post  n)
def g_X5_fitness (ct : Nat → ClassId) (a0 : Nat) (this : Nat) (h : KH) (Post : DR → KH → Prop) : Prop :=
  isO h this 6 (g_X5_reckoned ct a0 this (1 : Int32) h (fun v1 h1 => g_X5_fitness_L14 ct a0 this Post  1024 v1 (0 : Int64) (0 : Int64) (0 : Int32) h1))
set_option maxRecDepth 100000 in
set_option maxHeartbeats 4000000 in
theorem cg_X5_fitness (l : Launch) (D : va_G) (ct : Nat → ClassId) (a0 : Nat) (this : Nat) (h : KH) (Post : DR → KH → Prop) (hw : g_X5_fitness ct a0 this h Post) : CKD l yX5_fitness cX5_fitness 8 4 0 0 D ct a0 [.ref this] h Post := by
  refine CKD.mk (by decide) (Nat.le_of_ble_eq_true rfl) 95 100 dX5_fitness_95 dX5_fitness_96 (by decide) dX5_fitness_100 ?_
  intro p e s m below meth c Q A X hdiv hone hW hS ls hl
  obtain ⟨B, hin, hK, hN, hZ, hA⟩ := X
  have B0 := B
  obtain ⟨hx, hb, hml, hown, hts⟩ := B0
  have hl : lv_has ls 8 [(0, .ref this)] := hl
  have hL14 : ∀ (n14 : Nat), ∀ (x1 : Nat) (x2 : Int64) (x4 : Int64) (x6 : Int32) (h : KH) (ls : Array Slot) (H : Heap) (locs : List Loc), g_X5_fitness_L14 ct a0 this Post  n14 x1 x2 x4 x6 h → KW D A h H → va_S A s.heap H locs → lv_has ls 8 [(0, .ref this), (1, .ref x1), (2, .long x2), (4, .long x4), (6, .int x6)] → W p l e (rmF 4 0 0) s m ([.ref this] : List Value).toArray below meth c H locs 0 0 Q (F0 m 14 ls []) := by
    intro n14
    induction n14 with
    | zero =>
      intro x1 x2 x4 x6 h ls H locs hw
      exact (show False from hw).elim
    | succ n14 ih14 =>
      intro x1 x2 x4 x6 h ls H locs hw hW hS hl
      have hw : g_X5_fitness_L14b ct a0 this Post  (g_X5_fitness_L14 ct a0 this Post  n14) x1 x2 x4 x6 h := hw
      unfold g_X5_fitness_L14b at hw
      refine lv_iload hx hb dX5_fitness_14 (lv_at hl 4 rfl) ?_
      refine lv_aload_n hx hb dX5_fitness_16 rfl (lv_at hl 0 rfl) ?_
      obtain ⟨fs2, v2, e2, f2, hw⟩ := hw
      refine kw_get (ci := 6) (C := RX5) (T := TX5) (N := 7) hx hb hts inlX5 hown hK hW e2 rfl 0 (by decide) (hts _ q_1_15) (fun _ h9 => h9) f2 dX5_fitness_17 ?_
      obtain ⟨fs3, v3, e3, f3, hw⟩ := hw
      refine kw_get (ci := 5) (C := RX4) (T := TX4) (N := 14) hx hb hts inlX4 hown hK hW e3 rfl 3 (by decide) (hts _ q_12_15) (fun _ h9 => h9) f3 dX5_fitness_20 ?_
      obtain ⟨⟨fs4, e4⟩, hw⟩ := hw
      refine k_call (As := []) (rest := [.int x6]) (ci := 0) (cg_Jx4a65c_size_8abf5 l D ct a0 v3 h _ hw) B hK hN hZ hA hW hS e4 rfl k_Jx4a65c_size_8abf5 q_8_10 rfl ⟨Nat.le_of_ble_eq_true rfl, Nat.le_of_ble_eq_true rfl⟩ ⟨Nat.le_of_ble_eq_true rfl, Nat.le_of_ble_eq_true rfl⟩ hl.1 rfl (Nat.le_of_ble_eq_true rfl) dX5_fitness_23 (fun v4 h4 H locs hw hW hS => ?_)
      refine lv_icmp_ge (tgt := 83) hx hb dX5_fitness_26 (by decide) (fun c5 => ?_) (fun c5 => ?_)
      · have hw := itp c5 hw
        refine lv_lload hx hb dX5_fitness_83 (lv_at hl 3 rfl) ?_
        refine lv_lconst (v := (0 : Int64)) hx hb dX5_fitness_85 (by decide) ?_
        refine W.lcmp hx hb dX5_fitness_86 ?_
        refine lv_if_le (tgt := 99) hx hb dX5_fitness_87 (by decide) (fun c6 => ?_) (fun c6 => ?_)
        · have hw := itp c6 hw
          refine lv_dconst1 hx hb dX5_fitness_99 ?_
          refine W.widen (k := 0) (n := 0) (by omega) (by omega) ?_
          exact hone _ _ _ h4 hw hW hS
        · have hw := itn c6 hw
          refine lv_lload_n hx hb dX5_fitness_90 rfl (lv_at hl 2 rfl) ?_
          refine lv_l2d hx hb dX5_fitness_91 ?_
          refine lv_lload hx hb dX5_fitness_92 (lv_at hl 3 rfl) ?_
          refine lv_l2d hx hb dX5_fitness_94 ?_
          refine W.widen (k := 0) (n := 0) (by omega) (by omega) ?_
          exact hdiv _ _ _ _ _ h4 hw hW hS
      · have hw := itn c5 hw
        refine lv_aload_n hx hb dX5_fitness_29 rfl (lv_at hl 0 rfl) ?_
        obtain ⟨fs7, v7, e7, f7, hw⟩ := hw
        refine kw_get (ci := 6) (C := RX5) (T := TX5) (N := 7) hx hb hts inlX5 hown hK hW e7 rfl 0 (by decide) (hts _ q_1_15) (fun _ h9 => h9) f7 dX5_fitness_30 ?_
        obtain ⟨fs8, v8, e8, f8, hw⟩ := hw
        refine kw_get (ci := 5) (C := RX4) (T := TX4) (N := 14) hx hb hts inlX4 hown hK hW e8 rfl 3 (by decide) (hts _ q_12_15) (fun _ h9 => h9) f8 dX5_fitness_33 ?_
        refine lv_iload hx hb dX5_fitness_36 (lv_at hl 4 rfl) ?_
        obtain ⟨⟨fs9, e9⟩, hw⟩ := hw
        refine k_call (As := [.int x6]) (rest := []) (ci := 0) (cg_Jx4a65c_get_915e3 l D ct a0 v8 x6 h4 _ hw) B hK hN hZ hA hW hS e9 rfl k_Jx4a65c_get_915e3 q_12_23 rfl ⟨Nat.le_of_ble_eq_true rfl, Nat.le_of_ble_eq_true rfl⟩ ⟨Nat.le_of_ble_eq_true rfl, Nat.le_of_ble_eq_true rfl⟩ hl.1 rfl (Nat.le_of_ble_eq_true rfl) dX5_fitness_38 (fun v9 h9 H locs hw hW hS => ?_)
        obtain ⟨⟨xa10, e10⟩, hw⟩ := hw
        refine kw_castO (ci := 1) hx hb hown (hts _ q_12_16) hK hW e10 rfl dX5_fitness_41 ?_
        refine lv_astore (lv' := [(7, .ref v9), (0, .ref this), (1, .ref x1), (2, .long x2), (4, .long x4), (6, .int x6)]) hx hb dX5_fitness_44 hl (by decide) rfl (fun ls hl => ?_)
        refine lv_lload_n hx hb dX5_fitness_46 rfl (lv_at hl 3 rfl) ?_
        refine lv_aload_n hx hb dX5_fitness_47 rfl (lv_at hl 2 rfl) ?_
        refine lv_aload hx hb dX5_fitness_48 (lv_at hl 0 rfl) ?_
        obtain ⟨fs11, v11, e11, f11, hw⟩ := hw
        refine kw_get (ci := 1) (C := RX0) (T := TX0) (N := 5) hx hb hts inlX0 hown hK hW e11 rfl 0 (by decide) (hts _ q_19_11) (fun _ h9 => h9) f11 dX5_fitness_50 ?_
        obtain ⟨o12, k_products_12, k_leastCosts_12, k_bestOrders_12, q12, eo12_0, iw12, e12, hw⟩ := hw
        refine W.eq (g2 := F0 m 53 ls [.int v11, .ref (o12 0), .long x2]) (by first | (rw [eo12_0]; done) | (rw [eo12_0]; rfl)) ?_
        refine kf_call (As := [.int v11]) (rest := [.long x2]) (c_X3_leastBySets l D o12 ct v11 k_products_12 k_leastCosts_12 k_bestOrders_12 q12 e12) B hK hN hA hW hS iw12 rfl (iw12.1 _ _ (List.mem_of_getElem? (i := 0) rfl)) (ci := 4) rfl k_X3_leastBySets q_19_12 rfl ⟨Nat.le_of_ble_eq_true rfl, Nat.le_of_ble_eq_true rfl⟩ ⟨Nat.le_of_ble_eq_true rfl, Nat.le_of_ble_eq_true rfl⟩ hl.1 rfl (Nat.le_of_ble_eq_true rfl) dX5_fitness_53 (fun h12 H locs eh12 hW hS => ?_)
        rw [hupw_same iw12] at eh12
        rw [eh12] at hW
        refine lv_ladd hx hb dX5_fitness_56 ?_
        refine lv_lstore_n (lv' := [(2, .long (x2 + q12)), (7, .ref v9), (0, .ref this), (1, .ref x1), (4, .long x4), (6, .int x6)]) hx hb dX5_fitness_57 rfl hl (by decide) rfl (fun ls hl => ?_)
        refine lv_lload hx hb dX5_fitness_58 (lv_at hl 4 rfl) ?_
        refine lv_aload_n hx hb dX5_fitness_60 rfl (lv_at hl 3 rfl) ?_
        refine lv_aload hx hb dX5_fitness_61 (lv_at hl 1 rfl) ?_
        obtain ⟨fs13, v13, e13, f13, hw⟩ := hw
        refine kw_get (ci := 1) (C := RX0) (T := TX0) (N := 5) hx hb hts inlX0 hown hK hW e13 rfl 0 (by decide) (hts _ q_19_11) (fun _ h9 => h9) f13 dX5_fitness_63 ?_
        refine lv_aload hx hb dX5_fitness_66 (lv_at hl 1 rfl) ?_
        obtain ⟨fs14, v14, e14, f14, hw⟩ := hw
        refine kw_get (ci := 1) (C := RX0) (T := TX0) (N := 5) hx hb hts inlX0 hown hK hW e14 rfl 1 (by decide) (hts _ q_12_17) (fun _ h9 => h9) f14 dX5_fitness_68 ?_
        obtain ⟨o15, k_products_15, k_leastCosts_15, k_bestOrders_15, q15, eo15_0, iw15, e15, hw⟩ := hw
        refine W.eq (g2 := F0 m 71 ls [.int v14, .int v13, .ref (o15 0), .long x4]) (by first | (rw [eo15_0]; done) | (rw [eo15_0]; rfl)) ?_
        refine kf_call (As := [.int v13, .int v14]) (rest := [.long x4]) (c_X3_costOf l D o15 ct v13 v14 k_products_15 k_leastCosts_15 k_bestOrders_15 q15 e15) B hK hN hA hW hS iw15 rfl (iw15.1 _ _ (List.mem_of_getElem? (i := 0) rfl)) (ci := 4) rfl k_X3_costOf q_15_19 rfl ⟨Nat.le_of_ble_eq_true rfl, Nat.le_of_ble_eq_true rfl⟩ ⟨Nat.le_of_ble_eq_true rfl, Nat.le_of_ble_eq_true rfl⟩ hl.1 rfl (Nat.le_of_ble_eq_true rfl) dX5_fitness_71 (fun h15 H locs eh15 hW hS => ?_)
        rw [hupw_same iw15] at eh15
        rw [eh15] at hW
        refine lv_ladd hx hb dX5_fitness_74 ?_
        refine lv_lstore (lv' := [(4, .long (x4 + q15)), (2, .long (x2 + q12)), (7, .ref v9), (0, .ref this), (1, .ref x1), (6, .int x6)]) hx hb dX5_fitness_75 hl (by decide) rfl (fun ls hl => ?_)
        refine lv_iinc (v := (x6 + (1 : Int32))) (lv' := [(6, .int (x6 + (1 : Int32))), (4, .long (x4 + q15)), (2, .long (x2 + q12)), (7, .ref v9), (0, .ref this), (1, .ref x1)]) hx hb dX5_fitness_77 hl (k := 5) rfl (congrArg (HAdd.hAdd x6) (by decide)) (by decide) rfl (fun ls hl => ?_)
        refine lv_goto (tgt := 14) hx hb dX5_fitness_80 (by decide) ?_
        refine W.widen (k := 0) (n := 0) (by omega) (by omega) ?_
        exact ih14 x1 (x2 + q12) (x4 + q15) (x6 + (1 : Int32)) h9 _ _ _ hw hW hS (lv_sub hl [4, 5, 2, 1, 0] rfl)
  unfold g_X5_fitness at hw
  refine lv_aload_n hx hb dX5_fitness_0 rfl (lv_at hl 0 rfl) ?_
  refine lv_iconst (v := (1 : Int32)) hx hb dX5_fitness_1 (by decide) ?_
  obtain ⟨⟨fs1, e1⟩, hw⟩ := hw
  refine k_call (As := [.int (1 : Int32)]) (rest := []) (ci := 6) (cg_X5_reckoned l D ct a0 this (1 : Int32) h _ hw) B hK hN hZ hA hW hS e1 rfl k_X5_reckoned q_13_18 rfl ⟨Nat.le_of_ble_eq_true rfl, Nat.le_of_ble_eq_true rfl⟩ ⟨Nat.le_of_ble_eq_true rfl, Nat.le_of_ble_eq_true rfl⟩ hl.1 rfl (Nat.le_of_ble_eq_true rfl) dX5_fitness_2 (fun v1 h1 H locs hw hW hS => ?_)
  refine lv_astore_n (lv' := [(1, .ref v1), (0, .ref this)]) hx hb dX5_fitness_5 rfl hl (by decide) rfl (fun ls hl => ?_)
  refine lv_lconst (v := (0 : Int64)) hx hb dX5_fitness_6 (by decide) ?_
  refine lv_lstore_n (lv' := [(2, .long (0 : Int64)), (1, .ref v1), (0, .ref this)]) hx hb dX5_fitness_7 rfl hl (by decide) rfl (fun ls hl => ?_)
  refine lv_lconst (v := (0 : Int64)) hx hb dX5_fitness_8 (by decide) ?_
  refine lv_lstore (lv' := [(4, .long (0 : Int64)), (2, .long (0 : Int64)), (1, .ref v1), (0, .ref this)]) hx hb dX5_fitness_9 hl (by decide) rfl (fun ls hl => ?_)
  refine lv_iconst (v := (0 : Int32)) hx hb dX5_fitness_11 (by decide) ?_
  refine lv_istore (lv' := [(6, .int (0 : Int32)), (4, .long (0 : Int64)), (2, .long (0 : Int64)), (1, .ref v1), (0, .ref this)]) hx hb dX5_fitness_12 hl (by decide) rfl (fun ls hl => ?_)
  refine W.widen (k := 0) (n := 0) (by omega) (by omega) ?_
  exact hL14 1024 v1 (0 : Int64) (0 : Int64) (0 : Int32) h1 _ _ _ hw hW hS (lv_sub hl [4, 3, 2, 1, 0] rfl)
