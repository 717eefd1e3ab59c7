/-! the law's own reckoning over the known heap: laid by wip/whole/genk.py -/
theorem k_L_size : SOk yL_size cL_size 7 (some .long) 3 := ⟨q_11_17, q_11_16, q_4_1, by decide +kernel⟩
theorem k_L_least : SOk yL_least cL_least 7 (some .long) 4 := ⟨q_11_13, q_11_12, q_4_1, by decide +kernel⟩
theorem k_L_rest : SOk yL_rest cL_rest 11 (some .long) 5 := ⟨q_11_21, q_11_20, q_4_1, by decide +kernel⟩
theorem k_L_best : SOk yL_best cL_best 13 none 5 := ⟨q_11_10, q_11_9, q_4_1, by decide +kernel⟩
theorem k_L_cost : SOk yL_cost cL_cost 8 (some .long) 4 := ⟨q_12_3, q_12_2, q_4_1, by decide +kernel⟩
theorem k_L_drifted : SOk yL_drifted cL_drifted 6 (some .boolean) 3 := ⟨q_10_3, q_10_2, q_4_1, by decide +kernel⟩
theorem k_L_out : SOk yL_out cL_out 4 none 3 := ⟨q_9_21, q_9_20, q_4_1, by decide +kernel⟩
theorem k_L_place : SOk yL_place cL_place 4 (some .int) 3 := ⟨q_11_7, q_11_6, q_4_1, by decide +kernel⟩
theorem k_L_thrown : SOk yL_thrown cL_thrown 5 (some .int) 3 := ⟨q_10_0, q_9_23, q_4_1, by decide +kernel⟩
theorem k_L_tables : SOk yL_tables cL_tables 3 (some .int) 1 := ⟨q_12_0, q_11_23, q_4_1, by decide +kernel⟩
theorem k_L_cut : SOk yL_cut cL_cut 2 (some .int) 1 := ⟨q_16_15, q_16_14, q_4_1, by decide +kernel⟩
theorem k_L_run : SOk yL_run cL_run 13 (some .long) 6 := ⟨q_11_3, q_11_2, q_4_1, by decide +kernel⟩
def g_L_size_L38b (ct : Nat → ClassId) (a0 : Nat) (a1 : Nat) (a2 : Int32) (a3 : Int32) (Post : Int64 → KH → Prop) (k5 : Int64 → Int32 → KH → Prop) (k38 : Int64 → Int32 → Int32 → KH → Prop) (x3 : Int64) (x5 : Int32) (x6 : Int32) (h : KH) : Prop :=
  if x5 ≤ x6 then k5 x3 (x5 + (1 : Int32)) h
  else if ((a2 >>> (x5 &&& 31)) &&& (1 : Int32)) = (1 : Int32) then if ((a2 >>> (x6 &&& 31)) &&& (1 : Int32)) = (1 : Int32) then ldI h a1 (((10 : Int32) + ((5 : Int32) * x6)) + x5) (ct 0) (fun v7 => k38 ((x3 * v7.toInt64) / (100 : Int64)) x5 (x6 + (1 : Int32)) h)
  else k38 x3 x5 (x6 + (1 : Int32)) h
  else k38 x3 x5 (x6 + (1 : Int32)) h
def g_L_size_L38 (ct : Nat → ClassId) (a0 : Nat) (a1 : Nat) (a2 : Int32) (a3 : Int32) (Post : Int64 → KH → Prop) (k5 : Int64 → Int32 → KH → Prop) : Nat → Int64 → Int32 → Int32 → KH → Prop
  | 0 => fun _ _ _ _ => False
  | n + 1 => g_L_size_L38b ct a0 a1 a2 a3 Post k5 (g_L_size_L38 ct a0 a1 a2 a3 Post k5 n)
def g_L_size_L5b (ct : Nat → ClassId) (a0 : Nat) (a1 : Nat) (a2 : Int32) (a3 : Int32) (Post : Int64 → KH → Prop)  (k5 : Int64 → Int32 → KH → Prop) (x3 : Int64) (x5 : Int32) (h : KH) : Prop :=
  if (5 : Int32) ≤ x5 then if (lg_cmp x3 (0 : Int64)) = (0 : Int32) then Post (1 : Int64) h
  else Post x3 h
  else if ((a2 >>> (x5 &&& 31)) &&& (1 : Int32)) = (1 : Int32) then ldI h a1 (a3 + x5) (ct 0) (fun v8 => g_L_size_L38 ct a0 a1 a2 a3 Post k5 1024 (x3 * v8.toInt64) x5 (0 : Int32) h)
  else g_L_size_L38 ct a0 a1 a2 a3 Post k5 1024 (x3 * (1 : Int64)) x5 (0 : Int32) h
def g_L_size_L5 (ct : Nat → ClassId) (a0 : Nat) (a1 : Nat) (a2 : Int32) (a3 : Int32) (Post : Int64 → KH → Prop)  : Nat → Int64 → Int32 → KH → Prop
  | 0 => fun _ _ _ => False
  | n + 1 => g_L_size_L5b ct a0 a1 a2 a3 Post  (g_L_size_L5 ct a0 a1 a2 a3 Post  n)
def g_L_size (ct : Nat → ClassId) (a0 : Nat) (a1 : Nat) (a2 : Int32) (a3 : Int32) (h : KH) (Post : Int64 → KH → Prop) : Prop :=
  g_L_size_L5 ct a0 a1 a2 a3 Post  1024 (1 : Int64) (0 : Int32) h
set_option maxRecDepth 100000 in
set_option maxHeartbeats 4000000 in
theorem cg_L_size (l : Launch) (D : va_G) (ct : Nat → ClassId) (a0 : Nat) (a1 : Nat) (a2 : Int32) (a3 : Int32) (h : KH) (Post : Int64 → KH → Prop) (hw : g_L_size ct a0 a1 a2 a3 h Post) : CK l yL_size cL_size 7 0 0 0 (some .long) D ct a0 [.ref a1, .int a2, .int a3] vL h Post := by
  refine CK.mkL (by decide) (Nat.le_of_ble_eq_true rfl) ?_
  intro p e s m below meth c Q A X hret hW hS ls hl
  obtain ⟨B, hin, hK, hN, hZ, hA⟩ := X
  have B0 := B
  obtain ⟨hx, hb, hml, hown, hts⟩ := B0
  have hl : lv_has ls 7 [(0, .ref a1), (1, .int a2), (2, .int a3)] := hl
  have hL5 : ∀ (n5 : Nat), ∀ (x3 : Int64) (x5 : Int32) (h : KH) (ls : Array Slot) (H : Heap) (locs : List Loc), g_L_size_L5 ct a0 a1 a2 a3 Post  n5 x3 x5 h → KW D A h H → va_S A s.heap H locs → lv_has ls 7 [(0, .ref a1), (1, .int a2), (2, .int a3), (3, .long x3), (5, .int x5)] → W p l e (rmF 0 0 0) s m ([.ref a1, .int a2, .int a3] : List Value).toArray below meth c H locs 0 0 Q (F0 m 5 ls []) := by
    intro n5
    induction n5 with
    | zero =>
      intro x3 x5 h ls H locs hw
      exact (show False from hw).elim
    | succ n5 ih5 =>
      have hL38 : ∀ (n38 : Nat), ∀ (x3 : Int64) (x5 : Int32) (x6 : Int32) (h : KH) (ls : Array Slot) (H : Heap) (locs : List Loc), g_L_size_L38 ct a0 a1 a2 a3 Post (g_L_size_L5 ct a0 a1 a2 a3 Post  n5) n38 x3 x5 x6 h → KW D A h H → va_S A s.heap H locs → lv_has ls 7 [(0, .ref a1), (1, .int a2), (2, .int a3), (3, .long x3), (5, .int x5), (6, .int x6)] → W p l e (rmF 0 0 0) s m ([.ref a1, .int a2, .int a3] : List Value).toArray below meth c H locs 0 0 Q (F0 m 38 ls []) := by
        intro n38
        induction n38 with
        | zero =>
          intro x3 x5 x6 h ls H locs hw
          exact (show False from hw).elim
        | succ n38 ih38 =>
          intro x3 x5 x6 h ls H locs hw hW hS hl
          have hw : g_L_size_L38b ct a0 a1 a2 a3 Post (g_L_size_L5 ct a0 a1 a2 a3 Post  n5) (g_L_size_L38 ct a0 a1 a2 a3 Post (g_L_size_L5 ct a0 a1 a2 a3 Post  n5) n38) x3 x5 x6 h := hw
          unfold g_L_size_L38b at hw
          refine lv_iload hx hb dL_size_38 (lv_at hl 5 rfl) ?_
          refine lv_iload hx hb dL_size_40 (lv_at hl 4 rfl) ?_
          refine lv_icmp_ge (tgt := 95) hx hb dL_size_42 (by decide) (fun c4 => ?_) (fun c4 => ?_)
          · have hw := itp c4 hw
            refine lv_iinc (v := (x5 + (1 : Int32))) (lv' := [(5, .int (x5 + (1 : Int32))), (0, .ref a1), (1, .int a2), (2, .int a3), (3, .long x3), (6, .int x6)]) hx hb dL_size_95 hl (k := 4) rfl (congrArg (HAdd.hAdd x5) (by decide)) (by decide) rfl (fun ls hl => ?_)
            refine lv_goto (tgt := 5) hx hb dL_size_98 (by decide) ?_
            exact ih5 x3 (x5 + (1 : Int32)) h _ _ _ hw hW hS (lv_sub hl [1, 2, 3, 4, 0] rfl)
          · have hw := itn c4 hw
            refine lv_iload_n hx hb dL_size_45 rfl (lv_at hl 1 rfl) ?_
            refine lv_iload hx hb dL_size_46 (lv_at hl 4 rfl) ?_
            refine lv_ishr hx hb dL_size_48 ?_
            refine lv_iconst (v := (1 : Int32)) hx hb dL_size_49 (by decide) ?_
            refine lv_iand hx hb dL_size_50 ?_
            refine lv_iconst (v := (1 : Int32)) hx hb dL_size_51 (by decide) ?_
            refine lv_icmp_ne (tgt := 87) hx hb dL_size_52 (by decide) (fun c5 => ?_) (fun c5 => ?_)
            · have hw := itn c5 hw
              refine lv_lload_n hx hb dL_size_87 rfl (lv_at hl 3 rfl) ?_
              refine lv_lstore_n (lv' := [(3, .long x3), (0, .ref a1), (1, .int a2), (2, .int a3), (5, .int x5), (6, .int x6)]) hx hb dL_size_88 rfl hl (by decide) rfl (fun ls hl => ?_)
              refine lv_iinc (v := (x6 + (1 : Int32))) (lv' := [(6, .int (x6 + (1 : Int32))), (3, .long x3), (0, .ref a1), (1, .int a2), (2, .int a3), (5, .int x5)]) hx hb dL_size_89 hl (k := 5) rfl (congrArg (HAdd.hAdd x6) (by decide)) (by decide) rfl (fun ls hl => ?_)
              refine lv_goto (tgt := 38) hx hb dL_size_92 (by decide) ?_
              exact ih38 x3 x5 (x6 + (1 : Int32)) h _ _ _ hw hW hS (lv_sub hl [2, 3, 4, 1, 5, 0] rfl)
            · have hw := itp c5 hw
              refine lv_iload_n hx hb dL_size_55 rfl (lv_at hl 1 rfl) ?_
              refine lv_iload hx hb dL_size_56 (lv_at hl 5 rfl) ?_
              refine lv_ishr hx hb dL_size_58 ?_
              refine lv_iconst (v := (1 : Int32)) hx hb dL_size_59 (by decide) ?_
              refine lv_iand hx hb dL_size_60 ?_
              refine lv_iconst (v := (1 : Int32)) hx hb dL_size_61 (by decide) ?_
              refine lv_icmp_ne (tgt := 87) hx hb dL_size_62 (by decide) (fun c6 => ?_) (fun c6 => ?_)
              · have hw := itn c6 hw
                refine lv_lload_n hx hb dL_size_87 rfl (lv_at hl 3 rfl) ?_
                refine lv_lstore_n (lv' := [(3, .long x3), (0, .ref a1), (1, .int a2), (2, .int a3), (5, .int x5), (6, .int x6)]) hx hb dL_size_88 rfl hl (by decide) rfl (fun ls hl => ?_)
                refine lv_iinc (v := (x6 + (1 : Int32))) (lv' := [(6, .int (x6 + (1 : Int32))), (3, .long x3), (0, .ref a1), (1, .int a2), (2, .int a3), (5, .int x5)]) hx hb dL_size_89 hl (k := 5) rfl (congrArg (HAdd.hAdd x6) (by decide)) (by decide) rfl (fun ls hl => ?_)
                refine lv_goto (tgt := 38) hx hb dL_size_92 (by decide) ?_
                exact ih38 x3 x5 (x6 + (1 : Int32)) h _ _ _ hw hW hS (lv_sub hl [2, 3, 4, 1, 5, 0] rfl)
              · have hw := itp c6 hw
                refine lv_lload_n hx hb dL_size_65 rfl (lv_at hl 3 rfl) ?_
                refine lv_aload_n hx hb dL_size_66 rfl (lv_at hl 0 rfl) ?_
                refine lv_bipush (v := (10 : Int32)) hx hb dL_size_67 (by decide) ?_
                refine lv_iconst (v := (5 : Int32)) hx hb dL_size_69 (by decide) ?_
                refine lv_iload hx hb dL_size_70 (lv_at hl 5 rfl) ?_
                refine lv_imul hx hb dL_size_72 ?_
                refine lv_iadd hx hb dL_size_73 ?_
                refine lv_iload hx hb dL_size_74 (lv_at hl 4 rfl) ?_
                refine lv_iadd hx hb dL_size_76 ?_
                obtain ⟨n7, f7, v7, e7, g7, ev7, hw⟩ := hw
                refine kw_iald hx hb hK hW 0 e7 rfl g7 ev7 dL_size_77 ?_
                refine lv_i2l hx hb dL_size_78 rfl ?_
                refine lv_lmul hx hb dL_size_79 ?_
                refine lv_ldc2 (v := (100 : Int64)) hx hb hown (hts _ q_11_18) dL_size_80 ?_
                refine lv_ldiv hx hb dL_size_83 (by decide) ?_
                refine lv_goto (tgt := 88) hx hb dL_size_84 (by decide) ?_
                refine lv_lstore_n (lv' := [(3, .long ((x3 * v7.toInt64) / (100 : Int64))), (0, .ref a1), (1, .int a2), (2, .int a3), (5, .int x5), (6, .int x6)]) hx hb dL_size_88 rfl hl (by decide) rfl (fun ls hl => ?_)
                refine lv_iinc (v := (x6 + (1 : Int32))) (lv' := [(6, .int (x6 + (1 : Int32))), (3, .long ((x3 * v7.toInt64) / (100 : Int64))), (0, .ref a1), (1, .int a2), (2, .int a3), (5, .int x5)]) hx hb dL_size_89 hl (k := 5) rfl (congrArg (HAdd.hAdd x6) (by decide)) (by decide) rfl (fun ls hl => ?_)
                refine lv_goto (tgt := 38) hx hb dL_size_92 (by decide) ?_
                exact ih38 ((x3 * v7.toInt64) / (100 : Int64)) x5 (x6 + (1 : Int32)) h _ _ _ hw hW hS (lv_sub hl [2, 3, 4, 1, 5, 0] rfl)
      intro x3 x5 h ls H locs hw hW hS hl
      have hw : g_L_size_L5b ct a0 a1 a2 a3 Post  (g_L_size_L5 ct a0 a1 a2 a3 Post  n5) x3 x5 h := hw
      unfold g_L_size_L5b at hw
      refine lv_iload hx hb dL_size_5 (lv_at hl 4 rfl) ?_
      refine lv_iconst (v := (5 : Int32)) hx hb dL_size_7 (by decide) ?_
      refine lv_icmp_ge (tgt := 101) hx hb dL_size_8 (by decide) (fun c1 => ?_) (fun c1 => ?_)
      · have hw := itp c1 hw
        refine lv_lload_n hx hb dL_size_101 rfl (lv_at hl 3 rfl) ?_
        refine lv_lconst (v := (0 : Int64)) hx hb dL_size_102 (by decide) ?_
        refine W.lcmp hx hb dL_size_103 ?_
        refine lv_if_ne (tgt := 111) hx hb dL_size_104 (by decide) (fun c2 => ?_) (fun c2 => ?_)
        · have hw := itn c2 hw
          refine lv_lload_n hx hb dL_size_111 rfl (lv_at hl 3 rfl) ?_
          exact hret _ _ _ _ x3 h dL_size_112 hw hW hS
        · have hw := itp c2 hw
          refine lv_lconst (v := (1 : Int64)) hx hb dL_size_107 (by decide) ?_
          refine lv_goto (tgt := 112) hx hb dL_size_108 (by decide) ?_
          exact hret _ _ _ _ (1 : Int64) h dL_size_112 hw hW hS
      · have hw := itn c1 hw
        refine lv_lload_n hx hb dL_size_11 rfl (lv_at hl 3 rfl) ?_
        refine lv_iload_n hx hb dL_size_12 rfl (lv_at hl 1 rfl) ?_
        refine lv_iload hx hb dL_size_13 (lv_at hl 4 rfl) ?_
        refine lv_ishr hx hb dL_size_15 ?_
        refine lv_iconst (v := (1 : Int32)) hx hb dL_size_16 (by decide) ?_
        refine lv_iand hx hb dL_size_17 ?_
        refine lv_iconst (v := (1 : Int32)) hx hb dL_size_18 (by decide) ?_
        refine lv_icmp_ne (tgt := 32) hx hb dL_size_19 (by decide) (fun c3 => ?_) (fun c3 => ?_)
        · have hw := itn c3 hw
          refine lv_lconst (v := (1 : Int64)) hx hb dL_size_32 (by decide) ?_
          refine lv_lmul hx hb dL_size_33 ?_
          refine lv_lstore_n (lv' := [(3, .long (x3 * (1 : Int64))), (0, .ref a1), (1, .int a2), (2, .int a3), (5, .int x5)]) hx hb dL_size_34 rfl hl (by decide) rfl (fun ls hl => ?_)
          refine lv_iconst (v := (0 : Int32)) hx hb dL_size_35 (by decide) ?_
          refine lv_istore (lv' := [(6, .int (0 : Int32)), (3, .long (x3 * (1 : Int64))), (0, .ref a1), (1, .int a2), (2, .int a3), (5, .int x5)]) hx hb dL_size_36 hl (by decide) rfl (fun ls hl => ?_)
          exact hL38 1024 (x3 * (1 : Int64)) x5 (0 : Int32) h _ _ _ hw hW hS (lv_sub hl [2, 3, 4, 1, 5, 0] rfl)
        · have hw := itp c3 hw
          refine lv_aload_n hx hb dL_size_22 rfl (lv_at hl 0 rfl) ?_
          refine lv_iload_n hx hb dL_size_23 rfl (lv_at hl 2 rfl) ?_
          refine lv_iload hx hb dL_size_24 (lv_at hl 4 rfl) ?_
          refine lv_iadd hx hb dL_size_26 ?_
          obtain ⟨n8, f8, v8, e8, g8, ev8, hw⟩ := hw
          refine kw_iald hx hb hK hW 0 e8 rfl g8 ev8 dL_size_27 ?_
          refine lv_i2l hx hb dL_size_28 rfl ?_
          refine lv_goto (tgt := 33) hx hb dL_size_29 (by decide) ?_
          refine lv_lmul hx hb dL_size_33 ?_
          refine lv_lstore_n (lv' := [(3, .long (x3 * v8.toInt64)), (0, .ref a1), (1, .int a2), (2, .int a3), (5, .int x5)]) hx hb dL_size_34 rfl hl (by decide) rfl (fun ls hl => ?_)
          refine lv_iconst (v := (0 : Int32)) hx hb dL_size_35 (by decide) ?_
          refine lv_istore (lv' := [(6, .int (0 : Int32)), (3, .long (x3 * v8.toInt64)), (0, .ref a1), (1, .int a2), (2, .int a3), (5, .int x5)]) hx hb dL_size_36 hl (by decide) rfl (fun ls hl => ?_)
          exact hL38 1024 (x3 * v8.toInt64) x5 (0 : Int32) h _ _ _ hw hW hS (lv_sub hl [2, 3, 4, 1, 5, 0] rfl)
  unfold g_L_size at hw
  refine lv_lconst (v := (1 : Int64)) hx hb dL_size_0 (by decide) ?_
  refine lv_lstore_n (lv' := [(3, .long (1 : Int64)), (0, .ref a1), (1, .int a2), (2, .int a3)]) hx hb dL_size_1 rfl hl (by decide) rfl (fun ls hl => ?_)
  refine lv_iconst (v := (0 : Int32)) hx hb dL_size_2 (by decide) ?_
  refine lv_istore (lv' := [(5, .int (0 : Int32)), (3, .long (1 : Int64)), (0, .ref a1), (1, .int a2), (2, .int a3)]) hx hb dL_size_3 hl (by decide) rfl (fun ls hl => ?_)
  exact hL5 1024 (1 : Int64) (0 : Int32) h _ _ _ hw hW hS (lv_sub hl [2, 3, 4, 1, 0] rfl)

def g_L_least_L23b (ct : Nat → ClassId) (a0 : Nat) (a1 : Nat) (a2 : Int32) (a3 : Int32) (a4 : Nat) (Post : Int64 → KH → Prop) (k7 : Int32 → KH → Prop) (k23 : Int32 → Int32 → KH → Prop) (x4 : Int32) (x5 : Int32) (h : KH) : Prop :=
  if (5 : Int32) ≤ x5 then ldL h a4 x4 (ct 1) (fun v6 => g_L_size ct a0 a1 x4 a3 h (fun v7 h7 => stL h7 a4 x4 (ct 1) (v6 + v7) (fun h8 => k7 (x4 + (1 : Int32)) h8)))
  else if (x4 &&& (((1 : Int32) <<< (x5 &&& 31)) ^^^ (-1 : Int32))) = x4 then ldL h a4 x4 (ct 1) (fun v10 => stL h a4 x4 (ct 1) v10 (fun h11 => k23 x4 (x5 + (1 : Int32)) h11))
  else ldL h a4 x4 (ct 1) (fun v12 => if (lg_cmp v12 (0 : Int64)) < (0 : Int32) then ldL h a4 (x4 &&& (((1 : Int32) <<< (x5 &&& 31)) ^^^ (-1 : Int32))) (ct 1) (fun v14 => stL h a4 x4 (ct 1) v14 (fun h15 => k23 x4 (x5 + (1 : Int32)) h15))
  else ldL h a4 (x4 &&& (((1 : Int32) <<< (x5 &&& 31)) ^^^ (-1 : Int32))) (ct 1) (fun v16 => ldL h a4 x4 (ct 1) (fun v17 => if (0 : Int32) ≤ (lg_cmp v16 v17) then ldL h a4 x4 (ct 1) (fun v19 => stL h a4 x4 (ct 1) v19 (fun h20 => k23 x4 (x5 + (1 : Int32)) h20))
  else ldL h a4 (x4 &&& (((1 : Int32) <<< (x5 &&& 31)) ^^^ (-1 : Int32))) (ct 1) (fun v21 => stL h a4 x4 (ct 1) v21 (fun h22 => k23 x4 (x5 + (1 : Int32)) h22)))))
def g_L_least_L23 (ct : Nat → ClassId) (a0 : Nat) (a1 : Nat) (a2 : Int32) (a3 : Int32) (a4 : Nat) (Post : Int64 → KH → Prop) (k7 : Int32 → KH → Prop) : Nat → Int32 → Int32 → KH → Prop
  | 0 => fun _ _ _ => False
  | n + 1 => g_L_least_L23b ct a0 a1 a2 a3 a4 Post k7 (g_L_least_L23 ct a0 a1 a2 a3 a4 Post k7 n)
def g_L_least_L7b (ct : Nat → ClassId) (a0 : Nat) (a1 : Nat) (a2 : Int32) (a3 : Int32) (a4 : Nat) (Post : Int64 → KH → Prop)  (k7 : Int32 → KH → Prop) (x4 : Int32) (h : KH) : Prop :=
  if a2 < x4 then ldL h a4 a2 (ct 1) (fun v3 => Post v3 h)
  else stL h a4 x4 (ct 1) (-1 : Int64) (fun h4 => g_L_least_L23 ct a0 a1 a2 a3 a4 Post k7 1024 x4 (0 : Int32) h4)
def g_L_least_L7 (ct : Nat → ClassId) (a0 : Nat) (a1 : Nat) (a2 : Int32) (a3 : Int32) (a4 : Nat) (Post : Int64 → KH → Prop)  : Nat → Int32 → KH → Prop
  | 0 => fun _ _ => False
  | n + 1 => g_L_least_L7b ct a0 a1 a2 a3 a4 Post  (g_L_least_L7 ct a0 a1 a2 a3 a4 Post  n)
def g_L_least (ct : Nat → ClassId) (a0 : Nat) (a1 : Nat) (a2 : Int32) (a3 : Int32) (a4 : Nat) (h : KH) (Post : Int64 → KH → Prop) : Prop :=
  stL h a4 (0 : Int32) (ct 1) (0 : Int64) (fun h1 => g_L_least_L7 ct a0 a1 a2 a3 a4 Post  1024 (1 : Int32) h1)
set_option maxRecDepth 100000 in
set_option maxHeartbeats 4000000 in
theorem cg_L_least (l : Launch) (D : va_G) (ct : Nat → ClassId) (a0 : Nat) (a1 : Nat) (a2 : Int32) (a3 : Int32) (a4 : Nat) (h : KH) (Post : Int64 → KH → Prop) (hw : g_L_least ct a0 a1 a2 a3 a4 h Post) : CK l yL_least cL_least 7 1 0 0 (some .long) D ct a0 [.ref a1, .int a2, .int a3, .ref a4] vL h Post := by
  refine CK.mkL (by decide) (Nat.le_of_ble_eq_true rfl) ?_
  intro p e s m below meth c Q A X hret hW hS ls hl
  obtain ⟨B, hin, hK, hN, hZ, hA⟩ := X
  have B0 := B
  obtain ⟨hx, hb, hml, hown, hts⟩ := B0
  have hl : lv_has ls 7 [(0, .ref a1), (1, .int a2), (2, .int a3), (3, .ref a4)] := hl
  have hL7 : ∀ (n7 : Nat), ∀ (x4 : Int32) (h : KH) (ls : Array Slot) (H : Heap) (locs : List Loc), g_L_least_L7 ct a0 a1 a2 a3 a4 Post  n7 x4 h → KW D A h H → va_S A s.heap H locs → lv_has ls 7 [(0, .ref a1), (1, .int a2), (2, .int a3), (3, .ref a4), (4, .int x4)] → W p l e (rmF 1 0 0) s m ([.ref a1, .int a2, .int a3, .ref a4] : List Value).toArray below meth c H locs 0 0 Q (F0 m 7 ls []) := by
    intro n7
    induction n7 with
    | zero =>
      intro x4 h ls H locs hw
      exact (show False from hw).elim
    | succ n7 ih7 =>
      have hL23 : ∀ (n23 : Nat), ∀ (x4 : Int32) (x5 : Int32) (h : KH) (ls : Array Slot) (H : Heap) (locs : List Loc), g_L_least_L23 ct a0 a1 a2 a3 a4 Post (g_L_least_L7 ct a0 a1 a2 a3 a4 Post  n7) n23 x4 x5 h → KW D A h H → va_S A s.heap H locs → lv_has ls 7 [(0, .ref a1), (1, .int a2), (2, .int a3), (3, .ref a4), (4, .int x4), (5, .int x5)] → W p l e (rmF 1 0 0) s m ([.ref a1, .int a2, .int a3, .ref a4] : List Value).toArray below meth c H locs 0 0 Q (F0 m 23 ls []) := by
        intro n23
        induction n23 with
        | zero =>
          intro x4 x5 h ls H locs hw
          exact (show False from hw).elim
        | succ n23 ih23 =>
          intro x4 x5 h ls H locs hw hW hS hl
          have hw : g_L_least_L23b ct a0 a1 a2 a3 a4 Post (g_L_least_L7 ct a0 a1 a2 a3 a4 Post  n7) (g_L_least_L23 ct a0 a1 a2 a3 a4 Post (g_L_least_L7 ct a0 a1 a2 a3 a4 Post  n7) n23) x4 x5 h := hw
          unfold g_L_least_L23b at hw
          refine lv_iload hx hb dL_least_23 (lv_at hl 5 rfl) ?_
          refine lv_iconst (v := (5 : Int32)) hx hb dL_least_25 (by decide) ?_
          refine lv_icmp_ge (tgt := 89) hx hb dL_least_26 (by decide) (fun c5 => ?_) (fun c5 => ?_)
          · have hw := itp c5 hw
            refine lv_aload_n hx hb dL_least_89 rfl (lv_at hl 3 rfl) ?_
            refine lv_iload hx hb dL_least_90 (lv_at hl 4 rfl) ?_
            refine lv_dup2_11 hx hb dL_least_92 rfl rfl ?_
            obtain ⟨n6, f6, v6, e6, g6, ev6, hw⟩ := hw
            refine kw_lald hx hb hK hW 1 e6 rfl g6 ev6 dL_least_93 ?_
            refine lv_aload_n hx hb dL_least_94 rfl (lv_at hl 0 rfl) ?_
            refine lv_iload hx hb dL_least_95 (lv_at hl 4 rfl) ?_
            refine lv_iload_n hx hb dL_least_97 rfl (lv_at hl 2 rfl) ?_
            refine ks_call (As := [.ref a1, .int x4, .int a3]) (rest := [.long v6, .int x4, .ref a4]) (cg_L_size l D ct a0 a1 x4 a3 h _ hw) B hK hN hZ hA hW hS k_L_size q_11_15 rfl ⟨Nat.le_of_ble_eq_true rfl, Nat.le_of_ble_eq_true rfl⟩ ⟨Nat.le_of_ble_eq_true rfl, Nat.le_of_ble_eq_true rfl⟩ hl.1 rfl (Nat.le_of_ble_eq_true rfl) dL_least_98 (fun v7 h7 H locs hw hW hS => ?_)
            refine lv_ladd hx hb dL_least_101 ?_
            obtain ⟨n8, f8, e8, g8, hw⟩ := hw
            refine kw_last hx hb hK hW hS 1 e8 rfl g8 dL_least_102 (fun H locs h8 eh8 hW hS => ?_)
            have hw := hw h8 eh8
            refine lv_iinc (v := (x4 + (1 : Int32))) (lv' := [(4, .int (x4 + (1 : Int32))), (0, .ref a1), (1, .int a2), (2, .int a3), (3, .ref a4), (5, .int x5)]) hx hb dL_least_103 hl (k := 4) rfl (congrArg (HAdd.hAdd x4) (by decide)) (by decide) rfl (fun ls hl => ?_)
            refine lv_goto (tgt := 7) hx hb dL_least_106 (by decide) ?_
            refine W.widen (k := 0) (n := 0) (by omega) (by omega) ?_
            exact ih7 (x4 + (1 : Int32)) h8 _ _ _ hw hW hS (lv_sub hl [1, 2, 3, 4, 0] rfl)
          · have hw := itn c5 hw
            refine lv_iload hx hb dL_least_29 (lv_at hl 4 rfl) ?_
            refine lv_iconst (v := (1 : Int32)) hx hb dL_least_31 (by decide) ?_
            refine lv_iload hx hb dL_least_32 (lv_at hl 5 rfl) ?_
            refine lv_ishl hx hb dL_least_34 ?_
            refine lv_iconst (v := (-1 : Int32)) hx hb dL_least_35 (by decide) ?_
            refine lv_ixor hx hb dL_least_36 ?_
            refine lv_iand hx hb dL_least_37 ?_
            refine lv_istore (lv' := [(6, .int (x4 &&& (((1 : Int32) <<< (x5 &&& 31)) ^^^ (-1 : Int32)))), (0, .ref a1), (1, .int a2), (2, .int a3), (3, .ref a4), (4, .int x4), (5, .int x5)]) hx hb dL_least_38 hl (by decide) rfl (fun ls hl => ?_)
            refine lv_aload_n hx hb dL_least_40 rfl (lv_at hl 4 rfl) ?_
            refine lv_iload hx hb dL_least_41 (lv_at hl 5 rfl) ?_
            refine lv_iload hx hb dL_least_43 (lv_at hl 0 rfl) ?_
            refine lv_iload hx hb dL_least_45 (lv_at hl 5 rfl) ?_
            refine lv_icmp_eq (tgt := 78) hx hb dL_least_47 (by decide) (fun c9 => ?_) (fun c9 => ?_)
            · have hw := itp c9 hw
              refine lv_aload_n hx hb dL_least_78 rfl (lv_at hl 4 rfl) ?_
              refine lv_iload hx hb dL_least_79 (lv_at hl 5 rfl) ?_
              obtain ⟨n10, f10, v10, e10, g10, ev10, hw⟩ := hw
              refine kw_lald hx hb hK hW 1 e10 rfl g10 ev10 dL_least_81 ?_
              obtain ⟨n11, f11, e11, g11, hw⟩ := hw
              refine kw_last hx hb hK hW hS 1 e11 rfl g11 dL_least_82 (fun H locs h11 eh11 hW hS => ?_)
              have hw := hw h11 eh11
              refine lv_iinc (v := (x5 + (1 : Int32))) (lv' := [(5, .int (x5 + (1 : Int32))), (6, .int (x4 &&& (((1 : Int32) <<< (x5 &&& 31)) ^^^ (-1 : Int32)))), (0, .ref a1), (1, .int a2), (2, .int a3), (3, .ref a4), (4, .int x4)]) hx hb dL_least_83 hl (k := 6) rfl (congrArg (HAdd.hAdd x5) (by decide)) (by decide) rfl (fun ls hl => ?_)
              refine lv_goto (tgt := 23) hx hb dL_least_86 (by decide) ?_
              exact ih23 x4 (x5 + (1 : Int32)) h11 _ _ _ hw hW hS (lv_sub hl [2, 3, 4, 5, 6, 0] rfl)
            · have hw := itn c9 hw
              refine lv_aload_n hx hb dL_least_50 rfl (lv_at hl 4 rfl) ?_
              refine lv_iload hx hb dL_least_51 (lv_at hl 5 rfl) ?_
              obtain ⟨n12, f12, v12, e12, g12, ev12, hw⟩ := hw
              refine kw_lald hx hb hK hW 1 e12 rfl g12 ev12 dL_least_53 ?_
              refine lv_lconst (v := (0 : Int64)) hx hb dL_least_54 (by decide) ?_
              refine W.lcmp hx hb dL_least_55 ?_
              refine lv_if_lt (tgt := 71) hx hb dL_least_56 (by decide) (fun c13 => ?_) (fun c13 => ?_)
              · have hw := itp c13 hw
                refine lv_aload_n hx hb dL_least_71 rfl (lv_at hl 4 rfl) ?_
                refine lv_iload hx hb dL_least_72 (lv_at hl 0 rfl) ?_
                obtain ⟨n14, f14, v14, e14, g14, ev14, hw⟩ := hw
                refine kw_lald hx hb hK hW 1 e14 rfl g14 ev14 dL_least_74 ?_
                refine lv_goto (tgt := 82) hx hb dL_least_75 (by decide) ?_
                obtain ⟨n15, f15, e15, g15, hw⟩ := hw
                refine kw_last hx hb hK hW hS 1 e15 rfl g15 dL_least_82 (fun H locs h15 eh15 hW hS => ?_)
                have hw := hw h15 eh15
                refine lv_iinc (v := (x5 + (1 : Int32))) (lv' := [(5, .int (x5 + (1 : Int32))), (6, .int (x4 &&& (((1 : Int32) <<< (x5 &&& 31)) ^^^ (-1 : Int32)))), (0, .ref a1), (1, .int a2), (2, .int a3), (3, .ref a4), (4, .int x4)]) hx hb dL_least_83 hl (k := 6) rfl (congrArg (HAdd.hAdd x5) (by decide)) (by decide) rfl (fun ls hl => ?_)
                refine lv_goto (tgt := 23) hx hb dL_least_86 (by decide) ?_
                exact ih23 x4 (x5 + (1 : Int32)) h15 _ _ _ hw hW hS (lv_sub hl [2, 3, 4, 5, 6, 0] rfl)
              · have hw := itn c13 hw
                refine lv_aload_n hx hb dL_least_59 rfl (lv_at hl 4 rfl) ?_
                refine lv_iload hx hb dL_least_60 (lv_at hl 0 rfl) ?_
                obtain ⟨n16, f16, v16, e16, g16, ev16, hw⟩ := hw
                refine kw_lald hx hb hK hW 1 e16 rfl g16 ev16 dL_least_62 ?_
                refine lv_aload_n hx hb dL_least_63 rfl (lv_at hl 4 rfl) ?_
                refine lv_iload hx hb dL_least_64 (lv_at hl 5 rfl) ?_
                obtain ⟨n17, f17, v17, e17, g17, ev17, hw⟩ := hw
                refine kw_lald hx hb hK hW 1 e17 rfl g17 ev17 dL_least_66 ?_
                refine W.lcmp hx hb dL_least_67 ?_
                refine lv_if_ge (tgt := 78) hx hb dL_least_68 (by decide) (fun c18 => ?_) (fun c18 => ?_)
                · have hw := itp c18 hw
                  refine lv_aload_n hx hb dL_least_78 rfl (lv_at hl 4 rfl) ?_
                  refine lv_iload hx hb dL_least_79 (lv_at hl 5 rfl) ?_
                  obtain ⟨n19, f19, v19, e19, g19, ev19, hw⟩ := hw
                  refine kw_lald hx hb hK hW 1 e19 rfl g19 ev19 dL_least_81 ?_
                  obtain ⟨n20, f20, e20, g20, hw⟩ := hw
                  refine kw_last hx hb hK hW hS 1 e20 rfl g20 dL_least_82 (fun H locs h20 eh20 hW hS => ?_)
                  have hw := hw h20 eh20
                  refine lv_iinc (v := (x5 + (1 : Int32))) (lv' := [(5, .int (x5 + (1 : Int32))), (6, .int (x4 &&& (((1 : Int32) <<< (x5 &&& 31)) ^^^ (-1 : Int32)))), (0, .ref a1), (1, .int a2), (2, .int a3), (3, .ref a4), (4, .int x4)]) hx hb dL_least_83 hl (k := 6) rfl (congrArg (HAdd.hAdd x5) (by decide)) (by decide) rfl (fun ls hl => ?_)
                  refine lv_goto (tgt := 23) hx hb dL_least_86 (by decide) ?_
                  exact ih23 x4 (x5 + (1 : Int32)) h20 _ _ _ hw hW hS (lv_sub hl [2, 3, 4, 5, 6, 0] rfl)
                · have hw := itn c18 hw
                  refine lv_aload_n hx hb dL_least_71 rfl (lv_at hl 4 rfl) ?_
                  refine lv_iload hx hb dL_least_72 (lv_at hl 0 rfl) ?_
                  obtain ⟨n21, f21, v21, e21, g21, ev21, hw⟩ := hw
                  refine kw_lald hx hb hK hW 1 e21 rfl g21 ev21 dL_least_74 ?_
                  refine lv_goto (tgt := 82) hx hb dL_least_75 (by decide) ?_
                  obtain ⟨n22, f22, e22, g22, hw⟩ := hw
                  refine kw_last hx hb hK hW hS 1 e22 rfl g22 dL_least_82 (fun H locs h22 eh22 hW hS => ?_)
                  have hw := hw h22 eh22
                  refine lv_iinc (v := (x5 + (1 : Int32))) (lv' := [(5, .int (x5 + (1 : Int32))), (6, .int (x4 &&& (((1 : Int32) <<< (x5 &&& 31)) ^^^ (-1 : Int32)))), (0, .ref a1), (1, .int a2), (2, .int a3), (3, .ref a4), (4, .int x4)]) hx hb dL_least_83 hl (k := 6) rfl (congrArg (HAdd.hAdd x5) (by decide)) (by decide) rfl (fun ls hl => ?_)
                  refine lv_goto (tgt := 23) hx hb dL_least_86 (by decide) ?_
                  exact ih23 x4 (x5 + (1 : Int32)) h22 _ _ _ hw hW hS (lv_sub hl [2, 3, 4, 5, 6, 0] rfl)
      intro x4 h ls H locs hw hW hS hl
      have hw : g_L_least_L7b ct a0 a1 a2 a3 a4 Post  (g_L_least_L7 ct a0 a1 a2 a3 a4 Post  n7) x4 h := hw
      unfold g_L_least_L7b at hw
      refine lv_iload hx hb dL_least_7 (lv_at hl 4 rfl) ?_
      refine lv_iload_n hx hb dL_least_9 rfl (lv_at hl 1 rfl) ?_
      refine lv_icmp_gt (tgt := 109) hx hb dL_least_10 (by decide) (fun c2 => ?_) (fun c2 => ?_)
      · have hw := itp c2 hw
        refine lv_aload_n hx hb dL_least_109 rfl (lv_at hl 3 rfl) ?_
        refine lv_iload_n hx hb dL_least_110 rfl (lv_at hl 1 rfl) ?_
        obtain ⟨n3, f3, v3, e3, g3, ev3, hw⟩ := hw
        refine kw_lald hx hb hK hW 1 e3 rfl g3 ev3 dL_least_111 ?_
        exact hret _ _ _ _ v3 h dL_least_112 hw hW hS
      · have hw := itn c2 hw
        refine lv_aload_n hx hb dL_least_13 rfl (lv_at hl 3 rfl) ?_
        refine lv_iload hx hb dL_least_14 (lv_at hl 4 rfl) ?_
        refine lv_ldc2 (v := (-1 : Int64)) hx hb hown (hts _ q_11_14) dL_least_16 ?_
        obtain ⟨n4, f4, e4, g4, hw⟩ := hw
        refine kw_last hx hb hK hW hS 1 e4 rfl g4 dL_least_19 (fun H locs h4 eh4 hW hS => ?_)
        have hw := hw h4 eh4
        refine lv_iconst (v := (0 : Int32)) hx hb dL_least_20 (by decide) ?_
        refine lv_istore (lv' := [(5, .int (0 : Int32)), (0, .ref a1), (1, .int a2), (2, .int a3), (3, .ref a4), (4, .int x4)]) hx hb dL_least_21 hl (by decide) rfl (fun ls hl => ?_)
        exact hL23 1024 x4 (0 : Int32) h4 _ _ _ hw hW hS (lv_sub hl [1, 2, 3, 4, 5, 0] rfl)
  unfold g_L_least at hw
  refine lv_aload_n hx hb dL_least_0 rfl (lv_at hl 3 rfl) ?_
  refine lv_iconst (v := (0 : Int32)) hx hb dL_least_1 (by decide) ?_
  refine lv_lconst (v := (0 : Int64)) hx hb dL_least_2 (by decide) ?_
  obtain ⟨n1, f1, e1, g1, hw⟩ := hw
  refine kw_last hx hb hK hW hS 1 e1 rfl g1 dL_least_3 (fun H locs h1 eh1 hW hS => ?_)
  have hw := hw h1 eh1
  refine lv_iconst (v := (1 : Int32)) hx hb dL_least_4 (by decide) ?_
  refine lv_istore (lv' := [(4, .int (1 : Int32)), (0, .ref a1), (1, .int a2), (2, .int a3), (3, .ref a4)]) hx hb dL_least_5 hl (by decide) rfl (fun ls hl => ?_)
  exact hL7 1024 (1 : Int32) h1 _ _ _ hw hW hS (lv_sub hl [1, 2, 3, 4, 0] rfl)

def g_L_rest_J124 (ct : Nat → ClassId) (a0 : Nat) (a1 : Nat) (a2 : Int32) (a3 : Int32) (a4 : Int32) (a5 : Nat) (Post : Int64 → KH → Prop) (k4 : Int32 → KH → Prop) (k33 : Int32 → Int32 → KH → Prop) (x5 : Int32) (x6 : Int32) (x8 : Int32) (t0 : Int64) (h : KH) : Prop :=
  if x8 = (0 : Int32) then ldL h a5 ((32 : Int32) + x5) (ct 1) (fun v11 => stL h a5 ((32 : Int32) + x5) (ct 1) v11 (fun h12 => k33 x5 (x6 + (1 : Int32)) h12))
  else ldL h a5 ((32 : Int32) + x5) (ct 1) (fun v13 => if (lg_cmp v13 (0 : Int64)) < (0 : Int32) then stL h a5 ((32 : Int32) + x5) (ct 1) t0 (fun h15 => k33 x5 (x6 + (1 : Int32)) h15)
  else ldL h a5 ((32 : Int32) + x5) (ct 1) (fun v16 => if (0 : Int32) ≤ (lg_cmp t0 v16) then ldL h a5 ((32 : Int32) + x5) (ct 1) (fun v18 => stL h a5 ((32 : Int32) + x5) (ct 1) v18 (fun h19 => k33 x5 (x6 + (1 : Int32)) h19))
  else stL h a5 ((32 : Int32) + x5) (ct 1) t0 (fun h20 => k33 x5 (x6 + (1 : Int32)) h20)))
def g_L_rest_J95 (ct : Nat → ClassId) (a0 : Nat) (a1 : Nat) (a2 : Int32) (a3 : Int32) (a4 : Int32) (a5 : Nat) (Post : Int64 → KH → Prop) (k4 : Int32 → KH → Prop) (k33 : Int32 → Int32 → KH → Prop) (x5 : Int32) (x6 : Int32) (x7 : Int32) (t0 : Int32) (h : KH) : Prop :=
  if t0 = (0 : Int32) then g_L_rest_J124 ct a0 a1 a2 a3 a4 a5 Post k4 k33 x5 x6 t0 (-1 : Int64) h
  else ldL h a5 ((32 : Int32) + x7) (ct 1) (fun v21 => g_L_size ct a0 a1 x7 a4 h (fun v22 h22 => g_L_rest_J124 ct a0 a1 a2 a3 a4 a5 Post k4 k33 x5 x6 t0 (v21 + v22) h22))
def g_L_rest_L33b (ct : Nat → ClassId) (a0 : Nat) (a1 : Nat) (a2 : Int32) (a3 : Int32) (a4 : Int32) (a5 : Nat) (Post : Int64 → KH → Prop) (k4 : Int32 → KH → Prop) (k33 : Int32 → Int32 → KH → Prop) (x5 : Int32) (x6 : Int32) (h : KH) : Prop :=
  if (5 : Int32) ≤ x6 then k4 (x5 + (-1 : Int32)) h
  else if (x5 ||| a2) = a2 then if x5 = a2 then k4 (x5 + (-1 : Int32)) h
  else if (x5 ||| ((1 : Int32) <<< (x6 &&& 31))) = x5 then g_L_rest_J95 ct a0 a1 a2 a3 a4 a5 Post k4 k33 x5 x6 (x5 ||| ((1 : Int32) <<< (x6 &&& 31))) (0 : Int32) h
  else if ((x5 ||| ((1 : Int32) <<< (x6 &&& 31))) ||| a2) = a2 then ldL h a5 ((32 : Int32) + (x5 ||| ((1 : Int32) <<< (x6 &&& 31)))) (ct 1) (fun v24 => if (lg_cmp v24 (0 : Int64)) < (0 : Int32) then g_L_rest_J95 ct a0 a1 a2 a3 a4 a5 Post k4 k33 x5 x6 (x5 ||| ((1 : Int32) <<< (x6 &&& 31))) (0 : Int32) h
  else g_L_rest_J95 ct a0 a1 a2 a3 a4 a5 Post k4 k33 x5 x6 (x5 ||| ((1 : Int32) <<< (x6 &&& 31))) (1 : Int32) h)
  else g_L_rest_J95 ct a0 a1 a2 a3 a4 a5 Post k4 k33 x5 x6 (x5 ||| ((1 : Int32) <<< (x6 &&& 31))) (0 : Int32) h
  else k4 (x5 + (-1 : Int32)) h
def g_L_rest_L33 (ct : Nat → ClassId) (a0 : Nat) (a1 : Nat) (a2 : Int32) (a3 : Int32) (a4 : Int32) (a5 : Nat) (Post : Int64 → KH → Prop) (k4 : Int32 → KH → Prop) : Nat → Int32 → Int32 → KH → Prop
  | 0 => fun _ _ _ => False
  | n + 1 => g_L_rest_L33b ct a0 a1 a2 a3 a4 a5 Post k4 (g_L_rest_L33 ct a0 a1 a2 a3 a4 a5 Post k4 n)
def g_L_rest_L4b (ct : Nat → ClassId) (a0 : Nat) (a1 : Nat) (a2 : Int32) (a3 : Int32) (a4 : Int32) (a5 : Nat) (Post : Int64 → KH → Prop)  (k4 : Int32 → KH → Prop) (x5 : Int32) (h : KH) : Prop :=
  if x5 < (0 : Int32) then ldL h a5 ((32 : Int32) + a3) (ct 1) (fun v2 => Post v2 h)
  else if x5 = a2 then stL h a5 ((32 : Int32) + x5) (ct 1) (0 : Int64) (fun h26 => g_L_rest_L33 ct a0 a1 a2 a3 a4 a5 Post k4 1024 x5 (0 : Int32) h26)
  else stL h a5 ((32 : Int32) + x5) (ct 1) (-1 : Int64) (fun h4 => g_L_rest_L33 ct a0 a1 a2 a3 a4 a5 Post k4 1024 x5 (0 : Int32) h4)
def g_L_rest_L4 (ct : Nat → ClassId) (a0 : Nat) (a1 : Nat) (a2 : Int32) (a3 : Int32) (a4 : Int32) (a5 : Nat) (Post : Int64 → KH → Prop)  : Nat → Int32 → KH → Prop
  | 0 => fun _ _ => False
  | n + 1 => g_L_rest_L4b ct a0 a1 a2 a3 a4 a5 Post  (g_L_rest_L4 ct a0 a1 a2 a3 a4 a5 Post  n)
def g_L_rest (ct : Nat → ClassId) (a0 : Nat) (a1 : Nat) (a2 : Int32) (a3 : Int32) (a4 : Int32) (a5 : Nat) (h : KH) (Post : Int64 → KH → Prop) : Prop :=
  g_L_rest_L4 ct a0 a1 a2 a3 a4 a5 Post  1024 (31 : Int32) h
set_option maxRecDepth 100000 in
set_option maxHeartbeats 4000000 in
theorem cg_L_rest (l : Launch) (D : va_G) (ct : Nat → ClassId) (a0 : Nat) (a1 : Nat) (a2 : Int32) (a3 : Int32) (a4 : Int32) (a5 : Nat) (h : KH) (Post : Int64 → KH → Prop) (hw : g_L_rest ct a0 a1 a2 a3 a4 a5 h Post) : CK l yL_rest cL_rest 11 1 0 0 (some .long) D ct a0 [.ref a1, .int a2, .int a3, .int a4, .ref a5] vL h Post := by
  refine CK.mkL (by decide) (Nat.le_of_ble_eq_true rfl) ?_
  intro p e s m below meth c Q A X hret hW hS ls hl
  obtain ⟨B, hin, hK, hN, hZ, hA⟩ := X
  have B0 := B
  obtain ⟨hx, hb, hml, hown, hts⟩ := B0
  have hl : lv_has ls 11 [(0, .ref a1), (1, .int a2), (2, .int a3), (3, .int a4), (4, .ref a5)] := hl
  have hL4 : ∀ (n4 : Nat), ∀ (x5 : Int32) (h : KH) (ls : Array Slot) (H : Heap) (locs : List Loc), g_L_rest_L4 ct a0 a1 a2 a3 a4 a5 Post  n4 x5 h → KW D A h H → va_S A s.heap H locs → lv_has ls 11 [(0, .ref a1), (1, .int a2), (2, .int a3), (3, .int a4), (4, .ref a5), (5, .int x5)] → W p l e (rmF 1 0 0) s m ([.ref a1, .int a2, .int a3, .int a4, .ref a5] : List Value).toArray below meth c H locs 0 0 Q (F0 m 4 ls []) := by
    intro n4
    induction n4 with
    | zero =>
      intro x5 h ls H locs hw
      exact (show False from hw).elim
    | succ n4 ih4 =>
      have hL33 : ∀ (n33 : Nat), ∀ (x5 : Int32) (x6 : Int32) (h : KH) (ls : Array Slot) (H : Heap) (locs : List Loc), g_L_rest_L33 ct a0 a1 a2 a3 a4 a5 Post (g_L_rest_L4 ct a0 a1 a2 a3 a4 a5 Post  n4) n33 x5 x6 h → KW D A h H → va_S A s.heap H locs → lv_has ls 11 [(0, .ref a1), (1, .int a2), (2, .int a3), (3, .int a4), (4, .ref a5), (5, .int x5), (6, .int x6)] → W p l e (rmF 1 0 0) s m ([.ref a1, .int a2, .int a3, .int a4, .ref a5] : List Value).toArray below meth c H locs 0 0 Q (F0 m 33 ls []) := by
        intro n33
        induction n33 with
        | zero =>
          intro x5 x6 h ls H locs hw
          exact (show False from hw).elim
        | succ n33 ih33 =>
          have hJ124 : ∀ (x5 : Int32) (x6 : Int32) (x8 : Int32) (t0 : Int64) (h : KH) (ls : Array Slot) (H : Heap) (locs : List Loc), g_L_rest_J124 ct a0 a1 a2 a3 a4 a5 Post (g_L_rest_L4 ct a0 a1 a2 a3 a4 a5 Post  n4) (g_L_rest_L33 ct a0 a1 a2 a3 a4 a5 Post (g_L_rest_L4 ct a0 a1 a2 a3 a4 a5 Post  n4) n33) x5 x6 x8 t0 h → KW D A h H → va_S A s.heap H locs → lv_has ls 11 [(0, .ref a1), (1, .int a2), (2, .int a3), (3, .int a4), (4, .ref a5), (5, .int x5), (6, .int x6), (8, .int x8)] → W p l e (rmF 1 0 0) s m ([.ref a1, .int a2, .int a3, .int a4, .ref a5] : List Value).toArray below meth c H locs 0 0 Q (F0 m 124 ls [.long t0]) := by
            intro x5 x6 x8 t0 h ls H locs hw hW hS hl
            unfold g_L_rest_J124 at hw
            refine lv_lstore (lv' := [(9, .long t0), (0, .ref a1), (1, .int a2), (2, .int a3), (3, .int a4), (4, .ref a5), (5, .int x5), (6, .int x6), (8, .int x8)]) hx hb dL_rest_124 hl (by decide) rfl (fun ls hl => ?_)
            refine lv_aload hx hb dL_rest_126 (lv_at hl 5 rfl) ?_
            refine lv_bipush (v := (32 : Int32)) hx hb dL_rest_128 (by decide) ?_
            refine lv_iload hx hb dL_rest_130 (lv_at hl 6 rfl) ?_
            refine lv_iadd hx hb dL_rest_132 ?_
            refine lv_iload hx hb dL_rest_133 (lv_at hl 8 rfl) ?_
            refine lv_if_eq (tgt := 170) hx hb dL_rest_135 (by decide) (fun c10 => ?_) (fun c10 => ?_)
            · have hw := itp c10 hw
              refine lv_aload hx hb dL_rest_170 (lv_at hl 5 rfl) ?_
              refine lv_bipush (v := (32 : Int32)) hx hb dL_rest_172 (by decide) ?_
              refine lv_iload hx hb dL_rest_174 (lv_at hl 6 rfl) ?_
              refine lv_iadd hx hb dL_rest_176 ?_
              obtain ⟨n11, f11, v11, e11, g11, ev11, hw⟩ := hw
              refine kw_lald hx hb hK hW 1 e11 rfl g11 ev11 dL_rest_177 ?_
              obtain ⟨n12, f12, e12, g12, hw⟩ := hw
              refine kw_last hx hb hK hW hS 1 e12 rfl g12 dL_rest_178 (fun H locs h12 eh12 hW hS => ?_)
              have hw := hw h12 eh12
              refine lv_iinc (v := (x6 + (1 : Int32))) (lv' := [(6, .int (x6 + (1 : Int32))), (9, .long t0), (0, .ref a1), (1, .int a2), (2, .int a3), (3, .int a4), (4, .ref a5), (5, .int x5), (8, .int x8)]) hx hb dL_rest_179 hl (k := 7) rfl (congrArg (HAdd.hAdd x6) (by decide)) (by decide) rfl (fun ls hl => ?_)
              refine lv_goto (tgt := 33) hx hb dL_rest_182 (by decide) ?_
              exact ih33 x5 (x6 + (1 : Int32)) h12 _ _ _ hw hW hS (lv_sub hl [2, 3, 4, 5, 6, 7, 0] rfl)
            · have hw := itn c10 hw
              refine lv_aload hx hb dL_rest_138 (lv_at hl 5 rfl) ?_
              refine lv_bipush (v := (32 : Int32)) hx hb dL_rest_140 (by decide) ?_
              refine lv_iload hx hb dL_rest_142 (lv_at hl 6 rfl) ?_
              refine lv_iadd hx hb dL_rest_144 ?_
              obtain ⟨n13, f13, v13, e13, g13, ev13, hw⟩ := hw
              refine kw_lald hx hb hK hW 1 e13 rfl g13 ev13 dL_rest_145 ?_
              refine lv_lconst (v := (0 : Int64)) hx hb dL_rest_146 (by decide) ?_
              refine W.lcmp hx hb dL_rest_147 ?_
              refine lv_if_lt (tgt := 165) hx hb dL_rest_148 (by decide) (fun c14 => ?_) (fun c14 => ?_)
              · have hw := itp c14 hw
                refine lv_lload hx hb dL_rest_165 (lv_at hl 0 rfl) ?_
                refine lv_goto (tgt := 178) hx hb dL_rest_167 (by decide) ?_
                obtain ⟨n15, f15, e15, g15, hw⟩ := hw
                refine kw_last hx hb hK hW hS 1 e15 rfl g15 dL_rest_178 (fun H locs h15 eh15 hW hS => ?_)
                have hw := hw h15 eh15
                refine lv_iinc (v := (x6 + (1 : Int32))) (lv' := [(6, .int (x6 + (1 : Int32))), (9, .long t0), (0, .ref a1), (1, .int a2), (2, .int a3), (3, .int a4), (4, .ref a5), (5, .int x5), (8, .int x8)]) hx hb dL_rest_179 hl (k := 7) rfl (congrArg (HAdd.hAdd x6) (by decide)) (by decide) rfl (fun ls hl => ?_)
                refine lv_goto (tgt := 33) hx hb dL_rest_182 (by decide) ?_
                exact ih33 x5 (x6 + (1 : Int32)) h15 _ _ _ hw hW hS (lv_sub hl [2, 3, 4, 5, 6, 7, 0] rfl)
              · have hw := itn c14 hw
                refine lv_lload hx hb dL_rest_151 (lv_at hl 0 rfl) ?_
                refine lv_aload hx hb dL_rest_153 (lv_at hl 5 rfl) ?_
                refine lv_bipush (v := (32 : Int32)) hx hb dL_rest_155 (by decide) ?_
                refine lv_iload hx hb dL_rest_157 (lv_at hl 6 rfl) ?_
                refine lv_iadd hx hb dL_rest_159 ?_
                obtain ⟨n16, f16, v16, e16, g16, ev16, hw⟩ := hw
                refine kw_lald hx hb hK hW 1 e16 rfl g16 ev16 dL_rest_160 ?_
                refine W.lcmp hx hb dL_rest_161 ?_
                refine lv_if_ge (tgt := 170) hx hb dL_rest_162 (by decide) (fun c17 => ?_) (fun c17 => ?_)
                · have hw := itp c17 hw
                  refine lv_aload hx hb dL_rest_170 (lv_at hl 5 rfl) ?_
                  refine lv_bipush (v := (32 : Int32)) hx hb dL_rest_172 (by decide) ?_
                  refine lv_iload hx hb dL_rest_174 (lv_at hl 6 rfl) ?_
                  refine lv_iadd hx hb dL_rest_176 ?_
                  obtain ⟨n18, f18, v18, e18, g18, ev18, hw⟩ := hw
                  refine kw_lald hx hb hK hW 1 e18 rfl g18 ev18 dL_rest_177 ?_
                  obtain ⟨n19, f19, e19, g19, hw⟩ := hw
                  refine kw_last hx hb hK hW hS 1 e19 rfl g19 dL_rest_178 (fun H locs h19 eh19 hW hS => ?_)
                  have hw := hw h19 eh19
                  refine lv_iinc (v := (x6 + (1 : Int32))) (lv' := [(6, .int (x6 + (1 : Int32))), (9, .long t0), (0, .ref a1), (1, .int a2), (2, .int a3), (3, .int a4), (4, .ref a5), (5, .int x5), (8, .int x8)]) hx hb dL_rest_179 hl (k := 7) rfl (congrArg (HAdd.hAdd x6) (by decide)) (by decide) rfl (fun ls hl => ?_)
                  refine lv_goto (tgt := 33) hx hb dL_rest_182 (by decide) ?_
                  exact ih33 x5 (x6 + (1 : Int32)) h19 _ _ _ hw hW hS (lv_sub hl [2, 3, 4, 5, 6, 7, 0] rfl)
                · have hw := itn c17 hw
                  refine lv_lload hx hb dL_rest_165 (lv_at hl 0 rfl) ?_
                  refine lv_goto (tgt := 178) hx hb dL_rest_167 (by decide) ?_
                  obtain ⟨n20, f20, e20, g20, hw⟩ := hw
                  refine kw_last hx hb hK hW hS 1 e20 rfl g20 dL_rest_178 (fun H locs h20 eh20 hW hS => ?_)
                  have hw := hw h20 eh20
                  refine lv_iinc (v := (x6 + (1 : Int32))) (lv' := [(6, .int (x6 + (1 : Int32))), (9, .long t0), (0, .ref a1), (1, .int a2), (2, .int a3), (3, .int a4), (4, .ref a5), (5, .int x5), (8, .int x8)]) hx hb dL_rest_179 hl (k := 7) rfl (congrArg (HAdd.hAdd x6) (by decide)) (by decide) rfl (fun ls hl => ?_)
                  refine lv_goto (tgt := 33) hx hb dL_rest_182 (by decide) ?_
                  exact ih33 x5 (x6 + (1 : Int32)) h20 _ _ _ hw hW hS (lv_sub hl [2, 3, 4, 5, 6, 7, 0] rfl)
          have hJ95 : ∀ (x5 : Int32) (x6 : Int32) (x7 : Int32) (t0 : Int32) (h : KH) (ls : Array Slot) (H : Heap) (locs : List Loc), g_L_rest_J95 ct a0 a1 a2 a3 a4 a5 Post (g_L_rest_L4 ct a0 a1 a2 a3 a4 a5 Post  n4) (g_L_rest_L33 ct a0 a1 a2 a3 a4 a5 Post (g_L_rest_L4 ct a0 a1 a2 a3 a4 a5 Post  n4) n33) x5 x6 x7 t0 h → KW D A h H → va_S A s.heap H locs → lv_has ls 11 [(0, .ref a1), (1, .int a2), (2, .int a3), (3, .int a4), (4, .ref a5), (5, .int x5), (6, .int x6), (7, .int x7)] → W p l e (rmF 1 0 0) s m ([.ref a1, .int a2, .int a3, .int a4, .ref a5] : List Value).toArray below meth c H locs 0 0 Q (F0 m 95 ls [.int t0]) := by
            intro x5 x6 x7 t0 h ls H locs hw hW hS hl
            unfold g_L_rest_J95 at hw
            refine lv_istore (lv' := [(8, .int t0), (0, .ref a1), (1, .int a2), (2, .int a3), (3, .int a4), (4, .ref a5), (5, .int x5), (6, .int x6), (7, .int x7)]) hx hb dL_rest_95 hl (by decide) rfl (fun ls hl => ?_)
            refine lv_iload hx hb dL_rest_97 (lv_at hl 0 rfl) ?_
            refine lv_if_eq (tgt := 121) hx hb dL_rest_99 (by decide) (fun c9 => ?_) (fun c9 => ?_)
            · have hw := itp c9 hw
              refine lv_ldc2 (v := (-1 : Int64)) hx hb hown (hts _ q_11_14) dL_rest_121 ?_
              exact hJ124 x5 x6 t0 (-1 : Int64) h _ _ _ hw hW hS (lv_sub hl [1, 2, 3, 4, 5, 6, 7, 0] rfl)
            · have hw := itn c9 hw
              refine lv_aload hx hb dL_rest_102 (lv_at hl 5 rfl) ?_
              refine lv_bipush (v := (32 : Int32)) hx hb dL_rest_104 (by decide) ?_
              refine lv_iload hx hb dL_rest_106 (lv_at hl 8 rfl) ?_
              refine lv_iadd hx hb dL_rest_108 ?_
              obtain ⟨n21, f21, v21, e21, g21, ev21, hw⟩ := hw
              refine kw_lald hx hb hK hW 1 e21 rfl g21 ev21 dL_rest_109 ?_
              refine lv_aload_n hx hb dL_rest_110 rfl (lv_at hl 1 rfl) ?_
              refine lv_iload hx hb dL_rest_111 (lv_at hl 8 rfl) ?_
              refine lv_iload_n hx hb dL_rest_113 rfl (lv_at hl 4 rfl) ?_
              refine ks_call (As := [.ref a1, .int x7, .int a4]) (rest := [.long v21]) (cg_L_size l D ct a0 a1 x7 a4 h _ hw) B hK hN hZ hA hW hS k_L_size q_11_15 rfl ⟨Nat.le_of_ble_eq_true rfl, Nat.le_of_ble_eq_true rfl⟩ ⟨Nat.le_of_ble_eq_true rfl, Nat.le_of_ble_eq_true rfl⟩ hl.1 rfl (Nat.le_of_ble_eq_true rfl) dL_rest_114 (fun v22 h22 H locs hw hW hS => ?_)
              refine lv_ladd hx hb dL_rest_117 ?_
              refine lv_goto (tgt := 124) hx hb dL_rest_118 (by decide) ?_
              refine W.widen (k := 0) (n := 0) (by omega) (by omega) ?_
              exact hJ124 x5 x6 t0 (v21 + v22) h22 _ _ _ hw hW hS (lv_sub hl [1, 2, 3, 4, 5, 6, 7, 0] rfl)
          intro x5 x6 h ls H locs hw hW hS hl
          have hw : g_L_rest_L33b ct a0 a1 a2 a3 a4 a5 Post (g_L_rest_L4 ct a0 a1 a2 a3 a4 a5 Post  n4) (g_L_rest_L33 ct a0 a1 a2 a3 a4 a5 Post (g_L_rest_L4 ct a0 a1 a2 a3 a4 a5 Post  n4) n33) x5 x6 h := hw
          unfold g_L_rest_L33b at hw
          refine lv_iload hx hb dL_rest_33 (lv_at hl 6 rfl) ?_
          refine lv_iconst (v := (5 : Int32)) hx hb dL_rest_35 (by decide) ?_
          refine lv_icmp_ge (tgt := 185) hx hb dL_rest_36 (by decide) (fun c5 => ?_) (fun c5 => ?_)
          · have hw := itp c5 hw
            refine lv_iinc (v := (x5 + (-1 : Int32))) (lv' := [(5, .int (x5 + (-1 : Int32))), (0, .ref a1), (1, .int a2), (2, .int a3), (3, .int a4), (4, .ref a5), (6, .int x6)]) hx hb dL_rest_185 hl (k := 5) rfl (congrArg (HAdd.hAdd x5) (by decide)) (by decide) rfl (fun ls hl => ?_)
            refine lv_goto (tgt := 4) hx hb dL_rest_188 (by decide) ?_
            exact ih4 (x5 + (-1 : Int32)) h _ _ _ hw hW hS (lv_sub hl [1, 2, 3, 4, 5, 0] rfl)
          · have hw := itn c5 hw
            refine lv_iload hx hb dL_rest_39 (lv_at hl 5 rfl) ?_
            refine lv_iload_n hx hb dL_rest_41 rfl (lv_at hl 1 rfl) ?_
            refine lv_ior hx hb dL_rest_42 ?_
            refine lv_iload_n hx hb dL_rest_43 rfl (lv_at hl 1 rfl) ?_
            refine lv_icmp_ne (tgt := 185) hx hb dL_rest_44 (by decide) (fun c6 => ?_) (fun c6 => ?_)
            · have hw := itn c6 hw
              refine lv_iinc (v := (x5 + (-1 : Int32))) (lv' := [(5, .int (x5 + (-1 : Int32))), (0, .ref a1), (1, .int a2), (2, .int a3), (3, .int a4), (4, .ref a5), (6, .int x6)]) hx hb dL_rest_185 hl (k := 5) rfl (congrArg (HAdd.hAdd x5) (by decide)) (by decide) rfl (fun ls hl => ?_)
              refine lv_goto (tgt := 4) hx hb dL_rest_188 (by decide) ?_
              exact ih4 (x5 + (-1 : Int32)) h _ _ _ hw hW hS (lv_sub hl [1, 2, 3, 4, 5, 0] rfl)
            · have hw := itp c6 hw
              refine lv_iload hx hb dL_rest_47 (lv_at hl 5 rfl) ?_
              refine lv_iload_n hx hb dL_rest_49 rfl (lv_at hl 1 rfl) ?_
              refine lv_icmp_eq (tgt := 185) hx hb dL_rest_50 (by decide) (fun c7 => ?_) (fun c7 => ?_)
              · have hw := itp c7 hw
                refine lv_iinc (v := (x5 + (-1 : Int32))) (lv' := [(5, .int (x5 + (-1 : Int32))), (0, .ref a1), (1, .int a2), (2, .int a3), (3, .int a4), (4, .ref a5), (6, .int x6)]) hx hb dL_rest_185 hl (k := 5) rfl (congrArg (HAdd.hAdd x5) (by decide)) (by decide) rfl (fun ls hl => ?_)
                refine lv_goto (tgt := 4) hx hb dL_rest_188 (by decide) ?_
                exact ih4 (x5 + (-1 : Int32)) h _ _ _ hw hW hS (lv_sub hl [1, 2, 3, 4, 5, 0] rfl)
              · have hw := itn c7 hw
                refine lv_iload hx hb dL_rest_53 (lv_at hl 5 rfl) ?_
                refine lv_iconst (v := (1 : Int32)) hx hb dL_rest_55 (by decide) ?_
                refine lv_iload hx hb dL_rest_56 (lv_at hl 6 rfl) ?_
                refine lv_ishl hx hb dL_rest_58 ?_
                refine lv_ior hx hb dL_rest_59 ?_
                refine lv_istore (lv' := [(7, .int (x5 ||| ((1 : Int32) <<< (x6 &&& 31)))), (0, .ref a1), (1, .int a2), (2, .int a3), (3, .int a4), (4, .ref a5), (5, .int x5), (6, .int x6)]) hx hb dL_rest_60 hl (by decide) rfl (fun ls hl => ?_)
                refine lv_iload hx hb dL_rest_62 (lv_at hl 0 rfl) ?_
                refine lv_iload hx hb dL_rest_64 (lv_at hl 6 rfl) ?_
                refine lv_icmp_eq (tgt := 94) hx hb dL_rest_66 (by decide) (fun c8 => ?_) (fun c8 => ?_)
                · have hw := itp c8 hw
                  refine lv_iconst (v := (0 : Int32)) hx hb dL_rest_94 (by decide) ?_
                  exact hJ95 x5 x6 (x5 ||| ((1 : Int32) <<< (x6 &&& 31))) (0 : Int32) h _ _ _ hw hW hS (lv_sub hl [1, 2, 3, 4, 5, 6, 7, 0] rfl)
                · have hw := itn c8 hw
                  refine lv_iload hx hb dL_rest_69 (lv_at hl 0 rfl) ?_
                  refine lv_iload_n hx hb dL_rest_71 rfl (lv_at hl 2 rfl) ?_
                  refine lv_ior hx hb dL_rest_72 ?_
                  refine lv_iload_n hx hb dL_rest_73 rfl (lv_at hl 2 rfl) ?_
                  refine lv_icmp_ne (tgt := 94) hx hb dL_rest_74 (by decide) (fun c23 => ?_) (fun c23 => ?_)
                  · have hw := itn c23 hw
                    refine lv_iconst (v := (0 : Int32)) hx hb dL_rest_94 (by decide) ?_
                    exact hJ95 x5 x6 (x5 ||| ((1 : Int32) <<< (x6 &&& 31))) (0 : Int32) h _ _ _ hw hW hS (lv_sub hl [1, 2, 3, 4, 5, 6, 7, 0] rfl)
                  · have hw := itp c23 hw
                    refine lv_aload hx hb dL_rest_77 (lv_at hl 5 rfl) ?_
                    refine lv_bipush (v := (32 : Int32)) hx hb dL_rest_79 (by decide) ?_
                    refine lv_iload hx hb dL_rest_81 (lv_at hl 0 rfl) ?_
                    refine lv_iadd hx hb dL_rest_83 ?_
                    obtain ⟨n24, f24, v24, e24, g24, ev24, hw⟩ := hw
                    refine kw_lald hx hb hK hW 1 e24 rfl g24 ev24 dL_rest_84 ?_
                    refine lv_lconst (v := (0 : Int64)) hx hb dL_rest_85 (by decide) ?_
                    refine W.lcmp hx hb dL_rest_86 ?_
                    refine lv_if_lt (tgt := 94) hx hb dL_rest_87 (by decide) (fun c25 => ?_) (fun c25 => ?_)
                    · have hw := itp c25 hw
                      refine lv_iconst (v := (0 : Int32)) hx hb dL_rest_94 (by decide) ?_
                      exact hJ95 x5 x6 (x5 ||| ((1 : Int32) <<< (x6 &&& 31))) (0 : Int32) h _ _ _ hw hW hS (lv_sub hl [1, 2, 3, 4, 5, 6, 7, 0] rfl)
                    · have hw := itn c25 hw
                      refine lv_iconst (v := (1 : Int32)) hx hb dL_rest_90 (by decide) ?_
                      refine lv_goto (tgt := 95) hx hb dL_rest_91 (by decide) ?_
                      exact hJ95 x5 x6 (x5 ||| ((1 : Int32) <<< (x6 &&& 31))) (1 : Int32) h _ _ _ hw hW hS (lv_sub hl [1, 2, 3, 4, 5, 6, 7, 0] rfl)
      intro x5 h ls H locs hw hW hS hl
      have hw : g_L_rest_L4b ct a0 a1 a2 a3 a4 a5 Post  (g_L_rest_L4 ct a0 a1 a2 a3 a4 a5 Post  n4) x5 h := hw
      unfold g_L_rest_L4b at hw
      refine lv_iload hx hb dL_rest_4 (lv_at hl 5 rfl) ?_
      refine lv_if_lt (tgt := 191) hx hb dL_rest_6 (by decide) (fun c1 => ?_) (fun c1 => ?_)
      · have hw := itp c1 hw
        refine lv_aload hx hb dL_rest_191 (lv_at hl 4 rfl) ?_
        refine lv_bipush (v := (32 : Int32)) hx hb dL_rest_193 (by decide) ?_
        refine lv_iload_n hx hb dL_rest_195 rfl (lv_at hl 2 rfl) ?_
        refine lv_iadd hx hb dL_rest_196 ?_
        obtain ⟨n2, f2, v2, e2, g2, ev2, hw⟩ := hw
        refine kw_lald hx hb hK hW 1 e2 rfl g2 ev2 dL_rest_197 ?_
        exact hret _ _ _ _ v2 h dL_rest_198 hw hW hS
      · have hw := itn c1 hw
        refine lv_aload hx hb dL_rest_9 (lv_at hl 4 rfl) ?_
        refine lv_bipush (v := (32 : Int32)) hx hb dL_rest_11 (by decide) ?_
        refine lv_iload hx hb dL_rest_13 (lv_at hl 5 rfl) ?_
        refine lv_iadd hx hb dL_rest_15 ?_
        refine lv_iload hx hb dL_rest_16 (lv_at hl 5 rfl) ?_
        refine lv_iload_n hx hb dL_rest_18 rfl (lv_at hl 1 rfl) ?_
        refine lv_icmp_ne (tgt := 26) hx hb dL_rest_19 (by decide) (fun c3 => ?_) (fun c3 => ?_)
        · have hw := itn c3 hw
          refine lv_ldc2 (v := (-1 : Int64)) hx hb hown (hts _ q_11_14) dL_rest_26 ?_
          obtain ⟨n4, f4, e4, g4, hw⟩ := hw
          refine kw_last hx hb hK hW hS 1 e4 rfl g4 dL_rest_29 (fun H locs h4 eh4 hW hS => ?_)
          have hw := hw h4 eh4
          refine lv_iconst (v := (0 : Int32)) hx hb dL_rest_30 (by decide) ?_
          refine lv_istore (lv' := [(6, .int (0 : Int32)), (0, .ref a1), (1, .int a2), (2, .int a3), (3, .int a4), (4, .ref a5), (5, .int x5)]) hx hb dL_rest_31 hl (by decide) rfl (fun ls hl => ?_)
          exact hL33 1024 x5 (0 : Int32) h4 _ _ _ hw hW hS (lv_sub hl [1, 2, 3, 4, 5, 6, 0] rfl)
        · have hw := itp c3 hw
          refine lv_lconst (v := (0 : Int64)) hx hb dL_rest_22 (by decide) ?_
          refine lv_goto (tgt := 29) hx hb dL_rest_23 (by decide) ?_
          obtain ⟨n26, f26, e26, g26, hw⟩ := hw
          refine kw_last hx hb hK hW hS 1 e26 rfl g26 dL_rest_29 (fun H locs h26 eh26 hW hS => ?_)
          have hw := hw h26 eh26
          refine lv_iconst (v := (0 : Int32)) hx hb dL_rest_30 (by decide) ?_
          refine lv_istore (lv' := [(6, .int (0 : Int32)), (0, .ref a1), (1, .int a2), (2, .int a3), (3, .int a4), (4, .ref a5), (5, .int x5)]) hx hb dL_rest_31 hl (by decide) rfl (fun ls hl => ?_)
          exact hL33 1024 x5 (0 : Int32) h26 _ _ _ hw hW hS (lv_sub hl [1, 2, 3, 4, 5, 6, 0] rfl)
  unfold g_L_rest at hw
  refine lv_bipush (v := (31 : Int32)) hx hb dL_rest_0 (by decide) ?_
  refine lv_istore (lv' := [(5, .int (31 : Int32)), (0, .ref a1), (1, .int a2), (2, .int a3), (3, .int a4), (4, .ref a5)]) hx hb dL_rest_2 hl (by decide) rfl (fun ls hl => ?_)
  exact hL4 1024 (31 : Int32) h _ _ _ hw hW hS (lv_sub hl [1, 2, 3, 4, 5, 0] rfl)

def g_L_best_J150 (ct : Nat → ClassId) (a0 : Nat) (a1 : Nat) (a2 : Int32) (a3 : Int32) (a4 : Nat) (a5 : Nat) (Post : Unit → KH → Prop) (k18 : Int64 → Int32 → Int64 → Int32 → KH → Prop) (x5 : Int64) (x8 : Int64) (x10 : Int32) (t0 : Int32) (t1 : Int32) (h : KH) : Prop :=
  ldI h a5 x10 (ct 0) (fun v8 => if (0 : Int32) ≤ v8 then g_L_size ct a0 a1 (t0 ||| t1) a3 h (fun v10 h10 => k18 x5 (t0 ||| t1) (x8 + v10) (x10 + (1 : Int32)) h10)
  else k18 x5 (t0 ||| t1) (x8 + (0 : Int64)) (x10 + (1 : Int32)) h)
def g_L_best_J73 (ct : Nat → ClassId) (a0 : Nat) (a1 : Nat) (a2 : Int32) (a3 : Int32) (a4 : Nat) (a5 : Nat) (Post : Unit → KH → Prop) (k18 : Int64 → Int32 → Int64 → Int32 → KH → Prop) (k34 : Int64 → Int32 → Int64 → Int32 → Int32 → KH → Prop) (x5 : Int64) (x7 : Int32) (x8 : Int64) (x10 : Int32) (x11 : Int32) (t0 : Int32) (h : KH) : Prop :=
  if t0 = (0 : Int32) then k34 x5 x7 x8 x10 (x11 + (1 : Int32)) h
  else g_L_size ct a0 a1 (x7 ||| ((1 : Int32) <<< (x11 &&& 31))) a3 h (fun v18 h18 => g_L_rest ct a0 a1 a2 (x7 ||| ((1 : Int32) <<< (x11 &&& 31))) a3 a4 h18 (fun v19 h19 => if (lg_cmp ((x8 + v18) + v19) x5) = (0 : Int32) then stI h19 a5 x10 (ct 0) x11 (fun h21 => k34 x5 x7 x8 x10 (x11 + (1 : Int32)) h21)
  else k34 x5 x7 x8 x10 (x11 + (1 : Int32)) h19))
def g_L_best_L34b (ct : Nat → ClassId) (a0 : Nat) (a1 : Nat) (a2 : Int32) (a3 : Int32) (a4 : Nat) (a5 : Nat) (Post : Unit → KH → Prop) (k18 : Int64 → Int32 → Int64 → Int32 → KH → Prop) (k34 : Int64 → Int32 → Int64 → Int32 → Int32 → KH → Prop) (x5 : Int64) (x7 : Int32) (x8 : Int64) (x10 : Int32) (x11 : Int32) (h : KH) : Prop :=
  if (5 : Int32) ≤ x11 then ldI h a5 x10 (ct 0) (fun v5 => if (0 : Int32) ≤ v5 then ldI h a5 x10 (ct 0) (fun v7 => g_L_best_J150 ct a0 a1 a2 a3 a4 a5 Post k18 x5 x8 x10 x7 ((1 : Int32) <<< (v7 &&& 31)) h)
  else g_L_best_J150 ct a0 a1 a2 a3 a4 a5 Post k18 x5 x8 x10 x7 (0 : Int32) h)
  else ldI h a5 x10 (ct 0) (fun v11 => if (0 : Int32) ≤ v11 then ldI h a5 x10 (ct 0) (fun v13 => if (0 : Int32) ≤ v13 then ldI h a5 x10 (ct 0) (fun v15 => g_L_best_J150 ct a0 a1 a2 a3 a4 a5 Post k18 x5 x8 x10 x7 ((1 : Int32) <<< (v15 &&& 31)) h)
  else g_L_best_J150 ct a0 a1 a2 a3 a4 a5 Post k18 x5 x8 x10 x7 (0 : Int32) h)
  else if ((a2 >>> (x11 &&& 31)) &&& (1 : Int32)) = (1 : Int32) then if ((x7 >>> (x11 &&& 31)) &&& (1 : Int32)) = (0 : Int32) then g_L_best_J73 ct a0 a1 a2 a3 a4 a5 Post k18 k34 x5 x7 x8 x10 x11 (1 : Int32) h
  else g_L_best_J73 ct a0 a1 a2 a3 a4 a5 Post k18 k34 x5 x7 x8 x10 x11 (0 : Int32) h
  else g_L_best_J73 ct a0 a1 a2 a3 a4 a5 Post k18 k34 x5 x7 x8 x10 x11 (0 : Int32) h)
def g_L_best_L34 (ct : Nat → ClassId) (a0 : Nat) (a1 : Nat) (a2 : Int32) (a3 : Int32) (a4 : Nat) (a5 : Nat) (Post : Unit → KH → Prop) (k18 : Int64 → Int32 → Int64 → Int32 → KH → Prop) : Nat → Int64 → Int32 → Int64 → Int32 → Int32 → KH → Prop
  | 0 => fun _ _ _ _ _ _ => False
  | n + 1 => g_L_best_L34b ct a0 a1 a2 a3 a4 a5 Post k18 (g_L_best_L34 ct a0 a1 a2 a3 a4 a5 Post k18 n)
def g_L_best_L18b (ct : Nat → ClassId) (a0 : Nat) (a1 : Nat) (a2 : Int32) (a3 : Int32) (a4 : Nat) (a5 : Nat) (Post : Unit → KH → Prop)  (k18 : Int64 → Int32 → Int64 → Int32 → KH → Prop) (x5 : Int64) (x7 : Int32) (x8 : Int64) (x10 : Int32) (h : KH) : Prop :=
  if (5 : Int32) ≤ x10 then Post () h
  else stI h a5 x10 (ct 0) (-4 : Int32) (fun h3 => g_L_best_L34 ct a0 a1 a2 a3 a4 a5 Post k18 1024 x5 x7 x8 x10 (0 : Int32) h3)
def g_L_best_L18 (ct : Nat → ClassId) (a0 : Nat) (a1 : Nat) (a2 : Int32) (a3 : Int32) (a4 : Nat) (a5 : Nat) (Post : Unit → KH → Prop)  : Nat → Int64 → Int32 → Int64 → Int32 → KH → Prop
  | 0 => fun _ _ _ _ _ => False
  | n + 1 => g_L_best_L18b ct a0 a1 a2 a3 a4 a5 Post  (g_L_best_L18 ct a0 a1 a2 a3 a4 a5 Post  n)
def g_L_best (ct : Nat → ClassId) (a0 : Nat) (a1 : Nat) (a2 : Int32) (a3 : Int32) (a4 : Nat) (a5 : Nat) (h : KH) (Post : Unit → KH → Prop) : Prop :=
  g_L_least ct a0 a1 a2 a3 a4 h (fun v1 h1 => g_L_best_L18 ct a0 a1 a2 a3 a4 a5 Post  1024 v1 (0 : Int32) (0 : Int64) (0 : Int32) h1)
set_option maxRecDepth 100000 in
set_option maxHeartbeats 4000000 in
theorem cg_L_best (l : Launch) (D : va_G) (ct : Nat → ClassId) (a0 : Nat) (a1 : Nat) (a2 : Int32) (a3 : Int32) (a4 : Nat) (a5 : Nat) (h : KH) (Post : Unit → KH → Prop) (hw : g_L_best ct a0 a1 a2 a3 a4 a5 h Post) : CK l yL_best cL_best 13 2 0 0 none D ct a0 [.ref a1, .int a2, .int a3, .ref a4, .ref a5] vV h Post := by
  refine CK.mkV (by decide) (Nat.le_of_ble_eq_true rfl) ?_
  intro p e s m below meth c Q A X hret hW hS ls hl
  obtain ⟨B, hin, hK, hN, hZ, hA⟩ := X
  have B0 := B
  obtain ⟨hx, hb, hml, hown, hts⟩ := B0
  have hl : lv_has ls 13 [(0, .ref a1), (1, .int a2), (2, .int a3), (3, .ref a4), (4, .ref a5)] := hl
  have hL18 : ∀ (n18 : Nat), ∀ (x5 : Int64) (x7 : Int32) (x8 : Int64) (x10 : Int32) (h : KH) (ls : Array Slot) (H : Heap) (locs : List Loc), g_L_best_L18 ct a0 a1 a2 a3 a4 a5 Post  n18 x5 x7 x8 x10 h → KW D A h H → va_S A s.heap H locs → lv_has ls 13 [(0, .ref a1), (1, .int a2), (2, .int a3), (3, .ref a4), (4, .ref a5), (5, .long x5), (7, .int x7), (8, .long x8), (10, .int x10)] → W p l e (rmF 2 0 0) s m ([.ref a1, .int a2, .int a3, .ref a4, .ref a5] : List Value).toArray below meth c H locs 0 0 Q (F0 m 18 ls []) := by
    intro n18
    induction n18 with
    | zero =>
      intro x5 x7 x8 x10 h ls H locs hw
      exact (show False from hw).elim
    | succ n18 ih18 =>
      have hJ150 : ∀ (x5 : Int64) (x8 : Int64) (x10 : Int32) (t0 : Int32) (t1 : Int32) (h : KH) (ls : Array Slot) (H : Heap) (locs : List Loc), g_L_best_J150 ct a0 a1 a2 a3 a4 a5 Post (g_L_best_L18 ct a0 a1 a2 a3 a4 a5 Post  n18) x5 x8 x10 t0 t1 h → KW D A h H → va_S A s.heap H locs → lv_has ls 13 [(0, .ref a1), (1, .int a2), (2, .int a3), (3, .ref a4), (4, .ref a5), (5, .long x5), (8, .long x8), (10, .int x10)] → W p l e (rmF 2 0 0) s m ([.ref a1, .int a2, .int a3, .ref a4, .ref a5] : List Value).toArray below meth c H locs 0 0 Q (F0 m 150 ls [.int t1, .int t0]) := by
        intro x5 x8 x10 t0 t1 h ls H locs hw hW hS hl
        unfold g_L_best_J150 at hw
        refine lv_ior hx hb dL_best_150 ?_
        refine lv_istore (lv' := [(7, .int (t0 ||| t1)), (0, .ref a1), (1, .int a2), (2, .int a3), (3, .ref a4), (4, .ref a5), (5, .long x5), (8, .long x8), (10, .int x10)]) hx hb dL_best_151 hl (by decide) rfl (fun ls hl => ?_)
        refine lv_lload hx hb dL_best_153 (lv_at hl 7 rfl) ?_
        refine lv_aload hx hb dL_best_155 (lv_at hl 5 rfl) ?_
        refine lv_iload hx hb dL_best_157 (lv_at hl 8 rfl) ?_
        obtain ⟨n8, f8, v8, e8, g8, ev8, hw⟩ := hw
        refine kw_iald hx hb hK hW 0 e8 rfl g8 ev8 dL_best_159 ?_
        refine lv_if_ge (tgt := 167) hx hb dL_best_160 (by decide) (fun c9 => ?_) (fun c9 => ?_)
        · have hw := itp c9 hw
          refine lv_aload_n hx hb dL_best_167 rfl (lv_at hl 1 rfl) ?_
          refine lv_iload hx hb dL_best_168 (lv_at hl 0 rfl) ?_
          refine lv_iload_n hx hb dL_best_170 rfl (lv_at hl 3 rfl) ?_
          refine ks_call (As := [.ref a1, .int (t0 ||| t1), .int a3]) (rest := [.long x8]) (cg_L_size l D ct a0 a1 (t0 ||| t1) a3 h _ hw) B hK hN hZ hA hW hS k_L_size q_11_15 rfl ⟨Nat.le_of_ble_eq_true rfl, Nat.le_of_ble_eq_true rfl⟩ ⟨Nat.le_of_ble_eq_true rfl, Nat.le_of_ble_eq_true rfl⟩ hl.1 rfl (Nat.le_of_ble_eq_true rfl) dL_best_171 (fun v10 h10 H locs hw hW hS => ?_)
          refine lv_ladd hx hb dL_best_174 ?_
          refine lv_lstore (lv' := [(8, .long (x8 + v10)), (7, .int (t0 ||| t1)), (0, .ref a1), (1, .int a2), (2, .int a3), (3, .ref a4), (4, .ref a5), (5, .long x5), (10, .int x10)]) hx hb dL_best_175 hl (by decide) rfl (fun ls hl => ?_)
          refine lv_iinc (v := (x10 + (1 : Int32))) (lv' := [(10, .int (x10 + (1 : Int32))), (8, .long (x8 + v10)), (7, .int (t0 ||| t1)), (0, .ref a1), (1, .int a2), (2, .int a3), (3, .ref a4), (4, .ref a5), (5, .long x5)]) hx hb dL_best_177 hl (k := 8) rfl (congrArg (HAdd.hAdd x10) (by decide)) (by decide) rfl (fun ls hl => ?_)
          refine lv_goto (tgt := 18) hx hb dL_best_180 (by decide) ?_
          refine W.widen (k := 0) (n := 0) (by omega) (by omega) ?_
          exact ih18 x5 (t0 ||| t1) (x8 + v10) (x10 + (1 : Int32)) h10 _ _ _ hw hW hS (lv_sub hl [3, 4, 5, 6, 7, 8, 2, 1, 0] rfl)
        · have hw := itn c9 hw
          refine lv_lconst (v := (0 : Int64)) hx hb dL_best_163 (by decide) ?_
          refine lv_goto (tgt := 174) hx hb dL_best_164 (by decide) ?_
          refine lv_ladd hx hb dL_best_174 ?_
          refine lv_lstore (lv' := [(8, .long (x8 + (0 : Int64))), (7, .int (t0 ||| t1)), (0, .ref a1), (1, .int a2), (2, .int a3), (3, .ref a4), (4, .ref a5), (5, .long x5), (10, .int x10)]) hx hb dL_best_175 hl (by decide) rfl (fun ls hl => ?_)
          refine lv_iinc (v := (x10 + (1 : Int32))) (lv' := [(10, .int (x10 + (1 : Int32))), (8, .long (x8 + (0 : Int64))), (7, .int (t0 ||| t1)), (0, .ref a1), (1, .int a2), (2, .int a3), (3, .ref a4), (4, .ref a5), (5, .long x5)]) hx hb dL_best_177 hl (k := 8) rfl (congrArg (HAdd.hAdd x10) (by decide)) (by decide) rfl (fun ls hl => ?_)
          refine lv_goto (tgt := 18) hx hb dL_best_180 (by decide) ?_
          exact ih18 x5 (t0 ||| t1) (x8 + (0 : Int64)) (x10 + (1 : Int32)) h _ _ _ hw hW hS (lv_sub hl [3, 4, 5, 6, 7, 8, 2, 1, 0] rfl)
      have hL34 : ∀ (n34 : Nat), ∀ (x5 : Int64) (x7 : Int32) (x8 : Int64) (x10 : Int32) (x11 : Int32) (h : KH) (ls : Array Slot) (H : Heap) (locs : List Loc), g_L_best_L34 ct a0 a1 a2 a3 a4 a5 Post (g_L_best_L18 ct a0 a1 a2 a3 a4 a5 Post  n18) n34 x5 x7 x8 x10 x11 h → KW D A h H → va_S A s.heap H locs → lv_has ls 13 [(0, .ref a1), (1, .int a2), (2, .int a3), (3, .ref a4), (4, .ref a5), (5, .long x5), (7, .int x7), (8, .long x8), (10, .int x10), (11, .int x11)] → W p l e (rmF 2 0 0) s m ([.ref a1, .int a2, .int a3, .ref a4, .ref a5] : List Value).toArray below meth c H locs 0 0 Q (F0 m 34 ls []) := by
        intro n34
        induction n34 with
        | zero =>
          intro x5 x7 x8 x10 x11 h ls H locs hw
          exact (show False from hw).elim
        | succ n34 ih34 =>
          have hJ73 : ∀ (x5 : Int64) (x7 : Int32) (x8 : Int64) (x10 : Int32) (x11 : Int32) (t0 : Int32) (h : KH) (ls : Array Slot) (H : Heap) (locs : List Loc), g_L_best_J73 ct a0 a1 a2 a3 a4 a5 Post (g_L_best_L18 ct a0 a1 a2 a3 a4 a5 Post  n18) (g_L_best_L34 ct a0 a1 a2 a3 a4 a5 Post (g_L_best_L18 ct a0 a1 a2 a3 a4 a5 Post  n18) n34) x5 x7 x8 x10 x11 t0 h → KW D A h H → va_S A s.heap H locs → lv_has ls 13 [(0, .ref a1), (1, .int a2), (2, .int a3), (3, .ref a4), (4, .ref a5), (5, .long x5), (7, .int x7), (8, .long x8), (10, .int x10), (11, .int x11)] → W p l e (rmF 2 0 0) s m ([.ref a1, .int a2, .int a3, .ref a4, .ref a5] : List Value).toArray below meth c H locs 0 0 Q (F0 m 73 ls [.int t0]) := by
            intro x5 x7 x8 x10 x11 t0 h ls H locs hw hW hS hl
            unfold g_L_best_J73 at hw
            refine lv_istore (lv' := [(12, .int t0), (0, .ref a1), (1, .int a2), (2, .int a3), (3, .ref a4), (4, .ref a5), (5, .long x5), (7, .int x7), (8, .long x8), (10, .int x10), (11, .int x11)]) hx hb dL_best_73 hl (by decide) rfl (fun ls hl => ?_)
            refine lv_iload hx hb dL_best_75 (lv_at hl 0 rfl) ?_
            refine lv_if_eq (tgt := 123) hx hb dL_best_77 (by decide) (fun c17 => ?_) (fun c17 => ?_)
            · have hw := itp c17 hw
              refine lv_iinc (v := (x11 + (1 : Int32))) (lv' := [(11, .int (x11 + (1 : Int32))), (12, .int t0), (0, .ref a1), (1, .int a2), (2, .int a3), (3, .ref a4), (4, .ref a5), (5, .long x5), (7, .int x7), (8, .long x8), (10, .int x10)]) hx hb dL_best_123 hl (k := 10) rfl (congrArg (HAdd.hAdd x11) (by decide)) (by decide) rfl (fun ls hl => ?_)
              refine lv_goto (tgt := 34) hx hb dL_best_126 (by decide) ?_
              exact ih34 x5 x7 x8 x10 (x11 + (1 : Int32)) h _ _ _ hw hW hS (lv_sub hl [2, 3, 4, 5, 6, 7, 8, 9, 10, 0] rfl)
            · have hw := itn c17 hw
              refine lv_lload hx hb dL_best_80 (lv_at hl 8 rfl) ?_
              refine lv_aload_n hx hb dL_best_82 rfl (lv_at hl 1 rfl) ?_
              refine lv_iload hx hb dL_best_83 (lv_at hl 7 rfl) ?_
              refine lv_iconst (v := (1 : Int32)) hx hb dL_best_85 (by decide) ?_
              refine lv_iload hx hb dL_best_86 (lv_at hl 10 rfl) ?_
              refine lv_ishl hx hb dL_best_88 ?_
              refine lv_ior hx hb dL_best_89 ?_
              refine lv_iload_n hx hb dL_best_90 rfl (lv_at hl 3 rfl) ?_
              refine ks_call (As := [.ref a1, .int (x7 ||| ((1 : Int32) <<< (x11 &&& 31))), .int a3]) (rest := [.long x8]) (cg_L_size l D ct a0 a1 (x7 ||| ((1 : Int32) <<< (x11 &&& 31))) a3 h _ hw) B hK hN hZ hA hW hS k_L_size q_11_15 rfl ⟨Nat.le_of_ble_eq_true rfl, Nat.le_of_ble_eq_true rfl⟩ ⟨Nat.le_of_ble_eq_true rfl, Nat.le_of_ble_eq_true rfl⟩ hl.1 rfl (Nat.le_of_ble_eq_true rfl) dL_best_91 (fun v18 h18 H locs hw hW hS => ?_)
              refine lv_ladd hx hb dL_best_94 ?_
              refine lv_aload_n hx hb dL_best_95 rfl (lv_at hl 1 rfl) ?_
              refine lv_iload_n hx hb dL_best_96 rfl (lv_at hl 2 rfl) ?_
              refine lv_iload hx hb dL_best_97 (lv_at hl 7 rfl) ?_
              refine lv_iconst (v := (1 : Int32)) hx hb dL_best_99 (by decide) ?_
              refine lv_iload hx hb dL_best_100 (lv_at hl 10 rfl) ?_
              refine lv_ishl hx hb dL_best_102 ?_
              refine lv_ior hx hb dL_best_103 ?_
              refine lv_iload_n hx hb dL_best_104 rfl (lv_at hl 3 rfl) ?_
              refine lv_aload_n hx hb dL_best_105 rfl (lv_at hl 4 rfl) ?_
              refine ks_call (As := [.ref a1, .int a2, .int (x7 ||| ((1 : Int32) <<< (x11 &&& 31))), .int a3, .ref a4]) (rest := [.long (x8 + v18)]) (cg_L_rest l D ct a0 a1 a2 (x7 ||| ((1 : Int32) <<< (x11 &&& 31))) a3 a4 h18 _ hw) B hK hN hZ hA hW hS k_L_rest q_11_19 rfl ⟨Nat.le_of_ble_eq_true rfl, Nat.le_of_ble_eq_true rfl⟩ ⟨Nat.le_of_ble_eq_true rfl, Nat.le_of_ble_eq_true rfl⟩ hl.1 rfl (Nat.le_of_ble_eq_true rfl) dL_best_106 (fun v19 h19 H locs hw hW hS => ?_)
              refine lv_ladd hx hb dL_best_109 ?_
              refine lv_lload hx hb dL_best_110 (lv_at hl 6 rfl) ?_
              refine W.lcmp hx hb dL_best_112 ?_
              refine lv_if_ne (tgt := 123) hx hb dL_best_113 (by decide) (fun c20 => ?_) (fun c20 => ?_)
              · have hw := itn c20 hw
                refine lv_iinc (v := (x11 + (1 : Int32))) (lv' := [(11, .int (x11 + (1 : Int32))), (12, .int t0), (0, .ref a1), (1, .int a2), (2, .int a3), (3, .ref a4), (4, .ref a5), (5, .long x5), (7, .int x7), (8, .long x8), (10, .int x10)]) hx hb dL_best_123 hl (k := 10) rfl (congrArg (HAdd.hAdd x11) (by decide)) (by decide) rfl (fun ls hl => ?_)
                refine lv_goto (tgt := 34) hx hb dL_best_126 (by decide) ?_
                refine W.widen (k := 0) (n := 0) (by omega) (by omega) ?_
                exact ih34 x5 x7 x8 x10 (x11 + (1 : Int32)) h19 _ _ _ hw hW hS (lv_sub hl [2, 3, 4, 5, 6, 7, 8, 9, 10, 0] rfl)
              · have hw := itp c20 hw
                refine lv_aload hx hb dL_best_116 (lv_at hl 5 rfl) ?_
                refine lv_iload hx hb dL_best_118 (lv_at hl 9 rfl) ?_
                refine lv_iload hx hb dL_best_120 (lv_at hl 10 rfl) ?_
                obtain ⟨n21, f21, e21, g21, hw⟩ := hw
                refine kw_iast hx hb hK hW hS 0 e21 rfl g21 dL_best_122 (fun H locs h21 eh21 hW hS => ?_)
                have hw := hw h21 eh21
                refine lv_iinc (v := (x11 + (1 : Int32))) (lv' := [(11, .int (x11 + (1 : Int32))), (12, .int t0), (0, .ref a1), (1, .int a2), (2, .int a3), (3, .ref a4), (4, .ref a5), (5, .long x5), (7, .int x7), (8, .long x8), (10, .int x10)]) hx hb dL_best_123 hl (k := 10) rfl (congrArg (HAdd.hAdd x11) (by decide)) (by decide) rfl (fun ls hl => ?_)
                refine lv_goto (tgt := 34) hx hb dL_best_126 (by decide) ?_
                refine W.widen (k := 0) (n := 0) (by omega) (by omega) ?_
                exact ih34 x5 x7 x8 x10 (x11 + (1 : Int32)) h21 _ _ _ hw hW hS (lv_sub hl [2, 3, 4, 5, 6, 7, 8, 9, 10, 0] rfl)
          intro x5 x7 x8 x10 x11 h ls H locs hw hW hS hl
          have hw : g_L_best_L34b ct a0 a1 a2 a3 a4 a5 Post (g_L_best_L18 ct a0 a1 a2 a3 a4 a5 Post  n18) (g_L_best_L34 ct a0 a1 a2 a3 a4 a5 Post (g_L_best_L18 ct a0 a1 a2 a3 a4 a5 Post  n18) n34) x5 x7 x8 x10 x11 h := hw
          unfold g_L_best_L34b at hw
          refine lv_iload hx hb dL_best_34 (lv_at hl 9 rfl) ?_
          refine lv_iconst (v := (5 : Int32)) hx hb dL_best_36 (by decide) ?_
          refine lv_icmp_ge (tgt := 129) hx hb dL_best_37 (by decide) (fun c4 => ?_) (fun c4 => ?_)
          · have hw := itp c4 hw
            refine lv_iload hx hb dL_best_129 (lv_at hl 6 rfl) ?_
            refine lv_aload hx hb dL_best_131 (lv_at hl 4 rfl) ?_
            refine lv_iload hx hb dL_best_133 (lv_at hl 8 rfl) ?_
            obtain ⟨n5, f5, v5, e5, g5, ev5, hw⟩ := hw
            refine kw_iald hx hb hK hW 0 e5 rfl g5 ev5 dL_best_135 ?_
            refine lv_if_ge (tgt := 143) hx hb dL_best_136 (by decide) (fun c6 => ?_) (fun c6 => ?_)
            · have hw := itp c6 hw
              refine lv_iconst (v := (1 : Int32)) hx hb dL_best_143 (by decide) ?_
              refine lv_aload hx hb dL_best_144 (lv_at hl 4 rfl) ?_
              refine lv_iload hx hb dL_best_146 (lv_at hl 8 rfl) ?_
              obtain ⟨n7, f7, v7, e7, g7, ev7, hw⟩ := hw
              refine kw_iald hx hb hK hW 0 e7 rfl g7 ev7 dL_best_148 ?_
              refine lv_ishl hx hb dL_best_149 ?_
              exact hJ150 x5 x8 x10 x7 ((1 : Int32) <<< (v7 &&& 31)) h _ _ _ hw hW hS (lv_sub hl [0, 1, 2, 3, 4, 5, 7, 8] rfl)
            · have hw := itn c6 hw
              refine lv_iconst (v := (0 : Int32)) hx hb dL_best_139 (by decide) ?_
              refine lv_goto (tgt := 150) hx hb dL_best_140 (by decide) ?_
              exact hJ150 x5 x8 x10 x7 (0 : Int32) h _ _ _ hw hW hS (lv_sub hl [0, 1, 2, 3, 4, 5, 7, 8] rfl)
          · have hw := itn c4 hw
            refine lv_aload hx hb dL_best_40 (lv_at hl 4 rfl) ?_
            refine lv_iload hx hb dL_best_42 (lv_at hl 8 rfl) ?_
            obtain ⟨n11, f11, v11, e11, g11, ev11, hw⟩ := hw
            refine kw_iald hx hb hK hW 0 e11 rfl g11 ev11 dL_best_44 ?_
            refine lv_if_ge (tgt := 129) hx hb dL_best_45 (by decide) (fun c12 => ?_) (fun c12 => ?_)
            · have hw := itp c12 hw
              refine lv_iload hx hb dL_best_129 (lv_at hl 6 rfl) ?_
              refine lv_aload hx hb dL_best_131 (lv_at hl 4 rfl) ?_
              refine lv_iload hx hb dL_best_133 (lv_at hl 8 rfl) ?_
              obtain ⟨n13, f13, v13, e13, g13, ev13, hw⟩ := hw
              refine kw_iald hx hb hK hW 0 e13 rfl g13 ev13 dL_best_135 ?_
              refine lv_if_ge (tgt := 143) hx hb dL_best_136 (by decide) (fun c14 => ?_) (fun c14 => ?_)
              · have hw := itp c14 hw
                refine lv_iconst (v := (1 : Int32)) hx hb dL_best_143 (by decide) ?_
                refine lv_aload hx hb dL_best_144 (lv_at hl 4 rfl) ?_
                refine lv_iload hx hb dL_best_146 (lv_at hl 8 rfl) ?_
                obtain ⟨n15, f15, v15, e15, g15, ev15, hw⟩ := hw
                refine kw_iald hx hb hK hW 0 e15 rfl g15 ev15 dL_best_148 ?_
                refine lv_ishl hx hb dL_best_149 ?_
                exact hJ150 x5 x8 x10 x7 ((1 : Int32) <<< (v15 &&& 31)) h _ _ _ hw hW hS (lv_sub hl [0, 1, 2, 3, 4, 5, 7, 8] rfl)
              · have hw := itn c14 hw
                refine lv_iconst (v := (0 : Int32)) hx hb dL_best_139 (by decide) ?_
                refine lv_goto (tgt := 150) hx hb dL_best_140 (by decide) ?_
                exact hJ150 x5 x8 x10 x7 (0 : Int32) h _ _ _ hw hW hS (lv_sub hl [0, 1, 2, 3, 4, 5, 7, 8] rfl)
            · have hw := itn c12 hw
              refine lv_iload_n hx hb dL_best_48 rfl (lv_at hl 1 rfl) ?_
              refine lv_iload hx hb dL_best_49 (lv_at hl 9 rfl) ?_
              refine lv_ishr hx hb dL_best_51 ?_
              refine lv_iconst (v := (1 : Int32)) hx hb dL_best_52 (by decide) ?_
              refine lv_iand hx hb dL_best_53 ?_
              refine lv_iconst (v := (1 : Int32)) hx hb dL_best_54 (by decide) ?_
              refine lv_icmp_ne (tgt := 72) hx hb dL_best_55 (by decide) (fun c16 => ?_) (fun c16 => ?_)
              · have hw := itn c16 hw
                refine lv_iconst (v := (0 : Int32)) hx hb dL_best_72 (by decide) ?_
                exact hJ73 x5 x7 x8 x10 x11 (0 : Int32) h _ _ _ hw hW hS (lv_sub hl [0, 1, 2, 3, 4, 5, 6, 7, 8, 9] rfl)
              · have hw := itp c16 hw
                refine lv_iload hx hb dL_best_58 (lv_at hl 6 rfl) ?_
                refine lv_iload hx hb dL_best_60 (lv_at hl 9 rfl) ?_
                refine lv_ishr hx hb dL_best_62 ?_
                refine lv_iconst (v := (1 : Int32)) hx hb dL_best_63 (by decide) ?_
                refine lv_iand hx hb dL_best_64 ?_
                refine lv_if_ne (tgt := 72) hx hb dL_best_65 (by decide) (fun c22 => ?_) (fun c22 => ?_)
                · have hw := itn c22 hw
                  refine lv_iconst (v := (0 : Int32)) hx hb dL_best_72 (by decide) ?_
                  exact hJ73 x5 x7 x8 x10 x11 (0 : Int32) h _ _ _ hw hW hS (lv_sub hl [0, 1, 2, 3, 4, 5, 6, 7, 8, 9] rfl)
                · have hw := itp c22 hw
                  refine lv_iconst (v := (1 : Int32)) hx hb dL_best_68 (by decide) ?_
                  refine lv_goto (tgt := 73) hx hb dL_best_69 (by decide) ?_
                  exact hJ73 x5 x7 x8 x10 x11 (1 : Int32) h _ _ _ hw hW hS (lv_sub hl [0, 1, 2, 3, 4, 5, 6, 7, 8, 9] rfl)
      intro x5 x7 x8 x10 h ls H locs hw hW hS hl
      have hw : g_L_best_L18b ct a0 a1 a2 a3 a4 a5 Post  (g_L_best_L18 ct a0 a1 a2 a3 a4 a5 Post  n18) x5 x7 x8 x10 h := hw
      unfold g_L_best_L18b at hw
      refine lv_iload hx hb dL_best_18 (lv_at hl 8 rfl) ?_
      refine lv_iconst (v := (5 : Int32)) hx hb dL_best_20 (by decide) ?_
      refine lv_icmp_ge (tgt := 183) hx hb dL_best_21 (by decide) (fun c2 => ?_) (fun c2 => ?_)
      · have hw := itp c2 hw
        exact hret _ _ _ _ h dL_best_183 hw hW hS
      · have hw := itn c2 hw
        refine lv_aload hx hb dL_best_24 (lv_at hl 4 rfl) ?_
        refine lv_iload hx hb dL_best_26 (lv_at hl 8 rfl) ?_
        refine lv_bipush (v := (-4 : Int32)) hx hb dL_best_28 (by decide) ?_
        obtain ⟨n3, f3, e3, g3, hw⟩ := hw
        refine kw_iast hx hb hK hW hS 0 e3 rfl g3 dL_best_30 (fun H locs h3 eh3 hW hS => ?_)
        have hw := hw h3 eh3
        refine lv_iconst (v := (0 : Int32)) hx hb dL_best_31 (by decide) ?_
        refine lv_istore (lv' := [(11, .int (0 : Int32)), (0, .ref a1), (1, .int a2), (2, .int a3), (3, .ref a4), (4, .ref a5), (5, .long x5), (7, .int x7), (8, .long x8), (10, .int x10)]) hx hb dL_best_32 hl (by decide) rfl (fun ls hl => ?_)
        exact hL34 1024 x5 x7 x8 x10 (0 : Int32) h3 _ _ _ hw hW hS (lv_sub hl [1, 2, 3, 4, 5, 6, 7, 8, 9, 0] rfl)
  unfold g_L_best at hw
  refine lv_aload_n hx hb dL_best_0 rfl (lv_at hl 0 rfl) ?_
  refine lv_iload_n hx hb dL_best_1 rfl (lv_at hl 1 rfl) ?_
  refine lv_iload_n hx hb dL_best_2 rfl (lv_at hl 2 rfl) ?_
  refine lv_aload_n hx hb dL_best_3 rfl (lv_at hl 3 rfl) ?_
  refine ks_call (As := [.ref a1, .int a2, .int a3, .ref a4]) (rest := []) (cg_L_least l D ct a0 a1 a2 a3 a4 h _ hw) B hK hN hZ hA hW hS k_L_least q_11_11 rfl ⟨Nat.le_of_ble_eq_true rfl, Nat.le_of_ble_eq_true rfl⟩ ⟨Nat.le_of_ble_eq_true rfl, Nat.le_of_ble_eq_true rfl⟩ hl.1 rfl (Nat.le_of_ble_eq_true rfl) dL_best_4 (fun v1 h1 H locs hw hW hS => ?_)
  refine lv_lstore (lv' := [(5, .long v1), (0, .ref a1), (1, .int a2), (2, .int a3), (3, .ref a4), (4, .ref a5)]) hx hb dL_best_7 hl (by decide) rfl (fun ls hl => ?_)
  refine lv_iconst (v := (0 : Int32)) hx hb dL_best_9 (by decide) ?_
  refine lv_istore (lv' := [(7, .int (0 : Int32)), (5, .long v1), (0, .ref a1), (1, .int a2), (2, .int a3), (3, .ref a4), (4, .ref a5)]) hx hb dL_best_10 hl (by decide) rfl (fun ls hl => ?_)
  refine lv_lconst (v := (0 : Int64)) hx hb dL_best_12 (by decide) ?_
  refine lv_lstore (lv' := [(8, .long (0 : Int64)), (7, .int (0 : Int32)), (5, .long v1), (0, .ref a1), (1, .int a2), (2, .int a3), (3, .ref a4), (4, .ref a5)]) hx hb dL_best_13 hl (by decide) rfl (fun ls hl => ?_)
  refine lv_iconst (v := (0 : Int32)) hx hb dL_best_15 (by decide) ?_
  refine lv_istore (lv' := [(10, .int (0 : Int32)), (8, .long (0 : Int64)), (7, .int (0 : Int32)), (5, .long v1), (0, .ref a1), (1, .int a2), (2, .int a3), (3, .ref a4), (4, .ref a5)]) hx hb dL_best_16 hl (by decide) rfl (fun ls hl => ?_)
  refine W.widen (k := 0) (n := 0) (by omega) (by omega) ?_
  exact hL18 1024 v1 (0 : Int32) (0 : Int64) (0 : Int32) h1 _ _ _ hw hW hS (lv_sub hl [4, 5, 6, 7, 8, 3, 2, 1, 0] rfl)

def g_L_cost_L9b (ct : Nat → ClassId) (a0 : Nat) (a1 : Nat) (a2 : Nat) (a3 : Int32) (a4 : Int32) (Post : Int64 → KH → Prop)  (k9 : Int64 → Int32 → Int32 → KH → Prop) (x4 : Int64) (x6 : Int32) (x7 : Int32) (h : KH) : Prop :=
  if (5 : Int32) ≤ x7 then Post x4 h
  else ldI h a2 ((a3 + (1 : Int32)) + x7) (ct 0) (fun v2 => if v2 < (0 : Int32) then Post x4 h
  else ldI h a2 ((a3 + (1 : Int32)) + x7) (ct 0) (fun v4 => g_L_size ct a0 a1 (x6 ||| ((1 : Int32) <<< (v4 &&& 31))) a4 h (fun v5 h5 => k9 (x4 + v5) (x6 ||| ((1 : Int32) <<< (v4 &&& 31))) (x7 + (1 : Int32)) h5)))
def g_L_cost_L9 (ct : Nat → ClassId) (a0 : Nat) (a1 : Nat) (a2 : Nat) (a3 : Int32) (a4 : Int32) (Post : Int64 → KH → Prop)  : Nat → Int64 → Int32 → Int32 → KH → Prop
  | 0 => fun _ _ _ _ => False
  | n + 1 => g_L_cost_L9b ct a0 a1 a2 a3 a4 Post  (g_L_cost_L9 ct a0 a1 a2 a3 a4 Post  n)
def g_L_cost (ct : Nat → ClassId) (a0 : Nat) (a1 : Nat) (a2 : Nat) (a3 : Int32) (a4 : Int32) (h : KH) (Post : Int64 → KH → Prop) : Prop :=
  g_L_cost_L9 ct a0 a1 a2 a3 a4 Post  1024 (0 : Int64) (0 : Int32) (0 : Int32) h
set_option maxRecDepth 100000 in
set_option maxHeartbeats 4000000 in
theorem cg_L_cost (l : Launch) (D : va_G) (ct : Nat → ClassId) (a0 : Nat) (a1 : Nat) (a2 : Nat) (a3 : Int32) (a4 : Int32) (h : KH) (Post : Int64 → KH → Prop) (hw : g_L_cost ct a0 a1 a2 a3 a4 h Post) : CK l yL_cost cL_cost 8 1 0 0 (some .long) D ct a0 [.ref a1, .ref a2, .int a3, .int a4] vL h Post := by
  refine CK.mkL (by decide) (Nat.le_of_ble_eq_true rfl) ?_
  intro p e s m below meth c Q A X hret hW hS ls hl
  obtain ⟨B, hin, hK, hN, hZ, hA⟩ := X
  have B0 := B
  obtain ⟨hx, hb, hml, hown, hts⟩ := B0
  have hl : lv_has ls 8 [(0, .ref a1), (1, .ref a2), (2, .int a3), (3, .int a4)] := hl
  have hL9 : ∀ (n9 : Nat), ∀ (x4 : Int64) (x6 : Int32) (x7 : Int32) (h : KH) (ls : Array Slot) (H : Heap) (locs : List Loc), g_L_cost_L9 ct a0 a1 a2 a3 a4 Post  n9 x4 x6 x7 h → KW D A h H → va_S A s.heap H locs → lv_has ls 8 [(0, .ref a1), (1, .ref a2), (2, .int a3), (3, .int a4), (4, .long x4), (6, .int x6), (7, .int x7)] → W p l e (rmF 1 0 0) s m ([.ref a1, .ref a2, .int a3, .int a4] : List Value).toArray below meth c H locs 0 0 Q (F0 m 9 ls []) := by
    intro n9
    induction n9 with
    | zero =>
      intro x4 x6 x7 h ls H locs hw
      exact (show False from hw).elim
    | succ n9 ih9 =>
      intro x4 x6 x7 h ls H locs hw hW hS hl
      have hw : g_L_cost_L9b ct a0 a1 a2 a3 a4 Post  (g_L_cost_L9 ct a0 a1 a2 a3 a4 Post  n9) x4 x6 x7 h := hw
      unfold g_L_cost_L9b at hw
      refine lv_iload hx hb dL_cost_9 (lv_at hl 6 rfl) ?_
      refine lv_iconst (v := (5 : Int32)) hx hb dL_cost_11 (by decide) ?_
      refine lv_icmp_ge (tgt := 59) hx hb dL_cost_12 (by decide) (fun c1 => ?_) (fun c1 => ?_)
      · have hw := itp c1 hw
        refine lv_lload hx hb dL_cost_59 (lv_at hl 4 rfl) ?_
        exact hret _ _ _ _ x4 h dL_cost_61 hw hW hS
      · have hw := itn c1 hw
        refine lv_aload_n hx hb dL_cost_15 rfl (lv_at hl 1 rfl) ?_
        refine lv_iload_n hx hb dL_cost_16 rfl (lv_at hl 2 rfl) ?_
        refine lv_iconst (v := (1 : Int32)) hx hb dL_cost_17 (by decide) ?_
        refine lv_iadd hx hb dL_cost_18 ?_
        refine lv_iload hx hb dL_cost_19 (lv_at hl 6 rfl) ?_
        refine lv_iadd hx hb dL_cost_21 ?_
        obtain ⟨n2, f2, v2, e2, g2, ev2, hw⟩ := hw
        refine kw_iald hx hb hK hW 0 e2 rfl g2 ev2 dL_cost_22 ?_
        refine lv_if_lt (tgt := 59) hx hb dL_cost_23 (by decide) (fun c3 => ?_) (fun c3 => ?_)
        · have hw := itp c3 hw
          refine lv_lload hx hb dL_cost_59 (lv_at hl 4 rfl) ?_
          exact hret _ _ _ _ x4 h dL_cost_61 hw hW hS
        · have hw := itn c3 hw
          refine lv_iload hx hb dL_cost_26 (lv_at hl 5 rfl) ?_
          refine lv_iconst (v := (1 : Int32)) hx hb dL_cost_28 (by decide) ?_
          refine lv_aload_n hx hb dL_cost_29 rfl (lv_at hl 1 rfl) ?_
          refine lv_iload_n hx hb dL_cost_30 rfl (lv_at hl 2 rfl) ?_
          refine lv_iconst (v := (1 : Int32)) hx hb dL_cost_31 (by decide) ?_
          refine lv_iadd hx hb dL_cost_32 ?_
          refine lv_iload hx hb dL_cost_33 (lv_at hl 6 rfl) ?_
          refine lv_iadd hx hb dL_cost_35 ?_
          obtain ⟨n4, f4, v4, e4, g4, ev4, hw⟩ := hw
          refine kw_iald hx hb hK hW 0 e4 rfl g4 ev4 dL_cost_36 ?_
          refine lv_ishl hx hb dL_cost_37 ?_
          refine lv_ior hx hb dL_cost_38 ?_
          refine lv_istore (lv' := [(6, .int (x6 ||| ((1 : Int32) <<< (v4 &&& 31)))), (0, .ref a1), (1, .ref a2), (2, .int a3), (3, .int a4), (4, .long x4), (7, .int x7)]) hx hb dL_cost_39 hl (by decide) rfl (fun ls hl => ?_)
          refine lv_lload hx hb dL_cost_41 (lv_at hl 5 rfl) ?_
          refine lv_aload_n hx hb dL_cost_43 rfl (lv_at hl 1 rfl) ?_
          refine lv_iload hx hb dL_cost_44 (lv_at hl 0 rfl) ?_
          refine lv_iload_n hx hb dL_cost_46 rfl (lv_at hl 4 rfl) ?_
          refine ks_call (As := [.ref a1, .int (x6 ||| ((1 : Int32) <<< (v4 &&& 31))), .int a4]) (rest := [.long x4]) (cg_L_size l D ct a0 a1 (x6 ||| ((1 : Int32) <<< (v4 &&& 31))) a4 h _ hw) B hK hN hZ hA hW hS k_L_size q_11_15 rfl ⟨Nat.le_of_ble_eq_true rfl, Nat.le_of_ble_eq_true rfl⟩ ⟨Nat.le_of_ble_eq_true rfl, Nat.le_of_ble_eq_true rfl⟩ hl.1 rfl (Nat.le_of_ble_eq_true rfl) dL_cost_47 (fun v5 h5 H locs hw hW hS => ?_)
          refine lv_ladd hx hb dL_cost_50 ?_
          refine lv_lstore (lv' := [(4, .long (x4 + v5)), (6, .int (x6 ||| ((1 : Int32) <<< (v4 &&& 31)))), (0, .ref a1), (1, .ref a2), (2, .int a3), (3, .int a4), (7, .int x7)]) hx hb dL_cost_51 hl (by decide) rfl (fun ls hl => ?_)
          refine lv_iinc (v := (x7 + (1 : Int32))) (lv' := [(7, .int (x7 + (1 : Int32))), (4, .long (x4 + v5)), (6, .int (x6 ||| ((1 : Int32) <<< (v4 &&& 31)))), (0, .ref a1), (1, .ref a2), (2, .int a3), (3, .int a4)]) hx hb dL_cost_53 hl (k := 6) rfl (congrArg (HAdd.hAdd x7) (by decide)) (by decide) rfl (fun ls hl => ?_)
          refine lv_goto (tgt := 9) hx hb dL_cost_56 (by decide) ?_
          refine W.widen (k := 0) (n := 0) (by omega) (by omega) ?_
          exact ih9 (x4 + v5) (x6 ||| ((1 : Int32) <<< (v4 &&& 31))) (x7 + (1 : Int32)) h5 _ _ _ hw hW hS (lv_sub hl [3, 4, 5, 6, 1, 2, 0] rfl)
  unfold g_L_cost at hw
  refine lv_lconst (v := (0 : Int64)) hx hb dL_cost_0 (by decide) ?_
  refine lv_lstore (lv' := [(4, .long (0 : Int64)), (0, .ref a1), (1, .ref a2), (2, .int a3), (3, .int a4)]) hx hb dL_cost_1 hl (by decide) rfl (fun ls hl => ?_)
  refine lv_iconst (v := (0 : Int32)) hx hb dL_cost_3 (by decide) ?_
  refine lv_istore (lv' := [(6, .int (0 : Int32)), (4, .long (0 : Int64)), (0, .ref a1), (1, .ref a2), (2, .int a3), (3, .int a4)]) hx hb dL_cost_4 hl (by decide) rfl (fun ls hl => ?_)
  refine lv_iconst (v := (0 : Int32)) hx hb dL_cost_6 (by decide) ?_
  refine lv_istore (lv' := [(7, .int (0 : Int32)), (6, .int (0 : Int32)), (4, .long (0 : Int64)), (0, .ref a1), (1, .ref a2), (2, .int a3), (3, .int a4)]) hx hb dL_cost_7 hl (by decide) rfl (fun ls hl => ?_)
  exact hL9 1024 (0 : Int64) (0 : Int32) (0 : Int32) h _ _ _ hw hW hS (lv_sub hl [3, 4, 5, 6, 2, 1, 0] rfl)

def g_L_drifted_L2b (ct : Nat → ClassId) (a0 : Nat) (a1 : Nat) (a2 : Nat) (a3 : Int32) (Post : Int32 → KH → Prop)  (k2 : Int32 → KH → Prop) (x3 : Int32) (h : KH) : Prop :=
  if (5 : Int32) ≤ x3 then Post (0 : Int32) h
  else ldI h a1 ((5 : Int32) + x3) (ct 0) (fun v2 => ldI h a2 ((a3 + (6 : Int32)) + x3) (ct 0) (fun v3 => ldI h a2 a3 (ct 0) (fun v4 => if ((v4 >>> (x3 &&& 31)) &&& (1 : Int32)) = (1 : Int32) then ldI h a1 (35 : Int32) (ct 0) (fun v6 => if (v3 * v6) < (v2 * (100 : Int32)) then Post (1 : Int32) h
  else ldI h a1 (35 : Int32) (ct 0) (fun v8 => if (v3 * (100 : Int32)) ≤ (v2 * v8) then k2 (x3 + (1 : Int32)) h
  else Post (1 : Int32) h))
  else k2 (x3 + (1 : Int32)) h)))
def g_L_drifted_L2 (ct : Nat → ClassId) (a0 : Nat) (a1 : Nat) (a2 : Nat) (a3 : Int32) (Post : Int32 → KH → Prop)  : Nat → Int32 → KH → Prop
  | 0 => fun _ _ => False
  | n + 1 => g_L_drifted_L2b ct a0 a1 a2 a3 Post  (g_L_drifted_L2 ct a0 a1 a2 a3 Post  n)
def g_L_drifted (ct : Nat → ClassId) (a0 : Nat) (a1 : Nat) (a2 : Nat) (a3 : Int32) (h : KH) (Post : Int32 → KH → Prop) : Prop :=
  g_L_drifted_L2 ct a0 a1 a2 a3 Post  1024 (0 : Int32) h
set_option maxRecDepth 100000 in
set_option maxHeartbeats 4000000 in
theorem cg_L_drifted (l : Launch) (D : va_G) (ct : Nat → ClassId) (a0 : Nat) (a1 : Nat) (a2 : Nat) (a3 : Int32) (h : KH) (Post : Int32 → KH → Prop) (hw : g_L_drifted ct a0 a1 a2 a3 h Post) : CK l yL_drifted cL_drifted 6 0 0 0 (some .boolean) D ct a0 [.ref a1, .ref a2, .int a3] vI h Post := by
  refine CK.mkI (by decide) (Nat.le_of_ble_eq_true rfl) ?_
  intro p e s m below meth c Q A X hret hW hS ls hl
  obtain ⟨B, hin, hK, hN, hZ, hA⟩ := X
  have B0 := B
  obtain ⟨hx, hb, hml, hown, hts⟩ := B0
  have hl : lv_has ls 6 [(0, .ref a1), (1, .ref a2), (2, .int a3)] := hl
  have hL2 : ∀ (n2 : Nat), ∀ (x3 : Int32) (h : KH) (ls : Array Slot) (H : Heap) (locs : List Loc), g_L_drifted_L2 ct a0 a1 a2 a3 Post  n2 x3 h → KW D A h H → va_S A s.heap H locs → lv_has ls 6 [(0, .ref a1), (1, .ref a2), (2, .int a3), (3, .int x3)] → W p l e (rmF 0 0 0) s m ([.ref a1, .ref a2, .int a3] : List Value).toArray below meth c H locs 0 0 Q (F0 m 2 ls []) := by
    intro n2
    induction n2 with
    | zero =>
      intro x3 h ls H locs hw
      exact (show False from hw).elim
    | succ n2 ih2 =>
      intro x3 h ls H locs hw hW hS hl
      have hw : g_L_drifted_L2b ct a0 a1 a2 a3 Post  (g_L_drifted_L2 ct a0 a1 a2 a3 Post  n2) x3 h := hw
      unfold g_L_drifted_L2b at hw
      refine lv_iload_n hx hb dL_drifted_2 rfl (lv_at hl 3 rfl) ?_
      refine lv_iconst (v := (5 : Int32)) hx hb dL_drifted_3 (by decide) ?_
      refine lv_icmp_ge (tgt := 73) hx hb dL_drifted_4 (by decide) (fun c1 => ?_) (fun c1 => ?_)
      · have hw := itp c1 hw
        refine lv_iconst (v := (0 : Int32)) hx hb dL_drifted_73 (by decide) ?_
        exact hret _ _ _ _ (0 : Int32) h nb0 dL_drifted_74 hw hW hS
      · have hw := itn c1 hw
        refine lv_aload_n hx hb dL_drifted_7 rfl (lv_at hl 0 rfl) ?_
        refine lv_iconst (v := (5 : Int32)) hx hb dL_drifted_8 (by decide) ?_
        refine lv_iload_n hx hb dL_drifted_9 rfl (lv_at hl 3 rfl) ?_
        refine lv_iadd hx hb dL_drifted_10 ?_
        obtain ⟨n2, f2, v2, e2, g2, ev2, hw⟩ := hw
        refine kw_iald hx hb hK hW 0 e2 rfl g2 ev2 dL_drifted_11 ?_
        refine lv_istore (lv' := [(4, .int v2), (0, .ref a1), (1, .ref a2), (2, .int a3), (3, .int x3)]) hx hb dL_drifted_12 hl (by decide) rfl (fun ls hl => ?_)
        refine lv_aload_n hx hb dL_drifted_14 rfl (lv_at hl 2 rfl) ?_
        refine lv_iload_n hx hb dL_drifted_15 rfl (lv_at hl 3 rfl) ?_
        refine lv_bipush (v := (6 : Int32)) hx hb dL_drifted_16 (by decide) ?_
        refine lv_iadd hx hb dL_drifted_18 ?_
        refine lv_iload_n hx hb dL_drifted_19 rfl (lv_at hl 4 rfl) ?_
        refine lv_iadd hx hb dL_drifted_20 ?_
        obtain ⟨n3, f3, v3, e3, g3, ev3, hw⟩ := hw
        refine kw_iald hx hb hK hW 0 e3 rfl g3 ev3 dL_drifted_21 ?_
        refine lv_istore (lv' := [(5, .int v3), (4, .int v2), (0, .ref a1), (1, .ref a2), (2, .int a3), (3, .int x3)]) hx hb dL_drifted_22 hl (by decide) rfl (fun ls hl => ?_)
        refine lv_aload_n hx hb dL_drifted_24 rfl (lv_at hl 3 rfl) ?_
        refine lv_iload_n hx hb dL_drifted_25 rfl (lv_at hl 4 rfl) ?_
        obtain ⟨n4, f4, v4, e4, g4, ev4, hw⟩ := hw
        refine kw_iald hx hb hK hW 0 e4 rfl g4 ev4 dL_drifted_26 ?_
        refine lv_iload_n hx hb dL_drifted_27 rfl (lv_at hl 5 rfl) ?_
        refine lv_ishr hx hb dL_drifted_28 ?_
        refine lv_iconst (v := (1 : Int32)) hx hb dL_drifted_29 (by decide) ?_
        refine lv_iand hx hb dL_drifted_30 ?_
        refine lv_iconst (v := (1 : Int32)) hx hb dL_drifted_31 (by decide) ?_
        refine lv_icmp_ne (tgt := 67) hx hb dL_drifted_32 (by decide) (fun c5 => ?_) (fun c5 => ?_)
        · have hw := itn c5 hw
          refine lv_iinc (v := (x3 + (1 : Int32))) (lv' := [(3, .int (x3 + (1 : Int32))), (5, .int v3), (4, .int v2), (0, .ref a1), (1, .ref a2), (2, .int a3)]) hx hb dL_drifted_67 hl (k := 5) rfl (congrArg (HAdd.hAdd x3) (by decide)) (by decide) rfl (fun ls hl => ?_)
          refine lv_goto (tgt := 2) hx hb dL_drifted_70 (by decide) ?_
          exact ih2 (x3 + (1 : Int32)) h _ _ _ hw hW hS (lv_sub hl [3, 4, 5, 0] rfl)
        · have hw := itp c5 hw
          refine lv_iload hx hb dL_drifted_35 (lv_at hl 1 rfl) ?_
          refine lv_bipush (v := (100 : Int32)) hx hb dL_drifted_37 (by decide) ?_
          refine lv_imul hx hb dL_drifted_39 ?_
          refine lv_iload hx hb dL_drifted_40 (lv_at hl 0 rfl) ?_
          refine lv_aload_n hx hb dL_drifted_42 rfl (lv_at hl 2 rfl) ?_
          refine lv_bipush (v := (35 : Int32)) hx hb dL_drifted_43 (by decide) ?_
          obtain ⟨n6, f6, v6, e6, g6, ev6, hw⟩ := hw
          refine kw_iald hx hb hK hW 0 e6 rfl g6 ev6 dL_drifted_45 ?_
          refine lv_imul hx hb dL_drifted_46 ?_
          refine lv_icmp_gt (tgt := 65) hx hb dL_drifted_47 (by decide) (fun c7 => ?_) (fun c7 => ?_)
          · have hw := itp c7 hw
            refine lv_iconst (v := (1 : Int32)) hx hb dL_drifted_65 (by decide) ?_
            exact hret _ _ _ _ (1 : Int32) h nb1 dL_drifted_66 hw hW hS
          · have hw := itn c7 hw
            refine lv_iload hx hb dL_drifted_50 (lv_at hl 0 rfl) ?_
            refine lv_bipush (v := (100 : Int32)) hx hb dL_drifted_52 (by decide) ?_
            refine lv_imul hx hb dL_drifted_54 ?_
            refine lv_iload hx hb dL_drifted_55 (lv_at hl 1 rfl) ?_
            refine lv_aload_n hx hb dL_drifted_57 rfl (lv_at hl 2 rfl) ?_
            refine lv_bipush (v := (35 : Int32)) hx hb dL_drifted_58 (by decide) ?_
            obtain ⟨n8, f8, v8, e8, g8, ev8, hw⟩ := hw
            refine kw_iald hx hb hK hW 0 e8 rfl g8 ev8 dL_drifted_60 ?_
            refine lv_imul hx hb dL_drifted_61 ?_
            refine lv_icmp_le (tgt := 67) hx hb dL_drifted_62 (by decide) (fun c9 => ?_) (fun c9 => ?_)
            · have hw := itp c9 hw
              refine lv_iinc (v := (x3 + (1 : Int32))) (lv' := [(3, .int (x3 + (1 : Int32))), (5, .int v3), (4, .int v2), (0, .ref a1), (1, .ref a2), (2, .int a3)]) hx hb dL_drifted_67 hl (k := 5) rfl (congrArg (HAdd.hAdd x3) (by decide)) (by decide) rfl (fun ls hl => ?_)
              refine lv_goto (tgt := 2) hx hb dL_drifted_70 (by decide) ?_
              exact ih2 (x3 + (1 : Int32)) h _ _ _ hw hW hS (lv_sub hl [3, 4, 5, 0] rfl)
            · have hw := itn c9 hw
              refine lv_iconst (v := (1 : Int32)) hx hb dL_drifted_65 (by decide) ?_
              exact hret _ _ _ _ (1 : Int32) h nb1 dL_drifted_66 hw hW hS
  unfold g_L_drifted at hw
  refine lv_iconst (v := (0 : Int32)) hx hb dL_drifted_0 (by decide) ?_
  refine lv_istore_n (lv' := [(3, .int (0 : Int32)), (0, .ref a1), (1, .ref a2), (2, .int a3)]) hx hb dL_drifted_1 rfl hl (by decide) rfl (fun ls hl => ?_)
  exact hL2 1024 (0 : Int32) h _ _ _ hw hW hS (lv_sub hl [1, 2, 3, 0] rfl)

def g_L_out_L12b (ct : Nat → ClassId) (a0 : Nat) (a1 : Nat) (a2 : Nat) (a3 : Int32) (Post : Unit → KH → Prop)  (k12 : Int32 → KH → Prop) (x3 : Int32) (h : KH) : Prop :=
  ldI h a2 (0 : Int32) (ct 0) (fun v3 => if ((14 : Int32) * v3) ≤ x3 then Post () h
  else ldI h a1 (x3 + (14 : Int32)) (ct 0) (fun v5 => stI h a1 x3 (ct 0) v5 (fun h6 => k12 (x3 + (1 : Int32)) h6)))
def g_L_out_L12 (ct : Nat → ClassId) (a0 : Nat) (a1 : Nat) (a2 : Nat) (a3 : Int32) (Post : Unit → KH → Prop)  : Nat → Int32 → KH → Prop
  | 0 => fun _ _ => False
  | n + 1 => g_L_out_L12b ct a0 a1 a2 a3 Post  (g_L_out_L12 ct a0 a1 a2 a3 Post  n)
def g_L_out (ct : Nat → ClassId) (a0 : Nat) (a1 : Nat) (a2 : Nat) (a3 : Int32) (h : KH) (Post : Unit → KH → Prop) : Prop :=
  ldI h a2 (0 : Int32) (ct 0) (fun v1 => stI h a2 (0 : Int32) (ct 0) (v1 - (1 : Int32)) (fun h2 => g_L_out_L12 ct a0 a1 a2 a3 Post  1024 ((14 : Int32) * a3) h2))
set_option maxRecDepth 100000 in
set_option maxHeartbeats 4000000 in
theorem cg_L_out (l : Launch) (D : va_G) (ct : Nat → ClassId) (a0 : Nat) (a1 : Nat) (a2 : Nat) (a3 : Int32) (h : KH) (Post : Unit → KH → Prop) (hw : g_L_out ct a0 a1 a2 a3 h Post) : CK l yL_out cL_out 4 0 0 0 none D ct a0 [.ref a1, .ref a2, .int a3] vV h Post := by
  refine CK.mkV (by decide) (Nat.le_of_ble_eq_true rfl) ?_
  intro p e s m below meth c Q A X hret hW hS ls hl
  obtain ⟨B, hin, hK, hN, hZ, hA⟩ := X
  have B0 := B
  obtain ⟨hx, hb, hml, hown, hts⟩ := B0
  have hl : lv_has ls 4 [(0, .ref a1), (1, .ref a2), (2, .int a3)] := hl
  have hL12 : ∀ (n12 : Nat), ∀ (x3 : Int32) (h : KH) (ls : Array Slot) (H : Heap) (locs : List Loc), g_L_out_L12 ct a0 a1 a2 a3 Post  n12 x3 h → KW D A h H → va_S A s.heap H locs → lv_has ls 4 [(0, .ref a1), (1, .ref a2), (3, .int x3)] → W p l e (rmF 0 0 0) s m ([.ref a1, .ref a2, .int a3] : List Value).toArray below meth c H locs 0 0 Q (F0 m 12 ls []) := by
    intro n12
    induction n12 with
    | zero =>
      intro x3 h ls H locs hw
      exact (show False from hw).elim
    | succ n12 ih12 =>
      intro x3 h ls H locs hw hW hS hl
      have hw : g_L_out_L12b ct a0 a1 a2 a3 Post  (g_L_out_L12 ct a0 a1 a2 a3 Post  n12) x3 h := hw
      unfold g_L_out_L12b at hw
      refine lv_iload_n hx hb dL_out_12 rfl (lv_at hl 2 rfl) ?_
      refine lv_bipush (v := (14 : Int32)) hx hb dL_out_13 (by decide) ?_
      refine lv_aload_n hx hb dL_out_15 rfl (lv_at hl 1 rfl) ?_
      refine lv_iconst (v := (0 : Int32)) hx hb dL_out_16 (by decide) ?_
      obtain ⟨n3, f3, v3, e3, g3, ev3, hw⟩ := hw
      refine kw_iald hx hb hK hW 0 e3 rfl g3 ev3 dL_out_17 ?_
      refine lv_imul hx hb dL_out_18 ?_
      refine lv_icmp_ge (tgt := 37) hx hb dL_out_19 (by decide) (fun c4 => ?_) (fun c4 => ?_)
      · have hw := itp c4 hw
        exact hret _ _ _ _ h dL_out_37 hw hW hS
      · have hw := itn c4 hw
        refine lv_aload_n hx hb dL_out_22 rfl (lv_at hl 0 rfl) ?_
        refine lv_iload_n hx hb dL_out_23 rfl (lv_at hl 2 rfl) ?_
        refine lv_aload_n hx hb dL_out_24 rfl (lv_at hl 0 rfl) ?_
        refine lv_iload_n hx hb dL_out_25 rfl (lv_at hl 2 rfl) ?_
        refine lv_bipush (v := (14 : Int32)) hx hb dL_out_26 (by decide) ?_
        refine lv_iadd hx hb dL_out_28 ?_
        obtain ⟨n5, f5, v5, e5, g5, ev5, hw⟩ := hw
        refine kw_iald hx hb hK hW 0 e5 rfl g5 ev5 dL_out_29 ?_
        obtain ⟨n6, f6, e6, g6, hw⟩ := hw
        refine kw_iast hx hb hK hW hS 0 e6 rfl g6 dL_out_30 (fun H locs h6 eh6 hW hS => ?_)
        have hw := hw h6 eh6
        refine lv_iinc (v := (x3 + (1 : Int32))) (lv' := [(3, .int (x3 + (1 : Int32))), (0, .ref a1), (1, .ref a2)]) hx hb dL_out_31 hl (k := 2) rfl (congrArg (HAdd.hAdd x3) (by decide)) (by decide) rfl (fun ls hl => ?_)
        refine lv_goto (tgt := 12) hx hb dL_out_34 (by decide) ?_
        exact ih12 (x3 + (1 : Int32)) h6 _ _ _ hw hW hS (lv_sub hl [1, 2, 0] rfl)
  unfold g_L_out at hw
  refine lv_aload_n hx hb dL_out_0 rfl (lv_at hl 1 rfl) ?_
  refine lv_iconst (v := (0 : Int32)) hx hb dL_out_1 (by decide) ?_
  refine lv_dup2_11 hx hb dL_out_2 rfl rfl ?_
  obtain ⟨n1, f1, v1, e1, g1, ev1, hw⟩ := hw
  refine kw_iald hx hb hK hW 0 e1 rfl g1 ev1 dL_out_3 ?_
  refine lv_iconst (v := (1 : Int32)) hx hb dL_out_4 (by decide) ?_
  refine lv_isub hx hb dL_out_5 ?_
  obtain ⟨n2, f2, e2, g2, hw⟩ := hw
  refine kw_iast hx hb hK hW hS 0 e2 rfl g2 dL_out_6 (fun H locs h2 eh2 hW hS => ?_)
  have hw := hw h2 eh2
  refine lv_bipush (v := (14 : Int32)) hx hb dL_out_7 (by decide) ?_
  refine lv_iload_n hx hb dL_out_9 rfl (lv_at hl 2 rfl) ?_
  refine lv_imul hx hb dL_out_10 ?_
  refine lv_istore_n (lv' := [(3, .int ((14 : Int32) * a3)), (0, .ref a1), (1, .ref a2), (2, .int a3)]) hx hb dL_out_11 rfl hl (by decide) rfl (fun ls hl => ?_)
  exact hL12 1024 ((14 : Int32) * a3) h2 _ _ _ hw hW hS (lv_sub hl [1, 2, 0] rfl)

def g_L_place_L2b (ct : Nat → ClassId) (a0 : Nat) (a1 : Nat) (a2 : Nat) (a3 : Int32) (Post : Int32 → KH → Prop)  (k2 : Int32 → KH → Prop) (x3 : Int32) (h : KH) : Prop :=
  ldI h a2 (0 : Int32) (ct 0) (fun v1 => if v1 ≤ x3 then Post (-1 : Int32) h
  else ldI h a1 ((14 : Int32) * x3) (ct 0) (fun v3 => if v3 = a3 then Post x3 h
  else k2 (x3 + (1 : Int32)) h))
def g_L_place_L2 (ct : Nat → ClassId) (a0 : Nat) (a1 : Nat) (a2 : Nat) (a3 : Int32) (Post : Int32 → KH → Prop)  : Nat → Int32 → KH → Prop
  | 0 => fun _ _ => False
  | n + 1 => g_L_place_L2b ct a0 a1 a2 a3 Post  (g_L_place_L2 ct a0 a1 a2 a3 Post  n)
def g_L_place (ct : Nat → ClassId) (a0 : Nat) (a1 : Nat) (a2 : Nat) (a3 : Int32) (h : KH) (Post : Int32 → KH → Prop) : Prop :=
  g_L_place_L2 ct a0 a1 a2 a3 Post  1024 (0 : Int32) h
set_option maxRecDepth 100000 in
set_option maxHeartbeats 4000000 in
theorem cg_L_place (l : Launch) (D : va_G) (ct : Nat → ClassId) (a0 : Nat) (a1 : Nat) (a2 : Nat) (a3 : Int32) (h : KH) (Post : Int32 → KH → Prop) (hw : g_L_place ct a0 a1 a2 a3 h Post) : CK l yL_place cL_place 4 0 0 0 (some .int) D ct a0 [.ref a1, .ref a2, .int a3] vI h Post := by
  refine CK.mkI (by decide) (Nat.le_of_ble_eq_true rfl) ?_
  intro p e s m below meth c Q A X hret hW hS ls hl
  obtain ⟨B, hin, hK, hN, hZ, hA⟩ := X
  have B0 := B
  obtain ⟨hx, hb, hml, hown, hts⟩ := B0
  have hl : lv_has ls 4 [(0, .ref a1), (1, .ref a2), (2, .int a3)] := hl
  have hL2 : ∀ (n2 : Nat), ∀ (x3 : Int32) (h : KH) (ls : Array Slot) (H : Heap) (locs : List Loc), g_L_place_L2 ct a0 a1 a2 a3 Post  n2 x3 h → KW D A h H → va_S A s.heap H locs → lv_has ls 4 [(0, .ref a1), (1, .ref a2), (2, .int a3), (3, .int x3)] → W p l e (rmF 0 0 0) s m ([.ref a1, .ref a2, .int a3] : List Value).toArray below meth c H locs 0 0 Q (F0 m 2 ls []) := by
    intro n2
    induction n2 with
    | zero =>
      intro x3 h ls H locs hw
      exact (show False from hw).elim
    | succ n2 ih2 =>
      intro x3 h ls H locs hw hW hS hl
      have hw : g_L_place_L2b ct a0 a1 a2 a3 Post  (g_L_place_L2 ct a0 a1 a2 a3 Post  n2) x3 h := hw
      unfold g_L_place_L2b at hw
      refine lv_iload_n hx hb dL_place_2 rfl (lv_at hl 3 rfl) ?_
      refine lv_aload_n hx hb dL_place_3 rfl (lv_at hl 1 rfl) ?_
      refine lv_iconst (v := (0 : Int32)) hx hb dL_place_4 (by decide) ?_
      obtain ⟨n1, f1, v1, e1, g1, ev1, hw⟩ := hw
      refine kw_iald hx hb hK hW 0 e1 rfl g1 ev1 dL_place_5 ?_
      refine lv_icmp_ge (tgt := 27) hx hb dL_place_6 (by decide) (fun c2 => ?_) (fun c2 => ?_)
      · have hw := itp c2 hw
        refine lv_iconst (v := (-1 : Int32)) hx hb dL_place_27 (by decide) ?_
        exact hret _ _ _ _ (-1 : Int32) h (vp_nar_int _) dL_place_28 hw hW hS
      · have hw := itn c2 hw
        refine lv_aload_n hx hb dL_place_9 rfl (lv_at hl 0 rfl) ?_
        refine lv_bipush (v := (14 : Int32)) hx hb dL_place_10 (by decide) ?_
        refine lv_iload_n hx hb dL_place_12 rfl (lv_at hl 3 rfl) ?_
        refine lv_imul hx hb dL_place_13 ?_
        obtain ⟨n3, f3, v3, e3, g3, ev3, hw⟩ := hw
        refine kw_iald hx hb hK hW 0 e3 rfl g3 ev3 dL_place_14 ?_
        refine lv_iload_n hx hb dL_place_15 rfl (lv_at hl 2 rfl) ?_
        refine lv_icmp_ne (tgt := 21) hx hb dL_place_16 (by decide) (fun c4 => ?_) (fun c4 => ?_)
        · have hw := itn c4 hw
          refine lv_iinc (v := (x3 + (1 : Int32))) (lv' := [(3, .int (x3 + (1 : Int32))), (0, .ref a1), (1, .ref a2), (2, .int a3)]) hx hb dL_place_21 hl (k := 3) rfl (congrArg (HAdd.hAdd x3) (by decide)) (by decide) rfl (fun ls hl => ?_)
          refine lv_goto (tgt := 2) hx hb dL_place_24 (by decide) ?_
          exact ih2 (x3 + (1 : Int32)) h _ _ _ hw hW hS (lv_sub hl [1, 2, 3, 0] rfl)
        · have hw := itp c4 hw
          refine lv_iload_n hx hb dL_place_19 rfl (lv_at hl 3 rfl) ?_
          exact hret _ _ _ _ x3 h (vp_nar_int _) dL_place_20 hw hW hS
  unfold g_L_place at hw
  refine lv_iconst (v := (0 : Int32)) hx hb dL_place_0 (by decide) ?_
  refine lv_istore_n (lv' := [(3, .int (0 : Int32)), (0, .ref a1), (1, .ref a2), (2, .int a3)]) hx hb dL_place_1 rfl hl (by decide) rfl (fun ls hl => ?_)
  exact hL2 1024 (0 : Int32) h _ _ _ hw hW hS (lv_sub hl [1, 2, 3, 0] rfl)

def g_L_thrown_L9b (ct : Nat → ClassId) (a0 : Nat) (a1 : Nat) (a2 : Nat) (a3 : Nat) (Post : Int32 → KH → Prop)  (k9 : Int32 → Int32 → KH → Prop) (x3 : Int32) (x4 : Int32) (h : KH) : Prop :=
  if x4 < (0 : Int32) then ldI h a3 (3 : Int32) (ct 0) (fun v3 => stI h a3 (3 : Int32) (ct 0) (v3 + x3) (fun h4 => Post x3 h4))
  else ldI h a2 (((14 : Int32) * x4) + (12 : Int32)) (ct 0) (fun v5 => if v5 = (0 : Int32) then g_L_drifted ct a0 a1 a2 ((14 : Int32) * x4) h (fun v7 h7 => if v7 = (0 : Int32) then k9 x3 (x4 + (-1 : Int32)) h7
  else g_L_out ct a0 a2 a3 x4 h7 (fun _ h9 => k9 (x3 + (1 : Int32)) (x4 + (-1 : Int32)) h9))
  else k9 x3 (x4 + (-1 : Int32)) h)
def g_L_thrown_L9 (ct : Nat → ClassId) (a0 : Nat) (a1 : Nat) (a2 : Nat) (a3 : Nat) (Post : Int32 → KH → Prop)  : Nat → Int32 → Int32 → KH → Prop
  | 0 => fun _ _ _ => False
  | n + 1 => g_L_thrown_L9b ct a0 a1 a2 a3 Post  (g_L_thrown_L9 ct a0 a1 a2 a3 Post  n)
def g_L_thrown (ct : Nat → ClassId) (a0 : Nat) (a1 : Nat) (a2 : Nat) (a3 : Nat) (h : KH) (Post : Int32 → KH → Prop) : Prop :=
  ldI h a3 (0 : Int32) (ct 0) (fun v1 => g_L_thrown_L9 ct a0 a1 a2 a3 Post  1024 (0 : Int32) (v1 - (1 : Int32)) h)
set_option maxRecDepth 100000 in
set_option maxHeartbeats 4000000 in
theorem cg_L_thrown (l : Launch) (D : va_G) (ct : Nat → ClassId) (a0 : Nat) (a1 : Nat) (a2 : Nat) (a3 : Nat) (h : KH) (Post : Int32 → KH → Prop) (hw : g_L_thrown ct a0 a1 a2 a3 h Post) : CK l yL_thrown cL_thrown 5 1 0 0 (some .int) D ct a0 [.ref a1, .ref a2, .ref a3] vI h Post := by
  refine CK.mkI (by decide) (Nat.le_of_ble_eq_true rfl) ?_
  intro p e s m below meth c Q A X hret hW hS ls hl
  obtain ⟨B, hin, hK, hN, hZ, hA⟩ := X
  have B0 := B
  obtain ⟨hx, hb, hml, hown, hts⟩ := B0
  have hl : lv_has ls 5 [(0, .ref a1), (1, .ref a2), (2, .ref a3)] := hl
  have hL9 : ∀ (n9 : Nat), ∀ (x3 : Int32) (x4 : Int32) (h : KH) (ls : Array Slot) (H : Heap) (locs : List Loc), g_L_thrown_L9 ct a0 a1 a2 a3 Post  n9 x3 x4 h → KW D A h H → va_S A s.heap H locs → lv_has ls 5 [(0, .ref a1), (1, .ref a2), (2, .ref a3), (3, .int x3), (4, .int x4)] → W p l e (rmF 1 0 0) s m ([.ref a1, .ref a2, .ref a3] : List Value).toArray below meth c H locs 0 0 Q (F0 m 9 ls []) := by
    intro n9
    induction n9 with
    | zero =>
      intro x3 x4 h ls H locs hw
      exact (show False from hw).elim
    | succ n9 ih9 =>
      intro x3 x4 h ls H locs hw hW hS hl
      have hw : g_L_thrown_L9b ct a0 a1 a2 a3 Post  (g_L_thrown_L9 ct a0 a1 a2 a3 Post  n9) x3 x4 h := hw
      unfold g_L_thrown_L9b at hw
      refine lv_iload hx hb dL_thrown_9 (lv_at hl 4 rfl) ?_
      refine lv_if_lt (tgt := 56) hx hb dL_thrown_11 (by decide) (fun c2 => ?_) (fun c2 => ?_)
      · have hw := itp c2 hw
        refine lv_aload_n hx hb dL_thrown_56 rfl (lv_at hl 2 rfl) ?_
        refine lv_iconst (v := (3 : Int32)) hx hb dL_thrown_57 (by decide) ?_
        refine lv_dup2_11 hx hb dL_thrown_58 rfl rfl ?_
        obtain ⟨n3, f3, v3, e3, g3, ev3, hw⟩ := hw
        refine kw_iald hx hb hK hW 0 e3 rfl g3 ev3 dL_thrown_59 ?_
        refine lv_iload_n hx hb dL_thrown_60 rfl (lv_at hl 3 rfl) ?_
        refine lv_iadd hx hb dL_thrown_61 ?_
        obtain ⟨n4, f4, e4, g4, hw⟩ := hw
        refine kw_iast hx hb hK hW hS 0 e4 rfl g4 dL_thrown_62 (fun H locs h4 eh4 hW hS => ?_)
        have hw := hw h4 eh4
        refine lv_iload_n hx hb dL_thrown_63 rfl (lv_at hl 3 rfl) ?_
        exact hret _ _ _ _ x3 h4 (vp_nar_int _) dL_thrown_64 hw hW hS
      · have hw := itn c2 hw
        refine lv_aload_n hx hb dL_thrown_14 rfl (lv_at hl 1 rfl) ?_
        refine lv_bipush (v := (14 : Int32)) hx hb dL_thrown_15 (by decide) ?_
        refine lv_iload hx hb dL_thrown_17 (lv_at hl 4 rfl) ?_
        refine lv_imul hx hb dL_thrown_19 ?_
        refine lv_bipush (v := (12 : Int32)) hx hb dL_thrown_20 (by decide) ?_
        refine lv_iadd hx hb dL_thrown_22 ?_
        obtain ⟨n5, f5, v5, e5, g5, ev5, hw⟩ := hw
        refine kw_iald hx hb hK hW 0 e5 rfl g5 ev5 dL_thrown_23 ?_
        refine lv_if_ne (tgt := 50) hx hb dL_thrown_24 (by decide) (fun c6 => ?_) (fun c6 => ?_)
        · have hw := itn c6 hw
          refine lv_iinc (v := (x4 + (-1 : Int32))) (lv' := [(4, .int (x4 + (-1 : Int32))), (0, .ref a1), (1, .ref a2), (2, .ref a3), (3, .int x3)]) hx hb dL_thrown_50 hl (k := 4) rfl (congrArg (HAdd.hAdd x4) (by decide)) (by decide) rfl (fun ls hl => ?_)
          refine lv_goto (tgt := 9) hx hb dL_thrown_53 (by decide) ?_
          exact ih9 x3 (x4 + (-1 : Int32)) h _ _ _ hw hW hS (lv_sub hl [1, 2, 3, 4, 0] rfl)
        · have hw := itp c6 hw
          refine lv_aload_n hx hb dL_thrown_27 rfl (lv_at hl 0 rfl) ?_
          refine lv_aload_n hx hb dL_thrown_28 rfl (lv_at hl 1 rfl) ?_
          refine lv_bipush (v := (14 : Int32)) hx hb dL_thrown_29 (by decide) ?_
          refine lv_iload hx hb dL_thrown_31 (lv_at hl 4 rfl) ?_
          refine lv_imul hx hb dL_thrown_33 ?_
          refine ks_call (As := [.ref a1, .ref a2, .int ((14 : Int32) * x4)]) (rest := []) (cg_L_drifted l D ct a0 a1 a2 ((14 : Int32) * x4) h _ hw) B hK hN hZ hA hW hS k_L_drifted q_10_1 rfl ⟨Nat.le_of_ble_eq_true rfl, Nat.le_of_ble_eq_true rfl⟩ ⟨Nat.le_of_ble_eq_true rfl, Nat.le_of_ble_eq_true rfl⟩ hl.1 rfl (Nat.le_of_ble_eq_true rfl) dL_thrown_34 (fun v7 h7 H locs hw hW hS => ?_)
          refine lv_if_eq (tgt := 50) hx hb dL_thrown_37 (by decide) (fun c8 => ?_) (fun c8 => ?_)
          · have hw := itp c8 hw
            refine lv_iinc (v := (x4 + (-1 : Int32))) (lv' := [(4, .int (x4 + (-1 : Int32))), (0, .ref a1), (1, .ref a2), (2, .ref a3), (3, .int x3)]) hx hb dL_thrown_50 hl (k := 4) rfl (congrArg (HAdd.hAdd x4) (by decide)) (by decide) rfl (fun ls hl => ?_)
            refine lv_goto (tgt := 9) hx hb dL_thrown_53 (by decide) ?_
            refine W.widen (k := 0) (n := 0) (by omega) (by omega) ?_
            exact ih9 x3 (x4 + (-1 : Int32)) h7 _ _ _ hw hW hS (lv_sub hl [1, 2, 3, 4, 0] rfl)
          · have hw := itn c8 hw
            refine lv_aload_n hx hb dL_thrown_40 rfl (lv_at hl 1 rfl) ?_
            refine lv_aload_n hx hb dL_thrown_41 rfl (lv_at hl 2 rfl) ?_
            refine lv_iload hx hb dL_thrown_42 (lv_at hl 4 rfl) ?_
            refine ks_call (As := [.ref a2, .ref a3, .int x4]) (rest := []) (cg_L_out l D ct a0 a2 a3 x4 h7 _ hw) B hK hN hZ hA hW hS k_L_out q_9_19 rfl ⟨Nat.le_of_ble_eq_true rfl, Nat.le_of_ble_eq_true rfl⟩ ⟨Nat.le_of_ble_eq_true rfl, Nat.le_of_ble_eq_true rfl⟩ hl.1 rfl (Nat.le_of_ble_eq_true rfl) dL_thrown_44 (fun v9 h9 H locs hw hW hS => ?_)
            refine lv_iinc (v := (x3 + (1 : Int32))) (lv' := [(3, .int (x3 + (1 : Int32))), (0, .ref a1), (1, .ref a2), (2, .ref a3), (4, .int x4)]) hx hb dL_thrown_47 hl (k := 3) rfl (congrArg (HAdd.hAdd x3) (by decide)) (by decide) rfl (fun ls hl => ?_)
            refine lv_iinc (v := (x4 + (-1 : Int32))) (lv' := [(4, .int (x4 + (-1 : Int32))), (3, .int (x3 + (1 : Int32))), (0, .ref a1), (1, .ref a2), (2, .ref a3)]) hx hb dL_thrown_50 hl (k := 4) rfl (congrArg (HAdd.hAdd x4) (by decide)) (by decide) rfl (fun ls hl => ?_)
            refine lv_goto (tgt := 9) hx hb dL_thrown_53 (by decide) ?_
            refine W.widen (k := 0) (n := 0) (by omega) (by omega) ?_
            exact ih9 (x3 + (1 : Int32)) (x4 + (-1 : Int32)) h9 _ _ _ hw hW hS (lv_sub hl [2, 3, 4, 1, 0] rfl)
  unfold g_L_thrown at hw
  refine lv_iconst (v := (0 : Int32)) hx hb dL_thrown_0 (by decide) ?_
  refine lv_istore_n (lv' := [(3, .int (0 : Int32)), (0, .ref a1), (1, .ref a2), (2, .ref a3)]) hx hb dL_thrown_1 rfl hl (by decide) rfl (fun ls hl => ?_)
  refine lv_aload_n hx hb dL_thrown_2 rfl (lv_at hl 3 rfl) ?_
  refine lv_iconst (v := (0 : Int32)) hx hb dL_thrown_3 (by decide) ?_
  obtain ⟨n1, f1, v1, e1, g1, ev1, hw⟩ := hw
  refine kw_iald hx hb hK hW 0 e1 rfl g1 ev1 dL_thrown_4 ?_
  refine lv_iconst (v := (1 : Int32)) hx hb dL_thrown_5 (by decide) ?_
  refine lv_isub hx hb dL_thrown_6 ?_
  refine lv_istore (lv' := [(4, .int (v1 - (1 : Int32))), (3, .int (0 : Int32)), (0, .ref a1), (1, .ref a2), (2, .ref a3)]) hx hb dL_thrown_7 hl (by decide) rfl (fun ls hl => ?_)
  exact hL9 1024 (0 : Int32) (v1 - (1 : Int32)) h _ _ _ hw hW hS (lv_sub hl [2, 3, 4, 1, 0] rfl)

def g_L_tables_L4b (ct : Nat → ClassId) (a0 : Nat) (a1 : Int32) (Post : Int32 → KH → Prop)  (k4 : Int32 → Int32 → KH → Prop) (x1 : Int32) (x2 : Int32) (h : KH) : Prop :=
  if (5 : Int32) ≤ x2 then Post x1 h
  else k4 (x1 + ((a1 >>> (x2 &&& 31)) &&& (1 : Int32))) (x2 + (1 : Int32)) h
def g_L_tables_L4 (ct : Nat → ClassId) (a0 : Nat) (a1 : Int32) (Post : Int32 → KH → Prop)  : Nat → Int32 → Int32 → KH → Prop
  | 0 => fun _ _ _ => False
  | n + 1 => g_L_tables_L4b ct a0 a1 Post  (g_L_tables_L4 ct a0 a1 Post  n)
def g_L_tables (ct : Nat → ClassId) (a0 : Nat) (a1 : Int32) (h : KH) (Post : Int32 → KH → Prop) : Prop :=
  g_L_tables_L4 ct a0 a1 Post  1024 (0 : Int32) (0 : Int32) h
set_option maxRecDepth 100000 in
set_option maxHeartbeats 4000000 in
theorem cg_L_tables (l : Launch) (D : va_G) (ct : Nat → ClassId) (a0 : Nat) (a1 : Int32) (h : KH) (Post : Int32 → KH → Prop) (hw : g_L_tables ct a0 a1 h Post) : CK l yL_tables cL_tables 3 0 0 0 (some .int) D ct a0 [.int a1] vI h Post := by
  refine CK.mkI (by decide) (Nat.le_of_ble_eq_true rfl) ?_
  intro p e s m below meth c Q A X hret hW hS ls hl
  obtain ⟨B, hin, hK, hN, hZ, hA⟩ := X
  have B0 := B
  obtain ⟨hx, hb, hml, hown, hts⟩ := B0
  have hl : lv_has ls 3 [(0, .int a1)] := hl
  have hL4 : ∀ (n4 : Nat), ∀ (x1 : Int32) (x2 : Int32) (h : KH) (ls : Array Slot) (H : Heap) (locs : List Loc), g_L_tables_L4 ct a0 a1 Post  n4 x1 x2 h → KW D A h H → va_S A s.heap H locs → lv_has ls 3 [(0, .int a1), (1, .int x1), (2, .int x2)] → W p l e (rmF 0 0 0) s m ([.int a1] : List Value).toArray below meth c H locs 0 0 Q (F0 m 4 ls []) := by
    intro n4
    induction n4 with
    | zero =>
      intro x1 x2 h ls H locs hw
      exact (show False from hw).elim
    | succ n4 ih4 =>
      intro x1 x2 h ls H locs hw hW hS hl
      have hw : g_L_tables_L4b ct a0 a1 Post  (g_L_tables_L4 ct a0 a1 Post  n4) x1 x2 h := hw
      unfold g_L_tables_L4b at hw
      refine lv_iload_n hx hb dL_tables_4 rfl (lv_at hl 2 rfl) ?_
      refine lv_iconst (v := (5 : Int32)) hx hb dL_tables_5 (by decide) ?_
      refine lv_icmp_ge (tgt := 23) hx hb dL_tables_6 (by decide) (fun c1 => ?_) (fun c1 => ?_)
      · have hw := itp c1 hw
        refine lv_iload_n hx hb dL_tables_23 rfl (lv_at hl 1 rfl) ?_
        exact hret _ _ _ _ x1 h (vp_nar_int _) dL_tables_24 hw hW hS
      · have hw := itn c1 hw
        refine lv_iload_n hx hb dL_tables_9 rfl (lv_at hl 1 rfl) ?_
        refine lv_iload_n hx hb dL_tables_10 rfl (lv_at hl 0 rfl) ?_
        refine lv_iload_n hx hb dL_tables_11 rfl (lv_at hl 2 rfl) ?_
        refine lv_ishr hx hb dL_tables_12 ?_
        refine lv_iconst (v := (1 : Int32)) hx hb dL_tables_13 (by decide) ?_
        refine lv_iand hx hb dL_tables_14 ?_
        refine lv_iadd hx hb dL_tables_15 ?_
        refine lv_istore_n (lv' := [(1, .int (x1 + ((a1 >>> (x2 &&& 31)) &&& (1 : Int32)))), (0, .int a1), (2, .int x2)]) hx hb dL_tables_16 rfl hl (by decide) rfl (fun ls hl => ?_)
        refine lv_iinc (v := (x2 + (1 : Int32))) (lv' := [(2, .int (x2 + (1 : Int32))), (1, .int (x1 + ((a1 >>> (x2 &&& 31)) &&& (1 : Int32)))), (0, .int a1)]) hx hb dL_tables_17 hl (k := 2) rfl (congrArg (HAdd.hAdd x2) (by decide)) (by decide) rfl (fun ls hl => ?_)
        refine lv_goto (tgt := 4) hx hb dL_tables_20 (by decide) ?_
        exact ih4 (x1 + ((a1 >>> (x2 &&& 31)) &&& (1 : Int32))) (x2 + (1 : Int32)) h _ _ _ hw hW hS (lv_sub hl [2, 1, 0] rfl)
  unfold g_L_tables at hw
  refine lv_iconst (v := (0 : Int32)) hx hb dL_tables_0 (by decide) ?_
  refine lv_istore_n (lv' := [(1, .int (0 : Int32)), (0, .int a1)]) hx hb dL_tables_1 rfl hl (by decide) rfl (fun ls hl => ?_)
  refine lv_iconst (v := (0 : Int32)) hx hb dL_tables_2 (by decide) ?_
  refine lv_istore_n (lv' := [(2, .int (0 : Int32)), (1, .int (0 : Int32)), (0, .int a1)]) hx hb dL_tables_3 rfl hl (by decide) rfl (fun ls hl => ?_)
  exact hL4 1024 (0 : Int32) (0 : Int32) h _ _ _ hw hW hS (lv_sub hl [2, 1, 0] rfl)

def g_L_cut (ct : Nat → ClassId) (a0 : Nat) (a1 : Int64) (h : KH) (Post : Int32 → KH → Prop) : Prop :=
  if (lg_cmp a1 (1000000000 : Int64)) ≤ (0 : Int32) then Post a1.toInt32 h
  else Post ((1000000000 : Int64).toInt32) h
set_option maxRecDepth 100000 in
set_option maxHeartbeats 4000000 in
theorem cg_L_cut (l : Launch) (D : va_G) (ct : Nat → ClassId) (a0 : Nat) (a1 : Int64) (h : KH) (Post : Int32 → KH → Prop) (hw : g_L_cut ct a0 a1 h Post) : CK l yL_cut cL_cut 2 0 0 0 (some .int) D ct a0 [.long a1] vI h Post := by
  refine CK.mkI (by decide) (Nat.le_of_ble_eq_true rfl) ?_
  intro p e s m below meth c Q A X hret hW hS ls hl
  obtain ⟨B, hin, hK, hN, hZ, hA⟩ := X
  have B0 := B
  obtain ⟨hx, hb, hml, hown, hts⟩ := B0
  have hl : lv_has ls 2 [(0, .long a1)] := hl
  unfold g_L_cut at hw
  refine lv_lload_n hx hb dL_cut_0 rfl (lv_at hl 0 rfl) ?_
  refine lv_ldc2 (v := (1000000000 : Int64)) hx hb hown (hts _ q_16_16) dL_cut_1 ?_
  refine W.lcmp hx hb dL_cut_4 ?_
  refine lv_if_le (tgt := 14) hx hb dL_cut_5 (by decide) (fun c1 => ?_) (fun c1 => ?_)
  · have hw := itp c1 hw
    refine lv_lload_n hx hb dL_cut_14 rfl (lv_at hl 0 rfl) ?_
    refine lv_l2i hx hb dL_cut_15 rfl ?_
    exact hret _ _ _ _ a1.toInt32 h (vp_nar_int _) dL_cut_16 hw hW hS
  · have hw := itn c1 hw
    refine lv_ldc2 (v := (1000000000 : Int64)) hx hb hown (hts _ q_16_16) dL_cut_8 ?_
    refine lv_goto (tgt := 15) hx hb dL_cut_11 (by decide) ?_
    refine lv_l2i hx hb dL_cut_15 rfl ?_
    exact hret _ _ _ _ ((1000000000 : Int64).toInt32) h (vp_nar_int _) dL_cut_16 hw hW hS

def g_L_run_L299b (ct : Nat → ClassId) (a0 : Nat) (a1 : Nat) (a2 : Nat) (a3 : Nat) (a4 : Nat) (a5 : Nat) (a6 : Int32) (Post : Int64 → KH → Prop)  (k299 : Int64 → Int64 → Int32 → KH → Prop) (x8 : Int64) (x10 : Int64) (x12 : Int32) (h : KH) : Prop :=
  if (5 : Int32) ≤ x12 then g_L_thrown ct a0 a1 a2 a3 h (fun v23 h23 => if (0 : Int32) ≤ v23 then Post ((x10 + x8) + (0 : Int64)) h23
  else Post ((x10 + x8) + (1 : Int64)) h23)
  else if ((a6 >>> (x12 &&& 31)) &&& (1 : Int32)) = (1 : Int32) then ldI h a1 x12 (ct 0) (fun v28 => stI h a1 ((5 : Int32) + x12) (ct 0) v28 (fun h29 => k299 x8 x10 (x12 + (1 : Int32)) h29))
  else ldI h a1 ((5 : Int32) + x12) (ct 0) (fun v26 => stI h a1 ((5 : Int32) + x12) (ct 0) v26 (fun h27 => k299 x8 x10 (x12 + (1 : Int32)) h27))
def g_L_run_L299 (ct : Nat → ClassId) (a0 : Nat) (a1 : Nat) (a2 : Nat) (a3 : Nat) (a4 : Nat) (a5 : Nat) (a6 : Int32) (Post : Int64 → KH → Prop)  : Nat → Int64 → Int64 → Int32 → KH → Prop
  | 0 => fun _ _ _ _ => False
  | n + 1 => g_L_run_L299b ct a0 a1 a2 a3 a4 a5 a6 Post  (g_L_run_L299 ct a0 a1 a2 a3 a4 a5 a6 Post  n)
def g_L_run_J280 (ct : Nat → ClassId) (a0 : Nat) (a1 : Nat) (a2 : Nat) (a3 : Nat) (a4 : Nat) (a5 : Nat) (a6 : Int32) (Post : Int64 → KH → Prop)  (x8 : Int64) (x10 : Int64) (h : KH) : Prop :=
  ldL h a4 (0 : Int32) (ct 1) (fun v18 => stL h a4 (0 : Int32) (ct 1) (v18 + x10) (fun h19 => ldL h19 a4 (1 : Int32) (ct 1) (fun v20 => stL h19 a4 (1 : Int32) (ct 1) (v20 + x8) (fun h21 => g_L_run_L299 ct a0 a1 a2 a3 a4 a5 a6 Post  1024 x8 x10 (0 : Int32) h21))))
def g_L_run_L233b (ct : Nat → ClassId) (a0 : Nat) (a1 : Nat) (a2 : Nat) (a3 : Nat) (a4 : Nat) (a5 : Nat) (a6 : Int32) (Post : Int64 → KH → Prop)  (k233 : Nat → Int64 → Int64 → Int32 → KH → Prop) (x7 : Nat) (x8 : Int64) (x10 : Int64) (x12 : Int32) (h : KH) : Prop :=
  if (14 : Int32) ≤ x12 then ldI h a3 (0 : Int32) (ct 0) (fun v31 => stI h a3 (0 : Int32) (ct 0) (v31 + (1 : Int32)) (fun h32 => g_L_run_J280 ct a0 a1 a2 a3 a4 a5 a6 Post  x8 x10 h32))
  else ldI h a3 (0 : Int32) (ct 0) (fun v33 => ldI h x7 x12 (ct 0) (fun v34 => stI h a2 (((14 : Int32) * v33) + x12) (ct 0) v34 (fun h35 => k233 x7 x8 x10 (x12 + (1 : Int32)) h35)))
def g_L_run_L233 (ct : Nat → ClassId) (a0 : Nat) (a1 : Nat) (a2 : Nat) (a3 : Nat) (a4 : Nat) (a5 : Nat) (a6 : Int32) (Post : Int64 → KH → Prop)  : Nat → Nat → Int64 → Int64 → Int32 → KH → Prop
  | 0 => fun _ _ _ _ _ => False
  | n + 1 => g_L_run_L233b ct a0 a1 a2 a3 a4 a5 a6 Post  (g_L_run_L233 ct a0 a1 a2 a3 a4 a5 a6 Post  n)
def g_L_run_J213 (ct : Nat → ClassId) (a0 : Nat) (a1 : Nat) (a2 : Nat) (a3 : Nat) (a4 : Nat) (a5 : Nat) (a6 : Int32) (Post : Int64 → KH → Prop)  (x7 : Nat) (x8 : Int64) (h : KH) : Prop :=
  g_L_cost ct a0 a1 x7 (0 : Int32) (0 : Int32) h (fun v13 h13 => ldI h13 a3 (0 : Int32) (ct 0) (fun v14 => if (4 : Int32) ≤ v14 then ldI h13 a3 (7 : Int32) (ct 0) (fun v16 => stI h13 a3 (7 : Int32) (ct 0) (v16 + (1 : Int32)) (fun h17 => g_L_run_J280 ct a0 a1 a2 a3 a4 a5 a6 Post  x8 v13 h17))
  else g_L_run_L233 ct a0 a1 a2 a3 a4 a5 a6 Post  1024 x7 x8 v13 (0 : Int32) h13))
def g_L_run_L165b (ct : Nat → ClassId) (a0 : Nat) (a1 : Nat) (a2 : Nat) (a3 : Nat) (a4 : Nat) (a5 : Nat) (a6 : Int32) (Post : Int64 → KH → Prop)  (k165 : Nat → Int64 → Int32 → KH → Prop) (x7 : Nat) (x8 : Int64) (x10 : Int32) (h : KH) : Prop :=
  ldI h a3 (0 : Int32) (ct 0) (fun v11 => if v11 ≤ x10 then g_L_run_J213 ct a0 a1 a2 a3 a4 a5 a6 Post  x7 x8 h
  else ldI h a3 (0 : Int32) (ct 0) (fun v36 => if v36 = (4 : Int32) then ldI h a2 (((14 : Int32) * x10) + (12 : Int32)) (ct 0) (fun v38 => if v38 = (0 : Int32) then g_L_out ct a0 a2 a3 x10 h (fun _ h40 => ldI h40 a3 (4 : Int32) (ct 0) (fun v41 => stI h40 a3 (4 : Int32) (ct 0) (v41 + (1 : Int32)) (fun h42 => k165 x7 x8 (x10 + (1 : Int32)) h42)))
  else k165 x7 x8 (x10 + (1 : Int32)) h)
  else g_L_run_J213 ct a0 a1 a2 a3 a4 a5 a6 Post  x7 x8 h))
def g_L_run_L165 (ct : Nat → ClassId) (a0 : Nat) (a1 : Nat) (a2 : Nat) (a3 : Nat) (a4 : Nat) (a5 : Nat) (a6 : Int32) (Post : Int64 → KH → Prop)  : Nat → Nat → Int64 → Int32 → KH → Prop
  | 0 => fun _ _ _ _ => False
  | n + 1 => g_L_run_L165b ct a0 a1 a2 a3 a4 a5 a6 Post  (g_L_run_L165 ct a0 a1 a2 a3 a4 a5 a6 Post  n)
def g_L_run_L94b (ct : Nat → ClassId) (a0 : Nat) (a1 : Nat) (a2 : Nat) (a3 : Nat) (a4 : Nat) (a5 : Nat) (a6 : Int32) (Post : Int64 → KH → Prop)  (k94 : Nat → Int32 → KH → Prop) (x7 : Nat) (x10 : Int32) (h : KH) : Prop :=
  if x10 < (0 : Int32) then stI h x7 (0 : Int32) (ct 0) a6 (fun h6 => stI h6 x7 (11 : Int32) (ct 0) (1 : Int32) (fun h7 => g_L_tables ct a0 a6 h7 (fun v8 h8 => ldI h8 a3 (2 : Int32) (ct 0) (fun v9 => stI h8 a3 (2 : Int32) (ct 0) (v9 + (1 : Int32)) (fun h10 => g_L_run_L165 ct a0 a1 a2 a3 a4 a5 a6 Post  1024 x7 ((10 : Int64) * v8.toInt64) (0 : Int32) h10)))))
  else ldI h x7 x10 (ct 0) (fun v43 => stI h x7 ((1 : Int32) + x10) (ct 0) v43 (fun h44 => ldI h44 a1 ((5 : Int32) + x10) (ct 0) (fun v45 => stI h44 x7 ((6 : Int32) + x10) (ct 0) v45 (fun h46 => k94 x7 (x10 + (-1 : Int32)) h46))))
def g_L_run_L94 (ct : Nat → ClassId) (a0 : Nat) (a1 : Nat) (a2 : Nat) (a3 : Nat) (a4 : Nat) (a5 : Nat) (a6 : Int32) (Post : Int64 → KH → Prop)  : Nat → Nat → Int32 → KH → Prop
  | 0 => fun _ _ _ => False
  | n + 1 => g_L_run_L94b ct a0 a1 a2 a3 a4 a5 a6 Post  (g_L_run_L94 ct a0 a1 a2 a3 a4 a5 a6 Post  n)
def g_L_run_L26b (ct : Nat → ClassId) (a0 : Nat) (a1 : Nat) (a2 : Nat) (a3 : Nat) (a4 : Nat) (a5 : Nat) (a6 : Int32) (Post : Int64 → KH → Prop)  (k26 : Int32 → Nat → Int64 → Int32 → KH → Prop) (x6 : Int32) (x7 : Nat) (x8 : Int64) (x10 : Int32) (h : KH) : Prop :=
  if (14 : Int32) ≤ x10 then ldI h x7 (11 : Int32) (ct 0) (fun v48 => stI h x7 (11 : Int32) (ct 0) (v48 + (1 : Int32)) (fun h49 => g_L_out ct a0 a2 a3 x6 h49 (fun _ h50 => ldI h50 a3 (1 : Int32) (ct 0) (fun v51 => stI h50 a3 (1 : Int32) (ct 0) (v51 + (1 : Int32)) (fun h52 => g_L_run_J213 ct a0 a1 a2 a3 a4 a5 a6 Post  x7 x8 h52)))))
  else ldI h a2 (((14 : Int32) * x6) + x10) (ct 0) (fun v53 => stI h x7 x10 (ct 0) v53 (fun h54 => k26 x6 x7 x8 (x10 + (1 : Int32)) h54))
def g_L_run_L26 (ct : Nat → ClassId) (a0 : Nat) (a1 : Nat) (a2 : Nat) (a3 : Nat) (a4 : Nat) (a5 : Nat) (a6 : Int32) (Post : Int64 → KH → Prop)  : Nat → Int32 → Nat → Int64 → Int32 → KH → Prop
  | 0 => fun _ _ _ _ _ => False
  | n + 1 => g_L_run_L26b ct a0 a1 a2 a3 a4 a5 a6 Post  (g_L_run_L26 ct a0 a1 a2 a3 a4 a5 a6 Post  n)
def g_L_run (ct : Nat → ClassId) (a0 : Nat) (a1 : Nat) (a2 : Nat) (a3 : Nat) (a4 : Nat) (a5 : Nat) (a6 : Int32) (h : KH) (Post : Int64 → KH → Prop) : Prop :=
  g_L_place ct a0 a2 a3 a6 h (fun v1 h1 => nwC h1 (.inl (ct 0, 14, .inl (fun _ => 0))) (fun q2 h2 => if v1 < (0 : Int32) then g_L_best ct a0 a1 a6 (5 : Int32) a5 q2 h2 (fun _ h4 => g_L_run_L94 ct a0 a1 a2 a3 a4 a5 a6 Post  1024 q2 (4 : Int32) h4)
  else g_L_run_L26 ct a0 a1 a2 a3 a4 a5 a6 Post  1024 v1 q2 (0 : Int64) (0 : Int32) h2))
set_option maxRecDepth 100000 in
set_option maxHeartbeats 4000000 in
theorem cg_L_run (l : Launch) (D : va_G) (ct : Nat → ClassId) (a0 : Nat) (a1 : Nat) (a2 : Nat) (a3 : Nat) (a4 : Nat) (a5 : Nat) (a6 : Int32) (h : KH) (Post : Int64 → KH → Prop) (hw : g_L_run ct a0 a1 a2 a3 a4 a5 a6 h Post) : CK l yL_run cL_run 13 3 1 14 (some .long) D ct a0 [.ref a1, .ref a2, .ref a3, .ref a4, .ref a5, .int a6] vL h Post := by
  refine CK.mkL (by decide) (Nat.le_of_ble_eq_true rfl) ?_
  intro p e s m below meth c Q A X hret hW hS ls hl
  obtain ⟨B, hin, hK, hN, hZ, hA⟩ := X
  have B0 := B
  obtain ⟨hx, hb, hml, hown, hts⟩ := B0
  have hl : lv_has ls 13 [(0, .ref a1), (1, .ref a2), (2, .ref a3), (3, .ref a4), (4, .ref a5), (5, .int a6)] := hl
  have hL299 : ∀ (n299 : Nat), ∀ (x8 : Int64) (x10 : Int64) (x12 : Int32) (h : KH) (ls : Array Slot) (H : Heap) (locs : List Loc), g_L_run_L299 ct a0 a1 a2 a3 a4 a5 a6 Post  n299 x8 x10 x12 h → KW D A h H → va_S A s.heap H locs → lv_has ls 13 [(0, .ref a1), (1, .ref a2), (2, .ref a3), (5, .int a6), (8, .long x8), (10, .long x10), (12, .int x12)] → W p l e (rmF 3 1 14) s m ([.ref a1, .ref a2, .ref a3, .ref a4, .ref a5, .int a6] : List Value).toArray below meth c H locs 1 14 Q (F0 m 299 ls []) := by
    intro n299
    induction n299 with
    | zero =>
      intro x8 x10 x12 h ls H locs hw
      exact (show False from hw).elim
    | succ n299 ih299 =>
      intro x8 x10 x12 h ls H locs hw hW hS hl
      have hw : g_L_run_L299b ct a0 a1 a2 a3 a4 a5 a6 Post  (g_L_run_L299 ct a0 a1 a2 a3 a4 a5 a6 Post  n299) x8 x10 x12 h := hw
      unfold g_L_run_L299b at hw
      refine lv_iload hx hb dL_run_299 (lv_at hl 6 rfl) ?_
      refine lv_iconst (v := (5 : Int32)) hx hb dL_run_301 (by decide) ?_
      refine lv_icmp_ge (tgt := 341) hx hb dL_run_302 (by decide) (fun c22 => ?_) (fun c22 => ?_)
      · have hw := itp c22 hw
        refine lv_aload_n hx hb dL_run_341 rfl (lv_at hl 0 rfl) ?_
        refine lv_aload_n hx hb dL_run_342 rfl (lv_at hl 1 rfl) ?_
        refine lv_aload_n hx hb dL_run_343 rfl (lv_at hl 2 rfl) ?_
        refine ks_call (As := [.ref a1, .ref a2, .ref a3]) (rest := []) (cg_L_thrown l D ct a0 a1 a2 a3 h _ hw) B hK hN hZ hA hW hS k_L_thrown q_9_22 rfl ⟨Nat.le_of_ble_eq_true rfl, Nat.le_of_ble_eq_true rfl⟩ ⟨Nat.le_of_ble_eq_true rfl, Nat.le_of_ble_eq_true rfl⟩ hl.1 rfl (Nat.le_of_ble_eq_true rfl) dL_run_344 (fun v23 h23 H locs hw hW hS => ?_)
        refine lv_istore (lv' := [(12, .int v23), (0, .ref a1), (1, .ref a2), (2, .ref a3), (5, .int a6), (8, .long x8), (10, .long x10)]) hx hb dL_run_347 hl (by decide) rfl (fun ls hl => ?_)
        refine lv_lload hx hb dL_run_349 (lv_at hl 6 rfl) ?_
        refine lv_lload hx hb dL_run_351 (lv_at hl 5 rfl) ?_
        refine lv_ladd hx hb dL_run_353 ?_
        refine lv_iload hx hb dL_run_354 (lv_at hl 0 rfl) ?_
        refine lv_if_ge (tgt := 363) hx hb dL_run_356 (by decide) (fun c24 => ?_) (fun c24 => ?_)
        · have hw := itp c24 hw
          refine lv_lconst (v := (0 : Int64)) hx hb dL_run_363 (by decide) ?_
          refine lv_ladd hx hb dL_run_364 ?_
          refine W.widen (k := 1) (n := 14) (by omega) (by omega) ?_
          exact hret _ _ _ _ ((x10 + x8) + (0 : Int64)) h23 dL_run_365 hw hW hS
        · have hw := itn c24 hw
          refine lv_lconst (v := (1 : Int64)) hx hb dL_run_359 (by decide) ?_
          refine lv_goto (tgt := 364) hx hb dL_run_360 (by decide) ?_
          refine lv_ladd hx hb dL_run_364 ?_
          refine W.widen (k := 1) (n := 14) (by omega) (by omega) ?_
          exact hret _ _ _ _ ((x10 + x8) + (1 : Int64)) h23 dL_run_365 hw hW hS
      · have hw := itn c22 hw
        refine lv_aload_n hx hb dL_run_305 rfl (lv_at hl 0 rfl) ?_
        refine lv_iconst (v := (5 : Int32)) hx hb dL_run_306 (by decide) ?_
        refine lv_iload hx hb dL_run_307 (lv_at hl 6 rfl) ?_
        refine lv_iadd hx hb dL_run_309 ?_
        refine lv_iload hx hb dL_run_310 (lv_at hl 3 rfl) ?_
        refine lv_iload hx hb dL_run_312 (lv_at hl 6 rfl) ?_
        refine lv_ishr hx hb dL_run_314 ?_
        refine lv_iconst (v := (1 : Int32)) hx hb dL_run_315 (by decide) ?_
        refine lv_iand hx hb dL_run_316 ?_
        refine lv_iconst (v := (1 : Int32)) hx hb dL_run_317 (by decide) ?_
        refine lv_icmp_ne (tgt := 328) hx hb dL_run_318 (by decide) (fun c25 => ?_) (fun c25 => ?_)
        · have hw := itn c25 hw
          refine lv_aload_n hx hb dL_run_328 rfl (lv_at hl 0 rfl) ?_
          refine lv_iconst (v := (5 : Int32)) hx hb dL_run_329 (by decide) ?_
          refine lv_iload hx hb dL_run_330 (lv_at hl 6 rfl) ?_
          refine lv_iadd hx hb dL_run_332 ?_
          obtain ⟨n26, f26, v26, e26, g26, ev26, hw⟩ := hw
          refine kw_iald hx hb hK hW 0 e26 rfl g26 ev26 dL_run_333 ?_
          obtain ⟨n27, f27, e27, g27, hw⟩ := hw
          refine kw_iast hx hb hK hW hS 0 e27 rfl g27 dL_run_334 (fun H locs h27 eh27 hW hS => ?_)
          have hw := hw h27 eh27
          refine lv_iinc (v := (x12 + (1 : Int32))) (lv' := [(12, .int (x12 + (1 : Int32))), (0, .ref a1), (1, .ref a2), (2, .ref a3), (5, .int a6), (8, .long x8), (10, .long x10)]) hx hb dL_run_335 hl (k := 6) rfl (congrArg (HAdd.hAdd x12) (by decide)) (by decide) rfl (fun ls hl => ?_)
          refine lv_goto (tgt := 299) hx hb dL_run_338 (by decide) ?_
          exact ih299 x8 x10 (x12 + (1 : Int32)) h27 _ _ _ hw hW hS (lv_sub hl [1, 2, 3, 4, 5, 6, 0] rfl)
        · have hw := itp c25 hw
          refine lv_aload_n hx hb dL_run_321 rfl (lv_at hl 0 rfl) ?_
          refine lv_iload hx hb dL_run_322 (lv_at hl 6 rfl) ?_
          obtain ⟨n28, f28, v28, e28, g28, ev28, hw⟩ := hw
          refine kw_iald hx hb hK hW 0 e28 rfl g28 ev28 dL_run_324 ?_
          refine lv_goto (tgt := 334) hx hb dL_run_325 (by decide) ?_
          obtain ⟨n29, f29, e29, g29, hw⟩ := hw
          refine kw_iast hx hb hK hW hS 0 e29 rfl g29 dL_run_334 (fun H locs h29 eh29 hW hS => ?_)
          have hw := hw h29 eh29
          refine lv_iinc (v := (x12 + (1 : Int32))) (lv' := [(12, .int (x12 + (1 : Int32))), (0, .ref a1), (1, .ref a2), (2, .ref a3), (5, .int a6), (8, .long x8), (10, .long x10)]) hx hb dL_run_335 hl (k := 6) rfl (congrArg (HAdd.hAdd x12) (by decide)) (by decide) rfl (fun ls hl => ?_)
          refine lv_goto (tgt := 299) hx hb dL_run_338 (by decide) ?_
          exact ih299 x8 x10 (x12 + (1 : Int32)) h29 _ _ _ hw hW hS (lv_sub hl [1, 2, 3, 4, 5, 6, 0] rfl)
  have hJ280 : ∀ (x8 : Int64) (x10 : Int64) (h : KH) (ls : Array Slot) (H : Heap) (locs : List Loc), g_L_run_J280 ct a0 a1 a2 a3 a4 a5 a6 Post  x8 x10 h → KW D A h H → va_S A s.heap H locs → lv_has ls 13 [(0, .ref a1), (1, .ref a2), (2, .ref a3), (3, .ref a4), (5, .int a6), (8, .long x8), (10, .long x10)] → W p l e (rmF 3 1 14) s m ([.ref a1, .ref a2, .ref a3, .ref a4, .ref a5, .int a6] : List Value).toArray below meth c H locs 1 14 Q (F0 m 280 ls []) := by
    intro x8 x10 h ls H locs hw hW hS hl
    unfold g_L_run_J280 at hw
    refine lv_aload_n hx hb dL_run_280 rfl (lv_at hl 3 rfl) ?_
    refine lv_iconst (v := (0 : Int32)) hx hb dL_run_281 (by decide) ?_
    refine lv_dup2_11 hx hb dL_run_282 rfl rfl ?_
    obtain ⟨n18, f18, v18, e18, g18, ev18, hw⟩ := hw
    refine kw_lald hx hb hK hW 1 e18 rfl g18 ev18 dL_run_283 ?_
    refine lv_lload hx hb dL_run_284 (lv_at hl 6 rfl) ?_
    refine lv_ladd hx hb dL_run_286 ?_
    obtain ⟨n19, f19, e19, g19, hw⟩ := hw
    refine kw_last hx hb hK hW hS 1 e19 rfl g19 dL_run_287 (fun H locs h19 eh19 hW hS => ?_)
    have hw := hw h19 eh19
    refine lv_aload_n hx hb dL_run_288 rfl (lv_at hl 3 rfl) ?_
    refine lv_iconst (v := (1 : Int32)) hx hb dL_run_289 (by decide) ?_
    refine lv_dup2_11 hx hb dL_run_290 rfl rfl ?_
    obtain ⟨n20, f20, v20, e20, g20, ev20, hw⟩ := hw
    refine kw_lald hx hb hK hW 1 e20 rfl g20 ev20 dL_run_291 ?_
    refine lv_lload hx hb dL_run_292 (lv_at hl 5 rfl) ?_
    refine lv_ladd hx hb dL_run_294 ?_
    obtain ⟨n21, f21, e21, g21, hw⟩ := hw
    refine kw_last hx hb hK hW hS 1 e21 rfl g21 dL_run_295 (fun H locs h21 eh21 hW hS => ?_)
    have hw := hw h21 eh21
    refine lv_iconst (v := (0 : Int32)) hx hb dL_run_296 (by decide) ?_
    refine lv_istore (lv' := [(12, .int (0 : Int32)), (0, .ref a1), (1, .ref a2), (2, .ref a3), (3, .ref a4), (5, .int a6), (8, .long x8), (10, .long x10)]) hx hb dL_run_297 hl (by decide) rfl (fun ls hl => ?_)
    exact hL299 1024 x8 x10 (0 : Int32) h21 _ _ _ hw hW hS (lv_sub hl [1, 2, 3, 5, 6, 7, 0] rfl)
  have hL233 : ∀ (n233 : Nat), ∀ (x7 : Nat) (x8 : Int64) (x10 : Int64) (x12 : Int32) (h : KH) (ls : Array Slot) (H : Heap) (locs : List Loc), g_L_run_L233 ct a0 a1 a2 a3 a4 a5 a6 Post  n233 x7 x8 x10 x12 h → KW D A h H → va_S A s.heap H locs → lv_has ls 13 [(0, .ref a1), (1, .ref a2), (2, .ref a3), (3, .ref a4), (5, .int a6), (7, .ref x7), (8, .long x8), (10, .long x10), (12, .int x12)] → W p l e (rmF 3 1 14) s m ([.ref a1, .ref a2, .ref a3, .ref a4, .ref a5, .int a6] : List Value).toArray below meth c H locs 1 14 Q (F0 m 233 ls []) := by
    intro n233
    induction n233 with
    | zero =>
      intro x7 x8 x10 x12 h ls H locs hw
      exact (show False from hw).elim
    | succ n233 ih233 =>
      intro x7 x8 x10 x12 h ls H locs hw hW hS hl
      have hw : g_L_run_L233b ct a0 a1 a2 a3 a4 a5 a6 Post  (g_L_run_L233 ct a0 a1 a2 a3 a4 a5 a6 Post  n233) x7 x8 x10 x12 h := hw
      unfold g_L_run_L233b at hw
      refine lv_iload hx hb dL_run_233 (lv_at hl 8 rfl) ?_
      refine lv_bipush (v := (14 : Int32)) hx hb dL_run_235 (by decide) ?_
      refine lv_icmp_ge (tgt := 262) hx hb dL_run_237 (by decide) (fun c30 => ?_) (fun c30 => ?_)
      · have hw := itp c30 hw
        refine lv_aload_n hx hb dL_run_262 rfl (lv_at hl 2 rfl) ?_
        refine lv_iconst (v := (0 : Int32)) hx hb dL_run_263 (by decide) ?_
        refine lv_dup2_11 hx hb dL_run_264 rfl rfl ?_
        obtain ⟨n31, f31, v31, e31, g31, ev31, hw⟩ := hw
        refine kw_iald hx hb hK hW 0 e31 rfl g31 ev31 dL_run_265 ?_
        refine lv_iconst (v := (1 : Int32)) hx hb dL_run_266 (by decide) ?_
        refine lv_iadd hx hb dL_run_267 ?_
        obtain ⟨n32, f32, e32, g32, hw⟩ := hw
        refine kw_iast hx hb hK hW hS 0 e32 rfl g32 dL_run_268 (fun H locs h32 eh32 hW hS => ?_)
        have hw := hw h32 eh32
        refine lv_goto (tgt := 280) hx hb dL_run_269 (by decide) ?_
        exact hJ280 x8 x10 h32 _ _ _ hw hW hS (lv_sub hl [0, 1, 2, 3, 4, 6, 7] rfl)
      · have hw := itn c30 hw
        refine lv_aload_n hx hb dL_run_240 rfl (lv_at hl 1 rfl) ?_
        refine lv_bipush (v := (14 : Int32)) hx hb dL_run_241 (by decide) ?_
        refine lv_aload_n hx hb dL_run_243 rfl (lv_at hl 2 rfl) ?_
        refine lv_iconst (v := (0 : Int32)) hx hb dL_run_244 (by decide) ?_
        obtain ⟨n33, f33, v33, e33, g33, ev33, hw⟩ := hw
        refine kw_iald hx hb hK hW 0 e33 rfl g33 ev33 dL_run_245 ?_
        refine lv_imul hx hb dL_run_246 ?_
        refine lv_iload hx hb dL_run_247 (lv_at hl 8 rfl) ?_
        refine lv_iadd hx hb dL_run_249 ?_
        refine lv_aload hx hb dL_run_250 (lv_at hl 5 rfl) ?_
        refine lv_iload hx hb dL_run_252 (lv_at hl 8 rfl) ?_
        obtain ⟨n34, f34, v34, e34, g34, ev34, hw⟩ := hw
        refine kw_iald hx hb hK hW 0 e34 rfl g34 ev34 dL_run_254 ?_
        obtain ⟨n35, f35, e35, g35, hw⟩ := hw
        refine kw_iast hx hb hK hW hS 0 e35 rfl g35 dL_run_255 (fun H locs h35 eh35 hW hS => ?_)
        have hw := hw h35 eh35
        refine lv_iinc (v := (x12 + (1 : Int32))) (lv' := [(12, .int (x12 + (1 : Int32))), (0, .ref a1), (1, .ref a2), (2, .ref a3), (3, .ref a4), (5, .int a6), (7, .ref x7), (8, .long x8), (10, .long x10)]) hx hb dL_run_256 hl (k := 8) rfl (congrArg (HAdd.hAdd x12) (by decide)) (by decide) rfl (fun ls hl => ?_)
        refine lv_goto (tgt := 233) hx hb dL_run_259 (by decide) ?_
        exact ih233 x7 x8 x10 (x12 + (1 : Int32)) h35 _ _ _ hw hW hS (lv_sub hl [1, 2, 3, 4, 5, 6, 7, 8, 0] rfl)
  have hJ213 : ∀ (x7 : Nat) (x8 : Int64) (h : KH) (ls : Array Slot) (H : Heap) (locs : List Loc), g_L_run_J213 ct a0 a1 a2 a3 a4 a5 a6 Post  x7 x8 h → KW D A h H → va_S A s.heap H locs → lv_has ls 13 [(0, .ref a1), (1, .ref a2), (2, .ref a3), (3, .ref a4), (5, .int a6), (7, .ref x7), (8, .long x8)] → W p l e (rmF 3 1 14) s m ([.ref a1, .ref a2, .ref a3, .ref a4, .ref a5, .int a6] : List Value).toArray below meth c H locs 1 14 Q (F0 m 213 ls []) := by
    intro x7 x8 h ls H locs hw hW hS hl
    unfold g_L_run_J213 at hw
    refine lv_aload_n hx hb dL_run_213 rfl (lv_at hl 0 rfl) ?_
    refine lv_aload hx hb dL_run_214 (lv_at hl 5 rfl) ?_
    refine lv_iconst (v := (0 : Int32)) hx hb dL_run_216 (by decide) ?_
    refine lv_iconst (v := (0 : Int32)) hx hb dL_run_217 (by decide) ?_
    refine ks_call (As := [.ref a1, .ref x7, .int (0 : Int32), .int (0 : Int32)]) (rest := []) (cg_L_cost l D ct a0 a1 x7 (0 : Int32) (0 : Int32) h _ hw) B hK hN hZ hA hW hS k_L_cost q_12_1 rfl ⟨Nat.le_of_ble_eq_true rfl, Nat.le_of_ble_eq_true rfl⟩ ⟨Nat.le_of_ble_eq_true rfl, Nat.le_of_ble_eq_true rfl⟩ hl.1 rfl (Nat.le_of_ble_eq_true rfl) dL_run_218 (fun v13 h13 H locs hw hW hS => ?_)
    refine lv_lstore (lv' := [(10, .long v13), (0, .ref a1), (1, .ref a2), (2, .ref a3), (3, .ref a4), (5, .int a6), (7, .ref x7), (8, .long x8)]) hx hb dL_run_221 hl (by decide) rfl (fun ls hl => ?_)
    refine lv_aload_n hx hb dL_run_223 rfl (lv_at hl 3 rfl) ?_
    refine lv_iconst (v := (0 : Int32)) hx hb dL_run_224 (by decide) ?_
    obtain ⟨n14, f14, v14, e14, g14, ev14, hw⟩ := hw
    refine kw_iald hx hb hK hW 0 e14 rfl g14 ev14 dL_run_225 ?_
    refine lv_iconst (v := (4 : Int32)) hx hb dL_run_226 (by decide) ?_
    refine lv_icmp_ge (tgt := 272) hx hb dL_run_227 (by decide) (fun c15 => ?_) (fun c15 => ?_)
    · have hw := itp c15 hw
      refine lv_aload_n hx hb dL_run_272 rfl (lv_at hl 3 rfl) ?_
      refine lv_bipush (v := (7 : Int32)) hx hb dL_run_273 (by decide) ?_
      refine lv_dup2_11 hx hb dL_run_275 rfl rfl ?_
      obtain ⟨n16, f16, v16, e16, g16, ev16, hw⟩ := hw
      refine kw_iald hx hb hK hW 0 e16 rfl g16 ev16 dL_run_276 ?_
      refine lv_iconst (v := (1 : Int32)) hx hb dL_run_277 (by decide) ?_
      refine lv_iadd hx hb dL_run_278 ?_
      obtain ⟨n17, f17, e17, g17, hw⟩ := hw
      refine kw_iast hx hb hK hW hS 0 e17 rfl g17 dL_run_279 (fun H locs h17 eh17 hW hS => ?_)
      have hw := hw h17 eh17
      refine W.widen (k := 1) (n := 14) (by omega) (by omega) ?_
      exact hJ280 x8 v13 h17 _ _ _ hw hW hS (lv_sub hl [1, 2, 3, 4, 5, 7, 0] rfl)
    · have hw := itn c15 hw
      refine lv_iconst (v := (0 : Int32)) hx hb dL_run_230 (by decide) ?_
      refine lv_istore (lv' := [(12, .int (0 : Int32)), (10, .long v13), (0, .ref a1), (1, .ref a2), (2, .ref a3), (3, .ref a4), (5, .int a6), (7, .ref x7), (8, .long x8)]) hx hb dL_run_231 hl (by decide) rfl (fun ls hl => ?_)
      refine W.widen (k := 1) (n := 14) (by omega) (by omega) ?_
      exact hL233 1024 x7 x8 v13 (0 : Int32) h13 _ _ _ hw hW hS (lv_sub hl [2, 3, 4, 5, 6, 7, 8, 1, 0] rfl)
  have hL165 : ∀ (n165 : Nat), ∀ (x7 : Nat) (x8 : Int64) (x10 : Int32) (h : KH) (ls : Array Slot) (H : Heap) (locs : List Loc), g_L_run_L165 ct a0 a1 a2 a3 a4 a5 a6 Post  n165 x7 x8 x10 h → KW D A h H → va_S A s.heap H locs → lv_has ls 13 [(0, .ref a1), (1, .ref a2), (2, .ref a3), (3, .ref a4), (5, .int a6), (7, .ref x7), (8, .long x8), (10, .int x10)] → W p l e (rmF 3 1 14) s m ([.ref a1, .ref a2, .ref a3, .ref a4, .ref a5, .int a6] : List Value).toArray below meth c H locs 1 14 Q (F0 m 165 ls []) := by
    intro n165
    induction n165 with
    | zero =>
      intro x7 x8 x10 h ls H locs hw
      exact (show False from hw).elim
    | succ n165 ih165 =>
      intro x7 x8 x10 h ls H locs hw hW hS hl
      have hw : g_L_run_L165b ct a0 a1 a2 a3 a4 a5 a6 Post  (g_L_run_L165 ct a0 a1 a2 a3 a4 a5 a6 Post  n165) x7 x8 x10 h := hw
      unfold g_L_run_L165b at hw
      refine lv_iload hx hb dL_run_165 (lv_at hl 7 rfl) ?_
      refine lv_aload_n hx hb dL_run_167 rfl (lv_at hl 2 rfl) ?_
      refine lv_iconst (v := (0 : Int32)) hx hb dL_run_168 (by decide) ?_
      obtain ⟨n11, f11, v11, e11, g11, ev11, hw⟩ := hw
      refine kw_iald hx hb hK hW 0 e11 rfl g11 ev11 dL_run_169 ?_
      refine lv_icmp_ge (tgt := 213) hx hb dL_run_170 (by decide) (fun c12 => ?_) (fun c12 => ?_)
      · have hw := itp c12 hw
        exact hJ213 x7 x8 h _ _ _ hw hW hS (lv_sub hl [0, 1, 2, 3, 4, 5, 6] rfl)
      · have hw := itn c12 hw
        refine lv_aload_n hx hb dL_run_173 rfl (lv_at hl 2 rfl) ?_
        refine lv_iconst (v := (0 : Int32)) hx hb dL_run_174 (by decide) ?_
        obtain ⟨n36, f36, v36, e36, g36, ev36, hw⟩ := hw
        refine kw_iald hx hb hK hW 0 e36 rfl g36 ev36 dL_run_175 ?_
        refine lv_iconst (v := (4 : Int32)) hx hb dL_run_176 (by decide) ?_
        refine lv_icmp_ne (tgt := 213) hx hb dL_run_177 (by decide) (fun c37 => ?_) (fun c37 => ?_)
        · have hw := itn c37 hw
          exact hJ213 x7 x8 h _ _ _ hw hW hS (lv_sub hl [0, 1, 2, 3, 4, 5, 6] rfl)
        · have hw := itp c37 hw
          refine lv_aload_n hx hb dL_run_180 rfl (lv_at hl 1 rfl) ?_
          refine lv_bipush (v := (14 : Int32)) hx hb dL_run_181 (by decide) ?_
          refine lv_iload hx hb dL_run_183 (lv_at hl 7 rfl) ?_
          refine lv_imul hx hb dL_run_185 ?_
          refine lv_bipush (v := (12 : Int32)) hx hb dL_run_186 (by decide) ?_
          refine lv_iadd hx hb dL_run_188 ?_
          obtain ⟨n38, f38, v38, e38, g38, ev38, hw⟩ := hw
          refine kw_iald hx hb hK hW 0 e38 rfl g38 ev38 dL_run_189 ?_
          refine lv_if_ne (tgt := 207) hx hb dL_run_190 (by decide) (fun c39 => ?_) (fun c39 => ?_)
          · have hw := itn c39 hw
            refine lv_iinc (v := (x10 + (1 : Int32))) (lv' := [(10, .int (x10 + (1 : Int32))), (0, .ref a1), (1, .ref a2), (2, .ref a3), (3, .ref a4), (5, .int a6), (7, .ref x7), (8, .long x8)]) hx hb dL_run_207 hl (k := 7) rfl (congrArg (HAdd.hAdd x10) (by decide)) (by decide) rfl (fun ls hl => ?_)
            refine lv_goto (tgt := 165) hx hb dL_run_210 (by decide) ?_
            exact ih165 x7 x8 (x10 + (1 : Int32)) h _ _ _ hw hW hS (lv_sub hl [1, 2, 3, 4, 5, 6, 7, 0] rfl)
          · have hw := itp c39 hw
            refine lv_aload_n hx hb dL_run_193 rfl (lv_at hl 1 rfl) ?_
            refine lv_aload_n hx hb dL_run_194 rfl (lv_at hl 2 rfl) ?_
            refine lv_iload hx hb dL_run_195 (lv_at hl 7 rfl) ?_
            refine ks_call (As := [.ref a2, .ref a3, .int x10]) (rest := []) (cg_L_out l D ct a0 a2 a3 x10 h _ hw) B hK hN hZ hA hW hS k_L_out q_9_19 rfl ⟨Nat.le_of_ble_eq_true rfl, Nat.le_of_ble_eq_true rfl⟩ ⟨Nat.le_of_ble_eq_true rfl, Nat.le_of_ble_eq_true rfl⟩ hl.1 rfl (Nat.le_of_ble_eq_true rfl) dL_run_197 (fun v40 h40 H locs hw hW hS => ?_)
            refine lv_aload_n hx hb dL_run_200 rfl (lv_at hl 2 rfl) ?_
            refine lv_iconst (v := (4 : Int32)) hx hb dL_run_201 (by decide) ?_
            refine lv_dup2_11 hx hb dL_run_202 rfl rfl ?_
            obtain ⟨n41, f41, v41, e41, g41, ev41, hw⟩ := hw
            refine kw_iald hx hb hK hW 0 e41 rfl g41 ev41 dL_run_203 ?_
            refine lv_iconst (v := (1 : Int32)) hx hb dL_run_204 (by decide) ?_
            refine lv_iadd hx hb dL_run_205 ?_
            obtain ⟨n42, f42, e42, g42, hw⟩ := hw
            refine kw_iast hx hb hK hW hS 0 e42 rfl g42 dL_run_206 (fun H locs h42 eh42 hW hS => ?_)
            have hw := hw h42 eh42
            refine lv_iinc (v := (x10 + (1 : Int32))) (lv' := [(10, .int (x10 + (1 : Int32))), (0, .ref a1), (1, .ref a2), (2, .ref a3), (3, .ref a4), (5, .int a6), (7, .ref x7), (8, .long x8)]) hx hb dL_run_207 hl (k := 7) rfl (congrArg (HAdd.hAdd x10) (by decide)) (by decide) rfl (fun ls hl => ?_)
            refine lv_goto (tgt := 165) hx hb dL_run_210 (by decide) ?_
            refine W.widen (k := 1) (n := 14) (by omega) (by omega) ?_
            exact ih165 x7 x8 (x10 + (1 : Int32)) h42 _ _ _ hw hW hS (lv_sub hl [1, 2, 3, 4, 5, 6, 7, 0] rfl)
  have hL94 : ∀ (n94 : Nat), ∀ (x7 : Nat) (x10 : Int32) (h : KH) (ls : Array Slot) (H : Heap) (locs : List Loc), g_L_run_L94 ct a0 a1 a2 a3 a4 a5 a6 Post  n94 x7 x10 h → KW D A h H → va_S A s.heap H locs → lv_has ls 13 [(0, .ref a1), (1, .ref a2), (2, .ref a3), (3, .ref a4), (5, .int a6), (7, .ref x7), (10, .int x10)] → W p l e (rmF 3 1 14) s m ([.ref a1, .ref a2, .ref a3, .ref a4, .ref a5, .int a6] : List Value).toArray below meth c H locs 1 14 Q (F0 m 94 ls []) := by
    intro n94
    induction n94 with
    | zero =>
      intro x7 x10 h ls H locs hw
      exact (show False from hw).elim
    | succ n94 ih94 =>
      intro x7 x10 h ls H locs hw hW hS hl
      have hw : g_L_run_L94b ct a0 a1 a2 a3 a4 a5 a6 Post  (g_L_run_L94 ct a0 a1 a2 a3 a4 a5 a6 Post  n94) x7 x10 h := hw
      unfold g_L_run_L94b at hw
      refine lv_iload hx hb dL_run_94 (lv_at hl 6 rfl) ?_
      refine lv_if_lt (tgt := 131) hx hb dL_run_96 (by decide) (fun c5 => ?_) (fun c5 => ?_)
      · have hw := itp c5 hw
        refine lv_aload hx hb dL_run_131 (lv_at hl 5 rfl) ?_
        refine lv_iconst (v := (0 : Int32)) hx hb dL_run_133 (by decide) ?_
        refine lv_iload hx hb dL_run_134 (lv_at hl 4 rfl) ?_
        obtain ⟨n6, f6, e6, g6, hw⟩ := hw
        refine kw_iast hx hb hK hW hS 0 e6 rfl g6 dL_run_136 (fun H locs h6 eh6 hW hS => ?_)
        have hw := hw h6 eh6
        refine lv_aload hx hb dL_run_137 (lv_at hl 5 rfl) ?_
        refine lv_bipush (v := (11 : Int32)) hx hb dL_run_139 (by decide) ?_
        refine lv_iconst (v := (1 : Int32)) hx hb dL_run_141 (by decide) ?_
        obtain ⟨n7, f7, e7, g7, hw⟩ := hw
        refine kw_iast hx hb hK hW hS 0 e7 rfl g7 dL_run_142 (fun H locs h7 eh7 hW hS => ?_)
        have hw := hw h7 eh7
        refine lv_ldc2 (v := (10 : Int64)) hx hb hown (hts _ q_11_4) dL_run_143 ?_
        refine lv_iload hx hb dL_run_146 (lv_at hl 4 rfl) ?_
        refine ks_call (As := [.int a6]) (rest := [.long (10 : Int64)]) (cg_L_tables l D ct a0 a6 h7 _ hw) B hK hN hZ hA hW hS k_L_tables q_11_22 rfl ⟨Nat.le_of_ble_eq_true rfl, Nat.le_of_ble_eq_true rfl⟩ ⟨Nat.le_of_ble_eq_true rfl, Nat.le_of_ble_eq_true rfl⟩ hl.1 rfl (Nat.le_of_ble_eq_true rfl) dL_run_148 (fun v8 h8 H locs hw hW hS => ?_)
        refine lv_i2l hx hb dL_run_151 rfl ?_
        refine lv_lmul hx hb dL_run_152 ?_
        refine lv_lstore (lv' := [(8, .long ((10 : Int64) * v8.toInt64)), (0, .ref a1), (1, .ref a2), (2, .ref a3), (3, .ref a4), (5, .int a6), (7, .ref x7), (10, .int x10)]) hx hb dL_run_153 hl (by decide) rfl (fun ls hl => ?_)
        refine lv_aload_n hx hb dL_run_155 rfl (lv_at hl 3 rfl) ?_
        refine lv_iconst (v := (2 : Int32)) hx hb dL_run_156 (by decide) ?_
        refine lv_dup2_11 hx hb dL_run_157 rfl rfl ?_
        obtain ⟨n9, f9, v9, e9, g9, ev9, hw⟩ := hw
        refine kw_iald hx hb hK hW 0 e9 rfl g9 ev9 dL_run_158 ?_
        refine lv_iconst (v := (1 : Int32)) hx hb dL_run_159 (by decide) ?_
        refine lv_iadd hx hb dL_run_160 ?_
        obtain ⟨n10, f10, e10, g10, hw⟩ := hw
        refine kw_iast hx hb hK hW hS 0 e10 rfl g10 dL_run_161 (fun H locs h10 eh10 hW hS => ?_)
        have hw := hw h10 eh10
        refine lv_iconst (v := (0 : Int32)) hx hb dL_run_162 (by decide) ?_
        refine lv_istore (lv' := [(10, .int (0 : Int32)), (8, .long ((10 : Int64) * v8.toInt64)), (0, .ref a1), (1, .ref a2), (2, .ref a3), (3, .ref a4), (5, .int a6), (7, .ref x7)]) hx hb dL_run_163 hl (by decide) rfl (fun ls hl => ?_)
        refine W.widen (k := 1) (n := 14) (by omega) (by omega) ?_
        exact hL165 1024 x7 ((10 : Int64) * v8.toInt64) (0 : Int32) h10 _ _ _ hw hW hS (lv_sub hl [2, 3, 4, 5, 6, 7, 1, 0] rfl)
      · have hw := itn c5 hw
        refine lv_aload hx hb dL_run_99 (lv_at hl 5 rfl) ?_
        refine lv_iconst (v := (1 : Int32)) hx hb dL_run_101 (by decide) ?_
        refine lv_iload hx hb dL_run_102 (lv_at hl 6 rfl) ?_
        refine lv_iadd hx hb dL_run_104 ?_
        refine lv_aload hx hb dL_run_105 (lv_at hl 5 rfl) ?_
        refine lv_iload hx hb dL_run_107 (lv_at hl 6 rfl) ?_
        obtain ⟨n43, f43, v43, e43, g43, ev43, hw⟩ := hw
        refine kw_iald hx hb hK hW 0 e43 rfl g43 ev43 dL_run_109 ?_
        obtain ⟨n44, f44, e44, g44, hw⟩ := hw
        refine kw_iast hx hb hK hW hS 0 e44 rfl g44 dL_run_110 (fun H locs h44 eh44 hW hS => ?_)
        have hw := hw h44 eh44
        refine lv_aload hx hb dL_run_111 (lv_at hl 5 rfl) ?_
        refine lv_bipush (v := (6 : Int32)) hx hb dL_run_113 (by decide) ?_
        refine lv_iload hx hb dL_run_115 (lv_at hl 6 rfl) ?_
        refine lv_iadd hx hb dL_run_117 ?_
        refine lv_aload_n hx hb dL_run_118 rfl (lv_at hl 0 rfl) ?_
        refine lv_iconst (v := (5 : Int32)) hx hb dL_run_119 (by decide) ?_
        refine lv_iload hx hb dL_run_120 (lv_at hl 6 rfl) ?_
        refine lv_iadd hx hb dL_run_122 ?_
        obtain ⟨n45, f45, v45, e45, g45, ev45, hw⟩ := hw
        refine kw_iald hx hb hK hW 0 e45 rfl g45 ev45 dL_run_123 ?_
        obtain ⟨n46, f46, e46, g46, hw⟩ := hw
        refine kw_iast hx hb hK hW hS 0 e46 rfl g46 dL_run_124 (fun H locs h46 eh46 hW hS => ?_)
        have hw := hw h46 eh46
        refine lv_iinc (v := (x10 + (-1 : Int32))) (lv' := [(10, .int (x10 + (-1 : Int32))), (0, .ref a1), (1, .ref a2), (2, .ref a3), (3, .ref a4), (5, .int a6), (7, .ref x7)]) hx hb dL_run_125 hl (k := 6) rfl (congrArg (HAdd.hAdd x10) (by decide)) (by decide) rfl (fun ls hl => ?_)
        refine lv_goto (tgt := 94) hx hb dL_run_128 (by decide) ?_
        exact ih94 x7 (x10 + (-1 : Int32)) h46 _ _ _ hw hW hS (lv_sub hl [1, 2, 3, 4, 5, 6, 0] rfl)
  have hL26 : ∀ (n26 : Nat), ∀ (x6 : Int32) (x7 : Nat) (x8 : Int64) (x10 : Int32) (h : KH) (ls : Array Slot) (H : Heap) (locs : List Loc), g_L_run_L26 ct a0 a1 a2 a3 a4 a5 a6 Post  n26 x6 x7 x8 x10 h → KW D A h H → va_S A s.heap H locs → lv_has ls 13 [(0, .ref a1), (1, .ref a2), (2, .ref a3), (3, .ref a4), (5, .int a6), (6, .int x6), (7, .ref x7), (8, .long x8), (10, .int x10)] → W p l e (rmF 3 1 14) s m ([.ref a1, .ref a2, .ref a3, .ref a4, .ref a5, .int a6] : List Value).toArray below meth c H locs 1 14 Q (F0 m 26 ls []) := by
    intro n26
    induction n26 with
    | zero =>
      intro x6 x7 x8 x10 h ls H locs hw
      exact (show False from hw).elim
    | succ n26 ih26 =>
      intro x6 x7 x8 x10 h ls H locs hw hW hS hl
      have hw : g_L_run_L26b ct a0 a1 a2 a3 a4 a5 a6 Post  (g_L_run_L26 ct a0 a1 a2 a3 a4 a5 a6 Post  n26) x6 x7 x8 x10 h := hw
      unfold g_L_run_L26b at hw
      refine lv_iload hx hb dL_run_26 (lv_at hl 8 rfl) ?_
      refine lv_bipush (v := (14 : Int32)) hx hb dL_run_28 (by decide) ?_
      refine lv_icmp_ge (tgt := 54) hx hb dL_run_30 (by decide) (fun c47 => ?_) (fun c47 => ?_)
      · have hw := itp c47 hw
        refine lv_aload hx hb dL_run_54 (lv_at hl 6 rfl) ?_
        refine lv_bipush (v := (11 : Int32)) hx hb dL_run_56 (by decide) ?_
        refine lv_dup2_11 hx hb dL_run_58 rfl rfl ?_
        obtain ⟨n48, f48, v48, e48, g48, ev48, hw⟩ := hw
        refine kw_iald hx hb hK hW 0 e48 rfl g48 ev48 dL_run_59 ?_
        refine lv_iconst (v := (1 : Int32)) hx hb dL_run_60 (by decide) ?_
        refine lv_iadd hx hb dL_run_61 ?_
        obtain ⟨n49, f49, e49, g49, hw⟩ := hw
        refine kw_iast hx hb hK hW hS 0 e49 rfl g49 dL_run_62 (fun H locs h49 eh49 hW hS => ?_)
        have hw := hw h49 eh49
        refine lv_aload_n hx hb dL_run_63 rfl (lv_at hl 1 rfl) ?_
        refine lv_aload_n hx hb dL_run_64 rfl (lv_at hl 2 rfl) ?_
        refine lv_iload hx hb dL_run_65 (lv_at hl 5 rfl) ?_
        refine ks_call (As := [.ref a2, .ref a3, .int x6]) (rest := []) (cg_L_out l D ct a0 a2 a3 x6 h49 _ hw) B hK hN hZ hA hW hS k_L_out q_9_19 rfl ⟨Nat.le_of_ble_eq_true rfl, Nat.le_of_ble_eq_true rfl⟩ ⟨Nat.le_of_ble_eq_true rfl, Nat.le_of_ble_eq_true rfl⟩ hl.1 rfl (Nat.le_of_ble_eq_true rfl) dL_run_67 (fun v50 h50 H locs hw hW hS => ?_)
        refine lv_aload_n hx hb dL_run_70 rfl (lv_at hl 2 rfl) ?_
        refine lv_iconst (v := (1 : Int32)) hx hb dL_run_71 (by decide) ?_
        refine lv_dup2_11 hx hb dL_run_72 rfl rfl ?_
        obtain ⟨n51, f51, v51, e51, g51, ev51, hw⟩ := hw
        refine kw_iald hx hb hK hW 0 e51 rfl g51 ev51 dL_run_73 ?_
        refine lv_iconst (v := (1 : Int32)) hx hb dL_run_74 (by decide) ?_
        refine lv_iadd hx hb dL_run_75 ?_
        obtain ⟨n52, f52, e52, g52, hw⟩ := hw
        refine kw_iast hx hb hK hW hS 0 e52 rfl g52 dL_run_76 (fun H locs h52 eh52 hW hS => ?_)
        have hw := hw h52 eh52
        refine lv_goto (tgt := 213) hx hb dL_run_77 (by decide) ?_
        refine W.widen (k := 1) (n := 14) (by omega) (by omega) ?_
        exact hJ213 x7 x8 h52 _ _ _ hw hW hS (lv_sub hl [0, 1, 2, 3, 4, 6, 7] rfl)
      · have hw := itn c47 hw
        refine lv_aload hx hb dL_run_33 (lv_at hl 6 rfl) ?_
        refine lv_iload hx hb dL_run_35 (lv_at hl 8 rfl) ?_
        refine lv_aload_n hx hb dL_run_37 rfl (lv_at hl 1 rfl) ?_
        refine lv_bipush (v := (14 : Int32)) hx hb dL_run_38 (by decide) ?_
        refine lv_iload hx hb dL_run_40 (lv_at hl 5 rfl) ?_
        refine lv_imul hx hb dL_run_42 ?_
        refine lv_iload hx hb dL_run_43 (lv_at hl 8 rfl) ?_
        refine lv_iadd hx hb dL_run_45 ?_
        obtain ⟨n53, f53, v53, e53, g53, ev53, hw⟩ := hw
        refine kw_iald hx hb hK hW 0 e53 rfl g53 ev53 dL_run_46 ?_
        obtain ⟨n54, f54, e54, g54, hw⟩ := hw
        refine kw_iast hx hb hK hW hS 0 e54 rfl g54 dL_run_47 (fun H locs h54 eh54 hW hS => ?_)
        have hw := hw h54 eh54
        refine lv_iinc (v := (x10 + (1 : Int32))) (lv' := [(10, .int (x10 + (1 : Int32))), (0, .ref a1), (1, .ref a2), (2, .ref a3), (3, .ref a4), (5, .int a6), (6, .int x6), (7, .ref x7), (8, .long x8)]) hx hb dL_run_48 hl (k := 8) rfl (congrArg (HAdd.hAdd x10) (by decide)) (by decide) rfl (fun ls hl => ?_)
        refine lv_goto (tgt := 26) hx hb dL_run_51 (by decide) ?_
        exact ih26 x6 x7 x8 (x10 + (1 : Int32)) h54 _ _ _ hw hW hS (lv_sub hl [1, 2, 3, 4, 5, 6, 7, 8, 0] rfl)
  unfold g_L_run at hw
  refine lv_aload_n hx hb dL_run_0 rfl (lv_at hl 1 rfl) ?_
  refine lv_aload_n hx hb dL_run_1 rfl (lv_at hl 2 rfl) ?_
  refine lv_iload hx hb dL_run_2 (lv_at hl 5 rfl) ?_
  refine ks_call (As := [.ref a2, .ref a3, .int a6]) (rest := []) (cg_L_place l D ct a0 a2 a3 a6 h _ hw) B hK hN hZ hA hW hS k_L_place q_11_5 rfl ⟨Nat.le_of_ble_eq_true rfl, Nat.le_of_ble_eq_true rfl⟩ ⟨Nat.le_of_ble_eq_true rfl, Nat.le_of_ble_eq_true rfl⟩ hl.1 rfl (Nat.le_of_ble_eq_true rfl) dL_run_4 (fun v1 h1 H locs hw hW hS => ?_)
  refine lv_istore (lv' := [(6, .int v1), (0, .ref a1), (1, .ref a2), (2, .ref a3), (3, .ref a4), (4, .ref a5), (5, .int a6)]) hx hb dL_run_7 hl (by decide) rfl (fun ls hl => ?_)
  refine lv_bipush (v := (14 : Int32)) hx hb dL_run_9 (by decide) ?_
  refine kw_newa (atype := .int) (a0 := (14, .inl (fun _ => 0))) (n := (14 : Int32)) (N' := 14) hx hb (hts _ q_1_3) rfl hK 0 rfl hW hS hA (fun _ => rfl) (by decide) (by decide) (by decide) (Nat.le_of_ble_eq_true rfl) (Nat.le_of_ble_eq_true rfl) dL_run_11 (fun q2 H h2 n2 eh2 hW hS => ?_)
  have hw := hw q2 h2 n2 eh2
  refine lv_astore (lv' := [(7, .ref q2), (6, .int v1), (0, .ref a1), (1, .ref a2), (2, .ref a3), (3, .ref a4), (4, .ref a5), (5, .int a6)]) hx hb dL_run_13 hl (by decide) rfl (fun ls hl => ?_)
  refine lv_lconst (v := (0 : Int64)) hx hb dL_run_15 (by decide) ?_
  refine lv_lstore (lv' := [(8, .long (0 : Int64)), (7, .ref q2), (6, .int v1), (0, .ref a1), (1, .ref a2), (2, .ref a3), (3, .ref a4), (4, .ref a5), (5, .int a6)]) hx hb dL_run_16 hl (by decide) rfl (fun ls hl => ?_)
  refine lv_iload hx hb dL_run_18 (lv_at hl 2 rfl) ?_
  refine lv_if_lt (tgt := 80) hx hb dL_run_20 (by decide) (fun c3 => ?_) (fun c3 => ?_)
  · have hw := itp c3 hw
    refine lv_aload_n hx hb dL_run_80 rfl (lv_at hl 3 rfl) ?_
    refine lv_iload hx hb dL_run_81 (lv_at hl 8 rfl) ?_
    refine lv_iconst (v := (5 : Int32)) hx hb dL_run_83 (by decide) ?_
    refine lv_aload hx hb dL_run_84 (lv_at hl 7 rfl) ?_
    refine lv_aload hx hb dL_run_86 (lv_at hl 1 rfl) ?_
    refine ks_call (As := [.ref a1, .int a6, .int (5 : Int32), .ref a5, .ref q2]) (rest := []) (cg_L_best l D ct a0 a1 a6 (5 : Int32) a5 q2 h2 _ hw) B hK hN hZ hA hW hS k_L_best q_11_8 rfl ⟨Nat.le_of_ble_eq_true rfl, Nat.le_of_ble_eq_true rfl⟩ ⟨Nat.le_of_ble_eq_true rfl, Nat.le_of_ble_eq_true rfl⟩ hl.1 rfl (Nat.le_of_ble_eq_true rfl) dL_run_88 (fun v4 h4 H locs hw hW hS => ?_)
    refine lv_iconst (v := (4 : Int32)) hx hb dL_run_91 (by decide) ?_
    refine lv_istore (lv' := [(10, .int (4 : Int32)), (8, .long (0 : Int64)), (7, .ref q2), (6, .int v1), (0, .ref a1), (1, .ref a2), (2, .ref a3), (3, .ref a4), (4, .ref a5), (5, .int a6)]) hx hb dL_run_92 hl (by decide) rfl (fun ls hl => ?_)
    refine W.widen (k := 1) (n := 14) (by omega) (by omega) ?_
    exact hL94 1024 q2 (4 : Int32) h4 _ _ _ hw hW hS (lv_sub hl [4, 5, 6, 7, 9, 2, 0] rfl)
  · have hw := itn c3 hw
    refine lv_iconst (v := (0 : Int32)) hx hb dL_run_23 (by decide) ?_
    refine lv_istore (lv' := [(10, .int (0 : Int32)), (8, .long (0 : Int64)), (7, .ref q2), (6, .int v1), (0, .ref a1), (1, .ref a2), (2, .ref a3), (3, .ref a4), (4, .ref a5), (5, .int a6)]) hx hb dL_run_24 hl (by decide) rfl (fun ls hl => ?_)
    refine W.widen (k := 1) (n := 14) (by omega) (by omega) ?_
    exact hL26 1024 v1 q2 (0 : Int64) (0 : Int32) h2 _ _ _ hw hW hS (lv_sub hl [4, 5, 6, 7, 9, 3, 2, 1, 0] rfl)
