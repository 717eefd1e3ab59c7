/-! fitness of both: laid by wip/whole/gen.py, genk.py -/
theorem k_X6_fitness : VOk yX6_fitness cX6_fitness 9 (some .double) 0 := ⟨q_32_23, q_32_21, q_32_22, q_1_5, by decide +kernel⟩
def f_X6_fitness_L7b  (m_s : Nat → Int32)  (k7 : Int64 → Int64 → Int32 → (Nat → Int32) → (Nat → Int32) → Int32 → Option (DR × (Nat → Int32) × (Nat → Int32) × (Int32))) (x1 : Int64) (x3 : Int64) (x5 : Int32) (m_order : Nat → Int32) (m_best : Nat → Int32) (m_many : Int32) : Option (DR × (Nat → Int32) × (Nat → Int32) × (Int32)) :=
  if (4 : Int32) ≤ x5 then if (lg_cmp x3 (0 : Int64)) = (0 : Int32) then some ((none : DR), m_order, m_best, m_many)
  else some ((some ((FP.l2d x1), (FP.l2d x3)) : DR), m_order, m_best, m_many)
  else bnd (f_X6_at x5 ) (fun q3 => grd (inb q3 100) (if (m_s q3.toNatClampNeg) ≤ (0 : Int32) then k7 x1 x3 (x5 + (1 : Int32)) m_order m_best m_many
  else bnd (f_X6_costAt x5 (0 : Int32) m_s m_order m_many) (fun q6 => bnd (f_X6_at x5 ) (fun q7 => grd (inb q7 100) (bnd (f_X6_finds (m_s q7.toNatClampNeg) (0 : Int32) m_s q6.2.1 m_best q6.2.2) (fun q9 => k7 (x1 + q9.1) (x3 + q6.1) (x5 + (1 : Int32)) q9.2.1 q9.2.2.1 q9.2.2.2))))))
def f_X6_fitness_L7  (m_s : Nat → Int32)  : Nat → Int64 → Int64 → Int32 → (Nat → Int32) → (Nat → Int32) → Int32 → Option (DR × (Nat → Int32) × (Nat → Int32) × (Int32))
  | 0 => fun _ _ _ _ _ _ => none
  | n + 1 => f_X6_fitness_L7b m_s  (f_X6_fitness_L7 m_s  n)
def f_X6_fitness  (m_s : Nat → Int32) (m_order : Nat → Int32) (m_best : Nat → Int32) (m_many : Int32) : Option (DR × (Nat → Int32) × (Nat → Int32) × (Int32)) :=
  f_X6_fitness_L7 m_s  1024 (0 : Int64) (0 : Int64) (0 : Int32) m_order m_best m_many
set_option maxRecDepth 100000 in
set_option maxHeartbeats 4000000 in
theorem c_X6_fitness (l : Launch) (D : va_G) (o : Nat → Nat) (cI cJ : ClassId)  (m_s : Nat → Int32) (m_past : Nat → Int32) (m_kept : Nat → Int32) (m_spare : Nat → Int32) (m_paid : Nat → Int64) (m_pastPaid : Nat → Int64) (m_keptPaid : Nat → Int64) (m_sparePaid : Nat → Int64) (m_isKept : Int32) (m_pasts : Int32) (m_runs : Int32) (m_pad : Nat → Int32) (m_typed : Int32) (m_isStopped : Int32) (m_stop : Nat → Int32) (m_order : Nat → Int32) (m_best : Nat → Int32) (m_many : Int32) (m_bySets : Nat → Int64) (m_spot : Int32) (m_deeds : Int32) (m_deed : Nat → Int32) (q : DR × (Nat → Int32) × (Nat → Int32) × (Int32)) (h : f_X6_fitness  m_s m_order m_best m_many = some q) : CFD l yX6_fitness cX6_fitness 9 3 D (tysMW cI cJ) [.ref (o 0)] q.1 (MW o cI cJ m_s m_past m_kept m_spare m_paid m_pastPaid m_keptPaid m_sparePaid m_isKept m_pasts m_runs m_pad m_typed m_isStopped m_stop m_order m_best m_many m_bySets m_spot m_deeds m_deed) (MW o cI cJ m_s m_past m_kept m_spare m_paid m_pastPaid m_keptPaid m_sparePaid m_isKept m_pasts m_runs m_pad m_typed m_isStopped m_stop q.2.1 q.2.2.1 q.2.2.2 m_bySets m_spot m_deeds m_deed) := by
  refine CFD.mk (by decide) (Nat.le_of_ble_eq_true rfl) 82 dX6_fitness_82 dX6_fitness_83 ?_
  intro p e s m below meth c Q A B hK hDD hA hdiv hone hP hS ls hl
  have B0 := B
  obtain ⟨hx, hb, hml, hown, hts⟩ := B0
  have hl : lv_has ls 9 [(0, .ref (o 0))] := hl
  have hL7 : ∀ (n7 : Nat) (x1 : Int64) (x3 : Int64) (x5 : Int32) (m_order : Nat → Int32) (m_best : Nat → Int32) (m_many : Int32) (ls : Array Slot) (H : Heap) (locs : List Loc), f_X6_fitness_L7 m_s  n7 x1 x3 x5 m_order m_best m_many = some q → va_P D vwCl (MW o cI cJ m_s m_past m_kept m_spare m_paid m_pastPaid m_keptPaid m_sparePaid m_isKept m_pasts m_runs m_pad m_typed m_isStopped m_stop m_order m_best m_many m_bySets m_spot m_deeds m_deed) H → va_S A s.heap H locs → lv_has ls 9 [(0, .ref (o 0)), (1, .long x1), (3, .long x3), (5, .int x5)] → W p l e (rmF 3 0 0) s m ([.ref (o 0)] : List Value).toArray below meth c H locs 0 0 Q (F0 m 7 ls []) := by
    intro n7
    induction n7 with
    | zero =>
      intro x1 x3 x5 m_order m_best m_many ls H locs h
      exact absurd (show (none : Option (DR × (Nat → Int32) × (Nat → Int32) × (Int32))) = some q from h) (by intro h; cases h)
    | succ n7 ih7 =>
      intro x1 x3 x5 m_order m_best m_many ls H locs h hP hS hl
      have h : f_X6_fitness_L7b m_s  (f_X6_fitness_L7 m_s  n7) x1 x3 x5 m_order m_best m_many = some q := h
      unfold f_X6_fitness_L7b at h
      refine lv_iload hx hb dX6_fitness_7 (lv_at hl 3 rfl) ?_
      refine lv_iconst (v := (4 : Int32)) hx hb dX6_fitness_9 (by decide) ?_
      refine lv_icmp_ge (tgt := 60) hx hb dX6_fitness_10 (by decide) (fun c1 => ?_) (fun c1 => ?_)
      · have h := ift c1 h
        refine lv_lload_n hx hb dX6_fitness_60 rfl (lv_at hl 1 rfl) ?_
        refine lv_l2d hx hb dX6_fitness_61 ?_
        refine lv_dstore (lv' := [(5, .double (FP.l2d x1)), (0, .ref (o 0)), (1, .long x1), (3, .long x3)]) hx hb dX6_fitness_62 hl (by decide) rfl (fun ls hl => ?_)
        refine lv_lload_n hx hb dX6_fitness_64 rfl (lv_at hl 3 rfl) ?_
        refine lv_l2d hx hb dX6_fitness_65 ?_
        refine lv_dstore (lv' := [(7, .double (FP.l2d x3)), (5, .double (FP.l2d x1)), (0, .ref (o 0)), (1, .long x1), (3, .long x3)]) hx hb dX6_fitness_66 hl (by decide) rfl (fun ls hl => ?_)
        refine lv_lload_n hx hb dX6_fitness_68 rfl (lv_at hl 4 rfl) ?_
        refine lv_lconst (v := (0 : Int64)) hx hb dX6_fitness_69 (by decide) ?_
        refine W.lcmp hx hb dX6_fitness_70 ?_
        refine lv_if_ne (tgt := 78) hx hb dX6_fitness_71 (by decide) (fun c2 => ?_) (fun c2 => ?_)
        · have h := ifn c2 h
          refine lv_dload hx hb dX6_fitness_78 (lv_at hl 1 rfl) ?_
          refine lv_dload hx hb dX6_fitness_80 (lv_at hl 0 rfl) ?_
          obtain rfl := Option.some.inj h
          exact hdiv _ _ _ _ _ rfl hP hS
        · have h := ift c2 h
          refine lv_dconst1 hx hb dX6_fitness_74 ?_
          refine lv_goto (tgt := 83) hx hb dX6_fitness_75 (by decide) ?_
          obtain rfl := Option.some.inj h
          exact hone _ _ _ rfl hP hS
      · have h := ifn c1 h
        refine lv_aload_n hx hb dX6_fitness_13 rfl (lv_at hl 0 rfl) ?_
        refine va_get (D := D) (ci := 7) (v := .ref (o 1)) (C := RX6) (T := TX6) (N := 22) hx hb hts inlX6 hown hK hP 0 rfl rfl 0 (by decide) (hts _ q_4_5) (fun _ h9 => h9) rfl dX6_fitness_14 ?_
        refine lv_iload hx hb dX6_fitness_17 (lv_at hl 3 rfl) ?_
        obtain ⟨q3, e3, h⟩ := bnd_some h
        refine s_call (As := [.int x5]) (rest := [.ref (o 1)]) (c_X6_at l x5 q3 e3) B k_X6_at q_11_4 rfl ⟨Nat.le_of_ble_eq_true rfl, Nat.le_of_ble_eq_true rfl⟩ ⟨Nat.le_refl _, Nat.le_refl _⟩ hl.1 rfl (Nat.le_of_ble_eq_true rfl) dX6_fitness_19 ?_
        obtain ⟨g4, h⟩ := grd_some h
        refine va_iald hx hb hK hP 1 0 rfl rfl (inb_in g4) dX6_fitness_22 ?_
        refine lv_if_le (tgt := 54) hx hb dX6_fitness_23 (by decide) (fun c5 => ?_) (fun c5 => ?_)
        · have h := ift c5 h
          refine lv_iinc (v := (x5 + (1 : Int32))) (lv' := [(5, .int (x5 + (1 : Int32))), (0, .ref (o 0)), (1, .long x1), (3, .long x3)]) hx hb dX6_fitness_54 hl (k := 3) rfl (congrArg (HAdd.hAdd x5) (by decide)) (by decide) rfl (fun ls hl => ?_)
          refine lv_goto (tgt := 7) hx hb dX6_fitness_57 (by decide) ?_
          exact ih7 x1 x3 (x5 + (1 : Int32)) m_order m_best m_many _ _ _ h hP hS (lv_sub hl [1, 2, 3, 0] rfl)
        · have h := ifn c5 h
          refine lv_lload_n hx hb dX6_fitness_26 rfl (lv_at hl 2 rfl) ?_
          refine lv_aload_n hx hb dX6_fitness_27 rfl (lv_at hl 0 rfl) ?_
          refine lv_iload hx hb dX6_fitness_28 (lv_at hl 3 rfl) ?_
          refine lv_iconst (v := (0 : Int32)) hx hb dX6_fitness_30 (by decide) ?_
          obtain ⟨q6, e6, h⟩ := bnd_some h
          refine f_call (As := [.int x5, .int (0 : Int32)]) (rest := [.long x3]) (c_X6_costAt l D o cI cJ x5 (0 : Int32) m_s m_past m_kept m_spare m_paid m_pastPaid m_keptPaid m_sparePaid m_isKept m_pasts m_runs m_pad m_typed m_isStopped m_stop m_order m_best m_many m_bySets m_spot m_deeds m_deed q6 e6) B hK hDD hA hP hS rfl (va_recv hK hP (ci := 7) (q0 := 0) rfl rfl) k_X6_costAt q_19_15 rfl ⟨Nat.le_of_ble_eq_true rfl, Nat.le_of_ble_eq_true rfl⟩ ⟨Nat.le_refl _, Nat.le_refl _⟩ hl.1 rfl (Nat.le_of_ble_eq_true rfl) dX6_fitness_31 (fun H locs hP hS => ?_)
          refine lv_ladd hx hb dX6_fitness_34 ?_
          refine lv_lstore_n (lv' := [(3, .long (x3 + q6.1)), (0, .ref (o 0)), (1, .long x1), (5, .int x5)]) hx hb dX6_fitness_35 rfl hl (by decide) rfl (fun ls hl => ?_)
          refine lv_lload_n hx hb dX6_fitness_36 rfl (lv_at hl 2 rfl) ?_
          refine lv_aload_n hx hb dX6_fitness_37 rfl (lv_at hl 1 rfl) ?_
          refine lv_aload_n hx hb dX6_fitness_38 rfl (lv_at hl 1 rfl) ?_
          refine va_get (D := D) (ci := 7) (v := .ref (o 1)) (C := RX6) (T := TX6) (N := 22) hx hb hts inlX6 hown hK hP 0 rfl rfl 0 (by decide) (hts _ q_4_5) (fun _ h9 => h9) rfl dX6_fitness_39 ?_
          refine lv_iload hx hb dX6_fitness_42 (lv_at hl 3 rfl) ?_
          obtain ⟨q7, e7, h⟩ := bnd_some h
          refine s_call (As := [.int x5]) (rest := [.ref (o 1), .ref (o 0), .long x1]) (c_X6_at l x5 q7 e7) B k_X6_at q_11_4 rfl ⟨Nat.le_of_ble_eq_true rfl, Nat.le_of_ble_eq_true rfl⟩ ⟨Nat.le_refl _, Nat.le_refl _⟩ hl.1 rfl (Nat.le_of_ble_eq_true rfl) dX6_fitness_44 ?_
          obtain ⟨g8, h⟩ := grd_some h
          refine va_iald hx hb hK hP 1 0 rfl rfl (inb_in g8) dX6_fitness_47 ?_
          refine lv_iconst (v := (0 : Int32)) hx hb dX6_fitness_48 (by decide) ?_
          obtain ⟨q9, e9, h⟩ := bnd_some h
          refine f_call (As := [.int (m_s q7.toNatClampNeg), .int (0 : Int32)]) (rest := [.long x1]) (c_X6_finds l D o cI cJ (m_s q7.toNatClampNeg) (0 : Int32) m_s m_past m_kept m_spare m_paid m_pastPaid m_keptPaid m_sparePaid m_isKept m_pasts m_runs m_pad m_typed m_isStopped m_stop q6.2.1 m_best q6.2.2 m_bySets m_spot m_deeds m_deed q9 e9) B hK hDD hA hP hS rfl (va_recv hK hP (ci := 7) (q0 := 0) rfl rfl) k_X6_finds q_18_9 rfl ⟨Nat.le_of_ble_eq_true rfl, Nat.le_of_ble_eq_true rfl⟩ ⟨Nat.le_refl _, Nat.le_refl _⟩ hl.1 rfl (Nat.le_of_ble_eq_true rfl) dX6_fitness_49 (fun H locs hP hS => ?_)
          refine lv_ladd hx hb dX6_fitness_52 ?_
          refine lv_lstore_n (lv' := [(1, .long (x1 + q9.1)), (3, .long (x3 + q6.1)), (0, .ref (o 0)), (5, .int x5)]) hx hb dX6_fitness_53 rfl hl (by decide) rfl (fun ls hl => ?_)
          refine lv_iinc (v := (x5 + (1 : Int32))) (lv' := [(5, .int (x5 + (1 : Int32))), (1, .long (x1 + q9.1)), (3, .long (x3 + q6.1)), (0, .ref (o 0))]) hx hb dX6_fitness_54 hl (k := 3) rfl (congrArg (HAdd.hAdd x5) (by decide)) (by decide) rfl (fun ls hl => ?_)
          refine lv_goto (tgt := 7) hx hb dX6_fitness_57 (by decide) ?_
          exact ih7 (x1 + q9.1) (x3 + q6.1) (x5 + (1 : Int32)) q9.2.1 q9.2.2.1 q9.2.2.2 _ _ _ h hP hS (lv_sub hl [3, 1, 2, 0] rfl)
  unfold f_X6_fitness at h
  refine lv_lconst (v := (0 : Int64)) hx hb dX6_fitness_0 (by decide) ?_
  refine lv_lstore_n (lv' := [(1, .long (0 : Int64)), (0, .ref (o 0))]) hx hb dX6_fitness_1 rfl hl (by decide) rfl (fun ls hl => ?_)
  refine lv_lconst (v := (0 : Int64)) hx hb dX6_fitness_2 (by decide) ?_
  refine lv_lstore_n (lv' := [(3, .long (0 : Int64)), (1, .long (0 : Int64)), (0, .ref (o 0))]) hx hb dX6_fitness_3 rfl hl (by decide) rfl (fun ls hl => ?_)
  refine lv_iconst (v := (0 : Int32)) hx hb dX6_fitness_4 (by decide) ?_
  refine lv_istore (lv' := [(5, .int (0 : Int32)), (3, .long (0 : Int64)), (1, .long (0 : Int64)), (0, .ref (o 0))]) hx hb dX6_fitness_5 hl (by decide) rfl (fun ls hl => ?_)
  exact hL7 1024 (0 : Int64) (0 : Int64) (0 : Int32) m_order m_best m_many _ _ _ h hP hS (lv_sub hl [3, 2, 1, 0] rfl)

theorem k_X5_fitness : VOk yX5_fitness cX5_fitness 8 (some .double) 0 := ⟨q_32_18, q_32_16, q_32_17, q_1_2, by decide +kernel⟩
theorem k_X6_init : Cond.code yX6_init cX6_init 2 none ∈ wsL_law ∧ Cond.instanceMethod yX6_init ∈ wsL_law ∧ Cond.initialized (yX6_init).cls ∈ wsL_law ∧ (yX6_init).name = "<init>" ∧ ((yX6_init).cls ≠ "java/lang/invoke/MethodHandle" ∧ (yX6_init).cls ≠ "java/lang/invoke/VarHandle" ∧ (parseMethodDescriptor (yX6_init).desc).map (fun d => d.parameters.length) = some 0) := ⟨q_4_3, q_4_2, q_1_5, rfl, by decide +kernel⟩
def g_X5_fitness_L14b (ct : Nat → ClassId) (a0 : Nat) (this : Nat) (Post : DR → KH → Prop)  (k14 : Nat → Int64 → Int64 → Int32 → KH → Prop) (x1 : Nat) (x2 : Int64) (x4 : Int64) (x6 : Int32) (h : KH) : Prop :=
  rdR h this 6 0 (fun v2 => rdR h v2 5 3 (fun v3 => isO h v3 0 (g_Jx4a65c_size_8abf5 ct a0 v3 h (fun v4 h4 => if v4 ≤ x6 then if (lg_cmp x4 (0 : Int64)) ≤ (0 : Int32) then Post none h4
  else Post (some ((FP.l2d x2), (FP.l2d x4))) h4
  else rdR h4 this 6 0 (fun v7 => rdR h4 v7 5 3 (fun v8 => isO h4 v8 0 (g_Jx4a65c_get_915e3 ct a0 v8 x6 h4 (fun v9 h9 => isO h9 v9 1 (rdI h9 v9 1 0 (fun v11 => (∃ (o12 : Nat → Nat) (k_products_12 : Nat → Int64) (k_leastCosts_12 : Nat → Int64) (k_bestOrders_12 : Nat → Int32) (q12 : Int64), (o12 0 = x1) ∧ inW h9 (QW o12 ct k_products_12 k_leastCosts_12 k_bestOrders_12) ∧ f_X3_leastBySets v11 k_leastCosts_12 = some q12 ∧ rdI h9 v9 1 0 (fun v13 => rdI h9 v9 1 1 (fun v14 => (∃ (o15 : Nat → Nat) (k_products_15 : Nat → Int64) (k_leastCosts_15 : Nat → Int64) (k_bestOrders_15 : Nat → Int32) (q15 : Int64), (o15 0 = x1) ∧ inW h9 (QW o15 ct k_products_15 k_leastCosts_15 k_bestOrders_15) ∧ f_X3_costOf v13 v14 k_products_15 = some q15 ∧ k14 x1 (x2 + q12) (x4 + q15) (x6 + (1 : Int32)) h9))))))))))))))
def g_X5_fitness_L14 (ct : Nat → ClassId) (a0 : Nat) (this : Nat) (Post : DR → KH → Prop)  : Nat → Nat → Int64 → Int64 → Int32 → KH → Prop
  | 0 => fun _ _ _ _ _ => False
  | n + 1 => g_X5_fitness_L14b ct a0 this Post  (g_X5_fitness_L14 ct a0 this Post  n)
def g_X5_fitness (ct : Nat → ClassId) (a0 : Nat) (this : Nat) (h : KH) (Post : DR → KH → Prop) : Prop :=
  isO h this 6 (g_X5_reckoned ct a0 this (1 : Int32) h (fun v1 h1 => g_X5_fitness_L14 ct a0 this Post  1024 v1 (0 : Int64) (0 : Int64) (0 : Int32) h1))
set_option maxRecDepth 100000 in
set_option maxHeartbeats 4000000 in
theorem cg_X5_fitness (l : Launch) (D : va_G) (ct : Nat → ClassId) (a0 : Nat) (this : Nat) (h : KH) (Post : DR → KH → Prop) (hw : g_X5_fitness ct a0 this h Post) : CKD l yX5_fitness cX5_fitness 8 4 0 0 D ct a0 [.ref this] h Post := by
  refine CKD.mk (by decide) (Nat.le_of_ble_eq_true rfl) 95 100 dX5_fitness_95 dX5_fitness_96 (by decide) dX5_fitness_100 ?_
  intro p e s m below meth c Q A X hdiv hone hW hS ls hl
  obtain ⟨B, hin, hK, hN, hZ, hA⟩ := X
  have B0 := B
  obtain ⟨hx, hb, hml, hown, hts⟩ := B0
  have hl : lv_has ls 8 [(0, .ref this)] := hl
  have hL14 : ∀ (n14 : Nat), ∀ (x1 : Nat) (x2 : Int64) (x4 : Int64) (x6 : Int32) (h : KH) (ls : Array Slot) (H : Heap) (locs : List Loc), g_X5_fitness_L14 ct a0 this Post  n14 x1 x2 x4 x6 h → KW D A h H → va_S A s.heap H locs → lv_has ls 8 [(0, .ref this), (1, .ref x1), (2, .long x2), (4, .long x4), (6, .int x6)] → W p l e (rmF 4 0 0) s m ([.ref this] : List Value).toArray below meth c H locs 0 0 Q (F0 m 14 ls []) := by
    intro n14
    induction n14 with
    | zero =>
      intro x1 x2 x4 x6 h ls H locs hw
      exact (show False from hw).elim
    | succ n14 ih14 =>
      intro x1 x2 x4 x6 h ls H locs hw hW hS hl
      have hw : g_X5_fitness_L14b ct a0 this Post  (g_X5_fitness_L14 ct a0 this Post  n14) x1 x2 x4 x6 h := hw
      unfold g_X5_fitness_L14b at hw
      refine lv_iload hx hb dX5_fitness_14 (lv_at hl 4 rfl) ?_
      refine lv_aload_n hx hb dX5_fitness_16 rfl (lv_at hl 0 rfl) ?_
      obtain ⟨fs2, v2, e2, f2, hw⟩ := hw
      refine kw_get (ci := 6) (C := RX5) (T := TX5) (N := 7) hx hb hts inlX5 hown hK hW e2 rfl 0 (by decide) (hts _ q_1_15) (fun _ h9 => h9) f2 dX5_fitness_17 ?_
      obtain ⟨fs3, v3, e3, f3, hw⟩ := hw
      refine kw_get (ci := 5) (C := RX4) (T := TX4) (N := 14) hx hb hts inlX4 hown hK hW e3 rfl 3 (by decide) (hts _ q_13_11) (fun _ h9 => h9) f3 dX5_fitness_20 ?_
      obtain ⟨⟨fs4, e4⟩, hw⟩ := hw
      refine k_call (As := []) (rest := [.int x6]) (ci := 0) (cg_Jx4a65c_size_8abf5 l D ct a0 v3 h _ hw) B hK hN hZ hA hW hS e4 rfl k_Jx4a65c_size_8abf5 q_8_22 rfl ⟨Nat.le_of_ble_eq_true rfl, Nat.le_of_ble_eq_true rfl⟩ ⟨Nat.le_of_ble_eq_true rfl, Nat.le_of_ble_eq_true rfl⟩ hl.1 rfl (Nat.le_of_ble_eq_true rfl) dX5_fitness_23 (fun v4 h4 H locs hw hW hS => ?_)
      refine lv_icmp_ge (tgt := 83) hx hb dX5_fitness_26 (by decide) (fun c5 => ?_) (fun c5 => ?_)
      · have hw := itp c5 hw
        refine lv_lload hx hb dX5_fitness_83 (lv_at hl 3 rfl) ?_
        refine lv_lconst (v := (0 : Int64)) hx hb dX5_fitness_85 (by decide) ?_
        refine W.lcmp hx hb dX5_fitness_86 ?_
        refine lv_if_le (tgt := 99) hx hb dX5_fitness_87 (by decide) (fun c6 => ?_) (fun c6 => ?_)
        · have hw := itp c6 hw
          refine lv_dconst1 hx hb dX5_fitness_99 ?_
          refine W.widen (k := 0) (n := 0) (by omega) (by omega) ?_
          exact hone _ _ _ h4 hw hW hS
        · have hw := itn c6 hw
          refine lv_lload_n hx hb dX5_fitness_90 rfl (lv_at hl 2 rfl) ?_
          refine lv_l2d hx hb dX5_fitness_91 ?_
          refine lv_lload hx hb dX5_fitness_92 (lv_at hl 3 rfl) ?_
          refine lv_l2d hx hb dX5_fitness_94 ?_
          refine W.widen (k := 0) (n := 0) (by omega) (by omega) ?_
          exact hdiv _ _ _ _ _ h4 hw hW hS
      · have hw := itn c5 hw
        refine lv_aload_n hx hb dX5_fitness_29 rfl (lv_at hl 0 rfl) ?_
        obtain ⟨fs7, v7, e7, f7, hw⟩ := hw
        refine kw_get (ci := 6) (C := RX5) (T := TX5) (N := 7) hx hb hts inlX5 hown hK hW e7 rfl 0 (by decide) (hts _ q_1_15) (fun _ h9 => h9) f7 dX5_fitness_30 ?_
        obtain ⟨fs8, v8, e8, f8, hw⟩ := hw
        refine kw_get (ci := 5) (C := RX4) (T := TX4) (N := 14) hx hb hts inlX4 hown hK hW e8 rfl 3 (by decide) (hts _ q_13_11) (fun _ h9 => h9) f8 dX5_fitness_33 ?_
        refine lv_iload hx hb dX5_fitness_36 (lv_at hl 4 rfl) ?_
        obtain ⟨⟨fs9, e9⟩, hw⟩ := hw
        refine k_call (As := [.int x6]) (rest := []) (ci := 0) (cg_Jx4a65c_get_915e3 l D ct a0 v8 x6 h4 _ hw) B hK hN hZ hA hW hS e9 rfl k_Jx4a65c_get_915e3 q_13_19 rfl ⟨Nat.le_of_ble_eq_true rfl, Nat.le_of_ble_eq_true rfl⟩ ⟨Nat.le_of_ble_eq_true rfl, Nat.le_of_ble_eq_true rfl⟩ hl.1 rfl (Nat.le_of_ble_eq_true rfl) dX5_fitness_38 (fun v9 h9 H locs hw hW hS => ?_)
        obtain ⟨⟨xa10, e10⟩, hw⟩ := hw
        refine kw_castO (ci := 1) hx hb hown (hts _ q_13_12) hK hW e10 rfl dX5_fitness_41 ?_
        refine lv_astore (lv' := [(7, .ref v9), (0, .ref this), (1, .ref x1), (2, .long x2), (4, .long x4), (6, .int x6)]) hx hb dX5_fitness_44 hl (by decide) rfl (fun ls hl => ?_)
        refine lv_lload_n hx hb dX5_fitness_46 rfl (lv_at hl 3 rfl) ?_
        refine lv_aload_n hx hb dX5_fitness_47 rfl (lv_at hl 2 rfl) ?_
        refine lv_aload hx hb dX5_fitness_48 (lv_at hl 0 rfl) ?_
        obtain ⟨fs11, v11, e11, f11, hw⟩ := hw
        refine kw_get (ci := 1) (C := RX0) (T := TX0) (N := 5) hx hb hts inlX0 hown hK hW e11 rfl 0 (by decide) (hts _ q_32_19) (fun _ h9 => h9) f11 dX5_fitness_50 ?_
        obtain ⟨o12, k_products_12, k_leastCosts_12, k_bestOrders_12, q12, eo12_0, iw12, e12, hw⟩ := hw
        refine W.eq (g2 := F0 m 53 ls [.int v11, .ref (o12 0), .long x2]) (by first | (rw [eo12_0]; done) | (rw [eo12_0]; rfl)) ?_
        refine kf_call (As := [.int v11]) (rest := [.long x2]) (c_X3_leastBySets l D o12 ct v11 k_products_12 k_leastCosts_12 k_bestOrders_12 q12 e12) B hK hN hA hW hS iw12 rfl (iw12.1 _ _ (List.mem_of_getElem? (i := 0) rfl)) (ci := 4) rfl k_X3_leastBySets q_29_16 rfl ⟨Nat.le_of_ble_eq_true rfl, Nat.le_of_ble_eq_true rfl⟩ ⟨Nat.le_of_ble_eq_true rfl, Nat.le_of_ble_eq_true rfl⟩ hl.1 rfl (Nat.le_of_ble_eq_true rfl) dX5_fitness_53 (fun h12 H locs eh12 hW hS => ?_)
        rw [hupw_same iw12] at eh12
        rw [eh12] at hW
        refine lv_ladd hx hb dX5_fitness_56 ?_
        refine lv_lstore_n (lv' := [(2, .long (x2 + q12)), (7, .ref v9), (0, .ref this), (1, .ref x1), (4, .long x4), (6, .int x6)]) hx hb dX5_fitness_57 rfl hl (by decide) rfl (fun ls hl => ?_)
        refine lv_lload hx hb dX5_fitness_58 (lv_at hl 4 rfl) ?_
        refine lv_aload_n hx hb dX5_fitness_60 rfl (lv_at hl 3 rfl) ?_
        refine lv_aload hx hb dX5_fitness_61 (lv_at hl 1 rfl) ?_
        obtain ⟨fs13, v13, e13, f13, hw⟩ := hw
        refine kw_get (ci := 1) (C := RX0) (T := TX0) (N := 5) hx hb hts inlX0 hown hK hW e13 rfl 0 (by decide) (hts _ q_32_19) (fun _ h9 => h9) f13 dX5_fitness_63 ?_
        refine lv_aload hx hb dX5_fitness_66 (lv_at hl 1 rfl) ?_
        obtain ⟨fs14, v14, e14, f14, hw⟩ := hw
        refine kw_get (ci := 1) (C := RX0) (T := TX0) (N := 5) hx hb hts inlX0 hown hK hW e14 rfl 1 (by decide) (hts _ q_13_13) (fun _ h9 => h9) f14 dX5_fitness_68 ?_
        obtain ⟨o15, k_products_15, k_leastCosts_15, k_bestOrders_15, q15, eo15_0, iw15, e15, hw⟩ := hw
        refine W.eq (g2 := F0 m 71 ls [.int v14, .int v13, .ref (o15 0), .long x4]) (by first | (rw [eo15_0]; done) | (rw [eo15_0]; rfl)) ?_
        refine kf_call (As := [.int v13, .int v14]) (rest := [.long x4]) (c_X3_costOf l D o15 ct v13 v14 k_products_15 k_leastCosts_15 k_bestOrders_15 q15 e15) B hK hN hA hW hS iw15 rfl (iw15.1 _ _ (List.mem_of_getElem? (i := 0) rfl)) (ci := 4) rfl k_X3_costOf q_16_15 rfl ⟨Nat.le_of_ble_eq_true rfl, Nat.le_of_ble_eq_true rfl⟩ ⟨Nat.le_of_ble_eq_true rfl, Nat.le_of_ble_eq_true rfl⟩ hl.1 rfl (Nat.le_of_ble_eq_true rfl) dX5_fitness_71 (fun h15 H locs eh15 hW hS => ?_)
        rw [hupw_same iw15] at eh15
        rw [eh15] at hW
        refine lv_ladd hx hb dX5_fitness_74 ?_
        refine lv_lstore (lv' := [(4, .long (x4 + q15)), (2, .long (x2 + q12)), (7, .ref v9), (0, .ref this), (1, .ref x1), (6, .int x6)]) hx hb dX5_fitness_75 hl (by decide) rfl (fun ls hl => ?_)
        refine lv_iinc (v := (x6 + (1 : Int32))) (lv' := [(6, .int (x6 + (1 : Int32))), (4, .long (x4 + q15)), (2, .long (x2 + q12)), (7, .ref v9), (0, .ref this), (1, .ref x1)]) hx hb dX5_fitness_77 hl (k := 5) rfl (congrArg (HAdd.hAdd x6) (by decide)) (by decide) rfl (fun ls hl => ?_)
        refine lv_goto (tgt := 14) hx hb dX5_fitness_80 (by decide) ?_
        refine W.widen (k := 0) (n := 0) (by omega) (by omega) ?_
        exact ih14 x1 (x2 + q12) (x4 + q15) (x6 + (1 : Int32)) h9 _ _ _ hw hW hS (lv_sub hl [4, 5, 2, 1, 0] rfl)
  unfold g_X5_fitness at hw
  refine lv_aload_n hx hb dX5_fitness_0 rfl (lv_at hl 0 rfl) ?_
  refine lv_iconst (v := (1 : Int32)) hx hb dX5_fitness_1 (by decide) ?_
  obtain ⟨⟨fs1, e1⟩, hw⟩ := hw
  refine k_call (As := [.int (1 : Int32)]) (rest := []) (ci := 6) (cg_X5_reckoned l D ct a0 this (1 : Int32) h _ hw) B hK hN hZ hA hW hS e1 rfl k_X5_reckoned q_14_14 rfl ⟨Nat.le_of_ble_eq_true rfl, Nat.le_of_ble_eq_true rfl⟩ ⟨Nat.le_of_ble_eq_true rfl, Nat.le_of_ble_eq_true rfl⟩ hl.1 rfl (Nat.le_of_ble_eq_true rfl) dX5_fitness_2 (fun v1 h1 H locs hw hW hS => ?_)
  refine lv_astore_n (lv' := [(1, .ref v1), (0, .ref this)]) hx hb dX5_fitness_5 rfl hl (by decide) rfl (fun ls hl => ?_)
  refine lv_lconst (v := (0 : Int64)) hx hb dX5_fitness_6 (by decide) ?_
  refine lv_lstore_n (lv' := [(2, .long (0 : Int64)), (1, .ref v1), (0, .ref this)]) hx hb dX5_fitness_7 rfl hl (by decide) rfl (fun ls hl => ?_)
  refine lv_lconst (v := (0 : Int64)) hx hb dX5_fitness_8 (by decide) ?_
  refine lv_lstore (lv' := [(4, .long (0 : Int64)), (2, .long (0 : Int64)), (1, .ref v1), (0, .ref this)]) hx hb dX5_fitness_9 hl (by decide) rfl (fun ls hl => ?_)
  refine lv_iconst (v := (0 : Int32)) hx hb dX5_fitness_11 (by decide) ?_
  refine lv_istore (lv' := [(6, .int (0 : Int32)), (4, .long (0 : Int64)), (2, .long (0 : Int64)), (1, .ref v1), (0, .ref this)]) hx hb dX5_fitness_12 hl (by decide) rfl (fun ls hl => ?_)
  refine W.widen (k := 0) (n := 0) (by omega) (by omega) ?_
  exact hL14 1024 v1 (0 : Int64) (0 : Int64) (0 : Int32) h1 _ _ _ hw hW hS (lv_sub hl [4, 3, 2, 1, 0] rfl)

def g_X6_init_L146b (ct : Nat → ClassId) (a0 : Nat) (this : Nat) (Post : Unit → KH → Prop)  (k146 : Int32 → KH → Prop) (x1 : Int32) (h : KH) : Prop :=
  if (25 : Int32) ≤ x1 then rdR h this 7 0 (fun v32 => stI h v32 (35 : Int32) (ct 0) (200 : Int32) (fun h33 => Post () h33))
  else rdR h this 7 0 (fun v34 => stI h v34 ((10 : Int32) + x1) (ct 0) (100 : Int32) (fun h35 => k146 (x1 + (1 : Int32)) h35))
def g_X6_init_L146 (ct : Nat → ClassId) (a0 : Nat) (this : Nat) (Post : Unit → KH → Prop)  : Nat → Int32 → KH → Prop
  | 0 => fun _ _ => False
  | n + 1 => g_X6_init_L146b ct a0 this Post  (g_X6_init_L146 ct a0 this Post  n)
def g_X6_init_L113b (ct : Nat → ClassId) (a0 : Nat) (this : Nat) (Post : Unit → KH → Prop)  (k113 : Int32 → KH → Prop) (x1 : Int32) (h : KH) : Prop :=
  if (5 : Int32) ≤ x1 then g_X6_init_L146 ct a0 this Post  1024 (0 : Int32) h
  else rdR h this 7 0 (fun v36 => stI h v36 ((0 : Int32) + x1) (ct 0) (10 : Int32) (fun h37 => rdR h37 this 7 0 (fun v38 => stI h37 v38 ((5 : Int32) + x1) (ct 0) (10 : Int32) (fun h39 => k113 (x1 + (1 : Int32)) h39))))
def g_X6_init_L113 (ct : Nat → ClassId) (a0 : Nat) (this : Nat) (Post : Unit → KH → Prop)  : Nat → Int32 → KH → Prop
  | 0 => fun _ _ => False
  | n + 1 => g_X6_init_L113b ct a0 this Post  (g_X6_init_L113 ct a0 this Post  n)
def g_X6_init (ct : Nat → ClassId) (a0 : Nat) (this : Nat) (h : KH) (Post : Unit → KH → Prop) : Prop :=
  nwC h (.inl (ct 0, 100, .inl (fun _ => 0))) (fun q2 h2 => wrF h2 this 7 0 (.ref q2) (fun h3 => nwC h3 (.inl (ct 0, 400, .inl (fun _ => 0))) (fun q4 h4 => wrF h4 this 7 1 (.ref q4) (fun h5 => nwC h5 (.inl (ct 0, 100, .inl (fun _ => 0))) (fun q6 h6 => wrF h6 this 7 2 (.ref q6) (fun h7 => nwC h7 (.inl (ct 0, 100, .inl (fun _ => 0))) (fun q8 h8 => wrF h8 this 7 3 (.ref q8) (fun h9 => nwC h9 (.inl (ct 1, 2, .inr (.inl (fun _ => 0)))) (fun q10 h10 => wrF h10 this 7 4 (.ref q10) (fun h11 => nwC h11 (.inl (ct 1, 8, .inr (.inl (fun _ => 0)))) (fun q12 h12 => wrF h12 this 7 5 (.ref q12) (fun h13 => nwC h13 (.inl (ct 1, 2, .inr (.inl (fun _ => 0)))) (fun q14 h14 => wrF h14 this 7 6 (.ref q14) (fun h15 => nwC h15 (.inl (ct 1, 2, .inr (.inl (fun _ => 0)))) (fun q16 h16 => wrF h16 this 7 7 (.ref q16) (fun h17 => nwC h17 (.inl (ct 0, 60, .inl (fun _ => 0))) (fun q18 h18 => wrF h18 this 7 11 (.ref q18) (fun h19 => nwC h19 (.inl (ct 0, 2, .inl (fun _ => 0))) (fun q20 h20 => wrF h20 this 7 14 (.ref q20) (fun h21 => nwC h21 (.inl (ct 0, 5, .inl (fun _ => 0))) (fun q22 h22 => wrF h22 this 7 15 (.ref q22) (fun h23 => nwC h23 (.inl (ct 0, 5, .inl (fun _ => 0))) (fun q24 h24 => wrF h24 this 7 16 (.ref q24) (fun h25 => nwC h25 (.inl (ct 1, 32, .inr (.inl (fun _ => 0)))) (fun q26 h26 => wrF h26 this 7 18 (.ref q26) (fun h27 => nwC h27 (.inl (ct 0, 124, .inl (fun _ => 0))) (fun q28 h28 => wrF h28 this 7 21 (.ref q28) (fun h29 => g_X6_init_L113 ct a0 this Post  1024 (0 : Int32) h29))))))))))))))))))))))))))))
set_option maxRecDepth 100000 in
set_option maxHeartbeats 4000000 in
theorem cg_X6_init (l : Launch) (D : va_G) (ct : Nat → ClassId) (a0 : Nat) (this : Nat) (h : KH) (Post : Unit → KH → Prop) (hw : g_X6_init ct a0 this h Post) : CK l yX6_init cX6_init 2 1 14 942 none D ct a0 [.ref this] vV h Post := by
  refine CK.mkV (by decide) (Nat.le_of_ble_eq_true rfl) ?_
  intro p e s m below meth c Q A X hret hW hS ls hl
  obtain ⟨B, hin, hK, hN, hZ, hA⟩ := X
  have B0 := B
  obtain ⟨hx, hb, hml, hown, hts⟩ := B0
  have hl : lv_has ls 2 [(0, .ref this)] := hl
  have hL146 : ∀ (n146 : Nat), ∀ (x1 : Int32) (h : KH) (ls : Array Slot) (H : Heap) (locs : List Loc), g_X6_init_L146 ct a0 this Post  n146 x1 h → KW D A h H → va_S A s.heap H locs → lv_has ls 2 [(0, .ref this), (1, .int x1)] → W p l e (rmF 1 14 942) s m ([.ref this] : List Value).toArray below meth c H locs 14 942 Q (F0 m 146 ls []) := by
    intro n146
    induction n146 with
    | zero =>
      intro x1 h ls H locs hw
      exact (show False from hw).elim
    | succ n146 ih146 =>
      intro x1 h ls H locs hw hW hS hl
      have hw : g_X6_init_L146b ct a0 this Post  (g_X6_init_L146 ct a0 this Post  n146) x1 h := hw
      unfold g_X6_init_L146b at hw
      refine lv_iload_n hx hb dX6_init_146 rfl (lv_at hl 1 rfl) ?_
      refine lv_bipush (v := (25 : Int32)) hx hb dX6_init_147 (by decide) ?_
      refine lv_icmp_ge (tgt := 169) hx hb dX6_init_149 (by decide) (fun c31 => ?_) (fun c31 => ?_)
      · have hw := itp c31 hw
        refine lv_aload_n hx hb dX6_init_169 rfl (lv_at hl 0 rfl) ?_
        obtain ⟨fs32, v32, e32, f32, hw⟩ := hw
        refine kw_get (ci := 7) (C := RX6) (T := TX6) (N := 22) hx hb hts inlX6 hown hK hW e32 rfl 0 (by decide) (hts _ q_4_5) (fun _ h9 => h9) f32 dX6_init_170 ?_
        refine lv_bipush (v := (35 : Int32)) hx hb dX6_init_173 (by decide) ?_
        refine lv_sipush (v := (200 : Int32)) hx hb dX6_init_175 (by decide) ?_
        obtain ⟨n33, f33, e33, g33, hw⟩ := hw
        refine kw_iast hx hb hK hW hS 0 e33 rfl g33 dX6_init_178 (fun H locs h33 eh33 hW hS => ?_)
        have hw := hw h33 eh33
        exact hret _ _ _ _ h33 dX6_init_179 hw hW hS
      · have hw := itn c31 hw
        refine lv_aload_n hx hb dX6_init_152 rfl (lv_at hl 0 rfl) ?_
        obtain ⟨fs34, v34, e34, f34, hw⟩ := hw
        refine kw_get (ci := 7) (C := RX6) (T := TX6) (N := 22) hx hb hts inlX6 hown hK hW e34 rfl 0 (by decide) (hts _ q_4_5) (fun _ h9 => h9) f34 dX6_init_153 ?_
        refine lv_bipush (v := (10 : Int32)) hx hb dX6_init_156 (by decide) ?_
        refine lv_iload_n hx hb dX6_init_158 rfl (lv_at hl 1 rfl) ?_
        refine lv_iadd hx hb dX6_init_159 ?_
        refine lv_bipush (v := (100 : Int32)) hx hb dX6_init_160 (by decide) ?_
        obtain ⟨n35, f35, e35, g35, hw⟩ := hw
        refine kw_iast hx hb hK hW hS 0 e35 rfl g35 dX6_init_162 (fun H locs h35 eh35 hW hS => ?_)
        have hw := hw h35 eh35
        refine lv_iinc (v := (x1 + (1 : Int32))) (lv' := [(1, .int (x1 + (1 : Int32))), (0, .ref this)]) hx hb dX6_init_163 hl (k := 1) rfl (congrArg (HAdd.hAdd x1) (by decide)) (by decide) rfl (fun ls hl => ?_)
        refine lv_goto (tgt := 146) hx hb dX6_init_166 (by decide) ?_
        exact ih146 (x1 + (1 : Int32)) h35 _ _ _ hw hW hS (lv_sub hl [1, 0] rfl)
  have hL113 : ∀ (n113 : Nat), ∀ (x1 : Int32) (h : KH) (ls : Array Slot) (H : Heap) (locs : List Loc), g_X6_init_L113 ct a0 this Post  n113 x1 h → KW D A h H → va_S A s.heap H locs → lv_has ls 2 [(0, .ref this), (1, .int x1)] → W p l e (rmF 1 14 942) s m ([.ref this] : List Value).toArray below meth c H locs 14 942 Q (F0 m 113 ls []) := by
    intro n113
    induction n113 with
    | zero =>
      intro x1 h ls H locs hw
      exact (show False from hw).elim
    | succ n113 ih113 =>
      intro x1 h ls H locs hw hW hS hl
      have hw : g_X6_init_L113b ct a0 this Post  (g_X6_init_L113 ct a0 this Post  n113) x1 h := hw
      unfold g_X6_init_L113b at hw
      refine lv_iload_n hx hb dX6_init_113 rfl (lv_at hl 1 rfl) ?_
      refine lv_iconst (v := (5 : Int32)) hx hb dX6_init_114 (by decide) ?_
      refine lv_icmp_ge (tgt := 144) hx hb dX6_init_115 (by decide) (fun c30 => ?_) (fun c30 => ?_)
      · have hw := itp c30 hw
        refine lv_iconst (v := (0 : Int32)) hx hb dX6_init_144 (by decide) ?_
        refine lv_istore_n (lv' := [(1, .int (0 : Int32)), (0, .ref this)]) hx hb dX6_init_145 rfl hl (by decide) rfl (fun ls hl => ?_)
        exact hL146 1024 (0 : Int32) h _ _ _ hw hW hS (lv_sub hl [1, 0] rfl)
      · have hw := itn c30 hw
        refine lv_aload_n hx hb dX6_init_118 rfl (lv_at hl 0 rfl) ?_
        obtain ⟨fs36, v36, e36, f36, hw⟩ := hw
        refine kw_get (ci := 7) (C := RX6) (T := TX6) (N := 22) hx hb hts inlX6 hown hK hW e36 rfl 0 (by decide) (hts _ q_4_5) (fun _ h9 => h9) f36 dX6_init_119 ?_
        refine lv_iconst (v := (0 : Int32)) hx hb dX6_init_122 (by decide) ?_
        refine lv_iload_n hx hb dX6_init_123 rfl (lv_at hl 1 rfl) ?_
        refine lv_iadd hx hb dX6_init_124 ?_
        refine lv_bipush (v := (10 : Int32)) hx hb dX6_init_125 (by decide) ?_
        obtain ⟨n37, f37, e37, g37, hw⟩ := hw
        refine kw_iast hx hb hK hW hS 0 e37 rfl g37 dX6_init_127 (fun H locs h37 eh37 hW hS => ?_)
        have hw := hw h37 eh37
        refine lv_aload_n hx hb dX6_init_128 rfl (lv_at hl 0 rfl) ?_
        obtain ⟨fs38, v38, e38, f38, hw⟩ := hw
        refine kw_get (ci := 7) (C := RX6) (T := TX6) (N := 22) hx hb hts inlX6 hown hK hW e38 rfl 0 (by decide) (hts _ q_4_5) (fun _ h9 => h9) f38 dX6_init_129 ?_
        refine lv_iconst (v := (5 : Int32)) hx hb dX6_init_132 (by decide) ?_
        refine lv_iload_n hx hb dX6_init_133 rfl (lv_at hl 1 rfl) ?_
        refine lv_iadd hx hb dX6_init_134 ?_
        refine lv_bipush (v := (10 : Int32)) hx hb dX6_init_135 (by decide) ?_
        obtain ⟨n39, f39, e39, g39, hw⟩ := hw
        refine kw_iast hx hb hK hW hS 0 e39 rfl g39 dX6_init_137 (fun H locs h39 eh39 hW hS => ?_)
        have hw := hw h39 eh39
        refine lv_iinc (v := (x1 + (1 : Int32))) (lv' := [(1, .int (x1 + (1 : Int32))), (0, .ref this)]) hx hb dX6_init_138 hl (k := 1) rfl (congrArg (HAdd.hAdd x1) (by decide)) (by decide) rfl (fun ls hl => ?_)
        refine lv_goto (tgt := 113) hx hb dX6_init_141 (by decide) ?_
        exact ih113 (x1 + (1 : Int32)) h39 _ _ _ hw hW hS (lv_sub hl [1, 0] rfl)
  unfold g_X6_init at hw
  refine lv_aload_n hx hb dX6_init_0 rfl (lv_at hl 0 rfl) ?_
  refine W.objInit hx hb hown (hts _ q_4_4) (hts _ q_1_10) (hts _ q_1_11) rfl (by rw [hml]; exact hl.1) rfl dX6_init_1 (Nat.le_of_ble_eq_true rfl) (Nat.le_of_ble_eq_true rfl) ?_
  refine W.eq (g2 := F0 m 4 ls []) rfl ?_
  refine lv_aload_n hx hb dX6_init_4 rfl (lv_at hl 0 rfl) ?_
  refine lv_bipush (v := (100 : Int32)) hx hb dX6_init_5 (by decide) ?_
  refine kw_newa (atype := .int) (a0 := (100, .inl (fun _ => 0))) (n := (100 : Int32)) (N' := 100) hx hb (hts _ q_2_11) rfl hK 0 rfl hW hS hA (fun _ => rfl) (by decide) (by decide) (by decide) (Nat.le_of_ble_eq_true rfl) (Nat.le_of_ble_eq_true rfl) dX6_init_7 (fun q2 H h2 n2 eh2 hW hS => ?_)
  have hw := hw q2 h2 n2 eh2
  obtain ⟨fs3, e3, l3, hw⟩ := hw
  refine kw_putF (ci := 7) (v := .ref q2) (ty := .array .int) (C := RX6) (T := TX6) (N := 22) hx hb hts inlX6 tyX6 tyX6_ok nmX6 hown hK hW hS e3 rfl 0 (by decide) (hts _ q_4_5) (fun _ h9 => h9) rfl hin rfl (by decide +kernel) rfl rfl l3 dX6_init_9 (fun H locs h3 eh3 hW hS => ?_)
  have hw := hw h3 eh3
  refine lv_aload_n hx hb dX6_init_12 rfl (lv_at hl 0 rfl) ?_
  refine lv_sipush (v := (400 : Int32)) hx hb dX6_init_13 (by decide) ?_
  refine kw_newa (atype := .int) (a0 := (400, .inl (fun _ => 0))) (n := (400 : Int32)) (N' := 400) hx hb (hts _ q_2_11) rfl hK 0 rfl hW hS hA (fun _ => rfl) (by decide) (by decide) (by decide) (Nat.le_of_ble_eq_true rfl) (Nat.le_of_ble_eq_true rfl) dX6_init_16 (fun q4 H h4 n4 eh4 hW hS => ?_)
  have hw := hw q4 h4 n4 eh4
  obtain ⟨fs5, e5, l5, hw⟩ := hw
  refine kw_putF (ci := 7) (v := .ref q4) (ty := .array .int) (C := RX6) (T := TX6) (N := 22) hx hb hts inlX6 tyX6 tyX6_ok nmX6 hown hK hW hS e5 rfl 1 (by decide) (hts _ q_4_6) (fun _ h9 => h9) rfl hin rfl (by decide +kernel) rfl rfl l5 dX6_init_18 (fun H locs h5 eh5 hW hS => ?_)
  have hw := hw h5 eh5
  refine lv_aload_n hx hb dX6_init_21 rfl (lv_at hl 0 rfl) ?_
  refine lv_bipush (v := (100 : Int32)) hx hb dX6_init_22 (by decide) ?_
  refine kw_newa (atype := .int) (a0 := (100, .inl (fun _ => 0))) (n := (100 : Int32)) (N' := 100) hx hb (hts _ q_2_11) rfl hK 0 rfl hW hS hA (fun _ => rfl) (by decide) (by decide) (by decide) (Nat.le_of_ble_eq_true rfl) (Nat.le_of_ble_eq_true rfl) dX6_init_24 (fun q6 H h6 n6 eh6 hW hS => ?_)
  have hw := hw q6 h6 n6 eh6
  obtain ⟨fs7, e7, l7, hw⟩ := hw
  refine kw_putF (ci := 7) (v := .ref q6) (ty := .array .int) (C := RX6) (T := TX6) (N := 22) hx hb hts inlX6 tyX6 tyX6_ok nmX6 hown hK hW hS e7 rfl 2 (by decide) (hts _ q_4_7) (fun _ h9 => h9) rfl hin rfl (by decide +kernel) rfl rfl l7 dX6_init_26 (fun H locs h7 eh7 hW hS => ?_)
  have hw := hw h7 eh7
  refine lv_aload_n hx hb dX6_init_29 rfl (lv_at hl 0 rfl) ?_
  refine lv_bipush (v := (100 : Int32)) hx hb dX6_init_30 (by decide) ?_
  refine kw_newa (atype := .int) (a0 := (100, .inl (fun _ => 0))) (n := (100 : Int32)) (N' := 100) hx hb (hts _ q_2_11) rfl hK 0 rfl hW hS hA (fun _ => rfl) (by decide) (by decide) (by decide) (Nat.le_of_ble_eq_true rfl) (Nat.le_of_ble_eq_true rfl) dX6_init_32 (fun q8 H h8 n8 eh8 hW hS => ?_)
  have hw := hw q8 h8 n8 eh8
  obtain ⟨fs9, e9, l9, hw⟩ := hw
  refine kw_putF (ci := 7) (v := .ref q8) (ty := .array .int) (C := RX6) (T := TX6) (N := 22) hx hb hts inlX6 tyX6 tyX6_ok nmX6 hown hK hW hS e9 rfl 3 (by decide) (hts _ q_4_8) (fun _ h9 => h9) rfl hin rfl (by decide +kernel) rfl rfl l9 dX6_init_34 (fun H locs h9 eh9 hW hS => ?_)
  have hw := hw h9 eh9
  refine lv_aload_n hx hb dX6_init_37 rfl (lv_at hl 0 rfl) ?_
  refine lv_iconst (v := (2 : Int32)) hx hb dX6_init_38 (by decide) ?_
  refine kw_newa (atype := .long) (a0 := (2, .inr (.inl (fun _ => 0)))) (n := (2 : Int32)) (N' := 2) hx hb (hts _ q_3_15) rfl hK 1 rfl hW hS hA (fun _ => rfl) (by decide) (by decide) (by decide) (Nat.le_of_ble_eq_true rfl) (Nat.le_of_ble_eq_true rfl) dX6_init_39 (fun q10 H h10 n10 eh10 hW hS => ?_)
  have hw := hw q10 h10 n10 eh10
  obtain ⟨fs11, e11, l11, hw⟩ := hw
  refine kw_putF (ci := 7) (v := .ref q10) (ty := .array .long) (C := RX6) (T := TX6) (N := 22) hx hb hts inlX6 tyX6 tyX6_ok nmX6 hown hK hW hS e11 rfl 4 (by decide) (hts _ q_4_9) (fun _ h9 => h9) rfl hin rfl (by decide +kernel) rfl rfl l11 dX6_init_41 (fun H locs h11 eh11 hW hS => ?_)
  have hw := hw h11 eh11
  refine lv_aload_n hx hb dX6_init_44 rfl (lv_at hl 0 rfl) ?_
  refine lv_bipush (v := (8 : Int32)) hx hb dX6_init_45 (by decide) ?_
  refine kw_newa (atype := .long) (a0 := (8, .inr (.inl (fun _ => 0)))) (n := (8 : Int32)) (N' := 8) hx hb (hts _ q_3_15) rfl hK 1 rfl hW hS hA (fun _ => rfl) (by decide) (by decide) (by decide) (Nat.le_of_ble_eq_true rfl) (Nat.le_of_ble_eq_true rfl) dX6_init_47 (fun q12 H h12 n12 eh12 hW hS => ?_)
  have hw := hw q12 h12 n12 eh12
  obtain ⟨fs13, e13, l13, hw⟩ := hw
  refine kw_putF (ci := 7) (v := .ref q12) (ty := .array .long) (C := RX6) (T := TX6) (N := 22) hx hb hts inlX6 tyX6 tyX6_ok nmX6 hown hK hW hS e13 rfl 5 (by decide) (hts _ q_4_10) (fun _ h9 => h9) rfl hin rfl (by decide +kernel) rfl rfl l13 dX6_init_49 (fun H locs h13 eh13 hW hS => ?_)
  have hw := hw h13 eh13
  refine lv_aload_n hx hb dX6_init_52 rfl (lv_at hl 0 rfl) ?_
  refine lv_iconst (v := (2 : Int32)) hx hb dX6_init_53 (by decide) ?_
  refine kw_newa (atype := .long) (a0 := (2, .inr (.inl (fun _ => 0)))) (n := (2 : Int32)) (N' := 2) hx hb (hts _ q_3_15) rfl hK 1 rfl hW hS hA (fun _ => rfl) (by decide) (by decide) (by decide) (Nat.le_of_ble_eq_true rfl) (Nat.le_of_ble_eq_true rfl) dX6_init_54 (fun q14 H h14 n14 eh14 hW hS => ?_)
  have hw := hw q14 h14 n14 eh14
  obtain ⟨fs15, e15, l15, hw⟩ := hw
  refine kw_putF (ci := 7) (v := .ref q14) (ty := .array .long) (C := RX6) (T := TX6) (N := 22) hx hb hts inlX6 tyX6 tyX6_ok nmX6 hown hK hW hS e15 rfl 6 (by decide) (hts _ q_4_11) (fun _ h9 => h9) rfl hin rfl (by decide +kernel) rfl rfl l15 dX6_init_56 (fun H locs h15 eh15 hW hS => ?_)
  have hw := hw h15 eh15
  refine lv_aload_n hx hb dX6_init_59 rfl (lv_at hl 0 rfl) ?_
  refine lv_iconst (v := (2 : Int32)) hx hb dX6_init_60 (by decide) ?_
  refine kw_newa (atype := .long) (a0 := (2, .inr (.inl (fun _ => 0)))) (n := (2 : Int32)) (N' := 2) hx hb (hts _ q_3_15) rfl hK 1 rfl hW hS hA (fun _ => rfl) (by decide) (by decide) (by decide) (Nat.le_of_ble_eq_true rfl) (Nat.le_of_ble_eq_true rfl) dX6_init_61 (fun q16 H h16 n16 eh16 hW hS => ?_)
  have hw := hw q16 h16 n16 eh16
  obtain ⟨fs17, e17, l17, hw⟩ := hw
  refine kw_putF (ci := 7) (v := .ref q16) (ty := .array .long) (C := RX6) (T := TX6) (N := 22) hx hb hts inlX6 tyX6 tyX6_ok nmX6 hown hK hW hS e17 rfl 7 (by decide) (hts _ q_4_12) (fun _ h9 => h9) rfl hin rfl (by decide +kernel) rfl rfl l17 dX6_init_63 (fun H locs h17 eh17 hW hS => ?_)
  have hw := hw h17 eh17
  refine lv_aload_n hx hb dX6_init_66 rfl (lv_at hl 0 rfl) ?_
  refine lv_bipush (v := (60 : Int32)) hx hb dX6_init_67 (by decide) ?_
  refine kw_newa (atype := .int) (a0 := (60, .inl (fun _ => 0))) (n := (60 : Int32)) (N' := 60) hx hb (hts _ q_2_11) rfl hK 0 rfl hW hS hA (fun _ => rfl) (by decide) (by decide) (by decide) (Nat.le_of_ble_eq_true rfl) (Nat.le_of_ble_eq_true rfl) dX6_init_69 (fun q18 H h18 n18 eh18 hW hS => ?_)
  have hw := hw q18 h18 n18 eh18
  obtain ⟨fs19, e19, l19, hw⟩ := hw
  refine kw_putF (ci := 7) (v := .ref q18) (ty := .array .int) (C := RX6) (T := TX6) (N := 22) hx hb hts inlX6 tyX6 tyX6_ok nmX6 hown hK hW hS e19 rfl 11 (by decide) (hts _ q_4_13) (fun _ h9 => h9) rfl hin rfl (by decide +kernel) rfl rfl l19 dX6_init_71 (fun H locs h19 eh19 hW hS => ?_)
  have hw := hw h19 eh19
  refine lv_aload_n hx hb dX6_init_74 rfl (lv_at hl 0 rfl) ?_
  refine lv_iconst (v := (2 : Int32)) hx hb dX6_init_75 (by decide) ?_
  refine kw_newa (atype := .int) (a0 := (2, .inl (fun _ => 0))) (n := (2 : Int32)) (N' := 2) hx hb (hts _ q_2_11) rfl hK 0 rfl hW hS hA (fun _ => rfl) (by decide) (by decide) (by decide) (Nat.le_of_ble_eq_true rfl) (Nat.le_of_ble_eq_true rfl) dX6_init_76 (fun q20 H h20 n20 eh20 hW hS => ?_)
  have hw := hw q20 h20 n20 eh20
  obtain ⟨fs21, e21, l21, hw⟩ := hw
  refine kw_putF (ci := 7) (v := .ref q20) (ty := .array .int) (C := RX6) (T := TX6) (N := 22) hx hb hts inlX6 tyX6 tyX6_ok nmX6 hown hK hW hS e21 rfl 14 (by decide) (hts _ q_4_14) (fun _ h9 => h9) rfl hin rfl (by decide +kernel) rfl rfl l21 dX6_init_78 (fun H locs h21 eh21 hW hS => ?_)
  have hw := hw h21 eh21
  refine lv_aload_n hx hb dX6_init_81 rfl (lv_at hl 0 rfl) ?_
  refine lv_iconst (v := (5 : Int32)) hx hb dX6_init_82 (by decide) ?_
  refine kw_newa (atype := .int) (a0 := (5, .inl (fun _ => 0))) (n := (5 : Int32)) (N' := 5) hx hb (hts _ q_2_11) rfl hK 0 rfl hW hS hA (fun _ => rfl) (by decide) (by decide) (by decide) (Nat.le_of_ble_eq_true rfl) (Nat.le_of_ble_eq_true rfl) dX6_init_83 (fun q22 H h22 n22 eh22 hW hS => ?_)
  have hw := hw q22 h22 n22 eh22
  obtain ⟨fs23, e23, l23, hw⟩ := hw
  refine kw_putF (ci := 7) (v := .ref q22) (ty := .array .int) (C := RX6) (T := TX6) (N := 22) hx hb hts inlX6 tyX6 tyX6_ok nmX6 hown hK hW hS e23 rfl 15 (by decide) (hts _ q_4_15) (fun _ h9 => h9) rfl hin rfl (by decide +kernel) rfl rfl l23 dX6_init_85 (fun H locs h23 eh23 hW hS => ?_)
  have hw := hw h23 eh23
  refine lv_aload_n hx hb dX6_init_88 rfl (lv_at hl 0 rfl) ?_
  refine lv_iconst (v := (5 : Int32)) hx hb dX6_init_89 (by decide) ?_
  refine kw_newa (atype := .int) (a0 := (5, .inl (fun _ => 0))) (n := (5 : Int32)) (N' := 5) hx hb (hts _ q_2_11) rfl hK 0 rfl hW hS hA (fun _ => rfl) (by decide) (by decide) (by decide) (Nat.le_of_ble_eq_true rfl) (Nat.le_of_ble_eq_true rfl) dX6_init_90 (fun q24 H h24 n24 eh24 hW hS => ?_)
  have hw := hw q24 h24 n24 eh24
  obtain ⟨fs25, e25, l25, hw⟩ := hw
  refine kw_putF (ci := 7) (v := .ref q24) (ty := .array .int) (C := RX6) (T := TX6) (N := 22) hx hb hts inlX6 tyX6 tyX6_ok nmX6 hown hK hW hS e25 rfl 16 (by decide) (hts _ q_4_16) (fun _ h9 => h9) rfl hin rfl (by decide +kernel) rfl rfl l25 dX6_init_92 (fun H locs h25 eh25 hW hS => ?_)
  have hw := hw h25 eh25
  refine lv_aload_n hx hb dX6_init_95 rfl (lv_at hl 0 rfl) ?_
  refine lv_bipush (v := (32 : Int32)) hx hb dX6_init_96 (by decide) ?_
  refine kw_newa (atype := .long) (a0 := (32, .inr (.inl (fun _ => 0)))) (n := (32 : Int32)) (N' := 32) hx hb (hts _ q_3_15) rfl hK 1 rfl hW hS hA (fun _ => rfl) (by decide) (by decide) (by decide) (Nat.le_of_ble_eq_true rfl) (Nat.le_of_ble_eq_true rfl) dX6_init_98 (fun q26 H h26 n26 eh26 hW hS => ?_)
  have hw := hw q26 h26 n26 eh26
  obtain ⟨fs27, e27, l27, hw⟩ := hw
  refine kw_putF (ci := 7) (v := .ref q26) (ty := .array .long) (C := RX6) (T := TX6) (N := 22) hx hb hts inlX6 tyX6 tyX6_ok nmX6 hown hK hW hS e27 rfl 18 (by decide) (hts _ q_4_17) (fun _ h9 => h9) rfl hin rfl (by decide +kernel) rfl rfl l27 dX6_init_100 (fun H locs h27 eh27 hW hS => ?_)
  have hw := hw h27 eh27
  refine lv_aload_n hx hb dX6_init_103 rfl (lv_at hl 0 rfl) ?_
  refine lv_bipush (v := (124 : Int32)) hx hb dX6_init_104 (by decide) ?_
  refine kw_newa (atype := .int) (a0 := (124, .inl (fun _ => 0))) (n := (124 : Int32)) (N' := 124) hx hb (hts _ q_2_11) rfl hK 0 rfl hW hS hA (fun _ => rfl) (by decide) (by decide) (by decide) (Nat.le_of_ble_eq_true rfl) (Nat.le_of_ble_eq_true rfl) dX6_init_106 (fun q28 H h28 n28 eh28 hW hS => ?_)
  have hw := hw q28 h28 n28 eh28
  obtain ⟨fs29, e29, l29, hw⟩ := hw
  refine kw_putF (ci := 7) (v := .ref q28) (ty := .array .int) (C := RX6) (T := TX6) (N := 22) hx hb hts inlX6 tyX6 tyX6_ok nmX6 hown hK hW hS e29 rfl 21 (by decide) (hts _ q_4_18) (fun _ h9 => h9) rfl hin rfl (by decide +kernel) rfl rfl l29 dX6_init_108 (fun H locs h29 eh29 hW hS => ?_)
  have hw := hw h29 eh29
  refine lv_iconst (v := (0 : Int32)) hx hb dX6_init_111 (by decide) ?_
  refine lv_istore_n (lv' := [(1, .int (0 : Int32)), (0, .ref this)]) hx hb dX6_init_112 rfl hl (by decide) rfl (fun ls hl => ?_)
  refine W.widen (k := 14) (n := 942) (by omega) (by omega) ?_
  exact hL113 1024 (0 : Int32) h29 _ _ _ hw hW hS (lv_sub hl [1, 0] rfl)
