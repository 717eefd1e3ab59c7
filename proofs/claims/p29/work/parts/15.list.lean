/-! ArrayList over the known heap: laid by wip/whole/genk.py -/
theorem bta {α : Type} {x y : α} {K : α → Prop} (e : x = y) (h : K y) : K x := e ▸ h
theorem hupw_same {h : KH} {w : va_W} (hw : inW h w) : hupw h w = h := by
  funext a
  unfold hupw
  cases hl : lkw w a with
  | none => rfl
  | some e => exact (hw.1 a e (lkw_mem hl)).symm
theorem c_J3_checkIndex_8e157 (l : Launch) (a1 a2 : Int32) (h0 : ¬ a1 < 0) (h1 : a1 < a2) : CS l yJ3_checkIndex_8e157 cJ3_checkIndex_8e157 3 0 (some .int) [.int a1, .int a2, .null] (some (.int a1)) := by
  refine CS.mkI (by decide) (Nat.le_of_ble_eq_true rfl) ?_
  intro p e s m below meth c Q B hret ls hl
  obtain ⟨hx, hb, hml, hown, hts⟩ := B
  have hl : lv_has ls 3 [(0, .int a1), (1, .int a2), (2, .null)] := hl
  refine lv_iload_n hx hb dJ3_checkIndex_8e157_0 rfl (lv_at hl 0 rfl) ?_
  refine lv_if_lt (tgt := 9) hx hb dJ3_checkIndex_8e157_1 (by decide) (fun c1 => absurd c1 h0) (fun _ => ?_)
  refine lv_iload_n hx hb dJ3_checkIndex_8e157_4 rfl (lv_at hl 0 rfl) ?_
  refine lv_iload_n hx hb dJ3_checkIndex_8e157_5 rfl (lv_at hl 1 rfl) ?_
  refine lv_icmp_lt (tgt := 16) hx hb dJ3_checkIndex_8e157_6 (by decide) (fun _ => ?_) (fun c1 => absurd h1 c1)
  refine lv_iload_n hx hb dJ3_checkIndex_8e157_16 rfl (lv_at hl 0 rfl) ?_
  exact hret _ _ (vp_nar_int _) dJ3_checkIndex_8e157_17
def f_J15_checkIndex_7cf53 (a1 a2 : Int32) : Option Int32 := if a1 < 0 then none else if a1 < a2 then some a1 else none
theorem k_J3_checkIndex_8e157 : SOk yJ3_checkIndex_8e157 cJ3_checkIndex_8e157 3 (some .int) 3 := ⟨q_6_0, q_5_22, q_5_23, by decide +kernel⟩
theorem k_J15_checkIndex_7cf53 : SOk yJ15_checkIndex_7cf53 cJ15_checkIndex_7cf53 2 (some .int) 2 := ⟨q_5_20, q_5_18, q_5_19, by decide +kernel⟩
theorem c_J15_checkIndex_7cf53 (l : Launch) (a1 a2 q : Int32) (h : f_J15_checkIndex_7cf53 a1 a2 = some q) : CS l yJ15_checkIndex_7cf53 cJ15_checkIndex_7cf53 2 1 (some .int) [.int a1, .int a2] (some (.int q)) := by
  unfold f_J15_checkIndex_7cf53 at h
  by_cases h0 : a1 < 0
  · rw [if_pos h0] at h; cases h
  rw [if_neg h0] at h
  by_cases h1 : a1 < a2
  · rw [if_pos h1] at h
    obtain rfl := Option.some.inj h
    refine CS.mkI (by decide) (Nat.le_of_ble_eq_true rfl) ?_
    intro p e s m below meth c Q B hret ls hl
    have B0 := B
    obtain ⟨hx, hb, hml, hown, hts⟩ := B0
    have hl : lv_has ls 2 [(0, .int a1), (1, .int a2)] := hl
    refine lv_iload_n hx hb dJ15_checkIndex_7cf53_0 rfl (lv_at hl 0 rfl) ?_
    refine lv_iload_n hx hb dJ15_checkIndex_7cf53_1 rfl (lv_at hl 1 rfl) ?_
    refine lv_null hx hb dJ15_checkIndex_7cf53_2 ?_
    refine s_call (As := [.int a1, .int a2, .null]) (rest := []) (c_J3_checkIndex_8e157 l a1 a2 h0 h1) B k_J3_checkIndex_8e157 q_5_21 rfl ⟨Nat.le_of_ble_eq_true rfl, Nat.le_of_ble_eq_true rfl⟩ ⟨Nat.le_refl _, Nat.le_refl _⟩ hl.1 rfl (Nat.le_of_ble_eq_true rfl) dJ15_checkIndex_7cf53_3 ?_
    exact hret _ _ (vp_nar_int _) dJ15_checkIndex_7cf53_6
  · rw [if_neg h1] at h; cases h
theorem k_Jxa1e45_init_da8c8 : Cond.code yJxa1e45_init_da8c8 cJxa1e45_init_da8c8 1 none ∈ wsL_law ∧ Cond.instanceMethod yJxa1e45_init_da8c8 ∈ wsL_law ∧ Cond.initialized (yJxa1e45_init_da8c8).cls ∈ wsL_law ∧ (yJxa1e45_init_da8c8).name = "<init>" ∧ ((yJxa1e45_init_da8c8).cls ≠ "java/lang/invoke/MethodHandle" ∧ (yJxa1e45_init_da8c8).cls ≠ "java/lang/invoke/VarHandle" ∧ (parseMethodDescriptor (yJxa1e45_init_da8c8).desc).map (fun d => d.parameters.length) = some 0) := ⟨q_3_7, q_3_5, q_3_6, rfl, by decide +kernel⟩
theorem k_Jxc12de_init_da8c8 : Cond.code yJxc12de_init_da8c8 cJxc12de_init_da8c8 1 none ∈ wsL_law ∧ Cond.instanceMethod yJxc12de_init_da8c8 ∈ wsL_law ∧ Cond.initialized (yJxc12de_init_da8c8).cls ∈ wsL_law ∧ (yJxc12de_init_da8c8).name = "<init>" ∧ ((yJxc12de_init_da8c8).cls ≠ "java/lang/invoke/MethodHandle" ∧ (yJxc12de_init_da8c8).cls ≠ "java/lang/invoke/VarHandle" ∧ (parseMethodDescriptor (yJxc12de_init_da8c8).desc).map (fun d => d.parameters.length) = some 0) := ⟨q_3_2, q_3_0, q_3_1, rfl, by decide +kernel⟩
theorem k_Jx4a65c_init_da8c8 : Cond.code yJx4a65c_init_da8c8 cJx4a65c_init_da8c8 1 none ∈ wsL_law ∧ Cond.instanceMethod yJx4a65c_init_da8c8 ∈ wsL_law ∧ Cond.initialized (yJx4a65c_init_da8c8).cls ∈ wsL_law ∧ (yJx4a65c_init_da8c8).name = "<init>" ∧ ((yJx4a65c_init_da8c8).cls ≠ "java/lang/invoke/MethodHandle" ∧ (yJx4a65c_init_da8c8).cls ≠ "java/lang/invoke/VarHandle" ∧ (parseMethodDescriptor (yJx4a65c_init_da8c8).desc).map (fun d => d.parameters.length) = some 0) := ⟨q_2_20, q_2_19, q_1_19, rfl, by decide +kernel⟩
theorem k_Jx4a65c_grow_92f84 : VOk yJx4a65c_grow_92f84 cJx4a65c_grow_92f84 4 (some (.array (.object "java/lang/Object"))) 1 := ⟨q_6_22, q_6_20, q_6_21, q_1_19, by decide +kernel⟩
theorem k_Jx4a65c_grow_d5877 : VOk yJx4a65c_grow_d5877 cJx4a65c_grow_d5877 1 (some (.array (.object "java/lang/Object"))) 0 := ⟨q_6_18, q_6_16, q_6_17, q_1_19, by decide +kernel⟩
theorem k_Jx4a65c_add_72be8 : VOk yJx4a65c_add_72be8 cJx4a65c_add_72be8 4 none 3 := ⟨q_6_14, q_6_12, q_6_13, q_1_19, by decide +kernel⟩
theorem k_Jx4a65c_add_9ea2d : VOk yJx4a65c_add_9ea2d cJx4a65c_add_9ea2d 2 (some .boolean) 1 := ⟨q_6_8, q_6_6, q_6_7, q_1_19, by decide +kernel⟩
theorem k_Jx4a65c_elementData_915e3 : VOk yJx4a65c_elementData_915e3 cJx4a65c_elementData_915e3 2 (some (.object "java/lang/Object")) 1 := ⟨q_6_4, q_6_2, q_6_3, q_1_19, by decide +kernel⟩
theorem k_Jx4a65c_get_915e3 : VOk yJx4a65c_get_915e3 cJx4a65c_get_915e3 2 (some (.object "java/lang/Object")) 1 := ⟨q_5_16, q_5_14, q_5_15, q_1_19, by decide +kernel⟩
theorem k_Jx4a65c_set_bcc79 : VOk yJx4a65c_set_bcc79 cJx4a65c_set_bcc79 4 (some (.object "java/lang/Object")) 2 := ⟨q_17_8, q_17_6, q_17_7, q_1_19, by decide +kernel⟩
theorem k_Jx4a65c_fastRemove_b59b0 : VOk yJx4a65c_fastRemove_b59b0 cJx4a65c_fastRemove_b59b0 4 none 2 := ⟨q_8_18, q_8_16, q_8_17, q_1_19, by decide +kernel⟩
theorem k_Jx4a65c_remove_915e3 : VOk yJx4a65c_remove_915e3 cJx4a65c_remove_915e3 4 (some (.object "java/lang/Object")) 1 := ⟨q_8_14, q_8_12, q_8_13, q_1_19, by decide +kernel⟩
theorem k_Jx4a65c_size_8abf5 : VOk yJx4a65c_size_8abf5 cJx4a65c_size_8abf5 1 (some .int) 0 := ⟨q_5_11, q_5_9, q_5_10, q_1_19, by decide +kernel⟩
def g_Jxa1e45_init_da8c8 (ct : Nat → ClassId) (a0 : Nat) (this : Nat) (h : KH) (Post : Unit → KH → Prop) : Prop :=
  Post () h
set_option maxRecDepth 100000 in
set_option maxHeartbeats 4000000 in
theorem cg_Jxa1e45_init_da8c8 (l : Launch) (D : va_G) (ct : Nat → ClassId) (a0 : Nat) (this : Nat) (h : KH) (Post : Unit → KH → Prop) (hw : g_Jxa1e45_init_da8c8 ct a0 this h Post) : CK l yJxa1e45_init_da8c8 cJxa1e45_init_da8c8 1 1 0 0 none D ct a0 [.ref this] vV h Post := by
  refine CK.mkV (by decide) (Nat.le_of_ble_eq_true rfl) ?_
  intro p e s m below meth c Q A X hret hW hS ls hl
  obtain ⟨B, hin, hK, hN, hZ, hA⟩ := X
  have B0 := B
  obtain ⟨hx, hb, hml, hown, hts⟩ := B0
  have hl : lv_has ls 1 [(0, .ref this)] := hl
  unfold g_Jxa1e45_init_da8c8 at hw
  refine lv_aload_n hx hb dJxa1e45_init_da8c8_0 rfl (lv_at hl 0 rfl) ?_
  refine W.objInit hx hb hown (hts _ q_3_8) (hts _ q_1_10) (hts _ q_1_11) rfl (by rw [hml]; exact hl.1) rfl dJxa1e45_init_da8c8_1 (Nat.le_of_ble_eq_true rfl) (Nat.le_of_ble_eq_true rfl) ?_
  refine W.eq (g2 := F0 m 4 ls []) rfl ?_
  exact hret _ _ _ _ h dJxa1e45_init_da8c8_4 hw hW hS

def g_Jxc12de_init_da8c8 (ct : Nat → ClassId) (a0 : Nat) (this : Nat) (h : KH) (Post : Unit → KH → Prop) : Prop :=
  g_Jxa1e45_init_da8c8 ct a0 this h (fun _ h1 => wrF h1 this 0 0 (.int (0 : Int32)) (fun h2 => Post () h2))
set_option maxRecDepth 100000 in
set_option maxHeartbeats 4000000 in
theorem cg_Jxc12de_init_da8c8 (l : Launch) (D : va_G) (ct : Nat → ClassId) (a0 : Nat) (this : Nat) (h : KH) (Post : Unit → KH → Prop) (hw : g_Jxc12de_init_da8c8 ct a0 this h Post) : CK l yJxc12de_init_da8c8 cJxc12de_init_da8c8 1 2 0 0 none D ct a0 [.ref this] vV h Post := by
  refine CK.mkV (by decide) (Nat.le_of_ble_eq_true rfl) ?_
  intro p e s m below meth c Q A X hret hW hS ls hl
  obtain ⟨B, hin, hK, hN, hZ, hA⟩ := X
  have B0 := B
  obtain ⟨hx, hb, hml, hown, hts⟩ := B0
  have hl : lv_has ls 1 [(0, .ref this)] := hl
  unfold g_Jxc12de_init_da8c8 at hw
  refine lv_aload_n hx hb dJxc12de_init_da8c8_0 rfl (lv_at hl 0 rfl) ?_
  refine ki_call (As := []) (rest := []) (cg_Jxa1e45_init_da8c8 l D ct a0 this h _ hw) B hK hN hZ hA hW hS k_Jxa1e45_init_da8c8 q_3_4 rfl ⟨Nat.le_of_ble_eq_true rfl, Nat.le_of_ble_eq_true rfl⟩ ⟨Nat.le_of_ble_eq_true rfl, Nat.le_of_ble_eq_true rfl⟩ hl.1 rfl (Nat.le_of_ble_eq_true rfl) dJxc12de_init_da8c8_1 (fun v1 h1 H locs hw hW hS => ?_)
  refine lv_aload_n hx hb dJxc12de_init_da8c8_4 rfl (lv_at hl 0 rfl) ?_
  refine lv_iconst (v := (0 : Int32)) hx hb dJxc12de_init_da8c8_5 (by decide) ?_
  obtain ⟨fs2, e2, l2, hw⟩ := hw
  refine kw_put (ci := 0) (v := .int (0 : Int32)) (ty := .int) (C := RJx4a65c) (T := TJx4a65c) (N := 3) hx hb hts inlJx4a65c tyJx4a65c tyJx4a65c_ok nmJx4a65c hown hK hW hS e2 rfl 0 (by decide) (hts _ q_3_3) (fun _ h9 => h9) rfl  (by decide +kernel) rfl rfl l2 dJxc12de_init_da8c8_6 (fun H locs h2 eh2 hW hS => ?_)
  have hw := hw h2 eh2
  refine W.widen (k := 0) (n := 0) (by omega) (by omega) ?_
  exact hret _ _ _ _ h2 dJxc12de_init_da8c8_9 hw hW hS

def g_Jx4a65c_init_da8c8 (ct : Nat → ClassId) (a0 : Nat) (this : Nat) (h : KH) (Post : Unit → KH → Prop) : Prop :=
  g_Jxc12de_init_da8c8 ct a0 this h (fun _ h1 => wrF h1 this 0 1 (.ref a0) (fun h2 => Post () h2))
set_option maxRecDepth 100000 in
set_option maxHeartbeats 4000000 in
theorem cg_Jx4a65c_init_da8c8 (l : Launch) (D : va_G) (ct : Nat → ClassId) (a0 : Nat) (this : Nat) (h : KH) (Post : Unit → KH → Prop) (hw : g_Jx4a65c_init_da8c8 ct a0 this h Post) : CK l yJx4a65c_init_da8c8 cJx4a65c_init_da8c8 1 3 0 0 none D ct a0 [.ref this] vV h Post := by
  refine CK.mkV (by decide) (Nat.le_of_ble_eq_true rfl) ?_
  intro p e s m below meth c Q A X hret hW hS ls hl
  obtain ⟨B, hin, hK, hN, hZ, hA⟩ := X
  have B0 := B
  obtain ⟨hx, hb, hml, hown, hts⟩ := B0
  have hl : lv_has ls 1 [(0, .ref this)] := hl
  unfold g_Jx4a65c_init_da8c8 at hw
  refine lv_aload_n hx hb dJx4a65c_init_da8c8_0 rfl (lv_at hl 0 rfl) ?_
  refine ki_call (As := []) (rest := []) (cg_Jxc12de_init_da8c8 l D ct a0 this h _ hw) B hK hN hZ hA hW hS k_Jxc12de_init_da8c8 q_2_23 rfl ⟨Nat.le_of_ble_eq_true rfl, Nat.le_of_ble_eq_true rfl⟩ ⟨Nat.le_of_ble_eq_true rfl, Nat.le_of_ble_eq_true rfl⟩ hl.1 rfl (Nat.le_of_ble_eq_true rfl) dJx4a65c_init_da8c8_1 (fun v1 h1 H locs hw hW hS => ?_)
  refine lv_aload_n hx hb dJx4a65c_init_da8c8_4 rfl (lv_at hl 0 rfl) ?_
  refine kw_gets hx hb hZ hS hown (hts _ q_2_21) dJx4a65c_init_da8c8_5 ?_
  obtain ⟨fs2, e2, l2, hw⟩ := hw
  refine kw_put (ci := 0) (v := .ref a0) (ty := .array (.object "java/lang/Object")) (C := RJx4a65c) (T := TJx4a65c) (N := 3) hx hb hts inlJx4a65c tyJx4a65c tyJx4a65c_ok nmJx4a65c hown hK hW hS e2 rfl 1 (by decide) (hts _ q_2_22) (fun _ h9 => h9) rfl  (by decide +kernel) rfl rfl l2 dJx4a65c_init_da8c8_8 (fun H locs h2 eh2 hW hS => ?_)
  have hw := hw h2 eh2
  refine W.widen (k := 0) (n := 0) (by omega) (by omega) ?_
  exact hret _ _ _ _ h2 dJx4a65c_init_da8c8_11 hw hW hS

def g_Jx4a65c_grow_92f84_J20 (ct : Nat → ClassId) (a0 : Nat) (this : Nat) (a1 : Int32) (Post : Nat → KH → Prop)  (x2 : Int32) (h : KH) : Prop :=
  False
def g_Jx4a65c_grow_92f84 (ct : Nat → ClassId) (a0 : Nat) (this : Nat) (a1 : Int32) (h : KH) (Post : Nat → KH → Prop) : Prop :=
  rdR h this 0 1 (fun v1 => alnE a0 h v1 (ct 3) (fun v2 => if (0 : Int32) < v2 then g_Jx4a65c_grow_92f84_J20 ct a0 this a1 Post  v2 h
  else rdR h this 0 1 (fun v10 => if v10 = a0 then ((if (10 : Int32) < a1 then a1 else (10 : Int32)) = 10 ∧ nwQ a0 h (.inl (ct 3, 10, .inr (.inr (.inr (.inr (fun _ => none)))))) (fun q13 h13 => wrF h13 this 0 1 (.ref q13) (fun h14 => Post q13 h14)))
  else g_Jx4a65c_grow_92f84_J20 ct a0 this a1 Post  v2 h)))
set_option maxRecDepth 100000 in
set_option maxHeartbeats 4000000 in
theorem cg_Jx4a65c_grow_92f84 (l : Launch) (D : va_G) (ct : Nat → ClassId) (a0 : Nat) (this : Nat) (a1 : Int32) (h : KH) (Post : Nat → KH → Prop) (hw : g_Jx4a65c_grow_92f84 ct a0 this a1 h Post) : CK l yJx4a65c_grow_92f84 cJx4a65c_grow_92f84 4 1 1 10 (some (.array (.object "java/lang/Object"))) D ct a0 [.ref this, .int a1] vR h Post := by
  refine CK.mkR (by decide) (Nat.le_of_ble_eq_true rfl) (Or.inr ⟨_, rfl⟩) ?_
  intro p e s m below meth c Q A X hret hW hS ls hl
  obtain ⟨B, hin, hK, hN, hZ, hA⟩ := X
  have B0 := B
  obtain ⟨hx, hb, hml, hown, hts⟩ := B0
  have hl : lv_has ls 4 [(0, .ref this), (1, .int a1)] := hl
  have hJ20 : ∀ (x2 : Int32) (h : KH) (ls : Array Slot) (H : Heap) (locs : List Loc), g_Jx4a65c_grow_92f84_J20 ct a0 this a1 Post  x2 h → KW D A h H → va_S A s.heap H locs → lv_has ls 4 [(0, .ref this), (1, .int a1), (2, .int x2)] → W p l e (rmF 1 1 10) s m ([.ref this, .int a1] : List Value).toArray below meth c H locs 0 0 Q (F0 m 20 ls []) := by
    intro x2 h ls H locs hw hW hS hl
    unfold g_Jx4a65c_grow_92f84_J20 at hw
    exact hw.elim
  unfold g_Jx4a65c_grow_92f84 at hw
  refine lv_aload_n hx hb dJx4a65c_grow_92f84_0 rfl (lv_at hl 0 rfl) ?_
  obtain ⟨fs1, v1, e1, f1, hw⟩ := hw
  refine kw_get (ci := 0) (C := RJx4a65c) (T := TJx4a65c) (N := 3) hx hb hts inlJx4a65c hown hK hW e1 rfl 1 (by decide) (hts _ q_2_22) (fun _ h9 => h9) f1 dJx4a65c_grow_92f84_1 ?_
  by_cases z2 : v1 = a0
  · have hw := hw.1 z2
    refine W.eq (g2 := F0 m 4 ls (.ref a0 :: [])) (by rw [z2]) ?_
    refine kw_alen0 hx hb hZ hS dJx4a65c_grow_92f84_4 ?_
    refine lv_istore_n (lv' := [(2, .int (0 : Int32)), (0, .ref this), (1, .int a1)]) hx hb dJx4a65c_grow_92f84_5 rfl hl (by decide) rfl (fun ls hl => ?_)
    refine lv_iload_n hx hb dJx4a65c_grow_92f84_6 rfl (lv_at hl 0 rfl) ?_
    refine lv_if_gt (tgt := 20) hx hb dJx4a65c_grow_92f84_7 (by decide) (fun c3 => ?_) (fun c3 => ?_)
    · have hw := itp c3 hw
      exact hJ20 (0 : Int32) h _ _ _ hw hW hS (lv_sub hl [1, 2, 0] rfl)
    · have hw := itn c3 hw
      refine lv_aload_n hx hb dJx4a65c_grow_92f84_10 rfl (lv_at hl 1 rfl) ?_
      obtain ⟨fs4, v4, e4, f4, hw⟩ := hw
      refine kw_get (ci := 0) (C := RJx4a65c) (T := TJx4a65c) (N := 3) hx hb hts inlJx4a65c hown hK hW e4 rfl 1 (by decide) (hts _ q_2_22) (fun _ h9 => h9) f4 dJx4a65c_grow_92f84_11 ?_
      refine kw_gets hx hb hZ hS hown (hts _ q_2_21) dJx4a65c_grow_92f84_14 ?_
      refine kw_acmp_eq (tgt := 45) hx hb dJx4a65c_grow_92f84_17 (by decide) (fun c5 => ?_) (fun c5 => ?_)
      · have hw := itp c5 hw
        refine lv_aload_n hx hb dJx4a65c_grow_92f84_45 rfl (lv_at hl 1 rfl) ?_
        refine lv_bipush (v := (10 : Int32)) hx hb dJx4a65c_grow_92f84_46 (by decide) ?_
        refine lv_iload_n hx hb dJx4a65c_grow_92f84_48 rfl (lv_at hl 2 rfl) ?_
        refine va_mmax hx hb (hml.trans hl.1.symm) hown (hts _ q_6_23) (hts _ q_7_0) (hts _ q_7_1) (hts _ q_7_2) (Nat.le_of_ble_eq_true rfl) (Nat.le_of_ble_eq_true rfl) (Nat.le_of_ble_eq_true rfl) (Nat.le_of_ble_eq_true rfl) dJx4a65c_grow_92f84_49 ?_
        obtain ⟨z7, hw⟩ := hw
        refine kw_newq (N' := 10) hx hb hown (hts _ q_7_3) hN.2.1 hK 3 rfl hW hS hA (by rw [z7]; decide) (by rw [z7]; decide) (by decide) (Nat.le_of_ble_eq_true rfl) (Nat.le_of_ble_eq_true rfl) dJx4a65c_grow_92f84_52 (fun q7 H h7 n7 eh7 hW hS => ?_)
        have hw := hw q7 h7 n7 (fun z => hZ.out (z ▸ hW.in (by rw [eh7]; exact if_pos rfl))) eh7
        refine lv_dup_x1 hx hb dJx4a65c_grow_92f84_55 rfl rfl ?_
        obtain ⟨fs8, e8, l8, hw⟩ := hw
        refine kw_put (ci := 0) (v := .ref q7) (ty := .array (.object "java/lang/Object")) (C := RJx4a65c) (T := TJx4a65c) (N := 3) hx hb hts inlJx4a65c tyJx4a65c tyJx4a65c_ok nmJx4a65c hown hK hW hS e8 rfl 1 (by decide) (hts _ q_2_22) (fun _ h9 => h9) rfl  (by decide +kernel) rfl rfl l8 dJx4a65c_grow_92f84_56 (fun H locs h8 eh8 hW hS => ?_)
        have hw := hw h8 eh8
        refine W.widen (k := 1) (n := 10) (by omega) (by omega) ?_
        exact hret _ _ _ _ q7 h8 dJx4a65c_grow_92f84_59 hw hW hS
      · have hw := itn c5 hw
        exact hJ20 (0 : Int32) h _ _ _ hw hW hS (lv_sub hl [1, 2, 0] rfl)
  · obtain ⟨xa2, v2, e2, ev2, hw⟩ := hw.2 z2
    refine kw_alen hx hb hK hW 3 e2 rfl ev2 dJx4a65c_grow_92f84_4 ?_
    refine lv_istore_n (lv' := [(2, .int v2), (0, .ref this), (1, .int a1)]) hx hb dJx4a65c_grow_92f84_5 rfl hl (by decide) rfl (fun ls hl => ?_)
    refine lv_iload_n hx hb dJx4a65c_grow_92f84_6 rfl (lv_at hl 0 rfl) ?_
    refine lv_if_gt (tgt := 20) hx hb dJx4a65c_grow_92f84_7 (by decide) (fun c9 => ?_) (fun c9 => ?_)
    · have hw := itp c9 hw
      exact hJ20 v2 h _ _ _ hw hW hS (lv_sub hl [1, 2, 0] rfl)
    · have hw := itn c9 hw
      refine lv_aload_n hx hb dJx4a65c_grow_92f84_10 rfl (lv_at hl 1 rfl) ?_
      obtain ⟨fs10, v10, e10, f10, hw⟩ := hw
      refine kw_get (ci := 0) (C := RJx4a65c) (T := TJx4a65c) (N := 3) hx hb hts inlJx4a65c hown hK hW e10 rfl 1 (by decide) (hts _ q_2_22) (fun _ h9 => h9) f10 dJx4a65c_grow_92f84_11 ?_
      refine kw_gets hx hb hZ hS hown (hts _ q_2_21) dJx4a65c_grow_92f84_14 ?_
      refine kw_acmp_eq (tgt := 45) hx hb dJx4a65c_grow_92f84_17 (by decide) (fun c11 => ?_) (fun c11 => ?_)
      · have hw := itp c11 hw
        refine lv_aload_n hx hb dJx4a65c_grow_92f84_45 rfl (lv_at hl 1 rfl) ?_
        refine lv_bipush (v := (10 : Int32)) hx hb dJx4a65c_grow_92f84_46 (by decide) ?_
        refine lv_iload_n hx hb dJx4a65c_grow_92f84_48 rfl (lv_at hl 2 rfl) ?_
        refine va_mmax hx hb (hml.trans hl.1.symm) hown (hts _ q_6_23) (hts _ q_7_0) (hts _ q_7_1) (hts _ q_7_2) (Nat.le_of_ble_eq_true rfl) (Nat.le_of_ble_eq_true rfl) (Nat.le_of_ble_eq_true rfl) (Nat.le_of_ble_eq_true rfl) dJx4a65c_grow_92f84_49 ?_
        obtain ⟨z13, hw⟩ := hw
        refine kw_newq (N' := 10) hx hb hown (hts _ q_7_3) hN.2.1 hK 3 rfl hW hS hA (by rw [z13]; decide) (by rw [z13]; decide) (by decide) (Nat.le_of_ble_eq_true rfl) (Nat.le_of_ble_eq_true rfl) dJx4a65c_grow_92f84_52 (fun q13 H h13 n13 eh13 hW hS => ?_)
        have hw := hw q13 h13 n13 (fun z => hZ.out (z ▸ hW.in (by rw [eh13]; exact if_pos rfl))) eh13
        refine lv_dup_x1 hx hb dJx4a65c_grow_92f84_55 rfl rfl ?_
        obtain ⟨fs14, e14, l14, hw⟩ := hw
        refine kw_put (ci := 0) (v := .ref q13) (ty := .array (.object "java/lang/Object")) (C := RJx4a65c) (T := TJx4a65c) (N := 3) hx hb hts inlJx4a65c tyJx4a65c tyJx4a65c_ok nmJx4a65c hown hK hW hS e14 rfl 1 (by decide) (hts _ q_2_22) (fun _ h9 => h9) rfl  (by decide +kernel) rfl rfl l14 dJx4a65c_grow_92f84_56 (fun H locs h14 eh14 hW hS => ?_)
        have hw := hw h14 eh14
        refine W.widen (k := 1) (n := 10) (by omega) (by omega) ?_
        exact hret _ _ _ _ q13 h14 dJx4a65c_grow_92f84_59 hw hW hS
      · have hw := itn c11 hw
        exact hJ20 v2 h _ _ _ hw hW hS (lv_sub hl [1, 2, 0] rfl)

def g_Jx4a65c_grow_d5877 (ct : Nat → ClassId) (a0 : Nat) (this : Nat) (h : KH) (Post : Nat → KH → Prop) : Prop :=
  rdI h this 0 2 (fun v1 => isO h this 0 (g_Jx4a65c_grow_92f84 ct a0 this (v1 + (1 : Int32)) h (fun v2 h2 => Post v2 h2)))
set_option maxRecDepth 100000 in
set_option maxHeartbeats 4000000 in
theorem cg_Jx4a65c_grow_d5877 (l : Launch) (D : va_G) (ct : Nat → ClassId) (a0 : Nat) (this : Nat) (h : KH) (Post : Nat → KH → Prop) (hw : g_Jx4a65c_grow_d5877 ct a0 this h Post) : CK l yJx4a65c_grow_d5877 cJx4a65c_grow_d5877 1 2 1 10 (some (.array (.object "java/lang/Object"))) D ct a0 [.ref this] vR h Post := by
  refine CK.mkR (by decide) (Nat.le_of_ble_eq_true rfl) (Or.inr ⟨_, rfl⟩) ?_
  intro p e s m below meth c Q A X hret hW hS ls hl
  obtain ⟨B, hin, hK, hN, hZ, hA⟩ := X
  have B0 := B
  obtain ⟨hx, hb, hml, hown, hts⟩ := B0
  have hl : lv_has ls 1 [(0, .ref this)] := hl
  unfold g_Jx4a65c_grow_d5877 at hw
  refine lv_aload_n hx hb dJx4a65c_grow_d5877_0 rfl (lv_at hl 0 rfl) ?_
  refine lv_aload_n hx hb dJx4a65c_grow_d5877_1 rfl (lv_at hl 0 rfl) ?_
  obtain ⟨fs1, v1, e1, f1, hw⟩ := hw
  refine kw_get (ci := 0) (C := RJx4a65c) (T := TJx4a65c) (N := 3) hx hb hts inlJx4a65c hown hK hW e1 rfl 2 (by decide) (hts _ q_5_12) (fun _ h9 => h9) f1 dJx4a65c_grow_d5877_2 ?_
  refine lv_iconst (v := (1 : Int32)) hx hb dJx4a65c_grow_d5877_5 (by decide) ?_
  refine lv_iadd hx hb dJx4a65c_grow_d5877_6 ?_
  obtain ⟨⟨fs2, e2⟩, hw⟩ := hw
  refine k_call (As := [.int (v1 + (1 : Int32))]) (rest := []) (ci := 0) (cg_Jx4a65c_grow_92f84 l D ct a0 this (v1 + (1 : Int32)) h _ hw) B hK hN hZ hA hW hS e2 rfl k_Jx4a65c_grow_92f84 q_6_19 rfl ⟨Nat.le_of_ble_eq_true rfl, Nat.le_of_ble_eq_true rfl⟩ ⟨Nat.le_of_ble_eq_true rfl, Nat.le_of_ble_eq_true rfl⟩ hl.1 rfl (Nat.le_of_ble_eq_true rfl) dJx4a65c_grow_d5877_7 (fun v2 h2 H locs hw hW hS => ?_)
  refine W.widen (k := 1) (n := 10) (by omega) (by omega) ?_
  exact hret _ _ _ _ v2 h2 dJx4a65c_grow_d5877_10 hw hW hS

def g_Jx4a65c_add_72be8 (ct : Nat → ClassId) (a0 : Nat) (this : Nat) (a1 : Nat) (a2 : Nat) (a3 : Int32) (h : KH) (Post : Unit → KH → Prop) : Prop :=
  alnE a0 h a2 (ct 3) (fun v1 => if a3 = v1 then isO h this 0 (g_Jx4a65c_grow_d5877 ct a0 this h (fun v11 h11 => stQ h11 v11 a3 (ct 3) a1 (fun h12 => wrF h12 this 0 2 (.int (a3 + (1 : Int32))) (fun h13 => Post () h13))))
  else stQ h a2 a3 (ct 3) a1 (fun h9 => wrF h9 this 0 2 (.int (a3 + (1 : Int32))) (fun h10 => Post () h10)))
set_option maxRecDepth 100000 in
set_option maxHeartbeats 4000000 in
theorem cg_Jx4a65c_add_72be8 (l : Launch) (D : va_G) (ct : Nat → ClassId) (a0 : Nat) (this : Nat) (a1 : Nat) (a2 : Nat) (a3 : Int32) (h : KH) (Post : Unit → KH → Prop) (hw : g_Jx4a65c_add_72be8 ct a0 this a1 a2 a3 h Post) : CK l yJx4a65c_add_72be8 cJx4a65c_add_72be8 4 3 1 10 none D ct a0 [.ref this, .ref a1, .ref a2, .int a3] vV h Post := by
  refine CK.mkV (by decide) (Nat.le_of_ble_eq_true rfl) ?_
  intro p e s m below meth c Q A X hret hW hS ls hl
  obtain ⟨B, hin, hK, hN, hZ, hA⟩ := X
  have B0 := B
  obtain ⟨hx, hb, hml, hown, hts⟩ := B0
  have hl : lv_has ls 4 [(0, .ref this), (1, .ref a1), (2, .ref a2), (3, .int a3)] := hl
  unfold g_Jx4a65c_add_72be8 at hw
  refine lv_iload_n hx hb dJx4a65c_add_72be8_0 rfl (lv_at hl 3 rfl) ?_
  refine lv_aload_n hx hb dJx4a65c_add_72be8_1 rfl (lv_at hl 2 rfl) ?_
  by_cases z1 : a2 = a0
  · have hw := hw.1 z1
    refine W.eq (g2 := F0 m 2 ls (.ref a0 :: [.int a3])) (by rw [z1]) ?_
    refine kw_alen0 hx hb hZ hS dJx4a65c_add_72be8_2 ?_
    refine lv_icmp_ne (tgt := 11) hx hb dJx4a65c_add_72be8_3 (by decide) (fun c2 => ?_) (fun c2 => ?_)
    · have hw := itn c2 hw
      refine lv_aload_n hx hb dJx4a65c_add_72be8_11 rfl (lv_at hl 2 rfl) ?_
      refine lv_iload_n hx hb dJx4a65c_add_72be8_12 rfl (lv_at hl 3 rfl) ?_
      refine lv_aload_n hx hb dJx4a65c_add_72be8_13 rfl (lv_at hl 1 rfl) ?_
      obtain ⟨n3, f3, ci3, vs3, e3, g3, x3_, ok3, hw⟩ := hw
      refine kw_aastQ hx hb hK hN.1 hW hS 3 e3 rfl g3 x3_ ok3 dJx4a65c_add_72be8_14 (fun H locs h3 eh3 hW hS => ?_)
      have hw := hw h3 eh3
      refine lv_aload_n hx hb dJx4a65c_add_72be8_15 rfl (lv_at hl 0 rfl) ?_
      refine lv_iload_n hx hb dJx4a65c_add_72be8_16 rfl (lv_at hl 3 rfl) ?_
      refine lv_iconst (v := (1 : Int32)) hx hb dJx4a65c_add_72be8_17 (by decide) ?_
      refine lv_iadd hx hb dJx4a65c_add_72be8_18 ?_
      obtain ⟨fs4, e4, l4, hw⟩ := hw
      refine kw_put (ci := 0) (v := .int (a3 + (1 : Int32))) (ty := .int) (C := RJx4a65c) (T := TJx4a65c) (N := 3) hx hb hts inlJx4a65c tyJx4a65c tyJx4a65c_ok nmJx4a65c hown hK hW hS e4 rfl 2 (by decide) (hts _ q_5_12) (fun _ h9 => h9) rfl  (by decide +kernel) rfl rfl l4 dJx4a65c_add_72be8_19 (fun H locs h4 eh4 hW hS => ?_)
      have hw := hw h4 eh4
      refine W.widen (k := 1) (n := 10) (by omega) (by omega) ?_
      exact hret _ _ _ _ h4 dJx4a65c_add_72be8_22 hw hW hS
    · have hw := itp c2 hw
      refine lv_aload_n hx hb dJx4a65c_add_72be8_6 rfl (lv_at hl 0 rfl) ?_
      obtain ⟨⟨fs5, e5⟩, hw⟩ := hw
      refine k_call (As := []) (rest := []) (ci := 0) (cg_Jx4a65c_grow_d5877 l D ct a0 this h _ hw) B hK hN hZ hA hW hS e5 rfl k_Jx4a65c_grow_d5877 q_6_15 rfl ⟨Nat.le_of_ble_eq_true rfl, Nat.le_of_ble_eq_true rfl⟩ ⟨Nat.le_of_ble_eq_true rfl, Nat.le_of_ble_eq_true rfl⟩ hl.1 rfl (Nat.le_of_ble_eq_true rfl) dJx4a65c_add_72be8_7 (fun v5 h5 H locs hw hW hS => ?_)
      refine lv_astore_n (lv' := [(2, .ref v5), (0, .ref this), (1, .ref a1), (3, .int a3)]) hx hb dJx4a65c_add_72be8_10 rfl hl (by decide) rfl (fun ls hl => ?_)
      refine lv_aload_n hx hb dJx4a65c_add_72be8_11 rfl (lv_at hl 0 rfl) ?_
      refine lv_iload_n hx hb dJx4a65c_add_72be8_12 rfl (lv_at hl 3 rfl) ?_
      refine lv_aload_n hx hb dJx4a65c_add_72be8_13 rfl (lv_at hl 2 rfl) ?_
      obtain ⟨n6, f6, ci6, vs6, e6, g6, x6_, ok6, hw⟩ := hw
      refine kw_aastQ hx hb hK hN.1 hW hS 3 e6 rfl g6 x6_ ok6 dJx4a65c_add_72be8_14 (fun H locs h6 eh6 hW hS => ?_)
      have hw := hw h6 eh6
      refine lv_aload_n hx hb dJx4a65c_add_72be8_15 rfl (lv_at hl 1 rfl) ?_
      refine lv_iload_n hx hb dJx4a65c_add_72be8_16 rfl (lv_at hl 3 rfl) ?_
      refine lv_iconst (v := (1 : Int32)) hx hb dJx4a65c_add_72be8_17 (by decide) ?_
      refine lv_iadd hx hb dJx4a65c_add_72be8_18 ?_
      obtain ⟨fs7, e7, l7, hw⟩ := hw
      refine kw_put (ci := 0) (v := .int (a3 + (1 : Int32))) (ty := .int) (C := RJx4a65c) (T := TJx4a65c) (N := 3) hx hb hts inlJx4a65c tyJx4a65c tyJx4a65c_ok nmJx4a65c hown hK hW hS e7 rfl 2 (by decide) (hts _ q_5_12) (fun _ h9 => h9) rfl  (by decide +kernel) rfl rfl l7 dJx4a65c_add_72be8_19 (fun H locs h7 eh7 hW hS => ?_)
      have hw := hw h7 eh7
      refine W.widen (k := 1) (n := 10) (by omega) (by omega) ?_
      exact hret _ _ _ _ h7 dJx4a65c_add_72be8_22 hw hW hS
  · obtain ⟨xa1, v1, e1, ev1, hw⟩ := hw.2 z1
    refine kw_alen hx hb hK hW 3 e1 rfl ev1 dJx4a65c_add_72be8_2 ?_
    refine lv_icmp_ne (tgt := 11) hx hb dJx4a65c_add_72be8_3 (by decide) (fun c8 => ?_) (fun c8 => ?_)
    · have hw := itn c8 hw
      refine lv_aload_n hx hb dJx4a65c_add_72be8_11 rfl (lv_at hl 2 rfl) ?_
      refine lv_iload_n hx hb dJx4a65c_add_72be8_12 rfl (lv_at hl 3 rfl) ?_
      refine lv_aload_n hx hb dJx4a65c_add_72be8_13 rfl (lv_at hl 1 rfl) ?_
      obtain ⟨n9, f9, ci9, vs9, e9, g9, x9_, ok9, hw⟩ := hw
      refine kw_aastQ hx hb hK hN.1 hW hS 3 e9 rfl g9 x9_ ok9 dJx4a65c_add_72be8_14 (fun H locs h9 eh9 hW hS => ?_)
      have hw := hw h9 eh9
      refine lv_aload_n hx hb dJx4a65c_add_72be8_15 rfl (lv_at hl 0 rfl) ?_
      refine lv_iload_n hx hb dJx4a65c_add_72be8_16 rfl (lv_at hl 3 rfl) ?_
      refine lv_iconst (v := (1 : Int32)) hx hb dJx4a65c_add_72be8_17 (by decide) ?_
      refine lv_iadd hx hb dJx4a65c_add_72be8_18 ?_
      obtain ⟨fs10, e10, l10, hw⟩ := hw
      refine kw_put (ci := 0) (v := .int (a3 + (1 : Int32))) (ty := .int) (C := RJx4a65c) (T := TJx4a65c) (N := 3) hx hb hts inlJx4a65c tyJx4a65c tyJx4a65c_ok nmJx4a65c hown hK hW hS e10 rfl 2 (by decide) (hts _ q_5_12) (fun _ h9 => h9) rfl  (by decide +kernel) rfl rfl l10 dJx4a65c_add_72be8_19 (fun H locs h10 eh10 hW hS => ?_)
      have hw := hw h10 eh10
      refine W.widen (k := 1) (n := 10) (by omega) (by omega) ?_
      exact hret _ _ _ _ h10 dJx4a65c_add_72be8_22 hw hW hS
    · have hw := itp c8 hw
      refine lv_aload_n hx hb dJx4a65c_add_72be8_6 rfl (lv_at hl 0 rfl) ?_
      obtain ⟨⟨fs11, e11⟩, hw⟩ := hw
      refine k_call (As := []) (rest := []) (ci := 0) (cg_Jx4a65c_grow_d5877 l D ct a0 this h _ hw) B hK hN hZ hA hW hS e11 rfl k_Jx4a65c_grow_d5877 q_6_15 rfl ⟨Nat.le_of_ble_eq_true rfl, Nat.le_of_ble_eq_true rfl⟩ ⟨Nat.le_of_ble_eq_true rfl, Nat.le_of_ble_eq_true rfl⟩ hl.1 rfl (Nat.le_of_ble_eq_true rfl) dJx4a65c_add_72be8_7 (fun v11 h11 H locs hw hW hS => ?_)
      refine lv_astore_n (lv' := [(2, .ref v11), (0, .ref this), (1, .ref a1), (3, .int a3)]) hx hb dJx4a65c_add_72be8_10 rfl hl (by decide) rfl (fun ls hl => ?_)
      refine lv_aload_n hx hb dJx4a65c_add_72be8_11 rfl (lv_at hl 0 rfl) ?_
      refine lv_iload_n hx hb dJx4a65c_add_72be8_12 rfl (lv_at hl 3 rfl) ?_
      refine lv_aload_n hx hb dJx4a65c_add_72be8_13 rfl (lv_at hl 2 rfl) ?_
      obtain ⟨n12, f12, ci12, vs12, e12, g12, x12_, ok12, hw⟩ := hw
      refine kw_aastQ hx hb hK hN.1 hW hS 3 e12 rfl g12 x12_ ok12 dJx4a65c_add_72be8_14 (fun H locs h12 eh12 hW hS => ?_)
      have hw := hw h12 eh12
      refine lv_aload_n hx hb dJx4a65c_add_72be8_15 rfl (lv_at hl 1 rfl) ?_
      refine lv_iload_n hx hb dJx4a65c_add_72be8_16 rfl (lv_at hl 3 rfl) ?_
      refine lv_iconst (v := (1 : Int32)) hx hb dJx4a65c_add_72be8_17 (by decide) ?_
      refine lv_iadd hx hb dJx4a65c_add_72be8_18 ?_
      obtain ⟨fs13, e13, l13, hw⟩ := hw
      refine kw_put (ci := 0) (v := .int (a3 + (1 : Int32))) (ty := .int) (C := RJx4a65c) (T := TJx4a65c) (N := 3) hx hb hts inlJx4a65c tyJx4a65c tyJx4a65c_ok nmJx4a65c hown hK hW hS e13 rfl 2 (by decide) (hts _ q_5_12) (fun _ h9 => h9) rfl  (by decide +kernel) rfl rfl l13 dJx4a65c_add_72be8_19 (fun H locs h13 eh13 hW hS => ?_)
      have hw := hw h13 eh13
      refine W.widen (k := 1) (n := 10) (by omega) (by omega) ?_
      exact hret _ _ _ _ h13 dJx4a65c_add_72be8_22 hw hW hS

def g_Jx4a65c_add_9ea2d (ct : Nat → ClassId) (a0 : Nat) (this : Nat) (a1 : Nat) (h : KH) (Post : Int32 → KH → Prop) : Prop :=
  rdI h this 0 0 (fun v1 => wrF h this 0 0 (.int (v1 + (1 : Int32))) (fun h2 => rdR h2 this 0 1 (fun v3 => rdI h2 this 0 2 (fun v4 => isO h2 this 0 (g_Jx4a65c_add_72be8 ct a0 this a1 v3 v4 h2 (fun _ h5 => Post (1 : Int32) h5))))))
set_option maxRecDepth 100000 in
set_option maxHeartbeats 4000000 in
theorem cg_Jx4a65c_add_9ea2d (l : Launch) (D : va_G) (ct : Nat → ClassId) (a0 : Nat) (this : Nat) (a1 : Nat) (h : KH) (Post : Int32 → KH → Prop) (hw : g_Jx4a65c_add_9ea2d ct a0 this a1 h Post) : CK l yJx4a65c_add_9ea2d cJx4a65c_add_9ea2d 2 4 1 10 (some .boolean) D ct a0 [.ref this, .ref a1] vI h Post := by
  refine CK.mkI (by decide) (Nat.le_of_ble_eq_true rfl) ?_
  intro p e s m below meth c Q A X hret hW hS ls hl
  obtain ⟨B, hin, hK, hN, hZ, hA⟩ := X
  have B0 := B
  obtain ⟨hx, hb, hml, hown, hts⟩ := B0
  have hl : lv_has ls 2 [(0, .ref this), (1, .ref a1)] := hl
  unfold g_Jx4a65c_add_9ea2d at hw
  refine lv_aload_n hx hb dJx4a65c_add_9ea2d_0 rfl (lv_at hl 0 rfl) ?_
  refine lv_dup hx hb dJx4a65c_add_9ea2d_1 rfl ?_
  obtain ⟨fs1, v1, e1, f1, hw⟩ := hw
  refine kw_get (ci := 0) (C := RJx4a65c) (T := TJx4a65c) (N := 3) hx hb hts inlJx4a65c hown hK hW e1 rfl 0 (by decide) (hts _ q_6_9) (fun x9 h9 => u_same (hts _ q_6_10) x9 h9) f1 dJx4a65c_add_9ea2d_2 ?_
  refine lv_iconst (v := (1 : Int32)) hx hb dJx4a65c_add_9ea2d_5 (by decide) ?_
  refine lv_iadd hx hb dJx4a65c_add_9ea2d_6 ?_
  obtain ⟨fs2, e2, l2, hw⟩ := hw
  refine kw_put (ci := 0) (v := .int (v1 + (1 : Int32))) (ty := .int) (C := RJx4a65c) (T := TJx4a65c) (N := 3) hx hb hts inlJx4a65c tyJx4a65c tyJx4a65c_ok nmJx4a65c hown hK hW hS e2 rfl 0 (by decide) (hts _ q_6_9) (fun x9 h9 => u_same (hts _ q_6_10) x9 h9) rfl  (by decide +kernel) rfl rfl l2 dJx4a65c_add_9ea2d_7 (fun H locs h2 eh2 hW hS => ?_)
  have hw := hw h2 eh2
  refine lv_aload_n hx hb dJx4a65c_add_9ea2d_10 rfl (lv_at hl 0 rfl) ?_
  refine lv_aload_n hx hb dJx4a65c_add_9ea2d_11 rfl (lv_at hl 1 rfl) ?_
  refine lv_aload_n hx hb dJx4a65c_add_9ea2d_12 rfl (lv_at hl 0 rfl) ?_
  obtain ⟨fs3, v3, e3, f3, hw⟩ := hw
  refine kw_get (ci := 0) (C := RJx4a65c) (T := TJx4a65c) (N := 3) hx hb hts inlJx4a65c hown hK hW e3 rfl 1 (by decide) (hts _ q_2_22) (fun _ h9 => h9) f3 dJx4a65c_add_9ea2d_13 ?_
  refine lv_aload_n hx hb dJx4a65c_add_9ea2d_16 rfl (lv_at hl 0 rfl) ?_
  obtain ⟨fs4, v4, e4, f4, hw⟩ := hw
  refine kw_get (ci := 0) (C := RJx4a65c) (T := TJx4a65c) (N := 3) hx hb hts inlJx4a65c hown hK hW e4 rfl 2 (by decide) (hts _ q_5_12) (fun _ h9 => h9) f4 dJx4a65c_add_9ea2d_17 ?_
  obtain ⟨⟨fs5, e5⟩, hw⟩ := hw
  refine k_call (As := [.ref a1, .ref v3, .int v4]) (rest := []) (ci := 0) (cg_Jx4a65c_add_72be8 l D ct a0 this a1 v3 v4 h2 _ hw) B hK hN hZ hA hW hS e5 rfl k_Jx4a65c_add_72be8 q_6_11 rfl ⟨Nat.le_of_ble_eq_true rfl, Nat.le_of_ble_eq_true rfl⟩ ⟨Nat.le_of_ble_eq_true rfl, Nat.le_of_ble_eq_true rfl⟩ hl.1 rfl (Nat.le_of_ble_eq_true rfl) dJx4a65c_add_9ea2d_20 (fun v5 h5 H locs hw hW hS => ?_)
  refine lv_iconst (v := (1 : Int32)) hx hb dJx4a65c_add_9ea2d_23 (by decide) ?_
  refine W.widen (k := 1) (n := 10) (by omega) (by omega) ?_
  exact hret _ _ _ _ (1 : Int32) h5 nb1 dJx4a65c_add_9ea2d_24 hw hW hS

def g_Jx4a65c_elementData_915e3 (ct : Nat → ClassId) (a0 : Nat) (this : Nat) (a1 : Int32) (h : KH) (Post : Nat → KH → Prop) : Prop :=
  rdR h this 0 1 (fun v1 => ldR h v1 a1 (ct 3) (fun v2 => Post v2 h))
set_option maxRecDepth 100000 in
set_option maxHeartbeats 4000000 in
theorem cg_Jx4a65c_elementData_915e3 (l : Launch) (D : va_G) (ct : Nat → ClassId) (a0 : Nat) (this : Nat) (a1 : Int32) (h : KH) (Post : Nat → KH → Prop) (hw : g_Jx4a65c_elementData_915e3 ct a0 this a1 h Post) : CK l yJx4a65c_elementData_915e3 cJx4a65c_elementData_915e3 2 0 0 0 (some (.object "java/lang/Object")) D ct a0 [.ref this, .int a1] vR h Post := by
  refine CK.mkR (by decide) (Nat.le_of_ble_eq_true rfl) (Or.inl ⟨_, rfl⟩) ?_
  intro p e s m below meth c Q A X hret hW hS ls hl
  obtain ⟨B, hin, hK, hN, hZ, hA⟩ := X
  have B0 := B
  obtain ⟨hx, hb, hml, hown, hts⟩ := B0
  have hl : lv_has ls 2 [(0, .ref this), (1, .int a1)] := hl
  unfold g_Jx4a65c_elementData_915e3 at hw
  refine lv_aload_n hx hb dJx4a65c_elementData_915e3_0 rfl (lv_at hl 0 rfl) ?_
  obtain ⟨fs1, v1, e1, f1, hw⟩ := hw
  refine kw_get (ci := 0) (C := RJx4a65c) (T := TJx4a65c) (N := 3) hx hb hts inlJx4a65c hown hK hW e1 rfl 1 (by decide) (hts _ q_2_22) (fun _ h9 => h9) f1 dJx4a65c_elementData_915e3_1 ?_
  refine lv_iload_n hx hb dJx4a65c_elementData_915e3_4 rfl (lv_at hl 1 rfl) ?_
  obtain ⟨n2, f2, v2, e2, g2, ev2, hw⟩ := hw
  refine kw_aald hx hb hK hW 3 e2 rfl g2 ev2 dJx4a65c_elementData_915e3_5 ?_
  exact hret _ _ _ _ v2 h dJx4a65c_elementData_915e3_6 hw hW hS

def g_Jx4a65c_get_915e3 (ct : Nat → ClassId) (a0 : Nat) (this : Nat) (a1 : Int32) (h : KH) (Post : Nat → KH → Prop) : Prop :=
  rdI h this 0 2 (fun v1 => (∃ q2, f_J15_checkIndex_7cf53 a1 v1 = some q2 ∧ isO h this 0 (g_Jx4a65c_elementData_915e3 ct a0 this a1 h (fun v3 h3 => Post v3 h3))))
set_option maxRecDepth 100000 in
set_option maxHeartbeats 4000000 in
theorem cg_Jx4a65c_get_915e3 (l : Launch) (D : va_G) (ct : Nat → ClassId) (a0 : Nat) (this : Nat) (a1 : Int32) (h : KH) (Post : Nat → KH → Prop) (hw : g_Jx4a65c_get_915e3 ct a0 this a1 h Post) : CK l yJx4a65c_get_915e3 cJx4a65c_get_915e3 2 2 0 0 (some (.object "java/lang/Object")) D ct a0 [.ref this, .int a1] vR h Post := by
  refine CK.mkR (by decide) (Nat.le_of_ble_eq_true rfl) (Or.inl ⟨_, rfl⟩) ?_
  intro p e s m below meth c Q A X hret hW hS ls hl
  obtain ⟨B, hin, hK, hN, hZ, hA⟩ := X
  have B0 := B
  obtain ⟨hx, hb, hml, hown, hts⟩ := B0
  have hl : lv_has ls 2 [(0, .ref this), (1, .int a1)] := hl
  unfold g_Jx4a65c_get_915e3 at hw
  refine lv_iload_n hx hb dJx4a65c_get_915e3_0 rfl (lv_at hl 1 rfl) ?_
  refine lv_aload_n hx hb dJx4a65c_get_915e3_1 rfl (lv_at hl 0 rfl) ?_
  obtain ⟨fs1, v1, e1, f1, hw⟩ := hw
  refine kw_get (ci := 0) (C := RJx4a65c) (T := TJx4a65c) (N := 3) hx hb hts inlJx4a65c hown hK hW e1 rfl 2 (by decide) (hts _ q_5_12) (fun _ h9 => h9) f1 dJx4a65c_get_915e3_2 ?_
  obtain ⟨q2, e2, hw⟩ := hw
  refine s_call (As := [.int a1, .int v1]) (rest := []) (c_J15_checkIndex_7cf53 l a1 v1 q2 e2) B k_J15_checkIndex_7cf53 q_5_17 rfl ⟨Nat.le_of_ble_eq_true rfl, Nat.le_of_ble_eq_true rfl⟩ ⟨Nat.le_of_ble_eq_true rfl, Nat.le_of_ble_eq_true rfl⟩ hl.1 rfl (Nat.le_of_ble_eq_true rfl) dJx4a65c_get_915e3_5 ?_
  refine lv_pop hx hb dJx4a65c_get_915e3_8 rfl ?_
  refine lv_aload_n hx hb dJx4a65c_get_915e3_9 rfl (lv_at hl 0 rfl) ?_
  refine lv_iload_n hx hb dJx4a65c_get_915e3_10 rfl (lv_at hl 1 rfl) ?_
  obtain ⟨⟨fs3, e3⟩, hw⟩ := hw
  refine k_call (As := [.int a1]) (rest := []) (ci := 0) (cg_Jx4a65c_elementData_915e3 l D ct a0 this a1 h _ hw) B hK hN hZ hA hW hS e3 rfl k_Jx4a65c_elementData_915e3 q_6_1 rfl ⟨Nat.le_of_ble_eq_true rfl, Nat.le_of_ble_eq_true rfl⟩ ⟨Nat.le_of_ble_eq_true rfl, Nat.le_of_ble_eq_true rfl⟩ hl.1 rfl (Nat.le_of_ble_eq_true rfl) dJx4a65c_get_915e3_11 (fun v3 h3 H locs hw hW hS => ?_)
  refine W.widen (k := 0) (n := 0) (by omega) (by omega) ?_
  exact hret _ _ _ _ v3 h3 dJx4a65c_get_915e3_14 hw hW hS

def g_Jx4a65c_set_bcc79 (ct : Nat → ClassId) (a0 : Nat) (this : Nat) (a1 : Int32) (a2 : Nat) (h : KH) (Post : Nat → KH → Prop) : Prop :=
  rdI h this 0 2 (fun v1 => (∃ q2, f_J15_checkIndex_7cf53 a1 v1 = some q2 ∧ isO h this 0 (g_Jx4a65c_elementData_915e3 ct a0 this a1 h (fun v3 h3 => rdR h3 this 0 1 (fun v4 => stQ h3 v4 a1 (ct 3) a2 (fun h5 => Post v3 h5))))))
set_option maxRecDepth 100000 in
set_option maxHeartbeats 4000000 in
theorem cg_Jx4a65c_set_bcc79 (l : Launch) (D : va_G) (ct : Nat → ClassId) (a0 : Nat) (this : Nat) (a1 : Int32) (a2 : Nat) (h : KH) (Post : Nat → KH → Prop) (hw : g_Jx4a65c_set_bcc79 ct a0 this a1 a2 h Post) : CK l yJx4a65c_set_bcc79 cJx4a65c_set_bcc79 4 2 0 0 (some (.object "java/lang/Object")) D ct a0 [.ref this, .int a1, .ref a2] vR h Post := by
  refine CK.mkR (by decide) (Nat.le_of_ble_eq_true rfl) (Or.inl ⟨_, rfl⟩) ?_
  intro p e s m below meth c Q A X hret hW hS ls hl
  obtain ⟨B, hin, hK, hN, hZ, hA⟩ := X
  have B0 := B
  obtain ⟨hx, hb, hml, hown, hts⟩ := B0
  have hl : lv_has ls 4 [(0, .ref this), (1, .int a1), (2, .ref a2)] := hl
  unfold g_Jx4a65c_set_bcc79 at hw
  refine lv_iload_n hx hb dJx4a65c_set_bcc79_0 rfl (lv_at hl 1 rfl) ?_
  refine lv_aload_n hx hb dJx4a65c_set_bcc79_1 rfl (lv_at hl 0 rfl) ?_
  obtain ⟨fs1, v1, e1, f1, hw⟩ := hw
  refine kw_get (ci := 0) (C := RJx4a65c) (T := TJx4a65c) (N := 3) hx hb hts inlJx4a65c hown hK hW e1 rfl 2 (by decide) (hts _ q_5_12) (fun _ h9 => h9) f1 dJx4a65c_set_bcc79_2 ?_
  obtain ⟨q2, e2, hw⟩ := hw
  refine s_call (As := [.int a1, .int v1]) (rest := []) (c_J15_checkIndex_7cf53 l a1 v1 q2 e2) B k_J15_checkIndex_7cf53 q_5_17 rfl ⟨Nat.le_of_ble_eq_true rfl, Nat.le_of_ble_eq_true rfl⟩ ⟨Nat.le_of_ble_eq_true rfl, Nat.le_of_ble_eq_true rfl⟩ hl.1 rfl (Nat.le_of_ble_eq_true rfl) dJx4a65c_set_bcc79_5 ?_
  refine lv_pop hx hb dJx4a65c_set_bcc79_8 rfl ?_
  refine lv_aload_n hx hb dJx4a65c_set_bcc79_9 rfl (lv_at hl 0 rfl) ?_
  refine lv_iload_n hx hb dJx4a65c_set_bcc79_10 rfl (lv_at hl 1 rfl) ?_
  obtain ⟨⟨fs3, e3⟩, hw⟩ := hw
  refine k_call (As := [.int a1]) (rest := []) (ci := 0) (cg_Jx4a65c_elementData_915e3 l D ct a0 this a1 h _ hw) B hK hN hZ hA hW hS e3 rfl k_Jx4a65c_elementData_915e3 q_6_1 rfl ⟨Nat.le_of_ble_eq_true rfl, Nat.le_of_ble_eq_true rfl⟩ ⟨Nat.le_of_ble_eq_true rfl, Nat.le_of_ble_eq_true rfl⟩ hl.1 rfl (Nat.le_of_ble_eq_true rfl) dJx4a65c_set_bcc79_11 (fun v3 h3 H locs hw hW hS => ?_)
  refine lv_astore_n (lv' := [(3, .ref v3), (0, .ref this), (1, .int a1), (2, .ref a2)]) hx hb dJx4a65c_set_bcc79_14 rfl hl (by decide) rfl (fun ls hl => ?_)
  refine lv_aload_n hx hb dJx4a65c_set_bcc79_15 rfl (lv_at hl 1 rfl) ?_
  obtain ⟨fs4, v4, e4, f4, hw⟩ := hw
  refine kw_get (ci := 0) (C := RJx4a65c) (T := TJx4a65c) (N := 3) hx hb hts inlJx4a65c hown hK hW e4 rfl 1 (by decide) (hts _ q_2_22) (fun _ h9 => h9) f4 dJx4a65c_set_bcc79_16 ?_
  refine lv_iload_n hx hb dJx4a65c_set_bcc79_19 rfl (lv_at hl 2 rfl) ?_
  refine lv_aload_n hx hb dJx4a65c_set_bcc79_20 rfl (lv_at hl 3 rfl) ?_
  obtain ⟨n5, f5, ci5, vs5, e5, g5, x5_, ok5, hw⟩ := hw
  refine kw_aastQ hx hb hK hN.1 hW hS 3 e5 rfl g5 x5_ ok5 dJx4a65c_set_bcc79_21 (fun H locs h5 eh5 hW hS => ?_)
  have hw := hw h5 eh5
  refine lv_aload_n hx hb dJx4a65c_set_bcc79_22 rfl (lv_at hl 0 rfl) ?_
  refine W.widen (k := 0) (n := 0) (by omega) (by omega) ?_
  exact hret _ _ _ _ v3 h5 dJx4a65c_set_bcc79_23 hw hW hS

def g_Jx4a65c_fastRemove_b59b0 (ct : Nat → ClassId) (a0 : Nat) (this : Nat) (a1 : Nat) (a2 : Int32) (h : KH) (Post : Unit → KH → Prop) : Prop :=
  rdI h this 0 0 (fun v1 => wrF h this 0 0 (.int (v1 + (1 : Int32))) (fun h2 => rdI h2 this 0 2 (fun v3 => if (v3 - (1 : Int32)) ≤ a2 then wrF h2 this 0 2 (.int (v3 - (1 : Int32))) (fun h5 => stN h5 a1 (v3 - (1 : Int32)) (ct 3) (fun h6 => Post () h6))
  else cpQ h2 a1 (ct 3) (a2 + (1 : Int32)) a2 ((v3 - (1 : Int32)) - a2) (fun h7 => wrF h7 this 0 2 (.int (v3 - (1 : Int32))) (fun h8 => stN h8 a1 (v3 - (1 : Int32)) (ct 3) (fun h9 => Post () h9))))))
set_option maxRecDepth 100000 in
set_option maxHeartbeats 4000000 in
theorem cg_Jx4a65c_fastRemove_b59b0 (l : Launch) (D : va_G) (ct : Nat → ClassId) (a0 : Nat) (this : Nat) (a1 : Nat) (a2 : Int32) (h : KH) (Post : Unit → KH → Prop) (hw : g_Jx4a65c_fastRemove_b59b0 ct a0 this a1 a2 h Post) : CK l yJx4a65c_fastRemove_b59b0 cJx4a65c_fastRemove_b59b0 4 1 0 0 none D ct a0 [.ref this, .ref a1, .int a2] vV h Post := by
  refine CK.mkV (by decide) (Nat.le_of_ble_eq_true rfl) ?_
  intro p e s m below meth c Q A X hret hW hS ls hl
  obtain ⟨B, hin, hK, hN, hZ, hA⟩ := X
  have B0 := B
  obtain ⟨hx, hb, hml, hown, hts⟩ := B0
  have hl : lv_has ls 4 [(0, .ref this), (1, .ref a1), (2, .int a2)] := hl
  unfold g_Jx4a65c_fastRemove_b59b0 at hw
  refine lv_aload_n hx hb dJx4a65c_fastRemove_b59b0_0 rfl (lv_at hl 0 rfl) ?_
  refine lv_dup hx hb dJx4a65c_fastRemove_b59b0_1 rfl ?_
  obtain ⟨fs1, v1, e1, f1, hw⟩ := hw
  refine kw_get (ci := 0) (C := RJx4a65c) (T := TJx4a65c) (N := 3) hx hb hts inlJx4a65c hown hK hW e1 rfl 0 (by decide) (hts _ q_6_9) (fun x9 h9 => u_same (hts _ q_6_10) x9 h9) f1 dJx4a65c_fastRemove_b59b0_2 ?_
  refine lv_iconst (v := (1 : Int32)) hx hb dJx4a65c_fastRemove_b59b0_5 (by decide) ?_
  refine lv_iadd hx hb dJx4a65c_fastRemove_b59b0_6 ?_
  obtain ⟨fs2, e2, l2, hw⟩ := hw
  refine kw_put (ci := 0) (v := .int (v1 + (1 : Int32))) (ty := .int) (C := RJx4a65c) (T := TJx4a65c) (N := 3) hx hb hts inlJx4a65c tyJx4a65c tyJx4a65c_ok nmJx4a65c hown hK hW hS e2 rfl 0 (by decide) (hts _ q_6_9) (fun x9 h9 => u_same (hts _ q_6_10) x9 h9) rfl  (by decide +kernel) rfl rfl l2 dJx4a65c_fastRemove_b59b0_7 (fun H locs h2 eh2 hW hS => ?_)
  have hw := hw h2 eh2
  refine lv_aload_n hx hb dJx4a65c_fastRemove_b59b0_10 rfl (lv_at hl 0 rfl) ?_
  obtain ⟨fs3, v3, e3, f3, hw⟩ := hw
  refine kw_get (ci := 0) (C := RJx4a65c) (T := TJx4a65c) (N := 3) hx hb hts inlJx4a65c hown hK hW e3 rfl 2 (by decide) (hts _ q_5_12) (fun _ h9 => h9) f3 dJx4a65c_fastRemove_b59b0_11 ?_
  refine lv_iconst (v := (1 : Int32)) hx hb dJx4a65c_fastRemove_b59b0_14 (by decide) ?_
  refine lv_isub hx hb dJx4a65c_fastRemove_b59b0_15 ?_
  refine lv_dup hx hb dJx4a65c_fastRemove_b59b0_16 rfl ?_
  refine lv_istore_n (lv' := [(3, .int (v3 - (1 : Int32))), (0, .ref this), (1, .ref a1), (2, .int a2)]) hx hb dJx4a65c_fastRemove_b59b0_17 rfl hl (by decide) rfl (fun ls hl => ?_)
  refine lv_iload_n hx hb dJx4a65c_fastRemove_b59b0_18 rfl (lv_at hl 3 rfl) ?_
  refine lv_icmp_le (tgt := 34) hx hb dJx4a65c_fastRemove_b59b0_19 (by decide) (fun c4 => ?_) (fun c4 => ?_)
  · have hw := itp c4 hw
    refine lv_aload_n hx hb dJx4a65c_fastRemove_b59b0_34 rfl (lv_at hl 2 rfl) ?_
    refine lv_aload_n hx hb dJx4a65c_fastRemove_b59b0_35 rfl (lv_at hl 1 rfl) ?_
    refine lv_iload_n hx hb dJx4a65c_fastRemove_b59b0_36 rfl (lv_at hl 0 rfl) ?_
    refine lv_dup_x1 hx hb dJx4a65c_fastRemove_b59b0_37 rfl rfl ?_
    obtain ⟨fs5, e5, l5, hw⟩ := hw
    refine kw_put (ci := 0) (v := .int (v3 - (1 : Int32))) (ty := .int) (C := RJx4a65c) (T := TJx4a65c) (N := 3) hx hb hts inlJx4a65c tyJx4a65c tyJx4a65c_ok nmJx4a65c hown hK hW hS e5 rfl 2 (by decide) (hts _ q_5_12) (fun _ h9 => h9) rfl  (by decide +kernel) rfl rfl l5 dJx4a65c_fastRemove_b59b0_38 (fun H locs h5 eh5 hW hS => ?_)
    have hw := hw h5 eh5
    refine lv_null hx hb dJx4a65c_fastRemove_b59b0_41 ?_
    obtain ⟨n6, f6, e6, g6, hw⟩ := hw
    refine kw_aastN hx hb hK hW hS 3 e6 rfl g6 dJx4a65c_fastRemove_b59b0_42 (fun H locs h6 eh6 hW hS => ?_)
    have hw := hw h6 eh6
    exact hret _ _ _ _ h6 dJx4a65c_fastRemove_b59b0_43 hw hW hS
  · have hw := itn c4 hw
    refine lv_aload_n hx hb dJx4a65c_fastRemove_b59b0_22 rfl (lv_at hl 2 rfl) ?_
    refine lv_iload_n hx hb dJx4a65c_fastRemove_b59b0_23 rfl (lv_at hl 3 rfl) ?_
    refine lv_iconst (v := (1 : Int32)) hx hb dJx4a65c_fastRemove_b59b0_24 (by decide) ?_
    refine lv_iadd hx hb dJx4a65c_fastRemove_b59b0_25 ?_
    refine lv_aload_n hx hb dJx4a65c_fastRemove_b59b0_26 rfl (lv_at hl 2 rfl) ?_
    refine lv_iload_n hx hb dJx4a65c_fastRemove_b59b0_27 rfl (lv_at hl 3 rfl) ?_
    refine lv_iload_n hx hb dJx4a65c_fastRemove_b59b0_28 rfl (lv_at hl 0 rfl) ?_
    refine lv_iload_n hx hb dJx4a65c_fastRemove_b59b0_29 rfl (lv_at hl 3 rfl) ?_
    refine lv_isub hx hb dJx4a65c_fastRemove_b59b0_30 ?_
    obtain ⟨N7, ci7, f7, e7, b71, b72, b73, b74, b75, ok7, el7, hw⟩ := hw
    refine kw_copy hx hb (hml.trans hl.1.symm) hown (hts _ q_8_19) (hts _ q_8_6) (hts _ q_8_7) (hts _ q_8_8) hK hN hW hS e7 b71 b72 b73 b74 b75 ok7 el7 (Nat.le_of_ble_eq_true rfl) (by decide) dJx4a65c_fastRemove_b59b0_31 (fun H locs h7 eh7 hW hS => ?_)
    have hw := hw h7 eh7
    refine lv_aload_n hx hb dJx4a65c_fastRemove_b59b0_34 rfl (lv_at hl 2 rfl) ?_
    refine lv_aload_n hx hb dJx4a65c_fastRemove_b59b0_35 rfl (lv_at hl 1 rfl) ?_
    refine lv_iload_n hx hb dJx4a65c_fastRemove_b59b0_36 rfl (lv_at hl 0 rfl) ?_
    refine lv_dup_x1 hx hb dJx4a65c_fastRemove_b59b0_37 rfl rfl ?_
    obtain ⟨fs8, e8, l8, hw⟩ := hw
    refine kw_put (ci := 0) (v := .int (v3 - (1 : Int32))) (ty := .int) (C := RJx4a65c) (T := TJx4a65c) (N := 3) hx hb hts inlJx4a65c tyJx4a65c tyJx4a65c_ok nmJx4a65c hown hK hW hS e8 rfl 2 (by decide) (hts _ q_5_12) (fun _ h9 => h9) rfl  (by decide +kernel) rfl rfl l8 dJx4a65c_fastRemove_b59b0_38 (fun H locs h8 eh8 hW hS => ?_)
    have hw := hw h8 eh8
    refine lv_null hx hb dJx4a65c_fastRemove_b59b0_41 ?_
    obtain ⟨n9, f9, e9, g9, hw⟩ := hw
    refine kw_aastN hx hb hK hW hS 3 e9 rfl g9 dJx4a65c_fastRemove_b59b0_42 (fun H locs h9 eh9 hW hS => ?_)
    have hw := hw h9 eh9
    exact hret _ _ _ _ h9 dJx4a65c_fastRemove_b59b0_43 hw hW hS

def g_Jx4a65c_remove_915e3 (ct : Nat → ClassId) (a0 : Nat) (this : Nat) (a1 : Int32) (h : KH) (Post : Nat → KH → Prop) : Prop :=
  rdI h this 0 2 (fun v1 => (∃ q2, f_J15_checkIndex_7cf53 a1 v1 = some q2 ∧ rdR h this 0 1 (fun v3 => ldR h v3 a1 (ct 3) (fun v4 => isO h this 0 (g_Jx4a65c_fastRemove_b59b0 ct a0 this v3 a1 h (fun _ h5 => Post v4 h5))))))
set_option maxRecDepth 100000 in
set_option maxHeartbeats 4000000 in
theorem cg_Jx4a65c_remove_915e3 (l : Launch) (D : va_G) (ct : Nat → ClassId) (a0 : Nat) (this : Nat) (a1 : Int32) (h : KH) (Post : Nat → KH → Prop) (hw : g_Jx4a65c_remove_915e3 ct a0 this a1 h Post) : CK l yJx4a65c_remove_915e3 cJx4a65c_remove_915e3 4 2 0 0 (some (.object "java/lang/Object")) D ct a0 [.ref this, .int a1] vR h Post := by
  refine CK.mkR (by decide) (Nat.le_of_ble_eq_true rfl) (Or.inl ⟨_, rfl⟩) ?_
  intro p e s m below meth c Q A X hret hW hS ls hl
  obtain ⟨B, hin, hK, hN, hZ, hA⟩ := X
  have B0 := B
  obtain ⟨hx, hb, hml, hown, hts⟩ := B0
  have hl : lv_has ls 4 [(0, .ref this), (1, .int a1)] := hl
  unfold g_Jx4a65c_remove_915e3 at hw
  refine lv_iload_n hx hb dJx4a65c_remove_915e3_0 rfl (lv_at hl 1 rfl) ?_
  refine lv_aload_n hx hb dJx4a65c_remove_915e3_1 rfl (lv_at hl 0 rfl) ?_
  obtain ⟨fs1, v1, e1, f1, hw⟩ := hw
  refine kw_get (ci := 0) (C := RJx4a65c) (T := TJx4a65c) (N := 3) hx hb hts inlJx4a65c hown hK hW e1 rfl 2 (by decide) (hts _ q_5_12) (fun _ h9 => h9) f1 dJx4a65c_remove_915e3_2 ?_
  obtain ⟨q2, e2, hw⟩ := hw
  refine s_call (As := [.int a1, .int v1]) (rest := []) (c_J15_checkIndex_7cf53 l a1 v1 q2 e2) B k_J15_checkIndex_7cf53 q_5_17 rfl ⟨Nat.le_of_ble_eq_true rfl, Nat.le_of_ble_eq_true rfl⟩ ⟨Nat.le_of_ble_eq_true rfl, Nat.le_of_ble_eq_true rfl⟩ hl.1 rfl (Nat.le_of_ble_eq_true rfl) dJx4a65c_remove_915e3_5 ?_
  refine lv_pop hx hb dJx4a65c_remove_915e3_8 rfl ?_
  refine lv_aload_n hx hb dJx4a65c_remove_915e3_9 rfl (lv_at hl 0 rfl) ?_
  obtain ⟨fs3, v3, e3, f3, hw⟩ := hw
  refine kw_get (ci := 0) (C := RJx4a65c) (T := TJx4a65c) (N := 3) hx hb hts inlJx4a65c hown hK hW e3 rfl 1 (by decide) (hts _ q_2_22) (fun _ h9 => h9) f3 dJx4a65c_remove_915e3_10 ?_
  refine lv_astore_n (lv' := [(2, .ref v3), (0, .ref this), (1, .int a1)]) hx hb dJx4a65c_remove_915e3_13 rfl hl (by decide) rfl (fun ls hl => ?_)
  refine lv_aload_n hx hb dJx4a65c_remove_915e3_14 rfl (lv_at hl 0 rfl) ?_
  refine lv_iload_n hx hb dJx4a65c_remove_915e3_15 rfl (lv_at hl 2 rfl) ?_
  obtain ⟨n4, f4, v4, e4, g4, ev4, hw⟩ := hw
  refine kw_aald hx hb hK hW 3 e4 rfl g4 ev4 dJx4a65c_remove_915e3_16 ?_
  refine lv_astore_n (lv' := [(3, .ref v4), (2, .ref v3), (0, .ref this), (1, .int a1)]) hx hb dJx4a65c_remove_915e3_17 rfl hl (by decide) rfl (fun ls hl => ?_)
  refine lv_aload_n hx hb dJx4a65c_remove_915e3_18 rfl (lv_at hl 2 rfl) ?_
  refine lv_aload_n hx hb dJx4a65c_remove_915e3_19 rfl (lv_at hl 1 rfl) ?_
  refine lv_iload_n hx hb dJx4a65c_remove_915e3_20 rfl (lv_at hl 3 rfl) ?_
  obtain ⟨⟨fs5, e5⟩, hw⟩ := hw
  refine k_call (As := [.ref v3, .int a1]) (rest := []) (ci := 0) (cg_Jx4a65c_fastRemove_b59b0 l D ct a0 this v3 a1 h _ hw) B hK hN hZ hA hW hS e5 rfl k_Jx4a65c_fastRemove_b59b0 q_8_15 rfl ⟨Nat.le_of_ble_eq_true rfl, Nat.le_of_ble_eq_true rfl⟩ ⟨Nat.le_of_ble_eq_true rfl, Nat.le_of_ble_eq_true rfl⟩ hl.1 rfl (Nat.le_of_ble_eq_true rfl) dJx4a65c_remove_915e3_21 (fun v5 h5 H locs hw hW hS => ?_)
  refine lv_aload_n hx hb dJx4a65c_remove_915e3_24 rfl (lv_at hl 0 rfl) ?_
  refine W.widen (k := 0) (n := 0) (by omega) (by omega) ?_
  exact hret _ _ _ _ v4 h5 dJx4a65c_remove_915e3_25 hw hW hS

def g_Jx4a65c_size_8abf5 (ct : Nat → ClassId) (a0 : Nat) (this : Nat) (h : KH) (Post : Int32 → KH → Prop) : Prop :=
  rdI h this 0 2 (fun v1 => Post v1 h)
set_option maxRecDepth 100000 in
set_option maxHeartbeats 4000000 in
theorem cg_Jx4a65c_size_8abf5 (l : Launch) (D : va_G) (ct : Nat → ClassId) (a0 : Nat) (this : Nat) (h : KH) (Post : Int32 → KH → Prop) (hw : g_Jx4a65c_size_8abf5 ct a0 this h Post) : CK l yJx4a65c_size_8abf5 cJx4a65c_size_8abf5 1 0 0 0 (some .int) D ct a0 [.ref this] vI h Post := by
  refine CK.mkI (by decide) (Nat.le_of_ble_eq_true rfl) ?_
  intro p e s m below meth c Q A X hret hW hS ls hl
  obtain ⟨B, hin, hK, hN, hZ, hA⟩ := X
  have B0 := B
  obtain ⟨hx, hb, hml, hown, hts⟩ := B0
  have hl : lv_has ls 1 [(0, .ref this)] := hl
  unfold g_Jx4a65c_size_8abf5 at hw
  refine lv_aload_n hx hb dJx4a65c_size_8abf5_0 rfl (lv_at hl 0 rfl) ?_
  obtain ⟨fs1, v1, e1, f1, hw⟩ := hw
  refine kw_get (ci := 0) (C := RJx4a65c) (T := TJx4a65c) (N := 3) hx hb hts inlJx4a65c hown hK hW e1 rfl 2 (by decide) (hts _ q_5_12) (fun _ h9 => h9) f1 dJx4a65c_size_8abf5_1 ?_
  exact hret _ _ _ _ v1 h (vp_nar_int _) dJx4a65c_size_8abf5_4 hw hW hS
