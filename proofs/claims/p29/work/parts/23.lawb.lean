/-! the law's checks over the known heap: laid by wip/whole/genk.py -/
theorem k_L_arePlans : SOk yL_arePlans cL_arePlans 18 (some .boolean) 5 := ⟨q_17_23, q_17_22, q_4_1, by decide +kernel⟩
theorem k_L_areTold : SOk yL_areTold cL_areTold 11 (some .boolean) 6 := ⟨q_19_15, q_19_14, q_4_1, by decide +kernel⟩
theorem k_L_areBest : SOk yL_areBest cL_areBest 11 (some .boolean) 4 := ⟨q_20_11, q_20_10, q_4_1, by decide +kernel⟩
theorem k_L_isPart : SOk yL_isPart cL_isPart 9 (some .boolean) 7 := ⟨q_8_22, q_8_21, q_4_1, by decide +kernel⟩
theorem k_L_isPinned : SOk yL_isPinned cL_isPinned 8 (some .boolean) 5 := ⟨q_16_19, q_16_18, q_4_1, by decide +kernel⟩
theorem k_L_isActed : SOk yL_isActed cL_isActed 12 (some .boolean) 8 := ⟨q_4_6, q_4_5, q_4_1, by decide +kernel⟩
def g_L_arePlans_J310 (ct : Nat → ClassId) (a0 : Nat) (a1 : Nat) (a2 : Nat) (a3 : Nat) (a4 : Nat) (a5 : Nat) (Post : Int32 → KH → Prop)  (x5 : Int32) (x6 : Int64) (x8 : Int64) (x10 : Int32) (h : KH) : Prop :=
  if x10 = (0 : Int32) then Post (0 : Int32) h
  else frC h a1 (fun hc P => g_X5_counted ct a0 a1 (0 : Int32) hc P) (fun v4 h4 => ldI h4 a4 (0 : Int32) (ct 0) (fun v5 => if v4 = v5 then frC h4 a1 (fun hc P => g_X5_counted ct a0 a1 (1 : Int32) hc P) (fun v7 h7 => if v7 = x5 then fitQ ct a0 a1 x6 x8 Post h7
  else Post (0 : Int32) h7)
  else Post (0 : Int32) h4))
def g_L_arePlans_J301 (ct : Nat → ClassId) (a0 : Nat) (a1 : Nat) (a2 : Nat) (a3 : Nat) (a4 : Nat) (a5 : Nat) (Post : Int32 → KH → Prop) (k15 : Int32 → Int64 → Int64 → Int32 → Int32 → KH → Prop) (x5 : Int32) (x6 : Int64) (x8 : Int64) (x11 : Int32) (h : KH) : Prop :=
  k15 x5 x6 x8 (0 : Int32) (x11 + (1 : Int32)) h
def g_L_arePlans_J265 (ct : Nat → ClassId) (a0 : Nat) (a1 : Nat) (a2 : Nat) (a3 : Nat) (a4 : Nat) (a5 : Nat) (Post : Int32 → KH → Prop) (k15 : Int32 → Int64 → Int64 → Int32 → Int32 → KH → Prop) (x5 : Int32) (x6 : Int64) (x8 : Int64) (x11 : Int32) (x12 : Int32) (t0 : Int32) (t1 : Int32) (h : KH) : Prop :=
  if t0 = t1 then ldI h a3 x12 (ct 0) (fun v42 => frC h a1 (fun hc P => g_X5_plan ct a0 a1 v42 (11 : Int32) hc P) (fun v43 h43 => if v43 = x11 then ldI h43 a3 x12 (ct 0) (fun v45 => frC h43 a1 (fun hc P => g_X5_plan ct a0 a1 v45 (12 : Int32) hc P) (fun v46 h46 => if v46 = (-1 : Int32) then k15 x5 x6 x8 (1 : Int32) (x11 + (1 : Int32)) h46
  else g_L_arePlans_J301 ct a0 a1 a2 a3 a4 a5 Post k15 x5 x6 x8 x11 h46))
  else g_L_arePlans_J301 ct a0 a1 a2 a3 a4 a5 Post k15 x5 x6 x8 x11 h43))
  else g_L_arePlans_J301 ct a0 a1 a2 a3 a4 a5 Post k15 x5 x6 x8 x11 h
def g_L_arePlans_L87b (ct : Nat → ClassId) (a0 : Nat) (a1 : Nat) (a2 : Nat) (a3 : Nat) (a4 : Nat) (a5 : Nat) (Post : Int32 → KH → Prop) (k15 : Int32 → Int64 → Int64 → Int32 → Int32 → KH → Prop) (k87 : Int32 → Int64 → Int64 → Int32 → Int32 → Int32 → Int64 → Int64 → Int32 → KH → Prop) (x5 : Int32) (x6 : Int64) (x8 : Int64) (x10 : Int32) (x11 : Int32) (x12 : Int32) (x13 : Int64) (x15 : Int64) (x17 : Int32) (h : KH) : Prop :=
  if (5 : Int32) ≤ x17 then if x10 = (0 : Int32) then g_L_arePlans_J301 ct a0 a1 a2 a3 a4 a5 Post k15 x5 x6 x8 x11 h
  else ldI h a3 x12 (ct 0) (fun v16 => frC h a1 (fun hc P => g_X5_plan ct a0 a1 v16 (5 : Int32) hc P) (fun v17 h17 => g_L_cut ct a0 x13 h17 (fun v18 h18 => if v17 = v18 then ldI h18 a3 x12 (ct 0) (fun v20 => frC h18 a1 (fun hc P => g_X5_plan ct a0 a1 v20 (6 : Int32) hc P) (fun v21 h21 => g_L_cost ct a0 a2 a3 x12 (5 : Int32) h21 (fun v22 h22 => g_L_cut ct a0 v22 h22 (fun v23 h23 => if v21 = v23 then ldI h23 a3 x12 (ct 0) (fun v25 => frC h23 a1 (fun hc P => g_X5_plan ct a0 a1 v25 (7 : Int32) hc P) (fun v26 h26 => ldI h26 a3 (x12 + (11 : Int32)) (ct 0) (fun v27 => if v26 = v27 then ldI h26 a3 x12 (ct 0) (fun v29 => frC h26 a1 (fun hc P => g_X5_plan ct a0 a1 v29 (8 : Int32) hc P) (fun v30 h30 => ldI h30 a3 (x12 + (12 : Int32)) (ct 0) (fun v31 => if v30 = v31 then ldI h30 a3 x12 (ct 0) (fun v33 => frC h30 a1 (fun hc P => g_X5_plan ct a0 a1 v33 (9 : Int32) hc P) (fun v34 h34 => g_L_cut ct a0 (x13 - x15) h34 (fun v35 h35 => if v34 = v35 then ldI h35 a3 x12 (ct 0) (fun v37 => frC h35 a1 (fun hc P => g_X5_plan ct a0 a1 v37 (10 : Int32) hc P) (fun v38 h38 => g_L_drifted ct a0 a2 a3 x12 h38 (fun v39 h39 => if v39 = (0 : Int32) then g_L_arePlans_J265 ct a0 a1 a2 a3 a4 a5 Post k15 x5 x6 x8 x11 x12 v38 (0 : Int32) h39
  else g_L_arePlans_J265 ct a0 a1 a2 a3 a4 a5 Post k15 x5 x6 x8 x11 x12 v38 (1 : Int32) h39)))
  else g_L_arePlans_J301 ct a0 a1 a2 a3 a4 a5 Post k15 x5 x6 x8 x11 h35)))
  else g_L_arePlans_J301 ct a0 a1 a2 a3 a4 a5 Post k15 x5 x6 x8 x11 h30)))
  else g_L_arePlans_J301 ct a0 a1 a2 a3 a4 a5 Post k15 x5 x6 x8 x11 h26)))
  else g_L_arePlans_J301 ct a0 a1 a2 a3 a4 a5 Post k15 x5 x6 x8 x11 h23))))
  else g_L_arePlans_J301 ct a0 a1 a2 a3 a4 a5 Post k15 x5 x6 x8 x11 h18)))
  else if x10 = (0 : Int32) then k87 x5 x6 x8 (0 : Int32) x11 x12 x13 x15 (x17 + (1 : Int32)) h
  else ldI h a3 x12 (ct 0) (fun v49 => frC h a1 (fun hc P => g_X5_plan ct a0 a1 v49 x17 hc P) (fun v50 h50 => ldI h50 a3 ((x12 + (1 : Int32)) + x17) (ct 0) (fun v51 => if v50 = v51 then k87 x5 x6 x8 (1 : Int32) x11 x12 x13 x15 (x17 + (1 : Int32)) h50
  else k87 x5 x6 x8 (0 : Int32) x11 x12 x13 x15 (x17 + (1 : Int32)) h50)))
def g_L_arePlans_L87 (ct : Nat → ClassId) (a0 : Nat) (a1 : Nat) (a2 : Nat) (a3 : Nat) (a4 : Nat) (a5 : Nat) (Post : Int32 → KH → Prop) (k15 : Int32 → Int64 → Int64 → Int32 → Int32 → KH → Prop) : Nat → Int32 → Int64 → Int64 → Int32 → Int32 → Int32 → Int64 → Int64 → Int32 → KH → Prop
  | 0 => fun _ _ _ _ _ _ _ _ _ _ => False
  | n + 1 => g_L_arePlans_L87b ct a0 a1 a2 a3 a4 a5 Post k15 (g_L_arePlans_L87 ct a0 a1 a2 a3 a4 a5 Post k15 n)
def g_L_arePlans_L15b (ct : Nat → ClassId) (a0 : Nat) (a1 : Nat) (a2 : Nat) (a3 : Nat) (a4 : Nat) (a5 : Nat) (Post : Int32 → KH → Prop)  (k15 : Int32 → Int64 → Int64 → Int32 → Int32 → KH → Prop) (x5 : Int32) (x6 : Int64) (x8 : Int64) (x10 : Int32) (x11 : Int32) (h : KH) : Prop :=
  ldI h a4 (0 : Int32) (ct 0) (fun v1 => if v1 ≤ x11 then g_L_arePlans_J310 ct a0 a1 a2 a3 a4 a5 Post  x5 x6 x8 x10 h
  else if x10 = (0 : Int32) then g_L_arePlans_J310 ct a0 a1 a2 a3 a4 a5 Post  x5 x6 x8 x10 h
  else g_L_cost ct a0 a2 a3 ((14 : Int32) * x11) (0 : Int32) h (fun v10 h10 => ldI h10 a3 ((14 : Int32) * x11) (ct 0) (fun v11 => g_L_least ct a0 a2 v11 (0 : Int32) a5 h10 (fun v12 h12 => ldI h12 a3 (((14 : Int32) * x11) + (12 : Int32)) (ct 0) (fun v13 => g_L_arePlans_L87 ct a0 a1 a2 a3 a4 a5 Post k15 1024 (x5 + v13) (x6 + v12) (x8 + v10) x10 x11 ((14 : Int32) * x11) v10 v12 (0 : Int32) h12)))))
def g_L_arePlans_L15 (ct : Nat → ClassId) (a0 : Nat) (a1 : Nat) (a2 : Nat) (a3 : Nat) (a4 : Nat) (a5 : Nat) (Post : Int32 → KH → Prop)  : Nat → Int32 → Int64 → Int64 → Int32 → Int32 → KH → Prop
  | 0 => fun _ _ _ _ _ _ => False
  | n + 1 => g_L_arePlans_L15b ct a0 a1 a2 a3 a4 a5 Post  (g_L_arePlans_L15 ct a0 a1 a2 a3 a4 a5 Post  n)
def g_L_arePlans (ct : Nat → ClassId) (a0 : Nat) (a1 : Nat) (a2 : Nat) (a3 : Nat) (a4 : Nat) (a5 : Nat) (h : KH) (Post : Int32 → KH → Prop) : Prop :=
  g_L_arePlans_L15 ct a0 a1 a2 a3 a4 a5 Post  1024 (0 : Int32) (0 : Int64) (0 : Int64) (1 : Int32) (0 : Int32) h
set_option maxRecDepth 100000 in
set_option maxHeartbeats 4000000 in
theorem cg_L_arePlans (l : Launch) (D : va_G) (ct : Nat → ClassId) (a0 : Nat) (a1 : Nat) (a2 : Nat) (a3 : Nat) (a4 : Nat) (a5 : Nat) (h : KH) (Post : Int32 → KH → Prop) (hw : g_L_arePlans ct a0 a1 a2 a3 a4 a5 h Post) : CKI l yL_arePlans cL_arePlans 18 5 0 0 (some .boolean) D ct a0 [.ref a1, .ref a2, .ref a3, .ref a4, .ref a5] vI h Post := by
  refine CKI.mk (by decide) (Nat.le_of_ble_eq_true rfl) ?_
  intro p e s m below meth c Q A X hret hfit hW hS ls hl
  obtain ⟨B, hin, hK, hN, hZ, hA⟩ := X
  have B0 := B
  obtain ⟨hx, hb, hml, hown, hts⟩ := B0
  have hl : lv_has ls 18 [(0, .ref a1), (1, .ref a2), (2, .ref a3), (3, .ref a4), (4, .ref a5)] := hl
  have hJ310 : ∀ (x5 : Int32) (x6 : Int64) (x8 : Int64) (x10 : Int32) (h : KH) (ls : Array Slot) (H : Heap) (locs : List Loc), g_L_arePlans_J310 ct a0 a1 a2 a3 a4 a5 Post  x5 x6 x8 x10 h → KW D A h H → va_S A s.heap H locs → lv_has ls 18 [(0, .ref a1), (3, .ref a4), (5, .int x5), (6, .long x6), (8, .long x8), (10, .int x10)] → W p l e (rmF 5 0 0) s m ([.ref a1, .ref a2, .ref a3, .ref a4, .ref a5] : List Value).toArray below meth c H locs 0 0 Q (F0 m 310 ls []) := by
    intro x5 x6 x8 x10 h ls H locs hw hW hS hl
    unfold g_L_arePlans_J310 at hw
    refine lv_iload hx hb dL_arePlans_310 (lv_at hl 5 rfl) ?_
    refine lv_if_eq (tgt := 366) hx hb dL_arePlans_312 (by decide) (fun c3 => ?_) (fun c3 => ?_)
    · have hw := itp c3 hw
      refine lv_iconst (v := (0 : Int32)) hx hb dL_arePlans_366 (by decide) ?_
      exact hret _ _ _ _ (0 : Int32) h nb0 dL_arePlans_367 hw hW hS
    · have hw := itn c3 hw
      refine lv_aload_n hx hb dL_arePlans_315 rfl (lv_at hl 0 rfl) ?_
      refine lv_iconst (v := (0 : Int32)) hx hb dL_arePlans_316 (by decide) ?_
      refine kx_call (As := [.int (0 : Int32)]) (rest := []) hw (fun hc P hq => cg_X5_counted l D ct a0 a1 (0 : Int32) hc P hq) B hK hN hZ hA hW hS rfl k_X5_counted q_18_15 rfl ⟨Nat.le_of_ble_eq_true rfl, Nat.le_of_ble_eq_true rfl⟩ ⟨Nat.le_of_ble_eq_true rfl, Nat.le_of_ble_eq_true rfl⟩ hl.1 rfl (Nat.le_of_ble_eq_true rfl) dL_arePlans_317 (fun v4 h4 H locs hw hW hS => ?_)
      refine lv_aload_n hx hb dL_arePlans_320 rfl (lv_at hl 1 rfl) ?_
      refine lv_iconst (v := (0 : Int32)) hx hb dL_arePlans_321 (by decide) ?_
      obtain ⟨n5, f5, v5, e5, g5, ev5, hw⟩ := hw
      refine kw_iald hx hb hK hW 0 e5 rfl g5 ev5 dL_arePlans_322 ?_
      refine lv_icmp_ne (tgt := 366) hx hb dL_arePlans_323 (by decide) (fun c6 => ?_) (fun c6 => ?_)
      · have hw := itn c6 hw
        refine lv_iconst (v := (0 : Int32)) hx hb dL_arePlans_366 (by decide) ?_
        refine W.widen (k := 0) (n := 0) (by omega) (by omega) ?_
        exact hret _ _ _ _ (0 : Int32) h4 nb0 dL_arePlans_367 hw hW hS
      · have hw := itp c6 hw
        refine lv_aload_n hx hb dL_arePlans_326 rfl (lv_at hl 0 rfl) ?_
        refine lv_iconst (v := (1 : Int32)) hx hb dL_arePlans_327 (by decide) ?_
        refine kx_call (As := [.int (1 : Int32)]) (rest := []) hw (fun hc P hq => cg_X5_counted l D ct a0 a1 (1 : Int32) hc P hq) B hK hN hZ hA hW hS rfl k_X5_counted q_18_15 rfl ⟨Nat.le_of_ble_eq_true rfl, Nat.le_of_ble_eq_true rfl⟩ ⟨Nat.le_of_ble_eq_true rfl, Nat.le_of_ble_eq_true rfl⟩ hl.1 rfl (Nat.le_of_ble_eq_true rfl) dL_arePlans_328 (fun v7 h7 H locs hw hW hS => ?_)
        refine lv_iload hx hb dL_arePlans_331 (lv_at hl 2 rfl) ?_
        refine lv_icmp_ne (tgt := 366) hx hb dL_arePlans_333 (by decide) (fun c8 => ?_) (fun c8 => ?_)
        · have hw := itn c8 hw
          refine lv_iconst (v := (0 : Int32)) hx hb dL_arePlans_366 (by decide) ?_
          refine W.widen (k := 0) (n := 0) (by omega) (by omega) ?_
          exact hret _ _ _ _ (0 : Int32) h7 nb0 dL_arePlans_367 hw hW hS
        · have hw := itp c8 hw
          refine lv_aload_n hx hb dL_arePlans_336 rfl (lv_at hl 0 rfl) ?_
          exact hfit _ _ _ x6 x8 h7 hw hW hS (lv_sub hl [4, 3] rfl)
  have hL15 : ∀ (n15 : Nat), ∀ (x5 : Int32) (x6 : Int64) (x8 : Int64) (x10 : Int32) (x11 : Int32) (h : KH) (ls : Array Slot) (H : Heap) (locs : List Loc), g_L_arePlans_L15 ct a0 a1 a2 a3 a4 a5 Post  n15 x5 x6 x8 x10 x11 h → KW D A h H → va_S A s.heap H locs → lv_has ls 18 [(0, .ref a1), (1, .ref a2), (2, .ref a3), (3, .ref a4), (4, .ref a5), (5, .int x5), (6, .long x6), (8, .long x8), (10, .int x10), (11, .int x11)] → W p l e (rmF 5 0 0) s m ([.ref a1, .ref a2, .ref a3, .ref a4, .ref a5] : List Value).toArray below meth c H locs 0 0 Q (F0 m 15 ls []) := by
    intro n15
    induction n15 with
    | zero =>
      intro x5 x6 x8 x10 x11 h ls H locs hw
      exact (show False from hw).elim
    | succ n15 ih15 =>
      have hJ301 : ∀ (x5 : Int32) (x6 : Int64) (x8 : Int64) (x11 : Int32) (h : KH) (ls : Array Slot) (H : Heap) (locs : List Loc), g_L_arePlans_J301 ct a0 a1 a2 a3 a4 a5 Post (g_L_arePlans_L15 ct a0 a1 a2 a3 a4 a5 Post  n15) x5 x6 x8 x11 h → KW D A h H → va_S A s.heap H locs → lv_has ls 18 [(0, .ref a1), (1, .ref a2), (2, .ref a3), (3, .ref a4), (4, .ref a5), (5, .int x5), (6, .long x6), (8, .long x8), (11, .int x11)] → W p l e (rmF 5 0 0) s m ([.ref a1, .ref a2, .ref a3, .ref a4, .ref a5] : List Value).toArray below meth c H locs 0 0 Q (F0 m 301 ls []) := by
        intro x5 x6 x8 x11 h ls H locs hw hW hS hl
        unfold g_L_arePlans_J301 at hw
        refine lv_iconst (v := (0 : Int32)) hx hb dL_arePlans_301 (by decide) ?_
        refine lv_istore (lv' := [(10, .int (0 : Int32)), (0, .ref a1), (1, .ref a2), (2, .ref a3), (3, .ref a4), (4, .ref a5), (5, .int x5), (6, .long x6), (8, .long x8), (11, .int x11)]) hx hb dL_arePlans_302 hl (by decide) rfl (fun ls hl => ?_)
        refine lv_iinc (v := (x11 + (1 : Int32))) (lv' := [(11, .int (x11 + (1 : Int32))), (10, .int (0 : Int32)), (0, .ref a1), (1, .ref a2), (2, .ref a3), (3, .ref a4), (4, .ref a5), (5, .int x5), (6, .long x6), (8, .long x8)]) hx hb dL_arePlans_304 hl (k := 9) rfl (congrArg (HAdd.hAdd x11) (by decide)) (by decide) rfl (fun ls hl => ?_)
        refine lv_goto (tgt := 15) hx hb dL_arePlans_307 (by decide) ?_
        exact ih15 x5 x6 x8 (0 : Int32) (x11 + (1 : Int32)) h _ _ _ hw hW hS (lv_sub hl [2, 3, 4, 5, 6, 7, 8, 9, 1, 0] rfl)
      have hJ265 : ∀ (x5 : Int32) (x6 : Int64) (x8 : Int64) (x11 : Int32) (x12 : Int32) (t0 : Int32) (t1 : Int32) (h : KH) (ls : Array Slot) (H : Heap) (locs : List Loc), g_L_arePlans_J265 ct a0 a1 a2 a3 a4 a5 Post (g_L_arePlans_L15 ct a0 a1 a2 a3 a4 a5 Post  n15) x5 x6 x8 x11 x12 t0 t1 h → KW D A h H → va_S A s.heap H locs → lv_has ls 18 [(0, .ref a1), (1, .ref a2), (2, .ref a3), (3, .ref a4), (4, .ref a5), (5, .int x5), (6, .long x6), (8, .long x8), (11, .int x11), (12, .int x12)] → W p l e (rmF 5 0 0) s m ([.ref a1, .ref a2, .ref a3, .ref a4, .ref a5] : List Value).toArray below meth c H locs 0 0 Q (F0 m 265 ls [.int t1, .int t0]) := by
        intro x5 x6 x8 x11 x12 t0 t1 h ls H locs hw hW hS hl
        unfold g_L_arePlans_J265 at hw
        refine lv_icmp_ne (tgt := 301) hx hb dL_arePlans_265 (by decide) (fun c41 => ?_) (fun c41 => ?_)
        · have hw := itn c41 hw
          exact hJ301 x5 x6 x8 x11 h _ _ _ hw hW hS (lv_sub hl [0, 1, 2, 3, 4, 5, 6, 7, 8] rfl)
        · have hw := itp c41 hw
          refine lv_aload_n hx hb dL_arePlans_268 rfl (lv_at hl 0 rfl) ?_
          refine lv_aload_n hx hb dL_arePlans_269 rfl (lv_at hl 2 rfl) ?_
          refine lv_iload hx hb dL_arePlans_270 (lv_at hl 9 rfl) ?_
          obtain ⟨n42, f42, v42, e42, g42, ev42, hw⟩ := hw
          refine kw_iald hx hb hK hW 0 e42 rfl g42 ev42 dL_arePlans_272 ?_
          refine lv_bipush (v := (11 : Int32)) hx hb dL_arePlans_273 (by decide) ?_
          refine kx_call (As := [.int v42, .int (11 : Int32)]) (rest := []) hw (fun hc P hq => cg_X5_plan l D ct a0 a1 v42 (11 : Int32) hc P hq) B hK hN hZ hA hW hS rfl k_X5_plan q_18_0 rfl ⟨Nat.le_of_ble_eq_true rfl, Nat.le_of_ble_eq_true rfl⟩ ⟨Nat.le_of_ble_eq_true rfl, Nat.le_of_ble_eq_true rfl⟩ hl.1 rfl (Nat.le_of_ble_eq_true rfl) dL_arePlans_275 (fun v43 h43 H locs hw hW hS => ?_)
          refine lv_iload hx hb dL_arePlans_278 (lv_at hl 8 rfl) ?_
          refine lv_icmp_ne (tgt := 301) hx hb dL_arePlans_280 (by decide) (fun c44 => ?_) (fun c44 => ?_)
          · have hw := itn c44 hw
            refine W.widen (k := 0) (n := 0) (by omega) (by omega) ?_
            exact hJ301 x5 x6 x8 x11 h43 _ _ _ hw hW hS (lv_sub hl [0, 1, 2, 3, 4, 5, 6, 7, 8] rfl)
          · have hw := itp c44 hw
            refine lv_aload_n hx hb dL_arePlans_283 rfl (lv_at hl 0 rfl) ?_
            refine lv_aload_n hx hb dL_arePlans_284 rfl (lv_at hl 2 rfl) ?_
            refine lv_iload hx hb dL_arePlans_285 (lv_at hl 9 rfl) ?_
            obtain ⟨n45, f45, v45, e45, g45, ev45, hw⟩ := hw
            refine kw_iald hx hb hK hW 0 e45 rfl g45 ev45 dL_arePlans_287 ?_
            refine lv_bipush (v := (12 : Int32)) hx hb dL_arePlans_288 (by decide) ?_
            refine kx_call (As := [.int v45, .int (12 : Int32)]) (rest := []) hw (fun hc P hq => cg_X5_plan l D ct a0 a1 v45 (12 : Int32) hc P hq) B hK hN hZ hA hW hS rfl k_X5_plan q_18_0 rfl ⟨Nat.le_of_ble_eq_true rfl, Nat.le_of_ble_eq_true rfl⟩ ⟨Nat.le_of_ble_eq_true rfl, Nat.le_of_ble_eq_true rfl⟩ hl.1 rfl (Nat.le_of_ble_eq_true rfl) dL_arePlans_290 (fun v46 h46 H locs hw hW hS => ?_)
            refine lv_iconst (v := (-1 : Int32)) hx hb dL_arePlans_293 (by decide) ?_
            refine lv_icmp_ne (tgt := 301) hx hb dL_arePlans_294 (by decide) (fun c47 => ?_) (fun c47 => ?_)
            · have hw := itn c47 hw
              refine W.widen (k := 0) (n := 0) (by omega) (by omega) ?_
              exact hJ301 x5 x6 x8 x11 h46 _ _ _ hw hW hS (lv_sub hl [0, 1, 2, 3, 4, 5, 6, 7, 8] rfl)
            · have hw := itp c47 hw
              refine lv_iconst (v := (1 : Int32)) hx hb dL_arePlans_297 (by decide) ?_
              refine lv_goto (tgt := 302) hx hb dL_arePlans_298 (by decide) ?_
              refine lv_istore (lv' := [(10, .int (1 : Int32)), (0, .ref a1), (1, .ref a2), (2, .ref a3), (3, .ref a4), (4, .ref a5), (5, .int x5), (6, .long x6), (8, .long x8), (11, .int x11), (12, .int x12)]) hx hb dL_arePlans_302 hl (by decide) rfl (fun ls hl => ?_)
              refine lv_iinc (v := (x11 + (1 : Int32))) (lv' := [(11, .int (x11 + (1 : Int32))), (10, .int (1 : Int32)), (0, .ref a1), (1, .ref a2), (2, .ref a3), (3, .ref a4), (4, .ref a5), (5, .int x5), (6, .long x6), (8, .long x8), (12, .int x12)]) hx hb dL_arePlans_304 hl (k := 9) rfl (congrArg (HAdd.hAdd x11) (by decide)) (by decide) rfl (fun ls hl => ?_)
              refine lv_goto (tgt := 15) hx hb dL_arePlans_307 (by decide) ?_
              refine W.widen (k := 0) (n := 0) (by omega) (by omega) ?_
              exact ih15 x5 x6 x8 (1 : Int32) (x11 + (1 : Int32)) h46 _ _ _ hw hW hS (lv_sub hl [2, 3, 4, 5, 6, 7, 8, 9, 1, 0] rfl)
      have hL87 : ∀ (n87 : Nat), ∀ (x5 : Int32) (x6 : Int64) (x8 : Int64) (x10 : Int32) (x11 : Int32) (x12 : Int32) (x13 : Int64) (x15 : Int64) (x17 : Int32) (h : KH) (ls : Array Slot) (H : Heap) (locs : List Loc), g_L_arePlans_L87 ct a0 a1 a2 a3 a4 a5 Post (g_L_arePlans_L15 ct a0 a1 a2 a3 a4 a5 Post  n15) n87 x5 x6 x8 x10 x11 x12 x13 x15 x17 h → KW D A h H → va_S A s.heap H locs → lv_has ls 18 [(0, .ref a1), (1, .ref a2), (2, .ref a3), (3, .ref a4), (4, .ref a5), (5, .int x5), (6, .long x6), (8, .long x8), (10, .int x10), (11, .int x11), (12, .int x12), (13, .long x13), (15, .long x15), (17, .int x17)] → W p l e (rmF 5 0 0) s m ([.ref a1, .ref a2, .ref a3, .ref a4, .ref a5] : List Value).toArray below meth c H locs 0 0 Q (F0 m 87 ls []) := by
        intro n87
        induction n87 with
        | zero =>
          intro x5 x6 x8 x10 x11 x12 x13 x15 x17 h ls H locs hw
          exact (show False from hw).elim
        | succ n87 ih87 =>
          intro x5 x6 x8 x10 x11 x12 x13 x15 x17 h ls H locs hw hW hS hl
          have hw : g_L_arePlans_L87b ct a0 a1 a2 a3 a4 a5 Post (g_L_arePlans_L15 ct a0 a1 a2 a3 a4 a5 Post  n15) (g_L_arePlans_L87 ct a0 a1 a2 a3 a4 a5 Post (g_L_arePlans_L15 ct a0 a1 a2 a3 a4 a5 Post  n15) n87) x5 x6 x8 x10 x11 x12 x13 x15 x17 h := hw
          unfold g_L_arePlans_L87b at hw
          refine lv_iload hx hb dL_arePlans_87 (lv_at hl 13 rfl) ?_
          refine lv_iconst (v := (5 : Int32)) hx hb dL_arePlans_89 (by decide) ?_
          refine lv_icmp_ge (tgt := 133) hx hb dL_arePlans_90 (by decide) (fun c14 => ?_) (fun c14 => ?_)
          · have hw := itp c14 hw
            refine lv_iload hx hb dL_arePlans_133 (lv_at hl 8 rfl) ?_
            refine lv_if_eq (tgt := 301) hx hb dL_arePlans_135 (by decide) (fun c15 => ?_) (fun c15 => ?_)
            · have hw := itp c15 hw
              exact hJ301 x5 x6 x8 x11 h _ _ _ hw hW hS (lv_sub hl [0, 1, 2, 3, 4, 5, 6, 7, 9] rfl)
            · have hw := itn c15 hw
              refine lv_aload_n hx hb dL_arePlans_138 rfl (lv_at hl 0 rfl) ?_
              refine lv_aload_n hx hb dL_arePlans_139 rfl (lv_at hl 2 rfl) ?_
              refine lv_iload hx hb dL_arePlans_140 (lv_at hl 10 rfl) ?_
              obtain ⟨n16, f16, v16, e16, g16, ev16, hw⟩ := hw
              refine kw_iald hx hb hK hW 0 e16 rfl g16 ev16 dL_arePlans_142 ?_
              refine lv_iconst (v := (5 : Int32)) hx hb dL_arePlans_143 (by decide) ?_
              refine kx_call (As := [.int v16, .int (5 : Int32)]) (rest := []) hw (fun hc P hq => cg_X5_plan l D ct a0 a1 v16 (5 : Int32) hc P hq) B hK hN hZ hA hW hS rfl k_X5_plan q_18_0 rfl ⟨Nat.le_of_ble_eq_true rfl, Nat.le_of_ble_eq_true rfl⟩ ⟨Nat.le_of_ble_eq_true rfl, Nat.le_of_ble_eq_true rfl⟩ hl.1 rfl (Nat.le_of_ble_eq_true rfl) dL_arePlans_144 (fun v17 h17 H locs hw hW hS => ?_)
              refine lv_lload hx hb dL_arePlans_147 (lv_at hl 11 rfl) ?_
              refine ks_call (As := [.long x13]) (rest := [.int v17]) (cg_L_cut l D ct a0 x13 h17 _ hw) B hK hN hZ hA hW hS k_L_cut q_16_13 rfl ⟨Nat.le_of_ble_eq_true rfl, Nat.le_of_ble_eq_true rfl⟩ ⟨Nat.le_of_ble_eq_true rfl, Nat.le_of_ble_eq_true rfl⟩ hl.1 rfl (Nat.le_of_ble_eq_true rfl) dL_arePlans_149 (fun v18 h18 H locs hw hW hS => ?_)
              refine lv_icmp_ne (tgt := 301) hx hb dL_arePlans_152 (by decide) (fun c19 => ?_) (fun c19 => ?_)
              · have hw := itn c19 hw
                refine W.widen (k := 0) (n := 0) (by omega) (by omega) ?_
                exact hJ301 x5 x6 x8 x11 h18 _ _ _ hw hW hS (lv_sub hl [0, 1, 2, 3, 4, 5, 6, 7, 9] rfl)
              · have hw := itp c19 hw
                refine lv_aload_n hx hb dL_arePlans_155 rfl (lv_at hl 0 rfl) ?_
                refine lv_aload_n hx hb dL_arePlans_156 rfl (lv_at hl 2 rfl) ?_
                refine lv_iload hx hb dL_arePlans_157 (lv_at hl 10 rfl) ?_
                obtain ⟨n20, f20, v20, e20, g20, ev20, hw⟩ := hw
                refine kw_iald hx hb hK hW 0 e20 rfl g20 ev20 dL_arePlans_159 ?_
                refine lv_bipush (v := (6 : Int32)) hx hb dL_arePlans_160 (by decide) ?_
                refine kx_call (As := [.int v20, .int (6 : Int32)]) (rest := []) hw (fun hc P hq => cg_X5_plan l D ct a0 a1 v20 (6 : Int32) hc P hq) B hK hN hZ hA hW hS rfl k_X5_plan q_18_0 rfl ⟨Nat.le_of_ble_eq_true rfl, Nat.le_of_ble_eq_true rfl⟩ ⟨Nat.le_of_ble_eq_true rfl, Nat.le_of_ble_eq_true rfl⟩ hl.1 rfl (Nat.le_of_ble_eq_true rfl) dL_arePlans_162 (fun v21 h21 H locs hw hW hS => ?_)
                refine lv_aload_n hx hb dL_arePlans_165 rfl (lv_at hl 1 rfl) ?_
                refine lv_aload_n hx hb dL_arePlans_166 rfl (lv_at hl 2 rfl) ?_
                refine lv_iload hx hb dL_arePlans_167 (lv_at hl 10 rfl) ?_
                refine lv_iconst (v := (5 : Int32)) hx hb dL_arePlans_169 (by decide) ?_
                refine ks_call (As := [.ref a2, .ref a3, .int x12, .int (5 : Int32)]) (rest := [.int v21]) (cg_L_cost l D ct a0 a2 a3 x12 (5 : Int32) h21 _ hw) B hK hN hZ hA hW hS k_L_cost q_12_1 rfl ⟨Nat.le_of_ble_eq_true rfl, Nat.le_of_ble_eq_true rfl⟩ ⟨Nat.le_of_ble_eq_true rfl, Nat.le_of_ble_eq_true rfl⟩ hl.1 rfl (Nat.le_of_ble_eq_true rfl) dL_arePlans_170 (fun v22 h22 H locs hw hW hS => ?_)
                refine ks_call (As := [.long v22]) (rest := [.int v21]) (cg_L_cut l D ct a0 v22 h22 _ hw) B hK hN hZ hA hW hS k_L_cut q_16_13 rfl ⟨Nat.le_of_ble_eq_true rfl, Nat.le_of_ble_eq_true rfl⟩ ⟨Nat.le_of_ble_eq_true rfl, Nat.le_of_ble_eq_true rfl⟩ hl.1 rfl (Nat.le_of_ble_eq_true rfl) dL_arePlans_173 (fun v23 h23 H locs hw hW hS => ?_)
                refine lv_icmp_ne (tgt := 301) hx hb dL_arePlans_176 (by decide) (fun c24 => ?_) (fun c24 => ?_)
                · have hw := itn c24 hw
                  refine W.widen (k := 0) (n := 0) (by omega) (by omega) ?_
                  exact hJ301 x5 x6 x8 x11 h23 _ _ _ hw hW hS (lv_sub hl [0, 1, 2, 3, 4, 5, 6, 7, 9] rfl)
                · have hw := itp c24 hw
                  refine lv_aload_n hx hb dL_arePlans_179 rfl (lv_at hl 0 rfl) ?_
                  refine lv_aload_n hx hb dL_arePlans_180 rfl (lv_at hl 2 rfl) ?_
                  refine lv_iload hx hb dL_arePlans_181 (lv_at hl 10 rfl) ?_
                  obtain ⟨n25, f25, v25, e25, g25, ev25, hw⟩ := hw
                  refine kw_iald hx hb hK hW 0 e25 rfl g25 ev25 dL_arePlans_183 ?_
                  refine lv_bipush (v := (7 : Int32)) hx hb dL_arePlans_184 (by decide) ?_
                  refine kx_call (As := [.int v25, .int (7 : Int32)]) (rest := []) hw (fun hc P hq => cg_X5_plan l D ct a0 a1 v25 (7 : Int32) hc P hq) B hK hN hZ hA hW hS rfl k_X5_plan q_18_0 rfl ⟨Nat.le_of_ble_eq_true rfl, Nat.le_of_ble_eq_true rfl⟩ ⟨Nat.le_of_ble_eq_true rfl, Nat.le_of_ble_eq_true rfl⟩ hl.1 rfl (Nat.le_of_ble_eq_true rfl) dL_arePlans_186 (fun v26 h26 H locs hw hW hS => ?_)
                  refine lv_aload_n hx hb dL_arePlans_189 rfl (lv_at hl 2 rfl) ?_
                  refine lv_iload hx hb dL_arePlans_190 (lv_at hl 10 rfl) ?_
                  refine lv_bipush (v := (11 : Int32)) hx hb dL_arePlans_192 (by decide) ?_
                  refine lv_iadd hx hb dL_arePlans_194 ?_
                  obtain ⟨n27, f27, v27, e27, g27, ev27, hw⟩ := hw
                  refine kw_iald hx hb hK hW 0 e27 rfl g27 ev27 dL_arePlans_195 ?_
                  refine lv_icmp_ne (tgt := 301) hx hb dL_arePlans_196 (by decide) (fun c28 => ?_) (fun c28 => ?_)
                  · have hw := itn c28 hw
                    refine W.widen (k := 0) (n := 0) (by omega) (by omega) ?_
                    exact hJ301 x5 x6 x8 x11 h26 _ _ _ hw hW hS (lv_sub hl [0, 1, 2, 3, 4, 5, 6, 7, 9] rfl)
                  · have hw := itp c28 hw
                    refine lv_aload_n hx hb dL_arePlans_199 rfl (lv_at hl 0 rfl) ?_
                    refine lv_aload_n hx hb dL_arePlans_200 rfl (lv_at hl 2 rfl) ?_
                    refine lv_iload hx hb dL_arePlans_201 (lv_at hl 10 rfl) ?_
                    obtain ⟨n29, f29, v29, e29, g29, ev29, hw⟩ := hw
                    refine kw_iald hx hb hK hW 0 e29 rfl g29 ev29 dL_arePlans_203 ?_
                    refine lv_bipush (v := (8 : Int32)) hx hb dL_arePlans_204 (by decide) ?_
                    refine kx_call (As := [.int v29, .int (8 : Int32)]) (rest := []) hw (fun hc P hq => cg_X5_plan l D ct a0 a1 v29 (8 : Int32) hc P hq) B hK hN hZ hA hW hS rfl k_X5_plan q_18_0 rfl ⟨Nat.le_of_ble_eq_true rfl, Nat.le_of_ble_eq_true rfl⟩ ⟨Nat.le_of_ble_eq_true rfl, Nat.le_of_ble_eq_true rfl⟩ hl.1 rfl (Nat.le_of_ble_eq_true rfl) dL_arePlans_206 (fun v30 h30 H locs hw hW hS => ?_)
                    refine lv_aload_n hx hb dL_arePlans_209 rfl (lv_at hl 2 rfl) ?_
                    refine lv_iload hx hb dL_arePlans_210 (lv_at hl 10 rfl) ?_
                    refine lv_bipush (v := (12 : Int32)) hx hb dL_arePlans_212 (by decide) ?_
                    refine lv_iadd hx hb dL_arePlans_214 ?_
                    obtain ⟨n31, f31, v31, e31, g31, ev31, hw⟩ := hw
                    refine kw_iald hx hb hK hW 0 e31 rfl g31 ev31 dL_arePlans_215 ?_
                    refine lv_icmp_ne (tgt := 301) hx hb dL_arePlans_216 (by decide) (fun c32 => ?_) (fun c32 => ?_)
                    · have hw := itn c32 hw
                      refine W.widen (k := 0) (n := 0) (by omega) (by omega) ?_
                      exact hJ301 x5 x6 x8 x11 h30 _ _ _ hw hW hS (lv_sub hl [0, 1, 2, 3, 4, 5, 6, 7, 9] rfl)
                    · have hw := itp c32 hw
                      refine lv_aload_n hx hb dL_arePlans_219 rfl (lv_at hl 0 rfl) ?_
                      refine lv_aload_n hx hb dL_arePlans_220 rfl (lv_at hl 2 rfl) ?_
                      refine lv_iload hx hb dL_arePlans_221 (lv_at hl 10 rfl) ?_
                      obtain ⟨n33, f33, v33, e33, g33, ev33, hw⟩ := hw
                      refine kw_iald hx hb hK hW 0 e33 rfl g33 ev33 dL_arePlans_223 ?_
                      refine lv_bipush (v := (9 : Int32)) hx hb dL_arePlans_224 (by decide) ?_
                      refine kx_call (As := [.int v33, .int (9 : Int32)]) (rest := []) hw (fun hc P hq => cg_X5_plan l D ct a0 a1 v33 (9 : Int32) hc P hq) B hK hN hZ hA hW hS rfl k_X5_plan q_18_0 rfl ⟨Nat.le_of_ble_eq_true rfl, Nat.le_of_ble_eq_true rfl⟩ ⟨Nat.le_of_ble_eq_true rfl, Nat.le_of_ble_eq_true rfl⟩ hl.1 rfl (Nat.le_of_ble_eq_true rfl) dL_arePlans_226 (fun v34 h34 H locs hw hW hS => ?_)
                      refine lv_lload hx hb dL_arePlans_229 (lv_at hl 11 rfl) ?_
                      refine lv_lload hx hb dL_arePlans_231 (lv_at hl 12 rfl) ?_
                      refine lv_lsub hx hb dL_arePlans_233 ?_
                      refine ks_call (As := [.long (x13 - x15)]) (rest := [.int v34]) (cg_L_cut l D ct a0 (x13 - x15) h34 _ hw) B hK hN hZ hA hW hS k_L_cut q_16_13 rfl ⟨Nat.le_of_ble_eq_true rfl, Nat.le_of_ble_eq_true rfl⟩ ⟨Nat.le_of_ble_eq_true rfl, Nat.le_of_ble_eq_true rfl⟩ hl.1 rfl (Nat.le_of_ble_eq_true rfl) dL_arePlans_234 (fun v35 h35 H locs hw hW hS => ?_)
                      refine lv_icmp_ne (tgt := 301) hx hb dL_arePlans_237 (by decide) (fun c36 => ?_) (fun c36 => ?_)
                      · have hw := itn c36 hw
                        refine W.widen (k := 0) (n := 0) (by omega) (by omega) ?_
                        exact hJ301 x5 x6 x8 x11 h35 _ _ _ hw hW hS (lv_sub hl [0, 1, 2, 3, 4, 5, 6, 7, 9] rfl)
                      · have hw := itp c36 hw
                        refine lv_aload_n hx hb dL_arePlans_240 rfl (lv_at hl 0 rfl) ?_
                        refine lv_aload_n hx hb dL_arePlans_241 rfl (lv_at hl 2 rfl) ?_
                        refine lv_iload hx hb dL_arePlans_242 (lv_at hl 10 rfl) ?_
                        obtain ⟨n37, f37, v37, e37, g37, ev37, hw⟩ := hw
                        refine kw_iald hx hb hK hW 0 e37 rfl g37 ev37 dL_arePlans_244 ?_
                        refine lv_bipush (v := (10 : Int32)) hx hb dL_arePlans_245 (by decide) ?_
                        refine kx_call (As := [.int v37, .int (10 : Int32)]) (rest := []) hw (fun hc P hq => cg_X5_plan l D ct a0 a1 v37 (10 : Int32) hc P hq) B hK hN hZ hA hW hS rfl k_X5_plan q_18_0 rfl ⟨Nat.le_of_ble_eq_true rfl, Nat.le_of_ble_eq_true rfl⟩ ⟨Nat.le_of_ble_eq_true rfl, Nat.le_of_ble_eq_true rfl⟩ hl.1 rfl (Nat.le_of_ble_eq_true rfl) dL_arePlans_247 (fun v38 h38 H locs hw hW hS => ?_)
                        refine lv_aload_n hx hb dL_arePlans_250 rfl (lv_at hl 1 rfl) ?_
                        refine lv_aload_n hx hb dL_arePlans_251 rfl (lv_at hl 2 rfl) ?_
                        refine lv_iload hx hb dL_arePlans_252 (lv_at hl 10 rfl) ?_
                        refine ks_call (As := [.ref a2, .ref a3, .int x12]) (rest := [.int v38]) (cg_L_drifted l D ct a0 a2 a3 x12 h38 _ hw) B hK hN hZ hA hW hS k_L_drifted q_10_1 rfl ⟨Nat.le_of_ble_eq_true rfl, Nat.le_of_ble_eq_true rfl⟩ ⟨Nat.le_of_ble_eq_true rfl, Nat.le_of_ble_eq_true rfl⟩ hl.1 rfl (Nat.le_of_ble_eq_true rfl) dL_arePlans_254 (fun v39 h39 H locs hw hW hS => ?_)
                        refine lv_if_eq (tgt := 264) hx hb dL_arePlans_257 (by decide) (fun c40 => ?_) (fun c40 => ?_)
                        · have hw := itp c40 hw
                          refine lv_iconst (v := (0 : Int32)) hx hb dL_arePlans_264 (by decide) ?_
                          refine W.widen (k := 0) (n := 0) (by omega) (by omega) ?_
                          exact hJ265 x5 x6 x8 x11 x12 v38 (0 : Int32) h39 _ _ _ hw hW hS (lv_sub hl [0, 1, 2, 3, 4, 5, 6, 7, 9, 10] rfl)
                        · have hw := itn c40 hw
                          refine lv_iconst (v := (1 : Int32)) hx hb dL_arePlans_260 (by decide) ?_
                          refine lv_goto (tgt := 265) hx hb dL_arePlans_261 (by decide) ?_
                          refine W.widen (k := 0) (n := 0) (by omega) (by omega) ?_
                          exact hJ265 x5 x6 x8 x11 x12 v38 (1 : Int32) h39 _ _ _ hw hW hS (lv_sub hl [0, 1, 2, 3, 4, 5, 6, 7, 9, 10] rfl)
          · have hw := itn c14 hw
            refine lv_iload hx hb dL_arePlans_93 (lv_at hl 8 rfl) ?_
            refine lv_if_eq (tgt := 124) hx hb dL_arePlans_95 (by decide) (fun c48 => ?_) (fun c48 => ?_)
            · have hw := itp c48 hw
              refine lv_iconst (v := (0 : Int32)) hx hb dL_arePlans_124 (by decide) ?_
              refine lv_istore (lv' := [(10, .int (0 : Int32)), (0, .ref a1), (1, .ref a2), (2, .ref a3), (3, .ref a4), (4, .ref a5), (5, .int x5), (6, .long x6), (8, .long x8), (11, .int x11), (12, .int x12), (13, .long x13), (15, .long x15), (17, .int x17)]) hx hb dL_arePlans_125 hl (by decide) rfl (fun ls hl => ?_)
              refine lv_iinc (v := (x17 + (1 : Int32))) (lv' := [(17, .int (x17 + (1 : Int32))), (10, .int (0 : Int32)), (0, .ref a1), (1, .ref a2), (2, .ref a3), (3, .ref a4), (4, .ref a5), (5, .int x5), (6, .long x6), (8, .long x8), (11, .int x11), (12, .int x12), (13, .long x13), (15, .long x15)]) hx hb dL_arePlans_127 hl (k := 13) rfl (congrArg (HAdd.hAdd x17) (by decide)) (by decide) rfl (fun ls hl => ?_)
              refine lv_goto (tgt := 87) hx hb dL_arePlans_130 (by decide) ?_
              exact ih87 x5 x6 x8 (0 : Int32) x11 x12 x13 x15 (x17 + (1 : Int32)) h _ _ _ hw hW hS (lv_sub hl [2, 3, 4, 5, 6, 7, 8, 9, 1, 10, 11, 12, 13, 0] rfl)
            · have hw := itn c48 hw
              refine lv_aload_n hx hb dL_arePlans_98 rfl (lv_at hl 0 rfl) ?_
              refine lv_aload_n hx hb dL_arePlans_99 rfl (lv_at hl 2 rfl) ?_
              refine lv_iload hx hb dL_arePlans_100 (lv_at hl 10 rfl) ?_
              obtain ⟨n49, f49, v49, e49, g49, ev49, hw⟩ := hw
              refine kw_iald hx hb hK hW 0 e49 rfl g49 ev49 dL_arePlans_102 ?_
              refine lv_iload hx hb dL_arePlans_103 (lv_at hl 13 rfl) ?_
              refine kx_call (As := [.int v49, .int x17]) (rest := []) hw (fun hc P hq => cg_X5_plan l D ct a0 a1 v49 x17 hc P hq) B hK hN hZ hA hW hS rfl k_X5_plan q_18_0 rfl ⟨Nat.le_of_ble_eq_true rfl, Nat.le_of_ble_eq_true rfl⟩ ⟨Nat.le_of_ble_eq_true rfl, Nat.le_of_ble_eq_true rfl⟩ hl.1 rfl (Nat.le_of_ble_eq_true rfl) dL_arePlans_105 (fun v50 h50 H locs hw hW hS => ?_)
              refine lv_aload_n hx hb dL_arePlans_108 rfl (lv_at hl 2 rfl) ?_
              refine lv_iload hx hb dL_arePlans_109 (lv_at hl 10 rfl) ?_
              refine lv_iconst (v := (1 : Int32)) hx hb dL_arePlans_111 (by decide) ?_
              refine lv_iadd hx hb dL_arePlans_112 ?_
              refine lv_iload hx hb dL_arePlans_113 (lv_at hl 13 rfl) ?_
              refine lv_iadd hx hb dL_arePlans_115 ?_
              obtain ⟨n51, f51, v51, e51, g51, ev51, hw⟩ := hw
              refine kw_iald hx hb hK hW 0 e51 rfl g51 ev51 dL_arePlans_116 ?_
              refine lv_icmp_ne (tgt := 124) hx hb dL_arePlans_117 (by decide) (fun c52 => ?_) (fun c52 => ?_)
              · have hw := itn c52 hw
                refine lv_iconst (v := (0 : Int32)) hx hb dL_arePlans_124 (by decide) ?_
                refine lv_istore (lv' := [(10, .int (0 : Int32)), (0, .ref a1), (1, .ref a2), (2, .ref a3), (3, .ref a4), (4, .ref a5), (5, .int x5), (6, .long x6), (8, .long x8), (11, .int x11), (12, .int x12), (13, .long x13), (15, .long x15), (17, .int x17)]) hx hb dL_arePlans_125 hl (by decide) rfl (fun ls hl => ?_)
                refine lv_iinc (v := (x17 + (1 : Int32))) (lv' := [(17, .int (x17 + (1 : Int32))), (10, .int (0 : Int32)), (0, .ref a1), (1, .ref a2), (2, .ref a3), (3, .ref a4), (4, .ref a5), (5, .int x5), (6, .long x6), (8, .long x8), (11, .int x11), (12, .int x12), (13, .long x13), (15, .long x15)]) hx hb dL_arePlans_127 hl (k := 13) rfl (congrArg (HAdd.hAdd x17) (by decide)) (by decide) rfl (fun ls hl => ?_)
                refine lv_goto (tgt := 87) hx hb dL_arePlans_130 (by decide) ?_
                refine W.widen (k := 0) (n := 0) (by omega) (by omega) ?_
                exact ih87 x5 x6 x8 (0 : Int32) x11 x12 x13 x15 (x17 + (1 : Int32)) h50 _ _ _ hw hW hS (lv_sub hl [2, 3, 4, 5, 6, 7, 8, 9, 1, 10, 11, 12, 13, 0] rfl)
              · have hw := itp c52 hw
                refine lv_iconst (v := (1 : Int32)) hx hb dL_arePlans_120 (by decide) ?_
                refine lv_goto (tgt := 125) hx hb dL_arePlans_121 (by decide) ?_
                refine lv_istore (lv' := [(10, .int (1 : Int32)), (0, .ref a1), (1, .ref a2), (2, .ref a3), (3, .ref a4), (4, .ref a5), (5, .int x5), (6, .long x6), (8, .long x8), (11, .int x11), (12, .int x12), (13, .long x13), (15, .long x15), (17, .int x17)]) hx hb dL_arePlans_125 hl (by decide) rfl (fun ls hl => ?_)
                refine lv_iinc (v := (x17 + (1 : Int32))) (lv' := [(17, .int (x17 + (1 : Int32))), (10, .int (1 : Int32)), (0, .ref a1), (1, .ref a2), (2, .ref a3), (3, .ref a4), (4, .ref a5), (5, .int x5), (6, .long x6), (8, .long x8), (11, .int x11), (12, .int x12), (13, .long x13), (15, .long x15)]) hx hb dL_arePlans_127 hl (k := 13) rfl (congrArg (HAdd.hAdd x17) (by decide)) (by decide) rfl (fun ls hl => ?_)
                refine lv_goto (tgt := 87) hx hb dL_arePlans_130 (by decide) ?_
                refine W.widen (k := 0) (n := 0) (by omega) (by omega) ?_
                exact ih87 x5 x6 x8 (1 : Int32) x11 x12 x13 x15 (x17 + (1 : Int32)) h50 _ _ _ hw hW hS (lv_sub hl [2, 3, 4, 5, 6, 7, 8, 9, 1, 10, 11, 12, 13, 0] rfl)
      intro x5 x6 x8 x10 x11 h ls H locs hw hW hS hl
      have hw : g_L_arePlans_L15b ct a0 a1 a2 a3 a4 a5 Post  (g_L_arePlans_L15 ct a0 a1 a2 a3 a4 a5 Post  n15) x5 x6 x8 x10 x11 h := hw
      unfold g_L_arePlans_L15b at hw
      refine lv_iload hx hb dL_arePlans_15 (lv_at hl 9 rfl) ?_
      refine lv_aload_n hx hb dL_arePlans_17 rfl (lv_at hl 3 rfl) ?_
      refine lv_iconst (v := (0 : Int32)) hx hb dL_arePlans_18 (by decide) ?_
      obtain ⟨n1, f1, v1, e1, g1, ev1, hw⟩ := hw
      refine kw_iald hx hb hK hW 0 e1 rfl g1 ev1 dL_arePlans_19 ?_
      refine lv_icmp_ge (tgt := 310) hx hb dL_arePlans_20 (by decide) (fun c2 => ?_) (fun c2 => ?_)
      · have hw := itp c2 hw
        exact hJ310 x5 x6 x8 x10 h _ _ _ hw hW hS (lv_sub hl [0, 3, 5, 6, 7, 8] rfl)
      · have hw := itn c2 hw
        refine lv_iload hx hb dL_arePlans_23 (lv_at hl 8 rfl) ?_
        refine lv_if_eq (tgt := 310) hx hb dL_arePlans_25 (by decide) (fun c9 => ?_) (fun c9 => ?_)
        · have hw := itp c9 hw
          exact hJ310 x5 x6 x8 x10 h _ _ _ hw hW hS (lv_sub hl [0, 3, 5, 6, 7, 8] rfl)
        · have hw := itn c9 hw
          refine lv_bipush (v := (14 : Int32)) hx hb dL_arePlans_28 (by decide) ?_
          refine lv_iload hx hb dL_arePlans_30 (lv_at hl 9 rfl) ?_
          refine lv_imul hx hb dL_arePlans_32 ?_
          refine lv_istore (lv' := [(12, .int ((14 : Int32) * x11)), (0, .ref a1), (1, .ref a2), (2, .ref a3), (3, .ref a4), (4, .ref a5), (5, .int x5), (6, .long x6), (8, .long x8), (10, .int x10), (11, .int x11)]) hx hb dL_arePlans_33 hl (by decide) rfl (fun ls hl => ?_)
          refine lv_aload_n hx hb dL_arePlans_35 rfl (lv_at hl 2 rfl) ?_
          refine lv_aload_n hx hb dL_arePlans_36 rfl (lv_at hl 3 rfl) ?_
          refine lv_iload hx hb dL_arePlans_37 (lv_at hl 0 rfl) ?_
          refine lv_iconst (v := (0 : Int32)) hx hb dL_arePlans_39 (by decide) ?_
          refine ks_call (As := [.ref a2, .ref a3, .int ((14 : Int32) * x11), .int (0 : Int32)]) (rest := []) (cg_L_cost l D ct a0 a2 a3 ((14 : Int32) * x11) (0 : Int32) h _ hw) B hK hN hZ hA hW hS k_L_cost q_12_1 rfl ⟨Nat.le_of_ble_eq_true rfl, Nat.le_of_ble_eq_true rfl⟩ ⟨Nat.le_of_ble_eq_true rfl, Nat.le_of_ble_eq_true rfl⟩ hl.1 rfl (Nat.le_of_ble_eq_true rfl) dL_arePlans_40 (fun v10 h10 H locs hw hW hS => ?_)
          refine lv_lstore (lv' := [(13, .long v10), (12, .int ((14 : Int32) * x11)), (0, .ref a1), (1, .ref a2), (2, .ref a3), (3, .ref a4), (4, .ref a5), (5, .int x5), (6, .long x6), (8, .long x8), (10, .int x10), (11, .int x11)]) hx hb dL_arePlans_43 hl (by decide) rfl (fun ls hl => ?_)
          refine lv_aload_n hx hb dL_arePlans_45 rfl (lv_at hl 3 rfl) ?_
          refine lv_aload_n hx hb dL_arePlans_46 rfl (lv_at hl 4 rfl) ?_
          refine lv_iload hx hb dL_arePlans_47 (lv_at hl 1 rfl) ?_
          obtain ⟨n11, f11, v11, e11, g11, ev11, hw⟩ := hw
          refine kw_iald hx hb hK hW 0 e11 rfl g11 ev11 dL_arePlans_49 ?_
          refine lv_iconst (v := (0 : Int32)) hx hb dL_arePlans_50 (by decide) ?_
          refine lv_aload hx hb dL_arePlans_51 (lv_at hl 6 rfl) ?_
          refine ks_call (As := [.ref a2, .int v11, .int (0 : Int32), .ref a5]) (rest := []) (cg_L_least l D ct a0 a2 v11 (0 : Int32) a5 h10 _ hw) B hK hN hZ hA hW hS k_L_least q_11_11 rfl ⟨Nat.le_of_ble_eq_true rfl, Nat.le_of_ble_eq_true rfl⟩ ⟨Nat.le_of_ble_eq_true rfl, Nat.le_of_ble_eq_true rfl⟩ hl.1 rfl (Nat.le_of_ble_eq_true rfl) dL_arePlans_53 (fun v12 h12 H locs hw hW hS => ?_)
          refine lv_lstore (lv' := [(15, .long v12), (13, .long v10), (12, .int ((14 : Int32) * x11)), (0, .ref a1), (1, .ref a2), (2, .ref a3), (3, .ref a4), (4, .ref a5), (5, .int x5), (6, .long x6), (8, .long x8), (10, .int x10), (11, .int x11)]) hx hb dL_arePlans_56 hl (by decide) rfl (fun ls hl => ?_)
          refine lv_lload hx hb dL_arePlans_58 (lv_at hl 9 rfl) ?_
          refine lv_lload hx hb dL_arePlans_60 (lv_at hl 0 rfl) ?_
          refine lv_ladd hx hb dL_arePlans_62 ?_
          refine lv_lstore (lv' := [(6, .long (x6 + v12)), (15, .long v12), (13, .long v10), (12, .int ((14 : Int32) * x11)), (0, .ref a1), (1, .ref a2), (2, .ref a3), (3, .ref a4), (4, .ref a5), (5, .int x5), (8, .long x8), (10, .int x10), (11, .int x11)]) hx hb dL_arePlans_63 hl (by decide) rfl (fun ls hl => ?_)
          refine lv_lload hx hb dL_arePlans_65 (lv_at hl 10 rfl) ?_
          refine lv_lload hx hb dL_arePlans_67 (lv_at hl 2 rfl) ?_
          refine lv_ladd hx hb dL_arePlans_69 ?_
          refine lv_lstore (lv' := [(8, .long (x8 + v10)), (6, .long (x6 + v12)), (15, .long v12), (13, .long v10), (12, .int ((14 : Int32) * x11)), (0, .ref a1), (1, .ref a2), (2, .ref a3), (3, .ref a4), (4, .ref a5), (5, .int x5), (10, .int x10), (11, .int x11)]) hx hb dL_arePlans_70 hl (by decide) rfl (fun ls hl => ?_)
          refine lv_iload hx hb dL_arePlans_72 (lv_at hl 10 rfl) ?_
          refine lv_aload_n hx hb dL_arePlans_74 rfl (lv_at hl 7 rfl) ?_
          refine lv_iload hx hb dL_arePlans_75 (lv_at hl 4 rfl) ?_
          refine lv_bipush (v := (12 : Int32)) hx hb dL_arePlans_77 (by decide) ?_
          refine lv_iadd hx hb dL_arePlans_79 ?_
          obtain ⟨n13, f13, v13, e13, g13, ev13, hw⟩ := hw
          refine kw_iald hx hb hK hW 0 e13 rfl g13 ev13 dL_arePlans_80 ?_
          refine lv_iadd hx hb dL_arePlans_81 ?_
          refine lv_istore (lv' := [(5, .int (x5 + v13)), (8, .long (x8 + v10)), (6, .long (x6 + v12)), (15, .long v12), (13, .long v10), (12, .int ((14 : Int32) * x11)), (0, .ref a1), (1, .ref a2), (2, .ref a3), (3, .ref a4), (4, .ref a5), (10, .int x10), (11, .int x11)]) hx hb dL_arePlans_82 hl (by decide) rfl (fun ls hl => ?_)
          refine lv_iconst (v := (0 : Int32)) hx hb dL_arePlans_84 (by decide) ?_
          refine lv_istore (lv' := [(17, .int (0 : Int32)), (5, .int (x5 + v13)), (8, .long (x8 + v10)), (6, .long (x6 + v12)), (15, .long v12), (13, .long v10), (12, .int ((14 : Int32) * x11)), (0, .ref a1), (1, .ref a2), (2, .ref a3), (3, .ref a4), (4, .ref a5), (10, .int x10), (11, .int x11)]) hx hb dL_arePlans_85 hl (by decide) rfl (fun ls hl => ?_)
          refine W.widen (k := 0) (n := 0) (by omega) (by omega) ?_
          exact hL87 1024 (x5 + v13) (x6 + v12) (x8 + v10) x10 x11 ((14 : Int32) * x11) v10 v12 (0 : Int32) h12 _ _ _ hw hW hS (lv_sub hl [7, 8, 9, 10, 11, 1, 3, 2, 12, 13, 6, 5, 4, 0] rfl)
  unfold g_L_arePlans at hw
  refine lv_iconst (v := (0 : Int32)) hx hb dL_arePlans_0 (by decide) ?_
  refine lv_istore (lv' := [(5, .int (0 : Int32)), (0, .ref a1), (1, .ref a2), (2, .ref a3), (3, .ref a4), (4, .ref a5)]) hx hb dL_arePlans_1 hl (by decide) rfl (fun ls hl => ?_)
  refine lv_lconst (v := (0 : Int64)) hx hb dL_arePlans_3 (by decide) ?_
  refine lv_lstore (lv' := [(6, .long (0 : Int64)), (5, .int (0 : Int32)), (0, .ref a1), (1, .ref a2), (2, .ref a3), (3, .ref a4), (4, .ref a5)]) hx hb dL_arePlans_4 hl (by decide) rfl (fun ls hl => ?_)
  refine lv_lconst (v := (0 : Int64)) hx hb dL_arePlans_6 (by decide) ?_
  refine lv_lstore (lv' := [(8, .long (0 : Int64)), (6, .long (0 : Int64)), (5, .int (0 : Int32)), (0, .ref a1), (1, .ref a2), (2, .ref a3), (3, .ref a4), (4, .ref a5)]) hx hb dL_arePlans_7 hl (by decide) rfl (fun ls hl => ?_)
  refine lv_iconst (v := (1 : Int32)) hx hb dL_arePlans_9 (by decide) ?_
  refine lv_istore (lv' := [(10, .int (1 : Int32)), (8, .long (0 : Int64)), (6, .long (0 : Int64)), (5, .int (0 : Int32)), (0, .ref a1), (1, .ref a2), (2, .ref a3), (3, .ref a4), (4, .ref a5)]) hx hb dL_arePlans_10 hl (by decide) rfl (fun ls hl => ?_)
  refine lv_iconst (v := (0 : Int32)) hx hb dL_arePlans_12 (by decide) ?_
  refine lv_istore (lv' := [(11, .int (0 : Int32)), (10, .int (1 : Int32)), (8, .long (0 : Int64)), (6, .long (0 : Int64)), (5, .int (0 : Int32)), (0, .ref a1), (1, .ref a2), (2, .ref a3), (3, .ref a4), (4, .ref a5)]) hx hb dL_arePlans_13 hl (by decide) rfl (fun ls hl => ?_)
  exact hL15 1024 (0 : Int32) (0 : Int64) (0 : Int64) (1 : Int32) (0 : Int32) h _ _ _ hw hW hS (lv_sub hl [5, 6, 7, 8, 9, 4, 3, 2, 1, 0] rfl)

def g_L_areTold_L295b (ct : Nat → ClassId) (a0 : Nat) (a1 : Nat) (a2 : Nat) (a3 : Nat) (a4 : Nat) (a5 : Nat) (a6 : Int32) (Post : Int32 → KH → Prop) (k137 : Int32 → Int32 → KH → Prop) (k295 : Int32 → Int32 → Int32 → KH → Prop) (x6 : Int32) (x7 : Int32) (x10 : Int32) (h : KH) : Prop :=
  if (5 : Int32) ≤ x10 then k137 x6 (x7 + (1 : Int32)) h
  else if x6 = (0 : Int32) then k295 (0 : Int32) x7 (x10 + (1 : Int32)) h
  else frC h a1 (fun hc P => g_X5_partOf ct a0 a1 x7 x10 hc P) (fun v19 h19 => if x10 = x7 then if v19 = (-1 : Int32) then k295 (1 : Int32) x7 (x10 + (1 : Int32)) h19
  else k295 (0 : Int32) x7 (x10 + (1 : Int32)) h19
  else ldI h19 a2 (((10 : Int32) + ((5 : Int32) * x7)) + x10) (ct 0) (fun v21 => if v19 = v21 then k295 (1 : Int32) x7 (x10 + (1 : Int32)) h19
  else k295 (0 : Int32) x7 (x10 + (1 : Int32)) h19))
def g_L_areTold_L295 (ct : Nat → ClassId) (a0 : Nat) (a1 : Nat) (a2 : Nat) (a3 : Nat) (a4 : Nat) (a5 : Nat) (a6 : Int32) (Post : Int32 → KH → Prop) (k137 : Int32 → Int32 → KH → Prop) : Nat → Int32 → Int32 → Int32 → KH → Prop
  | 0 => fun _ _ _ _ => False
  | n + 1 => g_L_areTold_L295b ct a0 a1 a2 a3 a4 a5 a6 Post k137 (g_L_areTold_L295 ct a0 a1 a2 a3 a4 a5 a6 Post k137 n)
def g_L_areTold_J289 (ct : Nat → ClassId) (a0 : Nat) (a1 : Nat) (a2 : Nat) (a3 : Nat) (a4 : Nat) (a5 : Nat) (a6 : Int32) (Post : Int32 → KH → Prop) (k137 : Int32 → Int32 → KH → Prop) (x7 : Int32) (h : KH) : Prop :=
  g_L_areTold_L295 ct a0 a1 a2 a3 a4 a5 a6 Post k137 1024 (0 : Int32) x7 (0 : Int32) h
def g_L_areTold_J206 (ct : Nat → ClassId) (a0 : Nat) (a1 : Nat) (a2 : Nat) (a3 : Nat) (a4 : Nat) (a5 : Nat) (a6 : Int32) (Post : Int32 → KH → Prop) (k137 : Int32 → Int32 → KH → Prop) (x6 : Int32) (x7 : Int32) (x8 : Int32) (t0 : Int32) (h : KH) : Prop :=
  if x6 = (0 : Int32) then g_L_areTold_J289 ct a0 a1 a2 a3 a4 a5 a6 Post k137 x7 h
  else frC h a1 (fun hc P => g_X5_table ct a0 a1 x7 (0 : Int32) hc P) (fun v24 h24 => ldI h24 a2 x7 (ct 0) (fun v25 => if v24 = v25 then frC h24 a1 (fun hc P => g_X5_table ct a0 a1 x7 (1 : Int32) hc P) (fun v27 h27 => ldI h27 a2 ((5 : Int32) + x7) (ct 0) (fun v28 => if v27 = v28 then frC h27 a1 (fun hc P => g_X5_table ct a0 a1 x7 (2 : Int32) hc P) (fun v30 h30 => ldI h30 a2 x7 (ct 0) (fun v31 => ldI h30 a2 ((5 : Int32) + x7) (ct 0) (fun v32 => (¬ ((v31 + v32) - t0) = 0 ∧ (if v30 = (((100 : Int32) * t0) / ((v31 + v32) - t0)) then frC h30 a1 (fun hc P => g_X5_table ct a0 a1 x7 (3 : Int32) hc P) (fun v35 h35 => if v35 = x8 then g_L_areTold_L295 ct a0 a1 a2 a3 a4 a5 a6 Post k137 1024 (1 : Int32) x7 (0 : Int32) h35
  else g_L_areTold_J289 ct a0 a1 a2 a3 a4 a5 a6 Post k137 x7 h35)
  else g_L_areTold_J289 ct a0 a1 a2 a3 a4 a5 a6 Post k137 x7 h30)))))
  else g_L_areTold_J289 ct a0 a1 a2 a3 a4 a5 a6 Post k137 x7 h27))
  else g_L_areTold_J289 ct a0 a1 a2 a3 a4 a5 a6 Post k137 x7 h24))
def g_L_areTold_L149b (ct : Nat → ClassId) (a0 : Nat) (a1 : Nat) (a2 : Nat) (a3 : Nat) (a4 : Nat) (a5 : Nat) (a6 : Int32) (Post : Int32 → KH → Prop) (k137 : Int32 → Int32 → KH → Prop) (k149 : Int32 → Int32 → Int32 → Int32 → KH → Prop) (x6 : Int32) (x7 : Int32) (x8 : Int32) (x9 : Int32) (h : KH) : Prop :=
  ldI h a4 (0 : Int32) (ct 0) (fun v10 => if v10 ≤ x9 then ldI h a2 x7 (ct 0) (fun v12 => ldI h a2 ((5 : Int32) + x7) (ct 0) (fun v13 => if v12 ≤ v13 then ldI h a2 ((5 : Int32) + x7) (ct 0) (fun v15 => g_L_areTold_J206 ct a0 a1 a2 a3 a4 a5 a6 Post k137 x6 x7 x8 v15 h)
  else ldI h a2 x7 (ct 0) (fun v37 => g_L_areTold_J206 ct a0 a1 a2 a3 a4 a5 a6 Post k137 x6 x7 x8 v37 h)))
  else ldI h a3 ((14 : Int32) * x9) (ct 0) (fun v38 => k149 x6 x7 (x8 + ((v38 >>> (x7 &&& 31)) &&& (1 : Int32))) (x9 + (1 : Int32)) h))
def g_L_areTold_L149 (ct : Nat → ClassId) (a0 : Nat) (a1 : Nat) (a2 : Nat) (a3 : Nat) (a4 : Nat) (a5 : Nat) (a6 : Int32) (Post : Int32 → KH → Prop) (k137 : Int32 → Int32 → KH → Prop) : Nat → Int32 → Int32 → Int32 → Int32 → KH → Prop
  | 0 => fun _ _ _ _ _ => False
  | n + 1 => g_L_areTold_L149b ct a0 a1 a2 a3 a4 a5 a6 Post k137 (g_L_areTold_L149 ct a0 a1 a2 a3 a4 a5 a6 Post k137 n)
def g_L_areTold_L137b (ct : Nat → ClassId) (a0 : Nat) (a1 : Nat) (a2 : Nat) (a3 : Nat) (a4 : Nat) (a5 : Nat) (a6 : Int32) (Post : Int32 → KH → Prop)  (k137 : Int32 → Int32 → KH → Prop) (x6 : Int32) (x7 : Int32) (h : KH) : Prop :=
  if (5 : Int32) ≤ x7 then if x6 = (0 : Int32) then Post (0 : Int32) h
  else g_L_place ct a0 a3 a4 a6 h (fun v6 h6 => if (0 : Int32) ≤ v6 then Post (1 : Int32) h6
  else frC h6 a1 (fun hc P => g_X5_plan ct a0 a1 a6 (0 : Int32) hc P) (fun v8 h8 => if v8 = (-4 : Int32) then Post (1 : Int32) h8
  else Post (0 : Int32) h8))
  else g_L_areTold_L149 ct a0 a1 a2 a3 a4 a5 a6 Post k137 1024 x6 x7 (0 : Int32) (0 : Int32) h
def g_L_areTold_L137 (ct : Nat → ClassId) (a0 : Nat) (a1 : Nat) (a2 : Nat) (a3 : Nat) (a4 : Nat) (a5 : Nat) (a6 : Int32) (Post : Int32 → KH → Prop)  : Nat → Int32 → Int32 → KH → Prop
  | 0 => fun _ _ _ => False
  | n + 1 => g_L_areTold_L137b ct a0 a1 a2 a3 a4 a5 a6 Post  (g_L_areTold_L137 ct a0 a1 a2 a3 a4 a5 a6 Post  n)
def g_L_areTold_J131 (ct : Nat → ClassId) (a0 : Nat) (a1 : Nat) (a2 : Nat) (a3 : Nat) (a4 : Nat) (a5 : Nat) (a6 : Int32) (Post : Int32 → KH → Prop)  (h : KH) : Prop :=
  g_L_areTold_L137 ct a0 a1 a2 a3 a4 a5 a6 Post  1024 (0 : Int32) (0 : Int32) h
def g_L_areTold (ct : Nat → ClassId) (a0 : Nat) (a1 : Nat) (a2 : Nat) (a3 : Nat) (a4 : Nat) (a5 : Nat) (a6 : Int32) (h : KH) (Post : Int32 → KH → Prop) : Prop :=
  frC h a1 (fun hc P => g_X5_counted ct a0 a1 (2 : Int32) hc P) (fun v1 h1 => ldI h1 a2 (35 : Int32) (ct 0) (fun v2 => if v1 = v2 then frC h1 a1 (fun hc P => g_X5_counted ct a0 a1 (3 : Int32) hc P) (fun v39 h39 => ldI h39 a4 (1 : Int32) (ct 0) (fun v40 => if v39 = v40 then frC h39 a1 (fun hc P => g_X5_counted ct a0 a1 (4 : Int32) hc P) (fun v42 h42 => ldI h42 a4 (2 : Int32) (ct 0) (fun v43 => if v42 = v43 then frC h42 a1 (fun hc P => g_X5_counted ct a0 a1 (5 : Int32) hc P) (fun v45 h45 => ldL h45 a5 (0 : Int32) (ct 1) (fun v46 => g_L_cut ct a0 v46 h45 (fun v47 h47 => if v45 = v47 then frC h47 a1 (fun hc P => g_X5_counted ct a0 a1 (6 : Int32) hc P) (fun v49 h49 => ldL h49 a5 (1 : Int32) (ct 1) (fun v50 => g_L_cut ct a0 v50 h49 (fun v51 h51 => if v49 = v51 then frC h51 a1 (fun hc P => g_X5_counted ct a0 a1 (7 : Int32) hc P) (fun v53 h53 => ldI h53 a4 (3 : Int32) (ct 0) (fun v54 => if v53 = v54 then frC h53 a1 (fun hc P => g_X5_counted ct a0 a1 (8 : Int32) hc P) (fun v56 h56 => ldI h56 a4 (4 : Int32) (ct 0) (fun v57 => if v56 = v57 then frC h56 a1 (fun hc P => g_X5_counted ct a0 a1 (9 : Int32) hc P) (fun v59 h59 => ldI h59 a4 (5 : Int32) (ct 0) (fun v60 => if v59 = v60 then frC h59 a1 (fun hc P => g_X5_counted ct a0 a1 (10 : Int32) hc P) (fun v62 h62 => ldI h62 a4 (6 : Int32) (ct 0) (fun v63 => if v62 = v63 then frC h62 a1 (fun hc P => g_X5_counted ct a0 a1 (11 : Int32) hc P) (fun v65 h65 => ldI h65 a4 (7 : Int32) (ct 0) (fun v66 => if v65 = v66 then g_L_areTold_L137 ct a0 a1 a2 a3 a4 a5 a6 Post  1024 (1 : Int32) (0 : Int32) h65
  else g_L_areTold_J131 ct a0 a1 a2 a3 a4 a5 a6 Post  h65))
  else g_L_areTold_J131 ct a0 a1 a2 a3 a4 a5 a6 Post  h62))
  else g_L_areTold_J131 ct a0 a1 a2 a3 a4 a5 a6 Post  h59))
  else g_L_areTold_J131 ct a0 a1 a2 a3 a4 a5 a6 Post  h56))
  else g_L_areTold_J131 ct a0 a1 a2 a3 a4 a5 a6 Post  h53))
  else g_L_areTold_J131 ct a0 a1 a2 a3 a4 a5 a6 Post  h51)))
  else g_L_areTold_J131 ct a0 a1 a2 a3 a4 a5 a6 Post  h47)))
  else g_L_areTold_J131 ct a0 a1 a2 a3 a4 a5 a6 Post  h42))
  else g_L_areTold_J131 ct a0 a1 a2 a3 a4 a5 a6 Post  h39))
  else g_L_areTold_J131 ct a0 a1 a2 a3 a4 a5 a6 Post  h1))
set_option maxRecDepth 100000 in
set_option maxHeartbeats 4000000 in
theorem cg_L_areTold (l : Launch) (D : va_G) (ct : Nat → ClassId) (a0 : Nat) (a1 : Nat) (a2 : Nat) (a3 : Nat) (a4 : Nat) (a5 : Nat) (a6 : Int32) (h : KH) (Post : Int32 → KH → Prop) (hw : g_L_areTold ct a0 a1 a2 a3 a4 a5 a6 h Post) : CK l yL_areTold cL_areTold 11 5 0 0 (some .boolean) D ct a0 [.ref a1, .ref a2, .ref a3, .ref a4, .ref a5, .int a6] vI h Post := by
  refine CK.mkI (by decide) (Nat.le_of_ble_eq_true rfl) ?_
  intro p e s m below meth c Q A X hret hW hS ls hl
  obtain ⟨B, hin, hK, hN, hZ, hA⟩ := X
  have B0 := B
  obtain ⟨hx, hb, hml, hown, hts⟩ := B0
  have hl : lv_has ls 11 [(0, .ref a1), (1, .ref a2), (2, .ref a3), (3, .ref a4), (4, .ref a5), (5, .int a6)] := hl
  have hL137 : ∀ (n137 : Nat), ∀ (x6 : Int32) (x7 : Int32) (h : KH) (ls : Array Slot) (H : Heap) (locs : List Loc), g_L_areTold_L137 ct a0 a1 a2 a3 a4 a5 a6 Post  n137 x6 x7 h → KW D A h H → va_S A s.heap H locs → lv_has ls 11 [(0, .ref a1), (1, .ref a2), (2, .ref a3), (3, .ref a4), (5, .int a6), (6, .int x6), (7, .int x7)] → W p l e (rmF 5 0 0) s m ([.ref a1, .ref a2, .ref a3, .ref a4, .ref a5, .int a6] : List Value).toArray below meth c H locs 0 0 Q (F0 m 137 ls []) := by
    intro n137
    induction n137 with
    | zero =>
      intro x6 x7 h ls H locs hw
      exact (show False from hw).elim
    | succ n137 ih137 =>
      have hL295 : ∀ (n295 : Nat), ∀ (x6 : Int32) (x7 : Int32) (x10 : Int32) (h : KH) (ls : Array Slot) (H : Heap) (locs : List Loc), g_L_areTold_L295 ct a0 a1 a2 a3 a4 a5 a6 Post (g_L_areTold_L137 ct a0 a1 a2 a3 a4 a5 a6 Post  n137) n295 x6 x7 x10 h → KW D A h H → va_S A s.heap H locs → lv_has ls 11 [(0, .ref a1), (1, .ref a2), (2, .ref a3), (3, .ref a4), (5, .int a6), (6, .int x6), (7, .int x7), (10, .int x10)] → W p l e (rmF 5 0 0) s m ([.ref a1, .ref a2, .ref a3, .ref a4, .ref a5, .int a6] : List Value).toArray below meth c H locs 0 0 Q (F0 m 295 ls []) := by
        intro n295
        induction n295 with
        | zero =>
          intro x6 x7 x10 h ls H locs hw
          exact (show False from hw).elim
        | succ n295 ih295 =>
          intro x6 x7 x10 h ls H locs hw hW hS hl
          have hw : g_L_areTold_L295b ct a0 a1 a2 a3 a4 a5 a6 Post (g_L_areTold_L137 ct a0 a1 a2 a3 a4 a5 a6 Post  n137) (g_L_areTold_L295 ct a0 a1 a2 a3 a4 a5 a6 Post (g_L_areTold_L137 ct a0 a1 a2 a3 a4 a5 a6 Post  n137) n295) x6 x7 x10 h := hw
          unfold g_L_areTold_L295b at hw
          refine lv_iload hx hb dL_areTold_295 (lv_at hl 7 rfl) ?_
          refine lv_iconst (v := (5 : Int32)) hx hb dL_areTold_297 (by decide) ?_
          refine lv_icmp_ge (tgt := 353) hx hb dL_areTold_298 (by decide) (fun c17 => ?_) (fun c17 => ?_)
          · have hw := itp c17 hw
            refine lv_iinc (v := (x7 + (1 : Int32))) (lv' := [(7, .int (x7 + (1 : Int32))), (0, .ref a1), (1, .ref a2), (2, .ref a3), (3, .ref a4), (5, .int a6), (6, .int x6), (10, .int x10)]) hx hb dL_areTold_353 hl (k := 6) rfl (congrArg (HAdd.hAdd x7) (by decide)) (by decide) rfl (fun ls hl => ?_)
            refine lv_goto (tgt := 137) hx hb dL_areTold_356 (by decide) ?_
            exact ih137 x6 (x7 + (1 : Int32)) h _ _ _ hw hW hS (lv_sub hl [1, 2, 3, 4, 5, 6, 0] rfl)
          · have hw := itn c17 hw
            refine lv_iload hx hb dL_areTold_301 (lv_at hl 5 rfl) ?_
            refine lv_if_eq (tgt := 344) hx hb dL_areTold_303 (by decide) (fun c18 => ?_) (fun c18 => ?_)
            · have hw := itp c18 hw
              refine lv_iconst (v := (0 : Int32)) hx hb dL_areTold_344 (by decide) ?_
              refine lv_istore (lv' := [(6, .int (0 : Int32)), (0, .ref a1), (1, .ref a2), (2, .ref a3), (3, .ref a4), (5, .int a6), (7, .int x7), (10, .int x10)]) hx hb dL_areTold_345 hl (by decide) rfl (fun ls hl => ?_)
              refine lv_iinc (v := (x10 + (1 : Int32))) (lv' := [(10, .int (x10 + (1 : Int32))), (6, .int (0 : Int32)), (0, .ref a1), (1, .ref a2), (2, .ref a3), (3, .ref a4), (5, .int a6), (7, .int x7)]) hx hb dL_areTold_347 hl (k := 7) rfl (congrArg (HAdd.hAdd x10) (by decide)) (by decide) rfl (fun ls hl => ?_)
              refine lv_goto (tgt := 295) hx hb dL_areTold_350 (by decide) ?_
              exact ih295 (0 : Int32) x7 (x10 + (1 : Int32)) h _ _ _ hw hW hS (lv_sub hl [2, 3, 4, 5, 6, 1, 7, 0] rfl)
            · have hw := itn c18 hw
              refine lv_aload_n hx hb dL_areTold_306 rfl (lv_at hl 0 rfl) ?_
              refine lv_iload hx hb dL_areTold_307 (lv_at hl 6 rfl) ?_
              refine lv_iload hx hb dL_areTold_309 (lv_at hl 7 rfl) ?_
              refine kx_call (As := [.int x7, .int x10]) (rest := []) hw (fun hc P hq => cg_X5_partOf l D ct a0 a1 x7 x10 hc P hq) B hK hN hZ hA hW hS rfl k_X5_partOf q_20_5 rfl ⟨Nat.le_of_ble_eq_true rfl, Nat.le_of_ble_eq_true rfl⟩ ⟨Nat.le_of_ble_eq_true rfl, Nat.le_of_ble_eq_true rfl⟩ hl.1 rfl (Nat.le_of_ble_eq_true rfl) dL_areTold_311 (fun v19 h19 H locs hw hW hS => ?_)
              refine lv_iload hx hb dL_areTold_314 (lv_at hl 7 rfl) ?_
              refine lv_iload hx hb dL_areTold_316 (lv_at hl 6 rfl) ?_
              refine lv_icmp_ne (tgt := 325) hx hb dL_areTold_318 (by decide) (fun c20 => ?_) (fun c20 => ?_)
              · have hw := itn c20 hw
                refine lv_aload_n hx hb dL_areTold_325 rfl (lv_at hl 1 rfl) ?_
                refine lv_bipush (v := (10 : Int32)) hx hb dL_areTold_326 (by decide) ?_
                refine lv_iconst (v := (5 : Int32)) hx hb dL_areTold_328 (by decide) ?_
                refine lv_iload hx hb dL_areTold_329 (lv_at hl 6 rfl) ?_
                refine lv_imul hx hb dL_areTold_331 ?_
                refine lv_iadd hx hb dL_areTold_332 ?_
                refine lv_iload hx hb dL_areTold_333 (lv_at hl 7 rfl) ?_
                refine lv_iadd hx hb dL_areTold_335 ?_
                obtain ⟨n21, f21, v21, e21, g21, ev21, hw⟩ := hw
                refine kw_iald hx hb hK hW 0 e21 rfl g21 ev21 dL_areTold_336 ?_
                refine lv_icmp_ne (tgt := 344) hx hb dL_areTold_337 (by decide) (fun c22 => ?_) (fun c22 => ?_)
                · have hw := itn c22 hw
                  refine lv_iconst (v := (0 : Int32)) hx hb dL_areTold_344 (by decide) ?_
                  refine lv_istore (lv' := [(6, .int (0 : Int32)), (0, .ref a1), (1, .ref a2), (2, .ref a3), (3, .ref a4), (5, .int a6), (7, .int x7), (10, .int x10)]) hx hb dL_areTold_345 hl (by decide) rfl (fun ls hl => ?_)
                  refine lv_iinc (v := (x10 + (1 : Int32))) (lv' := [(10, .int (x10 + (1 : Int32))), (6, .int (0 : Int32)), (0, .ref a1), (1, .ref a2), (2, .ref a3), (3, .ref a4), (5, .int a6), (7, .int x7)]) hx hb dL_areTold_347 hl (k := 7) rfl (congrArg (HAdd.hAdd x10) (by decide)) (by decide) rfl (fun ls hl => ?_)
                  refine lv_goto (tgt := 295) hx hb dL_areTold_350 (by decide) ?_
                  refine W.widen (k := 0) (n := 0) (by omega) (by omega) ?_
                  exact ih295 (0 : Int32) x7 (x10 + (1 : Int32)) h19 _ _ _ hw hW hS (lv_sub hl [2, 3, 4, 5, 6, 1, 7, 0] rfl)
                · have hw := itp c22 hw
                  refine lv_iconst (v := (1 : Int32)) hx hb dL_areTold_340 (by decide) ?_
                  refine lv_goto (tgt := 345) hx hb dL_areTold_341 (by decide) ?_
                  refine lv_istore (lv' := [(6, .int (1 : Int32)), (0, .ref a1), (1, .ref a2), (2, .ref a3), (3, .ref a4), (5, .int a6), (7, .int x7), (10, .int x10)]) hx hb dL_areTold_345 hl (by decide) rfl (fun ls hl => ?_)
                  refine lv_iinc (v := (x10 + (1 : Int32))) (lv' := [(10, .int (x10 + (1 : Int32))), (6, .int (1 : Int32)), (0, .ref a1), (1, .ref a2), (2, .ref a3), (3, .ref a4), (5, .int a6), (7, .int x7)]) hx hb dL_areTold_347 hl (k := 7) rfl (congrArg (HAdd.hAdd x10) (by decide)) (by decide) rfl (fun ls hl => ?_)
                  refine lv_goto (tgt := 295) hx hb dL_areTold_350 (by decide) ?_
                  refine W.widen (k := 0) (n := 0) (by omega) (by omega) ?_
                  exact ih295 (1 : Int32) x7 (x10 + (1 : Int32)) h19 _ _ _ hw hW hS (lv_sub hl [2, 3, 4, 5, 6, 1, 7, 0] rfl)
              · have hw := itp c20 hw
                refine lv_iconst (v := (-1 : Int32)) hx hb dL_areTold_321 (by decide) ?_
                refine lv_goto (tgt := 337) hx hb dL_areTold_322 (by decide) ?_
                refine lv_icmp_ne (tgt := 344) hx hb dL_areTold_337 (by decide) (fun c23 => ?_) (fun c23 => ?_)
                · have hw := itn c23 hw
                  refine lv_iconst (v := (0 : Int32)) hx hb dL_areTold_344 (by decide) ?_
                  refine lv_istore (lv' := [(6, .int (0 : Int32)), (0, .ref a1), (1, .ref a2), (2, .ref a3), (3, .ref a4), (5, .int a6), (7, .int x7), (10, .int x10)]) hx hb dL_areTold_345 hl (by decide) rfl (fun ls hl => ?_)
                  refine lv_iinc (v := (x10 + (1 : Int32))) (lv' := [(10, .int (x10 + (1 : Int32))), (6, .int (0 : Int32)), (0, .ref a1), (1, .ref a2), (2, .ref a3), (3, .ref a4), (5, .int a6), (7, .int x7)]) hx hb dL_areTold_347 hl (k := 7) rfl (congrArg (HAdd.hAdd x10) (by decide)) (by decide) rfl (fun ls hl => ?_)
                  refine lv_goto (tgt := 295) hx hb dL_areTold_350 (by decide) ?_
                  refine W.widen (k := 0) (n := 0) (by omega) (by omega) ?_
                  exact ih295 (0 : Int32) x7 (x10 + (1 : Int32)) h19 _ _ _ hw hW hS (lv_sub hl [2, 3, 4, 5, 6, 1, 7, 0] rfl)
                · have hw := itp c23 hw
                  refine lv_iconst (v := (1 : Int32)) hx hb dL_areTold_340 (by decide) ?_
                  refine lv_goto (tgt := 345) hx hb dL_areTold_341 (by decide) ?_
                  refine lv_istore (lv' := [(6, .int (1 : Int32)), (0, .ref a1), (1, .ref a2), (2, .ref a3), (3, .ref a4), (5, .int a6), (7, .int x7), (10, .int x10)]) hx hb dL_areTold_345 hl (by decide) rfl (fun ls hl => ?_)
                  refine lv_iinc (v := (x10 + (1 : Int32))) (lv' := [(10, .int (x10 + (1 : Int32))), (6, .int (1 : Int32)), (0, .ref a1), (1, .ref a2), (2, .ref a3), (3, .ref a4), (5, .int a6), (7, .int x7)]) hx hb dL_areTold_347 hl (k := 7) rfl (congrArg (HAdd.hAdd x10) (by decide)) (by decide) rfl (fun ls hl => ?_)
                  refine lv_goto (tgt := 295) hx hb dL_areTold_350 (by decide) ?_
                  refine W.widen (k := 0) (n := 0) (by omega) (by omega) ?_
                  exact ih295 (1 : Int32) x7 (x10 + (1 : Int32)) h19 _ _ _ hw hW hS (lv_sub hl [2, 3, 4, 5, 6, 1, 7, 0] rfl)
      have hJ289 : ∀ (x7 : Int32) (h : KH) (ls : Array Slot) (H : Heap) (locs : List Loc), g_L_areTold_J289 ct a0 a1 a2 a3 a4 a5 a6 Post (g_L_areTold_L137 ct a0 a1 a2 a3 a4 a5 a6 Post  n137) x7 h → KW D A h H → va_S A s.heap H locs → lv_has ls 11 [(0, .ref a1), (1, .ref a2), (2, .ref a3), (3, .ref a4), (5, .int a6), (7, .int x7)] → W p l e (rmF 5 0 0) s m ([.ref a1, .ref a2, .ref a3, .ref a4, .ref a5, .int a6] : List Value).toArray below meth c H locs 0 0 Q (F0 m 289 ls []) := by
        intro x7 h ls H locs hw hW hS hl
        unfold g_L_areTold_J289 at hw
        refine lv_iconst (v := (0 : Int32)) hx hb dL_areTold_289 (by decide) ?_
        refine lv_istore (lv' := [(6, .int (0 : Int32)), (0, .ref a1), (1, .ref a2), (2, .ref a3), (3, .ref a4), (5, .int a6), (7, .int x7)]) hx hb dL_areTold_290 hl (by decide) rfl (fun ls hl => ?_)
        refine lv_iconst (v := (0 : Int32)) hx hb dL_areTold_292 (by decide) ?_
        refine lv_istore (lv' := [(10, .int (0 : Int32)), (6, .int (0 : Int32)), (0, .ref a1), (1, .ref a2), (2, .ref a3), (3, .ref a4), (5, .int a6), (7, .int x7)]) hx hb dL_areTold_293 hl (by decide) rfl (fun ls hl => ?_)
        exact hL295 1024 (0 : Int32) x7 (0 : Int32) h _ _ _ hw hW hS (lv_sub hl [2, 3, 4, 5, 6, 1, 7, 0] rfl)
      have hJ206 : ∀ (x6 : Int32) (x7 : Int32) (x8 : Int32) (t0 : Int32) (h : KH) (ls : Array Slot) (H : Heap) (locs : List Loc), g_L_areTold_J206 ct a0 a1 a2 a3 a4 a5 a6 Post (g_L_areTold_L137 ct a0 a1 a2 a3 a4 a5 a6 Post  n137) x6 x7 x8 t0 h → KW D A h H → va_S A s.heap H locs → lv_has ls 11 [(0, .ref a1), (1, .ref a2), (2, .ref a3), (3, .ref a4), (5, .int a6), (6, .int x6), (7, .int x7), (8, .int x8)] → W p l e (rmF 5 0 0) s m ([.ref a1, .ref a2, .ref a3, .ref a4, .ref a5, .int a6] : List Value).toArray below meth c H locs 0 0 Q (F0 m 206 ls [.int t0]) := by
        intro x6 x7 x8 t0 h ls H locs hw hW hS hl
        unfold g_L_areTold_J206 at hw
        refine lv_istore (lv' := [(9, .int t0), (0, .ref a1), (1, .ref a2), (2, .ref a3), (3, .ref a4), (5, .int a6), (6, .int x6), (7, .int x7), (8, .int x8)]) hx hb dL_areTold_206 hl (by decide) rfl (fun ls hl => ?_)
        refine lv_iload hx hb dL_areTold_208 (lv_at hl 6 rfl) ?_
        refine lv_if_eq (tgt := 289) hx hb dL_areTold_210 (by decide) (fun c16 => ?_) (fun c16 => ?_)
        · have hw := itp c16 hw
          exact hJ289 x7 h _ _ _ hw hW hS (lv_sub hl [1, 2, 3, 4, 5, 7] rfl)
        · have hw := itn c16 hw
          refine lv_aload_n hx hb dL_areTold_213 rfl (lv_at hl 1 rfl) ?_
          refine lv_iload hx hb dL_areTold_214 (lv_at hl 7 rfl) ?_
          refine lv_iconst (v := (0 : Int32)) hx hb dL_areTold_216 (by decide) ?_
          refine kx_call (As := [.int x7, .int (0 : Int32)]) (rest := []) hw (fun hc P hq => cg_X5_table l D ct a0 a1 x7 (0 : Int32) hc P hq) B hK hN hZ hA hW hS rfl k_X5_table q_19_16 rfl ⟨Nat.le_of_ble_eq_true rfl, Nat.le_of_ble_eq_true rfl⟩ ⟨Nat.le_of_ble_eq_true rfl, Nat.le_of_ble_eq_true rfl⟩ hl.1 rfl (Nat.le_of_ble_eq_true rfl) dL_areTold_217 (fun v24 h24 H locs hw hW hS => ?_)
          refine lv_aload_n hx hb dL_areTold_220 rfl (lv_at hl 2 rfl) ?_
          refine lv_iload hx hb dL_areTold_221 (lv_at hl 7 rfl) ?_
          obtain ⟨n25, f25, v25, e25, g25, ev25, hw⟩ := hw
          refine kw_iald hx hb hK hW 0 e25 rfl g25 ev25 dL_areTold_223 ?_
          refine lv_icmp_ne (tgt := 289) hx hb dL_areTold_224 (by decide) (fun c26 => ?_) (fun c26 => ?_)
          · have hw := itn c26 hw
            refine W.widen (k := 0) (n := 0) (by omega) (by omega) ?_
            exact hJ289 x7 h24 _ _ _ hw hW hS (lv_sub hl [1, 2, 3, 4, 5, 7] rfl)
          · have hw := itp c26 hw
            refine lv_aload_n hx hb dL_areTold_227 rfl (lv_at hl 1 rfl) ?_
            refine lv_iload hx hb dL_areTold_228 (lv_at hl 7 rfl) ?_
            refine lv_iconst (v := (1 : Int32)) hx hb dL_areTold_230 (by decide) ?_
            refine kx_call (As := [.int x7, .int (1 : Int32)]) (rest := []) hw (fun hc P hq => cg_X5_table l D ct a0 a1 x7 (1 : Int32) hc P hq) B hK hN hZ hA hW hS rfl k_X5_table q_19_16 rfl ⟨Nat.le_of_ble_eq_true rfl, Nat.le_of_ble_eq_true rfl⟩ ⟨Nat.le_of_ble_eq_true rfl, Nat.le_of_ble_eq_true rfl⟩ hl.1 rfl (Nat.le_of_ble_eq_true rfl) dL_areTold_231 (fun v27 h27 H locs hw hW hS => ?_)
            refine lv_aload_n hx hb dL_areTold_234 rfl (lv_at hl 2 rfl) ?_
            refine lv_iconst (v := (5 : Int32)) hx hb dL_areTold_235 (by decide) ?_
            refine lv_iload hx hb dL_areTold_236 (lv_at hl 7 rfl) ?_
            refine lv_iadd hx hb dL_areTold_238 ?_
            obtain ⟨n28, f28, v28, e28, g28, ev28, hw⟩ := hw
            refine kw_iald hx hb hK hW 0 e28 rfl g28 ev28 dL_areTold_239 ?_
            refine lv_icmp_ne (tgt := 289) hx hb dL_areTold_240 (by decide) (fun c29 => ?_) (fun c29 => ?_)
            · have hw := itn c29 hw
              refine W.widen (k := 0) (n := 0) (by omega) (by omega) ?_
              exact hJ289 x7 h27 _ _ _ hw hW hS (lv_sub hl [1, 2, 3, 4, 5, 7] rfl)
            · have hw := itp c29 hw
              refine lv_aload_n hx hb dL_areTold_243 rfl (lv_at hl 1 rfl) ?_
              refine lv_iload hx hb dL_areTold_244 (lv_at hl 7 rfl) ?_
              refine lv_iconst (v := (2 : Int32)) hx hb dL_areTold_246 (by decide) ?_
              refine kx_call (As := [.int x7, .int (2 : Int32)]) (rest := []) hw (fun hc P hq => cg_X5_table l D ct a0 a1 x7 (2 : Int32) hc P hq) B hK hN hZ hA hW hS rfl k_X5_table q_19_16 rfl ⟨Nat.le_of_ble_eq_true rfl, Nat.le_of_ble_eq_true rfl⟩ ⟨Nat.le_of_ble_eq_true rfl, Nat.le_of_ble_eq_true rfl⟩ hl.1 rfl (Nat.le_of_ble_eq_true rfl) dL_areTold_247 (fun v30 h30 H locs hw hW hS => ?_)
              refine lv_bipush (v := (100 : Int32)) hx hb dL_areTold_250 (by decide) ?_
              refine lv_iload hx hb dL_areTold_252 (lv_at hl 0 rfl) ?_
              refine lv_imul hx hb dL_areTold_254 ?_
              refine lv_aload_n hx hb dL_areTold_255 rfl (lv_at hl 2 rfl) ?_
              refine lv_iload hx hb dL_areTold_256 (lv_at hl 7 rfl) ?_
              obtain ⟨n31, f31, v31, e31, g31, ev31, hw⟩ := hw
              refine kw_iald hx hb hK hW 0 e31 rfl g31 ev31 dL_areTold_258 ?_
              refine lv_aload_n hx hb dL_areTold_259 rfl (lv_at hl 2 rfl) ?_
              refine lv_iconst (v := (5 : Int32)) hx hb dL_areTold_260 (by decide) ?_
              refine lv_iload hx hb dL_areTold_261 (lv_at hl 7 rfl) ?_
              refine lv_iadd hx hb dL_areTold_263 ?_
              obtain ⟨n32, f32, v32, e32, g32, ev32, hw⟩ := hw
              refine kw_iald hx hb hK hW 0 e32 rfl g32 ev32 dL_areTold_264 ?_
              refine lv_iadd hx hb dL_areTold_265 ?_
              refine lv_iload hx hb dL_areTold_266 (lv_at hl 0 rfl) ?_
              refine lv_isub hx hb dL_areTold_268 ?_
              obtain ⟨g33, hw⟩ := hw
              refine lv_idiv hx hb dL_areTold_269 g33 ?_
              refine lv_icmp_ne (tgt := 289) hx hb dL_areTold_270 (by decide) (fun c34 => ?_) (fun c34 => ?_)
              · have hw := itn c34 hw
                refine W.widen (k := 0) (n := 0) (by omega) (by omega) ?_
                exact hJ289 x7 h30 _ _ _ hw hW hS (lv_sub hl [1, 2, 3, 4, 5, 7] rfl)
              · have hw := itp c34 hw
                refine lv_aload_n hx hb dL_areTold_273 rfl (lv_at hl 1 rfl) ?_
                refine lv_iload hx hb dL_areTold_274 (lv_at hl 7 rfl) ?_
                refine lv_iconst (v := (3 : Int32)) hx hb dL_areTold_276 (by decide) ?_
                refine kx_call (As := [.int x7, .int (3 : Int32)]) (rest := []) hw (fun hc P hq => cg_X5_table l D ct a0 a1 x7 (3 : Int32) hc P hq) B hK hN hZ hA hW hS rfl k_X5_table q_19_16 rfl ⟨Nat.le_of_ble_eq_true rfl, Nat.le_of_ble_eq_true rfl⟩ ⟨Nat.le_of_ble_eq_true rfl, Nat.le_of_ble_eq_true rfl⟩ hl.1 rfl (Nat.le_of_ble_eq_true rfl) dL_areTold_277 (fun v35 h35 H locs hw hW hS => ?_)
                refine lv_iload hx hb dL_areTold_280 (lv_at hl 8 rfl) ?_
                refine lv_icmp_ne (tgt := 289) hx hb dL_areTold_282 (by decide) (fun c36 => ?_) (fun c36 => ?_)
                · have hw := itn c36 hw
                  refine W.widen (k := 0) (n := 0) (by omega) (by omega) ?_
                  exact hJ289 x7 h35 _ _ _ hw hW hS (lv_sub hl [1, 2, 3, 4, 5, 7] rfl)
                · have hw := itp c36 hw
                  refine lv_iconst (v := (1 : Int32)) hx hb dL_areTold_285 (by decide) ?_
                  refine lv_goto (tgt := 290) hx hb dL_areTold_286 (by decide) ?_
                  refine lv_istore (lv' := [(6, .int (1 : Int32)), (9, .int t0), (0, .ref a1), (1, .ref a2), (2, .ref a3), (3, .ref a4), (5, .int a6), (7, .int x7), (8, .int x8)]) hx hb dL_areTold_290 hl (by decide) rfl (fun ls hl => ?_)
                  refine lv_iconst (v := (0 : Int32)) hx hb dL_areTold_292 (by decide) ?_
                  refine lv_istore (lv' := [(10, .int (0 : Int32)), (6, .int (1 : Int32)), (9, .int t0), (0, .ref a1), (1, .ref a2), (2, .ref a3), (3, .ref a4), (5, .int a6), (7, .int x7), (8, .int x8)]) hx hb dL_areTold_293 hl (by decide) rfl (fun ls hl => ?_)
                  refine W.widen (k := 0) (n := 0) (by omega) (by omega) ?_
                  exact hL295 1024 (1 : Int32) x7 (0 : Int32) h35 _ _ _ hw hW hS (lv_sub hl [3, 4, 5, 6, 7, 1, 8, 0] rfl)
      have hL149 : ∀ (n149 : Nat), ∀ (x6 : Int32) (x7 : Int32) (x8 : Int32) (x9 : Int32) (h : KH) (ls : Array Slot) (H : Heap) (locs : List Loc), g_L_areTold_L149 ct a0 a1 a2 a3 a4 a5 a6 Post (g_L_areTold_L137 ct a0 a1 a2 a3 a4 a5 a6 Post  n137) n149 x6 x7 x8 x9 h → KW D A h H → va_S A s.heap H locs → lv_has ls 11 [(0, .ref a1), (1, .ref a2), (2, .ref a3), (3, .ref a4), (5, .int a6), (6, .int x6), (7, .int x7), (8, .int x8), (9, .int x9)] → W p l e (rmF 5 0 0) s m ([.ref a1, .ref a2, .ref a3, .ref a4, .ref a5, .int a6] : List Value).toArray below meth c H locs 0 0 Q (F0 m 149 ls []) := by
        intro n149
        induction n149 with
        | zero =>
          intro x6 x7 x8 x9 h ls H locs hw
          exact (show False from hw).elim
        | succ n149 ih149 =>
          intro x6 x7 x8 x9 h ls H locs hw hW hS hl
          have hw : g_L_areTold_L149b ct a0 a1 a2 a3 a4 a5 a6 Post (g_L_areTold_L137 ct a0 a1 a2 a3 a4 a5 a6 Post  n137) (g_L_areTold_L149 ct a0 a1 a2 a3 a4 a5 a6 Post (g_L_areTold_L137 ct a0 a1 a2 a3 a4 a5 a6 Post  n137) n149) x6 x7 x8 x9 h := hw
          unfold g_L_areTold_L149b at hw
          refine lv_iload hx hb dL_areTold_149 (lv_at hl 8 rfl) ?_
          refine lv_aload_n hx hb dL_areTold_151 rfl (lv_at hl 3 rfl) ?_
          refine lv_iconst (v := (0 : Int32)) hx hb dL_areTold_152 (by decide) ?_
          obtain ⟨n10, f10, v10, e10, g10, ev10, hw⟩ := hw
          refine kw_iald hx hb hK hW 0 e10 rfl g10 ev10 dL_areTold_153 ?_
          refine lv_icmp_ge (tgt := 180) hx hb dL_areTold_154 (by decide) (fun c11 => ?_) (fun c11 => ?_)
          · have hw := itp c11 hw
            refine lv_aload_n hx hb dL_areTold_180 rfl (lv_at hl 1 rfl) ?_
            refine lv_iload hx hb dL_areTold_181 (lv_at hl 6 rfl) ?_
            obtain ⟨n12, f12, v12, e12, g12, ev12, hw⟩ := hw
            refine kw_iald hx hb hK hW 0 e12 rfl g12 ev12 dL_areTold_183 ?_
            refine lv_aload_n hx hb dL_areTold_184 rfl (lv_at hl 1 rfl) ?_
            refine lv_iconst (v := (5 : Int32)) hx hb dL_areTold_185 (by decide) ?_
            refine lv_iload hx hb dL_areTold_186 (lv_at hl 6 rfl) ?_
            refine lv_iadd hx hb dL_areTold_188 ?_
            obtain ⟨n13, f13, v13, e13, g13, ev13, hw⟩ := hw
            refine kw_iald hx hb hK hW 0 e13 rfl g13 ev13 dL_areTold_189 ?_
            refine lv_icmp_le (tgt := 200) hx hb dL_areTold_190 (by decide) (fun c14 => ?_) (fun c14 => ?_)
            · have hw := itp c14 hw
              refine lv_aload_n hx hb dL_areTold_200 rfl (lv_at hl 1 rfl) ?_
              refine lv_iconst (v := (5 : Int32)) hx hb dL_areTold_201 (by decide) ?_
              refine lv_iload hx hb dL_areTold_202 (lv_at hl 6 rfl) ?_
              refine lv_iadd hx hb dL_areTold_204 ?_
              obtain ⟨n15, f15, v15, e15, g15, ev15, hw⟩ := hw
              refine kw_iald hx hb hK hW 0 e15 rfl g15 ev15 dL_areTold_205 ?_
              exact hJ206 x6 x7 x8 v15 h _ _ _ hw hW hS (lv_sub hl [0, 1, 2, 3, 4, 5, 6, 7] rfl)
            · have hw := itn c14 hw
              refine lv_aload_n hx hb dL_areTold_193 rfl (lv_at hl 1 rfl) ?_
              refine lv_iload hx hb dL_areTold_194 (lv_at hl 6 rfl) ?_
              obtain ⟨n37, f37, v37, e37, g37, ev37, hw⟩ := hw
              refine kw_iald hx hb hK hW 0 e37 rfl g37 ev37 dL_areTold_196 ?_
              refine lv_goto (tgt := 206) hx hb dL_areTold_197 (by decide) ?_
              exact hJ206 x6 x7 x8 v37 h _ _ _ hw hW hS (lv_sub hl [0, 1, 2, 3, 4, 5, 6, 7] rfl)
          · have hw := itn c11 hw
            refine lv_iload hx hb dL_areTold_157 (lv_at hl 7 rfl) ?_
            refine lv_aload_n hx hb dL_areTold_159 rfl (lv_at hl 2 rfl) ?_
            refine lv_bipush (v := (14 : Int32)) hx hb dL_areTold_160 (by decide) ?_
            refine lv_iload hx hb dL_areTold_162 (lv_at hl 8 rfl) ?_
            refine lv_imul hx hb dL_areTold_164 ?_
            obtain ⟨n38, f38, v38, e38, g38, ev38, hw⟩ := hw
            refine kw_iald hx hb hK hW 0 e38 rfl g38 ev38 dL_areTold_165 ?_
            refine lv_iload hx hb dL_areTold_166 (lv_at hl 6 rfl) ?_
            refine lv_ishr hx hb dL_areTold_168 ?_
            refine lv_iconst (v := (1 : Int32)) hx hb dL_areTold_169 (by decide) ?_
            refine lv_iand hx hb dL_areTold_170 ?_
            refine lv_iadd hx hb dL_areTold_171 ?_
            refine lv_istore (lv' := [(8, .int (x8 + ((v38 >>> (x7 &&& 31)) &&& (1 : Int32)))), (0, .ref a1), (1, .ref a2), (2, .ref a3), (3, .ref a4), (5, .int a6), (6, .int x6), (7, .int x7), (9, .int x9)]) hx hb dL_areTold_172 hl (by decide) rfl (fun ls hl => ?_)
            refine lv_iinc (v := (x9 + (1 : Int32))) (lv' := [(9, .int (x9 + (1 : Int32))), (8, .int (x8 + ((v38 >>> (x7 &&& 31)) &&& (1 : Int32)))), (0, .ref a1), (1, .ref a2), (2, .ref a3), (3, .ref a4), (5, .int a6), (6, .int x6), (7, .int x7)]) hx hb dL_areTold_174 hl (k := 8) rfl (congrArg (HAdd.hAdd x9) (by decide)) (by decide) rfl (fun ls hl => ?_)
            refine lv_goto (tgt := 149) hx hb dL_areTold_177 (by decide) ?_
            exact ih149 x6 x7 (x8 + ((v38 >>> (x7 &&& 31)) &&& (1 : Int32))) (x9 + (1 : Int32)) h _ _ _ hw hW hS (lv_sub hl [2, 3, 4, 5, 6, 7, 8, 1, 0] rfl)
      intro x6 x7 h ls H locs hw hW hS hl
      have hw : g_L_areTold_L137b ct a0 a1 a2 a3 a4 a5 a6 Post  (g_L_areTold_L137 ct a0 a1 a2 a3 a4 a5 a6 Post  n137) x6 x7 h := hw
      unfold g_L_areTold_L137b at hw
      refine lv_iload hx hb dL_areTold_137 (lv_at hl 6 rfl) ?_
      refine lv_iconst (v := (5 : Int32)) hx hb dL_areTold_139 (by decide) ?_
      refine lv_icmp_ge (tgt := 359) hx hb dL_areTold_140 (by decide) (fun c4 => ?_) (fun c4 => ?_)
      · have hw := itp c4 hw
        refine lv_iload hx hb dL_areTold_359 (lv_at hl 5 rfl) ?_
        refine lv_if_eq (tgt := 390) hx hb dL_areTold_361 (by decide) (fun c5 => ?_) (fun c5 => ?_)
        · have hw := itp c5 hw
          refine lv_iconst (v := (0 : Int32)) hx hb dL_areTold_390 (by decide) ?_
          exact hret _ _ _ _ (0 : Int32) h nb0 dL_areTold_391 hw hW hS
        · have hw := itn c5 hw
          refine lv_aload_n hx hb dL_areTold_364 rfl (lv_at hl 2 rfl) ?_
          refine lv_aload_n hx hb dL_areTold_365 rfl (lv_at hl 3 rfl) ?_
          refine lv_iload hx hb dL_areTold_366 (lv_at hl 4 rfl) ?_
          refine ks_call (As := [.ref a3, .ref a4, .int a6]) (rest := []) (cg_L_place l D ct a0 a3 a4 a6 h _ hw) B hK hN hZ hA hW hS k_L_place q_11_5 rfl ⟨Nat.le_of_ble_eq_true rfl, Nat.le_of_ble_eq_true rfl⟩ ⟨Nat.le_of_ble_eq_true rfl, Nat.le_of_ble_eq_true rfl⟩ hl.1 rfl (Nat.le_of_ble_eq_true rfl) dL_areTold_368 (fun v6 h6 H locs hw hW hS => ?_)
          refine lv_if_ge (tgt := 386) hx hb dL_areTold_371 (by decide) (fun c7 => ?_) (fun c7 => ?_)
          · have hw := itp c7 hw
            refine lv_iconst (v := (1 : Int32)) hx hb dL_areTold_386 (by decide) ?_
            refine lv_goto (tgt := 391) hx hb dL_areTold_387 (by decide) ?_
            refine W.widen (k := 0) (n := 0) (by omega) (by omega) ?_
            exact hret _ _ _ _ (1 : Int32) h6 nb1 dL_areTold_391 hw hW hS
          · have hw := itn c7 hw
            refine lv_aload_n hx hb dL_areTold_374 rfl (lv_at hl 0 rfl) ?_
            refine lv_iload hx hb dL_areTold_375 (lv_at hl 4 rfl) ?_
            refine lv_iconst (v := (0 : Int32)) hx hb dL_areTold_377 (by decide) ?_
            refine kx_call (As := [.int a6, .int (0 : Int32)]) (rest := []) hw (fun hc P hq => cg_X5_plan l D ct a0 a1 a6 (0 : Int32) hc P hq) B hK hN hZ hA hW hS rfl k_X5_plan q_18_0 rfl ⟨Nat.le_of_ble_eq_true rfl, Nat.le_of_ble_eq_true rfl⟩ ⟨Nat.le_of_ble_eq_true rfl, Nat.le_of_ble_eq_true rfl⟩ hl.1 rfl (Nat.le_of_ble_eq_true rfl) dL_areTold_378 (fun v8 h8 H locs hw hW hS => ?_)
            refine lv_bipush (v := (-4 : Int32)) hx hb dL_areTold_381 (by decide) ?_
            refine lv_icmp_ne (tgt := 390) hx hb dL_areTold_383 (by decide) (fun c9 => ?_) (fun c9 => ?_)
            · have hw := itn c9 hw
              refine lv_iconst (v := (0 : Int32)) hx hb dL_areTold_390 (by decide) ?_
              refine W.widen (k := 0) (n := 0) (by omega) (by omega) ?_
              exact hret _ _ _ _ (0 : Int32) h8 nb0 dL_areTold_391 hw hW hS
            · have hw := itp c9 hw
              refine lv_iconst (v := (1 : Int32)) hx hb dL_areTold_386 (by decide) ?_
              refine lv_goto (tgt := 391) hx hb dL_areTold_387 (by decide) ?_
              refine W.widen (k := 0) (n := 0) (by omega) (by omega) ?_
              exact hret _ _ _ _ (1 : Int32) h8 nb1 dL_areTold_391 hw hW hS
      · have hw := itn c4 hw
        refine lv_iconst (v := (0 : Int32)) hx hb dL_areTold_143 (by decide) ?_
        refine lv_istore (lv' := [(8, .int (0 : Int32)), (0, .ref a1), (1, .ref a2), (2, .ref a3), (3, .ref a4), (5, .int a6), (6, .int x6), (7, .int x7)]) hx hb dL_areTold_144 hl (by decide) rfl (fun ls hl => ?_)
        refine lv_iconst (v := (0 : Int32)) hx hb dL_areTold_146 (by decide) ?_
        refine lv_istore (lv' := [(9, .int (0 : Int32)), (8, .int (0 : Int32)), (0, .ref a1), (1, .ref a2), (2, .ref a3), (3, .ref a4), (5, .int a6), (6, .int x6), (7, .int x7)]) hx hb dL_areTold_147 hl (by decide) rfl (fun ls hl => ?_)
        exact hL149 1024 x6 x7 (0 : Int32) (0 : Int32) h _ _ _ hw hW hS (lv_sub hl [2, 3, 4, 5, 6, 7, 8, 1, 0] rfl)
  have hJ131 : ∀ (h : KH) (ls : Array Slot) (H : Heap) (locs : List Loc), g_L_areTold_J131 ct a0 a1 a2 a3 a4 a5 a6 Post  h → KW D A h H → va_S A s.heap H locs → lv_has ls 11 [(0, .ref a1), (1, .ref a2), (2, .ref a3), (3, .ref a4), (5, .int a6)] → W p l e (rmF 5 0 0) s m ([.ref a1, .ref a2, .ref a3, .ref a4, .ref a5, .int a6] : List Value).toArray below meth c H locs 0 0 Q (F0 m 131 ls []) := by
    intro h ls H locs hw hW hS hl
    unfold g_L_areTold_J131 at hw
    refine lv_iconst (v := (0 : Int32)) hx hb dL_areTold_131 (by decide) ?_
    refine lv_istore (lv' := [(6, .int (0 : Int32)), (0, .ref a1), (1, .ref a2), (2, .ref a3), (3, .ref a4), (5, .int a6)]) hx hb dL_areTold_132 hl (by decide) rfl (fun ls hl => ?_)
    refine lv_iconst (v := (0 : Int32)) hx hb dL_areTold_134 (by decide) ?_
    refine lv_istore (lv' := [(7, .int (0 : Int32)), (6, .int (0 : Int32)), (0, .ref a1), (1, .ref a2), (2, .ref a3), (3, .ref a4), (5, .int a6)]) hx hb dL_areTold_135 hl (by decide) rfl (fun ls hl => ?_)
    exact hL137 1024 (0 : Int32) (0 : Int32) h _ _ _ hw hW hS (lv_sub hl [2, 3, 4, 5, 6, 1, 0] rfl)
  unfold g_L_areTold at hw
  refine lv_aload_n hx hb dL_areTold_0 rfl (lv_at hl 0 rfl) ?_
  refine lv_iconst (v := (2 : Int32)) hx hb dL_areTold_1 (by decide) ?_
  refine kx_call (As := [.int (2 : Int32)]) (rest := []) hw (fun hc P hq => cg_X5_counted l D ct a0 a1 (2 : Int32) hc P hq) B hK hN hZ hA hW hS rfl k_X5_counted q_18_15 rfl ⟨Nat.le_of_ble_eq_true rfl, Nat.le_of_ble_eq_true rfl⟩ ⟨Nat.le_of_ble_eq_true rfl, Nat.le_of_ble_eq_true rfl⟩ hl.1 rfl (Nat.le_of_ble_eq_true rfl) dL_areTold_2 (fun v1 h1 H locs hw hW hS => ?_)
  refine lv_aload_n hx hb dL_areTold_5 rfl (lv_at hl 1 rfl) ?_
  refine lv_bipush (v := (35 : Int32)) hx hb dL_areTold_6 (by decide) ?_
  obtain ⟨n2, f2, v2, e2, g2, ev2, hw⟩ := hw
  refine kw_iald hx hb hK hW 0 e2 rfl g2 ev2 dL_areTold_8 ?_
  refine lv_icmp_ne (tgt := 131) hx hb dL_areTold_9 (by decide) (fun c3 => ?_) (fun c3 => ?_)
  · have hw := itn c3 hw
    refine W.widen (k := 0) (n := 0) (by omega) (by omega) ?_
    exact hJ131 h1 _ _ _ hw hW hS (lv_sub hl [0, 1, 2, 3, 5] rfl)
  · have hw := itp c3 hw
    refine lv_aload_n hx hb dL_areTold_12 rfl (lv_at hl 0 rfl) ?_
    refine lv_iconst (v := (3 : Int32)) hx hb dL_areTold_13 (by decide) ?_
    refine kx_call (As := [.int (3 : Int32)]) (rest := []) hw (fun hc P hq => cg_X5_counted l D ct a0 a1 (3 : Int32) hc P hq) B hK hN hZ hA hW hS rfl k_X5_counted q_18_15 rfl ⟨Nat.le_of_ble_eq_true rfl, Nat.le_of_ble_eq_true rfl⟩ ⟨Nat.le_of_ble_eq_true rfl, Nat.le_of_ble_eq_true rfl⟩ hl.1 rfl (Nat.le_of_ble_eq_true rfl) dL_areTold_14 (fun v39 h39 H locs hw hW hS => ?_)
    refine lv_aload_n hx hb dL_areTold_17 rfl (lv_at hl 3 rfl) ?_
    refine lv_iconst (v := (1 : Int32)) hx hb dL_areTold_18 (by decide) ?_
    obtain ⟨n40, f40, v40, e40, g40, ev40, hw⟩ := hw
    refine kw_iald hx hb hK hW 0 e40 rfl g40 ev40 dL_areTold_19 ?_
    refine lv_icmp_ne (tgt := 131) hx hb dL_areTold_20 (by decide) (fun c41 => ?_) (fun c41 => ?_)
    · have hw := itn c41 hw
      refine W.widen (k := 0) (n := 0) (by omega) (by omega) ?_
      exact hJ131 h39 _ _ _ hw hW hS (lv_sub hl [0, 1, 2, 3, 5] rfl)
    · have hw := itp c41 hw
      refine lv_aload_n hx hb dL_areTold_23 rfl (lv_at hl 0 rfl) ?_
      refine lv_iconst (v := (4 : Int32)) hx hb dL_areTold_24 (by decide) ?_
      refine kx_call (As := [.int (4 : Int32)]) (rest := []) hw (fun hc P hq => cg_X5_counted l D ct a0 a1 (4 : Int32) hc P hq) B hK hN hZ hA hW hS rfl k_X5_counted q_18_15 rfl ⟨Nat.le_of_ble_eq_true rfl, Nat.le_of_ble_eq_true rfl⟩ ⟨Nat.le_of_ble_eq_true rfl, Nat.le_of_ble_eq_true rfl⟩ hl.1 rfl (Nat.le_of_ble_eq_true rfl) dL_areTold_25 (fun v42 h42 H locs hw hW hS => ?_)
      refine lv_aload_n hx hb dL_areTold_28 rfl (lv_at hl 3 rfl) ?_
      refine lv_iconst (v := (2 : Int32)) hx hb dL_areTold_29 (by decide) ?_
      obtain ⟨n43, f43, v43, e43, g43, ev43, hw⟩ := hw
      refine kw_iald hx hb hK hW 0 e43 rfl g43 ev43 dL_areTold_30 ?_
      refine lv_icmp_ne (tgt := 131) hx hb dL_areTold_31 (by decide) (fun c44 => ?_) (fun c44 => ?_)
      · have hw := itn c44 hw
        refine W.widen (k := 0) (n := 0) (by omega) (by omega) ?_
        exact hJ131 h42 _ _ _ hw hW hS (lv_sub hl [0, 1, 2, 3, 5] rfl)
      · have hw := itp c44 hw
        refine lv_aload_n hx hb dL_areTold_34 rfl (lv_at hl 0 rfl) ?_
        refine lv_iconst (v := (5 : Int32)) hx hb dL_areTold_35 (by decide) ?_
        refine kx_call (As := [.int (5 : Int32)]) (rest := []) hw (fun hc P hq => cg_X5_counted l D ct a0 a1 (5 : Int32) hc P hq) B hK hN hZ hA hW hS rfl k_X5_counted q_18_15 rfl ⟨Nat.le_of_ble_eq_true rfl, Nat.le_of_ble_eq_true rfl⟩ ⟨Nat.le_of_ble_eq_true rfl, Nat.le_of_ble_eq_true rfl⟩ hl.1 rfl (Nat.le_of_ble_eq_true rfl) dL_areTold_36 (fun v45 h45 H locs hw hW hS => ?_)
        refine lv_aload hx hb dL_areTold_39 (lv_at hl 4 rfl) ?_
        refine lv_iconst (v := (0 : Int32)) hx hb dL_areTold_41 (by decide) ?_
        obtain ⟨n46, f46, v46, e46, g46, ev46, hw⟩ := hw
        refine kw_lald hx hb hK hW 1 e46 rfl g46 ev46 dL_areTold_42 ?_
        refine ks_call (As := [.long v46]) (rest := [.int v45]) (cg_L_cut l D ct a0 v46 h45 _ hw) B hK hN hZ hA hW hS k_L_cut q_16_13 rfl ⟨Nat.le_of_ble_eq_true rfl, Nat.le_of_ble_eq_true rfl⟩ ⟨Nat.le_of_ble_eq_true rfl, Nat.le_of_ble_eq_true rfl⟩ hl.1 rfl (Nat.le_of_ble_eq_true rfl) dL_areTold_43 (fun v47 h47 H locs hw hW hS => ?_)
        refine lv_icmp_ne (tgt := 131) hx hb dL_areTold_46 (by decide) (fun c48 => ?_) (fun c48 => ?_)
        · have hw := itn c48 hw
          refine W.widen (k := 0) (n := 0) (by omega) (by omega) ?_
          exact hJ131 h47 _ _ _ hw hW hS (lv_sub hl [0, 1, 2, 3, 5] rfl)
        · have hw := itp c48 hw
          refine lv_aload_n hx hb dL_areTold_49 rfl (lv_at hl 0 rfl) ?_
          refine lv_bipush (v := (6 : Int32)) hx hb dL_areTold_50 (by decide) ?_
          refine kx_call (As := [.int (6 : Int32)]) (rest := []) hw (fun hc P hq => cg_X5_counted l D ct a0 a1 (6 : Int32) hc P hq) B hK hN hZ hA hW hS rfl k_X5_counted q_18_15 rfl ⟨Nat.le_of_ble_eq_true rfl, Nat.le_of_ble_eq_true rfl⟩ ⟨Nat.le_of_ble_eq_true rfl, Nat.le_of_ble_eq_true rfl⟩ hl.1 rfl (Nat.le_of_ble_eq_true rfl) dL_areTold_52 (fun v49 h49 H locs hw hW hS => ?_)
          refine lv_aload hx hb dL_areTold_55 (lv_at hl 4 rfl) ?_
          refine lv_iconst (v := (1 : Int32)) hx hb dL_areTold_57 (by decide) ?_
          obtain ⟨n50, f50, v50, e50, g50, ev50, hw⟩ := hw
          refine kw_lald hx hb hK hW 1 e50 rfl g50 ev50 dL_areTold_58 ?_
          refine ks_call (As := [.long v50]) (rest := [.int v49]) (cg_L_cut l D ct a0 v50 h49 _ hw) B hK hN hZ hA hW hS k_L_cut q_16_13 rfl ⟨Nat.le_of_ble_eq_true rfl, Nat.le_of_ble_eq_true rfl⟩ ⟨Nat.le_of_ble_eq_true rfl, Nat.le_of_ble_eq_true rfl⟩ hl.1 rfl (Nat.le_of_ble_eq_true rfl) dL_areTold_59 (fun v51 h51 H locs hw hW hS => ?_)
          refine lv_icmp_ne (tgt := 131) hx hb dL_areTold_62 (by decide) (fun c52 => ?_) (fun c52 => ?_)
          · have hw := itn c52 hw
            refine W.widen (k := 0) (n := 0) (by omega) (by omega) ?_
            exact hJ131 h51 _ _ _ hw hW hS (lv_sub hl [0, 1, 2, 3, 5] rfl)
          · have hw := itp c52 hw
            refine lv_aload_n hx hb dL_areTold_65 rfl (lv_at hl 0 rfl) ?_
            refine lv_bipush (v := (7 : Int32)) hx hb dL_areTold_66 (by decide) ?_
            refine kx_call (As := [.int (7 : Int32)]) (rest := []) hw (fun hc P hq => cg_X5_counted l D ct a0 a1 (7 : Int32) hc P hq) B hK hN hZ hA hW hS rfl k_X5_counted q_18_15 rfl ⟨Nat.le_of_ble_eq_true rfl, Nat.le_of_ble_eq_true rfl⟩ ⟨Nat.le_of_ble_eq_true rfl, Nat.le_of_ble_eq_true rfl⟩ hl.1 rfl (Nat.le_of_ble_eq_true rfl) dL_areTold_68 (fun v53 h53 H locs hw hW hS => ?_)
            refine lv_aload_n hx hb dL_areTold_71 rfl (lv_at hl 3 rfl) ?_
            refine lv_iconst (v := (3 : Int32)) hx hb dL_areTold_72 (by decide) ?_
            obtain ⟨n54, f54, v54, e54, g54, ev54, hw⟩ := hw
            refine kw_iald hx hb hK hW 0 e54 rfl g54 ev54 dL_areTold_73 ?_
            refine lv_icmp_ne (tgt := 131) hx hb dL_areTold_74 (by decide) (fun c55 => ?_) (fun c55 => ?_)
            · have hw := itn c55 hw
              refine W.widen (k := 0) (n := 0) (by omega) (by omega) ?_
              exact hJ131 h53 _ _ _ hw hW hS (lv_sub hl [0, 1, 2, 3, 5] rfl)
            · have hw := itp c55 hw
              refine lv_aload_n hx hb dL_areTold_77 rfl (lv_at hl 0 rfl) ?_
              refine lv_bipush (v := (8 : Int32)) hx hb dL_areTold_78 (by decide) ?_
              refine kx_call (As := [.int (8 : Int32)]) (rest := []) hw (fun hc P hq => cg_X5_counted l D ct a0 a1 (8 : Int32) hc P hq) B hK hN hZ hA hW hS rfl k_X5_counted q_18_15 rfl ⟨Nat.le_of_ble_eq_true rfl, Nat.le_of_ble_eq_true rfl⟩ ⟨Nat.le_of_ble_eq_true rfl, Nat.le_of_ble_eq_true rfl⟩ hl.1 rfl (Nat.le_of_ble_eq_true rfl) dL_areTold_80 (fun v56 h56 H locs hw hW hS => ?_)
              refine lv_aload_n hx hb dL_areTold_83 rfl (lv_at hl 3 rfl) ?_
              refine lv_iconst (v := (4 : Int32)) hx hb dL_areTold_84 (by decide) ?_
              obtain ⟨n57, f57, v57, e57, g57, ev57, hw⟩ := hw
              refine kw_iald hx hb hK hW 0 e57 rfl g57 ev57 dL_areTold_85 ?_
              refine lv_icmp_ne (tgt := 131) hx hb dL_areTold_86 (by decide) (fun c58 => ?_) (fun c58 => ?_)
              · have hw := itn c58 hw
                refine W.widen (k := 0) (n := 0) (by omega) (by omega) ?_
                exact hJ131 h56 _ _ _ hw hW hS (lv_sub hl [0, 1, 2, 3, 5] rfl)
              · have hw := itp c58 hw
                refine lv_aload_n hx hb dL_areTold_89 rfl (lv_at hl 0 rfl) ?_
                refine lv_bipush (v := (9 : Int32)) hx hb dL_areTold_90 (by decide) ?_
                refine kx_call (As := [.int (9 : Int32)]) (rest := []) hw (fun hc P hq => cg_X5_counted l D ct a0 a1 (9 : Int32) hc P hq) B hK hN hZ hA hW hS rfl k_X5_counted q_18_15 rfl ⟨Nat.le_of_ble_eq_true rfl, Nat.le_of_ble_eq_true rfl⟩ ⟨Nat.le_of_ble_eq_true rfl, Nat.le_of_ble_eq_true rfl⟩ hl.1 rfl (Nat.le_of_ble_eq_true rfl) dL_areTold_92 (fun v59 h59 H locs hw hW hS => ?_)
                refine lv_aload_n hx hb dL_areTold_95 rfl (lv_at hl 3 rfl) ?_
                refine lv_iconst (v := (5 : Int32)) hx hb dL_areTold_96 (by decide) ?_
                obtain ⟨n60, f60, v60, e60, g60, ev60, hw⟩ := hw
                refine kw_iald hx hb hK hW 0 e60 rfl g60 ev60 dL_areTold_97 ?_
                refine lv_icmp_ne (tgt := 131) hx hb dL_areTold_98 (by decide) (fun c61 => ?_) (fun c61 => ?_)
                · have hw := itn c61 hw
                  refine W.widen (k := 0) (n := 0) (by omega) (by omega) ?_
                  exact hJ131 h59 _ _ _ hw hW hS (lv_sub hl [0, 1, 2, 3, 5] rfl)
                · have hw := itp c61 hw
                  refine lv_aload_n hx hb dL_areTold_101 rfl (lv_at hl 0 rfl) ?_
                  refine lv_bipush (v := (10 : Int32)) hx hb dL_areTold_102 (by decide) ?_
                  refine kx_call (As := [.int (10 : Int32)]) (rest := []) hw (fun hc P hq => cg_X5_counted l D ct a0 a1 (10 : Int32) hc P hq) B hK hN hZ hA hW hS rfl k_X5_counted q_18_15 rfl ⟨Nat.le_of_ble_eq_true rfl, Nat.le_of_ble_eq_true rfl⟩ ⟨Nat.le_of_ble_eq_true rfl, Nat.le_of_ble_eq_true rfl⟩ hl.1 rfl (Nat.le_of_ble_eq_true rfl) dL_areTold_104 (fun v62 h62 H locs hw hW hS => ?_)
                  refine lv_aload_n hx hb dL_areTold_107 rfl (lv_at hl 3 rfl) ?_
                  refine lv_bipush (v := (6 : Int32)) hx hb dL_areTold_108 (by decide) ?_
                  obtain ⟨n63, f63, v63, e63, g63, ev63, hw⟩ := hw
                  refine kw_iald hx hb hK hW 0 e63 rfl g63 ev63 dL_areTold_110 ?_
                  refine lv_icmp_ne (tgt := 131) hx hb dL_areTold_111 (by decide) (fun c64 => ?_) (fun c64 => ?_)
                  · have hw := itn c64 hw
                    refine W.widen (k := 0) (n := 0) (by omega) (by omega) ?_
                    exact hJ131 h62 _ _ _ hw hW hS (lv_sub hl [0, 1, 2, 3, 5] rfl)
                  · have hw := itp c64 hw
                    refine lv_aload_n hx hb dL_areTold_114 rfl (lv_at hl 0 rfl) ?_
                    refine lv_bipush (v := (11 : Int32)) hx hb dL_areTold_115 (by decide) ?_
                    refine kx_call (As := [.int (11 : Int32)]) (rest := []) hw (fun hc P hq => cg_X5_counted l D ct a0 a1 (11 : Int32) hc P hq) B hK hN hZ hA hW hS rfl k_X5_counted q_18_15 rfl ⟨Nat.le_of_ble_eq_true rfl, Nat.le_of_ble_eq_true rfl⟩ ⟨Nat.le_of_ble_eq_true rfl, Nat.le_of_ble_eq_true rfl⟩ hl.1 rfl (Nat.le_of_ble_eq_true rfl) dL_areTold_117 (fun v65 h65 H locs hw hW hS => ?_)
                    refine lv_aload_n hx hb dL_areTold_120 rfl (lv_at hl 3 rfl) ?_
                    refine lv_bipush (v := (7 : Int32)) hx hb dL_areTold_121 (by decide) ?_
                    obtain ⟨n66, f66, v66, e66, g66, ev66, hw⟩ := hw
                    refine kw_iald hx hb hK hW 0 e66 rfl g66 ev66 dL_areTold_123 ?_
                    refine lv_icmp_ne (tgt := 131) hx hb dL_areTold_124 (by decide) (fun c67 => ?_) (fun c67 => ?_)
                    · have hw := itn c67 hw
                      refine W.widen (k := 0) (n := 0) (by omega) (by omega) ?_
                      exact hJ131 h65 _ _ _ hw hW hS (lv_sub hl [0, 1, 2, 3, 5] rfl)
                    · have hw := itp c67 hw
                      refine lv_iconst (v := (1 : Int32)) hx hb dL_areTold_127 (by decide) ?_
                      refine lv_goto (tgt := 132) hx hb dL_areTold_128 (by decide) ?_
                      refine lv_istore (lv' := [(6, .int (1 : Int32)), (0, .ref a1), (1, .ref a2), (2, .ref a3), (3, .ref a4), (4, .ref a5), (5, .int a6)]) hx hb dL_areTold_132 hl (by decide) rfl (fun ls hl => ?_)
                      refine lv_iconst (v := (0 : Int32)) hx hb dL_areTold_134 (by decide) ?_
                      refine lv_istore (lv' := [(7, .int (0 : Int32)), (6, .int (1 : Int32)), (0, .ref a1), (1, .ref a2), (2, .ref a3), (3, .ref a4), (4, .ref a5), (5, .int a6)]) hx hb dL_areTold_135 hl (by decide) rfl (fun ls hl => ?_)
                      refine W.widen (k := 0) (n := 0) (by omega) (by omega) ?_
                      exact hL137 1024 (1 : Int32) (0 : Int32) h65 _ _ _ hw hW hS (lv_sub hl [2, 3, 4, 5, 7, 1, 0] rfl)

def g_L_areBest_L132b (ct : Nat → ClassId) (a0 : Nat) (a1 : Nat) (a2 : Nat) (a3 : Int32) (a4 : Nat) (Post : Int32 → KH → Prop) (k26 : Nat → Int32 → Int32 → KH → Prop) (k132 : Nat → Int32 → Int32 → Int32 → Int32 → KH → Prop) (x4 : Nat) (x5 : Int32) (x6 : Int32) (x9 : Int32) (x10 : Int32) (h : KH) : Prop :=
  if (5 : Int32) ≤ x10 then k26 x4 x5 (x6 + (5 : Int32)) h
  else if x5 = (0 : Int32) then k132 x4 (0 : Int32) x6 x9 (x10 + (1 : Int32)) h
  else frC h a1 (fun hc P => g_X5_best ct a0 a1 a3 x9 x10 hc P) (fun v17 h17 => ldI h17 x4 x10 (ct 0) (fun v18 => if v17 = v18 then k132 x4 (1 : Int32) x6 x9 (x10 + (1 : Int32)) h17
  else k132 x4 (0 : Int32) x6 x9 (x10 + (1 : Int32)) h17))
def g_L_areBest_L132 (ct : Nat → ClassId) (a0 : Nat) (a1 : Nat) (a2 : Nat) (a3 : Int32) (a4 : Nat) (Post : Int32 → KH → Prop) (k26 : Nat → Int32 → Int32 → KH → Prop) : Nat → Nat → Int32 → Int32 → Int32 → Int32 → KH → Prop
  | 0 => fun _ _ _ _ _ _ => False
  | n + 1 => g_L_areBest_L132b ct a0 a1 a2 a3 a4 Post k26 (g_L_areBest_L132 ct a0 a1 a2 a3 a4 Post k26 n)
def g_L_areBest_J116 (ct : Nat → ClassId) (a0 : Nat) (a1 : Nat) (a2 : Nat) (a3 : Int32) (a4 : Nat) (Post : Int32 → KH → Prop) (k26 : Nat → Int32 → Int32 → KH → Prop) (x4 : Nat) (x6 : Int32) (x9 : Int32) (h : KH) : Prop :=
  g_L_best ct a0 a2 a3 x6 a4 x4 h (fun _ h14 => g_L_areBest_L132 ct a0 a1 a2 a3 a4 Post k26 1024 x4 (0 : Int32) x6 x9 (0 : Int32) h14)
def g_L_areBest_J58 (ct : Nat → ClassId) (a0 : Nat) (a1 : Nat) (a2 : Nat) (a3 : Int32) (a4 : Nat) (Post : Int32 → KH → Prop) (k26 : Nat → Int32 → Int32 → KH → Prop) (x4 : Nat) (x6 : Int32) (x7 : Int64) (t0 : Int32) (h : KH) : Prop :=
  frC h a1 (fun hc P => g_X5_size ct a0 a1 a3 t0 hc P) (fun v10 h10 => g_L_size ct a0 a2 a3 x6 h10 (fun v11 h11 => g_L_cut ct a0 v11 h11 (fun v12 h12 => if v10 = v12 then frC h12 a1 (fun hc P => g_X5_least ct a0 a1 a3 t0 (0 : Int32) hc P) (fun v20 h20 => g_L_cut ct a0 x7 h20 (fun v21 h21 => if v20 = v21 then frC h21 a1 (fun hc P => g_X5_least ct a0 a1 a3 t0 (1 : Int32) hc P) (fun v23 h23 => g_L_cut ct a0 x7 h23 (fun v24 h24 => if v23 = v24 then g_L_best ct a0 a2 a3 x6 a4 x4 h24 (fun _ h26 => g_L_areBest_L132 ct a0 a1 a2 a3 a4 Post k26 1024 x4 (1 : Int32) x6 t0 (0 : Int32) h26)
  else g_L_areBest_J116 ct a0 a1 a2 a3 a4 Post k26 x4 x6 t0 h24))
  else g_L_areBest_J116 ct a0 a1 a2 a3 a4 Post k26 x4 x6 t0 h21))
  else g_L_areBest_J116 ct a0 a1 a2 a3 a4 Post k26 x4 x6 t0 h12)))
def g_L_areBest_L26b (ct : Nat → ClassId) (a0 : Nat) (a1 : Nat) (a2 : Nat) (a3 : Int32) (a4 : Nat) (Post : Int32 → KH → Prop)  (k26 : Nat → Int32 → Int32 → KH → Prop) (x4 : Nat) (x5 : Int32) (x6 : Int32) (h : KH) : Prop :=
  if (6 : Int32) ≤ x6 then (isB x5 = true ∧ Post x5 h)
  else if x5 = (0 : Int32) then (isB x5 = true ∧ Post x5 h)
  else g_L_least ct a0 a2 a3 x6 a4 h (fun v8 h8 => if x6 = (0 : Int32) then g_L_areBest_J58 ct a0 a1 a2 a3 a4 Post k26 x4 x6 v8 (1 : Int32) h8
  else g_L_areBest_J58 ct a0 a1 a2 a3 a4 Post k26 x4 x6 v8 (0 : Int32) h8)
def g_L_areBest_L26 (ct : Nat → ClassId) (a0 : Nat) (a1 : Nat) (a2 : Nat) (a3 : Int32) (a4 : Nat) (Post : Int32 → KH → Prop)  : Nat → Nat → Int32 → Int32 → KH → Prop
  | 0 => fun _ _ _ _ => False
  | n + 1 => g_L_areBest_L26b ct a0 a1 a2 a3 a4 Post  (g_L_areBest_L26 ct a0 a1 a2 a3 a4 Post  n)
def g_L_areBest (ct : Nat → ClassId) (a0 : Nat) (a1 : Nat) (a2 : Nat) (a3 : Int32) (a4 : Nat) (h : KH) (Post : Int32 → KH → Prop) : Prop :=
  nwC h (.inl (ct 0, 5, .inl (fun _ => 0))) (fun q1 h1 => frC h1 a1 (fun hc P => g_X5_best ct a0 a1 a3 (1 : Int32) (-1 : Int32) hc P) (fun v2 h2 => if v2 = (-1 : Int32) then g_L_areBest_L26 ct a0 a1 a2 a3 a4 Post  1024 q1 (1 : Int32) (0 : Int32) h2
  else g_L_areBest_L26 ct a0 a1 a2 a3 a4 Post  1024 q1 (0 : Int32) (0 : Int32) h2))
set_option maxRecDepth 100000 in
set_option maxHeartbeats 4000000 in
theorem cg_L_areBest (l : Launch) (D : va_G) (ct : Nat → ClassId) (a0 : Nat) (a1 : Nat) (a2 : Nat) (a3 : Int32) (a4 : Nat) (h : KH) (Post : Int32 → KH → Prop) (hw : g_L_areBest ct a0 a1 a2 a3 a4 h Post) : CK l yL_areBest cL_areBest 11 11 1 5 (some .boolean) D ct a0 [.ref a1, .ref a2, .int a3, .ref a4] vI h Post := by
  refine CK.mkI (by decide) (Nat.le_of_ble_eq_true rfl) ?_
  intro p e s m below meth c Q A X hret hW hS ls hl
  obtain ⟨B, hin, hK, hN, hZ, hA⟩ := X
  have B0 := B
  obtain ⟨hx, hb, hml, hown, hts⟩ := B0
  have hl : lv_has ls 11 [(0, .ref a1), (1, .ref a2), (2, .int a3), (3, .ref a4)] := hl
  have hL26 : ∀ (n26 : Nat), ∀ (x4 : Nat) (x5 : Int32) (x6 : Int32) (h : KH) (ls : Array Slot) (H : Heap) (locs : List Loc), g_L_areBest_L26 ct a0 a1 a2 a3 a4 Post  n26 x4 x5 x6 h → KW D A h H → va_S A s.heap H locs → lv_has ls 11 [(0, .ref a1), (1, .ref a2), (2, .int a3), (3, .ref a4), (4, .ref x4), (5, .int x5), (6, .int x6)] → W p l e (rmF 11 1 5) s m ([.ref a1, .ref a2, .int a3, .ref a4] : List Value).toArray below meth c H locs 1 5 Q (F0 m 26 ls []) := by
    intro n26
    induction n26 with
    | zero =>
      intro x4 x5 x6 h ls H locs hw
      exact (show False from hw).elim
    | succ n26 ih26 =>
      have hL132 : ∀ (n132 : Nat), ∀ (x4 : Nat) (x5 : Int32) (x6 : Int32) (x9 : Int32) (x10 : Int32) (h : KH) (ls : Array Slot) (H : Heap) (locs : List Loc), g_L_areBest_L132 ct a0 a1 a2 a3 a4 Post (g_L_areBest_L26 ct a0 a1 a2 a3 a4 Post  n26) n132 x4 x5 x6 x9 x10 h → KW D A h H → va_S A s.heap H locs → lv_has ls 11 [(0, .ref a1), (1, .ref a2), (2, .int a3), (3, .ref a4), (4, .ref x4), (5, .int x5), (6, .int x6), (9, .int x9), (10, .int x10)] → W p l e (rmF 11 1 5) s m ([.ref a1, .ref a2, .int a3, .ref a4] : List Value).toArray below meth c H locs 1 5 Q (F0 m 132 ls []) := by
        intro n132
        induction n132 with
        | zero =>
          intro x4 x5 x6 x9 x10 h ls H locs hw
          exact (show False from hw).elim
        | succ n132 ih132 =>
          intro x4 x5 x6 x9 x10 h ls H locs hw hW hS hl
          have hw : g_L_areBest_L132b ct a0 a1 a2 a3 a4 Post (g_L_areBest_L26 ct a0 a1 a2 a3 a4 Post  n26) (g_L_areBest_L132 ct a0 a1 a2 a3 a4 Post (g_L_areBest_L26 ct a0 a1 a2 a3 a4 Post  n26) n132) x4 x5 x6 x9 x10 h := hw
          unfold g_L_areBest_L132b at hw
          refine lv_iload hx hb dL_areBest_132 (lv_at hl 8 rfl) ?_
          refine lv_iconst (v := (5 : Int32)) hx hb dL_areBest_134 (by decide) ?_
          refine lv_icmp_ge (tgt := 173) hx hb dL_areBest_135 (by decide) (fun c15 => ?_) (fun c15 => ?_)
          · have hw := itp c15 hw
            refine lv_iinc (v := (x6 + (5 : Int32))) (lv' := [(6, .int (x6 + (5 : Int32))), (0, .ref a1), (1, .ref a2), (2, .int a3), (3, .ref a4), (4, .ref x4), (5, .int x5), (9, .int x9), (10, .int x10)]) hx hb dL_areBest_173 hl (k := 6) rfl (congrArg (HAdd.hAdd x6) (by decide)) (by decide) rfl (fun ls hl => ?_)
            refine lv_goto (tgt := 26) hx hb dL_areBest_176 (by decide) ?_
            exact ih26 x4 x5 (x6 + (5 : Int32)) h _ _ _ hw hW hS (lv_sub hl [1, 2, 3, 4, 5, 6, 0] rfl)
          · have hw := itn c15 hw
            refine lv_iload hx hb dL_areBest_138 (lv_at hl 5 rfl) ?_
            refine lv_if_eq (tgt := 164) hx hb dL_areBest_140 (by decide) (fun c16 => ?_) (fun c16 => ?_)
            · have hw := itp c16 hw
              refine lv_iconst (v := (0 : Int32)) hx hb dL_areBest_164 (by decide) ?_
              refine lv_istore (lv' := [(5, .int (0 : Int32)), (0, .ref a1), (1, .ref a2), (2, .int a3), (3, .ref a4), (4, .ref x4), (6, .int x6), (9, .int x9), (10, .int x10)]) hx hb dL_areBest_165 hl (by decide) rfl (fun ls hl => ?_)
              refine lv_iinc (v := (x10 + (1 : Int32))) (lv' := [(10, .int (x10 + (1 : Int32))), (5, .int (0 : Int32)), (0, .ref a1), (1, .ref a2), (2, .int a3), (3, .ref a4), (4, .ref x4), (6, .int x6), (9, .int x9)]) hx hb dL_areBest_167 hl (k := 8) rfl (congrArg (HAdd.hAdd x10) (by decide)) (by decide) rfl (fun ls hl => ?_)
              refine lv_goto (tgt := 132) hx hb dL_areBest_170 (by decide) ?_
              exact ih132 x4 (0 : Int32) x6 x9 (x10 + (1 : Int32)) h _ _ _ hw hW hS (lv_sub hl [2, 3, 4, 5, 6, 1, 7, 8, 0] rfl)
            · have hw := itn c16 hw
              refine lv_aload_n hx hb dL_areBest_143 rfl (lv_at hl 0 rfl) ?_
              refine lv_iload_n hx hb dL_areBest_144 rfl (lv_at hl 2 rfl) ?_
              refine lv_iload hx hb dL_areBest_145 (lv_at hl 7 rfl) ?_
              refine lv_iload hx hb dL_areBest_147 (lv_at hl 8 rfl) ?_
              refine kx_call (As := [.int a3, .int x9, .int x10]) (rest := []) hw (fun hc P hq => cg_X5_best l D ct a0 a1 a3 x9 x10 hc P hq) B hK hN hZ hA hW hS rfl k_X5_best q_20_12 rfl ⟨Nat.le_of_ble_eq_true rfl, Nat.le_of_ble_eq_true rfl⟩ ⟨Nat.le_of_ble_eq_true rfl, Nat.le_of_ble_eq_true rfl⟩ hl.1 rfl (Nat.le_of_ble_eq_true rfl) dL_areBest_149 (fun v17 h17 H locs hw hW hS => ?_)
              refine lv_aload hx hb dL_areBest_152 (lv_at hl 4 rfl) ?_
              refine lv_iload hx hb dL_areBest_154 (lv_at hl 8 rfl) ?_
              obtain ⟨n18, f18, v18, e18, g18, ev18, hw⟩ := hw
              refine kw_iald hx hb hK hW 0 e18 rfl g18 ev18 dL_areBest_156 ?_
              refine lv_icmp_ne (tgt := 164) hx hb dL_areBest_157 (by decide) (fun c19 => ?_) (fun c19 => ?_)
              · have hw := itn c19 hw
                refine lv_iconst (v := (0 : Int32)) hx hb dL_areBest_164 (by decide) ?_
                refine lv_istore (lv' := [(5, .int (0 : Int32)), (0, .ref a1), (1, .ref a2), (2, .int a3), (3, .ref a4), (4, .ref x4), (6, .int x6), (9, .int x9), (10, .int x10)]) hx hb dL_areBest_165 hl (by decide) rfl (fun ls hl => ?_)
                refine lv_iinc (v := (x10 + (1 : Int32))) (lv' := [(10, .int (x10 + (1 : Int32))), (5, .int (0 : Int32)), (0, .ref a1), (1, .ref a2), (2, .int a3), (3, .ref a4), (4, .ref x4), (6, .int x6), (9, .int x9)]) hx hb dL_areBest_167 hl (k := 8) rfl (congrArg (HAdd.hAdd x10) (by decide)) (by decide) rfl (fun ls hl => ?_)
                refine lv_goto (tgt := 132) hx hb dL_areBest_170 (by decide) ?_
                refine W.widen (k := 1) (n := 5) (by omega) (by omega) ?_
                exact ih132 x4 (0 : Int32) x6 x9 (x10 + (1 : Int32)) h17 _ _ _ hw hW hS (lv_sub hl [2, 3, 4, 5, 6, 1, 7, 8, 0] rfl)
              · have hw := itp c19 hw
                refine lv_iconst (v := (1 : Int32)) hx hb dL_areBest_160 (by decide) ?_
                refine lv_goto (tgt := 165) hx hb dL_areBest_161 (by decide) ?_
                refine lv_istore (lv' := [(5, .int (1 : Int32)), (0, .ref a1), (1, .ref a2), (2, .int a3), (3, .ref a4), (4, .ref x4), (6, .int x6), (9, .int x9), (10, .int x10)]) hx hb dL_areBest_165 hl (by decide) rfl (fun ls hl => ?_)
                refine lv_iinc (v := (x10 + (1 : Int32))) (lv' := [(10, .int (x10 + (1 : Int32))), (5, .int (1 : Int32)), (0, .ref a1), (1, .ref a2), (2, .int a3), (3, .ref a4), (4, .ref x4), (6, .int x6), (9, .int x9)]) hx hb dL_areBest_167 hl (k := 8) rfl (congrArg (HAdd.hAdd x10) (by decide)) (by decide) rfl (fun ls hl => ?_)
                refine lv_goto (tgt := 132) hx hb dL_areBest_170 (by decide) ?_
                refine W.widen (k := 1) (n := 5) (by omega) (by omega) ?_
                exact ih132 x4 (1 : Int32) x6 x9 (x10 + (1 : Int32)) h17 _ _ _ hw hW hS (lv_sub hl [2, 3, 4, 5, 6, 1, 7, 8, 0] rfl)
      have hJ116 : ∀ (x4 : Nat) (x6 : Int32) (x9 : Int32) (h : KH) (ls : Array Slot) (H : Heap) (locs : List Loc), g_L_areBest_J116 ct a0 a1 a2 a3 a4 Post (g_L_areBest_L26 ct a0 a1 a2 a3 a4 Post  n26) x4 x6 x9 h → KW D A h H → va_S A s.heap H locs → lv_has ls 11 [(0, .ref a1), (1, .ref a2), (2, .int a3), (3, .ref a4), (4, .ref x4), (6, .int x6), (9, .int x9)] → W p l e (rmF 11 1 5) s m ([.ref a1, .ref a2, .int a3, .ref a4] : List Value).toArray below meth c H locs 1 5 Q (F0 m 116 ls []) := by
        intro x4 x6 x9 h ls H locs hw hW hS hl
        unfold g_L_areBest_J116 at hw
        refine lv_iconst (v := (0 : Int32)) hx hb dL_areBest_116 (by decide) ?_
        refine lv_istore (lv' := [(5, .int (0 : Int32)), (0, .ref a1), (1, .ref a2), (2, .int a3), (3, .ref a4), (4, .ref x4), (6, .int x6), (9, .int x9)]) hx hb dL_areBest_117 hl (by decide) rfl (fun ls hl => ?_)
        refine lv_aload_n hx hb dL_areBest_119 rfl (lv_at hl 2 rfl) ?_
        refine lv_iload_n hx hb dL_areBest_120 rfl (lv_at hl 3 rfl) ?_
        refine lv_iload hx hb dL_areBest_121 (lv_at hl 6 rfl) ?_
        refine lv_aload_n hx hb dL_areBest_123 rfl (lv_at hl 4 rfl) ?_
        refine lv_aload hx hb dL_areBest_124 (lv_at hl 5 rfl) ?_
        refine ks_call (As := [.ref a2, .int a3, .int x6, .ref a4, .ref x4]) (rest := []) (cg_L_best l D ct a0 a2 a3 x6 a4 x4 h _ hw) B hK hN hZ hA hW hS k_L_best q_11_8 rfl ⟨Nat.le_of_ble_eq_true rfl, Nat.le_of_ble_eq_true rfl⟩ ⟨Nat.le_of_ble_eq_true rfl, Nat.le_of_ble_eq_true rfl⟩ hl.1 rfl (Nat.le_of_ble_eq_true rfl) dL_areBest_126 (fun v14 h14 H locs hw hW hS => ?_)
        refine lv_iconst (v := (0 : Int32)) hx hb dL_areBest_129 (by decide) ?_
        refine lv_istore (lv' := [(10, .int (0 : Int32)), (5, .int (0 : Int32)), (0, .ref a1), (1, .ref a2), (2, .int a3), (3, .ref a4), (4, .ref x4), (6, .int x6), (9, .int x9)]) hx hb dL_areBest_130 hl (by decide) rfl (fun ls hl => ?_)
        refine W.widen (k := 1) (n := 5) (by omega) (by omega) ?_
        exact hL132 1024 x4 (0 : Int32) x6 x9 (0 : Int32) h14 _ _ _ hw hW hS (lv_sub hl [2, 3, 4, 5, 6, 1, 7, 8, 0] rfl)
      have hJ58 : ∀ (x4 : Nat) (x6 : Int32) (x7 : Int64) (t0 : Int32) (h : KH) (ls : Array Slot) (H : Heap) (locs : List Loc), g_L_areBest_J58 ct a0 a1 a2 a3 a4 Post (g_L_areBest_L26 ct a0 a1 a2 a3 a4 Post  n26) x4 x6 x7 t0 h → KW D A h H → va_S A s.heap H locs → lv_has ls 11 [(0, .ref a1), (1, .ref a2), (2, .int a3), (3, .ref a4), (4, .ref x4), (6, .int x6), (7, .long x7)] → W p l e (rmF 11 1 5) s m ([.ref a1, .ref a2, .int a3, .ref a4] : List Value).toArray below meth c H locs 1 5 Q (F0 m 58 ls [.int t0]) := by
        intro x4 x6 x7 t0 h ls H locs hw hW hS hl
        unfold g_L_areBest_J58 at hw
        refine lv_istore (lv' := [(9, .int t0), (0, .ref a1), (1, .ref a2), (2, .int a3), (3, .ref a4), (4, .ref x4), (6, .int x6), (7, .long x7)]) hx hb dL_areBest_58 hl (by decide) rfl (fun ls hl => ?_)
        refine lv_aload_n hx hb dL_areBest_60 rfl (lv_at hl 1 rfl) ?_
        refine lv_iload_n hx hb dL_areBest_61 rfl (lv_at hl 3 rfl) ?_
        refine lv_iload hx hb dL_areBest_62 (lv_at hl 0 rfl) ?_
        refine kx_call (As := [.int a3, .int t0]) (rest := []) hw (fun hc P hq => cg_X5_size l D ct a0 a1 a3 t0 hc P hq) B hK hN hZ hA hW hS rfl k_X5_size q_20_16 rfl ⟨Nat.le_of_ble_eq_true rfl, Nat.le_of_ble_eq_true rfl⟩ ⟨Nat.le_of_ble_eq_true rfl, Nat.le_of_ble_eq_true rfl⟩ hl.1 rfl (Nat.le_of_ble_eq_true rfl) dL_areBest_64 (fun v10 h10 H locs hw hW hS => ?_)
        refine lv_aload_n hx hb dL_areBest_67 rfl (lv_at hl 2 rfl) ?_
        refine lv_iload_n hx hb dL_areBest_68 rfl (lv_at hl 3 rfl) ?_
        refine lv_iload hx hb dL_areBest_69 (lv_at hl 6 rfl) ?_
        refine ks_call (As := [.ref a2, .int a3, .int x6]) (rest := [.int v10]) (cg_L_size l D ct a0 a2 a3 x6 h10 _ hw) B hK hN hZ hA hW hS k_L_size q_11_15 rfl ⟨Nat.le_of_ble_eq_true rfl, Nat.le_of_ble_eq_true rfl⟩ ⟨Nat.le_of_ble_eq_true rfl, Nat.le_of_ble_eq_true rfl⟩ hl.1 rfl (Nat.le_of_ble_eq_true rfl) dL_areBest_71 (fun v11 h11 H locs hw hW hS => ?_)
        refine ks_call (As := [.long v11]) (rest := [.int v10]) (cg_L_cut l D ct a0 v11 h11 _ hw) B hK hN hZ hA hW hS k_L_cut q_16_13 rfl ⟨Nat.le_of_ble_eq_true rfl, Nat.le_of_ble_eq_true rfl⟩ ⟨Nat.le_of_ble_eq_true rfl, Nat.le_of_ble_eq_true rfl⟩ hl.1 rfl (Nat.le_of_ble_eq_true rfl) dL_areBest_74 (fun v12 h12 H locs hw hW hS => ?_)
        refine lv_icmp_ne (tgt := 116) hx hb dL_areBest_77 (by decide) (fun c13 => ?_) (fun c13 => ?_)
        · have hw := itn c13 hw
          refine W.widen (k := 1) (n := 5) (by omega) (by omega) ?_
          exact hJ116 x4 x6 t0 h12 _ _ _ hw hW hS (lv_sub hl [1, 2, 3, 4, 5, 6, 0] rfl)
        · have hw := itp c13 hw
          refine lv_aload_n hx hb dL_areBest_80 rfl (lv_at hl 1 rfl) ?_
          refine lv_iload_n hx hb dL_areBest_81 rfl (lv_at hl 3 rfl) ?_
          refine lv_iload hx hb dL_areBest_82 (lv_at hl 0 rfl) ?_
          refine lv_iconst (v := (0 : Int32)) hx hb dL_areBest_84 (by decide) ?_
          refine kx_call (As := [.int a3, .int t0, .int (0 : Int32)]) (rest := []) hw (fun hc P hq => cg_X5_least l D ct a0 a1 a3 t0 (0 : Int32) hc P hq) B hK hN hZ hA hW hS rfl k_X5_least q_20_21 rfl ⟨Nat.le_of_ble_eq_true rfl, Nat.le_of_ble_eq_true rfl⟩ ⟨Nat.le_of_ble_eq_true rfl, Nat.le_of_ble_eq_true rfl⟩ hl.1 rfl (Nat.le_of_ble_eq_true rfl) dL_areBest_85 (fun v20 h20 H locs hw hW hS => ?_)
          refine lv_lload hx hb dL_areBest_88 (lv_at hl 7 rfl) ?_
          refine ks_call (As := [.long x7]) (rest := [.int v20]) (cg_L_cut l D ct a0 x7 h20 _ hw) B hK hN hZ hA hW hS k_L_cut q_16_13 rfl ⟨Nat.le_of_ble_eq_true rfl, Nat.le_of_ble_eq_true rfl⟩ ⟨Nat.le_of_ble_eq_true rfl, Nat.le_of_ble_eq_true rfl⟩ hl.1 rfl (Nat.le_of_ble_eq_true rfl) dL_areBest_90 (fun v21 h21 H locs hw hW hS => ?_)
          refine lv_icmp_ne (tgt := 116) hx hb dL_areBest_93 (by decide) (fun c22 => ?_) (fun c22 => ?_)
          · have hw := itn c22 hw
            refine W.widen (k := 1) (n := 5) (by omega) (by omega) ?_
            exact hJ116 x4 x6 t0 h21 _ _ _ hw hW hS (lv_sub hl [1, 2, 3, 4, 5, 6, 0] rfl)
          · have hw := itp c22 hw
            refine lv_aload_n hx hb dL_areBest_96 rfl (lv_at hl 1 rfl) ?_
            refine lv_iload_n hx hb dL_areBest_97 rfl (lv_at hl 3 rfl) ?_
            refine lv_iload hx hb dL_areBest_98 (lv_at hl 0 rfl) ?_
            refine lv_iconst (v := (1 : Int32)) hx hb dL_areBest_100 (by decide) ?_
            refine kx_call (As := [.int a3, .int t0, .int (1 : Int32)]) (rest := []) hw (fun hc P hq => cg_X5_least l D ct a0 a1 a3 t0 (1 : Int32) hc P hq) B hK hN hZ hA hW hS rfl k_X5_least q_20_21 rfl ⟨Nat.le_of_ble_eq_true rfl, Nat.le_of_ble_eq_true rfl⟩ ⟨Nat.le_of_ble_eq_true rfl, Nat.le_of_ble_eq_true rfl⟩ hl.1 rfl (Nat.le_of_ble_eq_true rfl) dL_areBest_101 (fun v23 h23 H locs hw hW hS => ?_)
            refine lv_lload hx hb dL_areBest_104 (lv_at hl 7 rfl) ?_
            refine ks_call (As := [.long x7]) (rest := [.int v23]) (cg_L_cut l D ct a0 x7 h23 _ hw) B hK hN hZ hA hW hS k_L_cut q_16_13 rfl ⟨Nat.le_of_ble_eq_true rfl, Nat.le_of_ble_eq_true rfl⟩ ⟨Nat.le_of_ble_eq_true rfl, Nat.le_of_ble_eq_true rfl⟩ hl.1 rfl (Nat.le_of_ble_eq_true rfl) dL_areBest_106 (fun v24 h24 H locs hw hW hS => ?_)
            refine lv_icmp_ne (tgt := 116) hx hb dL_areBest_109 (by decide) (fun c25 => ?_) (fun c25 => ?_)
            · have hw := itn c25 hw
              refine W.widen (k := 1) (n := 5) (by omega) (by omega) ?_
              exact hJ116 x4 x6 t0 h24 _ _ _ hw hW hS (lv_sub hl [1, 2, 3, 4, 5, 6, 0] rfl)
            · have hw := itp c25 hw
              refine lv_iconst (v := (1 : Int32)) hx hb dL_areBest_112 (by decide) ?_
              refine lv_goto (tgt := 117) hx hb dL_areBest_113 (by decide) ?_
              refine lv_istore (lv' := [(5, .int (1 : Int32)), (9, .int t0), (0, .ref a1), (1, .ref a2), (2, .int a3), (3, .ref a4), (4, .ref x4), (6, .int x6), (7, .long x7)]) hx hb dL_areBest_117 hl (by decide) rfl (fun ls hl => ?_)
              refine lv_aload_n hx hb dL_areBest_119 rfl (lv_at hl 3 rfl) ?_
              refine lv_iload_n hx hb dL_areBest_120 rfl (lv_at hl 4 rfl) ?_
              refine lv_iload hx hb dL_areBest_121 (lv_at hl 7 rfl) ?_
              refine lv_aload_n hx hb dL_areBest_123 rfl (lv_at hl 5 rfl) ?_
              refine lv_aload hx hb dL_areBest_124 (lv_at hl 6 rfl) ?_
              refine ks_call (As := [.ref a2, .int a3, .int x6, .ref a4, .ref x4]) (rest := []) (cg_L_best l D ct a0 a2 a3 x6 a4 x4 h24 _ hw) B hK hN hZ hA hW hS k_L_best q_11_8 rfl ⟨Nat.le_of_ble_eq_true rfl, Nat.le_of_ble_eq_true rfl⟩ ⟨Nat.le_of_ble_eq_true rfl, Nat.le_of_ble_eq_true rfl⟩ hl.1 rfl (Nat.le_of_ble_eq_true rfl) dL_areBest_126 (fun v26 h26 H locs hw hW hS => ?_)
              refine lv_iconst (v := (0 : Int32)) hx hb dL_areBest_129 (by decide) ?_
              refine lv_istore (lv' := [(10, .int (0 : Int32)), (5, .int (1 : Int32)), (9, .int t0), (0, .ref a1), (1, .ref a2), (2, .int a3), (3, .ref a4), (4, .ref x4), (6, .int x6), (7, .long x7)]) hx hb dL_areBest_130 hl (by decide) rfl (fun ls hl => ?_)
              refine W.widen (k := 1) (n := 5) (by omega) (by omega) ?_
              exact hL132 1024 x4 (1 : Int32) x6 t0 (0 : Int32) h26 _ _ _ hw hW hS (lv_sub hl [3, 4, 5, 6, 7, 1, 8, 2, 0] rfl)
      intro x4 x5 x6 h ls H locs hw hW hS hl
      have hw : g_L_areBest_L26b ct a0 a1 a2 a3 a4 Post  (g_L_areBest_L26 ct a0 a1 a2 a3 a4 Post  n26) x4 x5 x6 h := hw
      unfold g_L_areBest_L26b at hw
      refine lv_iload hx hb dL_areBest_26 (lv_at hl 6 rfl) ?_
      refine lv_bipush (v := (6 : Int32)) hx hb dL_areBest_28 (by decide) ?_
      refine lv_icmp_ge (tgt := 179) hx hb dL_areBest_30 (by decide) (fun c4 => ?_) (fun c4 => ?_)
      · have hw := itp c4 hw
        refine lv_iload hx hb dL_areBest_179 (lv_at hl 5 rfl) ?_
        obtain ⟨g5, hw⟩ := hw
        exact hret _ _ _ _ x5 h (isB_nar g5) dL_areBest_181 hw hW hS
      · have hw := itn c4 hw
        refine lv_iload hx hb dL_areBest_33 (lv_at hl 5 rfl) ?_
        refine lv_if_eq (tgt := 179) hx hb dL_areBest_35 (by decide) (fun c6 => ?_) (fun c6 => ?_)
        · have hw := itp c6 hw
          refine lv_iload hx hb dL_areBest_179 (lv_at hl 5 rfl) ?_
          obtain ⟨g7, hw⟩ := hw
          exact hret _ _ _ _ x5 h (isB_nar g7) dL_areBest_181 hw hW hS
        · have hw := itn c6 hw
          refine lv_aload_n hx hb dL_areBest_38 rfl (lv_at hl 1 rfl) ?_
          refine lv_iload_n hx hb dL_areBest_39 rfl (lv_at hl 2 rfl) ?_
          refine lv_iload hx hb dL_areBest_40 (lv_at hl 6 rfl) ?_
          refine lv_aload_n hx hb dL_areBest_42 rfl (lv_at hl 3 rfl) ?_
          refine ks_call (As := [.ref a2, .int a3, .int x6, .ref a4]) (rest := []) (cg_L_least l D ct a0 a2 a3 x6 a4 h _ hw) B hK hN hZ hA hW hS k_L_least q_11_11 rfl ⟨Nat.le_of_ble_eq_true rfl, Nat.le_of_ble_eq_true rfl⟩ ⟨Nat.le_of_ble_eq_true rfl, Nat.le_of_ble_eq_true rfl⟩ hl.1 rfl (Nat.le_of_ble_eq_true rfl) dL_areBest_43 (fun v8 h8 H locs hw hW hS => ?_)
          refine lv_lstore (lv' := [(7, .long v8), (0, .ref a1), (1, .ref a2), (2, .int a3), (3, .ref a4), (4, .ref x4), (5, .int x5), (6, .int x6)]) hx hb dL_areBest_46 hl (by decide) rfl (fun ls hl => ?_)
          refine lv_iload hx hb dL_areBest_48 (lv_at hl 7 rfl) ?_
          refine lv_if_ne (tgt := 57) hx hb dL_areBest_50 (by decide) (fun c9 => ?_) (fun c9 => ?_)
          · have hw := itn c9 hw
            refine lv_iconst (v := (0 : Int32)) hx hb dL_areBest_57 (by decide) ?_
            refine W.widen (k := 1) (n := 5) (by omega) (by omega) ?_
            exact hJ58 x4 x6 v8 (0 : Int32) h8 _ _ _ hw hW hS (lv_sub hl [1, 2, 3, 4, 5, 7, 0] rfl)
          · have hw := itp c9 hw
            refine lv_iconst (v := (1 : Int32)) hx hb dL_areBest_53 (by decide) ?_
            refine lv_goto (tgt := 58) hx hb dL_areBest_54 (by decide) ?_
            refine W.widen (k := 1) (n := 5) (by omega) (by omega) ?_
            exact hJ58 x4 x6 v8 (1 : Int32) h8 _ _ _ hw hW hS (lv_sub hl [1, 2, 3, 4, 5, 7, 0] rfl)
  unfold g_L_areBest at hw
  refine lv_iconst (v := (5 : Int32)) hx hb dL_areBest_0 (by decide) ?_
  refine kw_newa (atype := .int) (a0 := (5, .inl (fun _ => 0))) (n := (5 : Int32)) (N' := 5) hx hb (hts _ q_1_3) rfl hK 0 rfl hW hS hA (fun _ => rfl) (by decide) (by decide) (by decide) (Nat.le_of_ble_eq_true rfl) (Nat.le_of_ble_eq_true rfl) dL_areBest_1 (fun q1 H h1 n1 eh1 hW hS => ?_)
  have hw := hw q1 h1 n1 eh1
  refine lv_astore (lv' := [(4, .ref q1), (0, .ref a1), (1, .ref a2), (2, .int a3), (3, .ref a4)]) hx hb dL_areBest_3 hl (by decide) rfl (fun ls hl => ?_)
  refine lv_aload_n hx hb dL_areBest_5 rfl (lv_at hl 1 rfl) ?_
  refine lv_iload_n hx hb dL_areBest_6 rfl (lv_at hl 3 rfl) ?_
  refine lv_iconst (v := (1 : Int32)) hx hb dL_areBest_7 (by decide) ?_
  refine lv_iconst (v := (-1 : Int32)) hx hb dL_areBest_8 (by decide) ?_
  refine kx_call (As := [.int a3, .int (1 : Int32), .int (-1 : Int32)]) (rest := []) hw (fun hc P hq => cg_X5_best l D ct a0 a1 a3 (1 : Int32) (-1 : Int32) hc P hq) B hK hN hZ hA hW hS rfl k_X5_best q_20_12 rfl ⟨Nat.le_of_ble_eq_true rfl, Nat.le_of_ble_eq_true rfl⟩ ⟨Nat.le_of_ble_eq_true rfl, Nat.le_of_ble_eq_true rfl⟩ hl.1 rfl (Nat.le_of_ble_eq_true rfl) dL_areBest_9 (fun v2 h2 H locs hw hW hS => ?_)
  refine lv_iconst (v := (-1 : Int32)) hx hb dL_areBest_12 (by decide) ?_
  refine lv_icmp_ne (tgt := 20) hx hb dL_areBest_13 (by decide) (fun c3 => ?_) (fun c3 => ?_)
  · have hw := itn c3 hw
    refine lv_iconst (v := (0 : Int32)) hx hb dL_areBest_20 (by decide) ?_
    refine lv_istore (lv' := [(5, .int (0 : Int32)), (4, .ref q1), (0, .ref a1), (1, .ref a2), (2, .int a3), (3, .ref a4)]) hx hb dL_areBest_21 hl (by decide) rfl (fun ls hl => ?_)
    refine lv_iconst (v := (0 : Int32)) hx hb dL_areBest_23 (by decide) ?_
    refine lv_istore (lv' := [(6, .int (0 : Int32)), (5, .int (0 : Int32)), (4, .ref q1), (0, .ref a1), (1, .ref a2), (2, .int a3), (3, .ref a4)]) hx hb dL_areBest_24 hl (by decide) rfl (fun ls hl => ?_)
    refine W.widen (k := 1) (n := 5) (by omega) (by omega) ?_
    exact hL26 1024 q1 (0 : Int32) (0 : Int32) h2 _ _ _ hw hW hS (lv_sub hl [3, 4, 5, 6, 2, 1, 0] rfl)
  · have hw := itp c3 hw
    refine lv_iconst (v := (1 : Int32)) hx hb dL_areBest_16 (by decide) ?_
    refine lv_goto (tgt := 21) hx hb dL_areBest_17 (by decide) ?_
    refine lv_istore (lv' := [(5, .int (1 : Int32)), (4, .ref q1), (0, .ref a1), (1, .ref a2), (2, .int a3), (3, .ref a4)]) hx hb dL_areBest_21 hl (by decide) rfl (fun ls hl => ?_)
    refine lv_iconst (v := (0 : Int32)) hx hb dL_areBest_23 (by decide) ?_
    refine lv_istore (lv' := [(6, .int (0 : Int32)), (5, .int (1 : Int32)), (4, .ref q1), (0, .ref a1), (1, .ref a2), (2, .int a3), (3, .ref a4)]) hx hb dL_areBest_24 hl (by decide) rfl (fun ls hl => ?_)
    refine W.widen (k := 1) (n := 5) (by omega) (by omega) ?_
    exact hL26 1024 q1 (1 : Int32) (0 : Int32) h2 _ _ _ hw hW hS (lv_sub hl [3, 4, 5, 6, 2, 1, 0] rfl)

def g_L_isPart_L65b (ct : Nat → ClassId) (a0 : Nat) (a1 : Nat) (a2 : Nat) (a3 : Nat) (a4 : Nat) (a5 : Int32) (a6 : Int32) (a7 : Int32) (Post : Int32 → KH → Prop)  (k65 : Int32 → Int32 → KH → Prop) (x7 : Int32) (x8 : Int32) (h : KH) : Prop :=
  if x8 < (0 : Int32) then ldI h a4 (5 : Int32) (ct 0) (fun v6 => stI h a4 (5 : Int32) (ct 0) (v6 + x7) (fun h7 => frC h7 a1 (fun hc P => g_X5_part ct a0 a1 a5 a6 a7 hc P) (fun v8 h8 => if v8 = x7 then Post (1 : Int32) h8
  else Post (0 : Int32) h8)))
  else ldI h a3 (((14 : Int32) * x8) + (12 : Int32)) (ct 0) (fun v10 => if v10 = (0 : Int32) then ldI h a3 ((14 : Int32) * x8) (ct 0) (fun v12 => ldI h a3 ((14 : Int32) * x8) (ct 0) (fun v13 => if (((v12 >>> (a5 &&& 31)) &&& (v13 >>> (a6 &&& 31))) &&& (1 : Int32)) = (1 : Int32) then g_L_out ct a0 a3 a4 x8 h (fun _ h15 => k65 (x7 + (1 : Int32)) (x8 + (-1 : Int32)) h15)
  else k65 x7 (x8 + (-1 : Int32)) h))
  else k65 x7 (x8 + (-1 : Int32)) h)
def g_L_isPart_L65 (ct : Nat → ClassId) (a0 : Nat) (a1 : Nat) (a2 : Nat) (a3 : Nat) (a4 : Nat) (a5 : Int32) (a6 : Int32) (a7 : Int32) (Post : Int32 → KH → Prop)  : Nat → Int32 → Int32 → KH → Prop
  | 0 => fun _ _ _ => False
  | n + 1 => g_L_isPart_L65b ct a0 a1 a2 a3 a4 a5 a6 a7 Post  (g_L_isPart_L65 ct a0 a1 a2 a3 a4 a5 a6 a7 Post  n)
def g_L_isPart (ct : Nat → ClassId) (a0 : Nat) (a1 : Nat) (a2 : Nat) (a3 : Nat) (a4 : Nat) (a5 : Int32) (a6 : Int32) (a7 : Int32) (h : KH) (Post : Int32 → KH → Prop) : Prop :=
  if a5 = a6 then frC h a1 (fun hc P => g_X5_part ct a0 a1 a5 a6 a7 hc P) (fun v16 h16 => if v16 = (-1 : Int32) then Post (1 : Int32) h16
  else Post (0 : Int32) h16)
  else stI h a2 (((10 : Int32) + ((5 : Int32) * a5)) + a6) (ct 0) a7 (fun h2 => stI h2 a2 (((10 : Int32) + ((5 : Int32) * a6)) + a5) (ct 0) a7 (fun h3 => ldI h3 a4 (0 : Int32) (ct 0) (fun v4 => g_L_isPart_L65 ct a0 a1 a2 a3 a4 a5 a6 a7 Post  1024 (0 : Int32) (v4 - (1 : Int32)) h3)))
set_option maxRecDepth 100000 in
set_option maxHeartbeats 4000000 in
theorem cg_L_isPart (l : Launch) (D : va_G) (ct : Nat → ClassId) (a0 : Nat) (a1 : Nat) (a2 : Nat) (a3 : Nat) (a4 : Nat) (a5 : Int32) (a6 : Int32) (a7 : Int32) (h : KH) (Post : Int32 → KH → Prop) (hw : g_L_isPart ct a0 a1 a2 a3 a4 a5 a6 a7 h Post) : CK l yL_isPart cL_isPart 9 8 19 147 (some .boolean) D ct a0 [.ref a1, .ref a2, .ref a3, .ref a4, .int a5, .int a6, .int a7] vI h Post := by
  refine CK.mkI (by decide) (Nat.le_of_ble_eq_true rfl) ?_
  intro p e s m below meth c Q A X hret hW hS ls hl
  obtain ⟨B, hin, hK, hN, hZ, hA⟩ := X
  have B0 := B
  obtain ⟨hx, hb, hml, hown, hts⟩ := B0
  have hl : lv_has ls 9 [(0, .ref a1), (1, .ref a2), (2, .ref a3), (3, .ref a4), (4, .int a5), (5, .int a6), (6, .int a7)] := hl
  have hL65 : ∀ (n65 : Nat), ∀ (x7 : Int32) (x8 : Int32) (h : KH) (ls : Array Slot) (H : Heap) (locs : List Loc), g_L_isPart_L65 ct a0 a1 a2 a3 a4 a5 a6 a7 Post  n65 x7 x8 h → KW D A h H → va_S A s.heap H locs → lv_has ls 9 [(0, .ref a1), (2, .ref a3), (3, .ref a4), (4, .int a5), (5, .int a6), (6, .int a7), (7, .int x7), (8, .int x8)] → W p l e (rmF 8 19 147) s m ([.ref a1, .ref a2, .ref a3, .ref a4, .int a5, .int a6, .int a7] : List Value).toArray below meth c H locs 0 0 Q (F0 m 65 ls []) := by
    intro n65
    induction n65 with
    | zero =>
      intro x7 x8 h ls H locs hw
      exact (show False from hw).elim
    | succ n65 ih65 =>
      intro x7 x8 h ls H locs hw hW hS hl
      have hw : g_L_isPart_L65b ct a0 a1 a2 a3 a4 a5 a6 a7 Post  (g_L_isPart_L65 ct a0 a1 a2 a3 a4 a5 a6 a7 Post  n65) x7 x8 h := hw
      unfold g_L_isPart_L65b at hw
      refine lv_iload hx hb dL_isPart_65 (lv_at hl 7 rfl) ?_
      refine lv_if_lt (tgt := 126) hx hb dL_isPart_67 (by decide) (fun c5 => ?_) (fun c5 => ?_)
      · have hw := itp c5 hw
        refine lv_aload_n hx hb dL_isPart_126 rfl (lv_at hl 2 rfl) ?_
        refine lv_iconst (v := (5 : Int32)) hx hb dL_isPart_127 (by decide) ?_
        refine lv_dup2_11 hx hb dL_isPart_128 rfl rfl ?_
        obtain ⟨n6, f6, v6, e6, g6, ev6, hw⟩ := hw
        refine kw_iald hx hb hK hW 0 e6 rfl g6 ev6 dL_isPart_129 ?_
        refine lv_iload hx hb dL_isPart_130 (lv_at hl 6 rfl) ?_
        refine lv_iadd hx hb dL_isPart_132 ?_
        obtain ⟨n7, f7, e7, g7, hw⟩ := hw
        refine kw_iast hx hb hK hW hS 0 e7 rfl g7 dL_isPart_133 (fun H locs h7 eh7 hW hS => ?_)
        have hw := hw h7 eh7
        refine lv_aload_n hx hb dL_isPart_134 rfl (lv_at hl 0 rfl) ?_
        refine lv_iload hx hb dL_isPart_135 (lv_at hl 3 rfl) ?_
        refine lv_iload hx hb dL_isPart_137 (lv_at hl 4 rfl) ?_
        refine lv_iload hx hb dL_isPart_139 (lv_at hl 5 rfl) ?_
        refine kx_call (As := [.int a5, .int a6, .int a7]) (rest := []) hw (fun hc P hq => cg_X5_part l D ct a0 a1 a5 a6 a7 hc P hq) B hK hN hZ hA hW hS rfl k_X5_part q_8_23 rfl ⟨Nat.le_of_ble_eq_true rfl, Nat.le_of_ble_eq_true rfl⟩ ⟨Nat.le_of_ble_eq_true rfl, Nat.le_of_ble_eq_true rfl⟩ hl.1 rfl (Nat.le_of_ble_eq_true rfl) dL_isPart_141 (fun v8 h8 H locs hw hW hS => ?_)
        refine lv_iload hx hb dL_isPart_144 (lv_at hl 6 rfl) ?_
        refine lv_icmp_ne (tgt := 153) hx hb dL_isPart_146 (by decide) (fun c9 => ?_) (fun c9 => ?_)
        · have hw := itn c9 hw
          refine lv_iconst (v := (0 : Int32)) hx hb dL_isPart_153 (by decide) ?_
          refine W.widen (k := 19) (n := 147) (by omega) (by omega) ?_
          exact hret _ _ _ _ (0 : Int32) h8 nb0 dL_isPart_154 hw hW hS
        · have hw := itp c9 hw
          refine lv_iconst (v := (1 : Int32)) hx hb dL_isPart_149 (by decide) ?_
          refine lv_goto (tgt := 154) hx hb dL_isPart_150 (by decide) ?_
          refine W.widen (k := 19) (n := 147) (by omega) (by omega) ?_
          exact hret _ _ _ _ (1 : Int32) h8 nb1 dL_isPart_154 hw hW hS
      · have hw := itn c5 hw
        refine lv_aload_n hx hb dL_isPart_70 rfl (lv_at hl 1 rfl) ?_
        refine lv_bipush (v := (14 : Int32)) hx hb dL_isPart_71 (by decide) ?_
        refine lv_iload hx hb dL_isPart_73 (lv_at hl 7 rfl) ?_
        refine lv_imul hx hb dL_isPart_75 ?_
        refine lv_bipush (v := (12 : Int32)) hx hb dL_isPart_76 (by decide) ?_
        refine lv_iadd hx hb dL_isPart_78 ?_
        obtain ⟨n10, f10, v10, e10, g10, ev10, hw⟩ := hw
        refine kw_iald hx hb hK hW 0 e10 rfl g10 ev10 dL_isPart_79 ?_
        refine lv_if_ne (tgt := 120) hx hb dL_isPart_80 (by decide) (fun c11 => ?_) (fun c11 => ?_)
        · have hw := itn c11 hw
          refine lv_iinc (v := (x8 + (-1 : Int32))) (lv' := [(8, .int (x8 + (-1 : Int32))), (0, .ref a1), (2, .ref a3), (3, .ref a4), (4, .int a5), (5, .int a6), (6, .int a7), (7, .int x7)]) hx hb dL_isPart_120 hl (k := 7) rfl (congrArg (HAdd.hAdd x8) (by decide)) (by decide) rfl (fun ls hl => ?_)
          refine lv_goto (tgt := 65) hx hb dL_isPart_123 (by decide) ?_
          exact ih65 x7 (x8 + (-1 : Int32)) h _ _ _ hw hW hS (lv_sub hl [1, 2, 3, 4, 5, 6, 7, 0] rfl)
        · have hw := itp c11 hw
          refine lv_aload_n hx hb dL_isPart_83 rfl (lv_at hl 1 rfl) ?_
          refine lv_bipush (v := (14 : Int32)) hx hb dL_isPart_84 (by decide) ?_
          refine lv_iload hx hb dL_isPart_86 (lv_at hl 7 rfl) ?_
          refine lv_imul hx hb dL_isPart_88 ?_
          obtain ⟨n12, f12, v12, e12, g12, ev12, hw⟩ := hw
          refine kw_iald hx hb hK hW 0 e12 rfl g12 ev12 dL_isPart_89 ?_
          refine lv_iload hx hb dL_isPart_90 (lv_at hl 3 rfl) ?_
          refine lv_ishr hx hb dL_isPart_92 ?_
          refine lv_aload_n hx hb dL_isPart_93 rfl (lv_at hl 1 rfl) ?_
          refine lv_bipush (v := (14 : Int32)) hx hb dL_isPart_94 (by decide) ?_
          refine lv_iload hx hb dL_isPart_96 (lv_at hl 7 rfl) ?_
          refine lv_imul hx hb dL_isPart_98 ?_
          obtain ⟨n13, f13, v13, e13, g13, ev13, hw⟩ := hw
          refine kw_iald hx hb hK hW 0 e13 rfl g13 ev13 dL_isPart_99 ?_
          refine lv_iload hx hb dL_isPart_100 (lv_at hl 4 rfl) ?_
          refine lv_ishr hx hb dL_isPart_102 ?_
          refine lv_iand hx hb dL_isPart_103 ?_
          refine lv_iconst (v := (1 : Int32)) hx hb dL_isPart_104 (by decide) ?_
          refine lv_iand hx hb dL_isPart_105 ?_
          refine lv_iconst (v := (1 : Int32)) hx hb dL_isPart_106 (by decide) ?_
          refine lv_icmp_ne (tgt := 120) hx hb dL_isPart_107 (by decide) (fun c14 => ?_) (fun c14 => ?_)
          · have hw := itn c14 hw
            refine lv_iinc (v := (x8 + (-1 : Int32))) (lv' := [(8, .int (x8 + (-1 : Int32))), (0, .ref a1), (2, .ref a3), (3, .ref a4), (4, .int a5), (5, .int a6), (6, .int a7), (7, .int x7)]) hx hb dL_isPart_120 hl (k := 7) rfl (congrArg (HAdd.hAdd x8) (by decide)) (by decide) rfl (fun ls hl => ?_)
            refine lv_goto (tgt := 65) hx hb dL_isPart_123 (by decide) ?_
            exact ih65 x7 (x8 + (-1 : Int32)) h _ _ _ hw hW hS (lv_sub hl [1, 2, 3, 4, 5, 6, 7, 0] rfl)
          · have hw := itp c14 hw
            refine lv_aload_n hx hb dL_isPart_110 rfl (lv_at hl 1 rfl) ?_
            refine lv_aload_n hx hb dL_isPart_111 rfl (lv_at hl 2 rfl) ?_
            refine lv_iload hx hb dL_isPart_112 (lv_at hl 7 rfl) ?_
            refine ks_call (As := [.ref a3, .ref a4, .int x8]) (rest := []) (cg_L_out l D ct a0 a3 a4 x8 h _ hw) B hK hN hZ hA hW hS k_L_out q_9_19 rfl ⟨Nat.le_of_ble_eq_true rfl, Nat.le_of_ble_eq_true rfl⟩ ⟨Nat.le_of_ble_eq_true rfl, Nat.le_of_ble_eq_true rfl⟩ hl.1 rfl (Nat.le_of_ble_eq_true rfl) dL_isPart_114 (fun v15 h15 H locs hw hW hS => ?_)
            refine lv_iinc (v := (x7 + (1 : Int32))) (lv' := [(7, .int (x7 + (1 : Int32))), (0, .ref a1), (2, .ref a3), (3, .ref a4), (4, .int a5), (5, .int a6), (6, .int a7), (8, .int x8)]) hx hb dL_isPart_117 hl (k := 6) rfl (congrArg (HAdd.hAdd x7) (by decide)) (by decide) rfl (fun ls hl => ?_)
            refine lv_iinc (v := (x8 + (-1 : Int32))) (lv' := [(8, .int (x8 + (-1 : Int32))), (7, .int (x7 + (1 : Int32))), (0, .ref a1), (2, .ref a3), (3, .ref a4), (4, .int a5), (5, .int a6), (6, .int a7)]) hx hb dL_isPart_120 hl (k := 7) rfl (congrArg (HAdd.hAdd x8) (by decide)) (by decide) rfl (fun ls hl => ?_)
            refine lv_goto (tgt := 65) hx hb dL_isPart_123 (by decide) ?_
            refine W.widen (k := 0) (n := 0) (by omega) (by omega) ?_
            exact ih65 (x7 + (1 : Int32)) (x8 + (-1 : Int32)) h15 _ _ _ hw hW hS (lv_sub hl [2, 3, 4, 5, 6, 7, 1, 0] rfl)
  unfold g_L_isPart at hw
  refine lv_iload hx hb dL_isPart_0 (lv_at hl 4 rfl) ?_
  refine lv_iload hx hb dL_isPart_2 (lv_at hl 5 rfl) ?_
  refine lv_icmp_ne (tgt := 27) hx hb dL_isPart_4 (by decide) (fun c1 => ?_) (fun c1 => ?_)
  · have hw := itn c1 hw
    refine lv_aload_n hx hb dL_isPart_27 rfl (lv_at hl 1 rfl) ?_
    refine lv_bipush (v := (10 : Int32)) hx hb dL_isPart_28 (by decide) ?_
    refine lv_iconst (v := (5 : Int32)) hx hb dL_isPart_30 (by decide) ?_
    refine lv_iload hx hb dL_isPart_31 (lv_at hl 4 rfl) ?_
    refine lv_imul hx hb dL_isPart_33 ?_
    refine lv_iadd hx hb dL_isPart_34 ?_
    refine lv_iload hx hb dL_isPart_35 (lv_at hl 5 rfl) ?_
    refine lv_iadd hx hb dL_isPart_37 ?_
    refine lv_iload hx hb dL_isPart_38 (lv_at hl 6 rfl) ?_
    obtain ⟨n2, f2, e2, g2, hw⟩ := hw
    refine kw_iast hx hb hK hW hS 0 e2 rfl g2 dL_isPart_40 (fun H locs h2 eh2 hW hS => ?_)
    have hw := hw h2 eh2
    refine lv_aload_n hx hb dL_isPart_41 rfl (lv_at hl 1 rfl) ?_
    refine lv_bipush (v := (10 : Int32)) hx hb dL_isPart_42 (by decide) ?_
    refine lv_iconst (v := (5 : Int32)) hx hb dL_isPart_44 (by decide) ?_
    refine lv_iload hx hb dL_isPart_45 (lv_at hl 5 rfl) ?_
    refine lv_imul hx hb dL_isPart_47 ?_
    refine lv_iadd hx hb dL_isPart_48 ?_
    refine lv_iload hx hb dL_isPart_49 (lv_at hl 4 rfl) ?_
    refine lv_iadd hx hb dL_isPart_51 ?_
    refine lv_iload hx hb dL_isPart_52 (lv_at hl 6 rfl) ?_
    obtain ⟨n3, f3, e3, g3, hw⟩ := hw
    refine kw_iast hx hb hK hW hS 0 e3 rfl g3 dL_isPart_54 (fun H locs h3 eh3 hW hS => ?_)
    have hw := hw h3 eh3
    refine lv_iconst (v := (0 : Int32)) hx hb dL_isPart_55 (by decide) ?_
    refine lv_istore (lv' := [(7, .int (0 : Int32)), (0, .ref a1), (1, .ref a2), (2, .ref a3), (3, .ref a4), (4, .int a5), (5, .int a6), (6, .int a7)]) hx hb dL_isPart_56 hl (by decide) rfl (fun ls hl => ?_)
    refine lv_aload_n hx hb dL_isPart_58 rfl (lv_at hl 4 rfl) ?_
    refine lv_iconst (v := (0 : Int32)) hx hb dL_isPart_59 (by decide) ?_
    obtain ⟨n4, f4, v4, e4, g4, ev4, hw⟩ := hw
    refine kw_iald hx hb hK hW 0 e4 rfl g4 ev4 dL_isPart_60 ?_
    refine lv_iconst (v := (1 : Int32)) hx hb dL_isPart_61 (by decide) ?_
    refine lv_isub hx hb dL_isPart_62 ?_
    refine lv_istore (lv' := [(8, .int (v4 - (1 : Int32))), (7, .int (0 : Int32)), (0, .ref a1), (1, .ref a2), (2, .ref a3), (3, .ref a4), (4, .int a5), (5, .int a6), (6, .int a7)]) hx hb dL_isPart_63 hl (by decide) rfl (fun ls hl => ?_)
    exact hL65 1024 (0 : Int32) (v4 - (1 : Int32)) h3 _ _ _ hw hW hS (lv_sub hl [2, 4, 5, 6, 7, 8, 1, 0] rfl)
  · have hw := itp c1 hw
    refine lv_aload_n hx hb dL_isPart_7 rfl (lv_at hl 0 rfl) ?_
    refine lv_iload hx hb dL_isPart_8 (lv_at hl 4 rfl) ?_
    refine lv_iload hx hb dL_isPart_10 (lv_at hl 5 rfl) ?_
    refine lv_iload hx hb dL_isPart_12 (lv_at hl 6 rfl) ?_
    refine kx_call (As := [.int a5, .int a6, .int a7]) (rest := []) hw (fun hc P hq => cg_X5_part l D ct a0 a1 a5 a6 a7 hc P hq) B hK hN hZ hA hW hS rfl k_X5_part q_8_23 rfl ⟨Nat.le_of_ble_eq_true rfl, Nat.le_of_ble_eq_true rfl⟩ ⟨Nat.le_of_ble_eq_true rfl, Nat.le_of_ble_eq_true rfl⟩ hl.1 rfl (Nat.le_of_ble_eq_true rfl) dL_isPart_14 (fun v16 h16 H locs hw hW hS => ?_)
    refine lv_iconst (v := (-1 : Int32)) hx hb dL_isPart_17 (by decide) ?_
    refine lv_icmp_ne (tgt := 25) hx hb dL_isPart_18 (by decide) (fun c17 => ?_) (fun c17 => ?_)
    · have hw := itn c17 hw
      refine lv_iconst (v := (0 : Int32)) hx hb dL_isPart_25 (by decide) ?_
      refine W.widen (k := 19) (n := 147) (by omega) (by omega) ?_
      exact hret _ _ _ _ (0 : Int32) h16 nb0 dL_isPart_26 hw hW hS
    · have hw := itp c17 hw
      refine lv_iconst (v := (1 : Int32)) hx hb dL_isPart_21 (by decide) ?_
      refine lv_goto (tgt := 26) hx hb dL_isPart_22 (by decide) ?_
      refine W.widen (k := 19) (n := 147) (by omega) (by omega) ?_
      exact hret _ _ _ _ (1 : Int32) h16 nb1 dL_isPart_26 hw hW hS

def g_L_isPinned (ct : Nat → ClassId) (a0 : Nat) (a1 : Nat) (a2 : Nat) (a3 : Nat) (a4 : Nat) (a5 : Int32) (h : KH) (Post : Int32 → KH → Prop) : Prop :=
  g_L_place ct a0 a3 a4 a5 h (fun v1 h1 => if (0 : Int32) ≤ v1 then ldI h1 a3 (((14 : Int32) * v1) + (12 : Int32)) (ct 0) (fun v3 => stI h1 a3 (((14 : Int32) * v1) + (12 : Int32)) (ct 0) ((1 : Int32) - v3) (fun h4 => ldI h4 a3 (((14 : Int32) * v1) + (12 : Int32)) (ct 0) (fun v5 => if v5 = (0 : Int32) then g_L_thrown ct a0 a2 a3 a4 h4 (fun v10 h10 => frC h10 a1 (fun hc P => g_X5_pin ct a0 a1 a5 hc P) (fun v11 h11 => if v11 = v5 then if v10 < (0 : Int32) then Post (0 : Int32) h11
  else Post (1 : Int32) h11
  else Post (0 : Int32) h11))
  else frC h4 a1 (fun hc P => g_X5_pin ct a0 a1 a5 hc P) (fun v7 h7 => if v7 = v5 then if (0 : Int32) < (0 : Int32) then Post (0 : Int32) h7
  else Post (1 : Int32) h7
  else Post (0 : Int32) h7))))
  else frC h1 a1 (fun hc P => g_X5_pin ct a0 a1 a5 hc P) (fun v14 h14 => if v14 = (-2 : Int32) then Post (1 : Int32) h14
  else Post (0 : Int32) h14))
set_option maxRecDepth 100000 in
set_option maxHeartbeats 4000000 in
theorem cg_L_isPinned (l : Launch) (D : va_G) (ct : Nat → ClassId) (a0 : Nat) (a1 : Nat) (a2 : Nat) (a3 : Nat) (a4 : Nat) (a5 : Int32) (h : KH) (Post : Int32 → KH → Prop) (hw : g_L_isPinned ct a0 a1 a2 a3 a4 a5 h Post) : CK l yL_isPinned cL_isPinned 8 8 20 152 (some .boolean) D ct a0 [.ref a1, .ref a2, .ref a3, .ref a4, .int a5] vI h Post := by
  refine CK.mkI (by decide) (Nat.le_of_ble_eq_true rfl) ?_
  intro p e s m below meth c Q A X hret hW hS ls hl
  obtain ⟨B, hin, hK, hN, hZ, hA⟩ := X
  have B0 := B
  obtain ⟨hx, hb, hml, hown, hts⟩ := B0
  have hl : lv_has ls 8 [(0, .ref a1), (1, .ref a2), (2, .ref a3), (3, .ref a4), (4, .int a5)] := hl
  unfold g_L_isPinned at hw
  refine lv_aload_n hx hb dL_isPinned_0 rfl (lv_at hl 2 rfl) ?_
  refine lv_aload_n hx hb dL_isPinned_1 rfl (lv_at hl 3 rfl) ?_
  refine lv_iload hx hb dL_isPinned_2 (lv_at hl 4 rfl) ?_
  refine ks_call (As := [.ref a3, .ref a4, .int a5]) (rest := []) (cg_L_place l D ct a0 a3 a4 a5 h _ hw) B hK hN hZ hA hW hS k_L_place q_11_5 rfl ⟨Nat.le_of_ble_eq_true rfl, Nat.le_of_ble_eq_true rfl⟩ ⟨Nat.le_of_ble_eq_true rfl, Nat.le_of_ble_eq_true rfl⟩ hl.1 rfl (Nat.le_of_ble_eq_true rfl) dL_isPinned_4 (fun v1 h1 H locs hw hW hS => ?_)
  refine lv_istore (lv' := [(5, .int v1), (0, .ref a1), (1, .ref a2), (2, .ref a3), (3, .ref a4), (4, .int a5)]) hx hb dL_isPinned_7 hl (by decide) rfl (fun ls hl => ?_)
  refine lv_iload hx hb dL_isPinned_9 (lv_at hl 0 rfl) ?_
  refine lv_if_ge (tgt := 31) hx hb dL_isPinned_11 (by decide) (fun c2 => ?_) (fun c2 => ?_)
  · have hw := itp c2 hw
    refine lv_aload_n hx hb dL_isPinned_31 rfl (lv_at hl 3 rfl) ?_
    refine lv_bipush (v := (14 : Int32)) hx hb dL_isPinned_32 (by decide) ?_
    refine lv_iload hx hb dL_isPinned_34 (lv_at hl 0 rfl) ?_
    refine lv_imul hx hb dL_isPinned_36 ?_
    refine lv_bipush (v := (12 : Int32)) hx hb dL_isPinned_37 (by decide) ?_
    refine lv_iadd hx hb dL_isPinned_39 ?_
    refine lv_iconst (v := (1 : Int32)) hx hb dL_isPinned_40 (by decide) ?_
    refine lv_aload_n hx hb dL_isPinned_41 rfl (lv_at hl 3 rfl) ?_
    refine lv_bipush (v := (14 : Int32)) hx hb dL_isPinned_42 (by decide) ?_
    refine lv_iload hx hb dL_isPinned_44 (lv_at hl 0 rfl) ?_
    refine lv_imul hx hb dL_isPinned_46 ?_
    refine lv_bipush (v := (12 : Int32)) hx hb dL_isPinned_47 (by decide) ?_
    refine lv_iadd hx hb dL_isPinned_49 ?_
    obtain ⟨n3, f3, v3, e3, g3, ev3, hw⟩ := hw
    refine kw_iald hx hb hK hW 0 e3 rfl g3 ev3 dL_isPinned_50 ?_
    refine lv_isub hx hb dL_isPinned_51 ?_
    obtain ⟨n4, f4, e4, g4, hw⟩ := hw
    refine kw_iast hx hb hK hW hS 0 e4 rfl g4 dL_isPinned_52 (fun H locs h4 eh4 hW hS => ?_)
    have hw := hw h4 eh4
    refine lv_aload_n hx hb dL_isPinned_53 rfl (lv_at hl 3 rfl) ?_
    refine lv_bipush (v := (14 : Int32)) hx hb dL_isPinned_54 (by decide) ?_
    refine lv_iload hx hb dL_isPinned_56 (lv_at hl 0 rfl) ?_
    refine lv_imul hx hb dL_isPinned_58 ?_
    refine lv_bipush (v := (12 : Int32)) hx hb dL_isPinned_59 (by decide) ?_
    refine lv_iadd hx hb dL_isPinned_61 ?_
    obtain ⟨n5, f5, v5, e5, g5, ev5, hw⟩ := hw
    refine kw_iald hx hb hK hW 0 e5 rfl g5 ev5 dL_isPinned_62 ?_
    refine lv_istore (lv' := [(6, .int v5), (5, .int v1), (0, .ref a1), (1, .ref a2), (2, .ref a3), (3, .ref a4), (4, .int a5)]) hx hb dL_isPinned_63 hl (by decide) rfl (fun ls hl => ?_)
    refine lv_iload hx hb dL_isPinned_65 (lv_at hl 0 rfl) ?_
    refine lv_if_ne (tgt := 79) hx hb dL_isPinned_67 (by decide) (fun c6 => ?_) (fun c6 => ?_)
    · have hw := itn c6 hw
      refine lv_iconst (v := (0 : Int32)) hx hb dL_isPinned_79 (by decide) ?_
      refine lv_istore (lv' := [(7, .int (0 : Int32)), (6, .int v5), (5, .int v1), (0, .ref a1), (1, .ref a2), (2, .ref a3), (3, .ref a4), (4, .int a5)]) hx hb dL_isPinned_80 hl (by decide) rfl (fun ls hl => ?_)
      refine lv_aload_n hx hb dL_isPinned_82 rfl (lv_at hl 3 rfl) ?_
      refine lv_iload hx hb dL_isPinned_83 (lv_at hl 7 rfl) ?_
      refine kx_call (As := [.int a5]) (rest := []) hw (fun hc P hq => cg_X5_pin l D ct a0 a1 a5 hc P hq) B hK hN hZ hA hW hS rfl k_X5_pin q_16_20 rfl ⟨Nat.le_of_ble_eq_true rfl, Nat.le_of_ble_eq_true rfl⟩ ⟨Nat.le_of_ble_eq_true rfl, Nat.le_of_ble_eq_true rfl⟩ hl.1 rfl (Nat.le_of_ble_eq_true rfl) dL_isPinned_85 (fun v7 h7 H locs hw hW hS => ?_)
      refine lv_iload hx hb dL_isPinned_88 (lv_at hl 1 rfl) ?_
      refine lv_icmp_ne (tgt := 102) hx hb dL_isPinned_90 (by decide) (fun c8 => ?_) (fun c8 => ?_)
      · have hw := itn c8 hw
        refine lv_iconst (v := (0 : Int32)) hx hb dL_isPinned_102 (by decide) ?_
        refine W.widen (k := 20) (n := 152) (by omega) (by omega) ?_
        exact hret _ _ _ _ (0 : Int32) h7 nb0 dL_isPinned_103 hw hW hS
      · have hw := itp c8 hw
        refine lv_iload hx hb dL_isPinned_93 (lv_at hl 0 rfl) ?_
        refine lv_if_lt (tgt := 102) hx hb dL_isPinned_95 (by decide) (fun c9 => ?_) (fun c9 => ?_)
        · have hw := itp c9 hw
          refine lv_iconst (v := (0 : Int32)) hx hb dL_isPinned_102 (by decide) ?_
          refine W.widen (k := 20) (n := 152) (by omega) (by omega) ?_
          exact hret _ _ _ _ (0 : Int32) h7 nb0 dL_isPinned_103 hw hW hS
        · have hw := itn c9 hw
          refine lv_iconst (v := (1 : Int32)) hx hb dL_isPinned_98 (by decide) ?_
          refine lv_goto (tgt := 103) hx hb dL_isPinned_99 (by decide) ?_
          refine W.widen (k := 20) (n := 152) (by omega) (by omega) ?_
          exact hret _ _ _ _ (1 : Int32) h7 nb1 dL_isPinned_103 hw hW hS
    · have hw := itp c6 hw
      refine lv_aload_n hx hb dL_isPinned_70 rfl (lv_at hl 3 rfl) ?_
      refine lv_aload_n hx hb dL_isPinned_71 rfl (lv_at hl 4 rfl) ?_
      refine lv_aload_n hx hb dL_isPinned_72 rfl (lv_at hl 5 rfl) ?_
      refine ks_call (As := [.ref a2, .ref a3, .ref a4]) (rest := []) (cg_L_thrown l D ct a0 a2 a3 a4 h4 _ hw) B hK hN hZ hA hW hS k_L_thrown q_9_22 rfl ⟨Nat.le_of_ble_eq_true rfl, Nat.le_of_ble_eq_true rfl⟩ ⟨Nat.le_of_ble_eq_true rfl, Nat.le_of_ble_eq_true rfl⟩ hl.1 rfl (Nat.le_of_ble_eq_true rfl) dL_isPinned_73 (fun v10 h10 H locs hw hW hS => ?_)
      refine lv_goto (tgt := 80) hx hb dL_isPinned_76 (by decide) ?_
      refine lv_istore (lv' := [(7, .int v10), (6, .int v5), (5, .int v1), (0, .ref a1), (1, .ref a2), (2, .ref a3), (3, .ref a4), (4, .int a5)]) hx hb dL_isPinned_80 hl (by decide) rfl (fun ls hl => ?_)
      refine lv_aload_n hx hb dL_isPinned_82 rfl (lv_at hl 3 rfl) ?_
      refine lv_iload hx hb dL_isPinned_83 (lv_at hl 7 rfl) ?_
      refine kx_call (As := [.int a5]) (rest := []) hw (fun hc P hq => cg_X5_pin l D ct a0 a1 a5 hc P hq) B hK hN hZ hA hW hS rfl k_X5_pin q_16_20 rfl ⟨Nat.le_of_ble_eq_true rfl, Nat.le_of_ble_eq_true rfl⟩ ⟨Nat.le_of_ble_eq_true rfl, Nat.le_of_ble_eq_true rfl⟩ hl.1 rfl (Nat.le_of_ble_eq_true rfl) dL_isPinned_85 (fun v11 h11 H locs hw hW hS => ?_)
      refine lv_iload hx hb dL_isPinned_88 (lv_at hl 1 rfl) ?_
      refine lv_icmp_ne (tgt := 102) hx hb dL_isPinned_90 (by decide) (fun c12 => ?_) (fun c12 => ?_)
      · have hw := itn c12 hw
        refine lv_iconst (v := (0 : Int32)) hx hb dL_isPinned_102 (by decide) ?_
        refine W.widen (k := 20) (n := 152) (by omega) (by omega) ?_
        exact hret _ _ _ _ (0 : Int32) h11 nb0 dL_isPinned_103 hw hW hS
      · have hw := itp c12 hw
        refine lv_iload hx hb dL_isPinned_93 (lv_at hl 0 rfl) ?_
        refine lv_if_lt (tgt := 102) hx hb dL_isPinned_95 (by decide) (fun c13 => ?_) (fun c13 => ?_)
        · have hw := itp c13 hw
          refine lv_iconst (v := (0 : Int32)) hx hb dL_isPinned_102 (by decide) ?_
          refine W.widen (k := 20) (n := 152) (by omega) (by omega) ?_
          exact hret _ _ _ _ (0 : Int32) h11 nb0 dL_isPinned_103 hw hW hS
        · have hw := itn c13 hw
          refine lv_iconst (v := (1 : Int32)) hx hb dL_isPinned_98 (by decide) ?_
          refine lv_goto (tgt := 103) hx hb dL_isPinned_99 (by decide) ?_
          refine W.widen (k := 20) (n := 152) (by omega) (by omega) ?_
          exact hret _ _ _ _ (1 : Int32) h11 nb1 dL_isPinned_103 hw hW hS
  · have hw := itn c2 hw
    refine lv_aload_n hx hb dL_isPinned_14 rfl (lv_at hl 1 rfl) ?_
    refine lv_iload hx hb dL_isPinned_15 (lv_at hl 5 rfl) ?_
    refine kx_call (As := [.int a5]) (rest := []) hw (fun hc P hq => cg_X5_pin l D ct a0 a1 a5 hc P hq) B hK hN hZ hA hW hS rfl k_X5_pin q_16_20 rfl ⟨Nat.le_of_ble_eq_true rfl, Nat.le_of_ble_eq_true rfl⟩ ⟨Nat.le_of_ble_eq_true rfl, Nat.le_of_ble_eq_true rfl⟩ hl.1 rfl (Nat.le_of_ble_eq_true rfl) dL_isPinned_17 (fun v14 h14 H locs hw hW hS => ?_)
    refine lv_bipush (v := (-2 : Int32)) hx hb dL_isPinned_20 (by decide) ?_
    refine lv_icmp_ne (tgt := 29) hx hb dL_isPinned_22 (by decide) (fun c15 => ?_) (fun c15 => ?_)
    · have hw := itn c15 hw
      refine lv_iconst (v := (0 : Int32)) hx hb dL_isPinned_29 (by decide) ?_
      refine W.widen (k := 20) (n := 152) (by omega) (by omega) ?_
      exact hret _ _ _ _ (0 : Int32) h14 nb0 dL_isPinned_30 hw hW hS
    · have hw := itp c15 hw
      refine lv_iconst (v := (1 : Int32)) hx hb dL_isPinned_25 (by decide) ?_
      refine lv_goto (tgt := 30) hx hb dL_isPinned_26 (by decide) ?_
      refine W.widen (k := 20) (n := 152) (by omega) (by omega) ?_
      exact hret _ _ _ _ (1 : Int32) h14 nb1 dL_isPinned_30 hw hW hS

def g_L_isActed_J353 (ct : Nat → ClassId) (a0 : Nat) (a1 : Nat) (a2 : Nat) (a3 : Nat) (a4 : Nat) (a5 : Nat) (a6 : Nat) (a7 : Int32) (a8 : Int32) (Post : Int32 → KH → Prop)  (x9 : Int32) (x10 : Int32) (t0 : Int32) (h : KH) : Prop :=
  if x10 < (0 : Int32) then frC h a1 (fun hc P => g_X5_forget ct a0 a1 x9 hc P) (fun v18 h18 => if v18 = t0 then Post (1 : Int32) h18
  else Post (0 : Int32) h18)
  else g_L_out ct a0 a3 a4 x10 h (fun _ h20 => ldI h20 a4 (6 : Int32) (ct 0) (fun v21 => stI h20 a4 (6 : Int32) (ct 0) (v21 + (1 : Int32)) (fun h22 => frC h22 a1 (fun hc P => g_X5_forget ct a0 a1 x9 hc P) (fun v23 h23 => if v23 = t0 then Post (1 : Int32) h23
  else Post (0 : Int32) h23))))
def g_L_isActed_J322 (ct : Nat → ClassId) (a0 : Nat) (a1 : Nat) (a2 : Nat) (a3 : Nat) (a4 : Nat) (a5 : Nat) (a6 : Nat) (a7 : Int32) (a8 : Int32) (Post : Int32 → KH → Prop)  (t0 : Int32) (h : KH) : Prop :=
  g_L_place ct a0 a3 a4 t0 h (fun v14 h14 => if (0 : Int32) ≤ v14 then ldI h14 a3 (((14 : Int32) * v14) + (11 : Int32)) (ct 0) (fun v16 => g_L_isActed_J353 ct a0 a1 a2 a3 a4 a5 a6 a7 a8 Post  t0 v14 v16 h14)
  else g_L_isActed_J353 ct a0 a1 a2 a3 a4 a5 a6 a7 a8 Post  t0 v14 (-2 : Int32) h14)
def g_L_isActed_J206 (ct : Nat → ClassId) (a0 : Nat) (a1 : Nat) (a2 : Nat) (a3 : Nat) (a4 : Nat) (a5 : Nat) (a6 : Nat) (a7 : Int32) (a8 : Int32) (Post : Int32 → KH → Prop)  (t0 : Int32) (h : KH) : Prop :=
  g_L_run ct a0 a2 a3 a4 a5 a6 t0 h (fun v42 h42 => frC h42 a1 (fun hc P => g_X5_run ct a0 a1 t0 hc P) (fun v43 h43 => g_L_cut ct a0 v42 h43 (fun v44 h44 => if v43 = v44 then Post (1 : Int32) h44
  else Post (0 : Int32) h44)))
def g_L_isActed_J48 (ct : Nat → ClassId) (a0 : Nat) (a1 : Nat) (a2 : Nat) (a3 : Nat) (a4 : Nat) (a5 : Nat) (a6 : Nat) (a7 : Int32) (a8 : Int32) (Post : Int32 → KH → Prop)  (t0 : Int32) (h : KH) : Prop :=
  ldI h a2 (a8 - ((a8 / (5 : Int32)) * (5 : Int32))) (ct 0) (fun v59 => stI h a2 (a8 - ((a8 / (5 : Int32)) * (5 : Int32))) (ct 0) t0 (fun h60 => frC h60 a1 (fun hc P => g_X5_rows ct a0 a1 (a8 - ((a8 / (5 : Int32)) * (5 : Int32))) t0 hc P) (fun v61 h61 => if v61 = v59 then Post (1 : Int32) h61
  else Post (0 : Int32) h61)))
def g_L_isActed (ct : Nat → ClassId) (a0 : Nat) (a1 : Nat) (a2 : Nat) (a3 : Nat) (a4 : Nat) (a5 : Nat) (a6 : Nat) (a7 : Int32) (a8 : Int32) (h : KH) (Post : Int32 → KH → Prop) : Prop :=
  if (4 : Int32) ≤ a7 then if (6 : Int32) ≤ a7 then if a7 = (6 : Int32) then ldI h a2 (a8 - ((a8 / (5 : Int32)) * (5 : Int32))) (ct 0) (fun v51 => stI h a2 ((5 : Int32) + (a8 - ((a8 / (5 : Int32)) * (5 : Int32)))) (ct 0) v51 (fun h52 => g_L_thrown ct a0 a2 a3 a4 h52 (fun v53 h53 => frC h53 a1 (fun hc P => g_X5_count ct a0 a1 (a8 - ((a8 / (5 : Int32)) * (5 : Int32))) hc P) (fun v54 h54 => if v54 = v53 then Post (1 : Int32) h54
  else Post (0 : Int32) h54))))
  else if (12 : Int32) ≤ a7 then if (14 : Int32) ≤ a7 then if a7 = (14 : Int32) then ldI h a4 (0 : Int32) (ct 0) (fun v12 => if v12 ≤ (0 : Int32) then g_L_isActed_J322 ct a0 a1 a2 a3 a4 a5 a6 a7 a8 Post  ((1 : Int32) + (a8 - ((a8 / (31 : Int32)) * (31 : Int32)))) h
  else if (a8 - ((a8 / (4 : Int32)) * (4 : Int32))) ≤ (0 : Int32) then g_L_isActed_J322 ct a0 a1 a2 a3 a4 a5 a6 a7 a8 Post  ((1 : Int32) + (a8 - ((a8 / (31 : Int32)) * (31 : Int32)))) h
  else ldI h a4 (0 : Int32) (ct 0) (fun v26 => (¬ v26 = 0 ∧ (ldI h a3 ((14 : Int32) * (a8 - ((a8 / v26) * v26))) (ct 0) (fun v28 => g_L_isActed_J322 ct a0 a1 a2 a3 a4 a5 a6 a7 a8 Post  v28 h)))))
  else stI h a2 (35 : Int32) (ct 0) ((100 : Int32) + (a8 - ((a8 / (901 : Int32)) * (901 : Int32)))) (fun h7 => g_L_thrown ct a0 a2 a3 a4 h7 (fun v8 h8 => ldI h8 a2 (35 : Int32) (ct 0) (fun v9 => frC h8 a1 (fun hc P => g_X5_drift ct a0 a1 v9 hc P) (fun v10 h10 => if v10 = v8 then Post (1 : Int32) h10
  else Post (0 : Int32) h10))))
  else if (a8 - ((a8 / (3 : Int32)) * (3 : Int32))) ≤ (0 : Int32) then g_L_isPinned ct a0 a1 a2 a3 a4 ((1 : Int32) + (a8 - ((a8 / (31 : Int32)) * (31 : Int32)))) h (fun v30 h30 => (isB v30 = true ∧ Post v30 h30))
  else ldI h a4 (0 : Int32) (ct 0) (fun v32 => if v32 ≤ (0 : Int32) then g_L_isPinned ct a0 a1 a2 a3 a4 ((1 : Int32) + (a8 - ((a8 / (31 : Int32)) * (31 : Int32)))) h (fun v34 h34 => (isB v34 = true ∧ Post v34 h34))
  else ldI h a4 (0 : Int32) (ct 0) (fun v36 => (¬ v36 = 0 ∧ (ldI h a3 ((14 : Int32) * (a8 - ((a8 / v36) * v36))) (ct 0) (fun v38 => g_L_isPinned ct a0 a1 a2 a3 a4 v38 h (fun v39 h39 => (isB v39 = true ∧ Post v39 h39)))))))
  else if (9 : Int32) ≤ a7 then g_L_isActed_J206 ct a0 a1 a2 a3 a4 a5 a6 a7 a8 Post  ((1 : Int32) + (a8 - ((a8 / (31 : Int32)) * (31 : Int32)))) h
  else ldI h a4 (0 : Int32) (ct 0) (fun v46 => if v46 ≤ (0 : Int32) then g_L_isActed_J206 ct a0 a1 a2 a3 a4 a5 a6 a7 a8 Post  ((1 : Int32) + (a8 - ((a8 / (31 : Int32)) * (31 : Int32)))) h
  else ldI h a4 (0 : Int32) (ct 0) (fun v48 => (¬ v48 = 0 ∧ (ldI h a3 ((14 : Int32) * (a8 - ((a8 / v48) * v48))) (ct 0) (fun v50 => g_L_isActed_J206 ct a0 a1 a2 a3 a4 a5 a6 a7 a8 Post  v50 h)))))
  else g_L_isPart ct a0 a1 a2 a3 a4 (a8 - ((a8 / (5 : Int32)) * (5 : Int32))) ((a8 / (5 : Int32)) - (((a8 / (5 : Int32)) / (5 : Int32)) * (5 : Int32))) ((1 : Int32) + ((a8 / (25 : Int32)) - (((a8 / (25 : Int32)) / (100 : Int32)) * (100 : Int32)))) h (fun v56 h56 => (isB v56 = true ∧ Post v56 h56))
  else if ((a8 / (5 : Int32)) - (((a8 / (5 : Int32)) / (3 : Int32)) * (3 : Int32))) = (0 : Int32) then g_L_isActed_J48 ct a0 a1 a2 a3 a4 a5 a6 a7 a8 Post  ((1 : Int32) + ((a8 / (15 : Int32)) - (((a8 / (15 : Int32)) / (500 : Int32)) * (500 : Int32)))) h
  else g_L_isActed_J48 ct a0 a1 a2 a3 a4 a5 a6 a7 a8 Post  ((1 : Int32) + ((a8 / (15 : Int32)) - (((a8 / (15 : Int32)) / (30 : Int32)) * (30 : Int32)))) h
set_option maxRecDepth 100000 in
set_option maxHeartbeats 4000000 in
theorem cg_L_isActed (l : Launch) (D : va_G) (ct : Nat → ClassId) (a0 : Nat) (a1 : Nat) (a2 : Nat) (a3 : Nat) (a4 : Nat) (a5 : Nat) (a6 : Nat) (a7 : Int32) (a8 : Int32) (h : KH) (Post : Int32 → KH → Prop) (hw : g_L_isActed ct a0 a1 a2 a3 a4 a5 a6 a7 a8 h Post) : CK l yL_isActed cL_isActed 12 9 23 181 (some .boolean) D ct a0 [.ref a1, .ref a2, .ref a3, .ref a4, .ref a5, .ref a6, .int a7, .int a8] vI h Post := by
  refine CK.mkI (by decide) (Nat.le_of_ble_eq_true rfl) ?_
  intro p e s m below meth c Q A X hret hW hS ls hl
  obtain ⟨B, hin, hK, hN, hZ, hA⟩ := X
  have B0 := B
  obtain ⟨hx, hb, hml, hown, hts⟩ := B0
  have hl : lv_has ls 12 [(0, .ref a1), (1, .ref a2), (2, .ref a3), (3, .ref a4), (4, .ref a5), (5, .ref a6), (6, .int a7), (7, .int a8)] := hl
  have hJ353 : ∀ (x9 : Int32) (x10 : Int32) (t0 : Int32) (h : KH) (ls : Array Slot) (H : Heap) (locs : List Loc), g_L_isActed_J353 ct a0 a1 a2 a3 a4 a5 a6 a7 a8 Post  x9 x10 t0 h → KW D A h H → va_S A s.heap H locs → lv_has ls 12 [(0, .ref a1), (2, .ref a3), (3, .ref a4), (9, .int x9), (10, .int x10)] → W p l e (rmF 9 23 181) s m ([.ref a1, .ref a2, .ref a3, .ref a4, .ref a5, .ref a6, .int a7, .int a8] : List Value).toArray below meth c H locs 0 0 Q (F0 m 353 ls [.int t0]) := by
    intro x9 x10 t0 h ls H locs hw hW hS hl
    unfold g_L_isActed_J353 at hw
    refine lv_istore (lv' := [(11, .int t0), (0, .ref a1), (2, .ref a3), (3, .ref a4), (9, .int x9), (10, .int x10)]) hx hb dL_isActed_353 hl (by decide) rfl (fun ls hl => ?_)
    refine lv_iload hx hb dL_isActed_355 (lv_at hl 5 rfl) ?_
    refine lv_if_lt (tgt := 375) hx hb dL_isActed_357 (by decide) (fun c17 => ?_) (fun c17 => ?_)
    · have hw := itp c17 hw
      refine lv_aload_n hx hb dL_isActed_375 rfl (lv_at hl 1 rfl) ?_
      refine lv_iload hx hb dL_isActed_376 (lv_at hl 4 rfl) ?_
      refine kx_call (As := [.int x9]) (rest := []) hw (fun hc P hq => cg_X5_forget l D ct a0 a1 x9 hc P hq) B hK hN hZ hA hW hS rfl k_X5_forget q_17_10 rfl ⟨Nat.le_of_ble_eq_true rfl, Nat.le_of_ble_eq_true rfl⟩ ⟨Nat.le_of_ble_eq_true rfl, Nat.le_of_ble_eq_true rfl⟩ hl.1 rfl (Nat.le_of_ble_eq_true rfl) dL_isActed_378 (fun v18 h18 H locs hw hW hS => ?_)
      refine lv_iload hx hb dL_isActed_381 (lv_at hl 0 rfl) ?_
      refine lv_icmp_ne (tgt := 390) hx hb dL_isActed_383 (by decide) (fun c19 => ?_) (fun c19 => ?_)
      · have hw := itn c19 hw
        refine lv_iconst (v := (0 : Int32)) hx hb dL_isActed_390 (by decide) ?_
        refine W.widen (k := 23) (n := 181) (by omega) (by omega) ?_
        exact hret _ _ _ _ (0 : Int32) h18 nb0 dL_isActed_391 hw hW hS
      · have hw := itp c19 hw
        refine lv_iconst (v := (1 : Int32)) hx hb dL_isActed_386 (by decide) ?_
        refine lv_goto (tgt := 391) hx hb dL_isActed_387 (by decide) ?_
        refine W.widen (k := 23) (n := 181) (by omega) (by omega) ?_
        exact hret _ _ _ _ (1 : Int32) h18 nb1 dL_isActed_391 hw hW hS
    · have hw := itn c17 hw
      refine lv_aload_n hx hb dL_isActed_360 rfl (lv_at hl 2 rfl) ?_
      refine lv_aload_n hx hb dL_isActed_361 rfl (lv_at hl 3 rfl) ?_
      refine lv_iload hx hb dL_isActed_362 (lv_at hl 5 rfl) ?_
      refine ks_call (As := [.ref a3, .ref a4, .int x10]) (rest := []) (cg_L_out l D ct a0 a3 a4 x10 h _ hw) B hK hN hZ hA hW hS k_L_out q_9_19 rfl ⟨Nat.le_of_ble_eq_true rfl, Nat.le_of_ble_eq_true rfl⟩ ⟨Nat.le_of_ble_eq_true rfl, Nat.le_of_ble_eq_true rfl⟩ hl.1 rfl (Nat.le_of_ble_eq_true rfl) dL_isActed_364 (fun v20 h20 H locs hw hW hS => ?_)
      refine lv_aload_n hx hb dL_isActed_367 rfl (lv_at hl 3 rfl) ?_
      refine lv_bipush (v := (6 : Int32)) hx hb dL_isActed_368 (by decide) ?_
      refine lv_dup2_11 hx hb dL_isActed_370 rfl rfl ?_
      obtain ⟨n21, f21, v21, e21, g21, ev21, hw⟩ := hw
      refine kw_iald hx hb hK hW 0 e21 rfl g21 ev21 dL_isActed_371 ?_
      refine lv_iconst (v := (1 : Int32)) hx hb dL_isActed_372 (by decide) ?_
      refine lv_iadd hx hb dL_isActed_373 ?_
      obtain ⟨n22, f22, e22, g22, hw⟩ := hw
      refine kw_iast hx hb hK hW hS 0 e22 rfl g22 dL_isActed_374 (fun H locs h22 eh22 hW hS => ?_)
      have hw := hw h22 eh22
      refine lv_aload_n hx hb dL_isActed_375 rfl (lv_at hl 1 rfl) ?_
      refine lv_iload hx hb dL_isActed_376 (lv_at hl 4 rfl) ?_
      refine kx_call (As := [.int x9]) (rest := []) hw (fun hc P hq => cg_X5_forget l D ct a0 a1 x9 hc P hq) B hK hN hZ hA hW hS rfl k_X5_forget q_17_10 rfl ⟨Nat.le_of_ble_eq_true rfl, Nat.le_of_ble_eq_true rfl⟩ ⟨Nat.le_of_ble_eq_true rfl, Nat.le_of_ble_eq_true rfl⟩ hl.1 rfl (Nat.le_of_ble_eq_true rfl) dL_isActed_378 (fun v23 h23 H locs hw hW hS => ?_)
      refine lv_iload hx hb dL_isActed_381 (lv_at hl 0 rfl) ?_
      refine lv_icmp_ne (tgt := 390) hx hb dL_isActed_383 (by decide) (fun c24 => ?_) (fun c24 => ?_)
      · have hw := itn c24 hw
        refine lv_iconst (v := (0 : Int32)) hx hb dL_isActed_390 (by decide) ?_
        refine W.widen (k := 23) (n := 181) (by omega) (by omega) ?_
        exact hret _ _ _ _ (0 : Int32) h23 nb0 dL_isActed_391 hw hW hS
      · have hw := itp c24 hw
        refine lv_iconst (v := (1 : Int32)) hx hb dL_isActed_386 (by decide) ?_
        refine lv_goto (tgt := 391) hx hb dL_isActed_387 (by decide) ?_
        refine W.widen (k := 23) (n := 181) (by omega) (by omega) ?_
        exact hret _ _ _ _ (1 : Int32) h23 nb1 dL_isActed_391 hw hW hS
  have hJ322 : ∀ (t0 : Int32) (h : KH) (ls : Array Slot) (H : Heap) (locs : List Loc), g_L_isActed_J322 ct a0 a1 a2 a3 a4 a5 a6 a7 a8 Post  t0 h → KW D A h H → va_S A s.heap H locs → lv_has ls 12 [(0, .ref a1), (2, .ref a3), (3, .ref a4)] → W p l e (rmF 9 23 181) s m ([.ref a1, .ref a2, .ref a3, .ref a4, .ref a5, .ref a6, .int a7, .int a8] : List Value).toArray below meth c H locs 0 0 Q (F0 m 322 ls [.int t0]) := by
    intro t0 h ls H locs hw hW hS hl
    unfold g_L_isActed_J322 at hw
    refine lv_istore (lv' := [(9, .int t0), (0, .ref a1), (2, .ref a3), (3, .ref a4)]) hx hb dL_isActed_322 hl (by decide) rfl (fun ls hl => ?_)
    refine lv_aload_n hx hb dL_isActed_324 rfl (lv_at hl 2 rfl) ?_
    refine lv_aload_n hx hb dL_isActed_325 rfl (lv_at hl 3 rfl) ?_
    refine lv_iload hx hb dL_isActed_326 (lv_at hl 0 rfl) ?_
    refine ks_call (As := [.ref a3, .ref a4, .int t0]) (rest := []) (cg_L_place l D ct a0 a3 a4 t0 h _ hw) B hK hN hZ hA hW hS k_L_place q_11_5 rfl ⟨Nat.le_of_ble_eq_true rfl, Nat.le_of_ble_eq_true rfl⟩ ⟨Nat.le_of_ble_eq_true rfl, Nat.le_of_ble_eq_true rfl⟩ hl.1 rfl (Nat.le_of_ble_eq_true rfl) dL_isActed_328 (fun v14 h14 H locs hw hW hS => ?_)
    refine lv_istore (lv' := [(10, .int v14), (9, .int t0), (0, .ref a1), (2, .ref a3), (3, .ref a4)]) hx hb dL_isActed_331 hl (by decide) rfl (fun ls hl => ?_)
    refine lv_iload hx hb dL_isActed_333 (lv_at hl 0 rfl) ?_
    refine lv_if_ge (tgt := 343) hx hb dL_isActed_335 (by decide) (fun c15 => ?_) (fun c15 => ?_)
    · have hw := itp c15 hw
      refine lv_aload_n hx hb dL_isActed_343 rfl (lv_at hl 3 rfl) ?_
      refine lv_bipush (v := (14 : Int32)) hx hb dL_isActed_344 (by decide) ?_
      refine lv_iload hx hb dL_isActed_346 (lv_at hl 0 rfl) ?_
      refine lv_imul hx hb dL_isActed_348 ?_
      refine lv_bipush (v := (11 : Int32)) hx hb dL_isActed_349 (by decide) ?_
      refine lv_iadd hx hb dL_isActed_351 ?_
      obtain ⟨n16, f16, v16, e16, g16, ev16, hw⟩ := hw
      refine kw_iald hx hb hK hW 0 e16 rfl g16 ev16 dL_isActed_352 ?_
      refine W.widen (k := 0) (n := 0) (by omega) (by omega) ?_
      exact hJ353 t0 v14 v16 h14 _ _ _ hw hW hS (lv_sub hl [2, 3, 4, 1, 0] rfl)
    · have hw := itn c15 hw
      refine lv_bipush (v := (-2 : Int32)) hx hb dL_isActed_338 (by decide) ?_
      refine lv_goto (tgt := 353) hx hb dL_isActed_340 (by decide) ?_
      refine W.widen (k := 0) (n := 0) (by omega) (by omega) ?_
      exact hJ353 t0 v14 (-2 : Int32) h14 _ _ _ hw hW hS (lv_sub hl [2, 3, 4, 1, 0] rfl)
  have hJ206 : ∀ (t0 : Int32) (h : KH) (ls : Array Slot) (H : Heap) (locs : List Loc), g_L_isActed_J206 ct a0 a1 a2 a3 a4 a5 a6 a7 a8 Post  t0 h → KW D A h H → va_S A s.heap H locs → lv_has ls 12 [(0, .ref a1), (1, .ref a2), (2, .ref a3), (3, .ref a4), (4, .ref a5), (5, .ref a6)] → W p l e (rmF 9 23 181) s m ([.ref a1, .ref a2, .ref a3, .ref a4, .ref a5, .ref a6, .int a7, .int a8] : List Value).toArray below meth c H locs 0 0 Q (F0 m 206 ls [.int t0]) := by
    intro t0 h ls H locs hw hW hS hl
    unfold g_L_isActed_J206 at hw
    refine lv_istore (lv' := [(9, .int t0), (0, .ref a1), (1, .ref a2), (2, .ref a3), (3, .ref a4), (4, .ref a5), (5, .ref a6)]) hx hb dL_isActed_206 hl (by decide) rfl (fun ls hl => ?_)
    refine lv_aload_n hx hb dL_isActed_208 rfl (lv_at hl 2 rfl) ?_
    refine lv_aload_n hx hb dL_isActed_209 rfl (lv_at hl 3 rfl) ?_
    refine lv_aload_n hx hb dL_isActed_210 rfl (lv_at hl 4 rfl) ?_
    refine lv_aload hx hb dL_isActed_211 (lv_at hl 5 rfl) ?_
    refine lv_aload hx hb dL_isActed_213 (lv_at hl 6 rfl) ?_
    refine lv_iload hx hb dL_isActed_215 (lv_at hl 0 rfl) ?_
    refine ks_call (As := [.ref a2, .ref a3, .ref a4, .ref a5, .ref a6, .int t0]) (rest := []) (cg_L_run l D ct a0 a2 a3 a4 a5 a6 t0 h _ hw) B hK hN hZ hA hW hS k_L_run q_11_1 rfl ⟨Nat.le_of_ble_eq_true rfl, Nat.le_of_ble_eq_true rfl⟩ ⟨Nat.le_of_ble_eq_true rfl, Nat.le_of_ble_eq_true rfl⟩ hl.1 rfl (Nat.le_of_ble_eq_true rfl) dL_isActed_217 (fun v42 h42 H locs hw hW hS => ?_)
    refine lv_lstore (lv' := [(10, .long v42), (9, .int t0), (0, .ref a1), (1, .ref a2), (2, .ref a3), (3, .ref a4), (4, .ref a5), (5, .ref a6)]) hx hb dL_isActed_220 hl (by decide) rfl (fun ls hl => ?_)
    refine lv_aload_n hx hb dL_isActed_222 rfl (lv_at hl 2 rfl) ?_
    refine lv_iload hx hb dL_isActed_223 (lv_at hl 1 rfl) ?_
    refine kx_call (As := [.int t0]) (rest := []) hw (fun hc P hq => cg_X5_run l D ct a0 a1 t0 hc P hq) B hK hN hZ hA hW hS rfl k_X5_run q_12_4 rfl ⟨Nat.le_of_ble_eq_true rfl, Nat.le_of_ble_eq_true rfl⟩ ⟨Nat.le_of_ble_eq_true rfl, Nat.le_of_ble_eq_true rfl⟩ hl.1 rfl (Nat.le_of_ble_eq_true rfl) dL_isActed_225 (fun v43 h43 H locs hw hW hS => ?_)
    refine lv_lload hx hb dL_isActed_228 (lv_at hl 0 rfl) ?_
    refine ks_call (As := [.long v42]) (rest := [.int v43]) (cg_L_cut l D ct a0 v42 h43 _ hw) B hK hN hZ hA hW hS k_L_cut q_16_13 rfl ⟨Nat.le_of_ble_eq_true rfl, Nat.le_of_ble_eq_true rfl⟩ ⟨Nat.le_of_ble_eq_true rfl, Nat.le_of_ble_eq_true rfl⟩ hl.1 rfl (Nat.le_of_ble_eq_true rfl) dL_isActed_230 (fun v44 h44 H locs hw hW hS => ?_)
    refine lv_icmp_ne (tgt := 240) hx hb dL_isActed_233 (by decide) (fun c45 => ?_) (fun c45 => ?_)
    · have hw := itn c45 hw
      refine lv_iconst (v := (0 : Int32)) hx hb dL_isActed_240 (by decide) ?_
      refine W.widen (k := 23) (n := 181) (by omega) (by omega) ?_
      exact hret _ _ _ _ (0 : Int32) h44 nb0 dL_isActed_241 hw hW hS
    · have hw := itp c45 hw
      refine lv_iconst (v := (1 : Int32)) hx hb dL_isActed_236 (by decide) ?_
      refine lv_goto (tgt := 241) hx hb dL_isActed_237 (by decide) ?_
      refine W.widen (k := 23) (n := 181) (by omega) (by omega) ?_
      exact hret _ _ _ _ (1 : Int32) h44 nb1 dL_isActed_241 hw hW hS
  have hJ48 : ∀ (t0 : Int32) (h : KH) (ls : Array Slot) (H : Heap) (locs : List Loc), g_L_isActed_J48 ct a0 a1 a2 a3 a4 a5 a6 a7 a8 Post  t0 h → KW D A h H → va_S A s.heap H locs → lv_has ls 12 [(0, .ref a1), (1, .ref a2), (7, .int a8)] → W p l e (rmF 9 23 181) s m ([.ref a1, .ref a2, .ref a3, .ref a4, .ref a5, .ref a6, .int a7, .int a8] : List Value).toArray below meth c H locs 0 0 Q (F0 m 48 ls [.int t0]) := by
    intro t0 h ls H locs hw hW hS hl
    unfold g_L_isActed_J48 at hw
    refine lv_istore (lv' := [(9, .int t0), (0, .ref a1), (1, .ref a2), (7, .int a8)]) hx hb dL_isActed_48 hl (by decide) rfl (fun ls hl => ?_)
    refine lv_aload_n hx hb dL_isActed_50 rfl (lv_at hl 2 rfl) ?_
    refine lv_iload hx hb dL_isActed_51 (lv_at hl 3 rfl) ?_
    refine lv_iconst (v := (5 : Int32)) hx hb dL_isActed_53 (by decide) ?_
    refine lv_irem hx hb dL_isActed_54 (by decide) ?_
    obtain ⟨n59, f59, v59, e59, g59, ev59, hw⟩ := hw
    refine kw_iald hx hb hK hW 0 e59 rfl g59 ev59 dL_isActed_55 ?_
    refine lv_istore (lv' := [(10, .int v59), (9, .int t0), (0, .ref a1), (1, .ref a2), (7, .int a8)]) hx hb dL_isActed_56 hl (by decide) rfl (fun ls hl => ?_)
    refine lv_aload_n hx hb dL_isActed_58 rfl (lv_at hl 3 rfl) ?_
    refine lv_iload hx hb dL_isActed_59 (lv_at hl 4 rfl) ?_
    refine lv_iconst (v := (5 : Int32)) hx hb dL_isActed_61 (by decide) ?_
    refine lv_irem hx hb dL_isActed_62 (by decide) ?_
    refine lv_iload hx hb dL_isActed_63 (lv_at hl 1 rfl) ?_
    obtain ⟨n60, f60, e60, g60, hw⟩ := hw
    refine kw_iast hx hb hK hW hS 0 e60 rfl g60 dL_isActed_65 (fun H locs h60 eh60 hW hS => ?_)
    have hw := hw h60 eh60
    refine lv_aload_n hx hb dL_isActed_66 rfl (lv_at hl 2 rfl) ?_
    refine lv_iload hx hb dL_isActed_67 (lv_at hl 4 rfl) ?_
    refine lv_iconst (v := (5 : Int32)) hx hb dL_isActed_69 (by decide) ?_
    refine lv_irem hx hb dL_isActed_70 (by decide) ?_
    refine lv_iload hx hb dL_isActed_71 (lv_at hl 1 rfl) ?_
    refine kx_call (As := [.int (a8 - ((a8 / (5 : Int32)) * (5 : Int32))), .int t0]) (rest := []) hw (fun hc P hq => cg_X5_rows l D ct a0 a1 (a8 - ((a8 / (5 : Int32)) * (5 : Int32))) t0 hc P hq) B hK hN hZ hA hW hS rfl k_X5_rows q_4_7 rfl ⟨Nat.le_of_ble_eq_true rfl, Nat.le_of_ble_eq_true rfl⟩ ⟨Nat.le_of_ble_eq_true rfl, Nat.le_of_ble_eq_true rfl⟩ hl.1 rfl (Nat.le_of_ble_eq_true rfl) dL_isActed_73 (fun v61 h61 H locs hw hW hS => ?_)
    refine lv_iload hx hb dL_isActed_76 (lv_at hl 0 rfl) ?_
    refine lv_icmp_ne (tgt := 85) hx hb dL_isActed_78 (by decide) (fun c62 => ?_) (fun c62 => ?_)
    · have hw := itn c62 hw
      refine lv_iconst (v := (0 : Int32)) hx hb dL_isActed_85 (by decide) ?_
      refine W.widen (k := 23) (n := 181) (by omega) (by omega) ?_
      exact hret _ _ _ _ (0 : Int32) h61 nb0 dL_isActed_86 hw hW hS
    · have hw := itp c62 hw
      refine lv_iconst (v := (1 : Int32)) hx hb dL_isActed_81 (by decide) ?_
      refine lv_goto (tgt := 86) hx hb dL_isActed_82 (by decide) ?_
      refine W.widen (k := 23) (n := 181) (by omega) (by omega) ?_
      exact hret _ _ _ _ (1 : Int32) h61 nb1 dL_isActed_86 hw hW hS
  unfold g_L_isActed at hw
  refine lv_iconst (v := (1 : Int32)) hx hb dL_isActed_0 (by decide) ?_
  refine lv_iload hx hb dL_isActed_1 (lv_at hl 7 rfl) ?_
  refine lv_bipush (v := (31 : Int32)) hx hb dL_isActed_3 (by decide) ?_
  refine lv_irem hx hb dL_isActed_5 (by decide) ?_
  refine lv_iadd hx hb dL_isActed_6 ?_
  refine lv_istore (lv' := [(8, .int ((1 : Int32) + (a8 - ((a8 / (31 : Int32)) * (31 : Int32))))), (0, .ref a1), (1, .ref a2), (2, .ref a3), (3, .ref a4), (4, .ref a5), (5, .ref a6), (6, .int a7), (7, .int a8)]) hx hb dL_isActed_7 hl (by decide) rfl (fun ls hl => ?_)
  refine lv_iload hx hb dL_isActed_9 (lv_at hl 7 rfl) ?_
  refine lv_iconst (v := (4 : Int32)) hx hb dL_isActed_11 (by decide) ?_
  refine lv_icmp_ge (tgt := 87) hx hb dL_isActed_12 (by decide) (fun c1 => ?_) (fun c1 => ?_)
  · have hw := itp c1 hw
    refine lv_iload hx hb dL_isActed_87 (lv_at hl 7 rfl) ?_
    refine lv_bipush (v := (6 : Int32)) hx hb dL_isActed_89 (by decide) ?_
    refine lv_icmp_ge (tgt := 122) hx hb dL_isActed_91 (by decide) (fun c2 => ?_) (fun c2 => ?_)
    · have hw := itp c2 hw
      refine lv_iload hx hb dL_isActed_122 (lv_at hl 7 rfl) ?_
      refine lv_bipush (v := (6 : Int32)) hx hb dL_isActed_124 (by decide) ?_
      refine lv_icmp_ne (tgt := 170) hx hb dL_isActed_126 (by decide) (fun c3 => ?_) (fun c3 => ?_)
      · have hw := itn c3 hw
        refine lv_iload hx hb dL_isActed_170 (lv_at hl 7 rfl) ?_
        refine lv_bipush (v := (12 : Int32)) hx hb dL_isActed_172 (by decide) ?_
        refine lv_icmp_ge (tgt := 242) hx hb dL_isActed_174 (by decide) (fun c4 => ?_) (fun c4 => ?_)
        · have hw := itp c4 hw
          refine lv_iload hx hb dL_isActed_242 (lv_at hl 7 rfl) ?_
          refine lv_bipush (v := (14 : Int32)) hx hb dL_isActed_244 (by decide) ?_
          refine lv_icmp_ge (tgt := 286) hx hb dL_isActed_246 (by decide) (fun c5 => ?_) (fun c5 => ?_)
          · have hw := itp c5 hw
            refine lv_iload hx hb dL_isActed_286 (lv_at hl 7 rfl) ?_
            refine lv_bipush (v := (14 : Int32)) hx hb dL_isActed_288 (by decide) ?_
            refine lv_icmp_ne (tgt := 392) hx hb dL_isActed_290 (by decide) (fun c6 => ?_) (fun c6 => ?_)
            · have hw := itn c6 hw
              refine lv_aload_n hx hb dL_isActed_392 rfl (lv_at hl 2 rfl) ?_
              refine lv_bipush (v := (35 : Int32)) hx hb dL_isActed_393 (by decide) ?_
              refine lv_bipush (v := (100 : Int32)) hx hb dL_isActed_395 (by decide) ?_
              refine lv_iload hx hb dL_isActed_397 (lv_at hl 8 rfl) ?_
              refine lv_sipush (v := (901 : Int32)) hx hb dL_isActed_399 (by decide) ?_
              refine lv_irem hx hb dL_isActed_402 (by decide) ?_
              refine lv_iadd hx hb dL_isActed_403 ?_
              obtain ⟨n7, f7, e7, g7, hw⟩ := hw
              refine kw_iast hx hb hK hW hS 0 e7 rfl g7 dL_isActed_404 (fun H locs h7 eh7 hW hS => ?_)
              have hw := hw h7 eh7
              refine lv_aload_n hx hb dL_isActed_405 rfl (lv_at hl 2 rfl) ?_
              refine lv_aload_n hx hb dL_isActed_406 rfl (lv_at hl 3 rfl) ?_
              refine lv_aload_n hx hb dL_isActed_407 rfl (lv_at hl 4 rfl) ?_
              refine ks_call (As := [.ref a2, .ref a3, .ref a4]) (rest := []) (cg_L_thrown l D ct a0 a2 a3 a4 h7 _ hw) B hK hN hZ hA hW hS k_L_thrown q_9_22 rfl ⟨Nat.le_of_ble_eq_true rfl, Nat.le_of_ble_eq_true rfl⟩ ⟨Nat.le_of_ble_eq_true rfl, Nat.le_of_ble_eq_true rfl⟩ hl.1 rfl (Nat.le_of_ble_eq_true rfl) dL_isActed_408 (fun v8 h8 H locs hw hW hS => ?_)
              refine lv_istore (lv' := [(9, .int v8), (8, .int ((1 : Int32) + (a8 - ((a8 / (31 : Int32)) * (31 : Int32))))), (0, .ref a1), (1, .ref a2), (2, .ref a3), (3, .ref a4), (4, .ref a5), (5, .ref a6), (6, .int a7), (7, .int a8)]) hx hb dL_isActed_411 hl (by decide) rfl (fun ls hl => ?_)
              refine lv_aload_n hx hb dL_isActed_413 rfl (lv_at hl 2 rfl) ?_
              refine lv_aload_n hx hb dL_isActed_414 rfl (lv_at hl 3 rfl) ?_
              refine lv_bipush (v := (35 : Int32)) hx hb dL_isActed_415 (by decide) ?_
              obtain ⟨n9, f9, v9, e9, g9, ev9, hw⟩ := hw
              refine kw_iald hx hb hK hW 0 e9 rfl g9 ev9 dL_isActed_417 ?_
              refine kx_call (As := [.int v9]) (rest := []) hw (fun hc P hq => cg_X5_drift l D ct a0 a1 v9 hc P hq) B hK hN hZ hA hW hS rfl k_X5_drift q_17_16 rfl ⟨Nat.le_of_ble_eq_true rfl, Nat.le_of_ble_eq_true rfl⟩ ⟨Nat.le_of_ble_eq_true rfl, Nat.le_of_ble_eq_true rfl⟩ hl.1 rfl (Nat.le_of_ble_eq_true rfl) dL_isActed_418 (fun v10 h10 H locs hw hW hS => ?_)
              refine lv_iload hx hb dL_isActed_421 (lv_at hl 0 rfl) ?_
              refine lv_icmp_ne (tgt := 430) hx hb dL_isActed_423 (by decide) (fun c11 => ?_) (fun c11 => ?_)
              · have hw := itn c11 hw
                refine lv_iconst (v := (0 : Int32)) hx hb dL_isActed_430 (by decide) ?_
                refine W.widen (k := 23) (n := 181) (by omega) (by omega) ?_
                exact hret _ _ _ _ (0 : Int32) h10 nb0 dL_isActed_431 hw hW hS
              · have hw := itp c11 hw
                refine lv_iconst (v := (1 : Int32)) hx hb dL_isActed_426 (by decide) ?_
                refine lv_goto (tgt := 431) hx hb dL_isActed_427 (by decide) ?_
                refine W.widen (k := 23) (n := 181) (by omega) (by omega) ?_
                exact hret _ _ _ _ (1 : Int32) h10 nb1 dL_isActed_431 hw hW hS
            · have hw := itp c6 hw
              refine lv_aload_n hx hb dL_isActed_293 rfl (lv_at hl 4 rfl) ?_
              refine lv_iconst (v := (0 : Int32)) hx hb dL_isActed_294 (by decide) ?_
              obtain ⟨n12, f12, v12, e12, g12, ev12, hw⟩ := hw
              refine kw_iald hx hb hK hW 0 e12 rfl g12 ev12 dL_isActed_295 ?_
              refine lv_if_le (tgt := 320) hx hb dL_isActed_296 (by decide) (fun c13 => ?_) (fun c13 => ?_)
              · have hw := itp c13 hw
                refine lv_iload hx hb dL_isActed_320 (lv_at hl 0 rfl) ?_
                exact hJ322 ((1 : Int32) + (a8 - ((a8 / (31 : Int32)) * (31 : Int32)))) h _ _ _ hw hW hS (lv_sub hl [1, 3, 4] rfl)
              · have hw := itn c13 hw
                refine lv_iload hx hb dL_isActed_299 (lv_at hl 8 rfl) ?_
                refine lv_iconst (v := (4 : Int32)) hx hb dL_isActed_301 (by decide) ?_
                refine lv_irem hx hb dL_isActed_302 (by decide) ?_
                refine lv_if_le (tgt := 320) hx hb dL_isActed_303 (by decide) (fun c25 => ?_) (fun c25 => ?_)
                · have hw := itp c25 hw
                  refine lv_iload hx hb dL_isActed_320 (lv_at hl 0 rfl) ?_
                  exact hJ322 ((1 : Int32) + (a8 - ((a8 / (31 : Int32)) * (31 : Int32)))) h _ _ _ hw hW hS (lv_sub hl [1, 3, 4] rfl)
                · have hw := itn c25 hw
                  refine lv_aload_n hx hb dL_isActed_306 rfl (lv_at hl 3 rfl) ?_
                  refine lv_bipush (v := (14 : Int32)) hx hb dL_isActed_307 (by decide) ?_
                  refine lv_iload hx hb dL_isActed_309 (lv_at hl 8 rfl) ?_
                  refine lv_aload_n hx hb dL_isActed_311 rfl (lv_at hl 4 rfl) ?_
                  refine lv_iconst (v := (0 : Int32)) hx hb dL_isActed_312 (by decide) ?_
                  obtain ⟨n26, f26, v26, e26, g26, ev26, hw⟩ := hw
                  refine kw_iald hx hb hK hW 0 e26 rfl g26 ev26 dL_isActed_313 ?_
                  obtain ⟨g27, hw⟩ := hw
                  refine lv_irem hx hb dL_isActed_314 g27 ?_
                  refine lv_imul hx hb dL_isActed_315 ?_
                  obtain ⟨n28, f28, v28, e28, g28, ev28, hw⟩ := hw
                  refine kw_iald hx hb hK hW 0 e28 rfl g28 ev28 dL_isActed_316 ?_
                  refine lv_goto (tgt := 322) hx hb dL_isActed_317 (by decide) ?_
                  exact hJ322 v28 h _ _ _ hw hW hS (lv_sub hl [1, 3, 4] rfl)
          · have hw := itn c5 hw
            refine lv_aload_n hx hb dL_isActed_249 rfl (lv_at hl 1 rfl) ?_
            refine lv_aload_n hx hb dL_isActed_250 rfl (lv_at hl 2 rfl) ?_
            refine lv_aload_n hx hb dL_isActed_251 rfl (lv_at hl 3 rfl) ?_
            refine lv_aload_n hx hb dL_isActed_252 rfl (lv_at hl 4 rfl) ?_
            refine lv_iload hx hb dL_isActed_253 (lv_at hl 8 rfl) ?_
            refine lv_iconst (v := (3 : Int32)) hx hb dL_isActed_255 (by decide) ?_
            refine lv_irem hx hb dL_isActed_256 (by decide) ?_
            refine lv_if_le (tgt := 280) hx hb dL_isActed_257 (by decide) (fun c29 => ?_) (fun c29 => ?_)
            · have hw := itp c29 hw
              refine lv_iload hx hb dL_isActed_280 (lv_at hl 0 rfl) ?_
              refine ks_call (As := [.ref a1, .ref a2, .ref a3, .ref a4, .int ((1 : Int32) + (a8 - ((a8 / (31 : Int32)) * (31 : Int32))))]) (rest := []) (cg_L_isPinned l D ct a0 a1 a2 a3 a4 ((1 : Int32) + (a8 - ((a8 / (31 : Int32)) * (31 : Int32)))) h _ hw) B hK hN hZ hA hW hS k_L_isPinned q_16_17 rfl ⟨Nat.le_of_ble_eq_true rfl, Nat.le_of_ble_eq_true rfl⟩ ⟨Nat.le_of_ble_eq_true rfl, Nat.le_of_ble_eq_true rfl⟩ hl.1 rfl (Nat.le_of_ble_eq_true rfl) dL_isActed_282 (fun v30 h30 H locs hw hW hS => ?_)
              obtain ⟨g31, hw⟩ := hw
              refine W.widen (k := 23) (n := 181) (by omega) (by omega) ?_
              exact hret _ _ _ _ v30 h30 (isB_nar g31) dL_isActed_285 hw hW hS
            · have hw := itn c29 hw
              refine lv_aload_n hx hb dL_isActed_260 rfl (lv_at hl 4 rfl) ?_
              refine lv_iconst (v := (0 : Int32)) hx hb dL_isActed_261 (by decide) ?_
              obtain ⟨n32, f32, v32, e32, g32, ev32, hw⟩ := hw
              refine kw_iald hx hb hK hW 0 e32 rfl g32 ev32 dL_isActed_262 ?_
              refine lv_if_le (tgt := 280) hx hb dL_isActed_263 (by decide) (fun c33 => ?_) (fun c33 => ?_)
              · have hw := itp c33 hw
                refine lv_iload hx hb dL_isActed_280 (lv_at hl 0 rfl) ?_
                refine ks_call (As := [.ref a1, .ref a2, .ref a3, .ref a4, .int ((1 : Int32) + (a8 - ((a8 / (31 : Int32)) * (31 : Int32))))]) (rest := []) (cg_L_isPinned l D ct a0 a1 a2 a3 a4 ((1 : Int32) + (a8 - ((a8 / (31 : Int32)) * (31 : Int32)))) h _ hw) B hK hN hZ hA hW hS k_L_isPinned q_16_17 rfl ⟨Nat.le_of_ble_eq_true rfl, Nat.le_of_ble_eq_true rfl⟩ ⟨Nat.le_of_ble_eq_true rfl, Nat.le_of_ble_eq_true rfl⟩ hl.1 rfl (Nat.le_of_ble_eq_true rfl) dL_isActed_282 (fun v34 h34 H locs hw hW hS => ?_)
                obtain ⟨g35, hw⟩ := hw
                refine W.widen (k := 23) (n := 181) (by omega) (by omega) ?_
                exact hret _ _ _ _ v34 h34 (isB_nar g35) dL_isActed_285 hw hW hS
              · have hw := itn c33 hw
                refine lv_aload_n hx hb dL_isActed_266 rfl (lv_at hl 3 rfl) ?_
                refine lv_bipush (v := (14 : Int32)) hx hb dL_isActed_267 (by decide) ?_
                refine lv_iload hx hb dL_isActed_269 (lv_at hl 8 rfl) ?_
                refine lv_aload_n hx hb dL_isActed_271 rfl (lv_at hl 4 rfl) ?_
                refine lv_iconst (v := (0 : Int32)) hx hb dL_isActed_272 (by decide) ?_
                obtain ⟨n36, f36, v36, e36, g36, ev36, hw⟩ := hw
                refine kw_iald hx hb hK hW 0 e36 rfl g36 ev36 dL_isActed_273 ?_
                obtain ⟨g37, hw⟩ := hw
                refine lv_irem hx hb dL_isActed_274 g37 ?_
                refine lv_imul hx hb dL_isActed_275 ?_
                obtain ⟨n38, f38, v38, e38, g38, ev38, hw⟩ := hw
                refine kw_iald hx hb hK hW 0 e38 rfl g38 ev38 dL_isActed_276 ?_
                refine lv_goto (tgt := 282) hx hb dL_isActed_277 (by decide) ?_
                refine ks_call (As := [.ref a1, .ref a2, .ref a3, .ref a4, .int v38]) (rest := []) (cg_L_isPinned l D ct a0 a1 a2 a3 a4 v38 h _ hw) B hK hN hZ hA hW hS k_L_isPinned q_16_17 rfl ⟨Nat.le_of_ble_eq_true rfl, Nat.le_of_ble_eq_true rfl⟩ ⟨Nat.le_of_ble_eq_true rfl, Nat.le_of_ble_eq_true rfl⟩ hl.1 rfl (Nat.le_of_ble_eq_true rfl) dL_isActed_282 (fun v39 h39 H locs hw hW hS => ?_)
                obtain ⟨g40, hw⟩ := hw
                refine W.widen (k := 23) (n := 181) (by omega) (by omega) ?_
                exact hret _ _ _ _ v39 h39 (isB_nar g40) dL_isActed_285 hw hW hS
        · have hw := itn c4 hw
          refine lv_iload hx hb dL_isActed_177 (lv_at hl 7 rfl) ?_
          refine lv_bipush (v := (9 : Int32)) hx hb dL_isActed_179 (by decide) ?_
          refine lv_icmp_ge (tgt := 204) hx hb dL_isActed_181 (by decide) (fun c41 => ?_) (fun c41 => ?_)
          · have hw := itp c41 hw
            refine lv_iload hx hb dL_isActed_204 (lv_at hl 0 rfl) ?_
            exact hJ206 ((1 : Int32) + (a8 - ((a8 / (31 : Int32)) * (31 : Int32)))) h _ _ _ hw hW hS (lv_sub hl [1, 2, 3, 4, 5, 6] rfl)
          · have hw := itn c41 hw
            refine lv_aload_n hx hb dL_isActed_184 rfl (lv_at hl 4 rfl) ?_
            refine lv_iconst (v := (0 : Int32)) hx hb dL_isActed_185 (by decide) ?_
            obtain ⟨n46, f46, v46, e46, g46, ev46, hw⟩ := hw
            refine kw_iald hx hb hK hW 0 e46 rfl g46 ev46 dL_isActed_186 ?_
            refine lv_if_le (tgt := 204) hx hb dL_isActed_187 (by decide) (fun c47 => ?_) (fun c47 => ?_)
            · have hw := itp c47 hw
              refine lv_iload hx hb dL_isActed_204 (lv_at hl 0 rfl) ?_
              exact hJ206 ((1 : Int32) + (a8 - ((a8 / (31 : Int32)) * (31 : Int32)))) h _ _ _ hw hW hS (lv_sub hl [1, 2, 3, 4, 5, 6] rfl)
            · have hw := itn c47 hw
              refine lv_aload_n hx hb dL_isActed_190 rfl (lv_at hl 3 rfl) ?_
              refine lv_bipush (v := (14 : Int32)) hx hb dL_isActed_191 (by decide) ?_
              refine lv_iload hx hb dL_isActed_193 (lv_at hl 8 rfl) ?_
              refine lv_aload_n hx hb dL_isActed_195 rfl (lv_at hl 4 rfl) ?_
              refine lv_iconst (v := (0 : Int32)) hx hb dL_isActed_196 (by decide) ?_
              obtain ⟨n48, f48, v48, e48, g48, ev48, hw⟩ := hw
              refine kw_iald hx hb hK hW 0 e48 rfl g48 ev48 dL_isActed_197 ?_
              obtain ⟨g49, hw⟩ := hw
              refine lv_irem hx hb dL_isActed_198 g49 ?_
              refine lv_imul hx hb dL_isActed_199 ?_
              obtain ⟨n50, f50, v50, e50, g50, ev50, hw⟩ := hw
              refine kw_iald hx hb hK hW 0 e50 rfl g50 ev50 dL_isActed_200 ?_
              refine lv_goto (tgt := 206) hx hb dL_isActed_201 (by decide) ?_
              exact hJ206 v50 h _ _ _ hw hW hS (lv_sub hl [1, 2, 3, 4, 5, 6] rfl)
      · have hw := itp c3 hw
        refine lv_aload_n hx hb dL_isActed_129 rfl (lv_at hl 2 rfl) ?_
        refine lv_iconst (v := (5 : Int32)) hx hb dL_isActed_130 (by decide) ?_
        refine lv_iload hx hb dL_isActed_131 (lv_at hl 8 rfl) ?_
        refine lv_iconst (v := (5 : Int32)) hx hb dL_isActed_133 (by decide) ?_
        refine lv_irem hx hb dL_isActed_134 (by decide) ?_
        refine lv_iadd hx hb dL_isActed_135 ?_
        refine lv_aload_n hx hb dL_isActed_136 rfl (lv_at hl 2 rfl) ?_
        refine lv_iload hx hb dL_isActed_137 (lv_at hl 8 rfl) ?_
        refine lv_iconst (v := (5 : Int32)) hx hb dL_isActed_139 (by decide) ?_
        refine lv_irem hx hb dL_isActed_140 (by decide) ?_
        obtain ⟨n51, f51, v51, e51, g51, ev51, hw⟩ := hw
        refine kw_iald hx hb hK hW 0 e51 rfl g51 ev51 dL_isActed_141 ?_
        obtain ⟨n52, f52, e52, g52, hw⟩ := hw
        refine kw_iast hx hb hK hW hS 0 e52 rfl g52 dL_isActed_142 (fun H locs h52 eh52 hW hS => ?_)
        have hw := hw h52 eh52
        refine lv_aload_n hx hb dL_isActed_143 rfl (lv_at hl 2 rfl) ?_
        refine lv_aload_n hx hb dL_isActed_144 rfl (lv_at hl 3 rfl) ?_
        refine lv_aload_n hx hb dL_isActed_145 rfl (lv_at hl 4 rfl) ?_
        refine ks_call (As := [.ref a2, .ref a3, .ref a4]) (rest := []) (cg_L_thrown l D ct a0 a2 a3 a4 h52 _ hw) B hK hN hZ hA hW hS k_L_thrown q_9_22 rfl ⟨Nat.le_of_ble_eq_true rfl, Nat.le_of_ble_eq_true rfl⟩ ⟨Nat.le_of_ble_eq_true rfl, Nat.le_of_ble_eq_true rfl⟩ hl.1 rfl (Nat.le_of_ble_eq_true rfl) dL_isActed_146 (fun v53 h53 H locs hw hW hS => ?_)
        refine lv_istore (lv' := [(9, .int v53), (8, .int ((1 : Int32) + (a8 - ((a8 / (31 : Int32)) * (31 : Int32))))), (0, .ref a1), (1, .ref a2), (2, .ref a3), (3, .ref a4), (4, .ref a5), (5, .ref a6), (6, .int a7), (7, .int a8)]) hx hb dL_isActed_149 hl (by decide) rfl (fun ls hl => ?_)
        refine lv_aload_n hx hb dL_isActed_151 rfl (lv_at hl 2 rfl) ?_
        refine lv_iload hx hb dL_isActed_152 (lv_at hl 9 rfl) ?_
        refine lv_iconst (v := (5 : Int32)) hx hb dL_isActed_154 (by decide) ?_
        refine lv_irem hx hb dL_isActed_155 (by decide) ?_
        refine kx_call (As := [.int (a8 - ((a8 / (5 : Int32)) * (5 : Int32)))]) (rest := []) hw (fun hc P hq => cg_X5_count l D ct a0 a1 (a8 - ((a8 / (5 : Int32)) * (5 : Int32))) hc P hq) B hK hN hZ hA hW hS rfl k_X5_count q_10_4 rfl ⟨Nat.le_of_ble_eq_true rfl, Nat.le_of_ble_eq_true rfl⟩ ⟨Nat.le_of_ble_eq_true rfl, Nat.le_of_ble_eq_true rfl⟩ hl.1 rfl (Nat.le_of_ble_eq_true rfl) dL_isActed_156 (fun v54 h54 H locs hw hW hS => ?_)
        refine lv_iload hx hb dL_isActed_159 (lv_at hl 0 rfl) ?_
        refine lv_icmp_ne (tgt := 168) hx hb dL_isActed_161 (by decide) (fun c55 => ?_) (fun c55 => ?_)
        · have hw := itn c55 hw
          refine lv_iconst (v := (0 : Int32)) hx hb dL_isActed_168 (by decide) ?_
          refine W.widen (k := 23) (n := 181) (by omega) (by omega) ?_
          exact hret _ _ _ _ (0 : Int32) h54 nb0 dL_isActed_169 hw hW hS
        · have hw := itp c55 hw
          refine lv_iconst (v := (1 : Int32)) hx hb dL_isActed_164 (by decide) ?_
          refine lv_goto (tgt := 169) hx hb dL_isActed_165 (by decide) ?_
          refine W.widen (k := 23) (n := 181) (by omega) (by omega) ?_
          exact hret _ _ _ _ (1 : Int32) h54 nb1 dL_isActed_169 hw hW hS
    · have hw := itn c2 hw
      refine lv_aload_n hx hb dL_isActed_94 rfl (lv_at hl 1 rfl) ?_
      refine lv_aload_n hx hb dL_isActed_95 rfl (lv_at hl 2 rfl) ?_
      refine lv_aload_n hx hb dL_isActed_96 rfl (lv_at hl 3 rfl) ?_
      refine lv_aload_n hx hb dL_isActed_97 rfl (lv_at hl 4 rfl) ?_
      refine lv_iload hx hb dL_isActed_98 (lv_at hl 8 rfl) ?_
      refine lv_iconst (v := (5 : Int32)) hx hb dL_isActed_100 (by decide) ?_
      refine lv_irem hx hb dL_isActed_101 (by decide) ?_
      refine lv_iload hx hb dL_isActed_102 (lv_at hl 8 rfl) ?_
      refine lv_iconst (v := (5 : Int32)) hx hb dL_isActed_104 (by decide) ?_
      refine lv_idiv hx hb dL_isActed_105 (by decide) ?_
      refine lv_iconst (v := (5 : Int32)) hx hb dL_isActed_106 (by decide) ?_
      refine lv_irem hx hb dL_isActed_107 (by decide) ?_
      refine lv_iconst (v := (1 : Int32)) hx hb dL_isActed_108 (by decide) ?_
      refine lv_iload hx hb dL_isActed_109 (lv_at hl 8 rfl) ?_
      refine lv_bipush (v := (25 : Int32)) hx hb dL_isActed_111 (by decide) ?_
      refine lv_idiv hx hb dL_isActed_113 (by decide) ?_
      refine lv_bipush (v := (100 : Int32)) hx hb dL_isActed_114 (by decide) ?_
      refine lv_irem hx hb dL_isActed_116 (by decide) ?_
      refine lv_iadd hx hb dL_isActed_117 ?_
      refine ks_call (As := [.ref a1, .ref a2, .ref a3, .ref a4, .int (a8 - ((a8 / (5 : Int32)) * (5 : Int32))), .int ((a8 / (5 : Int32)) - (((a8 / (5 : Int32)) / (5 : Int32)) * (5 : Int32))), .int ((1 : Int32) + ((a8 / (25 : Int32)) - (((a8 / (25 : Int32)) / (100 : Int32)) * (100 : Int32))))]) (rest := []) (cg_L_isPart l D ct a0 a1 a2 a3 a4 (a8 - ((a8 / (5 : Int32)) * (5 : Int32))) ((a8 / (5 : Int32)) - (((a8 / (5 : Int32)) / (5 : Int32)) * (5 : Int32))) ((1 : Int32) + ((a8 / (25 : Int32)) - (((a8 / (25 : Int32)) / (100 : Int32)) * (100 : Int32)))) h _ hw) B hK hN hZ hA hW hS k_L_isPart q_8_20 rfl ⟨Nat.le_of_ble_eq_true rfl, Nat.le_of_ble_eq_true rfl⟩ ⟨Nat.le_of_ble_eq_true rfl, Nat.le_of_ble_eq_true rfl⟩ hl.1 rfl (Nat.le_of_ble_eq_true rfl) dL_isActed_118 (fun v56 h56 H locs hw hW hS => ?_)
      obtain ⟨g57, hw⟩ := hw
      refine W.widen (k := 23) (n := 181) (by omega) (by omega) ?_
      exact hret _ _ _ _ v56 h56 (isB_nar g57) dL_isActed_121 hw hW hS
  · have hw := itn c1 hw
    refine lv_iload hx hb dL_isActed_15 (lv_at hl 8 rfl) ?_
    refine lv_iconst (v := (5 : Int32)) hx hb dL_isActed_17 (by decide) ?_
    refine lv_idiv hx hb dL_isActed_18 (by decide) ?_
    refine lv_iconst (v := (3 : Int32)) hx hb dL_isActed_19 (by decide) ?_
    refine lv_irem hx hb dL_isActed_20 (by decide) ?_
    refine lv_if_ne (tgt := 38) hx hb dL_isActed_21 (by decide) (fun c58 => ?_) (fun c58 => ?_)
    · have hw := itn c58 hw
      refine lv_iconst (v := (1 : Int32)) hx hb dL_isActed_38 (by decide) ?_
      refine lv_iload hx hb dL_isActed_39 (lv_at hl 8 rfl) ?_
      refine lv_bipush (v := (15 : Int32)) hx hb dL_isActed_41 (by decide) ?_
      refine lv_idiv hx hb dL_isActed_43 (by decide) ?_
      refine lv_bipush (v := (30 : Int32)) hx hb dL_isActed_44 (by decide) ?_
      refine lv_irem hx hb dL_isActed_46 (by decide) ?_
      refine lv_iadd hx hb dL_isActed_47 ?_
      exact hJ48 ((1 : Int32) + ((a8 / (15 : Int32)) - (((a8 / (15 : Int32)) / (30 : Int32)) * (30 : Int32)))) h _ _ _ hw hW hS (lv_sub hl [1, 2, 8] rfl)
    · have hw := itp c58 hw
      refine lv_iconst (v := (1 : Int32)) hx hb dL_isActed_24 (by decide) ?_
      refine lv_iload hx hb dL_isActed_25 (lv_at hl 8 rfl) ?_
      refine lv_bipush (v := (15 : Int32)) hx hb dL_isActed_27 (by decide) ?_
      refine lv_idiv hx hb dL_isActed_29 (by decide) ?_
      refine lv_sipush (v := (500 : Int32)) hx hb dL_isActed_30 (by decide) ?_
      refine lv_irem hx hb dL_isActed_33 (by decide) ?_
      refine lv_iadd hx hb dL_isActed_34 ?_
      refine lv_goto (tgt := 48) hx hb dL_isActed_35 (by decide) ?_
      exact hJ48 ((1 : Int32) + ((a8 / (15 : Int32)) - (((a8 / (15 : Int32)) / (500 : Int32)) * (500 : Int32)))) h _ _ _ hw hW hS (lv_sub hl [1, 2, 8] rfl)
