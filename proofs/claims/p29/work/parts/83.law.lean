/-! the law's loop -/
set_option maxRecDepth 100000 in
set_option maxHeartbeats 8000000 in
theorem law_loop {p : Program} {l : Launch} {e : Env} {s : State} {m : MethodId} {below : List Frame} {meth : Method} {c : Code} {D : va_G} {ct : Nat → ClassId} {a0 : Nat} {b L : Nat} {xs : Nat → Int32} (hL : L ≤ 260) (C0 : lw_At p s m meth c b L xs) (hK : va_K D vwCl (tysK ct) s) (hN : NK s) (hZ : SE a0 (fun q : Nat => s.heap.size ≤ q) s s.heap) {ax pa pf pt pl pw : Nat} :
    ∀ (n j : Nat), j + n = 51 → j ≤ 50 → ∀ (hc h : KH) (d : DS) (A1 F1 T1 : Nat → Int32) (L1 V1 : Nat → Int64) (d0 : Drawn), s.drawn.sameBut d0 lw_cs → LH ct pa pf pt pl pw hc [] A1 F1 T1 L1 V1 h → OD ct a0 ax hc d → RA d A1 F1 T1 L1 → CB (8 * j) d → ∀ (H : Heap) (locs : List Loc), KW D (fun q : Nat => s.heap.size ≤ q) h H → va_S (fun q : Nat => s.heap.size ≤ q) s.heap H locs → ∀ (ls : Array Slot), lv_has ls 9 [(0, .ref b), (1, .ref ax), (2, .ref pa), (3, .ref pf), (4, .ref pt), (5, .ref pl), (6, .ref pw), (7, .int (nI j))] → W p l e room_1 (s.setDrawn d0) m #[Value.ref b] below meth c H locs (23 + 24 * j) (394 + 186 * j) (lw_Z below #[Value.ref b] s) (F0 m 79 ls []) := by
  obtain ⟨hx, hb, hr, hml, hown, hts0, hX, hbl, hlocks, hgv⟩ := C0
  have hA : ∀ q : Nat, s.heap.size ≤ q → (fun q : Nat => s.heap.size ≤ q) q := fun _ h => h
  have hbA : ¬ (fun q : Nat => s.heap.size ≤ q) b := Nat.not_le.mpr hbl
  have hts1 : ∀ w ∈ wsL_law, w.before #[Value.ref b] s = true := fun w hw => hts0 w (wsL_law_in w hw)
  intro n
  induction n with
  | zero => intro j hj h50; omega
  | succ n ih =>
    intro j hj h50 hc h d A1 F1 T1 L1 V1 d0 hd0 hl0 hO hR hCB H locs hW hS ls hl
    have hts : ∀ w ∈ wsL_law, w.before #[Value.ref b] (s.setDrawn d0) = true := dr_words hts1 d0
    have B : BX p (s.setDrawn d0) m #[Value.ref b] c cL_law 9 RL := ⟨hx, hb, hml, hown, hts⟩
    refine lv_iload hx hb dL_law_79 (lv_at hl 7 rfl) ?_
    refine lv_bipush (v := (50 : Int32)) hx hb dL_law_81 (by decide) ?_
    refine lv_icmp_ge (tgt := 193) hx hb dL_law_83 (by decide) (fun c0 => ?_) (fun c0 => ?_)
    · refine lv_iconst (v := (1 : Int32)) hx hb dL_law_193 (by decide) ?_
      refine va_forget (s := s.setDrawn d0) (fun q hq => hS.2.2 q hq) ?_
      refine W.widen (k := 600000) (n := 7302250) (by omega) (by omega) ?_
      exact lw_ret hd0 hx hb hr hlocks dL_law_194
    have hj50 : j < 50 := by
      refine Nat.lt_of_not_le (fun z => c0 ?_)
      exact nI_le (a := 50) z (by omega)
    refine lv_aload_n hx hb dL_law_86 rfl (lv_at hl 0 rfl) ?_
    refine lv_iload hx hb dL_law_87 (lv_at hl 7 rfl) ?_
    refine kcell_call (s := s.setDrawn d0) (rest := []) hX hbl hbA (nI_pos (by omega)) (by omega) B hS q_3_23 ⟨Nat.le_of_ble_eq_true rfl, Nat.le_of_ble_eq_true rfl⟩ ⟨by show _ ≤ 600000; omega, by show _ ≤ 7302250; omega⟩ hl.1 rfl (Nat.le_of_ble_eq_true rfl) dL_law_89 ?_
    refine lv_ldc (v := (2147483647 : Int32)) hx hb hown (hts _ q_1_5) dL_law_92 ?_
    refine lv_iand hx hb dL_law_94 ?_
    obtain ⟨z, hz, ez⟩ := and31 (cel L xs (nI j))
    rw [ez]
    refine lv_istore (lv' := [(8, .int (nI z)), (0, .ref b), (1, .ref ax), (2, .ref pa), (3, .ref pf), (4, .ref pt), (5, .ref pl), (6, .ref pw), (7, .int (nI j))]) hx hb dL_law_95 hl (by decide) rfl (fun ls hl => ?_)
    refine lv_aload_n hx hb dL_law_97 rfl (lv_at hl 2 rfl) ?_
    refine lv_aload_n hx hb dL_law_98 rfl (lv_at hl 3 rfl) ?_
    refine lv_aload_n hx hb dL_law_99 rfl (lv_at hl 4 rfl) ?_
    refine lv_aload hx hb dL_law_100 (lv_at hl 5 rfl) ?_
    refine lv_aload hx hb dL_law_102 (lv_at hl 6 rfl) ?_
    refine lv_aload hx hb dL_law_104 (lv_at hl 7 rfl) ?_
    refine lv_iload hx hb dL_law_106 (lv_at hl 0 rfl) ?_
    refine lv_bipush (v := (16 : Int32)) hx hb dL_law_108 (by decide) ?_
    refine lv_irem hx hb dL_law_110 (by decide) ?_
    rw [show ((nI z) - (nI z) / (16 : Int32) * (16 : Int32)) = (nI (z % 16)) from modI (m := 16) hz (by decide) (by decide)]
    refine lv_iload hx hb dL_law_111 (lv_at hl 0 rfl) ?_
    refine lv_bipush (v := (16 : Int32)) hx hb dL_law_113 (by decide) ?_
    refine lv_idiv hx hb dL_law_115 (by decide) ?_
    rw [show ((nI z) / (16 : Int32)) = (nI (z / 16)) from pk_div (d := 16) hz (by decide) (by decide)]
    have hact : g_L_isActed ct a0 ax pa pf pt pl pw (nI (z % 16)) (nI (z / 16)) h (fun v h1 => v = 1 ∧ ∃ hc1 d1 A2 F2 T2 L2 V2, LH ct pa pf pt pl pw hc1 [] A2 F2 T2 L2 V2 h1 ∧ OD ct a0 ax hc1 d1 ∧ RA d1 A2 F2 T2 L2 ∧ CB (8 * j + 8) d1) := l_isActed hR hCB (by omega) (Nat.mod_lt _ (by decide)) (by omega) hl0 hO (fun hc1 d1 A2 F2 T2 L2 V2 h1 q1 q2 q3 q4 => ⟨rfl, hc1, d1, A2, F2, T2, L2, V2, q1, q2, q3, q4⟩)
    refine ks_call (s := s.setDrawn d0) (As := [.ref ax, .ref pa, .ref pf, .ref pt, .ref pl, .ref pw, .int (nI (z % 16)), .int (nI (z / 16))]) (rest := []) (cg_L_isActed l D ct a0 ax pa pf pt pl pw (nI (z % 16)) (nI (z / 16)) h _ hact) B hK hN hZ hA hW hS k_L_isActed q_4_4 rfl ⟨Nat.le_of_ble_eq_true rfl, Nat.le_of_ble_eq_true rfl⟩ ⟨by show _ ≤ 600000; omega, by show _ ≤ 7302250; omega⟩ hl.1 rfl (Nat.le_of_ble_eq_true rfl) dL_law_116 (fun v1 h1 H locs hq hW hS => ?_)
    obtain ⟨ev1, hc1, d1, A2, F2, T2, L2, V2, hl1, hO1, hR1, hCB1⟩ := hq
    subst ev1
    refine lv_if_eq (tgt := 185) hx hb dL_law_119 (by decide) (fun c1 => absurd c1 (by decide)) (fun _ => ?_)
    refine lv_aload_n hx hb dL_law_122 rfl (lv_at hl 2 rfl) ?_
    refine lv_aload_n hx hb dL_law_123 rfl (lv_at hl 3 rfl) ?_
    refine lv_aload_n hx hb dL_law_124 rfl (lv_at hl 4 rfl) ?_
    refine lv_aload hx hb dL_law_125 (lv_at hl 5 rfl) ?_
    refine lv_aload hx hb dL_law_127 (lv_at hl 7 rfl) ?_
    have hpl : g_L_arePlans ct a0 ax pa pf pt pw h1 (fun v h2 => v = 1 ∧ ∃ hc2 V3, LH ct pa pf pt pl pw hc2 [] A2 F2 T2 L2 V3 h2 ∧ OD ct a0 ax hc2 d1) := l_arePlans hR1 (hCB1.mono (by omega)) hl1 hO1 (fun hc2 V3 h2 q1 q2 => ⟨rfl, hc2, V3, q1, q2⟩)
    refine ksD_call (s := s) hd0 (As := [.ref ax, .ref pa, .ref pf, .ref pt, .ref pw]) (rest := []) (cg_L_arePlans l D ct a0 ax pa pf pt pw h1 _ hpl) B hK hN hZ hA hW hS k_L_arePlans q_17_21 rfl ⟨Nat.le_of_ble_eq_true rfl, Nat.le_of_ble_eq_true rfl⟩ ⟨by show _ ≤ 600000; omega, by show _ ≤ 7302250; omega⟩ hl.1 rfl (Nat.le_of_ble_eq_true rfl) dL_law_129 (fun v2 h2 H locs d9 hd9 hq hW hS => ?_)
    obtain ⟨ev2, hc2, V3, hl2, hO2⟩ := hq
    subst ev2
    have hts : ∀ w ∈ wsL_law, w.before #[Value.ref b] (s.setDrawn d9) = true := dr_words hts1 d9
    have B : BX p (s.setDrawn d9) m #[Value.ref b] c cL_law 9 RL := ⟨hx, hb, hml, hown, hts⟩
    refine lv_if_eq (tgt := 185) hx hb dL_law_132 (by decide) (fun c1 => absurd c1 (by decide)) (fun _ => ?_)
    refine lv_aload_n hx hb dL_law_135 rfl (lv_at hl 2 rfl) ?_
    refine lv_aload_n hx hb dL_law_136 rfl (lv_at hl 3 rfl) ?_
    refine lv_aload_n hx hb dL_law_137 rfl (lv_at hl 4 rfl) ?_
    refine lv_aload hx hb dL_law_138 (lv_at hl 5 rfl) ?_
    refine lv_aload hx hb dL_law_140 (lv_at hl 6 rfl) ?_
    refine lv_iconst (v := (1 : Int32)) hx hb dL_law_142 (by decide) ?_
    refine lv_iload hx hb dL_law_143 (lv_at hl 0 rfl) ?_
    refine lv_iconst (v := (5 : Int32)) hx hb dL_law_145 (by decide) ?_
    refine lv_idiv hx hb dL_law_146 (by decide) ?_
    rw [show ((nI z) / (5 : Int32)) = (nI (z / 5)) from pk_div (d := 5) hz (by decide) (by decide)]
    refine lv_bipush (v := (31 : Int32)) hx hb dL_law_147 (by decide) ?_
    refine lv_irem hx hb dL_law_149 (by decide) ?_
    rw [show ((nI (z / 5)) - (nI (z / 5)) / (31 : Int32) * (31 : Int32)) = (nI (z / 5 % 31)) from modI (m := 31) (Nat.lt_of_le_of_lt (Nat.div_le_self _ _) hz) (by decide) (by decide)]
    refine lv_iadd hx hb dL_law_150 ?_
    rw [show ((1 : Int32) + (nI (z / 5 % 31))) = (nI (1 + z / 5 % 31)) from nI_add 1 _]
    have hm31 := Nat.mod_lt (z / 5) (show 0 < 31 by decide)
    have hto : g_L_areTold ct a0 ax pa pf pt pl (nI (1 + z / 5 % 31)) h2 (fun v h3 => v = 1 ∧ ∃ hc3, LH ct pa pf pt pl pw hc3 [] A2 F2 T2 L2 V3 h3 ∧ OD ct a0 ax hc3 d1) := l_areTold hR1 (hCB1.mono (by omega)) (by omega) (by omega) hl2 hO2 (fun hc3 h3 q1 q2 => ⟨rfl, hc3, q1, q2⟩)
    refine ks_call (s := s.setDrawn d9) (As := [.ref ax, .ref pa, .ref pf, .ref pt, .ref pl, .int (nI (1 + z / 5 % 31))]) (rest := []) (cg_L_areTold l D ct a0 ax pa pf pt pl (nI (1 + z / 5 % 31)) h2 _ hto) B hK hN hZ hA hW hS k_L_areTold q_19_13 rfl ⟨Nat.le_of_ble_eq_true rfl, Nat.le_of_ble_eq_true rfl⟩ ⟨by show _ ≤ 600000; omega, by show _ ≤ 7302250; omega⟩ hl.1 rfl (Nat.le_of_ble_eq_true rfl) dL_law_151 (fun v3 h3 H locs hq hW hS => ?_)
    obtain ⟨ev3, hc3, hl3, hO3⟩ := hq
    subst ev3
    refine lv_if_eq (tgt := 185) hx hb dL_law_154 (by decide) (fun c1 => absurd c1 (by decide)) (fun _ => ?_)
    have hend : ∀ (hc4 : KH) (V4 : Nat → Int64) (h4 : KH) (H1 : Heap) (locs1 : List Loc) (ls1 : Array Slot) (k1 n1 : Nat), LH ct pa pf pt pl pw hc4 [] A2 F2 T2 L2 V4 h4 → OD ct a0 ax hc4 d1 → KW D (fun q : Nat => s.heap.size ≤ q) h4 H1 → va_S (fun q : Nat => s.heap.size ≤ q) s.heap H1 locs1 → k1 ≤ 23 + 24 * (j + 1) → n1 ≤ 394 + 186 * (j + 1) → lv_has ls1 9 [(8, .int (nI z)), (0, .ref b), (1, .ref ax), (2, .ref pa), (3, .ref pf), (4, .ref pt), (5, .ref pl), (6, .ref pw), (7, .int (nI j))] → W p l e room_1 (s.setDrawn d9) m #[Value.ref b] below meth c H1 locs1 k1 n1 (lw_Z below #[Value.ref b] s) (F0 m 187 ls1 []) := by
      intro hc4 V4 h4 H1 locs1 ls1 k1 n1 q1 q2 q3 q4 hk1 hn1 hl
      refine lv_iinc (v := (nI j + (1 : Int32))) (lv' := [(7, .int (nI j + (1 : Int32))), (8, .int (nI z)), (0, .ref b), (1, .ref ax), (2, .ref pa), (3, .ref pf), (4, .ref pt), (5, .ref pl), (6, .ref pw)]) hx hb dL_law_187 hl (k := 8) rfl (congrArg (HAdd.hAdd (nI j)) (by decide)) (by decide) rfl (fun ls hl => ?_)
      refine lv_goto (tgt := 79) hx hb dL_law_190 (by decide) ?_
      refine W.widen (k := 23 + 24 * (j + 1)) (n := 394 + 186 * (j + 1)) hk1 hn1 ?_
      have hl : lv_has ls 9 [(0, .ref b), (1, .ref ax), (2, .ref pa), (3, .ref pf), (4, .ref pt), (5, .ref pl), (6, .ref pw), (7, .int (nI j + (1 : Int32)))] := lv_sub hl [2, 3, 4, 5, 6, 7, 8, 0] rfl
      rw [nI_s1] at hl
      exact ih (j + 1) (by omega) (by omega) hc4 h4 d1 A2 F2 T2 L2 V4 d9 hd9 q1 q2 hR1 (by rw [show 8 * (j + 1) = 8 * j + 8 by omega]; exact hCB1) H1 locs1 q3 q4 ls hl
    refine lv_iload hx hb dL_law_157 (lv_at hl 8 rfl) ?_
    refine lv_iconst (v := (3 : Int32)) hx hb dL_law_159 (by decide) ?_
    refine lv_irem hx hb dL_law_160 (by decide) ?_
    rw [show ((nI j) - (nI j) / (3 : Int32) * (3 : Int32)) = (nI (j % 3)) from modI (m := 3) (by omega) (by decide) (by decide)]
    refine lv_iconst (v := (1 : Int32)) hx hb dL_law_161 (by decide) ?_
    refine lv_icmp_ne (tgt := 187) hx hb dL_law_162 (by decide) (fun _ => ?_) (fun _ => ?_)
    · exact hend hc3 V3 h3 H locs ls _ _ hl3 hO3 hW hS (by omega) (by omega) hl
    refine lv_aload_n hx hb dL_law_165 rfl (lv_at hl 2 rfl) ?_
    refine lv_aload_n hx hb dL_law_166 rfl (lv_at hl 3 rfl) ?_
    refine lv_iconst (v := (1 : Int32)) hx hb dL_law_167 (by decide) ?_
    refine lv_iload hx hb dL_law_168 (lv_at hl 0 rfl) ?_
    refine lv_bipush (v := (7 : Int32)) hx hb dL_law_170 (by decide) ?_
    refine lv_idiv hx hb dL_law_172 (by decide) ?_
    rw [show ((nI z) / (7 : Int32)) = (nI (z / 7)) from pk_div (d := 7) hz (by decide) (by decide)]
    refine lv_bipush (v := (31 : Int32)) hx hb dL_law_173 (by decide) ?_
    refine lv_irem hx hb dL_law_175 (by decide) ?_
    rw [show ((nI (z / 7)) - (nI (z / 7)) / (31 : Int32) * (31 : Int32)) = (nI (z / 7 % 31)) from modI (m := 31) (Nat.lt_of_le_of_lt (Nat.div_le_self _ _) hz) (by decide) (by decide)]
    refine lv_iadd hx hb dL_law_176 ?_
    rw [show ((1 : Int32) + (nI (z / 7 % 31))) = (nI (1 + z / 7 % 31)) from nI_add 1 _]
    refine lv_aload hx hb dL_law_177 (lv_at hl 7 rfl) ?_
    have hn31 := Nat.mod_lt (z / 7) (show 0 < 31 by decide)
    have hbe : g_L_areBest ct a0 ax pa (nI (1 + z / 7 % 31)) pw h3 (fun v h4 => v = 1 ∧ ∃ hc4 V4, LH ct pa pf pt pl pw hc4 [] A2 F2 T2 L2 V4 h4 ∧ OD ct a0 ax hc4 d1) := l_areBest hR1 (by omega) (by omega) hl3 hO3 (fun hc4 V4 h4 q1 q2 => ⟨rfl, hc4, V4, q1, q2⟩)
    refine ks_call (s := s.setDrawn d9) (As := [.ref ax, .ref pa, .int (nI (1 + z / 7 % 31)), .ref pw]) (rest := []) (cg_L_areBest l D ct a0 ax pa (nI (1 + z / 7 % 31)) pw h3 _ hbe) B hK hN hZ hA hW hS k_L_areBest q_20_9 rfl ⟨Nat.le_of_ble_eq_true rfl, Nat.le_of_ble_eq_true rfl⟩ ⟨by show _ ≤ 600000; omega, by show _ ≤ 7302250; omega⟩ hl.1 rfl (Nat.le_of_ble_eq_true rfl) dL_law_179 (fun v4 h4 H locs hq hW hS => ?_)
    obtain ⟨ev4, hc4, V4, hl4, hO4⟩ := hq
    subst ev4
    refine lv_if_ne (tgt := 187) hx hb dL_law_182 (by decide) (fun _ => ?_) (fun c1 => absurd c1 (by decide))
    exact hend hc4 V4 h4 H locs ls _ _ hl4 hO4 hW hS (by omega) (by omega) hl
/-- the first numbers -/
def ini (k i : Nat) : Int32 := if i < k then (if i < 10 then 10 else 100) else 0
theorem ini_u (k : Nat) : upd (ini k) k (if k < 10 then 10 else 100) = ini (k + 1) := by
  funext i
  show (if i = k then _ else ini k i) = ini (k + 1) i
  unfold ini
  by_cases q : i = k
  · subst q
    rw [if_pos rfl]
    exact (if_pos (show i < i + 1 by omega)).symm
  · rw [if_neg q]
    by_cases z : i < k
    · rw [if_pos z]
      exact (if_pos (show i < k + 1 by omega)).symm
    · rw [if_neg z, if_neg (by omega)]
set_option maxRecDepth 100000 in
set_option maxHeartbeats 8000000 in
theorem law_fill {p : Program} {l : Launch} {e : Env} {s : State} {m : MethodId} {below : List Frame} {meth : Method} {c : Code} {D : va_G} {ct : Nat → ClassId} {b L : Nat} {xs : Nat → Int32} (C0 : lw_At p s m meth c b L xs) (hK : va_K D vwCl (tysK ct) s) {ax pa pf pt pl pw : Nat} {hc : KH} {F1 T1 : Nat → Int32} {L1 V1 : Nat → Int64} {cells slots : Nat} {Q : State → Prop}
    (hk : ∀ (h : KH) (H : Heap) (locs : List Loc) (ls : Array Slot), LH ct pa pf pt pl pw hc [] (ini 35) F1 T1 L1 V1 h → KW D (fun q : Nat => s.heap.size ≤ q) h H → va_S (fun q : Nat => s.heap.size ≤ q) s.heap H locs → lv_has ls 9 [(0, .ref b), (1, .ref ax), (2, .ref pa), (3, .ref pf), (4, .ref pt), (5, .ref pl), (6, .ref pw)] → W p l e room_1 s m #[Value.ref b] below meth c H locs cells slots Q (F0 m 69 ls [])) :
    ∀ (n k : Nat), k ≤ 35 → 35 < n + k → ∀ (h : KH) (H : Heap) (locs : List Loc) (ls : Array Slot), LH ct pa pf pt pl pw hc [] (ini k) F1 T1 L1 V1 h → KW D (fun q : Nat => s.heap.size ≤ q) h H → va_S (fun q : Nat => s.heap.size ≤ q) s.heap H locs → lv_has ls 9 [(0, .ref b), (1, .ref ax), (2, .ref pa), (3, .ref pf), (4, .ref pt), (5, .ref pl), (6, .ref pw), (7, .int (nI k))] → W p l e room_1 s m #[Value.ref b] below meth c H locs cells slots Q (F0 m 38 ls []) := by
  obtain ⟨hx, hb, hr, hml, hown, hts0, hX, hbl, hlocks, hgv⟩ := C0
  intro n
  induction n with
  | zero => intro k h1 h2; omega
  | succ n ih =>
    intro k h1 h2 h H locs ls hl0 hW hS hl
    refine lv_iload hx hb dL_law_38 (lv_at hl 7 rfl) ?_
    refine lv_bipush (v := (35 : Int32)) hx hb dL_law_40 (by decide) ?_
    refine lv_icmp_ge (tgt := 69) hx hb dL_law_42 (by decide) (fun c0 => ?_) (fun c0 => ?_)
    · have e0 : k = 35 := by have := (nI_leI (a := 35) (by decide) (by omega)).mp c0; omega
      subst e0
      exact hk h H locs ls hl0 hW hS (lv_sub hl [0, 1, 2, 3, 4, 5, 6] rfl)
    have hk35 : k < 35 := Nat.lt_of_not_le (fun z => c0 (nI_le (a := 35) z (by omega)))
    refine lv_aload_n hx hb dL_law_45 rfl (lv_at hl 2 rfl) ?_
    refine lv_iload hx hb dL_law_46 (lv_at hl 7 rfl) ?_
    refine lv_iload hx hb dL_law_48 (lv_at hl 7 rfl) ?_
    refine lv_bipush (v := (10 : Int32)) hx hb dL_law_50 (by decide) ?_
    have hend : ∀ (v : Int32), v = (if k < 10 then 10 else 100) → W p l e room_1 s m #[Value.ref b] below meth c H locs cells slots Q (F0 m 62 ls [.int v, .int (nI k), .ref pa]) := fun v ev => by
      refine kw_iast hx hb hK hW hS 0 hl0.a rfl (i := nI k) (x := v) (inb_nI (by omega) (by decide)) dL_law_62 (fun H1 locs1 h9 e9 hW9 hS9 => ?_)
      rw [nI_clamp (by omega), ev, ini_u] at e9
      subst e9
      have hl9 := hl0.ua (ini (k + 1))
      refine lv_iinc (v := (nI k + (1 : Int32))) (lv' := [(7, .int (nI k + (1 : Int32))), (0, .ref b), (1, .ref ax), (2, .ref pa), (3, .ref pf), (4, .ref pt), (5, .ref pl), (6, .ref pw)]) hx hb dL_law_63 hl (k := 7) rfl (congrArg (HAdd.hAdd (nI k)) (by decide)) (by decide) rfl (fun ls hl => ?_)
      refine lv_goto (tgt := 38) hx hb dL_law_66 (by decide) ?_
      have hl : lv_has ls 9 [(0, .ref b), (1, .ref ax), (2, .ref pa), (3, .ref pf), (4, .ref pt), (5, .ref pl), (6, .ref pw), (7, .int (nI k + (1 : Int32)))] := lv_sub hl [1, 2, 3, 4, 5, 6, 7, 0] rfl
      rw [nI_s1] at hl
      exact ih (k + 1) (by omega) (by omega) _ H1 locs1 ls hl9 hW9 hS9 hl
    refine lv_icmp_ge (tgt := 60) hx hb dL_law_52 (by decide) (fun c1 => ?_) (fun c1 => ?_)
    · refine lv_bipush (v := (100 : Int32)) hx hb dL_law_60 (by decide) ?_
      exact hend _ (by rw [if_neg (by have := (nI_leI (a := 10) (by decide) (by omega)).mp c1; omega)])
    · refine lv_bipush (v := (10 : Int32)) hx hb dL_law_55 (by decide) ?_
      refine lv_goto (tgt := 62) hx hb dL_law_57 (by decide) ?_
      exact hend _ (by rw [if_pos (Nat.lt_of_not_le (fun z => c1 (nI_le (a := 10) z (by omega))))])
/-- the law's arrays tell the new object -/
theorem RA_n : RA DSn (upd (ini 35) 35 200) (fun _ => 0) (fun _ => 0) (fun _ => 0) := by
  have hA : ∀ i, i < 35 → upd (ini 35) 35 200 i = if i < 10 then 10 else 100 := fun i hi => (if_neg (by omega)).trans (if_pos hi)
  have e10 : ∀ t, t < 5 → (DSn.1 t) = 10 := fun t ht => c10_v ht
  have e100 : ∀ i t, i < 5 → t < 5 → (DSn.2.2.1 i t) = 100 := fun i t hi ht => c100_v hi ht
  refine ⟨⟨⟨fun t ht => ?_, fun i t hi ht => ?_⟩, ⟨fun t ht => ?_, fun i t hi ht => ?_⟩, rfl, (fun i x hi => by cases hi), rfl, ⟨rfl, rfl, rfl, rfl, rfl, rfl, rfl⟩⟩, rfl, rfl⟩
  · rw [hA _ (by omega), if_pos (by omega), e10 t ht]; rfl
  · rw [hA _ (by omega), if_neg (by omega), e100 i t hi ht]; rfl
  · rw [hA _ (by omega), if_pos (by omega)]
    show (10 : Int32) = nI (DSn.1 t)
    rw [e10 t ht]; rfl
  · rw [hA _ (by omega), if_neg (by omega), e100 i t hi ht]; rfl
set_option maxRecDepth 100000 in
set_option maxHeartbeats 8000000 in
theorem start_of {p : Program} {e : Env} {s : State} {m : MethodId} {below : List Frame} {meth : Method} {c : Code} (l : Launch) {b L : Nat} {xs : Nat → Int32} (hL : L ≤ 260) (C0 : lw_At p s m meth c b L xs) : W p l e room_1 s m #[Value.ref b] below meth c s.heap [] 0 0 (lw_Z below #[Value.ref b] s) (entryFrame m ([Value.ref b] : List Value).toArray 9) := by
  obtain ⟨hx, hb, hr, hml, hown, hts0, hX, hbl, hlocks, hgv⟩ := id C0
  have hA : ∀ q : Nat, s.heap.size ≤ q → (fun q : Nat => s.heap.size ≤ q) q := fun _ h => h
  have hAn : ∀ a : Nat, a < s.heap.size → ¬ (fun q : Nat => s.heap.size ≤ q) a := fun a h => Nat.not_le.mpr h
  obtain ⟨ct, hKt, hAO, hAOA⟩ := tab_arr hts0
  obtain ⟨dC, dI, hKc⟩ := tab_cls hts0
  obtain ⟨a0, hZ⟩ := tab_SE (A := fun q : Nat => s.heap.size ≤ q) hts0 hgv hAn
  have hK : va_K (dC, dI) vwCl (tysK ct) s := ⟨hKc, hKt⟩
  have hN : NK s := ⟨tab_NE hts0, hAO, hAOA⟩
  have hd0 := Drawn.sameBut.refl s.drawn lw_cs
  have hts : ∀ w ∈ wsL_law, w.before #[Value.ref b] s = true := fun w hw => hts0 w (wsL_law_in w hw)
  have B : BX p s m #[Value.ref b] c cL_law 9 RL := ⟨hx, hb, hml, hown, hts⟩
  have hS : va_S (fun q : Nat => s.heap.size ≤ q) s.heap s.heap [] := va_S.rf
  have hW : KW (dC, dI) (fun q : Nat => s.heap.size ≤ q) (fun _ => none) s.heap := ⟨[], fun a e => ⟨fun h => absurd h List.not_mem_nil, fun h => by cases h⟩, fun k q h => by simp at h, ⟨fun i j p q h => by simp at h, fun k q h => by simp at h⟩⟩
  have hl := lv_entry ([.ref b]) (n := 9) (Nat.le_of_ble_eq_true rfl)
  rw [lg_entry_eq]
  generalize (lg_sl ([.ref b]) ++ List.replicate (9 - (lg_sl ([.ref b])).length) Slot.unset).toArray = ls at hl ⊢
  have hl : lv_has ls 9 [(0, .ref b)] := hl
  refine kw_new (ci := 6) (fs := [.null, .null, .null, .null, .null, .int 0, .int 0]) (C := RX5) (T := TX5) (N := 7) hx hb hts inlX5 tyX5 tyX5_ok hown (hts _ q_1_0) (hts _ q_1_1) (hts _ q_1_2) hK hW hS hA rfl (fun j hj => by rcases (show j = 0 ∨ j = 1 ∨ j = 2 ∨ j = 3 ∨ j = 4 ∨ j = 5 ∨ j = 6 by omega) with rfl | rfl | rfl | rfl | rfl | rfl | rfl <;> rfl) (Nat.le_of_ble_eq_true rfl) (Nat.le_of_ble_eq_true rfl) dL_law_0 (fun ax H h1 n1 eh1 hW hS => ?_)
  have hw : g_X5_init ct a0 ax h1 (fun _ h2 => OD ct a0 ax h2 DSn) := by
    rw [eh1]
    exact c_start ax (fun own h2 hc => ⟨own, A0, hc, ⟨IV_n, (fun d hd => by cases hd), (fun d hd => by cases hd), Nat.zero_le _⟩, rfl⟩)
  refine lv_dup hx hb dL_law_3 rfl ?_
  refine ki_call (As := []) (rest := [.ref ax]) (cg_X5_init l (dC, dI) ct a0 ax h1 _ hw) B hK hN hZ hA hW hS k_X5_init q_1_6 rfl ⟨Nat.le_of_ble_eq_true rfl, Nat.le_of_ble_eq_true rfl⟩ ⟨Nat.le_of_ble_eq_true rfl, Nat.le_of_ble_eq_true rfl⟩ hl.1 rfl (Nat.le_of_ble_eq_true rfl) dL_law_4 (fun _ hc H locs hO hW hS => ?_)
  refine lv_astore_n (lv' := [(1, .ref ax), (0, .ref b)]) hx hb dL_law_7 rfl hl (by decide) rfl (fun ls hl => ?_)
  refine lv_bipush (v := (36 : Int32)) hx hb dL_law_8 (by decide) ?_
  refine kw_newa (atype := .int) (a0 := (36, .inl (fun _ => 0))) (n := (36 : Int32)) (N' := 36) hx hb (hts _ q_1_3) rfl hK 0 rfl hW hS hA (fun _ => rfl) (by decide) (by decide) (by decide) (Nat.le_of_ble_eq_true rfl) (Nat.le_of_ble_eq_true rfl) dL_law_10 (fun pa H hpa npa epa hW hS => ?_)
  have spa := SPL.new (⟨rfl, (fun x hx => by cases hx), List.nodup_nil⟩ : SPL hc hc []) npa (.inl (ct 0, 36, .inl (fun _ => 0)))
  rw [← epa] at spa
  refine lv_astore_n (lv' := [(2, .ref pa), (1, .ref ax), (0, .ref b)]) hx hb dL_law_12 rfl hl (by decide) rfl (fun ls hl => ?_)
  refine lv_bipush (v := (56 : Int32)) hx hb dL_law_13 (by decide) ?_
  refine kw_newa (atype := .int) (a0 := (56, .inl (fun _ => 0))) (n := (56 : Int32)) (N' := 56) hx hb (hts _ q_1_3) rfl hK 0 rfl hW hS hA (fun _ => rfl) (by decide) (by decide) (by decide) (Nat.le_of_ble_eq_true rfl) (Nat.le_of_ble_eq_true rfl) dL_law_15 (fun pf H hpf npf epf hW hS => ?_)
  have spf := SPL.new spa npf (.inl (ct 0, 56, .inl (fun _ => 0)))
  rw [← epf] at spf
  refine lv_astore_n (lv' := [(3, .ref pf), (2, .ref pa), (1, .ref ax), (0, .ref b)]) hx hb dL_law_17 rfl hl (by decide) rfl (fun ls hl => ?_)
  refine lv_bipush (v := (8 : Int32)) hx hb dL_law_18 (by decide) ?_
  refine kw_newa (atype := .int) (a0 := (8, .inl (fun _ => 0))) (n := (8 : Int32)) (N' := 8) hx hb (hts _ q_1_3) rfl hK 0 rfl hW hS hA (fun _ => rfl) (by decide) (by decide) (by decide) (Nat.le_of_ble_eq_true rfl) (Nat.le_of_ble_eq_true rfl) dL_law_20 (fun pt H hpt npt ept hW hS => ?_)
  have spt := SPL.new spf npt (.inl (ct 0, 8, .inl (fun _ => 0)))
  rw [← ept] at spt
  refine lv_astore (lv' := [(4, .ref pt), (3, .ref pf), (2, .ref pa), (1, .ref ax), (0, .ref b)]) hx hb dL_law_22 hl (by decide) rfl (fun ls hl => ?_)
  refine lv_iconst (v := (2 : Int32)) hx hb dL_law_24 (by decide) ?_
  refine kw_newa (atype := .long) (a0 := (2, .inr (.inl (fun _ => 0)))) (n := (2 : Int32)) (N' := 2) hx hb (hts _ q_1_4) rfl hK 1 rfl hW hS hA (fun _ => rfl) (by decide) (by decide) (by decide) (Nat.le_of_ble_eq_true rfl) (Nat.le_of_ble_eq_true rfl) dL_law_25 (fun pl H hpl npl epl hW hS => ?_)
  have spl := SPL.new spt npl (.inl (ct 1, 2, .inr (.inl (fun _ => 0))))
  rw [← epl] at spl
  refine lv_astore (lv' := [(5, .ref pl), (4, .ref pt), (3, .ref pf), (2, .ref pa), (1, .ref ax), (0, .ref b)]) hx hb dL_law_27 hl (by decide) rfl (fun ls hl => ?_)
  refine lv_bipush (v := (64 : Int32)) hx hb dL_law_29 (by decide) ?_
  refine kw_newa (atype := .long) (a0 := (64, .inr (.inl (fun _ => 0)))) (n := (64 : Int32)) (N' := 64) hx hb (hts _ q_1_4) rfl hK 1 rfl hW hS hA (fun _ => rfl) (by decide) (by decide) (by decide) (Nat.le_of_ble_eq_true rfl) (Nat.le_of_ble_eq_true rfl) dL_law_31 (fun pw H hpw npw epw hW hS => ?_)
  have spw := SPL.new spl npw (.inl (ct 1, 64, .inr (.inl (fun _ => 0))))
  rw [← epw] at spw
  refine lv_astore (lv' := [(6, .ref pw), (5, .ref pl), (4, .ref pt), (3, .ref pf), (2, .ref pa), (1, .ref ax), (0, .ref b)]) hx hb dL_law_33 hl (by decide) rfl (fun ls hl => ?_)
  refine lv_iconst (v := (0 : Int32)) hx hb dL_law_35 (by decide) ?_
  refine lv_istore (lv' := [(7, .int (0 : Int32)), (6, .ref pw), (5, .ref pl), (4, .ref pt), (3, .ref pf), (2, .ref pa), (1, .ref ax), (0, .ref b)]) hx hb dL_law_36 hl (by decide) rfl (fun ls hl => ?_)
  have hl0 : LH ct pa pf pt pl pw hc [] (ini 0) (fun _ => 0) (fun _ => 0) (fun _ => 0) (fun _ => 0) hpw := by
    have e0 : ini 0 = fun _ => 0 := funext fun i => if_neg (Nat.not_lt_zero i)
    rw [e0]
    exact spw
  refine W.widen (k := 23) (n := 394) (Nat.le_of_ble_eq_true rfl) (Nat.le_of_ble_eq_true rfl) ?_
  refine law_fill C0 hK (hc := hc) (F1 := fun _ => 0) (T1 := fun _ => 0) (L1 := fun _ => 0) (V1 := fun _ => 0) (fun h3 H3 locs3 ls hl3 hW hS hl => ?_) 36 0 (Nat.zero_le _) (by decide) hpw H _ ls hl0 hW hS (lv_sub hl [7, 6, 5, 4, 3, 2, 1, 0] rfl)
  refine lv_aload_n hx hb dL_law_69 rfl (lv_at hl 2 rfl) ?_
  refine lv_bipush (v := (35 : Int32)) hx hb dL_law_70 (by decide) ?_
  refine lv_sipush (v := (200 : Int32)) hx hb dL_law_72 (by decide) ?_
  refine kw_iast hx hb hK hW hS 0 hl3.a rfl (i := (35 : Int32)) (x := (200 : Int32)) (by decide +kernel) dL_law_75 (fun H4 locs4 h4 e4 hW hS => ?_)
  have e4 : h4 = hup h3 pa (.inl (ct 0, 36, .inl (upd (ini 35) 35 200))) := e4
  have hl4 := hl3.ua (upd (ini 35) 35 200)
  rw [← e4] at hl4
  refine lv_iconst (v := (0 : Int32)) hx hb dL_law_76 (by decide) ?_
  refine lv_istore (lv' := [(7, .int (0 : Int32)), (0, .ref b), (1, .ref ax), (2, .ref pa), (3, .ref pf), (4, .ref pt), (5, .ref pl), (6, .ref pw)]) hx hb dL_law_77 hl (by decide) rfl (fun ls hl => ?_)
  refine W.base ?_
  exact law_loop (D := (dC, dI)) hL C0 hK hN hZ 51 0 rfl (by decide) hc h4 DSn _ _ _ _ _ s.drawn hd0 hl4 hO RA_n ⟨(fun x hx => by cases hx), fun c _ _ => Nat.zero_le _⟩ H4 locs4 hW hS ls (lv_sub hl [1, 2, 3, 4, 5, 6, 7, 0] rfl)
