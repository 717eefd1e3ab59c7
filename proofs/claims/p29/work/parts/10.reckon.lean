/-! Reckoner.reckon, planSet over its cells and what it reads: laid by wip/whole/gen.py -/
section GRID
variable {p : Program} {l : Launch} {e : Env} {R : Room} {s : State} {m : MethodId} {args : Array Value} {below : List Frame} {meth : Method} {c : Code} {H : Heap} {locs : List Loc} {cells slots : Nat} {Q : State → Prop}
variable {cc : ByteArray} {pc : Nat} {ls : Array Slot} {rest : List Value} {D : va_G} {cl : List vw_C} {a : Nat} {tys : List (ClassId × FieldType)} {ws : va_W}
/-- a row of a grid -/
theorem kg_aald (hexec : p.tables.exec = Jvm.exec) (hb : c.code = cc) (hK : va_K D cl tys s) (hP : va_P D cl ws H) (q0 t0 : Nat) {cA : ClassId} {n r : Nat} {f : Nat → Option Nat} (ha : ws[q0]? = some (a, .inl (cA, n, .inr (.inr (.inr (.inr f)))))) (ht : tys[t0]? = some (cA, .array .int)) {i : Int32} (hin : vp_in i n) (hf : f i.toNatClampNeg = some r) (hdg : decode cc pc = .ok (.aaload, 1))
    (kk : W p l e R s m args below meth c H locs cells slots Q (F0 m (pc + 1) ls (.ref r :: rest))) : W p l e R s m args below meth c H locs cells slots Q (F0 m pc ls (.int i :: .ref a :: rest)) := by
  have hlt : i.toNatClampNeg < n := Nat.not_le.mp fun q => hin (Or.inr q)
  have k2 : W p l e R s m args below meth c H locs cells slots Q (F0 m (pc + 1) ls (va_rf (f i.toNatClampNeg) :: rest)) := by rw [hf]; exact kk
  exact W.aald (v := va_rf (f i.toNatClampNeg)) (ty := .array .int) hexec hb (hP q0 _ ha) ((hK.2 t0 _ ht).1 n (fun j => va_rf (f j))) rfl (fun q => by cases q) (by show ¬ (i < 0 ∨ (arrV _ _ _).slots.size ≤ _); rw [arrV_size]; exact hin) (by show (arrV _ _ _).slots[_]? = _; rw [arrV_read _ _ hlt]) rfl rfl hdg k2
end GRID
abbrev QW2 (o : Nat → Nat) (ct : Nat → ClassId) (k_products : Nat → Int64) (k_leastCosts : Nat → Int64) (k_bestOrders : Nat → Int32) (k_numbers : Nat → Int32) (k_parts : Nat → Nat → Int32) : va_W := [((o 0), .inr (4, [.ref (o 1), .ref (o 2), .ref (o 3)])), ((o 1), .inl ((ct 1), 32, .inr (.inl k_products))), ((o 2), .inl ((ct 1), 32, .inr (.inl k_leastCosts))), ((o 3), .inl ((ct 0), 32, .inl k_bestOrders)), ((o 4), .inl ((ct 0), 5, .inl k_numbers)), ((o 5), .inl ((ct 4), 5, .inr (.inr (.inr (.inr (fun i => if i < 5 then some (o (i + 6)) else none)))))), ((o 6), .inl ((ct 0), 5, .inl (k_parts 0))), ((o 7), .inl ((ct 0), 5, .inl (k_parts 1))), ((o 8), .inl ((ct 0), 5, .inl (k_parts 2))), ((o 9), .inl ((ct 0), 5, .inl (k_parts 3))), ((o 10), .inl ((ct 0), 5, .inl (k_parts 4)))]
theorem gridrow {o : Nat → Nat} {ct : Nat → ClassId} {k_products : Nat → Int64} {k_leastCosts : Nat → Int64} {k_bestOrders : Nat → Int32} {k_numbers : Nat → Int32} {k_parts : Nat → Nat → Int32} {i : Nat} (h : i < 5) : (QW2 o ct k_products k_leastCosts k_bestOrders k_numbers k_parts)[i + 6]? = some (o (i + 6), .inl (ct 0, 5, .inl (k_parts i))) := by
  rcases (show i = 0 ∨ i = 1 ∨ i = 2 ∨ i = 3 ∨ i = 4 by omega) with rfl | rfl | rfl | rfl | rfl <;> rfl
theorem k_X3_planSet : VOk yX3_planSet cX3_planSet 10 none 1 := ⟨q_14_7, q_14_5, q_14_6, q_1_23, by decide +kernel⟩
theorem k_X3_reckon : VOk yX3_reckon cX3_reckon 8 none 2 := ⟨q_14_2, q_14_0, q_14_1, q_1_23, by decide +kernel⟩
def f_X3_planSet_L10b (a1 : Int32) (k_products : Nat → Int64)  (k10 : Int64 → Int32 → Int32 → (Nat → Int64) → (Nat → Int32) → Option ((Nat → Int64) × (Nat → Int32))) (x2 : Int64) (x4 : Int32) (x5 : Int32) (k_leastCosts : Nat → Int64) (k_bestOrders : Nat → Int32) : Option ((Nat → Int64) × (Nat → Int32)) :=
  if (5 : Int32) ≤ x5 then bnd (f_X5_isSet a1 ) (fun q2 => if q2 = (0 : Int32) then some (k_leastCosts, k_bestOrders)
  else grd (inb a1 32) (grd (inb a1 32) (grd (inb a1 32) (some ((vp_updL k_leastCosts a1.toNatClampNeg (x2 + (if (1 : Int64) < (k_products a1.toNatClampNeg) then (k_products a1.toNatClampNeg) else (1 : Int64)))), (upd k_bestOrders a1.toNatClampNeg x4))))))
  else bnd (f_X5_bit x5 ) (fun q7 => bnd (f_X5_has a1 x5 ) (fun q8 => if q8 = (0 : Int32) then k10 x2 x4 (x5 + (1 : Int32)) k_leastCosts k_bestOrders
  else if (a1 - q7) < (0 : Int32) then k10 x2 x4 (x5 + (1 : Int32)) k_leastCosts k_bestOrders
  else if (32 : Int32) ≤ (a1 - q7) then k10 x2 x4 (x5 + (1 : Int32)) k_leastCosts k_bestOrders
  else grd (inb (a1 - q7) 32) (bnd (f_X5_longerOrder (k_bestOrders (a1 - q7).toNatClampNeg) x5 ) (fun q13 => grd (inb (a1 - q7) 32) (if (lg_cmp (k_leastCosts (a1 - q7).toNatClampNeg) x2) < (0 : Int32) then k10 (k_leastCosts (a1 - q7).toNatClampNeg) q13 (x5 + (1 : Int32)) k_leastCosts k_bestOrders
  else if (lg_cmp (k_leastCosts (a1 - q7).toNatClampNeg) x2) = (0 : Int32) then if x4 ≤ q13 then k10 x2 x4 (x5 + (1 : Int32)) k_leastCosts k_bestOrders
  else k10 (k_leastCosts (a1 - q7).toNatClampNeg) q13 (x5 + (1 : Int32)) k_leastCosts k_bestOrders
  else k10 x2 x4 (x5 + (1 : Int32)) k_leastCosts k_bestOrders)))))
def f_X3_planSet_L10 (a1 : Int32) (k_products : Nat → Int64)  : Nat → Int64 → Int32 → Int32 → (Nat → Int64) → (Nat → Int32) → Option ((Nat → Int64) × (Nat → Int32))
  | 0 => fun _ _ _ _ _ => none
  | n + 1 => f_X3_planSet_L10b a1 k_products  (f_X3_planSet_L10 a1 k_products  n)
def f_X3_planSet (a1 : Int32) (k_products : Nat → Int64) (k_leastCosts : Nat → Int64) (k_bestOrders : Nat → Int32) : Option ((Nat → Int64) × (Nat → Int32)) :=
  f_X3_planSet_L10 a1 k_products  1024 (9223372036854775807 : Int64) (0 : Int32) (0 : Int32) k_leastCosts k_bestOrders
set_option maxRecDepth 100000 in
set_option maxHeartbeats 4000000 in
theorem c_X3_planSet (l : Launch) (D : va_G) (o : Nat → Nat) (ct : Nat → ClassId) (a1 : Int32) (k_products : Nat → Int64) (k_leastCosts : Nat → Int64) (k_bestOrders : Nat → Int32) (k_numbers : Nat → Int32) (k_parts : Nat → Nat → Int32) (q : (Nat → Int64) × (Nat → Int32)) (h : f_X3_planSet a1 k_products k_leastCosts k_bestOrders = some q) : CG l yX3_planSet cX3_planSet 10 1 none D (tysK ct) [.ref (o 0), .int a1] none (QW2 o ct k_products k_leastCosts k_bestOrders k_numbers k_parts) (QW2 o ct k_products q.1 q.2 k_numbers k_parts) := by
  refine CG.mkV (by decide) (Nat.le_of_ble_eq_true rfl) ?_
  intro p e s m below meth c Q A B hK hN hDD hA hret hP hS ls hl
  have B0 := B
  obtain ⟨hx, hb, hml, hown, hts⟩ := B0
  have hl : lv_has ls 10 [(0, .ref (o 0)), (1, .int a1)] := hl
  have hL10 : ∀ (n10 : Nat) (x2 : Int64) (x4 : Int32) (x5 : Int32) (k_leastCosts : Nat → Int64) (k_bestOrders : Nat → Int32) (ls : Array Slot) (H : Heap) (locs : List Loc), f_X3_planSet_L10 a1 k_products  n10 x2 x4 x5 k_leastCosts k_bestOrders = some q → va_P D vwCl (QW2 o ct k_products k_leastCosts k_bestOrders k_numbers k_parts) H → va_S A s.heap H locs → lv_has ls 10 [(0, .ref (o 0)), (1, .int a1), (2, .long x2), (4, .int x4), (5, .int x5)] → W p l e (rmF 1 0 0) s m ([.ref (o 0), .int a1] : List Value).toArray below meth c H locs 0 0 Q (F0 m 10 ls []) := by
    intro n10
    induction n10 with
    | zero =>
      intro x2 x4 x5 k_leastCosts k_bestOrders ls H locs h
      exact absurd (show (none : Option ((Nat → Int64) × (Nat → Int32))) = some q from h) (by intro h; cases h)
    | succ n10 ih10 =>
      intro x2 x4 x5 k_leastCosts k_bestOrders ls H locs h hP hS hl
      have h : f_X3_planSet_L10b a1 k_products  (f_X3_planSet_L10 a1 k_products  n10) x2 x4 x5 k_leastCosts k_bestOrders = some q := h
      unfold f_X3_planSet_L10b at h
      refine lv_iload hx hb dX3_planSet_10 (lv_at hl 4 rfl) ?_
      refine lv_iconst (v := (5 : Int32)) hx hb dX3_planSet_12 (by decide) ?_
      refine lv_icmp_ge (tgt := 103) hx hb dX3_planSet_13 (by decide) (fun c1 => ?_) (fun c1 => ?_)
      · have h := ift c1 h
        refine lv_iload_n hx hb dX3_planSet_103 rfl (lv_at hl 1 rfl) ?_
        obtain ⟨q2, e2, h⟩ := bnd_some h
        refine n_call (As := [.int a1]) (rest := []) (c_X5_isSet l a1 q2 e2) B hN k_X5_isSet (List.mem_of_getElem? (i := 6) rfl) rfl ⟨Nat.le_of_ble_eq_true rfl, Nat.le_of_ble_eq_true rfl⟩ ⟨Nat.le_refl _, Nat.le_refl _⟩ hl.1 rfl (Nat.le_of_ble_eq_true rfl) dX3_planSet_104 ?_
        refine lv_if_eq (tgt := 136) hx hb dX3_planSet_107 (by decide) (fun c3 => ?_) (fun c3 => ?_)
        · have h := ift c3 h
          obtain rfl := Option.some.inj h
          exact hret _ _ _ _ dX3_planSet_136 hP hS
        · have h := ifn c3 h
          refine lv_aload_n hx hb dX3_planSet_110 rfl (lv_at hl 0 rfl) ?_
          refine va_get (D := D) (ci := 4) (v := .ref (o 2)) (C := RX3) (T := TX3) (N := 3) hx hb hts inlX3 hown hK hP 0 rfl rfl 1 (by decide) (hts _ q_3_15) (fun _ h9 => h9) rfl dX3_planSet_111 ?_
          refine lv_iload_n hx hb dX3_planSet_114 rfl (lv_at hl 1 rfl) ?_
          refine lv_lload_n hx hb dX3_planSet_115 rfl (lv_at hl 2 rfl) ?_
          refine lv_aload_n hx hb dX3_planSet_116 rfl (lv_at hl 0 rfl) ?_
          refine va_get (D := D) (ci := 4) (v := .ref (o 1)) (C := RX3) (T := TX3) (N := 3) hx hb hts inlX3 hown hK hP 0 rfl rfl 0 (by decide) (hts _ q_3_14) (fun _ h9 => h9) rfl dX3_planSet_117 ?_
          refine lv_iload_n hx hb dX3_planSet_120 rfl (lv_at hl 1 rfl) ?_
          obtain ⟨g4, h⟩ := grd_some h
          refine va_lald hx hb hK hP 1 1 rfl rfl (inb_in g4) dX3_planSet_121 ?_
          refine lv_lconst (v := (1 : Int64)) hx hb dX3_planSet_122 (by decide) ?_
          refine va_mmax_long hx hb (hml.trans hl.1.symm) hown (hts _ q_14_9) (hts _ q_14_10) (hts _ q_7_1) (hts _ q_14_11) (Nat.le_of_ble_eq_true rfl) (Nat.le_of_ble_eq_true rfl) (Nat.le_refl _) (Nat.le_refl _) dX3_planSet_123 ?_
          refine lv_ladd hx hb dX3_planSet_126 ?_
          obtain ⟨g5, h⟩ := grd_some h
          refine va_last hx hb hK hP (hDD _ rfl) hS 2 1 rfl rfl (inb_in g5) dX3_planSet_127 (fun H locs hP _ hS => ?_)
          have hP : va_P D vwCl (QW2 o ct k_products (vp_updL k_leastCosts a1.toNatClampNeg (x2 + (if (1 : Int64) < (k_products a1.toNatClampNeg) then (k_products a1.toNatClampNeg) else (1 : Int64)))) k_bestOrders k_numbers k_parts) H := hP
          refine lv_aload_n hx hb dX3_planSet_128 rfl (lv_at hl 0 rfl) ?_
          refine va_get (D := D) (ci := 4) (v := .ref (o 3)) (C := RX3) (T := TX3) (N := 3) hx hb hts inlX3 hown hK hP 0 rfl rfl 2 (by decide) (hts _ q_3_16) (fun _ h9 => h9) rfl dX3_planSet_129 ?_
          refine lv_iload_n hx hb dX3_planSet_132 rfl (lv_at hl 1 rfl) ?_
          refine lv_iload hx hb dX3_planSet_133 (lv_at hl 3 rfl) ?_
          obtain ⟨g6, h⟩ := grd_some h
          refine va_iast hx hb hK hP (hDD _ rfl) hS 3 0 rfl rfl (inb_in g6) dX3_planSet_135 (fun H locs hP _ hS => ?_)
          have hP : va_P D vwCl (QW2 o ct k_products (vp_updL k_leastCosts a1.toNatClampNeg (x2 + (if (1 : Int64) < (k_products a1.toNatClampNeg) then (k_products a1.toNatClampNeg) else (1 : Int64)))) (upd k_bestOrders a1.toNatClampNeg x4) k_numbers k_parts) H := hP
          obtain rfl := Option.some.inj h
          exact hret _ _ _ _ dX3_planSet_136 hP hS
      · have h := ifn c1 h
        refine lv_iload_n hx hb dX3_planSet_16 rfl (lv_at hl 1 rfl) ?_
        refine lv_iload hx hb dX3_planSet_17 (lv_at hl 4 rfl) ?_
        obtain ⟨q7, e7, h⟩ := bnd_some h
        refine n_call (As := [.int x5]) (rest := [.int a1]) (c_X5_bit l x5 q7 e7) B hN k_X5_bit (List.mem_of_getElem? (i := 3) rfl) rfl ⟨Nat.le_of_ble_eq_true rfl, Nat.le_of_ble_eq_true rfl⟩ ⟨Nat.le_refl _, Nat.le_refl _⟩ hl.1 rfl (Nat.le_of_ble_eq_true rfl) dX3_planSet_19 ?_
        refine lv_isub hx hb dX3_planSet_22 ?_
        refine lv_istore (lv' := [(6, .int (a1 - q7)), (0, .ref (o 0)), (1, .int a1), (2, .long x2), (4, .int x4), (5, .int x5)]) hx hb dX3_planSet_23 hl (by decide) rfl (fun ls hl => ?_)
        refine lv_iload_n hx hb dX3_planSet_25 rfl (lv_at hl 2 rfl) ?_
        refine lv_iload hx hb dX3_planSet_26 (lv_at hl 5 rfl) ?_
        obtain ⟨q8, e8, h⟩ := bnd_some h
        refine n_call (As := [.int a1, .int x5]) (rest := []) (c_X5_has l a1 x5 q8 e8) B hN k_X5_has (List.mem_of_getElem? (i := 4) rfl) rfl ⟨Nat.le_of_ble_eq_true rfl, Nat.le_of_ble_eq_true rfl⟩ ⟨Nat.le_refl _, Nat.le_refl _⟩ hl.1 rfl (Nat.le_of_ble_eq_true rfl) dX3_planSet_28 ?_
        refine lv_if_eq (tgt := 97) hx hb dX3_planSet_31 (by decide) (fun c9 => ?_) (fun c9 => ?_)
        · have h := ift c9 h
          refine lv_iinc (v := (x5 + (1 : Int32))) (lv' := [(5, .int (x5 + (1 : Int32))), (6, .int (a1 - q7)), (0, .ref (o 0)), (1, .int a1), (2, .long x2), (4, .int x4)]) hx hb dX3_planSet_97 hl (k := 5) rfl (congrArg (HAdd.hAdd x5) (by decide)) (by decide) rfl (fun ls hl => ?_)
          refine lv_goto (tgt := 10) hx hb dX3_planSet_100 (by decide) ?_
          exact ih10 x2 x4 (x5 + (1 : Int32)) k_leastCosts k_bestOrders _ _ _ h hP hS (lv_sub hl [2, 3, 4, 5, 0] rfl)
        · have h := ifn c9 h
          refine lv_iload hx hb dX3_planSet_34 (lv_at hl 0 rfl) ?_
          refine lv_if_lt (tgt := 97) hx hb dX3_planSet_36 (by decide) (fun c10 => ?_) (fun c10 => ?_)
          · have h := ift c10 h
            refine lv_iinc (v := (x5 + (1 : Int32))) (lv' := [(5, .int (x5 + (1 : Int32))), (6, .int (a1 - q7)), (0, .ref (o 0)), (1, .int a1), (2, .long x2), (4, .int x4)]) hx hb dX3_planSet_97 hl (k := 5) rfl (congrArg (HAdd.hAdd x5) (by decide)) (by decide) rfl (fun ls hl => ?_)
            refine lv_goto (tgt := 10) hx hb dX3_planSet_100 (by decide) ?_
            exact ih10 x2 x4 (x5 + (1 : Int32)) k_leastCosts k_bestOrders _ _ _ h hP hS (lv_sub hl [2, 3, 4, 5, 0] rfl)
          · have h := ifn c10 h
            refine lv_iload hx hb dX3_planSet_39 (lv_at hl 0 rfl) ?_
            refine lv_bipush (v := (32 : Int32)) hx hb dX3_planSet_41 (by decide) ?_
            refine lv_icmp_ge (tgt := 97) hx hb dX3_planSet_43 (by decide) (fun c11 => ?_) (fun c11 => ?_)
            · have h := ift c11 h
              refine lv_iinc (v := (x5 + (1 : Int32))) (lv' := [(5, .int (x5 + (1 : Int32))), (6, .int (a1 - q7)), (0, .ref (o 0)), (1, .int a1), (2, .long x2), (4, .int x4)]) hx hb dX3_planSet_97 hl (k := 5) rfl (congrArg (HAdd.hAdd x5) (by decide)) (by decide) rfl (fun ls hl => ?_)
              refine lv_goto (tgt := 10) hx hb dX3_planSet_100 (by decide) ?_
              exact ih10 x2 x4 (x5 + (1 : Int32)) k_leastCosts k_bestOrders _ _ _ h hP hS (lv_sub hl [2, 3, 4, 5, 0] rfl)
            · have h := ifn c11 h
              refine lv_aload_n hx hb dX3_planSet_46 rfl (lv_at hl 1 rfl) ?_
              refine va_get (D := D) (ci := 4) (v := .ref (o 3)) (C := RX3) (T := TX3) (N := 3) hx hb hts inlX3 hown hK hP 0 rfl rfl 2 (by decide) (hts _ q_3_16) (fun _ h9 => h9) rfl dX3_planSet_47 ?_
              refine lv_iload hx hb dX3_planSet_50 (lv_at hl 0 rfl) ?_
              obtain ⟨g12, h⟩ := grd_some h
              refine va_iald hx hb hK hP 3 0 rfl rfl (inb_in g12) dX3_planSet_52 ?_
              refine lv_iload hx hb dX3_planSet_53 (lv_at hl 5 rfl) ?_
              obtain ⟨q13, e13, h⟩ := bnd_some h
              refine n_call (As := [.int (k_bestOrders (a1 - q7).toNatClampNeg), .int x5]) (rest := []) (c_X5_longerOrder l (k_bestOrders (a1 - q7).toNatClampNeg) x5 q13 e13) B hN k_X5_longerOrder (List.mem_of_getElem? (i := 5) rfl) rfl ⟨Nat.le_of_ble_eq_true rfl, Nat.le_of_ble_eq_true rfl⟩ ⟨Nat.le_refl _, Nat.le_refl _⟩ hl.1 rfl (Nat.le_of_ble_eq_true rfl) dX3_planSet_55 ?_
              refine lv_istore (lv' := [(7, .int q13), (6, .int (a1 - q7)), (0, .ref (o 0)), (1, .int a1), (2, .long x2), (4, .int x4), (5, .int x5)]) hx hb dX3_planSet_58 hl (by decide) rfl (fun ls hl => ?_)
              refine lv_aload_n hx hb dX3_planSet_60 rfl (lv_at hl 2 rfl) ?_
              refine va_get (D := D) (ci := 4) (v := .ref (o 2)) (C := RX3) (T := TX3) (N := 3) hx hb hts inlX3 hown hK hP 0 rfl rfl 1 (by decide) (hts _ q_3_15) (fun _ h9 => h9) rfl dX3_planSet_61 ?_
              refine lv_iload hx hb dX3_planSet_64 (lv_at hl 1 rfl) ?_
              obtain ⟨g14, h⟩ := grd_some h
              refine va_lald hx hb hK hP 2 1 rfl rfl (inb_in g14) dX3_planSet_66 ?_
              refine lv_lstore (lv' := [(8, .long (k_leastCosts (a1 - q7).toNatClampNeg)), (7, .int q13), (6, .int (a1 - q7)), (0, .ref (o 0)), (1, .int a1), (2, .long x2), (4, .int x4), (5, .int x5)]) hx hb dX3_planSet_67 hl (by decide) rfl (fun ls hl => ?_)
              refine lv_lload hx hb dX3_planSet_69 (lv_at hl 0 rfl) ?_
              refine lv_lload_n hx hb dX3_planSet_71 rfl (lv_at hl 5 rfl) ?_
              refine W.lcmp hx hb dX3_planSet_72 ?_
              refine lv_if_lt (tgt := 90) hx hb dX3_planSet_73 (by decide) (fun c15 => ?_) (fun c15 => ?_)
              · have h := ift c15 h
                refine lv_lload hx hb dX3_planSet_90 (lv_at hl 0 rfl) ?_
                refine lv_lstore_n (lv' := [(2, .long (k_leastCosts (a1 - q7).toNatClampNeg)), (8, .long (k_leastCosts (a1 - q7).toNatClampNeg)), (7, .int q13), (6, .int (a1 - q7)), (0, .ref (o 0)), (1, .int a1), (4, .int x4), (5, .int x5)]) hx hb dX3_planSet_92 rfl hl (by decide) rfl (fun ls hl => ?_)
                refine lv_iload hx hb dX3_planSet_93 (lv_at hl 2 rfl) ?_
                refine lv_istore (lv' := [(4, .int q13), (2, .long (k_leastCosts (a1 - q7).toNatClampNeg)), (8, .long (k_leastCosts (a1 - q7).toNatClampNeg)), (7, .int q13), (6, .int (a1 - q7)), (0, .ref (o 0)), (1, .int a1), (5, .int x5)]) hx hb dX3_planSet_95 hl (by decide) rfl (fun ls hl => ?_)
                refine lv_iinc (v := (x5 + (1 : Int32))) (lv' := [(5, .int (x5 + (1 : Int32))), (4, .int q13), (2, .long (k_leastCosts (a1 - q7).toNatClampNeg)), (8, .long (k_leastCosts (a1 - q7).toNatClampNeg)), (7, .int q13), (6, .int (a1 - q7)), (0, .ref (o 0)), (1, .int a1)]) hx hb dX3_planSet_97 hl (k := 7) rfl (congrArg (HAdd.hAdd x5) (by decide)) (by decide) rfl (fun ls hl => ?_)
                refine lv_goto (tgt := 10) hx hb dX3_planSet_100 (by decide) ?_
                exact ih10 (k_leastCosts (a1 - q7).toNatClampNeg) q13 (x5 + (1 : Int32)) k_leastCosts k_bestOrders _ _ _ h hP hS (lv_sub hl [6, 7, 2, 1, 0] rfl)
              · have h := ifn c15 h
                refine lv_lload hx hb dX3_planSet_76 (lv_at hl 0 rfl) ?_
                refine lv_lload_n hx hb dX3_planSet_78 rfl (lv_at hl 5 rfl) ?_
                refine W.lcmp hx hb dX3_planSet_79 ?_
                refine lv_if_ne (tgt := 97) hx hb dX3_planSet_80 (by decide) (fun c16 => ?_) (fun c16 => ?_)
                · have h := ifn c16 h
                  refine lv_iinc (v := (x5 + (1 : Int32))) (lv' := [(5, .int (x5 + (1 : Int32))), (8, .long (k_leastCosts (a1 - q7).toNatClampNeg)), (7, .int q13), (6, .int (a1 - q7)), (0, .ref (o 0)), (1, .int a1), (2, .long x2), (4, .int x4)]) hx hb dX3_planSet_97 hl (k := 7) rfl (congrArg (HAdd.hAdd x5) (by decide)) (by decide) rfl (fun ls hl => ?_)
                  refine lv_goto (tgt := 10) hx hb dX3_planSet_100 (by decide) ?_
                  exact ih10 x2 x4 (x5 + (1 : Int32)) k_leastCosts k_bestOrders _ _ _ h hP hS (lv_sub hl [4, 5, 6, 7, 0] rfl)
                · have h := ift c16 h
                  refine lv_iload hx hb dX3_planSet_83 (lv_at hl 1 rfl) ?_
                  refine lv_iload hx hb dX3_planSet_85 (lv_at hl 6 rfl) ?_
                  refine lv_icmp_ge (tgt := 97) hx hb dX3_planSet_87 (by decide) (fun c17 => ?_) (fun c17 => ?_)
                  · have h := ift c17 h
                    refine lv_iinc (v := (x5 + (1 : Int32))) (lv' := [(5, .int (x5 + (1 : Int32))), (8, .long (k_leastCosts (a1 - q7).toNatClampNeg)), (7, .int q13), (6, .int (a1 - q7)), (0, .ref (o 0)), (1, .int a1), (2, .long x2), (4, .int x4)]) hx hb dX3_planSet_97 hl (k := 7) rfl (congrArg (HAdd.hAdd x5) (by decide)) (by decide) rfl (fun ls hl => ?_)
                    refine lv_goto (tgt := 10) hx hb dX3_planSet_100 (by decide) ?_
                    exact ih10 x2 x4 (x5 + (1 : Int32)) k_leastCosts k_bestOrders _ _ _ h hP hS (lv_sub hl [4, 5, 6, 7, 0] rfl)
                  · have h := ifn c17 h
                    refine lv_lload hx hb dX3_planSet_90 (lv_at hl 0 rfl) ?_
                    refine lv_lstore_n (lv' := [(2, .long (k_leastCosts (a1 - q7).toNatClampNeg)), (8, .long (k_leastCosts (a1 - q7).toNatClampNeg)), (7, .int q13), (6, .int (a1 - q7)), (0, .ref (o 0)), (1, .int a1), (4, .int x4), (5, .int x5)]) hx hb dX3_planSet_92 rfl hl (by decide) rfl (fun ls hl => ?_)
                    refine lv_iload hx hb dX3_planSet_93 (lv_at hl 2 rfl) ?_
                    refine lv_istore (lv' := [(4, .int q13), (2, .long (k_leastCosts (a1 - q7).toNatClampNeg)), (8, .long (k_leastCosts (a1 - q7).toNatClampNeg)), (7, .int q13), (6, .int (a1 - q7)), (0, .ref (o 0)), (1, .int a1), (5, .int x5)]) hx hb dX3_planSet_95 hl (by decide) rfl (fun ls hl => ?_)
                    refine lv_iinc (v := (x5 + (1 : Int32))) (lv' := [(5, .int (x5 + (1 : Int32))), (4, .int q13), (2, .long (k_leastCosts (a1 - q7).toNatClampNeg)), (8, .long (k_leastCosts (a1 - q7).toNatClampNeg)), (7, .int q13), (6, .int (a1 - q7)), (0, .ref (o 0)), (1, .int a1)]) hx hb dX3_planSet_97 hl (k := 7) rfl (congrArg (HAdd.hAdd x5) (by decide)) (by decide) rfl (fun ls hl => ?_)
                    refine lv_goto (tgt := 10) hx hb dX3_planSet_100 (by decide) ?_
                    exact ih10 (k_leastCosts (a1 - q7).toNatClampNeg) q13 (x5 + (1 : Int32)) k_leastCosts k_bestOrders _ _ _ h hP hS (lv_sub hl [6, 7, 2, 1, 0] rfl)
  unfold f_X3_planSet at h
  refine lv_ldc2 (v := (9223372036854775807 : Int64)) hx hb hown (hts _ q_14_8) dX3_planSet_0 ?_
  refine lv_lstore_n (lv' := [(2, .long (9223372036854775807 : Int64)), (0, .ref (o 0)), (1, .int a1)]) hx hb dX3_planSet_3 rfl hl (by decide) rfl (fun ls hl => ?_)
  refine lv_iconst (v := (0 : Int32)) hx hb dX3_planSet_4 (by decide) ?_
  refine lv_istore (lv' := [(4, .int (0 : Int32)), (2, .long (9223372036854775807 : Int64)), (0, .ref (o 0)), (1, .int a1)]) hx hb dX3_planSet_5 hl (by decide) rfl (fun ls hl => ?_)
  refine lv_iconst (v := (0 : Int32)) hx hb dX3_planSet_7 (by decide) ?_
  refine lv_istore (lv' := [(5, .int (0 : Int32)), (4, .int (0 : Int32)), (2, .long (9223372036854775807 : Int64)), (0, .ref (o 0)), (1, .int a1)]) hx hb dX3_planSet_8 hl (by decide) rfl (fun ls hl => ?_)
  exact hL10 1024 (9223372036854775807 : Int64) (0 : Int32) (0 : Int32) k_leastCosts k_bestOrders _ _ _ h hP hS (lv_sub hl [3, 4, 2, 1, 0] rfl)

def f_X3_reckon_L102b  (k_numbers : Nat → Int32) (k_parts : Nat → Nat → Int32)  (k102 : Int32 → (Nat → Int64) → (Nat → Int64) → (Nat → Int32) → Option ((Nat → Int64) × (Nat → Int64) × (Nat → Int32))) (x3 : Int32) (k_products : Nat → Int64) (k_leastCosts : Nat → Int64) (k_bestOrders : Nat → Int32) : Option ((Nat → Int64) × (Nat → Int64) × (Nat → Int32)) :=
  if (32 : Int32) ≤ x3 then some (k_products, k_leastCosts, k_bestOrders)
  else bnd (f_X3_planSet x3 k_products k_leastCosts k_bestOrders) (fun q3 => k102 (x3 + (1 : Int32)) k_products q3.1 q3.2)
def f_X3_reckon_L102  (k_numbers : Nat → Int32) (k_parts : Nat → Nat → Int32)  : Nat → Int32 → (Nat → Int64) → (Nat → Int64) → (Nat → Int32) → Option ((Nat → Int64) × (Nat → Int64) × (Nat → Int32))
  | 0 => fun _ _ _ _ => none
  | n + 1 => f_X3_reckon_L102b k_numbers k_parts  (f_X3_reckon_L102 k_numbers k_parts  n)
def f_X3_reckon_L36b  (k_numbers : Nat → Int32) (k_parts : Nat → Nat → Int32) (k2 : Int32 → (Nat → Int64) → (Nat → Int64) → (Nat → Int32) → Option ((Nat → Int64) × (Nat → Int64) × (Nat → Int32))) (k10 : Int32 → Int32 → (Nat → Int64) → (Nat → Int64) → (Nat → Int32) → Option ((Nat → Int64) × (Nat → Int64) × (Nat → Int32))) (k36 : Int32 → Int32 → Int64 → Int32 → (Nat → Int64) → (Nat → Int64) → (Nat → Int32) → Option ((Nat → Int64) × (Nat → Int64) × (Nat → Int32))) (x3 : Int32) (x4 : Int32) (x5 : Int64) (x7 : Int32) (k_products : Nat → Int64) (k_leastCosts : Nat → Int64) (k_bestOrders : Nat → Int32) : Option ((Nat → Int64) × (Nat → Int64) × (Nat → Int32)) :=
  if x3 ≤ x7 then bnd (f_X5_bit x3 ) (fun q9 => grd (inb (x4 + q9) 32) (k10 x3 (x4 + (1 : Int32)) (vp_updL k_products (x4 + q9).toNatClampNeg x5) k_leastCosts k_bestOrders))
  else bnd (f_X5_has x4 x7 ) (fun q11 => if q11 = (0 : Int32) then k36 x3 x4 x5 (x7 + (1 : Int32)) k_products k_leastCosts k_bestOrders
  else grd (inb x7 5) (grd (inb x3 5) (k36 x3 x4 ((x5 * (k_parts x7.toNatClampNeg x3.toNatClampNeg).toInt64) / (100 : Int64)) (x7 + (1 : Int32)) k_products k_leastCosts k_bestOrders)))
def f_X3_reckon_L36  (k_numbers : Nat → Int32) (k_parts : Nat → Nat → Int32) (k2 : Int32 → (Nat → Int64) → (Nat → Int64) → (Nat → Int32) → Option ((Nat → Int64) × (Nat → Int64) × (Nat → Int32))) (k10 : Int32 → Int32 → (Nat → Int64) → (Nat → Int64) → (Nat → Int32) → Option ((Nat → Int64) × (Nat → Int64) × (Nat → Int32))) : Nat → Int32 → Int32 → Int64 → Int32 → (Nat → Int64) → (Nat → Int64) → (Nat → Int32) → Option ((Nat → Int64) × (Nat → Int64) × (Nat → Int32))
  | 0 => fun _ _ _ _ _ _ _ => none
  | n + 1 => f_X3_reckon_L36b k_numbers k_parts k2 k10 (f_X3_reckon_L36 k_numbers k_parts k2 k10 n)
def f_X3_reckon_L10b  (k_numbers : Nat → Int32) (k_parts : Nat → Nat → Int32) (k2 : Int32 → (Nat → Int64) → (Nat → Int64) → (Nat → Int32) → Option ((Nat → Int64) × (Nat → Int64) × (Nat → Int32))) (k10 : Int32 → Int32 → (Nat → Int64) → (Nat → Int64) → (Nat → Int32) → Option ((Nat → Int64) × (Nat → Int64) × (Nat → Int32))) (x3 : Int32) (x4 : Int32) (k_products : Nat → Int64) (k_leastCosts : Nat → Int64) (k_bestOrders : Nat → Int32) : Option ((Nat → Int64) × (Nat → Int64) × (Nat → Int32)) :=
  bnd (f_X5_bit x3 ) (fun q4 => if q4 ≤ x4 then k2 (x3 + (1 : Int32)) k_products k_leastCosts k_bestOrders
  else grd (inb x4 32) (grd (inb x3 5) (f_X3_reckon_L36 k_numbers k_parts k2 k10 1024 x3 x4 ((k_products x4.toNatClampNeg) * (k_numbers x3.toNatClampNeg).toInt64) (0 : Int32) k_products k_leastCosts k_bestOrders)))
def f_X3_reckon_L10  (k_numbers : Nat → Int32) (k_parts : Nat → Nat → Int32) (k2 : Int32 → (Nat → Int64) → (Nat → Int64) → (Nat → Int32) → Option ((Nat → Int64) × (Nat → Int64) × (Nat → Int32))) : Nat → Int32 → Int32 → (Nat → Int64) → (Nat → Int64) → (Nat → Int32) → Option ((Nat → Int64) × (Nat → Int64) × (Nat → Int32))
  | 0 => fun _ _ _ _ _ => none
  | n + 1 => f_X3_reckon_L10b k_numbers k_parts k2 (f_X3_reckon_L10 k_numbers k_parts k2 n)
def f_X3_reckon_L2b  (k_numbers : Nat → Int32) (k_parts : Nat → Nat → Int32)  (k2 : Int32 → (Nat → Int64) → (Nat → Int64) → (Nat → Int32) → Option ((Nat → Int64) × (Nat → Int64) × (Nat → Int32))) (x3 : Int32) (k_products : Nat → Int64) (k_leastCosts : Nat → Int64) (k_bestOrders : Nat → Int32) : Option ((Nat → Int64) × (Nat → Int64) × (Nat → Int32)) :=
  if (5 : Int32) ≤ x3 then f_X3_reckon_L102 k_numbers k_parts  1024 (1 : Int32) k_products k_leastCosts k_bestOrders
  else f_X3_reckon_L10 k_numbers k_parts k2 1024 x3 (0 : Int32) k_products k_leastCosts k_bestOrders
def f_X3_reckon_L2  (k_numbers : Nat → Int32) (k_parts : Nat → Nat → Int32)  : Nat → Int32 → (Nat → Int64) → (Nat → Int64) → (Nat → Int32) → Option ((Nat → Int64) × (Nat → Int64) × (Nat → Int32))
  | 0 => fun _ _ _ _ => none
  | n + 1 => f_X3_reckon_L2b k_numbers k_parts  (f_X3_reckon_L2 k_numbers k_parts  n)
def f_X3_reckon  (k_products : Nat → Int64) (k_leastCosts : Nat → Int64) (k_bestOrders : Nat → Int32) (k_numbers : Nat → Int32) (k_parts : Nat → Nat → Int32) : Option ((Nat → Int64) × (Nat → Int64) × (Nat → Int32)) :=
  f_X3_reckon_L2 k_numbers k_parts  1024 (0 : Int32) k_products k_leastCosts k_bestOrders
set_option maxRecDepth 100000 in
set_option maxHeartbeats 4000000 in
theorem c_X3_reckon (l : Launch) (D : va_G) (o : Nat → Nat) (ct : Nat → ClassId)  (k_products : Nat → Int64) (k_leastCosts : Nat → Int64) (k_bestOrders : Nat → Int32) (k_numbers : Nat → Int32) (k_parts : Nat → Nat → Int32) (q : (Nat → Int64) × (Nat → Int64) × (Nat → Int32)) (h : f_X3_reckon  k_products k_leastCosts k_bestOrders k_numbers k_parts = some q) : CG l yX3_reckon cX3_reckon 8 2 none D (tysK ct) [.ref (o 0), .ref (o 4), .ref (o 5)] none (QW2 o ct k_products k_leastCosts k_bestOrders k_numbers k_parts) (QW2 o ct q.1 q.2.1 q.2.2 k_numbers k_parts) := by
  refine CG.mkV (by decide) (Nat.le_of_ble_eq_true rfl) ?_
  intro p e s m below meth c Q A B hK hN hDD hA hret hP hS ls hl
  have B0 := B
  obtain ⟨hx, hb, hml, hown, hts⟩ := B0
  have hl : lv_has ls 8 [(0, .ref (o 0)), (1, .ref (o 4)), (2, .ref (o 5))] := hl
  have hL102 : ∀ (n102 : Nat) (x3 : Int32) (k_products : Nat → Int64) (k_leastCosts : Nat → Int64) (k_bestOrders : Nat → Int32) (ls : Array Slot) (H : Heap) (locs : List Loc), f_X3_reckon_L102 k_numbers k_parts  n102 x3 k_products k_leastCosts k_bestOrders = some q → va_P D vwCl (QW2 o ct k_products k_leastCosts k_bestOrders k_numbers k_parts) H → va_S A s.heap H locs → lv_has ls 8 [(0, .ref (o 0)), (1, .ref (o 4)), (2, .ref (o 5)), (3, .int x3)] → W p l e (rmF 2 0 0) s m ([.ref (o 0), .ref (o 4), .ref (o 5)] : List Value).toArray below meth c H locs 0 0 Q (F0 m 102 ls []) := by
    intro n102
    induction n102 with
    | zero =>
      intro x3 k_products k_leastCosts k_bestOrders ls H locs h
      exact absurd (show (none : Option ((Nat → Int64) × (Nat → Int64) × (Nat → Int32))) = some q from h) (by intro h; cases h)
    | succ n102 ih102 =>
      intro x3 k_products k_leastCosts k_bestOrders ls H locs h hP hS hl
      have h : f_X3_reckon_L102b k_numbers k_parts  (f_X3_reckon_L102 k_numbers k_parts  n102) x3 k_products k_leastCosts k_bestOrders = some q := h
      unfold f_X3_reckon_L102b at h
      refine lv_iload_n hx hb dX3_reckon_102 rfl (lv_at hl 3 rfl) ?_
      refine lv_bipush (v := (32 : Int32)) hx hb dX3_reckon_103 (by decide) ?_
      refine lv_icmp_ge (tgt := 119) hx hb dX3_reckon_105 (by decide) (fun c2 => ?_) (fun c2 => ?_)
      · have h := ift c2 h
        obtain rfl := Option.some.inj h
        exact hret _ _ _ _ dX3_reckon_119 hP hS
      · have h := ifn c2 h
        refine lv_aload_n hx hb dX3_reckon_108 rfl (lv_at hl 0 rfl) ?_
        refine lv_iload_n hx hb dX3_reckon_109 rfl (lv_at hl 3 rfl) ?_
        obtain ⟨q3, e3, h⟩ := bnd_some h
        refine g_call (As := [.int x3]) (rest := []) (c_X3_planSet l D o ct x3 k_products k_leastCosts k_bestOrders k_numbers k_parts q3 e3) B hN hK hDD hA hP hS rfl (va_recv hK hP (ci := 4) (q0 := 0) rfl rfl) k_X3_planSet q_14_4 rfl ⟨Nat.le_of_ble_eq_true rfl, Nat.le_of_ble_eq_true rfl⟩ ⟨Nat.le_refl _, Nat.le_refl _⟩ hl.1 rfl (Nat.le_of_ble_eq_true rfl) dX3_reckon_110 (fun H locs hP hS => ?_)
        refine lv_iinc (v := (x3 + (1 : Int32))) (lv' := [(3, .int (x3 + (1 : Int32))), (0, .ref (o 0)), (1, .ref (o 4)), (2, .ref (o 5))]) hx hb dX3_reckon_113 hl (k := 3) rfl (congrArg (HAdd.hAdd x3) (by decide)) (by decide) rfl (fun ls hl => ?_)
        refine lv_goto (tgt := 102) hx hb dX3_reckon_116 (by decide) ?_
        exact ih102 (x3 + (1 : Int32)) k_products q3.1 q3.2 _ _ _ h hP hS (lv_sub hl [1, 2, 3, 0] rfl)
  have hL2 : ∀ (n2 : Nat) (x3 : Int32) (k_products : Nat → Int64) (k_leastCosts : Nat → Int64) (k_bestOrders : Nat → Int32) (ls : Array Slot) (H : Heap) (locs : List Loc), f_X3_reckon_L2 k_numbers k_parts  n2 x3 k_products k_leastCosts k_bestOrders = some q → va_P D vwCl (QW2 o ct k_products k_leastCosts k_bestOrders k_numbers k_parts) H → va_S A s.heap H locs → lv_has ls 8 [(0, .ref (o 0)), (1, .ref (o 4)), (2, .ref (o 5)), (3, .int x3)] → W p l e (rmF 2 0 0) s m ([.ref (o 0), .ref (o 4), .ref (o 5)] : List Value).toArray below meth c H locs 0 0 Q (F0 m 2 ls []) := by
    intro n2
    induction n2 with
    | zero =>
      intro x3 k_products k_leastCosts k_bestOrders ls H locs h
      exact absurd (show (none : Option ((Nat → Int64) × (Nat → Int64) × (Nat → Int32))) = some q from h) (by intro h; cases h)
    | succ n2 ih2 =>
      have hL10 : ∀ (n10 : Nat) (x3 : Int32) (x4 : Int32) (k_products : Nat → Int64) (k_leastCosts : Nat → Int64) (k_bestOrders : Nat → Int32) (ls : Array Slot) (H : Heap) (locs : List Loc), f_X3_reckon_L10 k_numbers k_parts (f_X3_reckon_L2 k_numbers k_parts   n2) n10 x3 x4 k_products k_leastCosts k_bestOrders = some q → va_P D vwCl (QW2 o ct k_products k_leastCosts k_bestOrders k_numbers k_parts) H → va_S A s.heap H locs → lv_has ls 8 [(0, .ref (o 0)), (1, .ref (o 4)), (2, .ref (o 5)), (3, .int x3), (4, .int x4)] → W p l e (rmF 2 0 0) s m ([.ref (o 0), .ref (o 4), .ref (o 5)] : List Value).toArray below meth c H locs 0 0 Q (F0 m 10 ls []) := by
        intro n10
        induction n10 with
        | zero =>
          intro x3 x4 k_products k_leastCosts k_bestOrders ls H locs h
          exact absurd (show (none : Option ((Nat → Int64) × (Nat → Int64) × (Nat → Int32))) = some q from h) (by intro h; cases h)
        | succ n10 ih10 =>
          have hL36 : ∀ (n36 : Nat) (x3 : Int32) (x4 : Int32) (x5 : Int64) (x7 : Int32) (k_products : Nat → Int64) (k_leastCosts : Nat → Int64) (k_bestOrders : Nat → Int32) (ls : Array Slot) (H : Heap) (locs : List Loc), f_X3_reckon_L36 k_numbers k_parts (f_X3_reckon_L2 k_numbers k_parts   n2) (f_X3_reckon_L10 k_numbers k_parts  (f_X3_reckon_L2 k_numbers k_parts  n2) n10) n36 x3 x4 x5 x7 k_products k_leastCosts k_bestOrders = some q → va_P D vwCl (QW2 o ct k_products k_leastCosts k_bestOrders k_numbers k_parts) H → va_S A s.heap H locs → lv_has ls 8 [(0, .ref (o 0)), (1, .ref (o 4)), (2, .ref (o 5)), (3, .int x3), (4, .int x4), (5, .long x5), (7, .int x7)] → W p l e (rmF 2 0 0) s m ([.ref (o 0), .ref (o 4), .ref (o 5)] : List Value).toArray below meth c H locs 0 0 Q (F0 m 36 ls []) := by
            intro n36
            induction n36 with
            | zero =>
              intro x3 x4 x5 x7 k_products k_leastCosts k_bestOrders ls H locs h
              exact absurd (show (none : Option ((Nat → Int64) × (Nat → Int64) × (Nat → Int32))) = some q from h) (by intro h; cases h)
            | succ n36 ih36 =>
              intro x3 x4 x5 x7 k_products k_leastCosts k_bestOrders ls H locs h hP hS hl
              have h : f_X3_reckon_L36b k_numbers k_parts (f_X3_reckon_L2 k_numbers k_parts   n2) (f_X3_reckon_L10 k_numbers k_parts  (f_X3_reckon_L2 k_numbers k_parts  n2) n10) (f_X3_reckon_L36 k_numbers k_parts (f_X3_reckon_L2 k_numbers k_parts   n2) (f_X3_reckon_L10 k_numbers k_parts  (f_X3_reckon_L2 k_numbers k_parts  n2) n10) n36) x3 x4 x5 x7 k_products k_leastCosts k_bestOrders = some q := h
              unfold f_X3_reckon_L36b at h
              refine lv_iload hx hb dX3_reckon_36 (lv_at hl 6 rfl) ?_
              refine lv_iload_n hx hb dX3_reckon_38 rfl (lv_at hl 3 rfl) ?_
              refine lv_icmp_ge (tgt := 74) hx hb dX3_reckon_39 (by decide) (fun c8 => ?_) (fun c8 => ?_)
              · have h := ift c8 h
                refine lv_aload_n hx hb dX3_reckon_74 rfl (lv_at hl 0 rfl) ?_
                refine va_get (D := D) (ci := 4) (v := .ref (o 1)) (C := RX3) (T := TX3) (N := 3) hx hb hts inlX3 hown hK hP 0 rfl rfl 0 (by decide) (hts _ q_3_14) (fun _ h9 => h9) rfl dX3_reckon_75 ?_
                refine lv_iload hx hb dX3_reckon_78 (lv_at hl 4 rfl) ?_
                refine lv_iload_n hx hb dX3_reckon_80 rfl (lv_at hl 3 rfl) ?_
                obtain ⟨q9, e9, h⟩ := bnd_some h
                refine n_call (As := [.int x3]) (rest := [.int x4, .ref (o 1)]) (c_X5_bit l x3 q9 e9) B hN k_X5_bit (List.mem_of_getElem? (i := 3) rfl) rfl ⟨Nat.le_of_ble_eq_true rfl, Nat.le_of_ble_eq_true rfl⟩ ⟨Nat.le_refl _, Nat.le_refl _⟩ hl.1 rfl (Nat.le_of_ble_eq_true rfl) dX3_reckon_81 ?_
                refine lv_iadd hx hb dX3_reckon_84 ?_
                refine lv_lload hx hb dX3_reckon_85 (lv_at hl 5 rfl) ?_
                obtain ⟨g10, h⟩ := grd_some h
                refine va_last hx hb hK hP (hDD _ rfl) hS 1 1 rfl rfl (inb_in g10) dX3_reckon_87 (fun H locs hP _ hS => ?_)
                have hP : va_P D vwCl (QW2 o ct (vp_updL k_products (x4 + q9).toNatClampNeg x5) k_leastCosts k_bestOrders k_numbers k_parts) H := hP
                refine lv_iinc (v := (x4 + (1 : Int32))) (lv' := [(4, .int (x4 + (1 : Int32))), (0, .ref (o 0)), (1, .ref (o 4)), (2, .ref (o 5)), (3, .int x3), (5, .long x5), (7, .int x7)]) hx hb dX3_reckon_88 hl (k := 4) rfl (congrArg (HAdd.hAdd x4) (by decide)) (by decide) rfl (fun ls hl => ?_)
                refine lv_goto (tgt := 10) hx hb dX3_reckon_91 (by decide) ?_
                exact ih10 x3 (x4 + (1 : Int32)) (vp_updL k_products (x4 + q9).toNatClampNeg x5) k_leastCosts k_bestOrders _ _ _ h hP hS (lv_sub hl [1, 2, 3, 4, 0] rfl)
              · have h := ifn c8 h
                refine lv_iload hx hb dX3_reckon_42 (lv_at hl 4 rfl) ?_
                refine lv_iload hx hb dX3_reckon_44 (lv_at hl 6 rfl) ?_
                obtain ⟨q11, e11, h⟩ := bnd_some h
                refine n_call (As := [.int x4, .int x7]) (rest := []) (c_X5_has l x4 x7 q11 e11) B hN k_X5_has (List.mem_of_getElem? (i := 4) rfl) rfl ⟨Nat.le_of_ble_eq_true rfl, Nat.le_of_ble_eq_true rfl⟩ ⟨Nat.le_refl _, Nat.le_refl _⟩ hl.1 rfl (Nat.le_of_ble_eq_true rfl) dX3_reckon_46 ?_
                refine lv_if_eq (tgt := 68) hx hb dX3_reckon_49 (by decide) (fun c12 => ?_) (fun c12 => ?_)
                · have h := ift c12 h
                  refine lv_iinc (v := (x7 + (1 : Int32))) (lv' := [(7, .int (x7 + (1 : Int32))), (0, .ref (o 0)), (1, .ref (o 4)), (2, .ref (o 5)), (3, .int x3), (4, .int x4), (5, .long x5)]) hx hb dX3_reckon_68 hl (k := 6) rfl (congrArg (HAdd.hAdd x7) (by decide)) (by decide) rfl (fun ls hl => ?_)
                  refine lv_goto (tgt := 36) hx hb dX3_reckon_71 (by decide) ?_
                  exact ih36 x3 x4 x5 (x7 + (1 : Int32)) k_products k_leastCosts k_bestOrders _ _ _ h hP hS (lv_sub hl [1, 2, 3, 4, 5, 6, 0] rfl)
                · have h := ifn c12 h
                  refine lv_lload hx hb dX3_reckon_52 (lv_at hl 5 rfl) ?_
                  refine lv_aload_n hx hb dX3_reckon_54 rfl (lv_at hl 2 rfl) ?_
                  refine lv_iload hx hb dX3_reckon_55 (lv_at hl 6 rfl) ?_
                  obtain ⟨g13, h⟩ := grd_some h
                  refine kg_aald hx hb hK hP 5 4 rfl rfl (inb_in g13) (by rw [if_pos (vp_lt (inb_in g13))]) dX3_reckon_57 ?_
                  refine lv_iload_n hx hb dX3_reckon_58 rfl (lv_at hl 3 rfl) ?_
                  obtain ⟨g14, h⟩ := grd_some h
                  refine va_iald hx hb hK hP (x7.toNatClampNeg + 6) 0 (gridrow (vp_lt (inb_in g13))) rfl (inb_in g14) dX3_reckon_59 ?_
                  refine lv_i2l hx hb dX3_reckon_60 rfl ?_
                  refine lv_lmul hx hb dX3_reckon_61 ?_
                  refine lv_ldc2 (v := (100 : Int64)) hx hb hown (hts _ q_14_3) dX3_reckon_62 ?_
                  refine lv_ldiv hx hb dX3_reckon_65 (by decide) ?_
                  refine lv_lstore (lv' := [(5, .long ((x5 * (k_parts x7.toNatClampNeg x3.toNatClampNeg).toInt64) / (100 : Int64))), (0, .ref (o 0)), (1, .ref (o 4)), (2, .ref (o 5)), (3, .int x3), (4, .int x4), (7, .int x7)]) hx hb dX3_reckon_66 hl (by decide) rfl (fun ls hl => ?_)
                  refine lv_iinc (v := (x7 + (1 : Int32))) (lv' := [(7, .int (x7 + (1 : Int32))), (5, .long ((x5 * (k_parts x7.toNatClampNeg x3.toNatClampNeg).toInt64) / (100 : Int64))), (0, .ref (o 0)), (1, .ref (o 4)), (2, .ref (o 5)), (3, .int x3), (4, .int x4)]) hx hb dX3_reckon_68 hl (k := 6) rfl (congrArg (HAdd.hAdd x7) (by decide)) (by decide) rfl (fun ls hl => ?_)
                  refine lv_goto (tgt := 36) hx hb dX3_reckon_71 (by decide) ?_
                  exact ih36 x3 x4 ((x5 * (k_parts x7.toNatClampNeg x3.toNatClampNeg).toInt64) / (100 : Int64)) (x7 + (1 : Int32)) k_products k_leastCosts k_bestOrders _ _ _ h hP hS (lv_sub hl [2, 3, 4, 5, 6, 1, 0] rfl)
          intro x3 x4 k_products k_leastCosts k_bestOrders ls H locs h hP hS hl
          have h : f_X3_reckon_L10b k_numbers k_parts (f_X3_reckon_L2 k_numbers k_parts   n2) (f_X3_reckon_L10 k_numbers k_parts (f_X3_reckon_L2 k_numbers k_parts   n2) n10) x3 x4 k_products k_leastCosts k_bestOrders = some q := h
          unfold f_X3_reckon_L10b at h
          refine lv_iload hx hb dX3_reckon_10 (lv_at hl 4 rfl) ?_
          refine lv_iload_n hx hb dX3_reckon_12 rfl (lv_at hl 3 rfl) ?_
          obtain ⟨q4, e4, h⟩ := bnd_some h
          refine n_call (As := [.int x3]) (rest := [.int x4]) (c_X5_bit l x3 q4 e4) B hN k_X5_bit (List.mem_of_getElem? (i := 3) rfl) rfl ⟨Nat.le_of_ble_eq_true rfl, Nat.le_of_ble_eq_true rfl⟩ ⟨Nat.le_refl _, Nat.le_refl _⟩ hl.1 rfl (Nat.le_of_ble_eq_true rfl) dX3_reckon_13 ?_
          refine lv_icmp_ge (tgt := 94) hx hb dX3_reckon_16 (by decide) (fun c5 => ?_) (fun c5 => ?_)
          · have h := ift c5 h
            refine lv_iinc (v := (x3 + (1 : Int32))) (lv' := [(3, .int (x3 + (1 : Int32))), (0, .ref (o 0)), (1, .ref (o 4)), (2, .ref (o 5)), (4, .int x4)]) hx hb dX3_reckon_94 hl (k := 3) rfl (congrArg (HAdd.hAdd x3) (by decide)) (by decide) rfl (fun ls hl => ?_)
            refine lv_goto (tgt := 2) hx hb dX3_reckon_97 (by decide) ?_
            exact ih2 (x3 + (1 : Int32)) k_products k_leastCosts k_bestOrders _ _ _ h hP hS (lv_sub hl [1, 2, 3, 0] rfl)
          · have h := ifn c5 h
            refine lv_aload_n hx hb dX3_reckon_19 rfl (lv_at hl 0 rfl) ?_
            refine va_get (D := D) (ci := 4) (v := .ref (o 1)) (C := RX3) (T := TX3) (N := 3) hx hb hts inlX3 hown hK hP 0 rfl rfl 0 (by decide) (hts _ q_3_14) (fun _ h9 => h9) rfl dX3_reckon_20 ?_
            refine lv_iload hx hb dX3_reckon_23 (lv_at hl 4 rfl) ?_
            obtain ⟨g6, h⟩ := grd_some h
            refine va_lald hx hb hK hP 1 1 rfl rfl (inb_in g6) dX3_reckon_25 ?_
            refine lv_aload_n hx hb dX3_reckon_26 rfl (lv_at hl 1 rfl) ?_
            refine lv_iload_n hx hb dX3_reckon_27 rfl (lv_at hl 3 rfl) ?_
            obtain ⟨g7, h⟩ := grd_some h
            refine va_iald hx hb hK hP 4 0 rfl rfl (inb_in g7) dX3_reckon_28 ?_
            refine lv_i2l hx hb dX3_reckon_29 rfl ?_
            refine lv_lmul hx hb dX3_reckon_30 ?_
            refine lv_lstore (lv' := [(5, .long ((k_products x4.toNatClampNeg) * (k_numbers x3.toNatClampNeg).toInt64)), (0, .ref (o 0)), (1, .ref (o 4)), (2, .ref (o 5)), (3, .int x3), (4, .int x4)]) hx hb dX3_reckon_31 hl (by decide) rfl (fun ls hl => ?_)
            refine lv_iconst (v := (0 : Int32)) hx hb dX3_reckon_33 (by decide) ?_
            refine lv_istore (lv' := [(7, .int (0 : Int32)), (5, .long ((k_products x4.toNatClampNeg) * (k_numbers x3.toNatClampNeg).toInt64)), (0, .ref (o 0)), (1, .ref (o 4)), (2, .ref (o 5)), (3, .int x3), (4, .int x4)]) hx hb dX3_reckon_34 hl (by decide) rfl (fun ls hl => ?_)
            exact hL36 1024 x3 x4 ((k_products x4.toNatClampNeg) * (k_numbers x3.toNatClampNeg).toInt64) (0 : Int32) k_products k_leastCosts k_bestOrders _ _ _ h hP hS (lv_sub hl [2, 3, 4, 5, 6, 1, 0] rfl)
      intro x3 k_products k_leastCosts k_bestOrders ls H locs h hP hS hl
      have h : f_X3_reckon_L2b k_numbers k_parts  (f_X3_reckon_L2 k_numbers k_parts  n2) x3 k_products k_leastCosts k_bestOrders = some q := h
      unfold f_X3_reckon_L2b at h
      refine lv_iload_n hx hb dX3_reckon_2 rfl (lv_at hl 3 rfl) ?_
      refine lv_iconst (v := (5 : Int32)) hx hb dX3_reckon_3 (by decide) ?_
      refine lv_icmp_ge (tgt := 100) hx hb dX3_reckon_4 (by decide) (fun c1 => ?_) (fun c1 => ?_)
      · have h := ift c1 h
        refine lv_iconst (v := (1 : Int32)) hx hb dX3_reckon_100 (by decide) ?_
        refine lv_istore_n (lv' := [(3, .int (1 : Int32)), (0, .ref (o 0)), (1, .ref (o 4)), (2, .ref (o 5))]) hx hb dX3_reckon_101 rfl hl (by decide) rfl (fun ls hl => ?_)
        exact hL102 1024 (1 : Int32) k_products k_leastCosts k_bestOrders _ _ _ h hP hS (lv_sub hl [1, 2, 3, 0] rfl)
      · have h := ifn c1 h
        refine lv_iconst (v := (0 : Int32)) hx hb dX3_reckon_7 (by decide) ?_
        refine lv_istore (lv' := [(4, .int (0 : Int32)), (0, .ref (o 0)), (1, .ref (o 4)), (2, .ref (o 5)), (3, .int x3)]) hx hb dX3_reckon_8 hl (by decide) rfl (fun ls hl => ?_)
        exact hL10 1024 x3 (0 : Int32) k_products k_leastCosts k_bestOrders _ _ _ h hP hS (lv_sub hl [1, 2, 3, 4, 0] rfl)
  unfold f_X3_reckon at h
  refine lv_iconst (v := (0 : Int32)) hx hb dX3_reckon_0 (by decide) ?_
  refine lv_istore_n (lv' := [(3, .int (0 : Int32)), (0, .ref (o 0)), (1, .ref (o 4)), (2, .ref (o 5))]) hx hb dX3_reckon_1 rfl hl (by decide) rfl (fun ls hl => ?_)
  exact hL2 1024 (0 : Int32) k_products k_leastCosts k_bestOrders _ _ _ h hP hS (lv_sub hl [1, 2, 3, 0] rfl)
