/-! THE PURE PART begins: the lists over the known heap, with owners of cells (own); Fr: what is not the owner's stays -/
theorem hup_same {h : KH} {a : Nat} {e : va_E} : hup h a e a = some e := if_pos rfl
theorem hup_ne {h : KH} {a q : Nat} {e : va_E} (hq : q ≠ a) : hup h a e q = h q := if_neg hq
theorem inb_nI {i n : Nat} (h : i < n) (hn : n < 2 ^ 31) : inb (nI i) n = true := decide_eq_true (show ¬ (nI i < 0 ∨ n ≤ (nI i).toNatClampNeg) from vp_in_nI h hn)
def Fr (lab : Nat) (own : Nat → Nat) (h : KH) (own1 : Nat → Nat) (h1 : KH) : Prop := ∀ q : Nat, h q ≠ none → own1 q = own q ∧ h1 q ≠ none ∧ (own q ≠ lab → h1 q = h q)
theorem Fr.refl {lab : Nat} {own : Nat → Nat} {h : KH} : Fr lab own h own h := fun _ hq => ⟨rfl, hq, fun _ => rfl⟩
theorem Fr.trans {lab : Nat} {own own1 own2 : Nat → Nat} {h h1 h2 : KH} (f : Fr lab own h own1 h1) (g : Fr lab own1 h1 own2 h2) : Fr lab own h own2 h2 := fun q hq => by
  obtain ⟨a1, a2, a3⟩ := f q hq
  obtain ⟨b1, b2, b3⟩ := g q a2
  exact ⟨b1.trans a1, b2, fun hl => (b3 (by rw [a1]; exact hl)).trans (a3 hl)⟩
theorem Fr.up {lab : Nat} {own : Nat → Nat} {h : KH} {a : Nat} {e : va_E} (ha : own a = lab) : Fr lab own h own (hup h a e) := fun q hq => by
  by_cases hqa : q = a
  · subst hqa
    exact ⟨rfl, by rw [hup_same]; exact (fun z => by cases z), fun hl => absurd ha hl⟩
  · exact ⟨rfl, by rw [hup_ne hqa]; exact hq, fun _ => hup_ne hqa⟩
def oup (own : Nat → Nat) (q lab : Nat) : Nat → Nat := fun z => if z = q then lab else own z
theorem oup_same {own : Nat → Nat} {q lab : Nat} : oup own q lab q = lab := if_pos rfl
theorem oup_ne {own : Nat → Nat} {q lab z : Nat} (h : z ≠ q) : oup own q lab z = own z := if_neg h
theorem Fr.new {lab : Nat} {own : Nat → Nat} {h : KH} {a lab2 : Nat} {e : va_E} (ha : h a = none) : Fr lab own h (oup own a lab2) (hup h a e) := fun q hq => by
  have hqa : q ≠ a := fun z => hq (by rw [z]; exact ha)
  exact ⟨oup_ne hqa, by rw [hup_ne hqa]; exact hq, fun _ => hup_ne hqa⟩
/-- a list: its object and its row are lab's; the elements' addresses -/
def LiS (ct : Nat → ClassId) (a0 : Nat) (own : Nat → Nat) (lab : Nat) (h : KH) (l : Nat) (ks : List Nat) : Prop :=
  own l = lab ∧ ks.length ≤ 9 ∧ ∃ (mo : Int32) (el : Nat), h l = some (.inr (0, [.int mo, .ref el, .int (nI ks.length)])) ∧ ((el = a0 ∧ ks = []) ∨ (el ≠ a0 ∧ own el = lab ∧ ∃ f : Nat → Option Nat, h el = some (.inl (ct 3, 10, .inr (.inr (.inr (.inr f))))) ∧ ∀ i, i < ks.length → f i = ks[i]?))
theorem LiS.fr {ct : Nat → ClassId} {a0 lab lab2 : Nat} {own own1 : Nat → Nat} {h h1 : KH} {l : Nat} {ks : List Nat} (hl : LiS ct a0 own lab h l ks) (f : Fr lab2 own h own1 h1) (hne : lab ≠ lab2) : LiS ct a0 own1 lab h1 l ks := by
  obtain ⟨o1, hn, mo, el, e1, hr⟩ := hl
  obtain ⟨a1, a2, a3⟩ := f l (by rw [e1]; exact fun z => by cases z)
  refine ⟨a1.trans o1, hn, mo, el, (a3 (by rw [o1]; exact hne)).trans e1, ?_⟩
  rcases hr with hr | ⟨r1, r2, g, r3, r4⟩
  · exact Or.inl hr
  · obtain ⟨b1, b2, b3⟩ := f el (by rw [r3]; exact fun z => by cases z)
    exact Or.inr ⟨r1, b1.trans r2, g, (b3 (by rw [r2]; exact hne)).trans r3, r4⟩
section PL
variable {ct : Nat → ClassId} {a0 lab : Nat} {own : Nat → Nat} {h : KH} {l : Nat} {ks : List Nat}
theorem p_size {Post : Int32 → KH → Prop} (hl : LiS ct a0 own lab h l ks) (hp : Post (nI ks.length) h) : g_Jx4a65c_size_8abf5 ct a0 l h Post := by
  obtain ⟨-, -, mo, el, h1, -⟩ := hl
  exact ⟨_, _, h1, rfl, hp⟩
theorem LiS.obj (hl : LiS ct a0 own lab h l ks) : ∃ fs, h l = some (.inr (0, fs)) := by
  obtain ⟨-, -, mo, el, h1, -⟩ := hl
  exact ⟨_, h1⟩
theorem p_elem {Post : Nat → KH → Prop} (hl : LiS ct a0 own lab h l ks) {i : Nat} {x : Nat} (hi : ks[i]? = some x) (hp : Post x h) : g_Jx4a65c_elementData_915e3 ct a0 l (nI i) h Post := by
  have hlt := (List.getElem?_eq_some_iff.mp hi).1
  obtain ⟨-, hn, mo, el, h1, hr⟩ := hl
  rcases hr with ⟨-, hr⟩ | ⟨r1, r2, g, r3, r4⟩
  · rw [hr] at hlt; exact absurd hlt (Nat.not_lt_zero _)
  · refine ⟨_, el, h1, rfl, 10, g, x, r3, inb_nI (by omega) (by omega), ?_, hp⟩
    rw [nI_clamp (by omega), r4 i hlt]
    exact hi
theorem p_check {i n : Nat} (hi : i < n) (hn : n < 2 ^ 31) : f_J15_checkIndex_7cf53 (nI i) (nI n) = some (nI i) := by
  unfold f_J15_checkIndex_7cf53
  rw [if_neg (nI_pos (by omega)), if_pos (nI_lt hi hn)]
theorem p_get {Post : Nat → KH → Prop} (hl : LiS ct a0 own lab h l ks) {i : Nat} {x : Nat} (hi : ks[i]? = some x) (hp : Post x h) : g_Jx4a65c_get_915e3 ct a0 l (nI i) h Post := by
  have hlt := (List.getElem?_eq_some_iff.mp hi).1
  have hl0 := hl
  obtain ⟨-, hn, mo, el, h1, hr⟩ := hl
  exact ⟨_, _, h1, rfl, nI i, p_check hlt (by omega), ⟨_, h1⟩, p_elem hl0 hi hp⟩
theorem p_set {Post : Nat → KH → Prop} (hl : LiS ct a0 own lab h l ks) {i : Nat} {x y ci : Nat} (hi : ks[i]? = some x) (hy : ∃ vs, h y = some (.inr (ci, vs))) (hci : okc ci) (hp : ∀ h1, LiS ct a0 own lab h1 l (ks.set i y) → Fr lab own h own h1 → Post x h1) : g_Jx4a65c_set_bcc79 ct a0 l (nI i) y h Post := by
  have hlt := (List.getElem?_eq_some_iff.mp hi).1
  have hl0 := hl
  obtain ⟨o1, hn, mo, el, h1, hr⟩ := hl
  obtain ⟨vs, hy⟩ := hy
  refine ⟨_, _, h1, rfl, nI i, p_check hlt (by omega), ⟨_, h1⟩, p_elem hl0 hi ?_⟩
  rcases hr with ⟨-, hr⟩ | ⟨r1, r2, g, r3, r4⟩
  · rw [hr] at hlt; exact absurd hlt (Nat.not_lt_zero _)
  refine ⟨_, el, h1, rfl, 10, g, ci, vs, r3, inb_nI (by omega) (by omega), hy, hci, fun h5 e5 => ?_⟩
  subst e5
  have hne : l ≠ el := fun z => by rw [z, r3] at h1; cases h1
  refine hp _ ⟨o1, by rw [List.length_set]; exact hn, mo, el, by rw [hup_ne hne, List.length_set]; exact h1, Or.inr ⟨r1, r2, _, hup_same, fun j hj => ?_⟩⟩ (Fr.up r2)
  rw [List.length_set] at hj
  rw [nI_clamp (by omega)]
  unfold va_up
  by_cases hji : j = i
  · subst hji
    rw [if_pos rfl, List.getElem?_set_self hlt]
  · rw [if_neg hji, List.getElem?_set_ne (Ne.symm hji)]
    exact r4 j hj
theorem p_add {Post : Int32 → KH → Prop} (hl : LiS ct a0 own lab h l ks) (hn8 : ks.length ≤ 8) {x ci : Nat} (hx : ∃ vs, h x = some (.inr (ci, vs))) (hci : okc ci) (hp : ∀ own1 h1, LiS ct a0 own1 lab h1 l (ks ++ [x]) → Fr lab own h own1 h1 → Post 1 h1) : g_Jx4a65c_add_9ea2d ct a0 l x h Post := by
  obtain ⟨o1, hn, mo, el, h1, hr⟩ := hl
  obtain ⟨vs, hx⟩ := hx
  have hxl : x ≠ l := fun z => by
    rw [z, h1] at hx
    cases hx
    rcases hci with hci | hci <;> cases hci
  refine ⟨_, _, h1, rfl, _, h1, Nat.le_of_ble_eq_true rfl, fun h2 e2 => ?_⟩
  have h2l : h2 l = some (.inr (0, [.int (mo + 1), .ref el, .int (nI ks.length)])) := by rw [e2]; exact hup_same
  have h2o : ∀ q, q ≠ l → h2 q = h q := fun q hq => by rw [e2]; exact hup_ne hq
  have f2 : Fr lab own h own h2 := by rw [e2]; exact Fr.up o1
  refine ⟨_, el, h2l, rfl, _, _, h2l, rfl, ⟨_, h2l⟩, ?_, ?_⟩
  · intro ez
    have hk : ks = [] := by
      rcases hr with ⟨-, hr⟩ | ⟨r1, -⟩
      · exact hr
      · exact absurd ez r1
    subst hk
    show if nI 0 = (0 : Int32) then _ else _
    rw [if_pos nI_0]
    refine ⟨⟨_, h2l⟩, _, _, h2l, rfl, ⟨_, h2l⟩, ?_⟩
    refine ⟨_, el, h2l, rfl, fun _ => ?_, fun z => absurd ez z⟩
    show if (0 : Int32) < 0 then _ else _
    rw [if_neg (by decide)]
    refine ⟨_, el, h2l, rfl, ?_⟩
    show if el = a0 then _ else _
    rw [if_pos ez]
    refine ⟨by decide, fun q h13 hq hqa e13 => ?_⟩
    have hql : q ≠ l := fun z => by rw [z, h2l] at hq; cases hq
    have hqx : q ≠ x := fun z => by rw [z, h2o x hxl, hx] at hq; cases hq
    have e13l : h13 l = some (.inr (0, [.int (mo + 1), .ref el, .int (nI 0)])) := by rw [e13, hup_ne (Ne.symm hql)]; exact h2l
    refine ⟨_, e13l, Nat.le_of_ble_eq_true rfl, fun h14 e14 => ?_⟩
    have e14l : h14 l = some (.inr (0, [.int (mo + 1), .ref q, .int (nI 0)])) := by rw [e14]; exact hup_same
    have e14q : h14 q = some (.inl (ct 3, 10, .inr (.inr (.inr (.inr (fun _ => none)))))) := by rw [e14, hup_ne hql, e13]; exact hup_same
    have e14x : h14 x = some (.inr (ci, vs)) := by rw [e14, hup_ne hxl, e13, hup_ne (Ne.symm hqx), h2o x hxl]; exact hx
    refine ⟨10, _, ci, vs, e14q, by decide, e14x, hci, fun h12 e12 => ?_⟩
    have e12l : h12 l = some (.inr (0, [.int (mo + 1), .ref q, .int (nI 0)])) := by rw [e12, hup_ne (Ne.symm hql)]; exact e14l
    refine ⟨_, e12l, Nat.le_of_ble_eq_true rfl, fun h15 e15 => ?_⟩
    have oq : oup own q lab q = lab := oup_same
    have ol : oup own q lab l = lab := (oup_ne (Ne.symm hql)).trans o1
    refine hp (oup own q lab) h15 ⟨ol, by simp, mo + 1, q, by rw [e15]; exact hup_same, Or.inr ⟨hqa, oq, va_up (fun _ => none) 0 (some x), ?_, fun i hi => ?_⟩⟩ (f2.trans ?_)
    · rw [e15, hup_ne hql, e12]
      exact hup_same
    · have : i = 0 := by simpa using hi
      subst this
      rfl
    · have g1 : Fr lab own h2 (oup own q lab) h13 := by rw [e13]; exact Fr.new hq
      have g2 : Fr lab (oup own q lab) h13 (oup own q lab) h14 := by rw [e14]; exact Fr.up ol
      have g3 : Fr lab (oup own q lab) h14 (oup own q lab) h12 := by rw [e12]; exact Fr.up oq
      have g4 : Fr lab (oup own q lab) h12 (oup own q lab) h15 := by rw [e15]; exact Fr.up ol
      exact g1.trans (g2.trans (g3.trans g4))
  · intro ez
    rcases hr with ⟨hr, -⟩ | ⟨r1, r2, g, r3, r4⟩
    · exact absurd hr ez
    have hne : el ≠ l := fun z => by rw [← z, r3] at h1; cases h1
    refine ⟨(10, _), nI 10, (h2o el hne).trans r3, rfl, ?_⟩
    show if nI ks.length = nI 10 then _ else _
    rw [if_neg (fun z => by have := (nI_eq (by omega) (by omega)).mp z; omega)]
    refine ⟨10, g, ci, vs, (h2o el hne).trans r3, inb_nI (by omega) (by omega), (h2o x hxl).trans hx, hci, fun h9 e9 => ?_⟩
    have e9l : h9 l = some (.inr (0, [.int (mo + 1), .ref el, .int (nI ks.length)])) := by rw [e9, hup_ne (Ne.symm hne)]; exact h2l
    refine ⟨_, e9l, Nat.le_of_ble_eq_true rfl, fun h10 e10 => ?_⟩
    refine hp own h10 ⟨o1, by simp; omega, mo + 1, el, ?_, Or.inr ⟨r1, r2, va_up g ks.length (some x), ?_, fun i hi => ?_⟩⟩ (f2.trans (Fr.trans (own1 := own) (h1 := h9) ?_ ?_))
    · rw [e10, hup_same, List.length_append]
      show some (Sum.inr (0, [Value.int (mo + 1), Value.ref el, Value.int (nI ks.length + 1)])) = _
      rw [nI_1]
      rfl
    · rw [e10, hup_ne hne, e9, hup_same, nI_clamp (by omega)]
    · unfold va_up
      by_cases hik : i = ks.length
      · subst hik
        rw [if_pos rfl, List.getElem?_append_right (Nat.le_refl _), Nat.sub_self]
        rfl
      · rw [if_neg hik]
        have : i < ks.length := by simp at hi; omega
        rw [List.getElem?_append_left this]
        exact r4 i this
    · rw [e9]; exact Fr.up r2
    · rw [e10]; exact Fr.up o1
theorem p_remove {Post : Nat → KH → Prop} (hl : LiS ct a0 own lab h l ks) {i x ci : Nat} (hi : ks[i]? = some x) (hel : ∀ k ∈ ks, ∃ vs, h k = some (.inr (ci, vs))) (hci : okc ci) (hp : ∀ h1, LiS ct a0 own lab h1 l (ks.eraseIdx i) → Fr lab own h own h1 → Post x h1) : g_Jx4a65c_remove_915e3 ct a0 l (nI i) h Post := by
  have hlt := (List.getElem?_eq_some_iff.mp hi).1
  obtain ⟨o1, hn, mo, el, h1, hr⟩ := hl
  rcases hr with ⟨-, hr⟩ | ⟨r1, r2, g, r3, r4⟩
  · rw [hr] at hlt; exact absurd hlt (Nat.not_lt_zero _)
  have hne : el ≠ l := fun z => by rw [← z, r3] at h1; cases h1
  have hkl : ∀ k ∈ ks, k ≠ l := fun k hk z => by
    obtain ⟨vs, hv⟩ := hel k hk
    rw [z, h1] at hv
    cases hv
    rcases hci with hci | hci <;> cases hci
  have hlen : (ks.eraseIdx i).length = ks.length - 1 := List.length_eraseIdx_of_lt hlt
  have hsub : nI ks.length - (1 : Int32) = nI (ks.length - 1) := pk_sub (a := ks.length) (b := 1) (by omega)
  refine ⟨_, _, h1, rfl, nI i, p_check hlt (by omega), _, el, h1, rfl, 10, g, x, r3, inb_nI (by omega) (by omega), by rw [nI_clamp (by omega), r4 i hlt]; exact hi, ⟨_, h1⟩, ?_⟩
  refine ⟨_, _, h1, rfl, _, h1, Nat.le_of_ble_eq_true rfl, fun h2 e2 => ?_⟩
  have h2l : h2 l = some (.inr (0, [.int (mo + 1), .ref el, .int (nI ks.length)])) := by rw [e2]; exact hup_same
  have h2o : ∀ q, q ≠ l → h2 q = h q := fun q hq => by rw [e2]; exact hup_ne hq
  have f2 : Fr lab own h own h2 := by rw [e2]; exact Fr.up o1
  refine ⟨_, _, h2l, rfl, ?_⟩
  show if nI ks.length - (1 : Int32) ≤ nI i then _ else _
  rw [hsub]
  by_cases hlast : ks.length - 1 ≤ i
  · rw [if_pos (nI_le hlast (by omega))]
    refine ⟨_, h2l, Nat.le_of_ble_eq_true rfl, fun h5 e5 => ?_⟩
    refine ⟨10, g, by rw [e5, hup_ne hne, h2o el hne]; exact r3, inb_nI (by omega) (by omega), fun h6 e6 => ?_⟩
    refine hp h6 ⟨o1, by omega, mo + 1, el, ?_, Or.inr ⟨r1, r2, va_up g (ks.length - 1) none, ?_, fun j hj => ?_⟩⟩ (f2.trans (Fr.trans (own1 := own) (h1 := h5) ?_ ?_))
    · rw [e6, hup_ne (Ne.symm hne), e5, hup_same, hlen]
      rfl
    · rw [e6, hup_same, nI_clamp (by omega)]
    · rw [hlen] at hj
      unfold va_up
      rw [if_neg (by omega), List.getElem?_eraseIdx, if_pos (by omega)]
      exact r4 j (by omega)
    · rw [e5]; exact Fr.up o1
    · rw [e6]; exact Fr.up r2
  · rw [if_neg (fun z => by have := (nI_leI (by omega) (by omega)).mp z; omega)]
    have hs2 : nI (ks.length - 1) - nI i = nI (ks.length - 1 - i) := pk_sub (by omega)
    refine ⟨10, ci, g, (h2o el hne).trans r3, ?_, nI_pos (by omega), ?_, ?_, ?_, hci, fun j hj y hy => ?_, fun h7 e7 => ?_⟩
    · rw [nI_1]; exact nI_pos (by omega)
    · rw [hs2]; exact nI_pos (by omega)
    · rw [hs2, nI_1, nI_clamp (by omega), nI_clamp (by omega)]; omega
    · rw [hs2, nI_clamp (by omega), nI_clamp (by omega)]; omega
    · rw [hs2, nI_clamp (by omega)] at hj
      rw [nI_1, nI_clamp (by omega), r4 _ (by omega)] at hy
      have hm := List.mem_of_getElem? hy
      obtain ⟨vs, hv⟩ := hel y hm
      exact ⟨vs, (h2o y (hkl y hm)).trans hv⟩
    · rw [hs2, nI_1, nI_clamp (by omega), nI_clamp (by omega), nI_clamp (by omega)] at e7
      have e7l : h7 l = some (.inr (0, [.int (mo + 1), .ref el, .int (nI ks.length)])) := by rw [e7, hup_ne (Ne.symm hne)]; exact h2l
      refine ⟨_, e7l, Nat.le_of_ble_eq_true rfl, fun h8 e8 => ?_⟩
      refine ⟨10, _, by rw [e8, hup_ne hne, e7]; exact hup_same, inb_nI (by omega) (by omega), fun h9 e9 => ?_⟩
      refine hp h9 ⟨o1, by omega, mo + 1, el, ?_, Or.inr ⟨r1, r2, va_up (va_cpy g g (i + 1) i (ks.length - 1 - i)) (ks.length - 1) none, ?_, fun j hj => ?_⟩⟩ (f2.trans (Fr.trans (own1 := own) (h1 := h7) ?_ (Fr.trans (own1 := own) (h1 := h8) ?_ ?_)))
      · rw [e9, hup_ne (Ne.symm hne), e8, hup_same, hlen]
        rfl
      · rw [e9, hup_same, nI_clamp (by omega)]
      · rw [hlen] at hj
        unfold va_up
        rw [if_neg (by omega), List.getElem?_eraseIdx]
        by_cases hji : j < i
        · rw [if_pos hji, pk_cpy_out (Or.inl hji)]
          exact r4 j (by omega)
        · rw [if_neg hji, pk_cpy_in (by omega) (by omega), show i + 1 + (j - i) = j + 1 by omega]
          exact r4 (j + 1) (by omega)
      · rw [e7]; exact Fr.up r2
      · rw [e8]; exact Fr.up o1
      · rw [e9]; exact Fr.up r2
end PL
