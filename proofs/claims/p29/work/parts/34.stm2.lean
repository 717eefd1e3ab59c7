/-! more of the state's methods -/
def cond (gv : Nat → Nat) (dl : Nat) (x : PL) (t : Nat) : Bool := bi x.1 t == 1 && decide (min (gv t) (x.2.2.1 t) * dl < max (gv t) (x.2.2.1 t) * 100)
def drU (gv : Nat → Nat) (dl : Nat) (x : PL) : Nat → Bool
  | 0 => false
  | t + 1 => drU gv dl x t || cond gv dl x t
def drB (gv : Nat → Nat) (dl : Nat) (x : PL) : Bool := drU gv dl x 5
theorem drU_mono {gv : Nat → Nat} {dl : Nat} {x : PL} {t : Nat} (h : drU gv dl x t = true) : ∀ d, drU gv dl x (t + d) = true
  | 0 => h
  | d + 1 => by
    show (drU gv dl x (t + d) || _) = true
    rw [drU_mono h d]
    rfl
theorem drU_congr {g1 g2 : Nat → Nat} {dl : Nat} {x : PL} : ∀ {n : Nat}, (∀ t, t < n → g1 t = g2 t) → drU g1 dl x n = drU g2 dl x n
  | 0, _ => rfl
  | n + 1, h => by
    have ih := drU_congr (dl := dl) (x := x) (n := n) (fun t ht => h t (by omega))
    show (drU g1 dl x n || cond g1 dl x n) = (drU g2 dl x n || cond g2 dl x n)
    unfold cond
    rw [ih, h n (by omega)]
/-- the guesses of now, where set is counted the rows -/
def gsel (rw gs : Nat → Nat) (set : Nat) : Nat → Nat := fun t => if bi set t = 1 then rw t else gs t
theorem minI {a b : Nat} (ha : a < 2 ^ 31) (hb : b < 2 ^ 31) : (if nI b < nI a then nI b else nI a) = nI (min a b) := by
  simp (disch := omega) only [nI_ltr]
  by_cases h : b < a
  · rw [if_pos h, Nat.min_eq_right (by omega)]
  · rw [if_neg h, Nat.min_eq_left (by omega)]
theorem maxI {a b : Nat} (ha : a < 2 ^ 31) (hb : b < 2 ^ 31) : (if nI a < nI b then nI b else nI a) = nI (max a b) := by
  simp (disch := omega) only [nI_ltr]
  by_cases h : a < b
  · rw [if_pos h, Nat.max_eq_right (by omega)]
  · rw [if_neg h, Nat.max_eq_left (by omega)]
def SOK (st : DS) : Prop := NB st.1 ∧ NB st.2.1 ∧ PB st.2.2.1 ∧ (∀ x ∈ st.2.2.2.1, POK x) ∧ st.2.2.2.1.length ≤ 4 ∧ 100 ≤ st.2.2.2.2.1 ∧ st.2.2.2.2.1 ≤ 1000
section SN
variable {ct : Nat → ClassId} {a0 : Nat} {own : Nat → Nat} {h : KH} {a r g p l : Nat} {pr : Nat → Nat} {kas : List (Nat × PL)} {st : DS}
theorem StX.rI (hs : StX ct a0 own h a r g p l pr kas st) {K : Nat → Prop} (hK : K r) : rdR h a 5 0 K := ⟨_, _, hs.1, rfl, hK⟩
theorem StX.gI (hs : StX ct a0 own h a r g p l pr kas st) {K : Nat → Prop} (hK : K g) : rdR h a 5 1 K := ⟨_, _, hs.1, rfl, hK⟩
theorem StX.pI (hs : StX ct a0 own h a r g p l pr kas st) {K : Nat → Prop} (hK : K p) : rdR h a 5 2 K := ⟨_, _, hs.1, rfl, hK⟩
theorem StX.dI (hs : StX ct a0 own h a r g p l pr kas st) {K : Int32 → Prop} (hK : K (nI st.2.2.2.2.1)) : rdI h a 5 4 K := ⟨_, _, hs.1, rfl, hK⟩
theorem StX.rv (hs : StX ct a0 own h a r g p l pr kas st) {t : Nat} (ht : t < 5) {K : Int32 → Prop} (hK : K (nI (st.1 t))) : ldI h r (nI t) (ct 0) K := ⟨5, _, _, hs.2.2.2.1, inb_nI ht (by decide), rfl, by rw [nI_clamp (by omega)]; exact hK⟩
theorem StX.gv (hs : StX ct a0 own h a r g p l pr kas st) {t : Nat} (ht : t < 5) {K : Int32 → Prop} (hK : K (nI (st.2.1 t))) : ldI h g (nI t) (ct 0) K := ⟨5, _, _, hs.2.2.2.2.1, inb_nI ht (by decide), rfl, by rw [nI_clamp (by omega)]; exact hK⟩
theorem p_aln5 {gg : Nat} {f : Nat → Int32} (eg : h gg = some (.inl (ct 0, 5, .inl f))) {K : Int32 → Prop} (hK : K (nI 5)) : aln h gg (ct 0) K := ⟨_, nI 5, eg, rfl, hK⟩
theorem isKp.gs {k : Nat} {x : PL} (hk : isKp ct own h k x) {K : Nat → Prop} (hK : ∀ gg, h gg = some (.inl (ct 0, 5, .inl (SI x.2.2.1))) → K gg) : rdR h k 1 2 K := by
  obtain ⟨-, q, -, e1, e2⟩ := hk
  exact ⟨_, _, e1, rfl, hK q e2⟩
theorem p_drift39 (hs : StX ct a0 own h a r g p l pr kas st) (hS : SOK st) {k : Nat} {x : PL} (hk : isKp ct own h k x) (hx : POK x) {t gv : Nat} (ht : t < 5) (hg : gv ≤ 500) {a2 : Int32} {Post : Int32 → KH → Prop} {k2 : Int32 → KH → Prop} (h1 : cond (fun _ => gv) st.2.2.2.2.1 x t = true → Post 1 h) (h2 : cond (fun _ => gv) st.2.2.2.2.1 x t = false → k2 (nI (t + 1)) h) : g_X4_driftsOnceCounted_J39 ct a0 a k a2 Post k2 (nI t) (nI gv) h := by
  have hb := (hx.2.2.2.1 t ht).2
  have hdl := hS.2.2.2.2.2.2
  have hbl := bi_lt x.1 t
  unfold g_X4_driftsOnceCounted_J39
  refine hk.gs (fun gg eg => ⟨5, _, _, eg, inb_nI ht (by decide), rfl, ?_⟩)
  rw [nI_clamp (by omega), SI_at]
  refine hk.sh ⟨_, c_has _ hx.2.1 t ht, ?_⟩
  rw [show nI t + (1 : Int32) = nI (t + 1) from nI_1 t]
  unfold cond at h1 h2
  by_cases q : bi x.1 t = 0
  · rw [if_pos (by rw [q]; rfl)]
    exact h2 (by rw [q]; rfl)
  · have q1 : bi x.1 t = 1 := by omega
    rw [if_neg (by rw [q1]; decide +kernel)]
    refine hs.dI ?_
    rw [minI (by omega) (by omega), maxI (by omega) (by omega), iv 100, pk_mul, pk_mul]
    have hm1 : max gv (x.2.2.1 t) * 100 ≤ 50000 := by have : max gv (x.2.2.1 t) ≤ 500 := Nat.max_le.mpr ⟨hg, hb⟩; omega
    have hm2 : min gv (x.2.2.1 t) * st.2.2.2.2.1 ≤ 500 * 1000 := Nat.mul_le_mul (Nat.le_trans (Nat.min_le_left _ _) hg) hdl
    simp (disch := omega) only [nI_ler]
    by_cases z : max gv (x.2.2.1 t) * 100 ≤ min gv (x.2.2.1 t) * st.2.2.2.2.1
    · rw [if_pos z]
      exact h2 (by rw [q1]; simp [z])
    · rw [if_neg z]
      exact h1 (by rw [q1]; simp; omega)
theorem p_driftL (hs : StX ct a0 own h a r g p l pr kas st) (hS : SOK st) {k : Nat} {x : PL} (hk : isKp ct own h k x) (hx : POK x) {set : Nat} (hset : set < 32) {Post : Int32 → KH → Prop} (hP : Post (nI (if drB (gsel st.1 st.2.1 set) st.2.2.2.2.1 x then 1 else 0)) h) : ∀ (n t : Nat), t ≤ 5 → 5 < n + t → drU (gsel st.1 st.2.1 set) st.2.2.2.2.1 x t = false →
    g_X4_driftsOnceCounted_L2 ct a0 a k (nI set) Post n (nI t) h
  | 0, t, a1, a2, _ => by omega
  | n + 1, t, a1, a2, hI => by
    show g_X4_driftsOnceCounted_L2b _ _ _ _ _ _ _ _ _
    unfold g_X4_driftsOnceCounted_L2b
    by_cases he : 5 ≤ t
    · have e0 : t = 5 := by omega
      subst e0
      rw [if_pos (by decide +kernel)]
      unfold drB at hP
      rw [hI] at hP
      exact hP
    · have ht : t < 5 := by omega
      rw [if_neg (show ¬ (5 : Int32) ≤ nI t from nI_ge (b := 5) (by omega) (by decide))]
      refine hk.gs (fun gg eg => p_aln5 eg ?_)
      rw [if_neg (show ¬ nI 5 ≤ nI t from nI_ge (b := 5) (by omega) (by decide))]
      refine ⟨_, c_has _ hset t ht, ?_⟩
      have hbl := bi_lt set t
      have go : ∀ gv, gv = gsel st.1 st.2.1 set t → gv ≤ 500 → g_X4_driftsOnceCounted_J39 ct a0 a k (nI set) Post (g_X4_driftsOnceCounted_L2 ct a0 a k (nI set) Post n) (nI t) (nI gv) h := fun gv eg hg => by
        have ec : cond (fun _ => gv) st.2.2.2.2.1 x t = cond (gsel st.1 st.2.1 set) st.2.2.2.2.1 x t := by unfold cond; rw [eg]
        refine p_drift39 hs hS hk hx ht hg (fun e => ?_) (fun e => ?_)
        · rw [ec] at e
          have e2 : drU (gsel st.1 st.2.1 set) st.2.2.2.2.1 x (t + 1) = true := by
            show (_ || cond _ _ _ t) = true
            rw [e, Bool.or_true]
          have e3 := drU_mono e2 (5 - (t + 1))
          rw [show t + 1 + (5 - (t + 1)) = 5 by omega] at e3
          unfold drB at hP
          rw [e3] at hP
          exact hP
        · rw [ec] at e
          exact p_driftL hs hS hk hx hset hP n (t + 1) (by omega) (by omega) (by show (drU _ _ _ t || cond _ _ _ t) = false; rw [hI, e]; rfl)
      by_cases q : bi set t = 0
      · rw [if_pos (by rw [q]; rfl)]
        exact hs.gI (hs.gv ht (go _ (by unfold gsel; rw [if_neg (by omega)]) (hS.2.1 t ht).2))
      · rw [if_neg (by rw [show bi set t = 1 by omega]; decide +kernel)]
        exact hs.rI (hs.rv ht (go _ (by unfold gsel; rw [if_pos (by omega)]) (hS.1 t ht).2))
theorem p_drifts (hs : StX ct a0 own h a r g p l pr kas st) (hS : SOK st) {k : Nat} {x : PL} (hk : isKp ct own h k x) (hx : POK x) {set : Nat} (hset : set < 32) {Post : Int32 → KH → Prop} (hP : Post (nI (if drB (gsel st.1 st.2.1 set) st.2.2.2.2.1 x then 1 else 0)) h) : g_X4_driftsOnceCounted ct a0 a k (nI set) h Post :=
  p_driftL hs hS hk hx hset hP 1024 0 (by decide) (by decide) rfl
theorem gsel_0 (rw gs : Nat → Nat) : gsel rw gs 0 = gs := by
  funext t
  unfold gsel bi
  rw [Nat.zero_div]
  rfl
end SN
