/-! pure values as numbers: literals, bits of sets, arrays as images of arrays of numbers -/
theorem iv (n : Nat) : (OfNat.ofNat n : Int32) = nI n := rfl
theorem lv (n : Nat) : (OfNat.ofNat n : Int64) = lN n := rfl
def bi (s t : Nat) : Nat := s / 2 ^ t % 2
theorem bi_lt (s t : Nat) : bi s t < 2 := Nat.mod_lt _ (by decide)
theorem bi_int : ∀ s, s < 32 → ∀ t, t < 5 → ((nI s >>> (nI t &&& nI 31)) &&& nI 1) = nI (bi s t) := by decide +kernel
theorem bit_int : ∀ t, t < 5 → (nI 1 <<< (nI t &&& nI 31)) = nI (2 ^ t) := by decide +kernel
theorem or_int : ∀ s, s < 32 → ∀ t, t < 32 → (nI s ||| nI t) = nI (s ||| t) := by decide +kernel
theorem and_int : ∀ s, s < 32 → ∀ t, t < 32 → (nI s &&& nI t) = nI (s &&& t) := by decide +kernel
theorem or_lt32 : ∀ s, s < 32 → ∀ t, t < 32 → (s ||| t) < 32 := by decide +kernel
theorem and_lt32 : ∀ s, s < 32 → ∀ t, t < 32 → (s &&& t) < 32 := by decide +kernel
theorem pow_lt32 : ∀ t, t < 5 → 2 ^ t < 32 := by decide
theorem bi_le : ∀ s, s < 32 → ∀ t, t < 5 → bi s t = 1 → 2 ^ t ≤ s := by decide +kernel
theorem bi_or : ∀ s, s < 32 → ∀ t, t < 5 → bi s t = 1 → (s - 2 ^ t) ||| 2 ^ t = s := by decide +kernel
def pc (s : Nat) : Nat := bi s 0 + bi s 1 + bi s 2 + bi s 3 + bi s 4
theorem pc_le : ∀ s, s < 32 → pc s ≤ 5 := by decide +kernel
theorem m_tablesIn : ∀ s, s < 32 → f_X6_tablesIn (nI s) = some (nI (pc s)) := by decide +kernel
theorem c_bitCount : ∀ s, s < 32 → f_J6_bitCount_0f7a4 (nI s) = some (nI (pc s)) := by decide +kernel
def SI (v : Nat → Nat) : Nat → Int32 := fun k => nI (v k)
def nu (v : Nat → Nat) (i x : Nat) : Nat → Nat := fun k => if k = i then x else v k
theorem nu_s {v : Nat → Nat} {i x : Nat} : nu v i x i = x := if_pos rfl
theorem nu_n {v : Nat → Nat} {i x k : Nat} (h : k ≠ i) : nu v i x k = v k := if_neg h
theorem SI_at (v : Nat → Nat) (k : Nat) : SI v k = nI (v k) := rfl
theorem SI_up (v : Nat → Nat) (i x : Nat) : upd (SI v) i (nI x) = SI (nu v i x) := by
  funext k
  unfold upd SI nu
  by_cases h : k = i
  · rw [if_pos h, if_pos h]
  · rw [if_neg h, if_neg h]
theorem nI_inj31 {a b : Nat} (ha : a < 2 ^ 31) (hb : b < 2 ^ 31) (h : nI a = nI b) : a = b := (nI_eq ha hb).mp h
theorem inb_t {i n : Nat} (h : i < n) (hn : n < 2 ^ 31) : (inb (nI i) n = true) = True := eq_true (inb_nI h hn)
theorem grd_inb {α : Type} {i n : Nat} {x : Option α} (h : i < n) (hn : n < 2 ^ 31) : grd (inb (nI i) n) x = x := grd_t (inb_nI h hn)
theorem grd_isB0 {α : Type} {x : Option α} : grd (isB (nI 0)) x = x := grd_t (by decide +kernel)
theorem grd_isB1 {α : Type} {x : Option α} : grd (isB (nI 1)) x = x := grd_t (by decide +kernel)
theorem bnd_s {α β : Type} {a : α} {f : α → Option β} : bnd (some a) f = f a := rfl
theorem nI_ler {a b : Nat} (ha : a < 2 ^ 31) (hb : b < 2 ^ 31) : (nI a ≤ nI b) = (a ≤ b) := propext (nI_leI ha hb)
theorem nI_ltr {a b : Nat} (ha : a < 2 ^ 31) (hb : b < 2 ^ 31) : (nI a < nI b) = (a < b) := propext (nI_ltI ha hb)
theorem nI_eqr {a b : Nat} (ha : a < 2 ^ 31) (hb : b < 2 ^ 31) : (nI a = nI b) = (a = b) := propext (nI_eq ha hb)
/-! orders of the tables of a set, their costs, the best one -/
def permsF : Nat → Nat → List (List Nat)
  | 0, _ => [[]]
  | n + 1, s => if s = 0 then [[]] else (List.range 5).flatMap fun t => if bi s t = 1 then (permsF n (s - 2 ^ t)).map (fun p => t :: p) else []
def permsB : Nat → Nat → List (List Nat)
  | 0, _ => [[]]
  | n + 1, s => if s = 0 then [[]] else (List.range 5).flatMap fun t => if bi s t = 1 then (permsB n (s - 2 ^ t)).map (fun p => p ++ [t]) else []
def perms (s : Nat) : List (List Nat) := permsF 5 s
def oct (p : List Nat) : Nat := p.foldl (fun a t => a * 8 + t) 0
def setOf (p : List Nat) : Nat := p.foldl (fun a t => a ||| 2 ^ t) 0
theorem perms_len : ∀ s, s < 32 → ∀ p ∈ perms s, p.length = pc s := by decide +kernel
theorem perms_set : ∀ s, s < 32 → ∀ p ∈ perms s, setOf p = s := by decide +kernel
theorem perms_tab : ∀ s, s < 32 → ∀ p ∈ perms s, ∀ t ∈ p, t < 5 := by decide +kernel
theorem perms_oct : ∀ s, s < 32 → (perms s).Pairwise (fun p q => oct p < oct q) := by decide +kernel
theorem perms_octl : ∀ s, s < 32 → ∀ p ∈ perms s, oct p < 32768 := by decide +kernel
theorem perms_B : ∀ s, s < 32 → ∀ p ∈ perms s, p ∈ permsB 5 s := by decide +kernel
theorem permsB_F : ∀ s, s < 32 → ∀ t, t < 5 → bi s t = 1 → ∀ p ∈ perms (s - 2 ^ t), p ++ [t] ∈ perms s := by decide +kernel
theorem permsB_sub : ∀ s, s < 32 → ∀ t, t < 5 → bi s t = 1 → ∀ p ∈ permsB 4 (s - 2 ^ t), p ∈ perms (s - 2 ^ t) := by decide +kernel
theorem permsF_sub : ∀ s, s < 32 → ∀ t, t < 5 → bi s t = 1 → permsF 4 (s - 2 ^ t) = perms (s - 2 ^ t) := by decide +kernel
theorem perms_ne : ∀ s, s < 32 → (perms s).length ≠ 0 := by decide +kernel
theorem perms_cnt : ∀ s, s < 32 → (perms s).length ≤ 120 := by decide +kernel
theorem perms_at : ∀ s, s < 32 → ∀ p ∈ perms s, ∀ i, i < p.length → f_X5_tableAt (nI (oct p)) (nI p.length) (nI i) = some (nI (p.getD i 0)) := by decide +kernel
