/-! pure functions that the rows of sizes, best plans and runs are told with -/
def f_X6_in (a1 : Int32) (a2 : Int32) (a3 : Int32)  : Option (Int32) :=
  if a1 < a2 then some (0 : Int32)
  else if a3 < a1 then some (0 : Int32)
  else some (1 : Int32)
def f_X6_cut (a1 : Int64)  : Option (Int32) :=
  if (lg_cmp a1 (1000000000 : Int64)) ≤ (0 : Int32) then some a1.toInt32
  else some (1000000000 : Int64).toInt32
def f_X6_changes_L86b  (m_s : Nat → Int32) (m_paid : Nat → Int64) (m_runs : Int32)  (k86 : Int32 → (Nat → Int32) → (Nat → Int64) → Int32 → Option ((Nat → Int32) × (Nat → Int64) × (Int32))) (x1 : Int32) (m_past : Nat → Int32) (m_pastPaid : Nat → Int64) (m_pasts : Int32) : Option ((Nat → Int32) × (Nat → Int64) × (Int32)) :=
  if (100 : Int32) ≤ x1 then grd (inb (0 : Int32) 2) (grd (inb ((2 : Int32) * m_pasts) 8) (grd (inb (1 : Int32) 2) (grd (inb (((2 : Int32) * m_pasts) + (1 : Int32)) 8) (some (m_past, (vp_updL (vp_updL m_pastPaid ((2 : Int32) * m_pasts).toNatClampNeg (m_paid (0 : Int32).toNatClampNeg)) (((2 : Int32) * m_pasts) + (1 : Int32)).toNatClampNeg (m_paid (1 : Int32).toNatClampNeg)), (m_pasts + (1 : Int32)))))))
  else grd (inb x1 100) (grd (inb (((100 : Int32) * m_pasts) + x1) 400) (k86 (x1 + (1 : Int32)) (upd m_past (((100 : Int32) * m_pasts) + x1).toNatClampNeg (m_s x1.toNatClampNeg)) m_pastPaid m_pasts))
def f_X6_changes_L86  (m_s : Nat → Int32) (m_paid : Nat → Int64) (m_runs : Int32)  : Nat → Int32 → (Nat → Int32) → (Nat → Int64) → Int32 → Option ((Nat → Int32) × (Nat → Int64) × (Int32))
  | 0 => fun _ _ _ _ => none
  | n + 1 => f_X6_changes_L86b m_s m_paid m_runs  (f_X6_changes_L86 m_s m_paid m_runs  n)
def f_X6_changes_L48b  (m_s : Nat → Int32) (m_paid : Nat → Int64) (m_runs : Int32)  (k48 : Int32 → (Nat → Int32) → (Nat → Int64) → Int32 → Option ((Nat → Int32) × (Nat → Int64) × (Int32))) (x1 : Int32) (m_past : Nat → Int32) (m_pastPaid : Nat → Int64) (m_pasts : Int32) : Option ((Nat → Int32) × (Nat → Int64) × (Int32)) :=
  if (6 : Int32) ≤ x1 then f_X6_changes_L86 m_s m_paid m_runs  1024 (0 : Int32) m_past m_pastPaid (m_pasts - (1 : Int32))
  else grd (inb (x1 + (2 : Int32)) 8) (grd (inb x1 8) (k48 (x1 + (1 : Int32)) m_past (vp_updL m_pastPaid x1.toNatClampNeg (m_pastPaid (x1 + (2 : Int32)).toNatClampNeg)) m_pasts))
def f_X6_changes_L48  (m_s : Nat → Int32) (m_paid : Nat → Int64) (m_runs : Int32)  : Nat → Int32 → (Nat → Int32) → (Nat → Int64) → Int32 → Option ((Nat → Int32) × (Nat → Int64) × (Int32))
  | 0 => fun _ _ _ _ => none
  | n + 1 => f_X6_changes_L48b m_s m_paid m_runs  (f_X6_changes_L48 m_s m_paid m_runs  n)
def f_X6_changes_L18b  (m_s : Nat → Int32) (m_paid : Nat → Int64) (m_runs : Int32)  (k18 : Int32 → (Nat → Int32) → (Nat → Int64) → Int32 → Option ((Nat → Int32) × (Nat → Int64) × (Int32))) (x1 : Int32) (m_past : Nat → Int32) (m_pastPaid : Nat → Int64) (m_pasts : Int32) : Option ((Nat → Int32) × (Nat → Int64) × (Int32)) :=
  if (300 : Int32) ≤ x1 then f_X6_changes_L48 m_s m_paid m_runs  1024 (0 : Int32) m_past m_pastPaid m_pasts
  else grd (inb (x1 + (100 : Int32)) 400) (grd (inb x1 400) (k18 (x1 + (1 : Int32)) (upd m_past x1.toNatClampNeg (m_past (x1 + (100 : Int32)).toNatClampNeg)) m_pastPaid m_pasts))
def f_X6_changes_L18  (m_s : Nat → Int32) (m_paid : Nat → Int64) (m_runs : Int32)  : Nat → Int32 → (Nat → Int32) → (Nat → Int64) → Int32 → Option ((Nat → Int32) × (Nat → Int64) × (Int32))
  | 0 => fun _ _ _ _ => none
  | n + 1 => f_X6_changes_L18b m_s m_paid m_runs  (f_X6_changes_L18 m_s m_paid m_runs  n)
def f_X6_changes  (m_s : Nat → Int32) (m_past : Nat → Int32) (m_paid : Nat → Int64) (m_pastPaid : Nat → Int64) (m_pasts : Int32) (m_runs : Int32) : Option ((Nat → Int32) × (Nat → Int64) × (Int32)) :=
  if m_runs = (0 : Int32) then if m_pasts = (4 : Int32) then f_X6_changes_L18 m_s m_paid m_runs  1024 (0 : Int32) m_past m_pastPaid m_pasts
  else f_X6_changes_L86 m_s m_paid m_runs  1024 (0 : Int32) m_past m_pastPaid m_pasts
  else some (m_past, m_pastPaid, m_pasts)
def f_X6_putsAside_L2b  (m_s : Nat → Int32) (m_paid : Nat → Int64)  (k2 : Int32 → (Nat → Int32) → (Nat → Int64) → Option ((Nat → Int32) × (Nat → Int64))) (x1 : Int32) (m_spare : Nat → Int32) (m_sparePaid : Nat → Int64) : Option ((Nat → Int32) × (Nat → Int64)) :=
  if (100 : Int32) ≤ x1 then grd (inb (0 : Int32) 2) (grd (inb (0 : Int32) 2) (grd (inb (1 : Int32) 2) (grd (inb (1 : Int32) 2) (some (m_spare, (vp_updL (vp_updL m_sparePaid (0 : Int32).toNatClampNeg (m_paid (0 : Int32).toNatClampNeg)) (1 : Int32).toNatClampNeg (m_paid (1 : Int32).toNatClampNeg)))))))
  else grd (inb x1 100) (grd (inb x1 100) (k2 (x1 + (1 : Int32)) (upd m_spare x1.toNatClampNeg (m_s x1.toNatClampNeg)) m_sparePaid))
def f_X6_putsAside_L2  (m_s : Nat → Int32) (m_paid : Nat → Int64)  : Nat → Int32 → (Nat → Int32) → (Nat → Int64) → Option ((Nat → Int32) × (Nat → Int64))
  | 0 => fun _ _ _ => none
  | n + 1 => f_X6_putsAside_L2b m_s m_paid  (f_X6_putsAside_L2 m_s m_paid  n)
def f_X6_putsAside  (m_s : Nat → Int32) (m_spare : Nat → Int32) (m_paid : Nat → Int64) (m_sparePaid : Nat → Int64) : Option ((Nat → Int32) × (Nat → Int64)) :=
  f_X6_putsAside_L2 m_s m_paid  1024 (0 : Int32) m_spare m_sparePaid
def f_X6_putsBack_L2b  (m_spare : Nat → Int32) (m_sparePaid : Nat → Int64)  (k2 : Int32 → (Nat → Int32) → (Nat → Int64) → Option ((Nat → Int32) × (Nat → Int64))) (x1 : Int32) (m_s : Nat → Int32) (m_paid : Nat → Int64) : Option ((Nat → Int32) × (Nat → Int64)) :=
  if (100 : Int32) ≤ x1 then grd (inb (0 : Int32) 2) (grd (inb (0 : Int32) 2) (grd (inb (1 : Int32) 2) (grd (inb (1 : Int32) 2) (some (m_s, (vp_updL (vp_updL m_paid (0 : Int32).toNatClampNeg (m_sparePaid (0 : Int32).toNatClampNeg)) (1 : Int32).toNatClampNeg (m_sparePaid (1 : Int32).toNatClampNeg)))))))
  else grd (inb x1 100) (grd (inb x1 100) (k2 (x1 + (1 : Int32)) (upd m_s x1.toNatClampNeg (m_spare x1.toNatClampNeg)) m_paid))
def f_X6_putsBack_L2  (m_spare : Nat → Int32) (m_sparePaid : Nat → Int64)  : Nat → Int32 → (Nat → Int32) → (Nat → Int64) → Option ((Nat → Int32) × (Nat → Int64))
  | 0 => fun _ _ _ => none
  | n + 1 => f_X6_putsBack_L2b m_spare m_sparePaid  (f_X6_putsBack_L2 m_spare m_sparePaid  n)
def f_X6_putsBack  (m_s : Nat → Int32) (m_spare : Nat → Int32) (m_paid : Nat → Int64) (m_sparePaid : Nat → Int64) : Option ((Nat → Int32) × (Nat → Int64)) :=
  f_X6_putsBack_L2 m_spare m_sparePaid  1024 (0 : Int32) m_s m_paid
def f_X6_isTable (a1 : Int32)  : Option (Int32) :=
  bnd (f_X6_in a1 (0 : Int32) (4 : Int32) ) (fun q1 => grd (isB q1) (some q1))
def f_X6_isSet (a1 : Int32)  : Option (Int32) :=
  bnd (f_X6_in a1 (1 : Int32) (31 : Int32) ) (fun q1 => grd (isB q1) (some q1))
def f_X6_sizeOf_L37b (a1 : Int32) (a2 : Int32) (m_s : Nat → Int32) (k5 : Int64 → Int32 → Option (Int64)) (k37 : Int64 → Int32 → Int32 → Option (Int64)) (x3 : Int64) (x5 : Int32) (x6 : Int32) : Option (Int64) :=
  if x5 ≤ x6 then k5 x3 (x5 + (1 : Int32))
  else if ((a1 >>> (x6 &&& 31)) &&& (1 : Int32)) = (1 : Int32) then grd (inb (((10 : Int32) + ((5 : Int32) * x6)) + x5) 100) (k37 ((x3 * (m_s (((10 : Int32) + ((5 : Int32) * x6)) + x5).toNatClampNeg).toInt64) / (100 : Int64)) x5 (x6 + (1 : Int32)))
  else k37 x3 x5 (x6 + (1 : Int32))
def f_X6_sizeOf_L37 (a1 : Int32) (a2 : Int32) (m_s : Nat → Int32) (k5 : Int64 → Int32 → Option (Int64)) : Nat → Int64 → Int32 → Int32 → Option (Int64)
  | 0 => fun _ _ _ => none
  | n + 1 => f_X6_sizeOf_L37b a1 a2 m_s k5 (f_X6_sizeOf_L37 a1 a2 m_s k5 n)
def f_X6_sizeOf_L5b (a1 : Int32) (a2 : Int32) (m_s : Nat → Int32)  (k5 : Int64 → Int32 → Option (Int64)) (x3 : Int64) (x5 : Int32) : Option (Int64) :=
  if (5 : Int32) ≤ x5 then if (0 : Int32) ≤ (lg_cmp x3 (1 : Int64)) then some x3
  else some (1 : Int64)
  else if ((a1 >>> (x5 &&& 31)) &&& (1 : Int32)) = (1 : Int32) then grd (inb (a2 + x5) 100) (f_X6_sizeOf_L37 a1 a2 m_s k5 1024 (x3 * (m_s (a2 + x5).toNatClampNeg).toInt64) x5 (0 : Int32))
  else k5 x3 (x5 + (1 : Int32))
def f_X6_sizeOf_L5 (a1 : Int32) (a2 : Int32) (m_s : Nat → Int32)  : Nat → Int64 → Int32 → Option (Int64)
  | 0 => fun _ _ => none
  | n + 1 => f_X6_sizeOf_L5b a1 a2 m_s  (f_X6_sizeOf_L5 a1 a2 m_s  n)
def f_X6_sizeOf (a1 : Int32) (a2 : Int32) (m_s : Nat → Int32) : Option (Int64) :=
  f_X6_sizeOf_L5 a1 a2 m_s  1024 (1 : Int64) (0 : Int32)
def f_X6_base (a1 : Int32)  : Option (Int32) :=
  if a1 = (0 : Int32) then some (5 : Int32)
  else some (0 : Int32)
def f_X6_costOf_L8b (a1 : Int32) (m_s : Nat → Int32) (m_order : Nat → Int32) (m_many : Int32)  (k8 : Int64 → Int32 → Int32 → Option (Int64)) (x2 : Int64) (x4 : Int32) (x5 : Int32) : Option (Int64) :=
  if m_many ≤ x5 then some x2
  else grd (inb x5 5) (bnd (f_X6_sizeOf (x4 ||| ((1 : Int32) <<< ((m_order x5.toNatClampNeg) &&& 31))) a1 m_s) (fun q3 => k8 (x2 + q3) (x4 ||| ((1 : Int32) <<< ((m_order x5.toNatClampNeg) &&& 31))) (x5 + (1 : Int32))))
def f_X6_costOf_L8 (a1 : Int32) (m_s : Nat → Int32) (m_order : Nat → Int32) (m_many : Int32)  : Nat → Int64 → Int32 → Int32 → Option (Int64)
  | 0 => fun _ _ _ => none
  | n + 1 => f_X6_costOf_L8b a1 m_s m_order m_many  (f_X6_costOf_L8 a1 m_s m_order m_many  n)
def f_X6_costOf (a1 : Int32) (m_s : Nat → Int32) (m_order : Nat → Int32) (m_many : Int32) : Option (Int64) :=
  f_X6_costOf_L8 a1 m_s m_order m_many  1024 (0 : Int64) (0 : Int32) (0 : Int32)
def f_X6_swaps (a1 : Int32) (a2 : Int32) (m_order : Nat → Int32) : Option ((Nat → Int32)) :=
  grd (inb a1 5) (grd (inb a2 5) (grd (inb a1 5) (grd (inb a2 5) (some (upd (upd m_order a1.toNatClampNeg (m_order a2.toNatClampNeg)) a2.toNatClampNeg (m_order a1.toNatClampNeg))))))
def f_X6_hasNext_L86b  (m_many : Int32)  (k86 : Int32 → Int32 → (Nat → Int32) → Option (Int32 × (Nat → Int32))) (x3 : Int32) (x4 : Int32) (m_order : Nat → Int32) : Option (Int32 × (Nat → Int32)) :=
  if x4 ≤ x3 then some ((1 : Int32), m_order)
  else bnd (f_X6_swaps x3 x4 m_order) (fun q8 => k86 (x3 + (1 : Int32)) (x4 + (-1 : Int32)) q8)
def f_X6_hasNext_L86  (m_many : Int32)  : Nat → Int32 → Int32 → (Nat → Int32) → Option (Int32 × (Nat → Int32))
  | 0 => fun _ _ _ => none
  | n + 1 => f_X6_hasNext_L86b m_many  (f_X6_hasNext_L86 m_many  n)
def f_X6_hasNext_L47b  (m_many : Int32)  (k47 : Int32 → Int32 → (Nat → Int32) → Option (Int32 × (Nat → Int32))) (x1 : Int32) (x2 : Int32) (m_order : Nat → Int32) : Option (Int32 × (Nat → Int32)) :=
  grd (inb x2 5) (grd (inb x1 5) (if (m_order x1.toNatClampNeg) ≤ (m_order x2.toNatClampNeg) then bnd (f_X6_swaps x1 x2 m_order) (fun q6 => f_X6_hasNext_L86 m_many  1024 (x1 + (1 : Int32)) (m_many - (1 : Int32)) q6)
  else k47 x1 (x2 + (-1 : Int32)) m_order))
def f_X6_hasNext_L47  (m_many : Int32)  : Nat → Int32 → Int32 → (Nat → Int32) → Option (Int32 × (Nat → Int32))
  | 0 => fun _ _ _ => none
  | n + 1 => f_X6_hasNext_L47b m_many  (f_X6_hasNext_L47 m_many  n)
def f_X6_hasNext_L7b  (m_many : Int32)  (k7 : Int32 → (Nat → Int32) → Option (Int32 × (Nat → Int32))) (x1 : Int32) (m_order : Nat → Int32) : Option (Int32 × (Nat → Int32)) :=
  if x1 < (0 : Int32) then if (0 : Int32) ≤ x1 then f_X6_hasNext_L47 m_many  1024 x1 (m_many - (1 : Int32)) m_order
  else some ((0 : Int32), m_order)
  else grd (inb x1 5) (grd (inb (x1 + (1 : Int32)) 5) (if (m_order x1.toNatClampNeg) ≤ (m_order (x1 + (1 : Int32)).toNatClampNeg) then if (0 : Int32) ≤ x1 then f_X6_hasNext_L47 m_many  1024 x1 (m_many - (1 : Int32)) m_order
  else some ((0 : Int32), m_order)
  else k7 (x1 + (-1 : Int32)) m_order))
def f_X6_hasNext_L7  (m_many : Int32)  : Nat → Int32 → (Nat → Int32) → Option (Int32 × (Nat → Int32))
  | 0 => fun _ _ => none
  | n + 1 => f_X6_hasNext_L7b m_many  (f_X6_hasNext_L7 m_many  n)
def f_X6_hasNext  (m_order : Nat → Int32) (m_many : Int32) : Option (Int32 × (Nat → Int32)) :=
  f_X6_hasNext_L7 m_many  1024 (m_many - (2 : Int32)) m_order
def f_X6_finds_L85b (a1 : Int32) (a2 : Int32) (m_s : Nat → Int32) (k54 : Int64 → Int32 → (Nat → Int32) → (Nat → Int32) → Int32 → Option (Int64 × (Nat → Int32) × (Nat → Int32) × (Int32))) (k85 : Int64 → Int32 → (Nat → Int32) → (Nat → Int32) → Int32 → Option (Int64 × (Nat → Int32) × (Nat → Int32) × (Int32))) (x3 : Int64) (x8 : Int32) (m_order : Nat → Int32) (m_best : Nat → Int32) (m_many : Int32) : Option (Int64 × (Nat → Int32) × (Nat → Int32) × (Int32)) :=
  if m_many ≤ x8 then bnd (f_X6_hasNext  m_order m_many) (fun q6 => k54 x3 q6.1 q6.2 m_best m_many)
  else grd (inb x8 5) (grd (inb x8 5) (k85 x3 (x8 + (1 : Int32)) m_order (upd m_best x8.toNatClampNeg (m_order x8.toNatClampNeg)) m_many))
def f_X6_finds_L85 (a1 : Int32) (a2 : Int32) (m_s : Nat → Int32) (k54 : Int64 → Int32 → (Nat → Int32) → (Nat → Int32) → Int32 → Option (Int64 × (Nat → Int32) × (Nat → Int32) × (Int32))) : Nat → Int64 → Int32 → (Nat → Int32) → (Nat → Int32) → Int32 → Option (Int64 × (Nat → Int32) × (Nat → Int32) × (Int32))
  | 0 => fun _ _ _ _ _ => none
  | n + 1 => f_X6_finds_L85b a1 a2 m_s k54 (f_X6_finds_L85 a1 a2 m_s k54 n)
def f_X6_finds_L54b (a1 : Int32) (a2 : Int32) (m_s : Nat → Int32)  (k54 : Int64 → Int32 → (Nat → Int32) → (Nat → Int32) → Int32 → Option (Int64 × (Nat → Int32) × (Nat → Int32) × (Int32))) (x3 : Int64) (x5 : Int32) (m_order : Nat → Int32) (m_best : Nat → Int32) (m_many : Int32) : Option (Int64 × (Nat → Int32) × (Nat → Int32) × (Int32)) :=
  if x5 = (0 : Int32) then some (x3, m_order, m_best, m_many)
  else bnd (f_X6_costOf a2 m_s m_order m_many) (fun q3 => if (lg_cmp x3 (0 : Int64)) < (0 : Int32) then f_X6_finds_L85 a1 a2 m_s k54 1024 q3 (0 : Int32) m_order m_best m_many
  else if (0 : Int32) ≤ (lg_cmp q3 x3) then bnd (f_X6_hasNext  m_order m_many) (fun q10 => k54 x3 q10.1 q10.2 m_best m_many)
  else f_X6_finds_L85 a1 a2 m_s k54 1024 q3 (0 : Int32) m_order m_best m_many)
def f_X6_finds_L54 (a1 : Int32) (a2 : Int32) (m_s : Nat → Int32)  : Nat → Int64 → Int32 → (Nat → Int32) → (Nat → Int32) → Int32 → Option (Int64 × (Nat → Int32) × (Nat → Int32) × (Int32))
  | 0 => fun _ _ _ _ _ => none
  | n + 1 => f_X6_finds_L54b a1 a2 m_s  (f_X6_finds_L54 a1 a2 m_s  n)
def f_X6_finds_L7b (a1 : Int32) (a2 : Int32) (m_s : Nat → Int32)  (k7 : Int32 → (Nat → Int32) → (Nat → Int32) → Int32 → Option (Int64 × (Nat → Int32) × (Nat → Int32) × (Int32))) (x3 : Int32) (m_order : Nat → Int32) (m_best : Nat → Int32) (m_many : Int32) : Option (Int64 × (Nat → Int32) × (Nat → Int32) × (Int32)) :=
  if (5 : Int32) ≤ x3 then f_X6_finds_L54 a1 a2 m_s  1024 (-1 : Int64) (1 : Int32) m_order m_best m_many
  else if ((a1 >>> (x3 &&& 31)) &&& (1 : Int32)) = (1 : Int32) then grd (inb m_many 5) (k7 (x3 + (1 : Int32)) (upd m_order m_many.toNatClampNeg x3) m_best (m_many + (1 : Int32)))
  else k7 (x3 + (1 : Int32)) m_order m_best m_many
def f_X6_finds_L7 (a1 : Int32) (a2 : Int32) (m_s : Nat → Int32)  : Nat → Int32 → (Nat → Int32) → (Nat → Int32) → Int32 → Option (Int64 × (Nat → Int32) × (Nat → Int32) × (Int32))
  | 0 => fun _ _ _ _ => none
  | n + 1 => f_X6_finds_L7b a1 a2 m_s  (f_X6_finds_L7 a1 a2 m_s  n)
def f_X6_finds (a1 : Int32) (a2 : Int32) (m_s : Nat → Int32) (m_order : Nat → Int32) (m_best : Nat → Int32) (m_many : Int32) : Option (Int64 × (Nat → Int32) × (Nat → Int32) × (Int32)) :=
  f_X6_finds_L7 a1 a2 m_s  1024 (0 : Int32) m_order m_best (0 : Int32)
def f_X6_findsBySets_L22b (a1 : Int32) (a2 : Int32) (m_s : Nat → Int32) (k9 : Int32 → (Nat → Int64) → Option (Int64 × (Nat → Int64))) (k22 : Int32 → Int64 → Int32 → (Nat → Int64) → Option (Int64 × (Nat → Int64))) (x3 : Int32) (x4 : Int64) (x6 : Int32) (m_bySets : Nat → Int64) : Option (Int64 × (Nat → Int64)) :=
  if (5 : Int32) ≤ x6 then bnd (f_X6_sizeOf x3 a2 m_s) (fun q5 => grd (inb x3 32) (k9 (x3 + (1 : Int32)) (vp_updL m_bySets x3.toNatClampNeg (x4 + q5))))
  else if ((x3 >>> (x6 &&& 31)) &&& (1 : Int32)) = (1 : Int32) then grd (inb (x3 - ((1 : Int32) <<< (x6 &&& 31))) 32) (if (lg_cmp x4 (0 : Int64)) < (0 : Int32) then k22 x3 (m_bySets (x3 - ((1 : Int32) <<< (x6 &&& 31))).toNatClampNeg) (x6 + (1 : Int32)) m_bySets
  else if (0 : Int32) ≤ (lg_cmp (m_bySets (x3 - ((1 : Int32) <<< (x6 &&& 31))).toNatClampNeg) x4) then k22 x3 x4 (x6 + (1 : Int32)) m_bySets
  else k22 x3 (m_bySets (x3 - ((1 : Int32) <<< (x6 &&& 31))).toNatClampNeg) (x6 + (1 : Int32)) m_bySets)
  else k22 x3 x4 (x6 + (1 : Int32)) m_bySets
def f_X6_findsBySets_L22 (a1 : Int32) (a2 : Int32) (m_s : Nat → Int32) (k9 : Int32 → (Nat → Int64) → Option (Int64 × (Nat → Int64))) : Nat → Int32 → Int64 → Int32 → (Nat → Int64) → Option (Int64 × (Nat → Int64))
  | 0 => fun _ _ _ _ => none
  | n + 1 => f_X6_findsBySets_L22b a1 a2 m_s k9 (f_X6_findsBySets_L22 a1 a2 m_s k9 n)
def f_X6_findsBySets_L9b (a1 : Int32) (a2 : Int32) (m_s : Nat → Int32)  (k9 : Int32 → (Nat → Int64) → Option (Int64 × (Nat → Int64))) (x3 : Int32) (m_bySets : Nat → Int64) : Option (Int64 × (Nat → Int64)) :=
  if a1 < x3 then grd (inb a1 32) (some ((m_bySets a1.toNatClampNeg), m_bySets))
  else f_X6_findsBySets_L22 a1 a2 m_s k9 1024 x3 (-1 : Int64) (0 : Int32) m_bySets
def f_X6_findsBySets_L9 (a1 : Int32) (a2 : Int32) (m_s : Nat → Int32)  : Nat → Int32 → (Nat → Int64) → Option (Int64 × (Nat → Int64))
  | 0 => fun _ _ => none
  | n + 1 => f_X6_findsBySets_L9b a1 a2 m_s  (f_X6_findsBySets_L9 a1 a2 m_s  n)
def f_X6_findsBySets (a1 : Int32) (a2 : Int32) (m_s : Nat → Int32) (m_bySets : Nat → Int64) : Option (Int64 × (Nat → Int64)) :=
  grd (inb (0 : Int32) 32) (f_X6_findsBySets_L9 a1 a2 m_s  1024 (1 : Int32) (vp_updL m_bySets (0 : Int32).toNatClampNeg (0 : Int64)))
def f_X6_at (a1 : Int32)  : Option (Int32) :=
  some ((36 : Int32) + ((14 : Int32) * a1))
def f_X6_slotOf_L2b (a1 : Int32) (m_s : Nat → Int32)  (k2 : Int32 → Option (Int32)) (x2 : Int32) : Option (Int32) :=
  if (4 : Int32) ≤ x2 then some (-4 : Int32)
  else bnd (f_X6_at x2 ) (fun q2 => grd (inb q2 100) (if (m_s q2.toNatClampNeg) = a1 then some x2
  else k2 (x2 + (1 : Int32))))
def f_X6_slotOf_L2 (a1 : Int32) (m_s : Nat → Int32)  : Nat → Int32 → Option (Int32)
  | 0 => fun _ => none
  | n + 1 => f_X6_slotOf_L2b a1 m_s  (f_X6_slotOf_L2 a1 m_s  n)
def f_X6_slotOf (a1 : Int32) (m_s : Nat → Int32) : Option (Int32) :=
  f_X6_slotOf_L2 a1 m_s  1024 (0 : Int32)
def f_X6_tablesIn_L4b (a1 : Int32)   (k4 : Int32 → Int32 → Option (Int32)) (x1 : Int32) (x2 : Int32) : Option (Int32) :=
  if (5 : Int32) ≤ x2 then some x1
  else k4 (x1 + ((a1 >>> (x2 &&& 31)) &&& (1 : Int32))) (x2 + (1 : Int32))
def f_X6_tablesIn_L4 (a1 : Int32)   : Nat → Int32 → Int32 → Option (Int32)
  | 0 => fun _ _ => none
  | n + 1 => f_X6_tablesIn_L4b a1  (f_X6_tablesIn_L4 a1  n)
def f_X6_tablesIn (a1 : Int32)  : Option (Int32) :=
  f_X6_tablesIn_L4 a1  1024 (0 : Int32) (0 : Int32)
def f_X6_costAt_L18b (a1 : Int32) (a2 : Int32) (m_s : Nat → Int32)  (k18 : Int32 → (Nat → Int32) → Int32 → Option (Int64 × (Nat → Int32) × (Int32))) (x3 : Int32) (m_order : Nat → Int32) (m_many : Int32) : Option (Int64 × (Nat → Int32) × (Int32)) :=
  if m_many ≤ x3 then bnd (f_X6_costOf a2 m_s m_order m_many) (fun q5 => some (q5, m_order, m_many))
  else bnd (f_X6_at a1 ) (fun q6 => grd (inb ((q6 + (1 : Int32)) + x3) 100) (grd (inb x3 5) (k18 (x3 + (1 : Int32)) (upd m_order x3.toNatClampNeg (m_s ((q6 + (1 : Int32)) + x3).toNatClampNeg)) m_many)))
def f_X6_costAt_L18 (a1 : Int32) (a2 : Int32) (m_s : Nat → Int32)  : Nat → Int32 → (Nat → Int32) → Int32 → Option (Int64 × (Nat → Int32) × (Int32))
  | 0 => fun _ _ _ => none
  | n + 1 => f_X6_costAt_L18b a1 a2 m_s  (f_X6_costAt_L18 a1 a2 m_s  n)
def f_X6_costAt (a1 : Int32) (a2 : Int32) (m_s : Nat → Int32) (m_order : Nat → Int32) (m_many : Int32) : Option (Int64 × (Nat → Int32) × (Int32)) :=
  bnd (f_X6_at a1 ) (fun q1 => grd (inb q1 100) (bnd (f_X6_tablesIn (m_s q1.toNatClampNeg) ) (fun q3 => f_X6_costAt_L18 a1 a2 m_s  1024 (0 : Int32) m_order q3)))
def f_X6_hasDrifted_J69 (a1 : Int32) (a2 : Int32) (m_s : Nat → Int32) (k5 : Int32 → Int32 → Option (Int32)) (x3 : Int32) (x4 : Int32) (x7 : Int32) (t0 : Int32) : Option (Int32) :=
  if x3 = (0 : Int32) then bnd (f_X6_at a1 ) (fun q9 => grd (inb q9 100) (if (((m_s q9.toNatClampNeg) >>> (x4 &&& 31)) &&& (1 : Int32)) = (1 : Int32) then if (t0 * (100 : Int32)) ≤ (x7 * a2) then k5 (0 : Int32) (x4 + (1 : Int32))
  else k5 (1 : Int32) (x4 + (1 : Int32))
  else k5 (0 : Int32) (x4 + (1 : Int32))))
  else k5 (1 : Int32) (x4 + (1 : Int32))
def f_X6_hasDrifted_L5b (a1 : Int32) (a2 : Int32) (m_s : Nat → Int32)  (k5 : Int32 → Int32 → Option (Int32)) (x3 : Int32) (x4 : Int32) : Option (Int32) :=
  if (5 : Int32) ≤ x4 then grd (isB x3) (some x3)
  else grd (inb ((5 : Int32) + x4) 100) (bnd (f_X6_at a1 ) (fun q4 => grd (inb ((q4 + (6 : Int32)) + x4) 100) (if (m_s ((q4 + (6 : Int32)) + x4).toNatClampNeg) ≤ (m_s ((5 : Int32) + x4).toNatClampNeg) then if (m_s ((q4 + (6 : Int32)) + x4).toNatClampNeg) ≤ (m_s ((5 : Int32) + x4).toNatClampNeg) then f_X6_hasDrifted_J69 a1 a2 m_s k5 x3 x4 (m_s ((q4 + (6 : Int32)) + x4).toNatClampNeg) (m_s ((5 : Int32) + x4).toNatClampNeg)
  else f_X6_hasDrifted_J69 a1 a2 m_s k5 x3 x4 (m_s ((q4 + (6 : Int32)) + x4).toNatClampNeg) (m_s ((q4 + (6 : Int32)) + x4).toNatClampNeg)
  else if (m_s ((q4 + (6 : Int32)) + x4).toNatClampNeg) ≤ (m_s ((5 : Int32) + x4).toNatClampNeg) then f_X6_hasDrifted_J69 a1 a2 m_s k5 x3 x4 (m_s ((5 : Int32) + x4).toNatClampNeg) (m_s ((5 : Int32) + x4).toNatClampNeg)
  else f_X6_hasDrifted_J69 a1 a2 m_s k5 x3 x4 (m_s ((5 : Int32) + x4).toNatClampNeg) (m_s ((q4 + (6 : Int32)) + x4).toNatClampNeg))))
def f_X6_hasDrifted_L5 (a1 : Int32) (a2 : Int32) (m_s : Nat → Int32)  : Nat → Int32 → Int32 → Option (Int32)
  | 0 => fun _ _ => none
  | n + 1 => f_X6_hasDrifted_L5b a1 a2 m_s  (f_X6_hasDrifted_L5 a1 a2 m_s  n)
def f_X6_hasDrifted (a1 : Int32) (a2 : Int32) (m_s : Nat → Int32) : Option (Int32) :=
  f_X6_hasDrifted_L5 a1 a2 m_s  1024 (0 : Int32) (0 : Int32)
def f_X6_isLoose (a1 : Int32) (m_s : Nat → Int32) : Option (Int32) :=
  bnd (f_X6_at a1 ) (fun q1 => grd (inb q1 100) (if (m_s q1.toNatClampNeg) ≤ (0 : Int32) then some (0 : Int32)
  else bnd (f_X6_at a1 ) (fun q4 => grd (inb (q4 + (13 : Int32)) 100) (if (m_s (q4 + (13 : Int32)).toNatClampNeg) = (0 : Int32) then some (1 : Int32)
  else some (0 : Int32)))))
def f_X6_empties_L2b (a1 : Int32)   (k2 : Int32 → (Nat → Int32) → Option ((Nat → Int32))) (x2 : Int32) (m_s : Nat → Int32) : Option ((Nat → Int32)) :=
  if (14 : Int32) ≤ x2 then some m_s
  else bnd (f_X6_at a1 ) (fun q2 => grd (inb (q2 + x2) 100) (k2 (x2 + (1 : Int32)) (upd m_s (q2 + x2).toNatClampNeg (0 : Int32))))
def f_X6_empties_L2 (a1 : Int32)   : Nat → Int32 → (Nat → Int32) → Option ((Nat → Int32))
  | 0 => fun _ _ => none
  | n + 1 => f_X6_empties_L2b a1  (f_X6_empties_L2 a1  n)
def f_X6_empties (a1 : Int32) (m_s : Nat → Int32) : Option ((Nat → Int32)) :=
  f_X6_empties_L2 a1  1024 (0 : Int32) m_s
def f_X6_throwsOut_L4b    (k4 : Int32 → Int32 → (Nat → Int32) → Option (Int32 × (Nat → Int32))) (x1 : Int32) (x2 : Int32) (m_s : Nat → Int32) : Option (Int32 × (Nat → Int32)) :=
  if (4 : Int32) ≤ x2 then grd (inb (95 : Int32) 100) (grd (inb (95 : Int32) 100) (some (x1, (upd m_s (95 : Int32).toNatClampNeg ((m_s (95 : Int32).toNatClampNeg) + x1)))))
  else bnd (f_X6_isLoose x2 m_s) (fun q4 => if q4 = (0 : Int32) then k4 x1 (x2 + (1 : Int32)) m_s
  else grd (inb (35 : Int32) 100) (bnd (f_X6_hasDrifted x2 (m_s (35 : Int32).toNatClampNeg) m_s) (fun q7 => if q7 = (0 : Int32) then k4 x1 (x2 + (1 : Int32)) m_s
  else bnd (f_X6_empties x2 m_s) (fun q9 => k4 (x1 + (1 : Int32)) (x2 + (1 : Int32)) q9))))
def f_X6_throwsOut_L4    : Nat → Int32 → Int32 → (Nat → Int32) → Option (Int32 × (Nat → Int32))
  | 0 => fun _ _ _ => none
  | n + 1 => f_X6_throwsOut_L4b   (f_X6_throwsOut_L4   n)
def f_X6_throwsOut  (m_s : Nat → Int32) : Option (Int32 × (Nat → Int32)) :=
  f_X6_throwsOut_L4   1024 (0 : Int32) (0 : Int32) m_s
def f_X6_counts (a1 : Int32) (m_s : Nat → Int32) : Option (Int32 × (Nat → Int32)) :=
  grd (inb ((0 : Int32) + a1) 100) (grd (inb ((5 : Int32) + a1) 100) (bnd (f_X6_throwsOut  (upd m_s ((5 : Int32) + a1).toNatClampNeg (m_s ((0 : Int32) + a1).toNatClampNeg))) (fun q3 => some (q3.1, q3.2))))
def f_X6_rows (a1 : Int32) (a2 : Int32) (m_s : Nat → Int32) (m_past : Nat → Int32) (m_paid : Nat → Int64) (m_pastPaid : Nat → Int64) (m_pasts : Int32) (m_runs : Int32) : Option (Int32 × (Nat → Int32) × (Nat → Int32) × (Nat → Int64) × (Int32)) :=
  bnd (f_X6_isTable a1 ) (fun q1 => if q1 = (0 : Int32) then some ((-1 : Int32), m_s, m_past, m_pastPaid, m_pasts)
  else bnd (f_X6_in a2 (1 : Int32) (500 : Int32) ) (fun q3 => if q3 = (0 : Int32) then some ((-1 : Int32), m_s, m_past, m_pastPaid, m_pasts)
  else bnd (f_X6_changes  m_s m_past m_paid m_pastPaid m_pasts m_runs) (fun q5 => grd (inb ((0 : Int32) + a1) 100) (grd (inb ((0 : Int32) + a1) 100) (some ((m_s ((0 : Int32) + a1).toNatClampNeg), (upd m_s ((0 : Int32) + a1).toNatClampNeg a2), q5.1, q5.2.1, q5.2.2))))))
def f_X6_part_L78b (a1 : Int32) (a2 : Int32) (a3 : Int32) (m_paid : Nat → Int64) (m_runs : Int32)  (k78 : Int32 → Int32 → Int32 → (Nat → Int32) → (Nat → Int32) → (Nat → Int64) → Int32 → Option (Int32 × (Nat → Int32) × (Nat → Int32) × (Nat → Int64) × (Int32))) (x4 : Int32) (x5 : Int32) (x6 : Int32) (m_s : Nat → Int32) (m_past : Nat → Int32) (m_pastPaid : Nat → Int64) (m_pasts : Int32) : Option (Int32 × (Nat → Int32) × (Nat → Int32) × (Nat → Int64) × (Int32)) :=
  if (4 : Int32) ≤ x6 then grd (inb (97 : Int32) 100) (grd (inb (97 : Int32) 100) (some (x5, (upd m_s (97 : Int32).toNatClampNeg ((m_s (97 : Int32).toNatClampNeg) + x5)), m_past, m_pastPaid, m_pasts)))
  else bnd (f_X6_isLoose x6 m_s) (fun q14 => if q14 = (0 : Int32) then k78 x4 x5 (x6 + (1 : Int32)) m_s m_past m_pastPaid m_pasts
  else bnd (f_X6_at x6 ) (fun q16 => grd (inb q16 100) (if ((m_s q16.toNatClampNeg) &&& x4) = x4 then bnd (f_X6_empties x6 m_s) (fun q19 => k78 x4 (x5 + (1 : Int32)) (x6 + (1 : Int32)) q19 m_past m_pastPaid m_pasts)
  else k78 x4 x5 (x6 + (1 : Int32)) m_s m_past m_pastPaid m_pasts)))
def f_X6_part_L78 (a1 : Int32) (a2 : Int32) (a3 : Int32) (m_paid : Nat → Int64) (m_runs : Int32)  : Nat → Int32 → Int32 → Int32 → (Nat → Int32) → (Nat → Int32) → (Nat → Int64) → Int32 → Option (Int32 × (Nat → Int32) × (Nat → Int32) × (Nat → Int64) × (Int32))
  | 0 => fun _ _ _ _ _ _ _ => none
  | n + 1 => f_X6_part_L78b a1 a2 a3 m_paid m_runs  (f_X6_part_L78 a1 a2 a3 m_paid m_runs  n)
def f_X6_part (a1 : Int32) (a2 : Int32) (a3 : Int32) (m_s : Nat → Int32) (m_past : Nat → Int32) (m_paid : Nat → Int64) (m_pastPaid : Nat → Int64) (m_pasts : Int32) (m_runs : Int32) : Option (Int32 × (Nat → Int32) × (Nat → Int32) × (Nat → Int64) × (Int32)) :=
  bnd (f_X6_isTable a1 ) (fun q1 => if q1 = (0 : Int32) then some ((-1 : Int32), m_s, m_past, m_pastPaid, m_pasts)
  else bnd (f_X6_isTable a2 ) (fun q3 => if q3 = (0 : Int32) then some ((-1 : Int32), m_s, m_past, m_pastPaid, m_pasts)
  else if a1 = a2 then some ((-1 : Int32), m_s, m_past, m_pastPaid, m_pasts)
  else bnd (f_X6_in a3 (1 : Int32) (100 : Int32) ) (fun q6 => if q6 = (0 : Int32) then some ((-1 : Int32), m_s, m_past, m_pastPaid, m_pasts)
  else bnd (f_X6_changes  m_s m_past m_paid m_pastPaid m_pasts m_runs) (fun q8 => grd (inb (((10 : Int32) + ((5 : Int32) * a1)) + a2) 100) (grd (inb (((10 : Int32) + ((5 : Int32) * a2)) + a1) 100) (f_X6_part_L78 a1 a2 a3 m_paid m_runs  1024 (((1 : Int32) <<< (a1 &&& 31)) ||| ((1 : Int32) <<< (a2 &&& 31))) (0 : Int32) (0 : Int32) (upd (upd m_s (((10 : Int32) + ((5 : Int32) * a1)) + a2).toNatClampNeg a3) (((10 : Int32) + ((5 : Int32) * a2)) + a1).toNatClampNeg a3) q8.1 q8.2.1 q8.2.2))))))
def f_X6_count (a1 : Int32) (m_s : Nat → Int32) (m_past : Nat → Int32) (m_paid : Nat → Int64) (m_pastPaid : Nat → Int64) (m_pasts : Int32) (m_runs : Int32) : Option (Int32 × (Nat → Int32) × (Nat → Int32) × (Nat → Int64) × (Int32)) :=
  bnd (f_X6_isTable a1 ) (fun q1 => if q1 = (0 : Int32) then some ((-1 : Int32), m_s, m_past, m_pastPaid, m_pasts)
  else bnd (f_X6_changes  m_s m_past m_paid m_pastPaid m_pasts m_runs) (fun q3 => bnd (f_X6_counts a1 m_s) (fun q4 => some (q4.1, q4.2, q3.1, q3.2.1, q3.2.2))))
def f_X6_slotFor_L17b    (k17 : Int32 → Int32 → (Nat → Int32) → Option (Int32 × (Nat → Int32))) (x2 : Int32) (x3 : Int32) (m_s : Nat → Int32) : Option (Int32 × (Nat → Int32)) :=
  if (4 : Int32) ≤ x3 then grd (inb (96 : Int32) 100) (if (0 : Int32) ≤ x2 then grd (inb (96 : Int32) 100) (some (x2, (upd m_s (96 : Int32).toNatClampNeg ((m_s (96 : Int32).toNatClampNeg) + (1 : Int32)))))
  else grd (inb (96 : Int32) 100) (some (x2, (upd m_s (96 : Int32).toNatClampNeg ((m_s (96 : Int32).toNatClampNeg) + (0 : Int32))))))
  else bnd (f_X6_isLoose x3 m_s) (fun q8 => if q8 = (0 : Int32) then k17 x2 (x3 + (1 : Int32)) m_s
  else if x2 < (0 : Int32) then k17 x3 (x3 + (1 : Int32)) m_s
  else bnd (f_X6_at x3 ) (fun q11 => grd (inb (q11 + (12 : Int32)) 100) (bnd (f_X6_at x2 ) (fun q13 => grd (inb (q13 + (12 : Int32)) 100) (if (m_s (q13 + (12 : Int32)).toNatClampNeg) ≤ (m_s (q11 + (12 : Int32)).toNatClampNeg) then k17 x2 (x3 + (1 : Int32)) m_s
  else k17 x3 (x3 + (1 : Int32)) m_s)))))
def f_X6_slotFor_L17    : Nat → Int32 → Int32 → (Nat → Int32) → Option (Int32 × (Nat → Int32))
  | 0 => fun _ _ _ => none
  | n + 1 => f_X6_slotFor_L17b   (f_X6_slotFor_L17   n)
def f_X6_slotFor  (m_s : Nat → Int32) : Option (Int32 × (Nat → Int32)) :=
  bnd (f_X6_slotOf (0 : Int32) m_s) (fun q1 => if q1 < (0 : Int32) then f_X6_slotFor_L17   1024 (-4 : Int32) (0 : Int32) m_s
  else some (q1, m_s))
def f_X6_makes_L153b (a1 : Int32)   (k153 : Int32 → Int64 → Int32 → (Nat → Int32) → (Nat → Int32) → (Nat → Int32) → Int32 → Option (Int64 × (Nat → Int32) × (Nat → Int32) × (Nat → Int32) × (Int32))) (x4 : Int32) (x5 : Int64) (x7 : Int32) (m_s : Nat → Int32) (m_order : Nat → Int32) (m_best : Nat → Int32) (m_many : Int32) : Option (Int64 × (Nat → Int32) × (Nat → Int32) × (Nat → Int32) × (Int32)) :=
  if (5 : Int32) ≤ x7 then bnd (f_X6_at x4 ) (fun q14 => grd (inb (q14 + (11 : Int32)) 100) (bnd (f_X6_at x4 ) (fun q16 => grd (inb (92 : Int32) 100) (grd (inb (q16 + (12 : Int32)) 100) (some (x5, (upd (upd m_s (q14 + (11 : Int32)).toNatClampNeg (1 : Int32)) (q16 + (12 : Int32)).toNatClampNeg ((upd m_s (q14 + (11 : Int32)).toNatClampNeg (1 : Int32)) (92 : Int32).toNatClampNeg)), m_order, m_best, m_many))))))
  else bnd (f_X6_at x4 ) (fun q19 => grd (inb ((5 : Int32) + x7) 100) (grd (inb ((q19 + (6 : Int32)) + x7) 100) (k153 x4 x5 (x7 + (1 : Int32)) (upd m_s ((q19 + (6 : Int32)) + x7).toNatClampNeg (m_s ((5 : Int32) + x7).toNatClampNeg)) m_order m_best m_many)))
def f_X6_makes_L153 (a1 : Int32)   : Nat → Int32 → Int64 → Int32 → (Nat → Int32) → (Nat → Int32) → (Nat → Int32) → Int32 → Option (Int64 × (Nat → Int32) × (Nat → Int32) × (Nat → Int32) × (Int32))
  | 0 => fun _ _ _ _ _ _ _ => none
  | n + 1 => f_X6_makes_L153b a1  (f_X6_makes_L153 a1  n)
def f_X6_makes_L113b (a1 : Int32)   (k113 : Int32 → Int64 → Int32 → (Nat → Int32) → (Nat → Int32) → (Nat → Int32) → Int32 → Option (Int64 × (Nat → Int32) × (Nat → Int32) × (Nat → Int32) × (Int32))) (x4 : Int32) (x5 : Int64) (x7 : Int32) (m_s : Nat → Int32) (m_order : Nat → Int32) (m_best : Nat → Int32) (m_many : Int32) : Option (Int64 × (Nat → Int32) × (Nat → Int32) × (Nat → Int32) × (Int32)) :=
  if m_many ≤ x7 then f_X6_makes_L153 a1  1024 x4 x5 (0 : Int32) m_s m_order m_best m_many
  else bnd (f_X6_at x4 ) (fun q22 => grd (inb x7 5) (grd (inb ((q22 + (1 : Int32)) + x7) 100) (k113 x4 x5 (x7 + (1 : Int32)) (upd m_s ((q22 + (1 : Int32)) + x7).toNatClampNeg (m_best x7.toNatClampNeg)) m_order m_best m_many)))
def f_X6_makes_L113 (a1 : Int32)   : Nat → Int32 → Int64 → Int32 → (Nat → Int32) → (Nat → Int32) → (Nat → Int32) → Int32 → Option (Int64 × (Nat → Int32) × (Nat → Int32) × (Nat → Int32) × (Int32))
  | 0 => fun _ _ _ _ _ _ _ => none
  | n + 1 => f_X6_makes_L113b a1  (f_X6_makes_L113 a1  n)
def f_X6_makes_L38b (a1 : Int32)   (k38 : Int32 → Int32 → (Nat → Int32) → (Nat → Int32) → (Nat → Int32) → Int32 → Option (Int64 × (Nat → Int32) × (Nat → Int32) × (Nat → Int32) × (Int32))) (x4 : Int32) (x5 : Int32) (m_s : Nat → Int32) (m_order : Nat → Int32) (m_best : Nat → Int32) (m_many : Int32) : Option (Int64 × (Nat → Int32) × (Nat → Int32) × (Nat → Int32) × (Int32)) :=
  if m_many ≤ x5 then bnd (f_X6_costOf (0 : Int32) m_s m_order m_many) (fun q7 => if (0 : Int32) ≤ x4 then bnd (f_X6_empties x4 m_s) (fun q9 => bnd (f_X6_at x4 ) (fun q10 => grd (inb q10 100) (f_X6_makes_L113 a1  1024 x4 q7 (0 : Int32) (upd q9 q10.toNatClampNeg a1) m_order m_best m_many)))
  else grd (inb (99 : Int32) 100) (grd (inb (99 : Int32) 100) (some (q7, (upd m_s (99 : Int32).toNatClampNeg ((m_s (99 : Int32).toNatClampNeg) + (1 : Int32))), m_order, m_best, m_many))))
  else grd (inb x5 5) (grd (inb x5 5) (k38 x4 (x5 + (1 : Int32)) m_s (upd m_order x5.toNatClampNeg (m_best x5.toNatClampNeg)) m_best m_many))
def f_X6_makes_L38 (a1 : Int32)   : Nat → Int32 → Int32 → (Nat → Int32) → (Nat → Int32) → (Nat → Int32) → Int32 → Option (Int64 × (Nat → Int32) × (Nat → Int32) × (Nat → Int32) × (Int32))
  | 0 => fun _ _ _ _ _ _ => none
  | n + 1 => f_X6_makes_L38b a1  (f_X6_makes_L38 a1  n)
def f_X6_makes (a1 : Int32) (m_s : Nat → Int32) (m_order : Nat → Int32) (m_best : Nat → Int32) (m_many : Int32) : Option (Int64 × (Nat → Int32) × (Nat → Int32) × (Nat → Int32) × (Int32)) :=
  bnd (f_X6_finds a1 (5 : Int32) m_s m_order m_best m_many) (fun q1 => if (0 : Int32) ≤ (lg_cmp q1.1 (0 : Int64)) then bnd (f_X6_slotFor  m_s) (fun q3 => grd (inb (94 : Int32) 100) (grd (inb (94 : Int32) 100) (f_X6_makes_L38 a1  1024 q3.1 (0 : Int32) (upd q3.2 (94 : Int32).toNatClampNeg ((q3.2 (94 : Int32).toNatClampNeg) + (1 : Int32))) q1.2.1 q1.2.2.1 q1.2.2.2)))
  else grd (inb (94 : Int32) 100) (grd (inb (94 : Int32) 100) (f_X6_makes_L38 a1  1024 (-4 : Int32) (0 : Int32) (upd m_s (94 : Int32).toNatClampNeg ((m_s (94 : Int32).toNatClampNeg) + (1 : Int32))) q1.2.1 q1.2.2.1 q1.2.2.2)))
def f_X6_uses (a1 : Int32) (m_s : Nat → Int32) (m_order : Nat → Int32) (m_many : Int32) : Option (Int64 × (Nat → Int32) × (Nat → Int32) × (Int32)) :=
  grd (inb (93 : Int32) 100) (grd (inb (93 : Int32) 100) (bnd (f_X6_at a1 ) (fun q3 => grd (inb (q3 + (11 : Int32)) 100) (grd (inb (q3 + (11 : Int32)) 100) (bnd (f_X6_at a1 ) (fun q6 => grd (inb (92 : Int32) 100) (grd (inb (q6 + (12 : Int32)) 100) (bnd (f_X6_costAt a1 (0 : Int32) (upd (upd (upd m_s (93 : Int32).toNatClampNeg ((m_s (93 : Int32).toNatClampNeg) + (1 : Int32))) (q3 + (11 : Int32)).toNatClampNeg (((upd m_s (93 : Int32).toNatClampNeg ((m_s (93 : Int32).toNatClampNeg) + (1 : Int32))) (q3 + (11 : Int32)).toNatClampNeg) + (1 : Int32))) (q6 + (12 : Int32)).toNatClampNeg ((upd (upd m_s (93 : Int32).toNatClampNeg ((m_s (93 : Int32).toNatClampNeg) + (1 : Int32))) (q3 + (11 : Int32)).toNatClampNeg (((upd m_s (93 : Int32).toNatClampNeg ((m_s (93 : Int32).toNatClampNeg) + (1 : Int32))) (q3 + (11 : Int32)).toNatClampNeg) + (1 : Int32))) (92 : Int32).toNatClampNeg)) m_order m_many) (fun q9 => some (q9.1, (upd (upd (upd m_s (93 : Int32).toNatClampNeg ((m_s (93 : Int32).toNatClampNeg) + (1 : Int32))) (q3 + (11 : Int32)).toNatClampNeg (((upd m_s (93 : Int32).toNatClampNeg ((m_s (93 : Int32).toNatClampNeg) + (1 : Int32))) (q3 + (11 : Int32)).toNatClampNeg) + (1 : Int32))) (q6 + (12 : Int32)).toNatClampNeg ((upd (upd m_s (93 : Int32).toNatClampNeg ((m_s (93 : Int32).toNatClampNeg) + (1 : Int32))) (q3 + (11 : Int32)).toNatClampNeg (((upd m_s (93 : Int32).toNatClampNeg ((m_s (93 : Int32).toNatClampNeg) + (1 : Int32))) (q3 + (11 : Int32)).toNatClampNeg) + (1 : Int32))) (92 : Int32).toNatClampNeg)), q9.2.1, q9.2.2))))))))))
def f_X6_runsOf_L78b (a1 : Int32)   (k78 : Int64 → Int64 → Int32 → (Nat → Int32) → (Nat → Int64) → (Nat → Int32) → (Nat → Int32) → Int32 → Option (Int64 × (Nat → Int32) × (Nat → Int64) × (Nat → Int32) × (Nat → Int32) × (Int32))) (x3 : Int64) (x5 : Int64) (x7 : Int32) (m_s : Nat → Int32) (m_paid : Nat → Int64) (m_order : Nat → Int32) (m_best : Nat → Int32) (m_many : Int32) : Option (Int64 × (Nat → Int32) × (Nat → Int64) × (Nat → Int32) × (Nat → Int32) × (Int32)) :=
  if (5 : Int32) ≤ x7 then bnd (f_X6_throwsOut  m_s) (fun q12 => if (0 : Int32) ≤ q12.1 then some ((x5 + x3), q12.2, m_paid, m_order, m_best, m_many)
  else some (x5, q12.2, m_paid, m_order, m_best, m_many))
  else if ((a1 >>> (x7 &&& 31)) &&& (1 : Int32)) = (1 : Int32) then grd (inb ((0 : Int32) + x7) 100) (grd (inb ((5 : Int32) + x7) 100) (k78 x3 x5 (x7 + (1 : Int32)) (upd m_s ((5 : Int32) + x7).toNatClampNeg (m_s ((0 : Int32) + x7).toNatClampNeg)) m_paid m_order m_best m_many))
  else grd (inb ((5 : Int32) + x7) 100) (grd (inb ((5 : Int32) + x7) 100) (k78 x3 x5 (x7 + (1 : Int32)) (upd m_s ((5 : Int32) + x7).toNatClampNeg (m_s ((5 : Int32) + x7).toNatClampNeg)) m_paid m_order m_best m_many))
def f_X6_runsOf_L78 (a1 : Int32)   : Nat → Int64 → Int64 → Int32 → (Nat → Int32) → (Nat → Int64) → (Nat → Int32) → (Nat → Int32) → Int32 → Option (Int64 × (Nat → Int32) × (Nat → Int64) × (Nat → Int32) × (Nat → Int32) × (Int32))
  | 0 => fun _ _ _ _ _ _ _ _ => none
  | n + 1 => f_X6_runsOf_L78b a1  (f_X6_runsOf_L78 a1  n)
def f_X6_runsOf_J52 (a1 : Int32)   (x3 : Int64) (t0 : Int64) (m_s : Nat → Int32) (m_paid : Nat → Int64) (m_order : Nat → Int32) (m_best : Nat → Int32) (m_many : Int32) : Option (Int64 × (Nat → Int32) × (Nat → Int64) × (Nat → Int32) × (Nat → Int32) × (Int32)) :=
  grd (inb (0 : Int32) 2) (grd (inb (0 : Int32) 2) (grd (inb (1 : Int32) 2) (grd (inb (1 : Int32) 2) (f_X6_runsOf_L78 a1  1024 x3 t0 (0 : Int32) m_s (vp_updL (vp_updL m_paid (0 : Int32).toNatClampNeg ((m_paid (0 : Int32).toNatClampNeg) + t0)) (1 : Int32).toNatClampNeg (((vp_updL m_paid (0 : Int32).toNatClampNeg ((m_paid (0 : Int32).toNatClampNeg) + t0)) (1 : Int32).toNatClampNeg) + x3)) m_order m_best m_many))))
def f_X6_runsOf (a1 : Int32) (m_s : Nat → Int32) (m_paid : Nat → Int64) (m_order : Nat → Int32) (m_best : Nat → Int32) (m_many : Int32) : Option (Int64 × (Nat → Int32) × (Nat → Int64) × (Nat → Int32) × (Nat → Int32) × (Int32)) :=
  grd (inb (92 : Int32) 100) (grd (inb (92 : Int32) 100) (bnd (f_X6_slotOf a1 (upd m_s (92 : Int32).toNatClampNeg ((m_s (92 : Int32).toNatClampNeg) + (1 : Int32)))) (fun q3 => if (0 : Int32) ≤ q3 then if (0 : Int32) ≤ q3 then bnd (f_X6_uses q3 (upd m_s (92 : Int32).toNatClampNeg ((m_s (92 : Int32).toNatClampNeg) + (1 : Int32))) m_order m_many) (fun q6 => f_X6_runsOf_J52 a1  (0 : Int64) q6.1 q6.2.1 m_paid q6.2.2.1 m_best q6.2.2.2)
  else bnd (f_X6_makes a1 (upd m_s (92 : Int32).toNatClampNeg ((m_s (92 : Int32).toNatClampNeg) + (1 : Int32))) m_order m_best m_many) (fun q19 => f_X6_runsOf_J52 a1  (0 : Int64) q19.1 q19.2.1 m_paid q19.2.2.1 q19.2.2.2.1 q19.2.2.2.2)
  else bnd (f_X6_tablesIn a1 ) (fun q20 => if (0 : Int32) ≤ q3 then bnd (f_X6_uses q3 (upd m_s (92 : Int32).toNatClampNeg ((m_s (92 : Int32).toNatClampNeg) + (1 : Int32))) m_order m_many) (fun q22 => f_X6_runsOf_J52 a1  ((10 : Int64) * q20.toInt64) q22.1 q22.2.1 m_paid q22.2.2.1 m_best q22.2.2.2)
  else bnd (f_X6_makes a1 (upd m_s (92 : Int32).toNatClampNeg ((m_s (92 : Int32).toNatClampNeg) + (1 : Int32))) m_order m_best m_many) (fun q23 => f_X6_runsOf_J52 a1  ((10 : Int64) * q20.toInt64) q23.1 q23.2.1 m_paid q23.2.2.1 q23.2.2.2.1 q23.2.2.2.2)))))
def f_X6_run (a1 : Int32) (m_s : Nat → Int32) (m_past : Nat → Int32) (m_paid : Nat → Int64) (m_pastPaid : Nat → Int64) (m_pasts : Int32) (m_runs : Int32) (m_order : Nat → Int32) (m_best : Nat → Int32) (m_many : Int32) : Option (Int32 × (Nat → Int32) × (Nat → Int32) × (Nat → Int64) × (Nat → Int64) × (Int32) × (Nat → Int32) × (Nat → Int32) × (Int32)) :=
  bnd (f_X6_isSet a1 ) (fun q1 => if q1 = (0 : Int32) then some ((-1 : Int32), m_s, m_past, m_paid, m_pastPaid, m_pasts, m_order, m_best, m_many)
  else bnd (f_X6_changes  m_s m_past m_paid m_pastPaid m_pasts m_runs) (fun q3 => bnd (f_X6_runsOf a1 m_s m_paid m_order m_best m_many) (fun q4 => bnd (f_X6_cut q4.1 ) (fun q5 => some (q5, q4.2.1, q3.1, q4.2.2.1, q3.2.1, q3.2.2, q4.2.2.2.1, q4.2.2.2.2.1, q4.2.2.2.2.2)))))
def f_X6_pin (a1 : Int32) (m_s : Nat → Int32) (m_past : Nat → Int32) (m_paid : Nat → Int64) (m_pastPaid : Nat → Int64) (m_pasts : Int32) (m_runs : Int32) : Option (Int32 × (Nat → Int32) × (Nat → Int32) × (Nat → Int64) × (Int32)) :=
  bnd (f_X6_isSet a1 ) (fun q1 => if q1 = (0 : Int32) then some ((-1 : Int32), m_s, m_past, m_pastPaid, m_pasts)
  else bnd (f_X6_slotOf a1 m_s) (fun q3 => if (0 : Int32) ≤ q3 then bnd (f_X6_changes  m_s m_past m_paid m_pastPaid m_pasts m_runs) (fun q5 => bnd (f_X6_at q3 ) (fun q6 => grd (inb (q6 + (13 : Int32)) 100) (bnd (f_X6_at q3 ) (fun q8 => grd (inb (q8 + (13 : Int32)) 100) (if ((1 : Int32) - (m_s (q6 + (13 : Int32)).toNatClampNeg)) = (0 : Int32) then bnd (f_X6_throwsOut  (upd m_s (q8 + (13 : Int32)).toNatClampNeg ((1 : Int32) - (m_s (q6 + (13 : Int32)).toNatClampNeg)))) (fun q11 => if (0 : Int32) ≤ q11.1 then some (((1 : Int32) - (m_s (q6 + (13 : Int32)).toNatClampNeg)), q11.2, q5.1, q5.2.1, q5.2.2)
  else some ((-4 : Int32), q11.2, q5.1, q5.2.1, q5.2.2))
  else some (((1 : Int32) - (m_s (q6 + (13 : Int32)).toNatClampNeg)), (upd m_s (q8 + (13 : Int32)).toNatClampNeg ((1 : Int32) - (m_s (q6 + (13 : Int32)).toNatClampNeg))), q5.1, q5.2.1, q5.2.2))))))
  else some ((-2 : Int32), m_s, m_past, m_pastPaid, m_pasts)))
def f_X6_forget (a1 : Int32) (m_s : Nat → Int32) (m_past : Nat → Int32) (m_paid : Nat → Int64) (m_pastPaid : Nat → Int64) (m_pasts : Int32) (m_runs : Int32) : Option (Int32 × (Nat → Int32) × (Nat → Int32) × (Nat → Int64) × (Int32)) :=
  bnd (f_X6_isSet a1 ) (fun q1 => if q1 = (0 : Int32) then some ((-1 : Int32), m_s, m_past, m_pastPaid, m_pasts)
  else bnd (f_X6_slotOf a1 m_s) (fun q3 => if (0 : Int32) ≤ q3 then bnd (f_X6_changes  m_s m_past m_paid m_pastPaid m_pasts m_runs) (fun q5 => bnd (f_X6_at q3 ) (fun q6 => grd (inb (q6 + (11 : Int32)) 100) (bnd (f_X6_empties q3 m_s) (fun q8 => grd (inb (98 : Int32) 100) (grd (inb (98 : Int32) 100) (some ((m_s (q6 + (11 : Int32)).toNatClampNeg), (upd q8 (98 : Int32).toNatClampNeg ((q8 (98 : Int32).toNatClampNeg) + (1 : Int32))), q5.1, q5.2.1, q5.2.2)))))))
  else some ((-2 : Int32), m_s, m_past, m_pastPaid, m_pasts)))
def f_X6_drift (a1 : Int32) (m_s : Nat → Int32) (m_past : Nat → Int32) (m_paid : Nat → Int64) (m_pastPaid : Nat → Int64) (m_pasts : Int32) (m_runs : Int32) : Option (Int32 × (Nat → Int32) × (Nat → Int32) × (Nat → Int64) × (Int32)) :=
  bnd (f_X6_in a1 (100 : Int32) (1000 : Int32) ) (fun q1 => if q1 = (0 : Int32) then some ((-1 : Int32), m_s, m_past, m_pastPaid, m_pasts)
  else bnd (f_X6_changes  m_s m_past m_paid m_pastPaid m_pasts m_runs) (fun q3 => grd (inb (35 : Int32) 100) (bnd (f_X6_throwsOut  (upd m_s (35 : Int32).toNatClampNeg a1)) (fun q5 => some (q5.1, q5.2, q3.1, q3.2.1, q3.2.2)))))
def f_X6_append (a1 : Int32) (m_pad : Nat → Int32) (m_typed : Int32) : Option (Int32 × (Nat → Int32) × (Int32)) :=
  bnd (f_X6_in a1 (33 : Int32) (126 : Int32) ) (fun q1 => if q1 = (0 : Int32) then some ((-1 : Int32), m_pad, m_typed)
  else if m_typed = (60 : Int32) then some ((-3 : Int32), m_pad, m_typed)
  else grd (inb m_typed 60) (some ((m_typed + (1 : Int32)), (upd m_pad m_typed.toNatClampNeg a1), (m_typed + (1 : Int32)))))
def f_X6_clear  (m_typed : Int32) : Option (Int32 × (Int32)) :=
  some (m_typed, (0 : Int32))
def f_X6_isAt (a1 : Int32) (a2 : Int32) (m_pad : Nat → Int32) (m_typed : Int32) (m_spot : Int32) : Option (Int32) :=
  if m_typed ≤ m_spot then some (0 : Int32)
  else grd (inb m_spot 60) (bnd (f_X6_in (m_pad m_spot.toNatClampNeg) a1 a2 ) (fun q3 => if q3 = (0 : Int32) then some (0 : Int32)
  else some (1 : Int32)))
def f_X6_sign (a1 : Int32) (m_pad : Nat → Int32) (m_typed : Int32) (m_spot : Int32) : Option (Int32 × (Int32)) :=
  bnd (f_X6_isAt a1 a1 m_pad m_typed m_spot) (fun q1 => if q1 = (0 : Int32) then grd (isB q1) (some (q1, (m_spot + (0 : Int32))))
  else grd (isB q1) (some (q1, (m_spot + (1 : Int32)))))
def f_X6_digits_L5b  (m_pad : Nat → Int32) (m_typed : Int32) (m_deeds : Int32)  (k5 : Int32 → Int32 → Int32 → (Nat → Int32) → Option (Int32 × (Int32) × (Nat → Int32))) (x1 : Int32) (x2 : Int32) (m_spot : Int32) (m_deed : Nat → Int32) : Option (Int32 × (Int32) × (Nat → Int32)) :=
  bnd (f_X6_isAt x2 (52 : Int32) m_pad m_typed m_spot) (fun q1 => if q1 = (0 : Int32) then grd (inb (((4 : Int32) * m_deeds) + (1 : Int32)) 124) (if x1 ≤ (0 : Int32) then some ((0 : Int32), m_spot, (upd m_deed (((4 : Int32) * m_deeds) + (1 : Int32)).toNatClampNeg x1))
  else some ((1 : Int32), m_spot, (upd m_deed (((4 : Int32) * m_deeds) + (1 : Int32)).toNatClampNeg x1)))
  else grd (inb m_spot 60) (grd (inb m_spot 60) (k5 (x1 ||| ((1 : Int32) <<< (((m_pad m_spot.toNatClampNeg) - (48 : Int32)) &&& 31))) ((m_pad m_spot.toNatClampNeg) + (1 : Int32)) (m_spot + (1 : Int32)) m_deed)))
def f_X6_digits_L5  (m_pad : Nat → Int32) (m_typed : Int32) (m_deeds : Int32)  : Nat → Int32 → Int32 → Int32 → (Nat → Int32) → Option (Int32 × (Int32) × (Nat → Int32))
  | 0 => fun _ _ _ _ => none
  | n + 1 => f_X6_digits_L5b m_pad m_typed m_deeds  (f_X6_digits_L5 m_pad m_typed m_deeds  n)
def f_X6_digits  (m_pad : Nat → Int32) (m_typed : Int32) (m_spot : Int32) (m_deeds : Int32) (m_deed : Nat → Int32) : Option (Int32 × (Int32) × (Nat → Int32)) :=
  f_X6_digits_L5 m_pad m_typed m_deeds  1024 (0 : Int32) (48 : Int32) m_spot m_deed
def f_X6_oneTable_J41  (m_pad : Nat → Int32) (m_typed : Int32) (m_deeds : Int32)  (x1 : Int32) (t1 : Int32) (t2 : Int32) (m_spot : Int32) (m_deed : Nat → Int32) : Option (Int32 × (Int32) × (Nat → Int32)) :=
  grd (inb t1 124) (if x1 = (0 : Int32) then grd (isB x1) (some (x1, (m_spot + (0 : Int32)), (upd m_deed t1.toNatClampNeg t2)))
  else grd (isB x1) (some (x1, (m_spot + (1 : Int32)), (upd m_deed t1.toNatClampNeg t2))))
def f_X6_oneTable  (m_pad : Nat → Int32) (m_typed : Int32) (m_spot : Int32) (m_deeds : Int32) (m_deed : Nat → Int32) : Option (Int32 × (Int32) × (Nat → Int32)) :=
  bnd (f_X6_isAt (48 : Int32) (52 : Int32) m_pad m_typed m_spot) (fun q1 => if q1 = (0 : Int32) then f_X6_oneTable_J41 m_pad m_typed m_deeds  q1 (((4 : Int32) * m_deeds) + (1 : Int32)) (0 : Int32) m_spot m_deed
  else grd (inb m_spot 60) (f_X6_oneTable_J41 m_pad m_typed m_deeds  q1 (((4 : Int32) * m_deeds) + (1 : Int32)) ((m_pad m_spot.toNatClampNeg) - (48 : Int32)) m_spot m_deed))
def f_X6_number_L15b  (m_pad : Nat → Int32) (m_typed : Int32) (m_deeds : Int32)  (k15 : Int32 → Int32 → (Nat → Int32) → Option (Int32 × (Int32) × (Nat → Int32))) (x1 : Int32) (m_spot : Int32) (m_deed : Nat → Int32) : Option (Int32 × (Int32) × (Nat → Int32)) :=
  bnd (f_X6_isAt (48 : Int32) (57 : Int32) m_pad m_typed m_spot) (fun q3 => if q3 = (0 : Int32) then grd (inb (((4 : Int32) * m_deeds) + (2 : Int32)) 124) (some ((1 : Int32), m_spot, (upd m_deed (((4 : Int32) * m_deeds) + (2 : Int32)).toNatClampNeg x1)))
  else grd (inb m_spot 60) (if (500 : Int32) < ((((10 : Int32) * x1) + (m_pad m_spot.toNatClampNeg)) - (48 : Int32)) then grd (inb (((4 : Int32) * m_deeds) + (2 : Int32)) 124) (some ((1 : Int32), m_spot, (upd m_deed (((4 : Int32) * m_deeds) + (2 : Int32)).toNatClampNeg x1)))
  else grd (inb m_spot 60) (k15 ((((10 : Int32) * x1) + (m_pad m_spot.toNatClampNeg)) - (48 : Int32)) (m_spot + (1 : Int32)) m_deed)))
def f_X6_number_L15  (m_pad : Nat → Int32) (m_typed : Int32) (m_deeds : Int32)  : Nat → Int32 → Int32 → (Nat → Int32) → Option (Int32 × (Int32) × (Nat → Int32))
  | 0 => fun _ _ _ => none
  | n + 1 => f_X6_number_L15b m_pad m_typed m_deeds  (f_X6_number_L15 m_pad m_typed m_deeds  n)
def f_X6_number  (m_pad : Nat → Int32) (m_typed : Int32) (m_spot : Int32) (m_deeds : Int32) (m_deed : Nat → Int32) : Option (Int32 × (Int32) × (Nat → Int32)) :=
  bnd (f_X6_isAt (49 : Int32) (57 : Int32) m_pad m_typed m_spot) (fun q1 => if q1 = (0 : Int32) then some ((0 : Int32), m_spot, m_deed)
  else f_X6_number_L15 m_pad m_typed m_deeds  1024 (0 : Int32) m_spot m_deed)
def f_X6_reads_J24  (m_pad : Nat → Int32) (m_typed : Int32) (m_deeds : Int32)  (t0 : Int32) (m_spot : Int32) (m_deed : Nat → Int32) : Option (Int32 × (Int32) × (Nat → Int32)) :=
  grd (inb ((4 : Int32) * m_deeds) 124) (grd (inb (((4 : Int32) * m_deeds) + (3 : Int32)) 124) (if t0 = (99 : Int32) then bnd (f_X6_oneTable  m_pad m_typed (m_spot + (1 : Int32)) m_deeds (upd (upd m_deed ((4 : Int32) * m_deeds).toNatClampNeg t0) (((4 : Int32) * m_deeds) + (3 : Int32)).toNatClampNeg m_spot)) (fun q5 => grd (isB q5.1) (some (q5.1, q5.2.1, q5.2.2)))
  else if t0 = (112 : Int32) then bnd (f_X6_digits  m_pad m_typed (m_spot + (1 : Int32)) m_deeds (upd (upd m_deed ((4 : Int32) * m_deeds).toNatClampNeg t0) (((4 : Int32) * m_deeds) + (3 : Int32)).toNatClampNeg m_spot)) (fun q8 => grd (isB q8.1) (some (q8.1, q8.2.1, q8.2.2)))
  else if t0 = (113 : Int32) then bnd (f_X6_digits  m_pad m_typed (m_spot + (1 : Int32)) m_deeds (upd (upd m_deed ((4 : Int32) * m_deeds).toNatClampNeg t0) (((4 : Int32) * m_deeds) + (3 : Int32)).toNatClampNeg m_spot)) (fun q11 => grd (isB q11.1) (some (q11.1, q11.2.1, q11.2.2)))
  else if t0 = (114 : Int32) then bnd (f_X6_oneTable  m_pad m_typed (m_spot + (1 : Int32)) m_deeds (upd (upd m_deed ((4 : Int32) * m_deeds).toNatClampNeg t0) (((4 : Int32) * m_deeds) + (3 : Int32)).toNatClampNeg m_spot)) (fun q14 => if q14.1 = (0 : Int32) then some ((0 : Int32), q14.2.1, q14.2.2)
  else bnd (f_X6_sign (61 : Int32) m_pad m_typed q14.2.1) (fun q16 => if q16.1 = (0 : Int32) then some ((0 : Int32), q16.2, q14.2.2)
  else bnd (f_X6_number  m_pad m_typed q16.2 m_deeds q14.2.2) (fun q18 => if q18.1 = (0 : Int32) then some ((0 : Int32), q18.2.1, q18.2.2)
  else some ((1 : Int32), q18.2.1, q18.2.2))))
  else some ((0 : Int32), m_spot, (upd (upd m_deed ((4 : Int32) * m_deeds).toNatClampNeg t0) (((4 : Int32) * m_deeds) + (3 : Int32)).toNatClampNeg m_spot))))
def f_X6_reads  (m_pad : Nat → Int32) (m_typed : Int32) (m_spot : Int32) (m_deeds : Int32) (m_deed : Nat → Int32) : Option (Int32 × (Int32) × (Nat → Int32)) :=
  if m_typed ≤ m_spot then f_X6_reads_J24 m_pad m_typed m_deeds  (0 : Int32) m_spot m_deed
  else grd (inb m_spot 60) (f_X6_reads_J24 m_pad m_typed m_deeds  (m_pad m_spot.toNatClampNeg) m_spot m_deed)
def f_X6_fault_L12b  (m_pad : Nat → Int32) (m_typed : Int32)  (k12 : Int32 → Int32 → Int32 → (Nat → Int32) → Option (Int32 × (Int32) × (Int32) × (Nat → Int32))) (x1 : Int32) (m_spot : Int32) (m_deeds : Int32) (m_deed : Nat → Int32) : Option (Int32 × (Int32) × (Int32) × (Nat → Int32)) :=
  if x1 = (0 : Int32) then if m_spot = m_typed then some ((-4 : Int32), m_spot, m_deeds, m_deed)
  else some (m_spot, m_spot, m_deeds, m_deed)
  else bnd (f_X6_reads  m_pad m_typed m_spot m_deeds m_deed) (fun q3 => if q3.1 = (0 : Int32) then some (q3.2.1, q3.2.1, m_deeds, q3.2.2)
  else bnd (f_X6_sign (59 : Int32) m_pad m_typed q3.2.1) (fun q5 => k12 q5.1 q5.2 (m_deeds + (1 : Int32)) q3.2.2))
def f_X6_fault_L12  (m_pad : Nat → Int32) (m_typed : Int32)  : Nat → Int32 → Int32 → Int32 → (Nat → Int32) → Option (Int32 × (Int32) × (Int32) × (Nat → Int32))
  | 0 => fun _ _ _ _ => none
  | n + 1 => f_X6_fault_L12b m_pad m_typed  (f_X6_fault_L12 m_pad m_typed  n)
def f_X6_fault  (m_pad : Nat → Int32) (m_typed : Int32) (m_spot : Int32) (m_deeds : Int32) (m_deed : Nat → Int32) : Option (Int32 × (Int32) × (Int32) × (Nat → Int32)) :=
  f_X6_fault_L12 m_pad m_typed  1024 (1 : Int32) (0 : Int32) (0 : Int32) m_deed
def f_X6_pins (a1 : Int32) (m_s : Nat → Int32) : Option (Int32 × (Nat → Int32)) :=
  bnd (f_X6_slotOf a1 m_s) (fun q1 => if (0 : Int32) ≤ q1 then bnd (f_X6_at q1 ) (fun q3 => grd (inb (q3 + (13 : Int32)) 100) (some ((1 : Int32), (upd m_s (q3 + (13 : Int32)).toNatClampNeg (1 : Int32)))))
  else some ((-2 : Int32), m_s))
def f_X6_does (a1 : Int32) (m_s : Nat → Int32) (m_past : Nat → Int32) (m_paid : Nat → Int64) (m_pastPaid : Nat → Int64) (m_pasts : Int32) (m_runs : Int32) (m_order : Nat → Int32) (m_best : Nat → Int32) (m_many : Int32) (m_deed : Nat → Int32) : Option (Int32 × (Nat → Int32) × (Nat → Int32) × (Nat → Int64) × (Nat → Int64) × (Int32) × (Nat → Int32) × (Nat → Int32) × (Int32)) :=
  grd (inb (((4 : Int32) * a1) + (1 : Int32)) 124) (grd (inb ((4 : Int32) * a1) 124) (if (m_deed ((4 : Int32) * a1).toNatClampNeg) = (99 : Int32) then bnd (f_X6_count (m_deed (((4 : Int32) * a1) + (1 : Int32)).toNatClampNeg) m_s m_past m_paid m_pastPaid m_pasts m_runs) (fun q4 => some (q4.1, q4.2.1, q4.2.2.1, m_paid, q4.2.2.2.1, q4.2.2.2.2, m_order, m_best, m_many))
  else if (m_deed ((4 : Int32) * a1).toNatClampNeg) = (112 : Int32) then bnd (f_X6_pins (m_deed (((4 : Int32) * a1) + (1 : Int32)).toNatClampNeg) m_s) (fun q6 => some (q6.1, q6.2, m_past, m_paid, m_pastPaid, m_pasts, m_order, m_best, m_many))
  else if (m_deed ((4 : Int32) * a1).toNatClampNeg) = (113 : Int32) then bnd (f_X6_run (m_deed (((4 : Int32) * a1) + (1 : Int32)).toNatClampNeg) m_s m_past m_paid m_pastPaid m_pasts m_runs m_order m_best m_many) (fun q8 => some (q8.1, q8.2.1, q8.2.2.1, q8.2.2.2.1, q8.2.2.2.2.1, q8.2.2.2.2.2.1, q8.2.2.2.2.2.2.1, q8.2.2.2.2.2.2.2.1, q8.2.2.2.2.2.2.2.2))
  else grd (inb (((4 : Int32) * a1) + (2 : Int32)) 124) (bnd (f_X6_rows (m_deed (((4 : Int32) * a1) + (1 : Int32)).toNatClampNeg) (m_deed (((4 : Int32) * a1) + (2 : Int32)).toNatClampNeg) m_s m_past m_paid m_pastPaid m_pasts m_runs) (fun q10 => some (q10.1, q10.2.1, q10.2.2.1, m_paid, q10.2.2.2.1, q10.2.2.2.2, m_order, m_best, m_many)))))
def f_X6_carryOut_J62  (m_pad : Nat → Int32) (k33 : Int32 → (Nat → Int32) → (Nat → Int32) → (Nat → Int64) → (Nat → Int64) → Int32 → Int32 → Int32 → Int32 → (Nat → Int32) → (Nat → Int32) → (Nat → Int32) → Int32 → Int32 → Int32 → (Nat → Int32) → Option (Int32 × (Nat → Int32) × (Nat → Int32) × (Nat → Int64) × (Nat → Int64) × (Int32) × (Int32) × (Int32) × (Int32) × (Nat → Int32) × (Nat → Int32) × (Nat → Int32) × (Int32) × (Int32) × (Int32) × (Nat → Int32))) (x1 : Int32) (t1 : Int32) (m_s : Nat → Int32) (m_past : Nat → Int32) (m_paid : Nat → Int64) (m_pastPaid : Nat → Int64) (m_pasts : Int32) (m_runs : Int32) (m_typed : Int32) (m_isStopped : Int32) (m_stop : Nat → Int32) (m_order : Nat → Int32) (m_best : Nat → Int32) (m_many : Int32) (m_spot : Int32) (m_deeds : Int32) (m_deed : Nat → Int32) : Option (Int32 × (Nat → Int32) × (Nat → Int32) × (Nat → Int64) × (Nat → Int64) × (Int32) × (Int32) × (Int32) × (Int32) × (Nat → Int32) × (Nat → Int32) × (Nat → Int32) × (Int32) × (Int32) × (Int32) × (Nat → Int32)) :=
  grd (isB t1) (grd (inb (0 : Int32) 2) (grd (inb (((4 : Int32) * x1) + (3 : Int32)) 124) (grd (inb (1 : Int32) 2) (if t1 = (0 : Int32) then k33 (x1 + (1 : Int32)) m_s m_past m_paid m_pastPaid m_pasts m_runs m_typed t1 (upd (upd m_stop (0 : Int32).toNatClampNeg x1) (1 : Int32).toNatClampNeg (m_deed (((4 : Int32) * x1) + (3 : Int32)).toNatClampNeg)) m_order m_best m_many m_spot m_deeds m_deed
  else k33 (x1 + (0 : Int32)) m_s m_past m_paid m_pastPaid m_pasts m_runs m_typed t1 (upd (upd m_stop (0 : Int32).toNatClampNeg x1) (1 : Int32).toNatClampNeg (m_deed (((4 : Int32) * x1) + (3 : Int32)).toNatClampNeg)) m_order m_best m_many m_spot m_deeds m_deed))))
def f_X6_carryOut_L33b  (m_pad : Nat → Int32)  (k33 : Int32 → (Nat → Int32) → (Nat → Int32) → (Nat → Int64) → (Nat → Int64) → Int32 → Int32 → Int32 → Int32 → (Nat → Int32) → (Nat → Int32) → (Nat → Int32) → Int32 → Int32 → Int32 → (Nat → Int32) → Option (Int32 × (Nat → Int32) × (Nat → Int32) × (Nat → Int64) × (Nat → Int64) × (Int32) × (Int32) × (Int32) × (Int32) × (Nat → Int32) × (Nat → Int32) × (Nat → Int32) × (Int32) × (Int32) × (Int32) × (Nat → Int32))) (x1 : Int32) (m_s : Nat → Int32) (m_past : Nat → Int32) (m_paid : Nat → Int64) (m_pastPaid : Nat → Int64) (m_pasts : Int32) (m_runs : Int32) (m_typed : Int32) (m_isStopped : Int32) (m_stop : Nat → Int32) (m_order : Nat → Int32) (m_best : Nat → Int32) (m_many : Int32) (m_spot : Int32) (m_deeds : Int32) (m_deed : Nat → Int32) : Option (Int32 × (Nat → Int32) × (Nat → Int32) × (Nat → Int64) × (Nat → Int64) × (Int32) × (Int32) × (Int32) × (Int32) × (Nat → Int32) × (Nat → Int32) × (Nat → Int32) × (Int32) × (Int32) × (Int32) × (Nat → Int32)) :=
  if m_deeds ≤ x1 then some (x1, m_s, m_past, m_paid, m_pastPaid, m_pasts, (0 : Int32), m_typed, m_isStopped, m_stop, m_order, m_best, m_many, m_spot, m_deeds, m_deed)
  else if m_isStopped = (0 : Int32) then bnd (f_X6_does x1 m_s m_past m_paid m_pastPaid m_pasts m_runs m_order m_best m_many m_deed) (fun q6 => if (0 : Int32) ≤ q6.1 then f_X6_carryOut_J62 m_pad k33 x1 (0 : Int32) q6.2.1 q6.2.2.1 q6.2.2.2.1 q6.2.2.2.2.1 q6.2.2.2.2.2.1 m_runs m_typed m_isStopped m_stop q6.2.2.2.2.2.2.1 q6.2.2.2.2.2.2.2.1 q6.2.2.2.2.2.2.2.2 m_spot m_deeds m_deed
  else f_X6_carryOut_J62 m_pad k33 x1 (1 : Int32) q6.2.1 q6.2.2.1 q6.2.2.2.1 q6.2.2.2.2.1 q6.2.2.2.2.2.1 m_runs m_typed m_isStopped m_stop q6.2.2.2.2.2.2.1 q6.2.2.2.2.2.2.2.1 q6.2.2.2.2.2.2.2.2 m_spot m_deeds m_deed)
  else some (x1, m_s, m_past, m_paid, m_pastPaid, m_pasts, (0 : Int32), m_typed, m_isStopped, m_stop, m_order, m_best, m_many, m_spot, m_deeds, m_deed)
def f_X6_carryOut_L33  (m_pad : Nat → Int32)  : Nat → Int32 → (Nat → Int32) → (Nat → Int32) → (Nat → Int64) → (Nat → Int64) → Int32 → Int32 → Int32 → Int32 → (Nat → Int32) → (Nat → Int32) → (Nat → Int32) → Int32 → Int32 → Int32 → (Nat → Int32) → Option (Int32 × (Nat → Int32) × (Nat → Int32) × (Nat → Int64) × (Nat → Int64) × (Int32) × (Int32) × (Int32) × (Int32) × (Nat → Int32) × (Nat → Int32) × (Nat → Int32) × (Int32) × (Int32) × (Int32) × (Nat → Int32))
  | 0 => fun _ _ _ _ _ _ _ _ _ _ _ _ _ _ _ _ => none
  | n + 1 => f_X6_carryOut_L33b m_pad  (f_X6_carryOut_L33 m_pad  n)
def f_X6_carryOut  (m_s : Nat → Int32) (m_past : Nat → Int32) (m_paid : Nat → Int64) (m_pastPaid : Nat → Int64) (m_pasts : Int32) (m_runs : Int32) (m_pad : Nat → Int32) (m_typed : Int32) (m_isStopped : Int32) (m_stop : Nat → Int32) (m_order : Nat → Int32) (m_best : Nat → Int32) (m_many : Int32) (m_spot : Int32) (m_deeds : Int32) (m_deed : Nat → Int32) : Option (Int32 × (Nat → Int32) × (Nat → Int32) × (Nat → Int64) × (Nat → Int64) × (Int32) × (Int32) × (Int32) × (Int32) × (Nat → Int32) × (Nat → Int32) × (Nat → Int32) × (Int32) × (Int32) × (Int32) × (Nat → Int32)) :=
  bnd (f_X6_fault  m_pad m_typed m_spot m_deeds m_deed) (fun q1 => if q1.1 = (-4 : Int32) then bnd (f_X6_changes  m_s m_past m_paid m_pastPaid m_pasts m_runs) (fun q3 => f_X6_carryOut_L33 m_pad  1024 (0 : Int32) m_s q3.1 m_paid q3.2.1 q3.2.2 (1 : Int32) (0 : Int32) (0 : Int32) m_stop m_order m_best m_many q1.2.1 q1.2.2.1 q1.2.2.2)
  else some ((-2 : Int32), m_s, m_past, m_paid, m_pastPaid, m_pasts, m_runs, m_typed, m_isStopped, m_stop, m_order, m_best, m_many, q1.2.1, q1.2.2.1, q1.2.2.2))
def f_X6_why (a1 : Int32) (m_isStopped : Int32) (m_stop : Nat → Int32) : Option (Int32) :=
  bnd (f_X6_in a1 (0 : Int32) (1 : Int32) ) (fun q1 => if q1 = (0 : Int32) then some (-1 : Int32)
  else if m_isStopped = (0 : Int32) then some (-4 : Int32)
  else grd (inb a1 2) (some (m_stop a1.toNatClampNeg)))
def f_X6_plansWith_L4b (a1 : Int32) (m_s : Nat → Int32)  (k4 : Int32 → Int32 → Option (Int32)) (x2 : Int32) (x3 : Int32) : Option (Int32) :=
  if (4 : Int32) ≤ x3 then some x2
  else bnd (f_X6_at x3 ) (fun q2 => grd (inb q2 100) (k4 (x2 + (((m_s q2.toNatClampNeg) >>> (a1 &&& 31)) &&& (1 : Int32))) (x3 + (1 : Int32))))
def f_X6_plansWith_L4 (a1 : Int32) (m_s : Nat → Int32)  : Nat → Int32 → Int32 → Option (Int32)
  | 0 => fun _ _ => none
  | n + 1 => f_X6_plansWith_L4b a1 m_s  (f_X6_plansWith_L4 a1 m_s  n)
def f_X6_plansWith (a1 : Int32) (m_s : Nat → Int32) : Option (Int32) :=
  f_X6_plansWith_L4 a1 m_s  1024 (0 : Int32) (0 : Int32)
def f_X6_table (a1 : Int32) (a2 : Int32) (m_s : Nat → Int32) : Option (Int32) :=
  bnd (f_X6_isTable a1 ) (fun q1 => if q1 = (0 : Int32) then some (-1 : Int32)
  else bnd (f_X6_in a2 (0 : Int32) (3 : Int32) ) (fun q3 => if q3 = (0 : Int32) then some (-1 : Int32)
  else grd (inb ((0 : Int32) + a1) 100) (grd (inb ((5 : Int32) + a1) 100) (if a2 = (3 : Int32) then bnd (f_X6_plansWith a1 m_s) (fun q13 => some q13)
  else if a2 = (0 : Int32) then some (m_s ((0 : Int32) + a1).toNatClampNeg)
  else if a2 = (1 : Int32) then some (m_s ((5 : Int32) + a1).toNatClampNeg)
  else if (m_s ((0 : Int32) + a1).toNatClampNeg) ≤ (m_s ((5 : Int32) + a1).toNatClampNeg) then grd (!decide ((m_s ((0 : Int32) + a1).toNatClampNeg) = 0)) (some (((100 : Int32) * (m_s ((5 : Int32) + a1).toNatClampNeg)) / (m_s ((0 : Int32) + a1).toNatClampNeg)))
  else grd (!decide ((m_s ((5 : Int32) + a1).toNatClampNeg) = 0)) (some (((100 : Int32) * (m_s ((0 : Int32) + a1).toNatClampNeg)) / (m_s ((5 : Int32) + a1).toNatClampNeg)))))))
def f_X6_partOf (a1 : Int32) (a2 : Int32) (m_s : Nat → Int32) : Option (Int32) :=
  bnd (f_X6_isTable a1 ) (fun q1 => if q1 = (0 : Int32) then some (-1 : Int32)
  else bnd (f_X6_isTable a2 ) (fun q3 => if q3 = (0 : Int32) then some (-1 : Int32)
  else if a1 = a2 then some (-1 : Int32)
  else grd (inb (((10 : Int32) + ((5 : Int32) * a1)) + a2) 100) (some (m_s (((10 : Int32) + ((5 : Int32) * a1)) + a2).toNatClampNeg))))
def f_X6_size (a1 : Int32) (a2 : Int32) (m_s : Nat → Int32) : Option (Int32) :=
  bnd (f_X6_isSet a1 ) (fun q1 => if q1 = (0 : Int32) then some (-1 : Int32)
  else bnd (f_X6_base a2 ) (fun q3 => bnd (f_X6_sizeOf a1 q3 m_s) (fun q4 => bnd (f_X6_cut q4 ) (fun q5 => some q5))))
def f_X6_least (a1 : Int32) (a2 : Int32) (a3 : Int32) (m_s : Nat → Int32) (m_order : Nat → Int32) (m_best : Nat → Int32) (m_many : Int32) (m_bySets : Nat → Int64) : Option (Int32 × (Nat → Int32) × (Nat → Int32) × (Int32) × (Nat → Int64)) :=
  bnd (f_X6_isSet a1 ) (fun q1 => if q1 = (0 : Int32) then some ((-1 : Int32), m_order, m_best, m_many, m_bySets)
  else bnd (f_X6_in a3 (0 : Int32) (1 : Int32) ) (fun q3 => if q3 = (0 : Int32) then some ((-1 : Int32), m_order, m_best, m_many, m_bySets)
  else if a3 = (0 : Int32) then bnd (f_X6_base a2 ) (fun q9 => bnd (f_X6_finds a1 q9 m_s m_order m_best m_many) (fun q10 => bnd (f_X6_cut q10.1 ) (fun q11 => some (q11, q10.2.1, q10.2.2.1, q10.2.2.2, m_bySets))))
  else bnd (f_X6_base a2 ) (fun q6 => bnd (f_X6_findsBySets a1 q6 m_s m_bySets) (fun q7 => bnd (f_X6_cut q7.1 ) (fun q8 => some (q8, m_order, m_best, m_many, q7.2))))))
def f_X6_best (a1 : Int32) (a2 : Int32) (a3 : Int32) (m_s : Nat → Int32) (m_order : Nat → Int32) (m_best : Nat → Int32) (m_many : Int32) : Option (Int32 × (Nat → Int32) × (Nat → Int32) × (Int32)) :=
  bnd (f_X6_isSet a1 ) (fun q1 => if q1 = (0 : Int32) then some ((-1 : Int32), m_order, m_best, m_many)
  else if (0 : Int32) ≤ a3 then bnd (f_X6_base a2 ) (fun q4 => bnd (f_X6_finds a1 q4 m_s m_order m_best m_many) (fun q5 => if (lg_cmp q5.1 (0 : Int64)) < (0 : Int32) then some ((-4 : Int32), q5.2.1, q5.2.2.1, q5.2.2.2)
  else if q5.2.2.2 ≤ a3 then some ((-4 : Int32), q5.2.1, q5.2.2.1, q5.2.2.2)
  else grd (inb a3 5) (some ((q5.2.2.1 a3.toNatClampNeg), q5.2.1, q5.2.2.1, q5.2.2.2))))
  else some ((-1 : Int32), m_order, m_best, m_many))
def f_X6_orderOf_L4b (a1 : Int32) (m_s : Nat → Int32)  (k4 : Int32 → Int32 → Option (Int32)) (x2 : Int32) (x3 : Int32) : Option (Int32) :=
  if (4 : Int32) ≤ x3 then some x2
  else bnd (f_X6_at x3 ) (fun q2 => grd (inb q2 100) (if (m_s q2.toNatClampNeg) ≤ (0 : Int32) then k4 (x2 + (0 : Int32)) (x3 + (1 : Int32))
  else bnd (f_X6_at x3 ) (fun q5 => grd (inb (q5 + (12 : Int32)) 100) (bnd (f_X6_at a1 ) (fun q7 => grd (inb (q7 + (12 : Int32)) 100) (if (m_s (q7 + (12 : Int32)).toNatClampNeg) ≤ (m_s (q5 + (12 : Int32)).toNatClampNeg) then k4 (x2 + (0 : Int32)) (x3 + (1 : Int32))
  else k4 (x2 + (1 : Int32)) (x3 + (1 : Int32))))))))
def f_X6_orderOf_L4 (a1 : Int32) (m_s : Nat → Int32)  : Nat → Int32 → Int32 → Option (Int32)
  | 0 => fun _ _ => none
  | n + 1 => f_X6_orderOf_L4b a1 m_s  (f_X6_orderOf_L4 a1 m_s  n)
def f_X6_orderOf (a1 : Int32) (m_s : Nat → Int32) : Option (Int32) :=
  f_X6_orderOf_L4 a1 m_s  1024 (0 : Int32) (0 : Int32)
def f_X6_over (a1 : Int32) (m_s : Nat → Int32) (m_order : Nat → Int32) (m_best : Nat → Int32) (m_many : Int32) : Option (Int64 × (Nat → Int32) × (Nat → Int32) × (Int32)) :=
  bnd (f_X6_costAt a1 (0 : Int32) m_s m_order m_many) (fun q1 => bnd (f_X6_at a1 ) (fun q2 => grd (inb q2 100) (bnd (f_X6_finds (m_s q2.toNatClampNeg) (0 : Int32) m_s q1.2.1 m_best q1.2.2) (fun q4 => some ((q1.1 - q4.1), q4.2.1, q4.2.2.1, q4.2.2.2)))))
def f_X6_plan (a1 : Int32) (a2 : Int32) (m_s : Nat → Int32) (m_order : Nat → Int32) (m_best : Nat → Int32) (m_many : Int32) : Option (Int32 × (Nat → Int32) × (Nat → Int32) × (Int32)) :=
  bnd (f_X6_isSet a1 ) (fun q1 => if q1 = (0 : Int32) then some ((-1 : Int32), m_order, m_best, m_many)
  else bnd (f_X6_in a2 (0 : Int32) (11 : Int32) ) (fun q3 => if q3 = (0 : Int32) then some ((-1 : Int32), m_order, m_best, m_many)
  else bnd (f_X6_slotOf a1 m_s) (fun q5 => if (0 : Int32) ≤ q5 then if a2 = (5 : Int32) then bnd (f_X6_costAt q5 (0 : Int32) m_s m_order m_many) (fun q8 => bnd (f_X6_cut q8.1 ) (fun q9 => some (q9, q8.2.1, m_best, q8.2.2)))
  else if a2 = (6 : Int32) then bnd (f_X6_costAt q5 (5 : Int32) m_s m_order m_many) (fun q11 => bnd (f_X6_cut q11.1 ) (fun q12 => some (q12, q11.2.1, m_best, q11.2.2)))
  else if a2 = (7 : Int32) then bnd (f_X6_at q5 ) (fun q14 => grd (inb (q14 + (11 : Int32)) 100) (some ((m_s (q14 + (11 : Int32)).toNatClampNeg), m_order, m_best, m_many)))
  else if a2 = (8 : Int32) then bnd (f_X6_at q5 ) (fun q17 => grd (inb (q17 + (13 : Int32)) 100) (some ((m_s (q17 + (13 : Int32)).toNatClampNeg), m_order, m_best, m_many)))
  else if a2 = (9 : Int32) then bnd (f_X6_over q5 m_s m_order m_best m_many) (fun q20 => bnd (f_X6_cut q20.1 ) (fun q21 => some (q21, q20.2.1, q20.2.2.1, q20.2.2.2)))
  else if a2 = (10 : Int32) then grd (inb (35 : Int32) 100) (bnd (f_X6_hasDrifted q5 (m_s (35 : Int32).toNatClampNeg) m_s) (fun q24 => if q24 = (0 : Int32) then some ((0 : Int32), m_order, m_best, m_many)
  else some ((1 : Int32), m_order, m_best, m_many)))
  else if a2 = (11 : Int32) then bnd (f_X6_orderOf q5 m_s) (fun q27 => some (q27, m_order, m_best, m_many))
  else bnd (f_X6_tablesIn a1 ) (fun q28 => if q28 ≤ a2 then some ((-4 : Int32), m_order, m_best, m_many)
  else bnd (f_X6_at q5 ) (fun q30 => grd (inb ((q30 + (1 : Int32)) + a2) 100) (some ((m_s ((q30 + (1 : Int32)) + a2).toNatClampNeg), m_order, m_best, m_many))))
  else some ((-4 : Int32), m_order, m_best, m_many))))
def f_X6_plans_L4b  (m_s : Nat → Int32)  (k4 : Int32 → Int32 → Option (Int32)) (x1 : Int32) (x2 : Int32) : Option (Int32) :=
  if (4 : Int32) ≤ x2 then some x1
  else bnd (f_X6_at x2 ) (fun q2 => grd (inb q2 100) (if (m_s q2.toNatClampNeg) ≤ (0 : Int32) then k4 (x1 + (0 : Int32)) (x2 + (1 : Int32))
  else k4 (x1 + (1 : Int32)) (x2 + (1 : Int32))))
def f_X6_plans_L4  (m_s : Nat → Int32)  : Nat → Int32 → Int32 → Option (Int32)
  | 0 => fun _ _ => none
  | n + 1 => f_X6_plans_L4b m_s  (f_X6_plans_L4 m_s  n)
def f_X6_plans  (m_s : Nat → Int32) : Option (Int32) :=
  f_X6_plans_L4 m_s  1024 (0 : Int32) (0 : Int32)
def f_X6_pinned_L4b  (m_s : Nat → Int32)  (k4 : Int32 → Int32 → Option (Int32)) (x1 : Int32) (x2 : Int32) : Option (Int32) :=
  if (4 : Int32) ≤ x2 then some x1
  else bnd (f_X6_at x2 ) (fun q2 => grd (inb (q2 + (13 : Int32)) 100) (k4 (x1 + (m_s (q2 + (13 : Int32)).toNatClampNeg)) (x2 + (1 : Int32))))
def f_X6_pinned_L4  (m_s : Nat → Int32)  : Nat → Int32 → Int32 → Option (Int32)
  | 0 => fun _ _ => none
  | n + 1 => f_X6_pinned_L4b m_s  (f_X6_pinned_L4 m_s  n)
def f_X6_pinned  (m_s : Nat → Int32) : Option (Int32) :=
  f_X6_pinned_L4 m_s  1024 (0 : Int32) (0 : Int32)
def f_X6_counted_J114 (a1 : Int32) (m_s : Nat → Int32) (m_paid : Nat → Int64) (m_pasts : Int32) (m_typed : Int32)   : Option (Int32) :=
  grd (inb (((95 : Int32) + a1) - (7 : Int32)) 100) (some (m_s (((95 : Int32) + a1) - (7 : Int32)).toNatClampNeg))
def f_X6_counted (a1 : Int32) (m_s : Nat → Int32) (m_paid : Nat → Int64) (m_pasts : Int32) (m_typed : Int32) : Option (Int32) :=
  if a1 = (0 : Int32) then bnd (f_X6_plans  m_s) (fun q2 => some q2)
  else if a1 = (1 : Int32) then bnd (f_X6_pinned  m_s) (fun q4 => some q4)
  else if a1 = (2 : Int32) then grd (inb (35 : Int32) 100) (some (m_s (35 : Int32).toNatClampNeg))
  else if a1 = (3 : Int32) then grd (inb (((93 : Int32) + a1) - (3 : Int32)) 100) (some (m_s (((93 : Int32) + a1) - (3 : Int32)).toNatClampNeg))
  else if a1 = (4 : Int32) then grd (inb (((93 : Int32) + a1) - (3 : Int32)) 100) (some (m_s (((93 : Int32) + a1) - (3 : Int32)).toNatClampNeg))
  else if a1 = (5 : Int32) then grd (inb (a1 - (5 : Int32)) 2) (bnd (f_X6_cut (m_paid (a1 - (5 : Int32)).toNatClampNeg) ) (fun q13 => some q13))
  else if a1 = (6 : Int32) then grd (inb (a1 - (5 : Int32)) 2) (bnd (f_X6_cut (m_paid (a1 - (5 : Int32)).toNatClampNeg) ) (fun q16 => some q16))
  else if a1 = (7 : Int32) then f_X6_counted_J114 a1 m_s m_paid m_pasts m_typed  
  else if a1 = (8 : Int32) then f_X6_counted_J114 a1 m_s m_paid m_pasts m_typed  
  else if a1 = (9 : Int32) then f_X6_counted_J114 a1 m_s m_paid m_pasts m_typed  
  else if a1 = (10 : Int32) then f_X6_counted_J114 a1 m_s m_paid m_pasts m_typed  
  else if a1 = (11 : Int32) then f_X6_counted_J114 a1 m_s m_paid m_pasts m_typed  
  else if a1 = (12 : Int32) then some m_typed
  else if a1 = (13 : Int32) then some m_pasts
  else some (-1 : Int32)
def f_X6_dearer_L4b  (m_s : Nat → Int32)  (k4 : Int32 → Int32 → (Nat → Int32) → (Nat → Int32) → Int32 → Option (Int32 × (Nat → Int32) × (Nat → Int32) × (Int32))) (x1 : Int32) (x2 : Int32) (m_order : Nat → Int32) (m_best : Nat → Int32) (m_many : Int32) : Option (Int32 × (Nat → Int32) × (Nat → Int32) × (Int32)) :=
  if (4 : Int32) ≤ x2 then some (x1, m_order, m_best, m_many)
  else bnd (f_X6_at x2 ) (fun q2 => grd (inb q2 100) (if (m_s q2.toNatClampNeg) ≤ (0 : Int32) then k4 (x1 + (0 : Int32)) (x2 + (1 : Int32)) m_order m_best m_many
  else bnd (f_X6_over x2 m_s m_order m_best m_many) (fun q5 => if (lg_cmp q5.1 (0 : Int64)) ≤ (0 : Int32) then k4 (x1 + (0 : Int32)) (x2 + (1 : Int32)) q5.2.1 q5.2.2.1 q5.2.2.2
  else k4 (x1 + (1 : Int32)) (x2 + (1 : Int32)) q5.2.1 q5.2.2.1 q5.2.2.2)))
def f_X6_dearer_L4  (m_s : Nat → Int32)  : Nat → Int32 → Int32 → (Nat → Int32) → (Nat → Int32) → Int32 → Option (Int32 × (Nat → Int32) × (Nat → Int32) × (Int32))
  | 0 => fun _ _ _ _ _ => none
  | n + 1 => f_X6_dearer_L4b m_s  (f_X6_dearer_L4 m_s  n)
def f_X6_dearer  (m_s : Nat → Int32) (m_order : Nat → Int32) (m_best : Nat → Int32) (m_many : Int32) : Option (Int32 × (Nat → Int32) × (Nat → Int32) × (Int32)) :=
  f_X6_dearer_L4 m_s  1024 (0 : Int32) (0 : Int32) m_order m_best m_many
def f_X6_ifCounted_L27b (a1 : Int32) (a2 : Int32)   (k27 : Int32 → Int32 → (Nat → Int32) → (Nat → Int32) → (Nat → Int64) → (Nat → Int64) → (Nat → Int32) → (Nat → Int32) → Int32 → Option (Int32 × (Nat → Int32) × (Nat → Int32) × (Nat → Int64) × (Nat → Int64) × (Nat → Int32) × (Nat → Int32) × (Int32))) (x3 : Int32) (x4 : Int32) (m_s : Nat → Int32) (m_spare : Nat → Int32) (m_paid : Nat → Int64) (m_sparePaid : Nat → Int64) (m_order : Nat → Int32) (m_best : Nat → Int32) (m_many : Int32) : Option (Int32 × (Nat → Int32) × (Nat → Int32) × (Nat → Int64) × (Nat → Int64) × (Nat → Int32) × (Nat → Int32) × (Int32)) :=
  if (5 : Int32) ≤ x4 then if a2 = (0 : Int32) then bnd (f_X6_putsBack  m_s m_spare m_paid m_sparePaid) (fun q10 => some (x3, q10.1, m_spare, q10.2, m_sparePaid, m_order, m_best, m_many))
  else bnd (f_X6_dearer  m_s m_order m_best m_many) (fun q8 => bnd (f_X6_putsBack  m_s m_spare m_paid m_sparePaid) (fun q9 => some (q8.1, q9.1, m_spare, q9.2, m_sparePaid, q8.2.1, q8.2.2.1, q8.2.2.2)))
  else if ((a1 >>> (x4 &&& 31)) &&& (1 : Int32)) = (1 : Int32) then bnd (f_X6_counts x4 m_s) (fun q12 => k27 (x3 + q12.1) (x4 + (1 : Int32)) q12.2 m_spare m_paid m_sparePaid m_order m_best m_many)
  else k27 (x3 + (0 : Int32)) (x4 + (1 : Int32)) m_s m_spare m_paid m_sparePaid m_order m_best m_many
def f_X6_ifCounted_L27 (a1 : Int32) (a2 : Int32)   : Nat → Int32 → Int32 → (Nat → Int32) → (Nat → Int32) → (Nat → Int64) → (Nat → Int64) → (Nat → Int32) → (Nat → Int32) → Int32 → Option (Int32 × (Nat → Int32) × (Nat → Int32) × (Nat → Int64) × (Nat → Int64) × (Nat → Int32) × (Nat → Int32) × (Int32))
  | 0 => fun _ _ _ _ _ _ _ _ _ => none
  | n + 1 => f_X6_ifCounted_L27b a1 a2  (f_X6_ifCounted_L27 a1 a2  n)
def f_X6_ifCounted (a1 : Int32) (a2 : Int32) (m_s : Nat → Int32) (m_spare : Nat → Int32) (m_paid : Nat → Int64) (m_sparePaid : Nat → Int64) (m_order : Nat → Int32) (m_best : Nat → Int32) (m_many : Int32) : Option (Int32 × (Nat → Int32) × (Nat → Int32) × (Nat → Int64) × (Nat → Int64) × (Nat → Int32) × (Nat → Int32) × (Int32)) :=
  bnd (f_X6_isSet a1 ) (fun q1 => if q1 = (0 : Int32) then some ((-1 : Int32), m_s, m_spare, m_paid, m_sparePaid, m_order, m_best, m_many)
  else bnd (f_X6_in a2 (0 : Int32) (1 : Int32) ) (fun q3 => if q3 = (0 : Int32) then some ((-1 : Int32), m_s, m_spare, m_paid, m_sparePaid, m_order, m_best, m_many)
  else bnd (f_X6_putsAside  m_s m_spare m_paid m_sparePaid) (fun q5 => f_X6_ifCounted_L27 a1 a2  1024 (0 : Int32) (0 : Int32) m_s q5.1 m_paid q5.2 m_order m_best m_many)))
def f_X6_ifRun (a1 : Int32) (m_s : Nat → Int32) (m_spare : Nat → Int32) (m_paid : Nat → Int64) (m_sparePaid : Nat → Int64) (m_order : Nat → Int32) (m_best : Nat → Int32) (m_many : Int32) : Option (Int32 × (Nat → Int32) × (Nat → Int32) × (Nat → Int64) × (Nat → Int64) × (Nat → Int32) × (Nat → Int32) × (Int32)) :=
  bnd (f_X6_isSet a1 ) (fun q1 => if q1 = (0 : Int32) then some ((-1 : Int32), m_s, m_spare, m_paid, m_sparePaid, m_order, m_best, m_many)
  else bnd (f_X6_putsAside  m_s m_spare m_paid m_sparePaid) (fun q3 => bnd (f_X6_runsOf a1 m_s m_paid m_order m_best m_many) (fun q4 => bnd (f_X6_cut q4.1 ) (fun q5 => bnd (f_X6_putsBack  q4.2.1 q3.1 q4.2.2.1 q3.2) (fun q6 => some (q5, q6.1, q3.1, q6.2, q3.2, q4.2.2.2.1, q4.2.2.2.2.1, q4.2.2.2.2.2))))))
def f_X6_leastDrift_L14b  (m_s : Nat → Int32) (k3 : Int32 → Option (Int32)) (k14 : Int32 → Int32 → Int32 → Option (Int32)) (x1 : Int32) (x2 : Int32) (x3 : Int32) : Option (Int32) :=
  if (4 : Int32) ≤ x3 then if x2 = (0 : Int32) then k3 (x1 + (1 : Int32))
  else some x1
  else if x2 = (0 : Int32) then k14 x1 (0 : Int32) (x3 + (1 : Int32))
  else bnd (f_X6_isLoose x3 m_s) (fun q5 => if q5 = (0 : Int32) then k14 x1 (1 : Int32) (x3 + (1 : Int32))
  else bnd (f_X6_hasDrifted x3 x1 m_s) (fun q7 => if q7 = (0 : Int32) then k14 x1 (1 : Int32) (x3 + (1 : Int32))
  else k14 x1 (0 : Int32) (x3 + (1 : Int32))))
def f_X6_leastDrift_L14  (m_s : Nat → Int32) (k3 : Int32 → Option (Int32)) : Nat → Int32 → Int32 → Int32 → Option (Int32)
  | 0 => fun _ _ _ => none
  | n + 1 => f_X6_leastDrift_L14b m_s k3 (f_X6_leastDrift_L14 m_s k3 n)
def f_X6_leastDrift_L3b  (m_s : Nat → Int32)  (k3 : Int32 → Option (Int32)) (x1 : Int32) : Option (Int32) :=
  if (1000 : Int32) < x1 then some (-4 : Int32)
  else f_X6_leastDrift_L14 m_s k3 1024 x1 (1 : Int32) (0 : Int32)
def f_X6_leastDrift_L3  (m_s : Nat → Int32)  : Nat → Int32 → Option (Int32)
  | 0 => fun _ => none
  | n + 1 => f_X6_leastDrift_L3b m_s  (f_X6_leastDrift_L3 m_s  n)
def f_X6_leastDrift  (m_s : Nat → Int32) : Option (Int32) :=
  f_X6_leastDrift_L3 m_s  1024 (100 : Int32)
def f_X6_undo_L22b  (m_past : Nat → Int32) (m_pastPaid : Nat → Int64)  (k22 : Int32 → (Nat → Int32) → (Nat → Int64) → Int32 → Option (Int32 × (Nat → Int32) × (Nat → Int64) × (Int32))) (x1 : Int32) (m_s : Nat → Int32) (m_paid : Nat → Int64) (m_pasts : Int32) : Option (Int32 × (Nat → Int32) × (Nat → Int64) × (Int32)) :=
  if (100 : Int32) ≤ x1 then grd (inb ((2 : Int32) * m_pasts) 8) (grd (inb (0 : Int32) 2) (grd (inb (((2 : Int32) * m_pasts) + (1 : Int32)) 8) (grd (inb (1 : Int32) 2) (some (m_pasts, m_s, (vp_updL (vp_updL m_paid (0 : Int32).toNatClampNeg (m_pastPaid ((2 : Int32) * m_pasts).toNatClampNeg)) (1 : Int32).toNatClampNeg (m_pastPaid (((2 : Int32) * m_pasts) + (1 : Int32)).toNatClampNeg)), m_pasts)))))
  else grd (inb (((100 : Int32) * m_pasts) + x1) 400) (grd (inb x1 100) (k22 (x1 + (1 : Int32)) (upd m_s x1.toNatClampNeg (m_past (((100 : Int32) * m_pasts) + x1).toNatClampNeg)) m_paid m_pasts))
def f_X6_undo_L22  (m_past : Nat → Int32) (m_pastPaid : Nat → Int64)  : Nat → Int32 → (Nat → Int32) → (Nat → Int64) → Int32 → Option (Int32 × (Nat → Int32) × (Nat → Int64) × (Int32))
  | 0 => fun _ _ _ _ => none
  | n + 1 => f_X6_undo_L22b m_past m_pastPaid  (f_X6_undo_L22 m_past m_pastPaid  n)
def f_X6_undo  (m_s : Nat → Int32) (m_past : Nat → Int32) (m_paid : Nat → Int64) (m_pastPaid : Nat → Int64) (m_pasts : Int32) : Option (Int32 × (Nat → Int32) × (Nat → Int64) × (Int32)) :=
  if m_pasts = (0 : Int32) then some ((-2 : Int32), m_s, m_paid, m_pasts)
  else f_X6_undo_L22 m_past m_pastPaid  1024 (0 : Int32) m_s m_paid (m_pasts - (1 : Int32))
def f_X6_save_L7b  (m_s : Nat → Int32) (m_paid : Nat → Int64)  (k7 : Int32 → (Nat → Int32) → (Nat → Int64) → Int32 → Option (Int32 × (Nat → Int32) × (Nat → Int64) × (Int32))) (x1 : Int32) (m_kept : Nat → Int32) (m_keptPaid : Nat → Int64) (m_isKept : Int32) : Option (Int32 × (Nat → Int32) × (Nat → Int64) × (Int32)) :=
  if (100 : Int32) ≤ x1 then grd (inb (0 : Int32) 2) (grd (inb (0 : Int32) 2) (grd (inb (1 : Int32) 2) (grd (inb (1 : Int32) 2) (bnd (f_X6_plans  m_s) (fun q6 => some (q6, m_kept, (vp_updL (vp_updL m_keptPaid (0 : Int32).toNatClampNeg (m_paid (0 : Int32).toNatClampNeg)) (1 : Int32).toNatClampNeg (m_paid (1 : Int32).toNatClampNeg)), m_isKept))))))
  else grd (inb x1 100) (grd (inb x1 100) (k7 (x1 + (1 : Int32)) (upd m_kept x1.toNatClampNeg (m_s x1.toNatClampNeg)) m_keptPaid m_isKept))
def f_X6_save_L7  (m_s : Nat → Int32) (m_paid : Nat → Int64)  : Nat → Int32 → (Nat → Int32) → (Nat → Int64) → Int32 → Option (Int32 × (Nat → Int32) × (Nat → Int64) × (Int32))
  | 0 => fun _ _ _ _ => none
  | n + 1 => f_X6_save_L7b m_s m_paid  (f_X6_save_L7 m_s m_paid  n)
def f_X6_save  (m_s : Nat → Int32) (m_kept : Nat → Int32) (m_paid : Nat → Int64) (m_keptPaid : Nat → Int64) (m_isKept : Int32) : Option (Int32 × (Nat → Int32) × (Nat → Int64) × (Int32)) :=
  f_X6_save_L7 m_s m_paid  1024 (0 : Int32) m_kept m_keptPaid (1 : Int32)
def f_X6_restore_L16b  (m_kept : Nat → Int32) (m_keptPaid : Nat → Int64) (m_isKept : Int32) (m_runs : Int32)  (k16 : Int32 → (Nat → Int32) → (Nat → Int32) → (Nat → Int64) → (Nat → Int64) → Int32 → Option (Int32 × (Nat → Int32) × (Nat → Int32) × (Nat → Int64) × (Nat → Int64) × (Int32))) (x1 : Int32) (m_s : Nat → Int32) (m_past : Nat → Int32) (m_paid : Nat → Int64) (m_pastPaid : Nat → Int64) (m_pasts : Int32) : Option (Int32 × (Nat → Int32) × (Nat → Int32) × (Nat → Int64) × (Nat → Int64) × (Int32)) :=
  if (100 : Int32) ≤ x1 then grd (inb (0 : Int32) 2) (grd (inb (0 : Int32) 2) (grd (inb (1 : Int32) 2) (grd (inb (1 : Int32) 2) (bnd (f_X6_plans  m_s) (fun q8 => some (q8, m_s, m_past, (vp_updL (vp_updL m_paid (0 : Int32).toNatClampNeg (m_keptPaid (0 : Int32).toNatClampNeg)) (1 : Int32).toNatClampNeg (m_keptPaid (1 : Int32).toNatClampNeg)), m_pastPaid, m_pasts))))))
  else grd (inb x1 100) (grd (inb x1 100) (k16 (x1 + (1 : Int32)) (upd m_s x1.toNatClampNeg (m_kept x1.toNatClampNeg)) m_past m_paid m_pastPaid m_pasts))
def f_X6_restore_L16  (m_kept : Nat → Int32) (m_keptPaid : Nat → Int64) (m_isKept : Int32) (m_runs : Int32)  : Nat → Int32 → (Nat → Int32) → (Nat → Int32) → (Nat → Int64) → (Nat → Int64) → Int32 → Option (Int32 × (Nat → Int32) × (Nat → Int32) × (Nat → Int64) × (Nat → Int64) × (Int32))
  | 0 => fun _ _ _ _ _ _ => none
  | n + 1 => f_X6_restore_L16b m_kept m_keptPaid m_isKept m_runs  (f_X6_restore_L16 m_kept m_keptPaid m_isKept m_runs  n)
def f_X6_restore  (m_s : Nat → Int32) (m_past : Nat → Int32) (m_kept : Nat → Int32) (m_paid : Nat → Int64) (m_pastPaid : Nat → Int64) (m_keptPaid : Nat → Int64) (m_isKept : Int32) (m_pasts : Int32) (m_runs : Int32) : Option (Int32 × (Nat → Int32) × (Nat → Int32) × (Nat → Int64) × (Nat → Int64) × (Int32)) :=
  if m_isKept = (0 : Int32) then some ((-2 : Int32), m_s, m_past, m_paid, m_pastPaid, m_pasts)
  else bnd (f_X6_changes  m_s m_past m_paid m_pastPaid m_pasts m_runs) (fun q2 => f_X6_restore_L16 m_kept m_keptPaid m_isKept m_runs  1024 (0 : Int32) m_s q2.1 m_paid q2.2.1 q2.2.2)
def f_X6_fitness_L7b  (m_s : Nat → Int32)  (k7 : Int64 → Int64 → Int32 → (Nat → Int32) → (Nat → Int32) → Int32 → Option (DR × (Nat → Int32) × (Nat → Int32) × (Int32))) (x1 : Int64) (x3 : Int64) (x5 : Int32) (m_order : Nat → Int32) (m_best : Nat → Int32) (m_many : Int32) : Option (DR × (Nat → Int32) × (Nat → Int32) × (Int32)) :=
  if (4 : Int32) ≤ x5 then if (lg_cmp x3 (0 : Int64)) = (0 : Int32) then some ((none : DR), m_order, m_best, m_many)
  else some ((some ((FP.l2d x1), (FP.l2d x3)) : DR), m_order, m_best, m_many)
  else bnd (f_X6_at x5 ) (fun q3 => grd (inb q3 100) (if (m_s q3.toNatClampNeg) ≤ (0 : Int32) then k7 x1 x3 (x5 + (1 : Int32)) m_order m_best m_many
  else bnd (f_X6_costAt x5 (0 : Int32) m_s m_order m_many) (fun q6 => bnd (f_X6_at x5 ) (fun q7 => grd (inb q7 100) (bnd (f_X6_finds (m_s q7.toNatClampNeg) (0 : Int32) m_s q6.2.1 m_best q6.2.2) (fun q9 => k7 (x1 + q9.1) (x3 + q6.1) (x5 + (1 : Int32)) q9.2.1 q9.2.2.1 q9.2.2.2))))))
def f_X6_fitness_L7  (m_s : Nat → Int32)  : Nat → Int64 → Int64 → Int32 → (Nat → Int32) → (Nat → Int32) → Int32 → Option (DR × (Nat → Int32) × (Nat → Int32) × (Int32))
  | 0 => fun _ _ _ _ _ _ => none
  | n + 1 => f_X6_fitness_L7b m_s  (f_X6_fitness_L7 m_s  n)
def f_X6_fitness  (m_s : Nat → Int32) (m_order : Nat → Int32) (m_best : Nat → Int32) (m_many : Int32) : Option (DR × (Nat → Int32) × (Nat → Int32) × (Int32)) :=
  f_X6_fitness_L7 m_s  1024 (0 : Int64) (0 : Int64) (0 : Int32) m_order m_best m_many
