/-! numbers and pictures of arrays -/
def ip_e (f : Nat → Nat) : Nat → Int32 := fun j => nI (f j)
def ip_b (b : Bool) : Int32 := if b = true then 1 else 0
def ip_eb (f : Nat → Bool) : Nat → Int32 := fun j => ip_b (f j)
def ip_m : Nat → Int32
  | 0 => -1
  | k + 1 => nI k
def ip_em (f : Nat → Nat) : Nat → Int32 := fun j => ip_m (f j)
def ip_u {α : Type} (f : Nat → α) (k : Nat) (v : α) : Nat → α := fun j => if j = k then v else f j
theorem ip_us {α : Type} {f : Nat → α} {k : Nat} {v : α} : ip_u f k v k = v := if_pos rfl
theorem ip_un {α : Type} {f : Nat → α} {k j : Nat} {v : α} (h : j ≠ k) : ip_u f k v j = f j := if_neg h
theorem ip_bt : ip_b true = 1 := rfl
theorem ip_bf : ip_b false = 0 := rfl
theorem ip_ue (f : Nat → Nat) (k v : Nat) : upd (ip_e f) k (nI v) = ip_e (ip_u f k v) := by
  funext j
  by_cases h : j = k
  · subst h
    exact (if_pos rfl).trans (congrArg nI ip_us).symm
  · exact (if_neg h).trans (congrArg nI (ip_un h)).symm
theorem ip_ueb (f : Nat → Bool) (k : Nat) (v : Bool) : upd (ip_eb f) k (ip_b v) = ip_eb (ip_u f k v) := by
  funext j
  by_cases h : j = k
  · subst h
    exact (if_pos rfl).trans (congrArg ip_b ip_us).symm
  · exact (if_neg h).trans (congrArg ip_b (ip_un h)).symm
theorem ip_b0 {b : Bool} : ip_b b = 0 ↔ b = false := by cases b <;> decide
theorem ip_b0' {b : Bool} : ¬ ip_b b = 0 ↔ b = true := by cases b <;> decide
theorem ip_m0 : ip_m 0 = -1 := rfl
theorem ip_ms (k : Nat) : ip_m (k + 1) = nI k := rfl
theorem ip_mT {x : Nat} (h : x < 2 ^ 31) : (ip_m x).toInt = (x : Int) - 1 := by
  cases x with
  | zero => decide
  | succ k => rw [ip_ms, nI_toInt (by omega)]; omega
theorem ip_mlt {x y : Nat} (hx : x < 2 ^ 31) (hy : y < 2 ^ 31) : ip_m x < ip_m y ↔ x < y := by
  rw [Int32.lt_iff_toInt_lt, ip_mT hx, ip_mT hy]; omega
theorem ip_mle {x y : Nat} (hx : x < 2 ^ 31) (hy : y < 2 ^ 31) : ip_m x ≤ ip_m y ↔ x ≤ y := by
  rw [Int32.le_iff_toInt_le, ip_mT hx, ip_mT hy]; omega
theorem ip_mq {x y : Nat} (hx : x < 2 ^ 31) (hy : y < 2 ^ 31) : ip_m x = ip_m y ↔ x = y := by
  rw [← Int32.toInt_inj, ip_mT hx, ip_mT hy]; omega
theorem ip_mn {x : Nat} (hx : x < 2 ^ 31) : ip_m x = -1 ↔ x = 0 := by
  rw [← ip_m0, ip_mq hx (by decide)]
theorem ip_mneg {x : Nat} (hx : x < 2 ^ 31) : ip_m x < 0 ↔ x = 0 := by
  rw [Int32.lt_iff_toInt_lt, ip_mT hx, show (0 : Int32).toInt = 0 from by decide]; omega
theorem ip_mpos {x : Nat} (hx : x < 2 ^ 31) : 0 ≤ ip_m x ↔ x ≠ 0 := by
  rw [Int32.le_iff_toInt_le, ip_mT hx, show (0 : Int32).toInt = 0 from by decide]; omega
theorem ip_nIm (k : Nat) : nI k = ip_m (k + 1) := rfl
