/-! numbers and pictures of arrays -/
def ip_e (f : Nat → Nat) : Nat → Int32 := fun j => nI (f j)
def ip_b (b : Bool) : Int32 := if b = true then 1 else 0
def ip_eb (f : Nat → Bool) : Nat → Int32 := fun j => ip_b (f j)
def ip_m : Nat → Int32
  | 0 => -1
  | k + 1 => nI k
def ip_em (f : Nat → Nat) : Nat → Int32 := fun j => ip_m (f j)
def ip_u {α : Type} (f : Nat → α) (k : Nat) (v : α) : Nat → α := fun j => if j = k then v else f j
theorem ip_us {α : Type} {f : Nat → α} {k : Nat} {v : α} : ip_u f k v k = v := if_pos rfl
theorem ip_un {α : Type} {f : Nat → α} {k j : Nat} {v : α} (h : j ≠ k) : ip_u f k v j = f j := if_neg h
theorem ip_bt : ip_b true = 1 := rfl
theorem ip_bf : ip_b false = 0 := rfl
theorem ip_ue (f : Nat → Nat) (k v : Nat) : upd (ip_e f) k (nI v) = ip_e (ip_u f k v) := by
  funext j
  by_cases h : j = k
  · subst h
    exact (if_pos rfl).trans (congrArg nI ip_us).symm
  · exact (if_neg h).trans (congrArg nI (ip_un h)).symm
theorem ip_ueb (f : Nat → Bool) (k : Nat) (v : Bool) : upd (ip_eb f) k (ip_b v) = ip_eb (ip_u f k v) := by
  funext j
  by_cases h : j = k
  · subst h
    exact (if_pos rfl).trans (congrArg ip_b ip_us).symm
  · exact (if_neg h).trans (congrArg ip_b (ip_un h)).symm
theorem ip_b0 {b : Bool} : ip_b b = 0 ↔ b = false := by cases b <;> decide
theorem ip_b0' {b : Bool} : ¬ ip_b b = 0 ↔ b = true := by cases b <;> decide
theorem ip_m0 : ip_m 0 = -1 := rfl
theorem ip_ms (k : Nat) : ip_m (k + 1) = nI k := rfl
theorem ip_mT {x : Nat} (h : x < 2 ^ 31) : (ip_m x).toInt = (x : Int) - 1 := by
  cases x with
  | zero => decide
  | succ k => rw [ip_ms, nI_toInt (by omega)]; omega
theorem ip_mlt {x y : Nat} (hx : x < 2 ^ 31) (hy : y < 2 ^ 31) : ip_m x < ip_m y ↔ x < y := by
  rw [Int32.lt_iff_toInt_lt, ip_mT hx, ip_mT hy]; omega
theorem ip_mle {x y : Nat} (hx : x < 2 ^ 31) (hy : y < 2 ^ 31) : ip_m x ≤ ip_m y ↔ x ≤ y := by
  rw [Int32.le_iff_toInt_le, ip_mT hx, ip_mT hy]; omega
theorem ip_mq {x y : Nat} (hx : x < 2 ^ 31) (hy : y < 2 ^ 31) : ip_m x = ip_m y ↔ x = y := by
  rw [← Int32.toInt_inj, ip_mT hx, ip_mT hy]; omega
theorem ip_mn {x : Nat} (hx : x < 2 ^ 31) : ip_m x = -1 ↔ x = 0 := by
  rw [← ip_m0, ip_mq hx (by decide)]
theorem ip_mneg {x : Nat} (hx : x < 2 ^ 31) : ip_m x < 0 ↔ x = 0 := by
  rw [Int32.lt_iff_toInt_lt, ip_mT hx, show (0 : Int32).toInt = 0 from by decide]; omega
theorem ip_mpos {x : Nat} (hx : x < 2 ^ 31) : 0 ≤ ip_m x ↔ x ≠ 0 := by
  rw [Int32.le_iff_toInt_le, ip_mT hx, show (0 : Int32).toInt = 0 from by decide]; omega
theorem ip_nIm (k : Nat) : nI k = ip_m (k + 1) := rfl
/-! reading an array at a natural -/
theorem ip_c (a : Nat → Int32) {i : Nat} (h : i < 2 ^ 31) : a (nI i).toNatClampNeg = a i := by rw [nI_clamp h]
theorem ip_ce (f : Nat → Nat) {i : Nat} (h : i < 2 ^ 31) : ip_e f (nI i).toNatClampNeg = nI (f i) := by rw [nI_clamp h]; rfl
theorem ip_cb (f : Nat → Bool) {i : Nat} (h : i < 2 ^ 31) : ip_eb f (nI i).toNatClampNeg = ip_b (f i) := by rw [nI_clamp h]; rfl
theorem ip_br {b : Bool} {x : Int32} {A B : Prop} (hx : x = ip_b b) (f : b = false → A) (g : b = true → B) : (x = 0 → A) ∧ (¬ x = 0 → B) := by
  subst hx
  exact ⟨fun h => f (ip_b0.mp h), fun h => g (ip_b0'.mp h)⟩
theorem ip_m1br {y : Nat} {x : Int32} {A B : Prop} (hx : x = ip_m y) (hy : y < 2 ^ 31) (f : y = 0 → A) (g : y ≠ 0 → B) : (x = (-1) → A) ∧ (¬ x = (-1) → B) := by
  subst hx
  exact ⟨fun h => f ((ip_mn hy).mp h), fun h => g (fun z => h ((ip_mn hy).mpr z))⟩
theorem ip_m0br {y : Nat} {x : Int32} {A B : Prop} (hx : x = ip_m y) (hy : y < 2 ^ 31) (f : y ≠ 0 → A) (g : y = 0 → B) : (0 ≤ x → A) ∧ (¬ 0 ≤ x → B) := by
  subst hx
  exact ⟨fun h => f ((ip_mpos hy).mp h), fun h => g (Classical.byContradiction fun z => h ((ip_mpos hy).mpr z))⟩
theorem ip_mlbr {y : Nat} {x : Int32} {A B : Prop} (hx : x = ip_m y) (hy : y < 2 ^ 31) (f : y = 0 → A) (g : y ≠ 0 → B) : (x < 0 → A) ∧ (¬ x < 0 → B) := by
  subst hx
  exact ⟨fun h => f ((ip_mneg hy).mp h), fun h => g (fun z => h ((ip_mneg hy).mpr z))⟩
theorem ip_mbr {x y : Nat} {A B : Prop} (hx : x < 2 ^ 31) (hy : y < 2 ^ 31) (f : x ≤ y → A) (g : y < x → B) : (ip_m x ≤ ip_m y → A) ∧ (¬ ip_m x ≤ ip_m y → B) :=
  ⟨fun h => f ((ip_mle hx hy).mp h), fun h => g (Nat.not_le.mp fun z => h ((ip_mle hx hy).mpr z))⟩
theorem ip_nb1 : vp_nar .boolean 1 = 1 := rfl
theorem ip_nb0 : vp_nar .boolean 0 = 0 := rfl
theorem ip_nch {q : Nat} (h : q < 65536) : vp_nar .char (nI q) = nI q := Value.int.inj (pk_charN h).1
theorem ip_ls (a i : Nat) : nI a * 4 + nI i = nI (4 * a + i) := by
  rw [show (4 : Int32) = nI 4 from rfl, pk_mul, nI_add, Nat.mul_comm]
theorem ip_l25 (a i : Nat) : nI a * 25 + nI i = nI (a * 25 + i) := by
  rw [show (25 : Int32) = nI 25 from rfl, pk_mul, nI_add]
theorem ip_l8 (a i : Nat) : nI a * 8 + nI i = nI (a * 8 + i) := by
  rw [show (8 : Int32) = nI 8 from rfl, pk_mul, nI_add]
theorem ip_dec (p : Nat) : nI p + (-1) = ip_m p := by
  cases p with
  | zero => rfl
  | succ k => exact pk_m1 k
theorem ip_dec1 (p : Nat) : nI p - 1 = ip_m p := by
  cases p with
  | zero => rfl
  | succ k => exact nI_pred k
theorem ip_slot {s q r p : Nat} (hq : q ≤ 24) (hp : p ≤ 24) (h : ¬ (s = r ∧ q = p)) : s * 25 + q ≠ r * 25 + p := by omega
