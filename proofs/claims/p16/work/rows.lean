section
/-! numbers and pictures of arrays -/
def ip_e (f : Nat → Nat) : Nat → Int32 := fun j => nI (f j)
def ip_b (b : Bool) : Int32 := if b = true then 1 else 0
def ip_eb (f : Nat → Bool) : Nat → Int32 := fun j => ip_b (f j)
def ip_m : Nat → Int32
  | 0 => -1
  | k + 1 => nI k
def ip_em (f : Nat → Nat) : Nat → Int32 := fun j => ip_m (f j)
def ip_u {α : Type} (f : Nat → α) (k : Nat) (v : α) : Nat → α := fun j => if j = k then v else f j
theorem ip_us {α : Type} {f : Nat → α} {k : Nat} {v : α} : ip_u f k v k = v := if_pos rfl
theorem ip_un {α : Type} {f : Nat → α} {k j : Nat} {v : α} (h : j ≠ k) : ip_u f k v j = f j := if_neg h
theorem ip_bt : ip_b true = 1 := rfl
theorem ip_bf : ip_b false = 0 := rfl
theorem ip_ue (f : Nat → Nat) (k v : Nat) : upd (ip_e f) k (nI v) = ip_e (ip_u f k v) := by
  funext j
  by_cases h : j = k
  · subst h
    exact (if_pos rfl).trans (congrArg nI ip_us).symm
  · exact (if_neg h).trans (congrArg nI (ip_un h)).symm
theorem ip_ueb (f : Nat → Bool) (k : Nat) (v : Bool) : upd (ip_eb f) k (ip_b v) = ip_eb (ip_u f k v) := by
  funext j
  by_cases h : j = k
  · subst h
    exact (if_pos rfl).trans (congrArg ip_b ip_us).symm
  · exact (if_neg h).trans (congrArg ip_b (ip_un h)).symm
theorem ip_b0 {b : Bool} : ip_b b = 0 ↔ b = false := by cases b <;> decide
theorem ip_b0' {b : Bool} : ¬ ip_b b = 0 ↔ b = true := by cases b <;> decide
theorem ip_m0 : ip_m 0 = -1 := rfl
theorem ip_ms (k : Nat) : ip_m (k + 1) = nI k := rfl
theorem ip_mT {x : Nat} (h : x < 2 ^ 31) : (ip_m x).toInt = (x : Int) - 1 := by
  cases x with
  | zero => decide
  | succ k => rw [ip_ms, nI_toInt (by omega)]; omega
theorem ip_mlt {x y : Nat} (hx : x < 2 ^ 31) (hy : y < 2 ^ 31) : ip_m x < ip_m y ↔ x < y := by
  rw [Int32.lt_iff_toInt_lt, ip_mT hx, ip_mT hy]; omega
theorem ip_mle {x y : Nat} (hx : x < 2 ^ 31) (hy : y < 2 ^ 31) : ip_m x ≤ ip_m y ↔ x ≤ y := by
  rw [Int32.le_iff_toInt_le, ip_mT hx, ip_mT hy]; omega
theorem ip_mq {x y : Nat} (hx : x < 2 ^ 31) (hy : y < 2 ^ 31) : ip_m x = ip_m y ↔ x = y := by
  rw [← Int32.toInt_inj, ip_mT hx, ip_mT hy]; omega
theorem ip_mn {x : Nat} (hx : x < 2 ^ 31) : ip_m x = -1 ↔ x = 0 := by
  rw [← ip_m0, ip_mq hx (by decide)]
theorem ip_mneg {x : Nat} (hx : x < 2 ^ 31) : ip_m x < 0 ↔ x = 0 := by
  rw [Int32.lt_iff_toInt_lt, ip_mT hx, show (0 : Int32).toInt = 0 from by decide]; omega
theorem ip_mpos {x : Nat} (hx : x < 2 ^ 31) : 0 ≤ ip_m x ↔ x ≠ 0 := by
  rw [Int32.le_iff_toInt_le, ip_mT hx, show (0 : Int32).toInt = 0 from by decide]; omega
theorem ip_nIm (k : Nat) : nI k = ip_m (k + 1) := rfl
/-! reading an array at a natural -/
theorem ip_c (a : Nat → Int32) {i : Nat} (h : i < 2 ^ 31) : a (nI i).toNatClampNeg = a i := by rw [nI_clamp h]
theorem ip_ce (f : Nat → Nat) {i : Nat} (h : i < 2 ^ 31) : ip_e f (nI i).toNatClampNeg = nI (f i) := by rw [nI_clamp h]; rfl
theorem ip_cb (f : Nat → Bool) {i : Nat} (h : i < 2 ^ 31) : ip_eb f (nI i).toNatClampNeg = ip_b (f i) := by rw [nI_clamp h]; rfl
theorem ip_br {b : Bool} {x : Int32} {A B : Prop} (hx : x = ip_b b) (f : b = false → A) (g : b = true → B) : (x = 0 → A) ∧ (¬ x = 0 → B) := by
  subst hx
  exact ⟨fun h => f (ip_b0.mp h), fun h => g (ip_b0'.mp h)⟩
theorem ip_m1br {y : Nat} {x : Int32} {A B : Prop} (hx : x = ip_m y) (hy : y < 2 ^ 31) (f : y = 0 → A) (g : y ≠ 0 → B) : (x = (-1) → A) ∧ (¬ x = (-1) → B) := by
  subst hx
  exact ⟨fun h => f ((ip_mn hy).mp h), fun h => g (fun z => h ((ip_mn hy).mpr z))⟩
theorem ip_m0br {y : Nat} {x : Int32} {A B : Prop} (hx : x = ip_m y) (hy : y < 2 ^ 31) (f : y ≠ 0 → A) (g : y = 0 → B) : (0 ≤ x → A) ∧ (¬ 0 ≤ x → B) := by
  subst hx
  exact ⟨fun h => f ((ip_mpos hy).mp h), fun h => g (Classical.byContradiction fun z => h ((ip_mpos hy).mpr z))⟩
theorem ip_mlbr {y : Nat} {x : Int32} {A B : Prop} (hx : x = ip_m y) (hy : y < 2 ^ 31) (f : y = 0 → A) (g : y ≠ 0 → B) : (x < 0 → A) ∧ (¬ x < 0 → B) := by
  subst hx
  exact ⟨fun h => f ((ip_mneg hy).mp h), fun h => g (fun z => h ((ip_mneg hy).mpr z))⟩
theorem ip_mbr {x y : Nat} {A B : Prop} (hx : x < 2 ^ 31) (hy : y < 2 ^ 31) (f : x ≤ y → A) (g : y < x → B) : (ip_m x ≤ ip_m y → A) ∧ (¬ ip_m x ≤ ip_m y → B) :=
  ⟨fun h => f ((ip_mle hx hy).mp h), fun h => g (Nat.not_le.mp fun z => h ((ip_mle hx hy).mpr z))⟩
theorem ip_nb1 : vp_nar .boolean 1 = 1 := rfl
theorem ip_nb0 : vp_nar .boolean 0 = 0 := rfl
theorem ip_nch {q : Nat} (h : q < 65536) : vp_nar .char (nI q) = nI q := Value.int.inj (pk_charN h).1
theorem ip_ls (a i : Nat) : nI a * 4 + nI i = nI (4 * a + i) := by
  rw [show (4 : Int32) = nI 4 from rfl, pk_mul, nI_add, Nat.mul_comm]
theorem ip_l25 (a i : Nat) : nI a * 25 + nI i = nI (a * 25 + i) := by
  rw [show (25 : Int32) = nI 25 from rfl, pk_mul, nI_add]
theorem ip_l8 (a i : Nat) : nI a * 8 + nI i = nI (a * 8 + i) := by
  rw [show (8 : Int32) = nI 8 from rfl, pk_mul, nI_add]
theorem ip_dec (p : Nat) : nI p + (-1) = ip_m p := by
  cases p with
  | zero => rfl
  | succ k => exact pk_m1 k
theorem ip_dec1 (p : Nat) : nI p - 1 = ip_m p := by
  cases p with
  | zero => rfl
  | succ k => exact nI_pred k
theorem ip_slot {s q r p : Nat} (hq : q ≤ 24) (hp : p ≤ 24) (h : ¬ (s = r ∧ q = p)) : s * 25 + q ≠ r * 25 + p := by omega
end
section
/-! the grammar as naturals: owner and size of an alternative; mode, low, high, is-a-rule of an item; number of alternatives -/
abbrev ig_T : Type := (Nat → Nat) × (Nat → Nat) × (Nat → Nat) × (Nat → Nat) × (Nat → Nat) × (Nat → Bool) × Nat
def ig_O (g : ig_T) : Nat → Nat := g.1
def ig_C (g : ig_T) : Nat → Nat := g.2.1
def ig_M (g : ig_T) : Nat → Nat := g.2.2.1
def ig_L (g : ig_T) : Nat → Nat := g.2.2.2.1
def ig_H (g : ig_T) : Nat → Nat := g.2.2.2.2.1
def ig_B (g : ig_T) : Nat → Bool := g.2.2.2.2.2.1
def ig_A (g : ig_T) : Nat := g.2.2.2.2.2.2
def ig_V (g : ig_T) (R : Nat) : Prop := ig_A g ≤ 16 ∧ ∀ j, ig_O g j < R ∧ ig_C g j ≤ 4 ∧ ig_M g j ≤ 5 ∧ ig_L g j ≤ 65535 ∧ ig_H g j ≤ 65535 ∧ (ig_B g j = true → ig_L g j < R)
abbrev ig_rep (g : ig_T) (it : Nat) : Prop := ig_M g it = 2 ∨ ig_M g it = 3
theorem ig_repD (g : ig_T) (it : Nat) : ig_rep g it ∨ ¬ ig_rep g it := Classical.em _
/-! a table gives of a rule at a position the end and the greatest position examined, each plus one, zero where there is none -/
def pu_T (g : ig_T) (t : Nat → Nat) (n : Nat) (T : Nat → Nat → Nat × Nat) (it q : Nat) : Nat × Nat :=
  if ig_B g it = true then T (ig_L g it) q else (if q < n ∧ ig_L g it ≤ t q ∧ t q ≤ ig_H g it then q + 2 else 0, q + 1)
def pu_R (g : ig_T) (t : Nat → Nat) (n : Nat) (T : Nat → Nat → Nat × Nat) (it : Nat) : Nat → Nat → Nat × Nat × Nat
  | 0, q => (0, q, 0)
  | f + 1, q => if (pu_T g t n T it q).1 = 0 then (0, q, (pu_T g t n T it q).2)
    else ((pu_R g t n T it f ((pu_T g t n T it q).1 - 1)).1 + 1, (pu_R g t n T it f ((pu_T g t n T it q).1 - 1)).2.1, max (pu_T g t n T it q).2 (pu_R g t n T it f ((pu_T g t n T it q).1 - 1)).2.2)
def pu_f (g : ig_T) (n it : Nat) : Nat := if ig_M g it = 2 ∨ ig_M g it = 3 then n + 1 else 1
def pu_e (m q : Nat) (z : Nat × Nat × Nat) : Nat :=
  if m = 1 ∨ m = 2 then z.2.1 + 1 else if m = 4 then (if 0 < z.1 then q + 1 else 0) else if m = 5 then (if 0 < z.1 then 0 else q + 1) else (if 0 < z.1 then z.2.1 + 1 else 0)
def pu_I (g : ig_T) (t : Nat → Nat) (n : Nat) (T : Nat → Nat → Nat × Nat) (it q : Nat) : Nat × Nat :=
  (pu_e (ig_M g it) q (pu_R g t n T it (pu_f g n it) q), (pu_R g t n T it (pu_f g n it) q).2.2)
def pu_A (g : ig_T) (t : Nat → Nat) (n : Nat) (T : Nat → Nat → Nat × Nat) : Nat → Nat → Nat → Nat × Nat
  | 0, _, q => (q + 1, 0)
  | k + 1, it, q => if (pu_I g t n T it q).1 = 0 then (0, (pu_I g t n T it q).2)
    else ((pu_A g t n T k (it + 1) ((pu_I g t n T it q).1 - 1)).1, max (pu_I g t n T it q).2 (pu_A g t n T k (it + 1) ((pu_I g t n T it q).1 - 1)).2)
def pu_U (g : ig_T) (t : Nat → Nat) (n : Nat) (T : Nat → Nat → Nat × Nat) (r p : Nat) : Nat → Nat → Nat × Nat × Nat
  | 0, _ => (0, 0, 0)
  | k + 1, a => if ig_O g a = r then
      (if (pu_A g t n T (ig_C g a) (4 * a) p).1 = 0 then ((pu_U g t n T r p k (a + 1)).1, max (pu_A g t n T (ig_C g a) (4 * a) p).2 (pu_U g t n T r p k (a + 1)).2.1, (pu_U g t n T r p k (a + 1)).2.2)
       else ((pu_A g t n T (ig_C g a) (4 * a) p).1, (pu_A g t n T (ig_C g a) (4 * a) p).2, a))
    else pu_U g t n T r p k (a + 1)
def pu_M (g : ig_T) (t : Nat → Nat) (n : Nat) (T : Nat → Nat → Nat × Nat) (r p : Nat) : Nat × Nat × Nat := pu_U g t n T r p (ig_A g) 0
/-! nullable items, the facts that a compiled grammar has -/
def ig_n (g : ig_T) (N : Nat → Bool) (it : Nat) : Prop := (ig_M g it ≠ 0 ∧ ig_M g it ≠ 3) ∨ (ig_B g it = true ∧ N (ig_L g it) = true)
def ig_S (g : ig_T) (N : Nat → Bool) (r s : Nat) : Prop :=
  ∃ a i, a < ig_A g ∧ ig_O g a = r ∧ i < ig_C g a ∧ ig_B g (4 * a + i) = true ∧ ig_L g (4 * a + i) = s ∧ ∀ j, j < i → ig_n g N (4 * a + j)
def ig_Cl (g : ig_T) (N : Nat → Bool) : Prop := ∀ a, a < ig_A g → (∀ i, i < ig_C g a → ig_n g N (4 * a + i)) → N (ig_O g a) = true
def ig_Nb (g : ig_T) (N : Nat → Bool) : Prop := ∀ a i, a < ig_A g → i < ig_C g a → ig_rep g (4 * a + i) → ig_B g (4 * a + i) = true → N (ig_L g (4 * a + i)) = false
def ig_K (g : ig_T) (R : Nat) (N : Nat → Bool) (rk : Nat → Nat) : Prop := ig_Cl g N ∧ ig_Nb g N ∧ (∀ r, r < R → rk r < R) ∧ ∀ r s, ig_S g N r s → rk s < rk r
def pu_S (N : Nat → Bool) (n : Nat) (T : Nat → Nat → Nat × Nat) (s q : Nat) : Prop := (T s q).2 ≤ n + 1 ∧ ∀ e, (T s q).1 = e + 1 → q ≤ e ∧ e ≤ n ∧ (e = q → N s = true)
section
variable {g : ig_T} {t : Nat → Nat} {n : Nat} {T T' : Nat → Nat → Nat × Nat} {N : Nat → Bool}
theorem pu_Tr {it q : Nat} (h : ig_B g it = true) : pu_T g t n T it q = T (ig_L g it) q := if_pos h
theorem pu_Tc {it q : Nat} (h : ¬ ig_B g it = true) : pu_T g t n T it q = (if q < n ∧ ig_L g it ≤ t q ∧ t q ≤ ig_H g it then q + 2 else 0, q + 1) := if_neg h
theorem pu_Tag {it q : Nat} (h : ig_B g it = true → T (ig_L g it) q = T' (ig_L g it) q) : pu_T g t n T it q = pu_T g t n T' it q := by
  by_cases b : ig_B g it = true
  · rw [pu_Tr b, pu_Tr b, h b]
  · rw [pu_Tc b, pu_Tc b]
theorem pu_Ts {it q : Nat} (hq : q ≤ n) (h : ig_B g it = true → pu_S N n T (ig_L g it) q) :
    (pu_T g t n T it q).2 ≤ n + 1 ∧ ∀ e, (pu_T g t n T it q).1 = e + 1 → q ≤ e ∧ e ≤ n ∧ (e = q → ig_B g it = true ∧ N (ig_L g it) = true) := by
  by_cases b : ig_B g it = true
  · rw [pu_Tr b]
    refine ⟨(h b).1, fun e he => ?_⟩
    obtain ⟨h1, h2, h3⟩ := (h b).2 e he
    exact ⟨h1, h2, fun z => ⟨b, h3 z⟩⟩
  · rw [pu_Tc b]
    refine ⟨by show q + 1 ≤ n + 1; omega, fun e he => ?_⟩
    have he' : (if q < n ∧ ig_L g it ≤ t q ∧ t q ≤ ig_H g it then q + 2 else 0) = e + 1 := he
    by_cases c : q < n ∧ ig_L g it ≤ t q ∧ t q ≤ ig_H g it
    · rw [if_pos c] at he'
      exact ⟨by omega, by omega, fun z => by omega⟩
    · rw [if_neg c] at he'
      omega
theorem pu_R0 {it q f : Nat} (h : (pu_T g t n T it q).1 = 0) : pu_R g t n T it (f + 1) q = (0, q, (pu_T g t n T it q).2) := if_pos h
theorem pu_Rs {it q f e : Nat} (h : (pu_T g t n T it q).1 = e + 1) : pu_R g t n T it (f + 1) q = ((pu_R g t n T it f e).1 + 1, (pu_R g t n T it f e).2.1, max (pu_T g t n T it q).2 (pu_R g t n T it f e).2.2) := by
  have h0 : ¬ (pu_T g t n T it q).1 = 0 := by omega
  have he : (pu_T g t n T it q).1 - 1 = e := by omega
  show (if (pu_T g t n T it q).1 = 0 then _ else _) = _
  rw [if_neg h0, he]
/-- what a run of tests gives, on two tables that agree where it reads -/
theorem pu_Rag {it : Nat} : ∀ (f q : Nat), q ≤ n → (ig_B g it = true → T (ig_L g it) q = T' (ig_L g it) q ∧ pu_S N n T' (ig_L g it) q) →
    (f ≤ 1 ∨ ((ig_B g it = true → N (ig_L g it) = false) ∧ ∀ q', q < q' → q' ≤ n → ig_B g it = true → T (ig_L g it) q' = T' (ig_L g it) q' ∧ pu_S N n T' (ig_L g it) q')) →
    pu_R g t n T it f q = pu_R g t n T' it f q ∧ (pu_R g t n T' it f q).2.2 ≤ n + 1 ∧ q ≤ (pu_R g t n T' it f q).2.1 ∧ (pu_R g t n T' it f q).2.1 ≤ n ∧
    (0 < (pu_R g t n T' it f q).1 → (pu_R g t n T' it f q).2.1 = q → ig_B g it = true ∧ N (ig_L g it) = true) ∧ ((pu_R g t n T' it f q).1 = 0 → (pu_R g t n T' it f q).2.1 = q) := by
  intro f
  induction f with
  | zero => intro q hq _ _; exact ⟨rfl, Nat.zero_le _, Nat.le_refl _, hq, fun z => absurd z (Nat.lt_irrefl 0), fun _ => rfl⟩
  | succ f ih =>
    intro q hq ha hb
    have e1 : pu_T g t n T it q = pu_T g t n T' it q := pu_Tag fun b => (ha b).1
    obtain ⟨s1, s2⟩ := pu_Ts (t := t) (N := N) hq fun b => (ha b).2
    cases hz : (pu_T g t n T' it q).1 with
    | zero =>
      rw [pu_R0 hz, pu_R0 (by rw [e1]; exact hz), e1]
      exact ⟨rfl, s1, Nat.le_refl _, hq, fun z => absurd z (Nat.lt_irrefl 0), fun _ => rfl⟩
    | succ e =>
      obtain ⟨h1, h2, h3⟩ := s2 e hz
      rw [pu_Rs hz, pu_Rs (by rw [e1]; exact hz), e1]
      rcases hb with hb | ⟨hb1, hb2⟩
      · obtain rfl : f = 0 := by omega
        refine ⟨rfl, ?_, h1, h2, fun _ z => h3 z, fun z => ?_⟩
        · show max (pu_T g t n T' it q).2 0 ≤ n + 1
          omega
        · exact absurd z (Nat.succ_ne_zero _)
      · have hlt : q < e := by
          rcases Nat.lt_or_ge q e with z | z
          · exact z
          · obtain ⟨b, c⟩ := h3 (by omega)
            rw [hb1 b] at c
            exact absurd c (by decide)
        obtain ⟨i1, i2, i3, i4, i5, i6⟩ := ih e h2 (fun b => hb2 e hlt h2 b) (Or.inr ⟨hb1, fun q' z1 z2 b => hb2 q' (by omega) z2 b⟩)
        rw [i1]
        refine ⟨rfl, ?_, ?_, i4, fun _ z => ?_, fun z => absurd z (Nat.succ_ne_zero _)⟩
        · show max (pu_T g t n T' it q).2 _ ≤ n + 1
          omega
        · show q ≤ (pu_R g t n T' it f e).2.1
          omega
        · have z' : (pu_R g t n T' it f e).2.1 = q := z
          omega
/-- every test that passes moves on -/
def pu_P (g : ig_T) (t : Nat → Nat) (n : Nat) (T : Nat → Nat → Nat × Nat) (it q : Nat) : Prop := ∀ q', q ≤ q' → q' ≤ n → ∀ e, (pu_T g t n T it q').1 = e + 1 → q' < e ∧ e ≤ n
theorem pu_Pof {it q : Nat} (hb : ig_B g it = true → N (ig_L g it) = false) (h : ∀ q', q ≤ q' → q' ≤ n → ig_B g it = true → pu_S N n T (ig_L g it) q') : pu_P g t n T it q := by
  intro q' h1 h2 e he
  obtain ⟨k1, k2, k3⟩ := (pu_Ts (t := t) (N := N) h2 (h q' h1 h2)).2 e he
  refine ⟨?_, k2⟩
  rcases Nat.lt_or_ge q' e with z | z
  · exact z
  · obtain ⟨b, c⟩ := k3 (by omega)
    rw [hb b] at c
    exact absurd c (by decide)
theorem pu_Pup {it q e : Nat} (h : pu_P g t n T it q) (he : q ≤ e) : pu_P g t n T it e := fun q' h1 h2 => h q' (by omega) h2
theorem pu_Rc {it : Nat} : ∀ f q, q ≤ n → pu_P g t n T it q → (pu_R g t n T it f q).1 + q ≤ (pu_R g t n T it f q).2.1 ∧ (pu_R g t n T it f q).2.1 ≤ n := by
  intro f
  induction f with
  | zero => intro q hq _; exact ⟨by show 0 + q ≤ q; omega, hq⟩
  | succ f ih =>
    intro q hq hP
    cases hz : (pu_T g t n T it q).1 with
    | zero => rw [pu_R0 hz]; exact ⟨by show 0 + q ≤ q; omega, hq⟩
    | succ e =>
      obtain ⟨h1, h2⟩ := hP q (Nat.le_refl q) hq e hz
      obtain ⟨i1, i2⟩ := ih e h2 (pu_Pup hP (by omega))
      rw [pu_Rs hz]
      exact ⟨by show (pu_R g t n T it f e).1 + 1 + q ≤ (pu_R g t n T it f e).2.1; omega, i2⟩
/-- with fuel enough the number of tests makes no difference -/
theorem pu_Rf {it : Nat} : ∀ f f' q, q ≤ n → pu_P g t n T it q → n - q < f → n - q < f' → pu_R g t n T it f q = pu_R g t n T it f' q := by
  intro f
  induction f with
  | zero => intro f' q _ _ h; omega
  | succ f ih =>
    intro f' q hq hP h1 h2
    obtain ⟨f', rfl⟩ : ∃ c, f' = c + 1 := ⟨f' - 1, by omega⟩
    cases hz : (pu_T g t n T it q).1 with
    | zero => rw [pu_R0 hz, pu_R0 hz]
    | succ e =>
      obtain ⟨k1, k2⟩ := hP q (Nat.le_refl q) hq e hz
      rw [pu_Rs hz, pu_Rs hz, ih f' e k2 (pu_Pup hP (by omega)) (by omega) (by omega)]
/-- an item -/
theorem pu_Iag {it q : Nat} (hq : q ≤ n) (hn : ig_rep g it → ig_B g it = true → N (ig_L g it) = false)
    (ha : ig_B g it = true → T (ig_L g it) q = T' (ig_L g it) q ∧ pu_S N n T' (ig_L g it) q)
    (hb : ∀ q', q < q' → q' ≤ n → ig_B g it = true → T (ig_L g it) q' = T' (ig_L g it) q' ∧ pu_S N n T' (ig_L g it) q') :
    pu_I g t n T it q = pu_I g t n T' it q ∧ (pu_I g t n T' it q).2 ≤ n + 1 ∧ ∀ e, (pu_I g t n T' it q).1 = e + 1 → q ≤ e ∧ e ≤ n ∧ (e = q → ig_n g N it) := by
  have hf : pu_f g n it ≤ 1 ∨ ((ig_B g it = true → N (ig_L g it) = false) ∧ ∀ q', q < q' → q' ≤ n → ig_B g it = true → T (ig_L g it) q' = T' (ig_L g it) q' ∧ pu_S N n T' (ig_L g it) q') := by
    by_cases h : ig_M g it = 2 ∨ ig_M g it = 3
    · exact Or.inr ⟨hn h, hb⟩
    · refine Or.inl ?_
      unfold pu_f
      rw [if_neg h]
      exact Nat.le_refl 1
  obtain ⟨i1, i2, i3, i4, i5, i6⟩ := pu_Rag (t := t) (pu_f g n it) q hq ha hf
  unfold pu_I
  rw [i1]
  refine ⟨rfl, i2, fun e he => ?_⟩
  have he' : pu_e (ig_M g it) q (pu_R g t n T' it (pu_f g n it) q) = e + 1 := he
  revert i3 i4 i5 i6 he'
  generalize pu_R g t n T' it (pu_f g n it) q = z
  intro i3 i4 i5 i6 he'
  unfold pu_e at he'
  by_cases m1 : ig_M g it = 1 ∨ ig_M g it = 2
  · rw [if_pos m1] at he'
    exact ⟨by omega, by omega, fun _ => Or.inl ⟨by omega, by omega⟩⟩
  · rw [if_neg m1] at he'
    by_cases m4 : ig_M g it = 4
    · rw [if_pos m4] at he'
      by_cases hz : 0 < z.1
      · rw [if_pos hz] at he'
        exact ⟨by omega, by omega, fun _ => Or.inl ⟨by omega, by omega⟩⟩
      · rw [if_neg hz] at he'
        omega
    · rw [if_neg m4] at he'
      by_cases m5 : ig_M g it = 5
      · rw [if_pos m5] at he'
        by_cases hz : 0 < z.1
        · rw [if_pos hz] at he'
          omega
        · rw [if_neg hz] at he'
          exact ⟨by omega, by omega, fun _ => Or.inl ⟨by omega, by omega⟩⟩
      · rw [if_neg m5] at he'
        by_cases hz : 0 < z.1
        · rw [if_pos hz] at he'
          exact ⟨by omega, by omega, fun w => Or.inr (i5 hz (by omega))⟩
        · rw [if_neg hz] at he'
          omega
theorem pu_A0 {k it q : Nat} (h : (pu_I g t n T it q).1 = 0) : pu_A g t n T (k + 1) it q = (0, (pu_I g t n T it q).2) := if_pos h
theorem pu_As {k it q e : Nat} (h : (pu_I g t n T it q).1 = e + 1) : pu_A g t n T (k + 1) it q = ((pu_A g t n T k (it + 1) e).1, max (pu_I g t n T it q).2 (pu_A g t n T k (it + 1) e).2) := by
  have h0 : ¬ (pu_I g t n T it q).1 = 0 := by omega
  have he : (pu_I g t n T it q).1 - 1 = e := by omega
  show (if (pu_I g t n T it q).1 = 0 then _ else _) = _
  rw [if_neg h0, he]
/-- the items of an alternative from one on -/
theorem pu_Aag {p : Nat} : ∀ (k it q : Nat), p ≤ q → q ≤ n → (∀ j, j < k → ig_rep g (it + j) → ig_B g (it + j) = true → N (ig_L g (it + j)) = false) →
    (∀ j, j < k → ig_B g (it + j) = true → ∀ q', p < q' → q' ≤ n → T (ig_L g (it + j)) q' = T' (ig_L g (it + j)) q' ∧ pu_S N n T' (ig_L g (it + j)) q') →
    (q = p → ∀ j, j < k → ig_B g (it + j) = true → (∀ i, i < j → ig_n g N (it + i)) → T (ig_L g (it + j)) p = T' (ig_L g (it + j)) p ∧ pu_S N n T' (ig_L g (it + j)) p) →
    pu_A g t n T k it q = pu_A g t n T' k it q ∧ (pu_A g t n T' k it q).2 ≤ n + 1 ∧ ∀ e, (pu_A g t n T' k it q).1 = e + 1 → q ≤ e ∧ e ≤ n ∧ (e = q → ∀ j, j < k → ig_n g N (it + j)) := by
  intro k
  induction k with
  | zero =>
    intro it q _ hq _ _ _
    refine ⟨rfl, Nat.zero_le _, fun e he => ?_⟩
    have he' : q + 1 = e + 1 := he
    exact ⟨by omega, by omega, fun _ j hj => absurd hj (Nat.not_lt_zero j)⟩
  | succ k ih =>
    intro it q hp hq hn ha hb
    have h0 : ig_B g it = true → T (ig_L g it) q = T' (ig_L g it) q ∧ pu_S N n T' (ig_L g it) q := fun b => by
      rcases Nat.eq_or_lt_of_le hp with z | z
      · subst z
        exact hb rfl 0 (Nat.succ_pos k) b (fun i hi => absurd hi (Nat.not_lt_zero i))
      · exact ha 0 (Nat.succ_pos k) b q z hq
    obtain ⟨i1, i2, i3⟩ := pu_Iag (t := t) (N := N) (it := it) hq (hn 0 (Nat.succ_pos k)) h0 (fun q' z1 z2 b => ha 0 (Nat.succ_pos k) b q' (by omega) z2)
    cases hz : (pu_I g t n T' it q).1 with
    | zero =>
      rw [pu_A0 hz, pu_A0 (by rw [i1]; exact hz), i1]
      exact ⟨rfl, i2, fun e he => absurd he (Nat.succ_ne_zero e).symm⟩
    | succ e1 =>
      obtain ⟨k1, k2, k3⟩ := i3 e1 hz
      have sh : ∀ j, it + 1 + j = it + (j + 1) := fun j => by omega
      obtain ⟨j1, j2, j3⟩ := ih (it + 1) e1 (by omega) k2 (fun j hj => by rw [sh]; exact hn (j + 1) (by omega)) (fun j hj => by rw [sh]; exact ha (j + 1) (by omega))
        (fun ep j hj => by
          rw [sh]
          intro b hi
          refine hb (by omega) (j + 1) (by omega) b (fun i hi' => ?_)
          cases i with
          | zero => exact k3 (by omega)
          | succ i => rw [← sh]; exact hi i (by omega))
      rw [pu_As hz, pu_As (by rw [i1]; exact hz), i1, j1]
      refine ⟨rfl, ?_, fun e he => ?_⟩
      · show max (pu_I g t n T' it q).2 _ ≤ n + 1
        omega
      · obtain ⟨m1, m2, m3⟩ := j3 e he
        refine ⟨by omega, m2, fun z j hj => ?_⟩
        cases j with
        | zero => exact k3 (by omega)
        | succ j => rw [← sh]; exact m3 (by omega) j (by omega)
theorem pu_Un {r p k a : Nat} (h : ¬ ig_O g a = r) : pu_U g t n T r p (k + 1) a = pu_U g t n T r p k (a + 1) := if_neg h
theorem pu_U0 {r p k a : Nat} (h : ig_O g a = r) (hz : (pu_A g t n T (ig_C g a) (4 * a) p).1 = 0) : pu_U g t n T r p (k + 1) a = ((pu_U g t n T r p k (a + 1)).1, max (pu_A g t n T (ig_C g a) (4 * a) p).2 (pu_U g t n T r p k (a + 1)).2.1, (pu_U g t n T r p k (a + 1)).2.2) := by
  show (if ig_O g a = r then _ else _) = _
  rw [if_pos h, if_pos hz]
theorem pu_Us {r p k a : Nat} (h : ig_O g a = r) (hz : ¬ (pu_A g t n T (ig_C g a) (4 * a) p).1 = 0) : pu_U g t n T r p (k + 1) a = ((pu_A g t n T (ig_C g a) (4 * a) p).1, (pu_A g t n T (ig_C g a) (4 * a) p).2, a) := by
  show (if ig_O g a = r then _ else _) = _
  rw [if_pos h, if_neg hz]
/-- the alternatives of a rule from one on -/
theorem pu_Uag {r p : Nat} (hp : p ≤ n) (hN : ig_Nb g N)
    (ha : ∀ s q', p < q' → q' ≤ n → (∃ j, ig_B g j = true ∧ ig_L g j = s) → T s q' = T' s q' ∧ pu_S N n T' s q') (hb : ∀ s, ig_S g N r s → T s p = T' s p ∧ pu_S N n T' s p) :
    ∀ (k a : Nat), a + k ≤ ig_A g → pu_U g t n T r p k a = pu_U g t n T' r p k a ∧ (pu_U g t n T' r p k a).2.1 ≤ n + 1 ∧
      ∀ e, (pu_U g t n T' r p k a).1 = e + 1 → p ≤ e ∧ e ≤ n ∧ (e = p → ∃ b, b < ig_A g ∧ ig_O g b = r ∧ ∀ j, j < ig_C g b → ig_n g N (4 * b + j)) := by
  intro k
  induction k with
  | zero => intro a _; exact ⟨rfl, Nat.zero_le _, fun e he => absurd he (Nat.succ_ne_zero e).symm⟩
  | succ k ih =>
    intro a hk
    obtain ⟨i1, i2, i3⟩ := ih (a + 1) (by omega)
    by_cases ho : ig_O g a = r
    · obtain ⟨j1, j2, j3⟩ := pu_Aag (g := g) (t := t) (n := n) (T := T) (T' := T') (N := N) (p := p) (ig_C g a) (4 * a) p (Nat.le_refl p) hp (fun j hj h1 h2 => hN a j (by omega) hj h1 h2)
        (fun j hj b q' z1 z2 => ha _ q' z1 z2 ⟨_, b, rfl⟩) (fun _ j hj b hi => hb _ ⟨a, j, by omega, ho, hj, b, rfl, hi⟩)
      by_cases hz : (pu_A g t n T' (ig_C g a) (4 * a) p).1 = 0
      · rw [pu_U0 ho hz, pu_U0 ho (by rw [j1]; exact hz), j1, i1]
        refine ⟨rfl, ?_, i3⟩
        show max (pu_A g t n T' (ig_C g a) (4 * a) p).2 _ ≤ n + 1
        omega
      · rw [pu_Us ho hz, pu_Us ho (by rw [j1]; exact hz), j1]
        refine ⟨rfl, j2, fun e he => ?_⟩
        obtain ⟨m1, m2, m3⟩ := j3 e he
        exact ⟨m1, m2, fun z => ⟨a, by omega, ho, m3 z⟩⟩
    · rw [pu_Un ho, pu_Un ho]
      exact ⟨i1, i2, i3⟩
/-- a rule at a position: two tables that agree where it reads give the same, and it is sound -/
theorem pu_Mag {r p : Nat} (hp : p ≤ n) (hC : ig_Cl g N) (hN : ig_Nb g N)
    (ha : ∀ s q', p < q' → q' ≤ n → (∃ j, ig_B g j = true ∧ ig_L g j = s) → T s q' = T' s q' ∧ pu_S N n T' s q') (hb : ∀ s, ig_S g N r s → T s p = T' s p ∧ pu_S N n T' s p) :
    pu_M g t n T r p = pu_M g t n T' r p ∧ (pu_M g t n T' r p).2.1 ≤ n + 1 ∧ ∀ e, (pu_M g t n T' r p).1 = e + 1 → p ≤ e ∧ e ≤ n ∧ (e = p → N r = true) := by
  obtain ⟨i1, i2, i3⟩ := pu_Uag (t := t) hp hN ha hb (ig_A g) 0 (by omega)
  refine ⟨i1, i2, fun e he => ?_⟩
  obtain ⟨m1, m2, m3⟩ := i3 e he
  refine ⟨m1, m2, fun z => ?_⟩
  obtain ⟨b, hb1, hb2, hb3⟩ := m3 z
  rw [← hb2]
  exact hC b hb1 hb3
end
/-! the table itself: it exists -/
theorem pu_fx {α V : Type} (d : V) (μ : α → Nat) (F : (α → V) → α → V) : ∃ f : α → V, ∀ a, f a = F (fun b => if μ b < μ a then f b else d) a := by
  refine ⟨(measure μ).wf.fix (fun a r => F (fun b => if h : μ b < μ a then r b h else d) a), fun a => ?_⟩
  rw [WellFounded.fix_eq]
  apply congrArg (fun z => F z a)
  funext b
  by_cases h : μ b < μ a <;> simp [h]
def pu_G (g : ig_T) (t : Nat → Nat) (n R : Nat) (N : Nat → Bool) (G : Nat → Nat → Nat × Nat) : Prop :=
  ∀ r p, r < R → p ≤ n → G r p = ((pu_M g t n G r p).1, (pu_M g t n G r p).2.1) ∧ pu_S N n G r p
theorem pu_SS {g : ig_T} {N : Nat → Bool} {R r s : Nat} (hV : ig_V g R) (h : ig_S g N r s) : s < R := by
  obtain ⟨a, i, _, _, _, hb, rfl, _⟩ := h
  exact (hV.2 _).2.2.2.2.2 hb
theorem pu_ex {g : ig_T} {R : Nat} {N : Nat → Bool} {rk : Nat → Nat} (t : Nat → Nat) (n : Nat) (hV : ig_V g R) (hK : ig_K g R N rk) : ∃ G, pu_G g t n R N G := by
  obtain ⟨hC, hN, hR, hS⟩ := hK
  obtain ⟨f, hf⟩ := pu_fx ((0, 0) : Nat × Nat) (fun a : Nat × Nat => (n - a.2) * R + rk a.1) (fun F a => ((pu_M g t n (fun s q => F (s, q)) a.1 a.2).1, (pu_M g t n (fun s q => F (s, q)) a.1 a.2).2.1))
  refine ⟨fun r p => f (r, p), ?_⟩
  have key : ∀ m r p, r < R → p ≤ n → (n - p) * R + rk r < m → f (r, p) = ((pu_M g t n (fun r p => f (r, p)) r p).1, (pu_M g t n (fun r p => f (r, p)) r p).2.1) ∧ pu_S N n (fun r p => f (r, p)) r p := by
    intro m
    induction m with
    | zero => intro r p _ _ h; omega
    | succ m ih =>
      intro r p hr hp hm
      have low : ∀ s q, s < R → p < q → q ≤ n → (n - q) * R + rk s < (n - p) * R + rk r := fun s q hs h1 h2 => by
        have e : n - p = (n - q) + 1 + (q - p - 1) := by omega
        rw [e, Nat.add_mul, Nat.add_mul, Nat.one_mul]
        have := hR s hs
        omega
      have M := pu_Mag (g := g) (t := t) (n := n) (T := fun s q => if (n - q) * R + rk s < (n - p) * R + rk r then f (s, q) else (0, 0)) (T' := fun r p => f (r, p)) (N := N) (r := r) hp hC hN
        (fun s q h1 h2 hs => by
          obtain ⟨j, hj, rfl⟩ := hs
          have hs := (hV.2 j).2.2.2.2.2 hj
          have hl := low _ q hs h1 h2
          exact ⟨if_pos hl, (ih _ q hs h2 (by omega)).2⟩)
        (fun s hs => by
          have h1 := hS r s hs
          have h2 := pu_SS hV hs
          have hl : (n - p) * R + rk s < (n - p) * R + rk r := by omega
          exact ⟨if_pos hl, (ih s p h2 hp (by omega)).2⟩)
      obtain ⟨m1, m2, m3⟩ := M
      have e := hf (r, p)
      have e' : f (r, p) = ((pu_M g t n (fun r p => f (r, p)) r p).1, (pu_M g t n (fun r p => f (r, p)) r p).2.1) := by
        rw [← m1]
        exact e
      refine ⟨e', ?_⟩
      unfold pu_S
      show (f (r, p)).2 ≤ n + 1 ∧ ∀ e, (f (r, p)).1 = e + 1 → _
      rw [e']
      exact ⟨m2, m3⟩
  exact fun r p hr hp => key _ r p hr hp (Nat.lt_succ_self _)
end
section
/-! the nullable rules by rounds; counting -/
def ig_nb (g : ig_T) (N : Nat → Bool) (it : Nat) : Bool := (!(ig_M g it == 0) && !(ig_M g it == 3)) || (ig_B g it && N (ig_L g it))
theorem ig_nbI (g : ig_T) (N : Nat → Bool) (it : Nat) : ig_nb g N it = true ↔ ig_n g N it := by
  unfold ig_nb ig_n
  simp
theorem ig_nbF (g : ig_T) (N : Nat → Bool) (it : Nat) : ig_nb g N it = false ↔ ¬ ig_n g N it := by
  rw [← ig_nbI]
  simp
def cp_a (g : ig_T) (N : Nat → Bool) : Nat → Nat → Bool
  | 0, _ => true
  | k + 1, it => ig_nb g N it && cp_a g N k (it + 1)
theorem cp_aI (g : ig_T) (N : Nat → Bool) : ∀ k it, cp_a g N k it = true ↔ ∀ j, j < k → ig_n g N (it + j) := by
  intro k
  induction k with
  | zero => intro it; exact ⟨fun _ j hj => absurd hj (Nat.not_lt_zero j), fun _ => rfl⟩
  | succ k ih =>
    intro it
    show (ig_nb g N it && cp_a g N k (it + 1)) = true ↔ _
    rw [Bool.and_eq_true, ig_nbI, ih]
    constructor
    · intro h j hj
      cases j with
      | zero => exact h.1
      | succ j => rw [show it + (j + 1) = it + 1 + j by omega]; exact h.2 j (by omega)
    · intro h
      refine ⟨h 0 (by omega), fun j hj => ?_⟩
      rw [show it + 1 + j = it + (j + 1) by omega]
      exact h (j + 1) (by omega)
def cp_l (g : ig_T) : Nat → Nat → (Nat → Bool) → (Nat → Bool)
  | 0, _, N => N
  | k + 1, a, N => cp_l g k (a + 1) (if cp_a g N (ig_C g a) (4 * a) = true then ip_u N (ig_O g a) true else N)
def cp_r (g : ig_T) : Nat → (Nat → Bool) → (Nat → Bool)
  | 0, N => N
  | j + 1, N => cp_r g j (cp_l g (ig_A g) 0 N)
theorem cp_stU (g : ig_T) (N : Nat → Bool) (a x : Nat) (h : N x = true) : (if cp_a g N (ig_C g a) (4 * a) = true then ip_u N (ig_O g a) true else N) x = true := by
  by_cases c : cp_a g N (ig_C g a) (4 * a) = true
  · rw [if_pos c]
    by_cases e : x = ig_O g a
    · rw [e]; exact ip_us
    · rw [ip_un e]; exact h
  · rw [if_neg c]; exact h
theorem cp_lU (g : ig_T) : ∀ k a N x, N x = true → cp_l g k a N x = true := by
  intro k
  induction k with
  | zero => intro a N x h; exact h
  | succ k ih => intro a N x h; exact ih (a + 1) _ x (cp_stU g N a x h)
theorem cp_lR {g : ig_T} {R : Nat} (hV : ig_V g R) : ∀ k a N x, cp_l g k a N x = true → N x = true ∨ x < R := by
  intro k
  induction k with
  | zero => intro a N x h; exact Or.inl h
  | succ k ih =>
    intro a N x h
    rcases ih (a + 1) _ x h with h | h
    · by_cases c : cp_a g N (ig_C g a) (4 * a) = true
      · rw [if_pos c] at h
        by_cases e : x = ig_O g a
        · exact Or.inr (by rw [e]; exact (hV.2 a).1)
        · rw [ip_un e] at h; exact Or.inl h
      · rw [if_neg c] at h; exact Or.inl h
    · exact Or.inr h
theorem cp_lF (g : ig_T) : ∀ k a N, cp_l g k a N = N → ∀ b, a ≤ b → b < a + k → cp_a g N (ig_C g b) (4 * b) = true → N (ig_O g b) = true := by
  intro k
  induction k with
  | zero => intro a N _ b h1 h2; omega
  | succ k ih =>
    intro a N h b h1 h2 hb
    have h' : cp_l g k (a + 1) (if cp_a g N (ig_C g a) (4 * a) = true then ip_u N (ig_O g a) true else N) = N := h
    have e : (if cp_a g N (ig_C g a) (4 * a) = true then ip_u N (ig_O g a) true else N) = N := by
      funext x
      cases hx : N x with
      | true => exact cp_stU g N a x hx
      | false =>
        cases hy : (if cp_a g N (ig_C g a) (4 * a) = true then ip_u N (ig_O g a) true else N) x with
        | false => rfl
        | true =>
          have := cp_lU g k (a + 1) _ x hy
          rw [h', hx] at this
          exact this.symm
    rw [e] at h'
    rcases Nat.eq_or_lt_of_le h1 with z | z
    · subst z
      rw [if_pos hb] at e
      rw [← e]
      exact ip_us
    · exact ih (a + 1) N h' b (by omega) (by omega) hb
/-! counting -/
def cp_c (N : Nat → Bool) : Nat → Nat
  | 0 => 0
  | k + 1 => cp_c N k + (if N k = true then 1 else 0)
theorem cp_cle (N : Nat → Bool) : ∀ k, cp_c N k ≤ k := by
  intro k
  induction k with
  | zero => exact Nat.le_refl 0
  | succ k ih =>
    show cp_c N k + (if N k = true then 1 else 0) ≤ k + 1
    split <;> omega
theorem cp_call (N : Nat → Bool) : ∀ k, cp_c N k = k → ∀ x, x < k → N x = true := by
  intro k
  induction k with
  | zero => intro _ x hx; omega
  | succ k ih =>
    intro h x hx
    have h' : cp_c N k + (if N k = true then 1 else 0) = k + 1 := h
    have := cp_cle N k
    by_cases c : N k = true
    · rw [if_pos c] at h'
      rcases Nat.lt_or_ge x k with z | z
      · exact ih (by omega) x z
      · rw [show x = k by omega]; exact c
    · rw [if_neg c] at h'
      omega
theorem cp_cfull (N : Nat → Bool) : ∀ k, (∀ x, x < k → N x = true) → cp_c N k = k := by
  intro k
  induction k with
  | zero => intro _; rfl
  | succ k ih =>
    intro h
    show cp_c N k + (if N k = true then 1 else 0) = k + 1
    rw [if_pos (h k (by omega)), ih (fun x hx => h x (by omega))]
theorem cp_cmono {N N' : Nat → Bool} (h : ∀ x, N x = true → N' x = true) : ∀ k, cp_c N k ≤ cp_c N' k := by
  intro k
  induction k with
  | zero => exact Nat.le_refl 0
  | succ k ih =>
    show cp_c N k + (if N k = true then 1 else 0) ≤ cp_c N' k + (if N' k = true then 1 else 0)
    by_cases c : N k = true
    · rw [if_pos c, if_pos (h k c)]; omega
    · rw [if_neg c]; omega
theorem cp_clt {N N' : Nat → Bool} (h : ∀ x, N x = true → N' x = true) {a : Nat} (h1 : N a = false) (h2 : N' a = true) : ∀ k, a < k → cp_c N k < cp_c N' k := by
  intro k
  induction k with
  | zero => intro h; omega
  | succ k ih =>
    intro hk
    show cp_c N k + (if N k = true then 1 else 0) < cp_c N' k + (if N' k = true then 1 else 0)
    rcases Nat.lt_or_ge a k with z | z
    · have := ih z
      by_cases c : N k = true
      · rw [if_pos c, if_pos (h k c)]; omega
      · rw [if_neg c]; omega
    · have e : a = k := by omega
      subst e
      have := cp_cmono h a
      rw [if_pos h2, if_neg (by rw [h1]; decide)]
      omega
theorem cp_cadd {N : Nat → Bool} {a : Nat} (h1 : N a = false) : ∀ k, cp_c (ip_u N a true) k = cp_c N k + (if a < k then 1 else 0) := by
  intro k
  induction k with
  | zero => rfl
  | succ k ih =>
    show cp_c (ip_u N a true) k + (if ip_u N a true k = true then 1 else 0) = cp_c N k + (if N k = true then 1 else 0) + _
    rw [ih]
    by_cases e : k = a
    · subst e
      rw [ip_us, h1]
      simp
    · rw [ip_un e]
      by_cases c : a < k
      · have c' : a < k + 1 := by omega
        rw [if_pos c, if_pos c']; omega
      · have c' : ¬ a < k + 1 := by omega
        rw [if_neg c, if_neg c']; omega
/-! as many rounds as rules reach the end -/
theorem cp_rS {g : ig_T} {R : Nat} (hV : ig_V g R) (N : Nat → Bool) : cp_l g (ig_A g) 0 N = N ∨ cp_c N R < cp_c (cp_l g (ig_A g) 0 N) R := by
  by_cases e : ∃ x, N x = false ∧ cp_l g (ig_A g) 0 N x = true
  · obtain ⟨x, h1, h2⟩ := e
    refine Or.inr (cp_clt (fun y => cp_lU g _ _ N y) h1 h2 R ?_)
    rcases cp_lR hV _ _ N x h2 with h | h
    · rw [h1] at h; exact absurd h (by decide)
    · exact h
  · refine Or.inl (funext fun x => ?_)
    cases hx : N x with
    | true => exact cp_lU g _ _ N x hx
    | false =>
      cases hy : cp_l g (ig_A g) 0 N x with
      | false => rfl
      | true => exact absurd ⟨x, hx, hy⟩ e
theorem cp_rfix {g : ig_T} {N : Nat → Bool} (h : cp_l g (ig_A g) 0 N = N) : ∀ j, cp_r g j N = N := by
  intro j
  induction j with
  | zero => rfl
  | succ j ih => show cp_r g j (cp_l g (ig_A g) 0 N) = N; rw [h, ih]
theorem cp_rE {g : ig_T} {R : Nat} (hV : ig_V g R) : ∀ j N, R ≤ cp_c N R + j → cp_l g (ig_A g) 0 (cp_r g j N) = cp_r g j N := by
  intro j
  induction j with
  | zero =>
    intro N h
    show cp_l g (ig_A g) 0 N = N
    rcases cp_rS hV N with z | z
    · exact z
    · have := cp_cle (cp_l g (ig_A g) 0 N) R
      omega
  | succ j ih =>
    intro N h
    rcases cp_rS hV N with z | z
    · rw [cp_rfix z (j + 1), z]
    · exact ih _ (by omega)
theorem cp_radd (g : ig_T) : ∀ a b N, cp_r g (a + b) N = cp_r g b (cp_r g a N) := by
  intro a
  induction a with
  | zero => intro b N; rw [Nat.zero_add]; rfl
  | succ a ih => intro b N; rw [show a + 1 + b = (a + b) + 1 by omega]; exact ih b _
theorem cp_rmore {g : ig_T} {R : Nat} (hV : ig_V g R) (N : Nat → Bool) {m : Nat} (h : R ≤ m) : cp_r g m N = cp_r g R N := by
  obtain ⟨d, rfl⟩ : ∃ d, m = R + d := ⟨m - R, by omega⟩
  rw [cp_radd]
  exact cp_rfix (cp_rE hV R N (by omega)) d
theorem cp_rCl {g : ig_T} {R : Nat} (hV : ig_V g R) (N : Nat → Bool) : ig_Cl g (cp_r g R N) := by
  intro a ha h
  exact cp_lF g _ 0 _ (cp_rE hV R N (by omega)) a (Nat.zero_le a) (by omega) ((cp_aI g _ _ _).mpr h)
theorem cp_r8 {g : ig_T} {R : Nat} (hV : ig_V g R) : ∀ j N, (∀ x, R ≤ x → N x = false) → ∀ x, R ≤ x → cp_r g j N x = false := by
  intro j
  induction j with
  | zero => intro N h; exact h
  | succ j ih =>
    intro N h
    refine ih _ (fun x hx => ?_)
    cases hy : cp_l g (ig_A g) 0 N x with
    | false => rfl
    | true =>
      rcases cp_lR hV _ _ N x hy with z | z
      · rw [h x hx] at z; exact z.symm
      · omega
/-! the order of the rules -/
def cp_s (g : ig_T) (N O : Nat → Bool) : Nat → Nat → Prop
  | 0, _ => True
  | k + 1, it => ¬ (ig_B g it = true ∧ O (ig_L g it) = false) ∧ (ig_n g N it → cp_s g N O k (it + 1))
theorem cp_sI (g : ig_T) (N O : Nat → Bool) : ∀ k it, cp_s g N O k it ↔ ∀ j, j < k → ig_B g (it + j) = true → (∀ i, i < j → ig_n g N (it + i)) → O (ig_L g (it + j)) = true := by
  intro k
  induction k with
  | zero => intro it; exact ⟨fun _ j hj => absurd hj (Nat.not_lt_zero j), fun _ => trivial⟩
  | succ k ih =>
    intro it
    show (¬ (ig_B g it = true ∧ O (ig_L g it) = false) ∧ (ig_n g N it → cp_s g N O k (it + 1))) ↔ _
    rw [ih]
    constructor
    · intro h j hj hb hi
      cases j with
      | zero =>
        cases ho : O (ig_L g it) with
        | true => rfl
        | false => exact absurd ⟨hb, ho⟩ h.1
      | succ j =>
        rw [show it + (j + 1) = it + 1 + j by omega] at hb ⊢
        refine h.2 (hi 0 (by omega)) j (by omega) hb (fun i hi' => ?_)
        rw [show it + 1 + i = it + (i + 1) by omega]
        exact hi (i + 1) (by omega)
    · intro h
      refine ⟨fun z => ?_, fun h0 j hj hb hi => ?_⟩
      · have := h 0 (by omega) z.1 (fun i hi => absurd hi (Nat.not_lt_zero i))
        rw [Nat.add_zero, z.2] at this
        exact absurd this (by decide)
      · rw [show it + 1 + j = it + (j + 1) by omega] at hb ⊢
        refine h (j + 1) (by omega) hb (fun i hi' => ?_)
        cases i with
        | zero => exact h0
        | succ i =>
          rw [show it + (i + 1) = it + 1 + i by omega]
          exact hi i (by omega)
theorem cp_sS (g : ig_T) (N O : Nat → Bool) (r : Nat) : (∀ a, a < ig_A g → ig_O g a = r → cp_s g N O (ig_C g a) (4 * a)) ↔ ∀ s, ig_S g N r s → O s = true := by
  constructor
  · intro h s hs
    obtain ⟨a, i, h1, h2, h3, h4, rfl, h6⟩ := hs
    exact (cp_sI g N O _ _).mp (h a h1 h2) i h3 h4 h6
  · intro h a h1 h2
    refine (cp_sI g N O _ _).mpr (fun j hj hb hi => ?_)
    exact h _ ⟨a, j, h1, h2, hj, hb, rfl, hi⟩
/-- one rule is placed, if its start calls are -/
noncomputable def od_s (g : ig_T) (N : Nat → Bool) (r : Nat) (S : (Nat → Bool) × Nat × (Nat → Nat)) : (Nat → Bool) × Nat × (Nat → Nat) :=
  @ite _ (S.1 r = false ∧ ∀ s, ig_S g N r s → S.1 s = true) (Classical.propDecidable _) (ip_u S.1 r true, S.2.1 + 1, ip_u S.2.2 S.2.1 r) S
noncomputable def od_l (g : ig_T) (N : Nat → Bool) : Nat → Nat → (Nat → Bool) × Nat × (Nat → Nat) → (Nat → Bool) × Nat × (Nat → Nat)
  | 0, _, S => S
  | k + 1, r, S => od_l g N k (r + 1) (od_s g N r S)
noncomputable def od_r (g : ig_T) (N : Nat → Bool) (R : Nat) : Nat → (Nat → Bool) × Nat × (Nat → Nat) → (Nat → Bool) × Nat × (Nat → Nat)
  | 0, S => S
  | j + 1, S => od_r g N R j (od_l g N R 0 S)
theorem od_sT {g : ig_T} {N : Nat → Bool} {r : Nat} {S : (Nat → Bool) × Nat × (Nat → Nat)} (h1 : S.1 r = false) (h2 : ∀ s, ig_S g N r s → S.1 s = true) : od_s g N r S = (ip_u S.1 r true, S.2.1 + 1, ip_u S.2.2 S.2.1 r) := if_pos ⟨h1, h2⟩
theorem od_sF {g : ig_T} {N : Nat → Bool} {r : Nat} {S : (Nat → Bool) × Nat × (Nat → Nat)} (h : ¬ (S.1 r = false ∧ ∀ s, ig_S g N r s → S.1 s = true)) : od_s g N r S = S := if_neg h
def od_I (g : ig_T) (N : Nat → Bool) (R : Nat) (S : (Nat → Bool) × Nat × (Nat → Nat)) : Prop :=
  S.2.1 = cp_c S.1 R ∧ (∀ r, R ≤ r → S.1 r = false) ∧ ∃ rk : Nat → Nat, (∀ r, S.1 r = true → rk r < S.2.1 ∧ S.2.2 (rk r) = r ∧ ∀ s, ig_S g N r s → S.1 s = true ∧ rk s < rk r) ∧ ∀ k, k < S.2.1 → S.1 (S.2.2 k) = true ∧ rk (S.2.2 k) = k
theorem od_sI {g : ig_T} {N : Nat → Bool} {R r : Nat} {S : (Nat → Bool) × Nat × (Nat → Nat)} (hr : r < R) (h : od_I g N R S) : od_I g N R (od_s g N r S) := by
  by_cases c : S.1 r = false ∧ ∀ s, ig_S g N r s → S.1 s = true
  · rw [od_sT c.1 c.2]
    obtain ⟨h1, h0, rk, h2, h3⟩ := h
    have ne : ∀ x, S.1 x = true → x ≠ r := fun x hx e => by rw [e, c.1] at hx; exact absurd hx (by decide)
    refine ⟨?_, ?_, ip_u rk r S.2.1, ?_, ?_⟩
    · show S.2.1 + 1 = cp_c (ip_u S.1 r true) R
      rw [cp_cadd c.1, if_pos hr, h1]
    · intro x hx
      show ip_u S.1 r true x = false
      rw [ip_un (by omega)]
      exact h0 x hx
    · intro x hx
      have hx' : ip_u S.1 r true x = true := hx
      show ip_u rk r S.2.1 x < S.2.1 + 1 ∧ ip_u S.2.2 S.2.1 r (ip_u rk r S.2.1 x) = x ∧ ∀ s, ig_S g N x s → ip_u S.1 r true s = true ∧ ip_u rk r S.2.1 s < ip_u rk r S.2.1 x
      by_cases e : x = r
      · subst e
        rw [ip_us]
        refine ⟨by omega, ip_us, fun s hs => ?_⟩
        have hs' := c.2 s hs
        rw [ip_un (ne s hs'), ip_un (ne s hs')]
        exact ⟨hs', (h2 s hs').1⟩
      · rw [ip_un e] at hx' ⊢
        obtain ⟨k1, k2, k3⟩ := h2 x hx'
        refine ⟨by omega, by rw [ip_un (by omega)]; exact k2, fun s hs => ?_⟩
        obtain ⟨k4, k5⟩ := k3 s hs
        rw [ip_un (ne s k4), ip_un (ne s k4)]
        exact ⟨k4, k5⟩
    · intro k hk
      have hk' : k < S.2.1 + 1 := hk
      show ip_u S.1 r true (ip_u S.2.2 S.2.1 r k) = true ∧ ip_u rk r S.2.1 (ip_u S.2.2 S.2.1 r k) = k
      by_cases e : k = S.2.1
      · subst e
        rw [ip_us, ip_us, ip_us]
        exact ⟨rfl, rfl⟩
      · rw [ip_un e]
        obtain ⟨k1, k2⟩ := h3 k (by omega)
        rw [ip_un (ne _ k1), ip_un (ne _ k1)]
        exact ⟨k1, k2⟩
  · rw [od_sF c]; exact h
theorem od_lI {g : ig_T} {N : Nat → Bool} {R : Nat} : ∀ k r S, r + k ≤ R → od_I g N R S → od_I g N R (od_l g N k r S) := by
  intro k
  induction k with
  | zero => intro r S _ h; exact h
  | succ k ih => intro r S hr h; exact ih (r + 1) _ (by omega) (od_sI (by omega) h)
theorem od_rI {g : ig_T} {N : Nat → Bool} {R : Nat} : ∀ j S, od_I g N R S → od_I g N R (od_r g N R j S) := by
  intro j
  induction j with
  | zero => intro S h; exact h
  | succ j ih => intro S h; exact ih _ (od_lI R 0 S (by omega) h)
theorem od_0 (g : ig_T) (N : Nat → Bool) (R : Nat) (ro : Nat → Nat) : od_I g N R (fun _ => false, 0, ro) := by
  have h0 : ∀ k, cp_c (fun _ => false) k = 0 := by
    intro k
    induction k with
    | zero => rfl
    | succ k ih =>
      show cp_c (fun _ => false) k + (if false = true then 1 else 0) = 0
      rw [ih]
      rfl
  exact ⟨(h0 R).symm, fun _ _ => rfl, fun _ => 0, fun r h => absurd (show false = true from h) (by decide), fun k hk => absurd (show k < 0 from hk) (Nat.not_lt_zero k)⟩
/-- all rules are placed: the grammar is accepted -/
theorem od_K {g : ig_T} {N : Nat → Bool} {R : Nat} {S : (Nat → Bool) × Nat × (Nat → Nat)} (hV : ig_V g R) (h : od_I g N R S) (ha : S.2.1 = R) (hC : ig_Cl g N) (hN : ig_Nb g N) :
    ∃ rk, ig_K g R N rk ∧ (∀ r, r < R → S.2.2 (rk r) = r) ∧ ∀ k, k < R → S.2.2 k < R ∧ rk (S.2.2 k) = k := by
  obtain ⟨h1, h0, rk, h2, h3⟩ := h
  have all : ∀ r, r < R → S.1 r = true := cp_call S.1 R (by omega)
  refine ⟨rk, ⟨hC, hN, fun r hr => ?_, fun r s hs => ?_⟩, fun r hr => (h2 r (all r hr)).2.1, fun k hk => ?_⟩
  · rw [← ha]; exact (h2 r (all r hr)).1
  · have hr : r < R := by
      obtain ⟨a, i, _, rfl, _⟩ := hs
      exact (hV.2 a).1
    exact ((h2 r (all r hr)).2.2 s hs).2
  · obtain ⟨k1, k2⟩ := h3 k (by omega)
    refine ⟨?_, k2⟩
    rcases Nat.lt_or_ge (S.2.2 k) R with z | z
    · exact z
    · rw [h0 _ z] at k1; exact absurd k1 (by decide)
end
section
/-! the children of a node, and the tree in preorder -/
abbrev tk_g (g : ig_T) (it : Nat) : Prop := ig_B g it = true ∧ ig_M g it ≤ 3
def tk_R (g : ig_T) (T : Nat → Nat → Nat × Nat) (it : Nat) : Nat → Nat → List (Nat × Nat × Nat)
  | 0, _ => []
  | f + 1, q => if (T (ig_L g it) q).1 = 0 then [] else (ig_L g it, q, (T (ig_L g it) q).1 - 1) :: tk_R g T it f ((T (ig_L g it) q).1 - 1)
def tk_x (g : ig_T) (t : Nat → Nat) (n : Nat) (T : Nat → Nat → Nat × Nat) (it q : Nat) : Nat :=
  if ig_B g it = true ∧ ig_M g it ≤ 3 then (pu_R g t n T it (pu_f g n it) q).2.1 else (pu_I g t n T it q).1 - 1
def tk_I (g : ig_T) (n : Nat) (T : Nat → Nat → Nat × Nat) (it q : Nat) : List (Nat × Nat × Nat) :=
  if ig_B g it = true ∧ ig_M g it ≤ 3 then tk_R g T it (pu_f g n it) q else []
def tk_A (g : ig_T) (t : Nat → Nat) (n : Nat) (T : Nat → Nat → Nat × Nat) : Nat → Nat → Nat → List (Nat × Nat × Nat)
  | 0, _, _ => []
  | k + 1, it, q => tk_I g n T it q ++ tk_A g t n T k (it + 1) (tk_x g t n T it q)
/-- every item from one on goes through -/
def tk_ok (g : ig_T) (t : Nat → Nat) (n : Nat) (T : Nat → Nat → Nat × Nat) : Nat → Nat → Nat → Prop
  | 0, _, _ => True
  | k + 1, it, q => (tk_g g it ∨ (pu_I g t n T it q).1 ≠ 0) ∧ tk_ok g t n T k (it + 1) (tk_x g t n T it q)
section
variable {g : ig_T} {t : Nat → Nat} {n : Nat} {T : Nat → Nat → Nat × Nat}
theorem tk_R0 {it f q : Nat} (h : (T (ig_L g it) q).1 = 0) : tk_R g T it f q = [] := by
  cases f with
  | zero => rfl
  | succ f => exact if_pos h
theorem tk_Rs {it f q e : Nat} (h : (T (ig_L g it) q).1 = e + 1) : tk_R g T it (f + 1) q = (ig_L g it, q, e) :: tk_R g T it f e := by
  have h0 : ¬ (T (ig_L g it) q).1 = 0 := by omega
  have he : (T (ig_L g it) q).1 - 1 = e := by omega
  show (if (T (ig_L g it) q).1 = 0 then _ else _) = _
  rw [if_neg h0, he]
theorem tk_Rf {it : Nat} (hb : ig_B g it = true) : ∀ f f' q, q ≤ n → pu_P g t n T it q → n - q < f → n - q < f' → tk_R g T it f q = tk_R g T it f' q := by
  intro f
  induction f with
  | zero => intro f' q _ _ h; omega
  | succ f ih =>
    intro f' q hq hP h1 h2
    obtain ⟨f', rfl⟩ : ∃ c, f' = c + 1 := ⟨f' - 1, by omega⟩
    cases hz : (T (ig_L g it) q).1 with
    | zero => rw [tk_R0 hz, tk_R0 hz]
    | succ e =>
      obtain ⟨k1, k2⟩ := hP q (Nat.le_refl q) hq e (by rw [pu_Tr hb]; exact hz)
      rw [tk_Rs hz, tk_Rs hz, ih f' e k2 (pu_Pup hP (by omega)) (by omega) (by omega)]
theorem tk_Rl {it : Nat} (hb : ig_B g it = true) : ∀ f q, (tk_R g T it f q).length = (pu_R g t n T it f q).1 := by
  intro f
  induction f with
  | zero => intro q; rfl
  | succ f ih =>
    intro q
    cases hz : (T (ig_L g it) q).1 with
    | zero => rw [tk_R0 hz, pu_R0 (by rw [pu_Tr hb]; exact hz)]; rfl
    | succ e =>
      rw [tk_Rs hz, pu_Rs (e := e) (by rw [pu_Tr hb]; exact hz), List.length_cons, ih e]
theorem tk_fr {it : Nat} (h : ig_rep g it) : pu_f g n it = n + 1 := if_pos h
theorem tk_fn {it : Nat} (h : ¬ ig_rep g it) : pu_f g n it = 1 := if_neg h
/-! the steps of a walk over the children -/
theorem tk_s2 {k it q : Nat} (h : ¬ tk_g g it) : tk_A g t n T (k + 1) it q = tk_A g t n T k (it + 1) ((pu_I g t n T it q).1 - 1) := by
  show tk_I g n T it q ++ tk_A g t n T k (it + 1) (tk_x g t n T it q) = _
  rw [tk_I, tk_x, if_neg h, if_neg h]
  rfl
theorem tk_x0 {it q : Nat} (h : tk_g g it) (hz : (T (ig_L g it) q).1 = 0) : tk_x g t n T it q = q := by
  have e : pu_R g t n T it (pu_f g n it) q = (0, q, (pu_T g t n T it q).2) := by
    obtain ⟨f, hf⟩ : ∃ f, pu_f g n it = f + 1 := by
      by_cases r : ig_rep g it
      · exact ⟨n, tk_fr r⟩
      · exact ⟨0, tk_fn r⟩
    rw [hf]
    exact pu_R0 (by rw [pu_Tr h.1]; exact hz)
  rw [tk_x, if_pos h, e]
theorem tk_s3 {k it q : Nat} (h : tk_g g it) (hz : (T (ig_L g it) q).1 = 0) : tk_A g t n T (k + 1) it q = tk_A g t n T k (it + 1) q := by
  show tk_I g n T it q ++ tk_A g t n T k (it + 1) (tk_x g t n T it q) = _
  rw [tk_x0 h hz, tk_I, if_pos h, tk_R0 hz]
  rfl
theorem tk_x1 {it q e : Nat} (h : tk_g g it) (hr : ¬ ig_rep g it) (hz : (T (ig_L g it) q).1 = e + 1) : tk_x g t n T it q = e := by
  rw [tk_x, if_pos h, tk_fn hr, pu_Rs (e := e) (by rw [pu_Tr h.1]; exact hz)]
  rfl
theorem tk_s4 {k it q e : Nat} (h : tk_g g it) (hr : ¬ ig_rep g it) (hz : (T (ig_L g it) q).1 = e + 1) : tk_A g t n T (k + 1) it q = (ig_L g it, q, e) :: tk_A g t n T k (it + 1) e := by
  show tk_I g n T it q ++ tk_A g t n T k (it + 1) (tk_x g t n T it q) = _
  rw [tk_x1 h hr hz, tk_I, if_pos h, tk_fn hr, tk_Rs hz]
  rfl
theorem tk_x2 {it q e : Nat} (h : tk_g g it) (hr : ig_rep g it) (hq : q ≤ n) (hP : pu_P g t n T it q) (hz : (T (ig_L g it) q).1 = e + 1) : tk_x g t n T it q = tk_x g t n T it e := by
  have hz' : (pu_T g t n T it q).1 = e + 1 := by rw [pu_Tr h.1]; exact hz
  obtain ⟨k1, k2⟩ := hP q (Nat.le_refl q) hq e hz'
  rw [tk_x, tk_x, if_pos h, if_pos h, tk_fr hr, pu_Rs hz', pu_Rf n (n + 1) e k2 (pu_Pup hP (by omega)) (by omega) (by omega)]
theorem tk_s5 {k it q e : Nat} (h : tk_g g it) (hr : ig_rep g it) (hq : q ≤ n) (hP : pu_P g t n T it q) (hz : (T (ig_L g it) q).1 = e + 1) : tk_A g t n T (k + 1) it q = (ig_L g it, q, e) :: tk_A g t n T (k + 1) it e := by
  have hz' : (pu_T g t n T it q).1 = e + 1 := by rw [pu_Tr h.1]; exact hz
  obtain ⟨k1, k2⟩ := hP q (Nat.le_refl q) hq e hz'
  show tk_I g n T it q ++ tk_A g t n T k (it + 1) (tk_x g t n T it q) = (ig_L g it, q, e) :: (tk_I g n T it e ++ tk_A g t n T k (it + 1) (tk_x g t n T it e))
  rw [tk_x2 h hr hq hP hz, tk_I, tk_I, if_pos h, if_pos h, tk_fr hr, tk_Rs hz, tk_Rf h.1 n (n + 1) e k2 (pu_Pup hP (by omega)) (by omega) (by omega)]
  rfl
/-- an item that goes through ends where the walk goes on -/
theorem tk_xI {it q e : Nat} (hz : (pu_I g t n T it q).1 = e + 1) : tk_x g t n T it q = e := by
  by_cases h : ig_B g it = true ∧ ig_M g it ≤ 3
  · rw [tk_x, if_pos h]
    have hz' : pu_e (ig_M g it) q (pu_R g t n T it (pu_f g n it) q) = e + 1 := hz
    unfold pu_e at hz'
    have h4 : ¬ ig_M g it = 4 := by omega
    have h5 : ¬ ig_M g it = 5 := by omega
    rw [if_neg h4, if_neg h5] at hz'
    by_cases c : ig_M g it = 1 ∨ ig_M g it = 2
    · rw [if_pos c] at hz'; omega
    · rw [if_neg c] at hz'
      by_cases d : 0 < (pu_R g t n T it (pu_f g n it) q).1
      · rw [if_pos d] at hz'; omega
      · rw [if_neg d] at hz'; omega
  · rw [tk_x, if_neg h]; omega
theorem tk_okA : ∀ k it q, (pu_A g t n T k it q).1 ≠ 0 → tk_ok g t n T k it q := by
  intro k
  induction k with
  | zero => intro it q _; trivial
  | succ k ih =>
    intro it q h
    cases hz : (pu_I g t n T it q).1 with
    | zero => rw [pu_A0 hz] at h; exact absurd rfl h
    | succ e =>
      rw [pu_As hz] at h
      refine ⟨Or.inr (by omega), ?_⟩
      rw [tk_xI hz]
      exact ih (it + 1) e h
end
/-! entries of the stack: rule, start, end, parent's number plus one -/
abbrev tr_T : Type := Nat × Nat × Nat × Nat
def tr_k (m : Nat) (c : Nat × Nat × Nat) : tr_T := (c.1, c.2.1, c.2.2, m)
def tr_L (K : Nat → Nat → List (Nat × Nat × Nat)) : Nat → List tr_T → Nat → List tr_T
  | 0, _, _ => []
  | _ + 1, [], _ => []
  | f + 1, x :: S, m => x :: tr_L K f ((K x.1 x.2.1).map (tr_k (m + 1)) ++ S) (m + 1)
theorem tr_L0 (K : Nat → Nat → List (Nat × Nat × Nat)) (f m : Nat) : tr_L K f [] m = [] := by cases f <;> rfl
theorem tr_Lle (K : Nat → Nat → List (Nat × Nat × Nat)) : ∀ f S m, (tr_L K f S m).length ≤ f := by
  intro f
  induction f with
  | zero => intro S m; exact Nat.le_refl 0
  | succ f ih =>
    intro S m
    cases S with
    | nil => exact Nat.zero_le _
    | cons x S =>
      show (x :: tr_L K f _ (m + 1)).length ≤ f + 1
      rw [List.length_cons]
      have := ih ((K x.1 x.2.1).map (tr_k (m + 1)) ++ S) (m + 1)
      omega
end
section
/-! bounds on a table that is sound everywhere -/
def pu_SA (R n : Nat) (N : Nat → Bool) (T : Nat → Nat → Nat × Nat) : Prop := ∀ s q, s < R → q ≤ n → pu_S N n T s q
section
variable {g : ig_T} {t : Nat → Nat} {n R : Nat} {T : Nat → Nat → Nat × Nat} {N : Nat → Bool}
/-- an item that a compiled grammar may hold -/
def ig_it (g : ig_T) (N : Nat → Bool) (it : Nat) : Prop := ig_rep g it → ig_B g it = true → N (ig_L g it) = false
theorem pu_Iall {it q : Nat} (hV : ig_V g R) (hS : pu_SA R n N T) (hn : ig_it g N it) (hq : q ≤ n) :
    (pu_I g t n T it q).2 ≤ n + 1 ∧ ∀ e, (pu_I g t n T it q).1 = e + 1 → q ≤ e ∧ e ≤ n := by
  obtain ⟨_, i2, i3⟩ := pu_Iag (t := t) (T := T) (T' := T) (N := N) hq hn (fun b => ⟨rfl, hS _ q ((hV.2 it).2.2.2.2.2 b) hq⟩) (fun q' _ h2 b => ⟨rfl, hS _ q' ((hV.2 it).2.2.2.2.2 b) h2⟩)
  exact ⟨i2, fun e he => ⟨(i3 e he).1, (i3 e he).2.1⟩⟩
theorem pu_Pall {it : Nat} (q : Nat) (hV : ig_V g R) (hS : pu_SA R n N T) (hn : ig_it g N it) (hr : ig_rep g it) : pu_P g t n T it q :=
  pu_Pof (N := N) (hn hr) (fun q' _ h2 b => hS _ q' ((hV.2 it).2.2.2.2.2 b) h2)
theorem pu_Tall {it q : Nat} (hV : ig_V g R) (hS : pu_SA R n N T) (hq : q ≤ n) : (pu_T g t n T it q).2 ≤ n + 1 ∧ ∀ e, (pu_T g t n T it q).1 = e + 1 → q ≤ e ∧ e ≤ n := by
  obtain ⟨i2, i3⟩ := pu_Ts (t := t) (T := T) (N := N) (it := it) hq (fun b => hS _ q ((hV.2 it).2.2.2.2.2 b) hq)
  exact ⟨i2, fun e he => ⟨(i3 e he).1, (i3 e he).2.1⟩⟩
theorem pu_Rall {it q : Nat} (hV : ig_V g R) (hS : pu_SA R n N T) (hn : ig_it g N it) (hq : q ≤ n) :
    (pu_R g t n T it (pu_f g n it) q).2.2 ≤ n + 1 ∧ q ≤ (pu_R g t n T it (pu_f g n it) q).2.1 ∧ (pu_R g t n T it (pu_f g n it) q).2.1 ≤ n ∧ (pu_R g t n T it (pu_f g n it) q).1 + q ≤ (pu_R g t n T it (pu_f g n it) q).2.1 + 1 := by
  have hb : ∀ b : ig_B g it = true, ∀ q', q' ≤ n → pu_S N n T (ig_L g it) q' := fun b q' h => hS _ q' ((hV.2 it).2.2.2.2.2 b) h
  by_cases r : ig_rep g it
  · obtain ⟨_, i2, i3, i4, _, _⟩ := pu_Rag (g := g) (t := t) (T := T) (T' := T) (N := N) (pu_f g n it) q hq (fun b => ⟨rfl, hb b q hq⟩) (Or.inr ⟨hn r, fun q' _ h2 b => ⟨rfl, hb b q' h2⟩⟩)
    have := (pu_Rc (pu_f g n it) q hq (pu_Pall (t := t) q hV hS hn r)).1
    exact ⟨i2, i3, i4, by omega⟩
  · obtain ⟨_, i2, i3, i4, _, _⟩ := pu_Rag (g := g) (t := t) (T := T) (T' := T) (N := N) (pu_f g n it) q hq (fun b => ⟨rfl, hb b q hq⟩) (Or.inl (by rw [tk_fn r]; exact Nat.le_refl 1))
    refine ⟨i2, i3, i4, ?_⟩
    have h1 : (pu_R g t n T it (pu_f g n it) q).1 ≤ 1 := by
      rw [tk_fn r]
      cases hz : (pu_T g t n T it q).1 with
      | zero => rw [pu_R0 hz]; exact Nat.zero_le 1
      | succ e => rw [pu_Rs hz]; exact Nat.le_refl 1
    omega
theorem tk_xb {it q : Nat} (hV : ig_V g R) (hS : pu_SA R n N T) (hn : ig_it g N it) (hq : q ≤ n) (h : tk_g g it ∨ (pu_I g t n T it q).1 ≠ 0) :
    q ≤ tk_x g t n T it q ∧ tk_x g t n T it q ≤ n := by
  by_cases c : tk_g g it
  · rw [tk_x, if_pos c]
    obtain ⟨_, i3, i4, _⟩ := pu_Rall (t := t) hV hS hn hq
    exact ⟨i3, i4⟩
  · rcases h with h | h
    · exact absurd h c
    · obtain ⟨e, he⟩ : ∃ e, (pu_I g t n T it q).1 = e + 1 := ⟨(pu_I g t n T it q).1 - 1, by omega⟩
      rw [tk_xI he]
      exact (pu_Iall hV hS hn hq).2 e he
theorem tk_Il {it q : Nat} (hV : ig_V g R) (hS : pu_SA R n N T) (hn : ig_it g N it) (hq : q ≤ n) (h : tk_g g it ∨ (pu_I g t n T it q).1 ≠ 0) :
    (tk_I g n T it q).length + q ≤ tk_x g t n T it q + 1 := by
  by_cases c : tk_g g it
  · rw [tk_x, tk_I, if_pos c, if_pos c, tk_Rl (t := t) (n := n) c.1]
    exact (pu_Rall (t := t) hV hS hn hq).2.2.2
  · have := (tk_xb hV hS hn hq h).1
    rw [tk_I, if_neg c]
    show 0 + q ≤ _
    omega
theorem tk_Al (hV : ig_V g R) (hS : pu_SA R n N T) : ∀ k it q, (∀ j, j < k → ig_it g N (it + j)) → q ≤ n → tk_ok g t n T k it q → (tk_A g t n T k it q).length + q ≤ k + n := by
  intro k
  induction k with
  | zero => intro it q _ hq _; show 0 + q ≤ 0 + n; omega
  | succ k ih =>
    intro it q hn hq h
    obtain ⟨h1, h2⟩ := h
    obtain ⟨b1, b2⟩ := tk_xb (it := it) hV hS (hn 0 (by omega)) hq h1
    have l1 := tk_Il (it := it) hV hS (hn 0 (by omega)) hq h1
    have l2 := ih (it + 1) (tk_x g t n T it q) (fun j hj => by rw [show it + 1 + j = it + (j + 1) by omega]; exact hn (j + 1) (by omega)) b2 h2
    show (tk_I g n T it q ++ tk_A g t n T k (it + 1) (tk_x g t n T it q)).length + q ≤ k + 1 + n
    rw [List.length_append]
    omega
/-- the alternative that wins -/
theorem pu_Uw {r p : Nat} : ∀ k a, (pu_U g t n T r p k a).1 ≠ 0 → a ≤ (pu_U g t n T r p k a).2.2 ∧ (pu_U g t n T r p k a).2.2 < a + k ∧ ig_O g (pu_U g t n T r p k a).2.2 = r ∧
    (pu_A g t n T (ig_C g (pu_U g t n T r p k a).2.2) (4 * (pu_U g t n T r p k a).2.2) p).1 = (pu_U g t n T r p k a).1 ∧
    ∀ b, a ≤ b → b < (pu_U g t n T r p k a).2.2 → ig_O g b = r → (pu_A g t n T (ig_C g b) (4 * b) p).1 = 0 := by
  intro k
  induction k with
  | zero => intro a h; exact absurd rfl h
  | succ k ih =>
    intro a h
    by_cases ho : ig_O g a = r
    · by_cases hz : (pu_A g t n T (ig_C g a) (4 * a) p).1 = 0
      · rw [pu_U0 ho hz] at h ⊢
        obtain ⟨i1, i2, i3, i4, i5⟩ := ih (a + 1) h
        refine ⟨by show a ≤ (pu_U g t n T r p k (a + 1)).2.2; omega, by show (pu_U g t n T r p k (a + 1)).2.2 < a + (k + 1); omega, i3, i4, fun b h1 h2 h3 => ?_⟩
        rcases Nat.eq_or_lt_of_le h1 with z | z
        · subst z; exact hz
        · exact i5 b (by omega) h2 h3
      · rw [pu_Us ho hz]
        exact ⟨Nat.le_refl a, by show a < a + (k + 1); omega, ho, rfl, fun b h1 h2 => absurd (show b < a from h2) (by omega)⟩
    · rw [pu_Un ho] at h ⊢
      obtain ⟨i1, i2, i3, i4, i5⟩ := ih (a + 1) h
      refine ⟨by omega, by omega, i3, i4, fun b h1 h2 h3 => ?_⟩
      rcases Nat.eq_or_lt_of_le h1 with z | z
      · subst z; exact absurd h3 ho
      · exact i5 b (by omega) h2 h3
theorem pu_GS (h : pu_G g t n R N T) : pu_SA R n N T := fun s q h1 h2 => (h s q h1 h2).2
/-- the alternative that wins at a place of the table -/
theorem pu_W (h : pu_G g t n R N T) {r p : Nat} (hr : r < R) (hp : p ≤ n) (hz : (T r p).1 ≠ 0) : (pu_M g t n T r p).2.2 < ig_A g ∧ ig_O g (pu_M g t n T r p).2.2 = r ∧
    (pu_A g t n T (ig_C g (pu_M g t n T r p).2.2) (4 * (pu_M g t n T r p).2.2) p).1 = (T r p).1 ∧ ∀ b, b < (pu_M g t n T r p).2.2 → ig_O g b = r → (pu_A g t n T (ig_C g b) (4 * b) p).1 = 0 := by
  have e : (T r p).1 = (pu_M g t n T r p).1 := congrArg Prod.fst (h r p hr hp).1
  rw [e] at hz ⊢
  obtain ⟨_, i2, i3, i4, i5⟩ := pu_Uw (ig_A g) 0 hz
  exact ⟨by rw [Nat.zero_add] at i2; exact i2, i3, i4, fun b hb ho => i5 b (Nat.zero_le b) hb ho⟩
end
/-- the children of a node -/
def tk_K (g : ig_T) (t : Nat → Nat) (n : Nat) (T : Nat → Nat → Nat × Nat) (r p : Nat) : List (Nat × Nat × Nat) :=
  tk_A g t n T (ig_C g (pu_M g t n T r p).2.2) (4 * (pu_M g t n T r p).2.2) p
end
section
/-! the walk with parent links: a chain of nodes (number, alternative, item, position) and what is still to come from it -/
abbrev xw_T : Type := Nat × Nat × Nat × Nat
abbrev ar_T : Type := Nat → Int32
/-- nodes that stand in arrays -/
def tr_A (L : List tr_T) (tR tS tE tP : ar_T) : Prop := ∀ i x, L[i]? = some x → i < 64 → tR i = nI x.1 ∧ tS i = nI x.2.1 ∧ tE i = nI x.2.2.1 ∧ tP i = ip_m x.2.2.2
def xw_N (g : ig_T) (t : Nat → Nat) (n R p0 : Nat) (T : Nat → Nat → Nat × Nat) (tR tS wI wP : ar_T) (x : xw_T) : Prop :=
  x.1 < 64 ∧ ∃ r s, tR x.1 = nI r ∧ tS x.1 = nI s ∧ r < R ∧ p0 ≤ s ∧ s ≤ x.2.2.2 ∧ x.2.2.2 ≤ n ∧ (T r s).1 ≠ 0 ∧ x.2.1 = (pu_M g t n T r s).2.2 ∧ x.2.2.1 ≤ ig_C g x.2.1 ∧
    wI x.1 = nI x.2.2.1 ∧ wP x.1 = nI x.2.2.2 ∧ tk_ok g t n T (ig_C g x.2.1 - x.2.2.1) (4 * x.2.1 + x.2.2.1) x.2.2.2
def xw_C (g : ig_T) (t : Nat → Nat) (n R p0 : Nat) (T : Nat → Nat → Nat × Nat) (tR tS tP wI wP : ar_T) : Int32 → List xw_T → Prop
  | v, [] => v = -1
  | v, x :: c => v = nI x.1 ∧ xw_N g t n R p0 T tR tS wI wP x ∧ (∀ y, y ∈ c → y.1 < x.1) ∧ xw_C g t n R p0 T tR tS tP wI wP (tP x.1) c
def xw_S (g : ig_T) (t : Nat → Nat) (n : Nat) (T : Nat → Nat → Nat × Nat) : List xw_T → List tr_T
  | [] => []
  | x :: c => (tk_A g t n T (ig_C g x.2.1 - x.2.2.1) (4 * x.2.1 + x.2.2.1) x.2.2.2).map (tr_k (x.1 + 1)) ++ xw_S g t n T c
def xw_m : List xw_T → Nat
  | [] => 0
  | x :: c => (5 - x.2.2.1) + xw_m c
section
variable {g : ig_T} {t : Nat → Nat} {n R p0 : Nat} {T : Nat → Nat → Nat × Nat}
theorem xw_Ncg {tR tS wI wP tR' tS' wI' wP' : ar_T} {x : xw_T} (h1 : tR' x.1 = tR x.1) (h2 : tS' x.1 = tS x.1) (h3 : wI' x.1 = wI x.1) (h4 : wP' x.1 = wP x.1)
    (h : xw_N g t n R p0 T tR tS wI wP x) : xw_N g t n R p0 T tR' tS' wI' wP' x := by
  unfold xw_N at h ⊢
  rw [h1, h2, h3, h4]
  exact h
theorem xw_Ccg {tR tS tP wI wP tR' tS' tP' wI' wP' : ar_T} (b : Nat) (h1 : ∀ j, j < b → tR' j = tR j) (h2 : ∀ j, j < b → tS' j = tS j) (h5 : ∀ j, j < b → tP' j = tP j) (h3 : ∀ j, j < b → wI' j = wI j) (h4 : ∀ j, j < b → wP' j = wP j) :
    ∀ (c : List xw_T) (v : Int32), (∀ y, y ∈ c → y.1 < b) → xw_C g t n R p0 T tR tS tP wI wP v c → xw_C g t n R p0 T tR' tS' tP' wI' wP' v c := by
  intro c
  induction c with
  | nil => intro v _ h; exact h
  | cons x c ih =>
    intro v hb h
    obtain ⟨k1, k2, k3, k4⟩ := h
    have hx : x.1 < b := hb x List.mem_cons_self
    refine ⟨k1, xw_Ncg (h1 _ hx) (h2 _ hx) (h3 _ hx) (h4 _ hx) k2, k3, ?_⟩
    rw [h5 _ hx]
    exact ih _ (fun y hy => hb y (List.mem_cons_of_mem x hy)) k4
end
theorem tr_Acg {L : List tr_T} {tR tS tE tP tR' tS' tE' tP' : ar_T} (h1 : ∀ j, j < L.length → tR' j = tR j) (h2 : ∀ j, j < L.length → tS' j = tS j) (h3 : ∀ j, j < L.length → tE' j = tE j) (h4 : ∀ j, j < L.length → tP' j = tP j)
    (h : tr_A L tR tS tE tP) : tr_A L tR' tS' tE' tP' := by
  intro i x hx hi
  have hl : i < L.length := by
    rcases Nat.lt_or_ge i L.length with z | z
    · exact z
    · rw [List.getElem?_eq_none z] at hx; exact absurd hx (by simp)
  rw [h1 i hl, h2 i hl, h3 i hl, h4 i hl]
  exact h i x hx hi
theorem tr_Aadd {L : List tr_T} {x : tr_T} {tR tS tE tP tR' tS' tE' tP' : ar_T} (h1 : ∀ j, j < L.length → tR' j = tR j) (h2 : ∀ j, j < L.length → tS' j = tS j) (h3 : ∀ j, j < L.length → tE' j = tE j) (h4 : ∀ j, j < L.length → tP' j = tP j)
    (hx : L.length < 64 → tR' L.length = nI x.1 ∧ tS' L.length = nI x.2.1 ∧ tE' L.length = nI x.2.2.1 ∧ tP' L.length = ip_m x.2.2.2) (h : tr_A L tR tS tE tP) : tr_A (L ++ [x]) tR' tS' tE' tP' := by
  intro i y hy hi
  rcases Nat.lt_or_ge i L.length with z | z
  · rw [List.getElem?_append_left z] at hy
    exact tr_Acg h1 h2 h3 h4 h i y hy hi
  · rw [List.getElem?_append_right z] at hy
    have e : i - L.length = 0 := by
      rcases Nat.eq_zero_or_pos (i - L.length) with w | w
      · exact w
      · rw [List.getElem?_eq_none (by simp; omega)] at hy; exact absurd hy (by simp)
    rw [e] at hy
    have hy' : x = y := by simpa using hy
    subst hy'
    have e' : i = L.length := by omega
    subst e'
    exact hx hi
theorem tr_A0 (tR tS tE tP : ar_T) : tr_A [] tR tS tE tP := by
  intro i x hx
  exact absurd hx (by simp)
end
section
/-! the component's tests, items, alternatives, against the pure picture -/
def xk_Q (N : Nat → Bool) (n : Nat) (T : Nat → Nat → Nat × Nat) (mE mR : Nat → Int32) (s q : Nat) : Prop :=
  mE (s * 25 + q) = ip_m (T s q).1 ∧ mR (s * 25 + q) = ip_m (T s q).2 ∧ pu_S N n T s q
/-- the standing facts -/
def xk_F (g : ig_T) (t : Nat → Nat) (n R : Nat) : Prop := n ≤ 24 ∧ R ≤ 8 ∧ ig_V g R ∧ ∀ j, t j < 65536
section
variable {g : ig_T} {t : Nat → Nat} {n R cp : Nat} {fz rc oR oN : Int32} {nu od ro mE mR mA tR tS tE tP wI wP : Nat → Int32} {T : Nat → Nat → Nat × Nat} {N : Nat → Bool}
theorem xt_90 {post : Int32 → St2 → Prop} {x y : Nat} {v : Int32} (hx : x ≤ 25) (hy : y ≤ 25) (h : post v (nI R, nI cp, fz, nI (ig_A g), nI n, ip_m (max x y), oR, oN, ip_e (ig_O g), ip_e (ig_C g), ip_eb (ig_B g), ip_e (ig_L g), ip_e (ig_H g), ip_e (ig_M g), nu, od, ro, ip_e t, mE, mR, mA, tR, tS, tE, tP, wI, wP)) : wX_testEnd_90 post (ip_m y) v (nI R) (nI cp) fz (nI (ig_A g)) (nI n) (ip_m x) oR oN (ip_e (ig_O g)) (ip_e (ig_C g)) (ip_eb (ig_B g)) (ip_e (ig_L g)) (ip_e (ig_H g)) (ip_e (ig_M g)) nu od ro (ip_e t) mE mR mA tR tS tE tP wI wP := by
  refine ip_mbr (by omega) (by omega) (fun z => ?_) (fun z => ?_)
  · rw [Nat.max_eq_left z] at h; exact h
  · rw [Nat.max_eq_right (by omega)] at h; exact h
theorem xt_test {post : Int32 → St2 → Prop} {it q x : Nat} (F : xk_F g t n R) (hit : it < 64) (hq : q ≤ n) (hx : x ≤ 25) (hm : ig_B g it = true → xk_Q N n T mE mR (ig_L g it) q)
    (h : post (ip_m (pu_T g t n T it q).1) (nI R, nI cp, fz, nI (ig_A g), nI n, ip_m (max x (pu_T g t n T it q).2), oR, oN, ip_e (ig_O g), ip_e (ig_C g), ip_eb (ig_B g), ip_e (ig_L g), ip_e (ig_H g), ip_e (ig_M g), nu, od, ro, ip_e t, mE, mR, mA, tR, tS, tE, tP, wI, wP)) : wpX_testEnd post (nI R, nI cp, fz, nI (ig_A g), nI n, ip_m x, oR, oN, ip_e (ig_O g), ip_e (ig_C g), ip_eb (ig_B g), ip_e (ig_L g), ip_e (ig_H g), ip_e (ig_M g), nu, od, ro, ip_e t, mE, mR, mA, tR, tS, tE, tP, wI, wP) (nI it) (nI q) := by
  obtain ⟨hn, hR, hV, ht⟩ := F
  have hi : vp_in (nI it) 64 := vp_in_nI hit (by decide)
  have c1 : it < 2 ^ 31 := by omega
  have c2 : q < 2 ^ 31 := by omega
  obtain ⟨_, _, _, hL, hH, hB⟩ := hV.2 it
  refine ⟨hi, ip_br (ip_cb _ c1) (fun b => ?_) (fun b => ?_)⟩
  · have b' : ¬ ig_B g it = true := by rw [b]; decide
    rw [pu_Tc b'] at h
    have hq' := ht q
    refine pk_le n q (fun z => ?_) (fun z => ⟨vp_in_nI (by omega) (by decide), hi, pk_lt (t q) (ig_L g it) (fun z2 => ?_) (fun z2 => ⟨vp_in_nI (by omega) (by decide), hi, pk_lt (ig_H g it) (t q) (fun z3 => ?_) (fun z3 => ?_) (ip_ce _ c1) (ip_ce _ c2)⟩) (ip_ce _ c2) (ip_ce _ c1)⟩)
    · rw [if_neg (by omega)] at h
      exact xt_90 (y := q + 1) (by omega) (by omega) h
    · rw [if_neg (by omega)] at h
      exact xt_90 (y := q + 1) (by omega) (by omega) h
    · rw [if_neg (by omega)] at h
      exact xt_90 (y := q + 1) (by omega) (by omega) h
    · rw [if_pos (by omega)] at h
      exact nm_r (nI_1 q) (xt_90 (y := q + 1) (by omega) (by omega) h)
  · obtain ⟨m1, m2, m3⟩ := hm b
    have hs := hB b
    have c3 : ig_L g it * 25 + q < 200 := by omega
    have hi3 : vp_in (nI (ig_L g it * 25 + q)) 200 := vp_in_nI c3 (by decide)
    rw [pu_Tr b] at h
    refine ⟨hi, nm_r (e' := nI (ig_L g it * 25 + q)) (by rw [ip_ce _ c1]; exact ip_l25 _ _) ⟨hi3, nm_r (e' := ip_m (T (ig_L g it) q).2) ((ip_c mR (by omega)).trans m2) ⟨hi3, nm_r (e' := ip_m (T (ig_L g it) q).1) ((ip_c mE (by omega)).trans m1) ?_⟩⟩⟩
    exact xt_90 (by omega) (by have := m3.1; omega) h
theorem xt_129 {post : Int32 → St2 → Prop} {c e : Nat} (hc : c < 2 ^ 31) (h : post (ip_m (if 0 < c then e + 1 else 0)) (nI R, nI cp, fz, nI (ig_A g), nI n, rc, oR, oN, ip_e (ig_O g), ip_e (ig_C g), ip_eb (ig_B g), ip_e (ig_L g), ip_e (ig_H g), ip_e (ig_M g), nu, od, ro, ip_e t, mE, mR, mA, tR, tS, tE, tP, wI, wP)) : wX_itemEnd_129 post (nI c) (nI e) (nI R) (nI cp) fz (nI (ig_A g)) (nI n) rc oR oN (ip_e (ig_O g)) (ip_e (ig_C g)) (ip_eb (ig_B g)) (ip_e (ig_L g)) (ip_e (ig_H g)) (ip_e (ig_M g)) nu od ro (ip_e t) mE mR mA tR tS tE tP wI wP := by
  refine pk_le c 0 (fun z => ?_) (fun z => ?_)
  · rw [if_neg (by omega)] at h; exact h
  · rw [if_pos z] at h; exact h
theorem xt_65 {post : Int32 → St2 → Prop} {it q c e y : Nat} (F : xk_F g t n R) (hit : it < 64) (hc : c < 2 ^ 31) (h : post (ip_m (pu_e (ig_M g it) q (c, e, y))) (nI R, nI cp, fz, nI (ig_A g), nI n, rc, oR, oN, ip_e (ig_O g), ip_e (ig_C g), ip_eb (ig_B g), ip_e (ig_L g), ip_e (ig_H g), ip_e (ig_M g), nu, od, ro, ip_e t, mE, mR, mA, tR, tS, tE, tP, wI, wP)) : wX_itemEnd_65 post (nI it) (nI q) (nI c) (nI e) (nI R) (nI cp) fz (nI (ig_A g)) (nI n) rc oR oN (ip_e (ig_O g)) (ip_e (ig_C g)) (ip_eb (ig_B g)) (ip_e (ig_L g)) (ip_e (ig_H g)) (ip_e (ig_M g)) nu od ro (ip_e t) mE mR mA tR tS tE tP wI wP := by
  have hM := (F.2.2.1.2 it).2.2.1
  refine ⟨vp_in_nI hit (by decide), nm_r (ip_ce _ (by omega)) ?_⟩
  generalize ig_M g it = m at h hM ⊢
  unfold pu_e at h
  dsimp only at h
  refine pk_lt m 1 (fun z => ?_) (fun z => pk_lt 5 m (fun z2 => by omega) (fun z2 => pk_eq m 1 (fun z3 => ?_) (fun z3 => pk_eq m 2 (fun z4 => ?_) (fun z4 => pk_eq m 3 (fun z5 => ?_) (fun z5 => pk_eq m 4 (fun z6 => pk_le c 0 (fun z7 => ?_) (fun z7 => ?_)) (fun z6 => pk_eq m 5 (fun z7 => pk_le c 0 (fun z8 => ?_) (fun z8 => ?_)) (fun z7 => trivial))))))) 
  · rw [if_neg (by omega), if_neg (by omega), if_neg (by omega)] at h; exact xt_129 hc h
  · rw [if_pos (by omega)] at h; exact h
  · rw [if_pos (by omega)] at h; exact h
  · rw [if_neg (by omega), if_neg (by omega), if_neg (by omega)] at h; exact xt_129 hc h
  · rw [if_neg (by omega), if_pos (by omega), if_neg (by omega)] at h; exact h
  · rw [if_neg (by omega), if_pos (by omega), if_pos (by omega)] at h; exact h
  · rw [if_neg (by omega), if_neg (by omega), if_pos (by omega), if_neg (by omega)] at h; exact h
  · rw [if_neg (by omega), if_neg (by omega), if_pos (by omega), if_pos (by omega)] at h; exact h
/-- the run of tests of an item -/
theorem xt_28 {post : Int32 → St2 → Prop} {it q0 m : Nat} (F : xk_F g t n R) (hit : it < 64) (hm : m ≤ 25) : ∀ (f nn c q x i : Nat), i + f = m → f < nn → c ≤ i → q ≤ n → x ≤ 25 →
    (ig_B g it = true → xk_Q N n T mE mR (ig_L g it) q) →
    (f ≤ 1 ∨ ((ig_B g it = true → N (ig_L g it) = false) ∧ ∀ q', q < q' → q' ≤ n → ig_B g it = true → xk_Q N n T mE mR (ig_L g it) q')) →
    (post (ip_m (pu_e (ig_M g it) q0 (c + (pu_R g t n T it f q).1, (pu_R g t n T it f q).2.1, 0))) (nI R, nI cp, fz, nI (ig_A g), nI n, ip_m (max x (pu_R g t n T it f q).2.2), oR, oN, ip_e (ig_O g), ip_e (ig_C g), ip_eb (ig_B g), ip_e (ig_L g), ip_e (ig_H g), ip_e (ig_M g), nu, od, ro, ip_e t, mE, mR, mA, tR, tS, tE, tP, wI, wP)) →
    wX_itemEnd_28 post (nI it) (nI q0) (nI m) nn (nI c) (nI q) (nI i) (nI R) (nI cp) fz (nI (ig_A g)) (nI n) (ip_m x) oR oN (ip_e (ig_O g)) (ip_e (ig_C g)) (ip_eb (ig_B g)) (ip_e (ig_L g)) (ip_e (ig_H g)) (ip_e (ig_M g)) nu od ro (ip_e t) mE mR mA tR tS tE tP wI wP := by
  intro f
  induction f with
  | zero =>
    intro nn c q x i hi hnn hc hq hx hA hB h
    obtain ⟨nn, rfl⟩ : ∃ k, nn = k + 1 := ⟨nn - 1, by omega⟩
    refine pk_le m i (fun _ => ?_) (fun z => by omega)
    have h' : post (ip_m (pu_e (ig_M g it) q0 (c, q, 0))) (nI R, nI cp, fz, nI (ig_A g), nI n, ip_m (max x 0), oR, oN, ip_e (ig_O g), ip_e (ig_C g), ip_eb (ig_B g), ip_e (ig_L g), ip_e (ig_H g), ip_e (ig_M g), nu, od, ro, ip_e t, mE, mR, mA, tR, tS, tE, tP, wI, wP) := h
    rw [Nat.max_zero] at h'
    exact xt_65 F hit (by omega) h'
  | succ f ih =>
    intro nn c q x i hi hnn hc hq hx hA hB h
    obtain ⟨nn, rfl⟩ : ∃ k, nn = k + 1 := ⟨nn - 1, by omega⟩
    have hn := F.1
    obtain ⟨s1, s2⟩ := pu_Ts (t := t) (N := N) hq fun b => (hA b).2.2
    refine pk_le m i (fun z => by omega) (fun _ => xt_test F hit hq hx hA ?_)
    cases hz : (pu_T g t n T it q).1 with
    | zero =>
      rw [pu_R0 hz] at h
      refine br_t rfl ?_
      exact xt_65 F hit (by omega) h
    | succ e =>
      obtain ⟨h1, h2, h3⟩ := s2 e hz
      rw [pu_Rs hz] at h
      refine ip_m1br (y := e + 1) rfl (by omega) (fun z => by omega) (fun _ => nm_r (nI_1 c) (nm_r (nI_1 i) ?_))
      have h' : post (ip_m (pu_e (ig_M g it) q0 (c + 1 + (pu_R g t n T it f e).1, (pu_R g t n T it f e).2.1, 0))) (nI R, nI cp, fz, nI (ig_A g), nI n, ip_m (max (max x (pu_T g t n T it q).2) (pu_R g t n T it f e).2.2), oR, oN, ip_e (ig_O g), ip_e (ig_C g), ip_eb (ig_B g), ip_e (ig_L g), ip_e (ig_H g), ip_e (ig_M g), nu, od, ro, ip_e t, mE, mR, mA, tR, tS, tE, tP, wI, wP) := by
        rw [Nat.max_assoc, show c + 1 + (pu_R g t n T it f e).1 = c + ((pu_R g t n T it f e).1 + 1) by omega]
        exact h
      rcases hB with hB | ⟨hB1, hB2⟩
      · obtain rfl : f = 0 := by omega
        obtain ⟨nn, rfl⟩ : ∃ k, nn = k + 1 := ⟨nn - 1, by omega⟩
        refine pk_le m (i + 1) (fun _ => ?_) (fun z => by omega)
        have h'' : post (ip_m (pu_e (ig_M g it) q0 (c + 1, e, 0))) (nI R, nI cp, fz, nI (ig_A g), nI n, ip_m (max (max x (pu_T g t n T it q).2) 0), oR, oN, ip_e (ig_O g), ip_e (ig_C g), ip_eb (ig_B g), ip_e (ig_L g), ip_e (ig_H g), ip_e (ig_M g), nu, od, ro, ip_e t, mE, mR, mA, tR, tS, tE, tP, wI, wP) := h'
        rw [Nat.max_zero] at h''
        exact xt_65 F hit (by omega) h''
      · have hlt : q < e := by
          rcases Nat.lt_or_ge q e with z | z
          · exact z
          · obtain ⟨b, c⟩ := h3 (by omega)
            rw [hB1 b] at c
            exact absurd c (by decide)
        exact ih nn (c + 1) e (max x (pu_T g t n T it q).2) (i + 1) (by omega) (by omega) (by omega) h2 (by omega) (fun b => hB2 e hlt h2 b) (Or.inr ⟨hB1, fun q' z1 z2 b => hB2 q' (by omega) z2 b⟩) h'
theorem xt_rep {post : Int32 → Prop} {it : Nat} (F : xk_F g t n R) (hit : it < 64) (h1 : ig_rep g it → post 1) (h0 : ¬ ig_rep g it → post 0) : wpX_isRepeat post (nI R, nI cp, fz, nI (ig_A g), nI n, rc, oR, oN, ip_e (ig_O g), ip_e (ig_C g), ip_eb (ig_B g), ip_e (ig_L g), ip_e (ig_H g), ip_e (ig_M g), nu, od, ro, ip_e t, mE, mR, mA, tR, tS, tE, tP, wI, wP) (nI it) := by
  have hM := (F.2.2.1.2 it).2.2.1
  have c1 : it < 2 ^ 31 := by omega
  have hi : vp_in (nI it) 64 := vp_in_nI hit (by decide)
  exact ⟨hi, pk_eq (ig_M g it) 2 (fun z => h1 (Or.inl z)) (fun z => ⟨hi, pk_eq (ig_M g it) 3 (fun z2 => h1 (Or.inr z2)) (fun z2 => h0 (fun w => w.elim z z2)) (ip_ce _ c1)⟩) (ip_ce _ c1)⟩
/-- an item -/
theorem xt_item {post : Int32 → St2 → Prop} {it q x : Nat} (F : xk_F g t n R) (hit : it < 64) (hq : q ≤ n) (hx : x ≤ 25) (hn : ig_it g N it)
    (hA : ig_B g it = true → xk_Q N n T mE mR (ig_L g it) q) (hB : ∀ q', q < q' → q' ≤ n → ig_B g it = true → xk_Q N n T mE mR (ig_L g it) q')
    (h : post (ip_m (pu_I g t n T it q).1) (nI R, nI cp, fz, nI (ig_A g), nI n, ip_m (max x (pu_I g t n T it q).2), oR, oN, ip_e (ig_O g), ip_e (ig_C g), ip_eb (ig_B g), ip_e (ig_L g), ip_e (ig_H g), ip_e (ig_M g), nu, od, ro, ip_e t, mE, mR, mA, tR, tS, tE, tP, wI, wP)) : wpX_itemEnd post (nI R, nI cp, fz, nI (ig_A g), nI n, ip_m x, oR, oN, ip_e (ig_O g), ip_e (ig_C g), ip_eb (ig_B g), ip_e (ig_L g), ip_e (ig_H g), ip_e (ig_M g), nu, od, ro, ip_e t, mE, mR, mA, tR, tS, tE, tP, wI, wP) (nI it) (nI q) := by
  have hn24 := F.1
  have h' : ∀ f, pu_f g n it = f → post (ip_m (pu_e (ig_M g it) q (0 + (pu_R g t n T it f q).1, (pu_R g t n T it f q).2.1, 0))) (nI R, nI cp, fz, nI (ig_A g), nI n, ip_m (max x (pu_R g t n T it f q).2.2), oR, oN, ip_e (ig_O g), ip_e (ig_C g), ip_eb (ig_B g), ip_e (ig_L g), ip_e (ig_H g), ip_e (ig_M g), nu, od, ro, ip_e t, mE, mR, mA, tR, tS, tE, tP, wI, wP) := by
    intro f hf
    have h2 : post (ip_m (pu_e (ig_M g it) q (pu_R g t n T it (pu_f g n it) q))) (nI R, nI cp, fz, nI (ig_A g), nI n, ip_m (max x (pu_R g t n T it (pu_f g n it) q).2.2), oR, oN, ip_e (ig_O g), ip_e (ig_C g), ip_eb (ig_B g), ip_e (ig_L g), ip_e (ig_H g), ip_e (ig_M g), nu, od, ro, ip_e t, mE, mR, mA, tR, tS, tE, tP, wI, wP) := h
    rw [hf] at h2
    rw [Nat.zero_add]
    exact h2
  unfold wpX_itemEnd
  dsimp only
  refine xt_rep F hit (fun r => br_f (by decide) ?_) (fun r => br_t rfl ?_)
  · refine nm_r (nI_1 n) ⟨n + 2, ?_⟩
    exact xt_28 (m := n + 1) F hit (by omega) (n + 1) (n + 2) 0 q x 0 (by omega) (by omega) (by omega) hq hx hA (Or.inr ⟨hn r, hB⟩) (h' (n + 1) (tk_fr r))
  · refine ⟨2, ?_⟩
    exact xt_28 (m := 1) F hit (by decide) 1 2 0 q x 0 (by omega) (by omega) (by omega) hq hx hA (Or.inl (Nat.le_refl 1)) (h' 1 (tk_fn r))
/-- the items of an alternative -/
theorem xt_alt5 {post : Int32 → St2 → Prop} {a p : Nat} (F : xk_F g t n R) (ha : a < 16) : ∀ (k nn q x i : Nat), i + k = ig_C g a → k < nn → p ≤ q → q ≤ n → x ≤ 25 →
    (∀ j, j < k → ig_it g N (4 * a + i + j)) →
    (∀ j, j < k → ig_B g (4 * a + i + j) = true → ∀ q', p < q' → q' ≤ n → xk_Q N n T mE mR (ig_L g (4 * a + i + j)) q') →
    (q = p → ∀ j, j < k → ig_B g (4 * a + i + j) = true → (∀ i', i' < j → ig_n g N (4 * a + i + i')) → xk_Q N n T mE mR (ig_L g (4 * a + i + j)) p) →
    (post (ip_m (pu_A g t n T k (4 * a + i) q).1) (nI R, nI cp, fz, nI (ig_A g), nI n, ip_m (max x (pu_A g t n T k (4 * a + i) q).2), oR, oN, ip_e (ig_O g), ip_e (ig_C g), ip_eb (ig_B g), ip_e (ig_L g), ip_e (ig_H g), ip_e (ig_M g), nu, od, ro, ip_e t, mE, mR, mA, tR, tS, tE, tP, wI, wP)) →
    wX_altEnd_5 post (nI a) nn (nI q) (nI i) (nI R) (nI cp) fz (nI (ig_A g)) (nI n) (ip_m x) oR oN (ip_e (ig_O g)) (ip_e (ig_C g)) (ip_eb (ig_B g)) (ip_e (ig_L g)) (ip_e (ig_H g)) (ip_e (ig_M g)) nu od ro (ip_e t) mE mR mA tR tS tE tP wI wP := by
  intro k
  induction k with
  | zero =>
    intro nn q x i hi hnn hp hq hx hn hA hB h
    obtain ⟨nn, rfl⟩ : ∃ k, nn = k + 1 := ⟨nn - 1, by omega⟩
    have hC := (F.2.2.1.2 a).2.1
    refine ⟨vp_in_nI ha (by decide), pk_le (ig_C g a) i (fun _ => ?_) (fun z => by omega) (ip_ce _ (by omega))⟩
    have h' : post (nI q) (nI R, nI cp, fz, nI (ig_A g), nI n, ip_m (max x 0), oR, oN, ip_e (ig_O g), ip_e (ig_C g), ip_eb (ig_B g), ip_e (ig_L g), ip_e (ig_H g), ip_e (ig_M g), nu, od, ro, ip_e t, mE, mR, mA, tR, tS, tE, tP, wI, wP) := h
    rw [Nat.max_zero] at h'
    exact h'
  | succ k ih =>
    intro nn q x i hi hnn hp hq hx hn hA hB h
    obtain ⟨nn, rfl⟩ : ∃ k, nn = k + 1 := ⟨nn - 1, by omega⟩
    have hC := (F.2.2.1.2 a).2.1
    have hn24 := F.1
    have e0 : 4 * a + i + 0 = 4 * a + i := rfl
    have hA0 : ig_B g (4 * a + i) = true → xk_Q N n T mE mR (ig_L g (4 * a + i)) q := fun b => by
      rcases Nat.eq_or_lt_of_le hp with z | z
      · subst z
        exact hB rfl 0 (Nat.succ_pos k) b (fun i hi => absurd hi (Nat.not_lt_zero i))
      · exact hA 0 (Nat.succ_pos k) b q z hq
    have hB0 : ∀ q', q < q' → q' ≤ n → ig_B g (4 * a + i) = true → xk_Q N n T mE mR (ig_L g (4 * a + i)) q' := fun q' z1 z2 b => hA 0 (Nat.succ_pos k) b q' (by omega) z2
    obtain ⟨_, i2, i3⟩ := pu_Iag (g := g) (t := t) (T := T) (T' := T) (N := N) (it := 4 * a + i) hq (hn 0 (Nat.succ_pos k)) (fun b => ⟨rfl, (hA0 b).2.2⟩) (fun q' z1 z2 b => ⟨rfl, (hB0 q' z1 z2 b).2.2⟩)
    refine ⟨vp_in_nI ha (by decide), pk_le (ig_C g a) i (fun z => by omega) (fun _ => ip_m1br (y := q + 1) rfl (by omega) (fun z => by omega) (fun _ => ?_)) (ip_ce _ (by omega))⟩
    rw [ip_ls]
    refine xt_item F (by omega) hq hx (hn 0 (Nat.succ_pos k)) hA0 hB0 (nm_r (nI_1 i) ?_)
    cases hz : (pu_I g t n T (4 * a + i) q).1 with
    | zero =>
      rw [pu_A0 hz] at h
      obtain ⟨nn, rfl⟩ : ∃ k, nn = k + 1 := ⟨nn - 1, by omega⟩
      refine ⟨vp_in_nI ha (by decide), pk_le (ig_C g a) (i + 1) (fun _ => h) (fun _ => br_t rfl h) (ip_ce _ (by omega))⟩
    | succ e =>
      obtain ⟨k1, k2, k3⟩ := i3 e hz
      rw [pu_As hz] at h
      have sh : ∀ j, 4 * a + (i + 1) + j = 4 * a + i + (j + 1) := fun j => by omega
      refine ih nn e (max x (pu_I g t n T (4 * a + i) q).2) (i + 1) (by omega) (by omega) (by omega) k2 (by omega) (fun j hj => by rw [sh]; exact hn (j + 1) (by omega)) (fun j hj => by rw [sh]; exact hA (j + 1) (by omega))
        (fun ep j hj => by
          rw [sh]
          intro b hi'
          refine hB (by omega) (j + 1) (by omega) b (fun i' hi'' => ?_)
          cases i' with
          | zero => exact k3 (by omega)
          | succ i' => rw [← sh]; exact hi' i' (by omega)) ?_
      rw [Nat.max_assoc]
      exact h
end
end
section
/-! the second print of testEnd and itemEnd -/
section
variable {g : ig_T} {t : Nat → Nat} {n R cp : Nat} {fz rc oR oN : Int32} {nu od ro mE mR mA tR tS tE tP wI wP : Nat → Int32} {T : Nat → Nat → Nat × Nat} {N : Nat → Bool}
theorem xt2_90 {post : Int32 → St2 → Prop} {x y : Nat} {v : Int32} (hx : x ≤ 25) (hy : y ≤ 25) (h : post v (nI R, nI cp, fz, nI (ig_A g), nI n, ip_m (max x y), oR, oN, ip_e (ig_O g), ip_e (ig_C g), ip_eb (ig_B g), ip_e (ig_L g), ip_e (ig_H g), ip_e (ig_M g), nu, od, ro, ip_e t, mE, mR, mA, tR, tS, tE, tP, wI, wP)) : wX_testEnd_2_90 post (ip_m y) v (nI R) (nI cp) fz (nI (ig_A g)) (nI n) (ip_m x) oR oN (ip_e (ig_O g)) (ip_e (ig_C g)) (ip_eb (ig_B g)) (ip_e (ig_L g)) (ip_e (ig_H g)) (ip_e (ig_M g)) nu od ro (ip_e t) mE mR mA tR tS tE tP wI wP := by
  refine ip_mbr (by omega) (by omega) (fun z => ?_) (fun z => ?_)
  · rw [Nat.max_eq_left z] at h; exact h
  · rw [Nat.max_eq_right (by omega)] at h; exact h
theorem xt2_test {post : Int32 → St2 → Prop} {it q x : Nat} (F : xk_F g t n R) (hit : it < 64) (hq : q ≤ n) (hx : x ≤ 25) (hm : ig_B g it = true → xk_Q N n T mE mR (ig_L g it) q)
    (h : post (ip_m (pu_T g t n T it q).1) (nI R, nI cp, fz, nI (ig_A g), nI n, ip_m (max x (pu_T g t n T it q).2), oR, oN, ip_e (ig_O g), ip_e (ig_C g), ip_eb (ig_B g), ip_e (ig_L g), ip_e (ig_H g), ip_e (ig_M g), nu, od, ro, ip_e t, mE, mR, mA, tR, tS, tE, tP, wI, wP)) : wpX_testEnd_2 post (nI R, nI cp, fz, nI (ig_A g), nI n, ip_m x, oR, oN, ip_e (ig_O g), ip_e (ig_C g), ip_eb (ig_B g), ip_e (ig_L g), ip_e (ig_H g), ip_e (ig_M g), nu, od, ro, ip_e t, mE, mR, mA, tR, tS, tE, tP, wI, wP) (nI it) (nI q) := by
  obtain ⟨hn, hR, hV, ht⟩ := F
  have hi : vp_in (nI it) 64 := vp_in_nI hit (by decide)
  have c1 : it < 2 ^ 31 := by omega
  have c2 : q < 2 ^ 31 := by omega
  obtain ⟨_, _, _, hL, hH, hB⟩ := hV.2 it
  refine ⟨hi, ip_br (ip_cb _ c1) (fun b => ?_) (fun b => ?_)⟩
  · have b' : ¬ ig_B g it = true := by rw [b]; decide
    rw [pu_Tc b'] at h
    have hq' := ht q
    refine pk_le n q (fun z => ?_) (fun z => ⟨vp_in_nI (by omega) (by decide), hi, pk_lt (t q) (ig_L g it) (fun z2 => ?_) (fun z2 => ⟨vp_in_nI (by omega) (by decide), hi, pk_lt (ig_H g it) (t q) (fun z3 => ?_) (fun z3 => ?_) (ip_ce _ c1) (ip_ce _ c2)⟩) (ip_ce _ c2) (ip_ce _ c1)⟩)
    · rw [if_neg (by omega)] at h
      exact xt2_90 (y := q + 1) (by omega) (by omega) h
    · rw [if_neg (by omega)] at h
      exact xt2_90 (y := q + 1) (by omega) (by omega) h
    · rw [if_neg (by omega)] at h
      exact xt2_90 (y := q + 1) (by omega) (by omega) h
    · rw [if_pos (by omega)] at h
      exact nm_r (nI_1 q) (xt2_90 (y := q + 1) (by omega) (by omega) h)
  · obtain ⟨m1, m2, m3⟩ := hm b
    have hs := hB b
    have c3 : ig_L g it * 25 + q < 200 := by omega
    have hi3 : vp_in (nI (ig_L g it * 25 + q)) 200 := vp_in_nI c3 (by decide)
    rw [pu_Tr b] at h
    refine ⟨hi, nm_r (e' := nI (ig_L g it * 25 + q)) (by rw [ip_ce _ c1]; exact ip_l25 _ _) ⟨hi3, nm_r (e' := ip_m (T (ig_L g it) q).2) ((ip_c mR (by omega)).trans m2) ⟨hi3, nm_r (e' := ip_m (T (ig_L g it) q).1) ((ip_c mE (by omega)).trans m1) ?_⟩⟩⟩
    exact xt2_90 (by omega) (by have := m3.1; omega) h
theorem xt2_129 {post : Int32 → St2 → Prop} {c e : Nat} (hc : c < 2 ^ 31) (h : post (ip_m (if 0 < c then e + 1 else 0)) (nI R, nI cp, fz, nI (ig_A g), nI n, rc, oR, oN, ip_e (ig_O g), ip_e (ig_C g), ip_eb (ig_B g), ip_e (ig_L g), ip_e (ig_H g), ip_e (ig_M g), nu, od, ro, ip_e t, mE, mR, mA, tR, tS, tE, tP, wI, wP)) : wX_itemEnd_2_129 post (nI c) (nI e) (nI R) (nI cp) fz (nI (ig_A g)) (nI n) rc oR oN (ip_e (ig_O g)) (ip_e (ig_C g)) (ip_eb (ig_B g)) (ip_e (ig_L g)) (ip_e (ig_H g)) (ip_e (ig_M g)) nu od ro (ip_e t) mE mR mA tR tS tE tP wI wP := by
  refine pk_le c 0 (fun z => ?_) (fun z => ?_)
  · rw [if_neg (by omega)] at h; exact h
  · rw [if_pos z] at h; exact h
theorem xt2_65 {post : Int32 → St2 → Prop} {it q c e y : Nat} (F : xk_F g t n R) (hit : it < 64) (hc : c < 2 ^ 31) (h : post (ip_m (pu_e (ig_M g it) q (c, e, y))) (nI R, nI cp, fz, nI (ig_A g), nI n, rc, oR, oN, ip_e (ig_O g), ip_e (ig_C g), ip_eb (ig_B g), ip_e (ig_L g), ip_e (ig_H g), ip_e (ig_M g), nu, od, ro, ip_e t, mE, mR, mA, tR, tS, tE, tP, wI, wP)) : wX_itemEnd_2_65 post (nI it) (nI q) (nI c) (nI e) (nI R) (nI cp) fz (nI (ig_A g)) (nI n) rc oR oN (ip_e (ig_O g)) (ip_e (ig_C g)) (ip_eb (ig_B g)) (ip_e (ig_L g)) (ip_e (ig_H g)) (ip_e (ig_M g)) nu od ro (ip_e t) mE mR mA tR tS tE tP wI wP := by
  have hM := (F.2.2.1.2 it).2.2.1
  refine ⟨vp_in_nI hit (by decide), nm_r (ip_ce _ (by omega)) ?_⟩
  generalize ig_M g it = m at h hM ⊢
  unfold pu_e at h
  dsimp only at h
  refine pk_lt m 1 (fun z => ?_) (fun z => pk_lt 5 m (fun z2 => by omega) (fun z2 => pk_eq m 1 (fun z3 => ?_) (fun z3 => pk_eq m 2 (fun z4 => ?_) (fun z4 => pk_eq m 3 (fun z5 => ?_) (fun z5 => pk_eq m 4 (fun z6 => pk_le c 0 (fun z7 => ?_) (fun z7 => ?_)) (fun z6 => pk_eq m 5 (fun z7 => pk_le c 0 (fun z8 => ?_) (fun z8 => ?_)) (fun z7 => trivial))))))) 
  · rw [if_neg (by omega), if_neg (by omega), if_neg (by omega)] at h; exact xt2_129 hc h
  · rw [if_pos (by omega)] at h; exact h
  · rw [if_pos (by omega)] at h; exact h
  · rw [if_neg (by omega), if_neg (by omega), if_neg (by omega)] at h; exact xt2_129 hc h
  · rw [if_neg (by omega), if_pos (by omega), if_neg (by omega)] at h; exact h
  · rw [if_neg (by omega), if_pos (by omega), if_pos (by omega)] at h; exact h
  · rw [if_neg (by omega), if_neg (by omega), if_pos (by omega), if_neg (by omega)] at h; exact h
  · rw [if_neg (by omega), if_neg (by omega), if_pos (by omega), if_pos (by omega)] at h; exact h
/-- the run of tests of an item -/
theorem xt2_28 {post : Int32 → St2 → Prop} {it q0 m : Nat} (F : xk_F g t n R) (hit : it < 64) (hm : m ≤ 25) : ∀ (f nn c q x i : Nat), i + f = m → f < nn → c ≤ i → q ≤ n → x ≤ 25 →
    (ig_B g it = true → xk_Q N n T mE mR (ig_L g it) q) →
    (f ≤ 1 ∨ ((ig_B g it = true → N (ig_L g it) = false) ∧ ∀ q', q < q' → q' ≤ n → ig_B g it = true → xk_Q N n T mE mR (ig_L g it) q')) →
    (post (ip_m (pu_e (ig_M g it) q0 (c + (pu_R g t n T it f q).1, (pu_R g t n T it f q).2.1, 0))) (nI R, nI cp, fz, nI (ig_A g), nI n, ip_m (max x (pu_R g t n T it f q).2.2), oR, oN, ip_e (ig_O g), ip_e (ig_C g), ip_eb (ig_B g), ip_e (ig_L g), ip_e (ig_H g), ip_e (ig_M g), nu, od, ro, ip_e t, mE, mR, mA, tR, tS, tE, tP, wI, wP)) →
    wX_itemEnd_2_28 post (nI it) (nI q0) (nI m) nn (nI c) (nI q) (nI i) (nI R) (nI cp) fz (nI (ig_A g)) (nI n) (ip_m x) oR oN (ip_e (ig_O g)) (ip_e (ig_C g)) (ip_eb (ig_B g)) (ip_e (ig_L g)) (ip_e (ig_H g)) (ip_e (ig_M g)) nu od ro (ip_e t) mE mR mA tR tS tE tP wI wP := by
  intro f
  induction f with
  | zero =>
    intro nn c q x i hi hnn hc hq hx hA hB h
    obtain ⟨nn, rfl⟩ : ∃ k, nn = k + 1 := ⟨nn - 1, by omega⟩
    refine pk_le m i (fun _ => ?_) (fun z => by omega)
    have h' : post (ip_m (pu_e (ig_M g it) q0 (c, q, 0))) (nI R, nI cp, fz, nI (ig_A g), nI n, ip_m (max x 0), oR, oN, ip_e (ig_O g), ip_e (ig_C g), ip_eb (ig_B g), ip_e (ig_L g), ip_e (ig_H g), ip_e (ig_M g), nu, od, ro, ip_e t, mE, mR, mA, tR, tS, tE, tP, wI, wP) := h
    rw [Nat.max_zero] at h'
    exact xt2_65 F hit (by omega) h'
  | succ f ih =>
    intro nn c q x i hi hnn hc hq hx hA hB h
    obtain ⟨nn, rfl⟩ : ∃ k, nn = k + 1 := ⟨nn - 1, by omega⟩
    have hn := F.1
    obtain ⟨s1, s2⟩ := pu_Ts (t := t) (N := N) hq fun b => (hA b).2.2
    refine pk_le m i (fun z => by omega) (fun _ => xt2_test F hit hq hx hA ?_)
    cases hz : (pu_T g t n T it q).1 with
    | zero =>
      rw [pu_R0 hz] at h
      refine br_t rfl ?_
      exact xt2_65 F hit (by omega) h
    | succ e =>
      obtain ⟨h1, h2, h3⟩ := s2 e hz
      rw [pu_Rs hz] at h
      refine ip_m1br (y := e + 1) rfl (by omega) (fun z => by omega) (fun _ => nm_r (nI_1 c) (nm_r (nI_1 i) ?_))
      have h' : post (ip_m (pu_e (ig_M g it) q0 (c + 1 + (pu_R g t n T it f e).1, (pu_R g t n T it f e).2.1, 0))) (nI R, nI cp, fz, nI (ig_A g), nI n, ip_m (max (max x (pu_T g t n T it q).2) (pu_R g t n T it f e).2.2), oR, oN, ip_e (ig_O g), ip_e (ig_C g), ip_eb (ig_B g), ip_e (ig_L g), ip_e (ig_H g), ip_e (ig_M g), nu, od, ro, ip_e t, mE, mR, mA, tR, tS, tE, tP, wI, wP) := by
        rw [Nat.max_assoc, show c + 1 + (pu_R g t n T it f e).1 = c + ((pu_R g t n T it f e).1 + 1) by omega]
        exact h
      rcases hB with hB | ⟨hB1, hB2⟩
      · obtain rfl : f = 0 := by omega
        obtain ⟨nn, rfl⟩ : ∃ k, nn = k + 1 := ⟨nn - 1, by omega⟩
        refine pk_le m (i + 1) (fun _ => ?_) (fun z => by omega)
        have h'' : post (ip_m (pu_e (ig_M g it) q0 (c + 1, e, 0))) (nI R, nI cp, fz, nI (ig_A g), nI n, ip_m (max (max x (pu_T g t n T it q).2) 0), oR, oN, ip_e (ig_O g), ip_e (ig_C g), ip_eb (ig_B g), ip_e (ig_L g), ip_e (ig_H g), ip_e (ig_M g), nu, od, ro, ip_e t, mE, mR, mA, tR, tS, tE, tP, wI, wP) := h'
        rw [Nat.max_zero] at h''
        exact xt2_65 F hit (by omega) h''
      · have hlt : q < e := by
          rcases Nat.lt_or_ge q e with z | z
          · exact z
          · obtain ⟨b, c⟩ := h3 (by omega)
            rw [hB1 b] at c
            exact absurd c (by decide)
        exact ih nn (c + 1) e (max x (pu_T g t n T it q).2) (i + 1) (by omega) (by omega) (by omega) h2 (by omega) (fun b => hB2 e hlt h2 b) (Or.inr ⟨hB1, fun q' z1 z2 b => hB2 q' (by omega) z2 b⟩) h'
/-- an item -/
theorem xt2_item {post : Int32 → St2 → Prop} {it q x : Nat} (F : xk_F g t n R) (hit : it < 64) (hq : q ≤ n) (hx : x ≤ 25) (hn : ig_it g N it)
    (hA : ig_B g it = true → xk_Q N n T mE mR (ig_L g it) q) (hB : ∀ q', q < q' → q' ≤ n → ig_B g it = true → xk_Q N n T mE mR (ig_L g it) q')
    (h : post (ip_m (pu_I g t n T it q).1) (nI R, nI cp, fz, nI (ig_A g), nI n, ip_m (max x (pu_I g t n T it q).2), oR, oN, ip_e (ig_O g), ip_e (ig_C g), ip_eb (ig_B g), ip_e (ig_L g), ip_e (ig_H g), ip_e (ig_M g), nu, od, ro, ip_e t, mE, mR, mA, tR, tS, tE, tP, wI, wP)) : wpX_itemEnd_2 post (nI R, nI cp, fz, nI (ig_A g), nI n, ip_m x, oR, oN, ip_e (ig_O g), ip_e (ig_C g), ip_eb (ig_B g), ip_e (ig_L g), ip_e (ig_H g), ip_e (ig_M g), nu, od, ro, ip_e t, mE, mR, mA, tR, tS, tE, tP, wI, wP) (nI it) (nI q) := by
  have hn24 := F.1
  have h' : ∀ f, pu_f g n it = f → post (ip_m (pu_e (ig_M g it) q (0 + (pu_R g t n T it f q).1, (pu_R g t n T it f q).2.1, 0))) (nI R, nI cp, fz, nI (ig_A g), nI n, ip_m (max x (pu_R g t n T it f q).2.2), oR, oN, ip_e (ig_O g), ip_e (ig_C g), ip_eb (ig_B g), ip_e (ig_L g), ip_e (ig_H g), ip_e (ig_M g), nu, od, ro, ip_e t, mE, mR, mA, tR, tS, tE, tP, wI, wP) := by
    intro f hf
    have h2 : post (ip_m (pu_e (ig_M g it) q (pu_R g t n T it (pu_f g n it) q))) (nI R, nI cp, fz, nI (ig_A g), nI n, ip_m (max x (pu_R g t n T it (pu_f g n it) q).2.2), oR, oN, ip_e (ig_O g), ip_e (ig_C g), ip_eb (ig_B g), ip_e (ig_L g), ip_e (ig_H g), ip_e (ig_M g), nu, od, ro, ip_e t, mE, mR, mA, tR, tS, tE, tP, wI, wP) := h
    rw [hf] at h2
    rw [Nat.zero_add]
    exact h2
  unfold wpX_itemEnd_2
  dsimp only
  refine xt_rep F hit (fun r => br_f (by decide) ?_) (fun r => br_t rfl ?_)
  · refine nm_r (nI_1 n) ⟨n + 2, ?_⟩
    exact xt2_28 (m := n + 1) F hit (by omega) (n + 1) (n + 2) 0 q x 0 (by omega) (by omega) (by omega) hq hx hA (Or.inr ⟨hn r, hB⟩) (h' (n + 1) (tk_fr r))
  · refine ⟨2, ?_⟩
    exact xt2_28 (m := 1) F hit (by decide) 1 2 0 q x 0 (by omega) (by omega) (by omega) hq hx hA (Or.inl (Nat.le_refl 1)) (h' 1 (tk_fn r))
end
end
section
/-! the component's table -/
section
variable {g : ig_T} {t : Nat → Nat} {n R cp : Nat} {fz rc oR oN : Int32} {nu od ro mE mR mA tR tS tE tP wI wP : Nat → Int32} {T : Nat → Nat → Nat × Nat} {N : Nat → Bool}
theorem xf_56 {post : St2 → Prop} {r p x : Nat} {v tr : Int32} (hr : r < 8) (hp : p ≤ 24)
    (h : post (nI R, nI cp, fz, nI (ig_A g), nI n, ip_m x, oR, oN, ip_e (ig_O g), ip_e (ig_C g), ip_eb (ig_B g), ip_e (ig_L g), ip_e (ig_H g), ip_e (ig_M g), nu, od, ro, ip_e t, upd mE (r * 25 + p) v, upd mR (r * 25 + p) (ip_m x), upd mA (r * 25 + p) tr, tR, tS, tE, tP, wI, wP)) : wX_fillMemoSlot_56 post (nI r) (nI p) v tr (nI R) (nI cp) fz (nI (ig_A g)) (nI n) (ip_m x) oR oN (ip_e (ig_O g)) (ip_e (ig_C g)) (ip_eb (ig_B g)) (ip_e (ig_L g)) (ip_e (ig_H g)) (ip_e (ig_M g)) nu od ro (ip_e t) mE mR mA tR tS tE tP wI wP := by
  have hc : r * 25 + p < 200 := by omega
  have hi : vp_in (nI (r * 25 + p)) 200 := vp_in_nI hc (by decide)
  have ec : (nI (r * 25 + p)).toNatClampNeg = r * 25 + p := nI_clamp (by omega)
  exact nm_r (ip_l25 r p) ⟨hi, nm_r (by rw [ec]) ⟨hi, nm_r (by rw [ec]) ⟨hi, nm_r (by rw [ec]) h⟩⟩⟩
theorem xf_alt {post : Int32 → St2 → Prop} {a p x : Nat} (F : xk_F g t n R) (ha : a < 16) (hp : p ≤ n) (hx : x ≤ 25) (hn : ∀ j, j < ig_C g a → ig_it g N (4 * a + j))
    (hA : ∀ s q', p < q' → q' ≤ n → s < R → xk_Q N n T mE mR s q') (hB : ∀ j, j < ig_C g a → ig_B g (4 * a + j) = true → (∀ i', i' < j → ig_n g N (4 * a + i')) → xk_Q N n T mE mR (ig_L g (4 * a + j)) p)
    (h : post (ip_m (pu_A g t n T (ig_C g a) (4 * a) p).1) (nI R, nI cp, fz, nI (ig_A g), nI n, ip_m (max x (pu_A g t n T (ig_C g a) (4 * a) p).2), oR, oN, ip_e (ig_O g), ip_e (ig_C g), ip_eb (ig_B g), ip_e (ig_L g), ip_e (ig_H g), ip_e (ig_M g), nu, od, ro, ip_e t, mE, mR, mA, tR, tS, tE, tP, wI, wP)) : wpX_altEnd post (nI R, nI cp, fz, nI (ig_A g), nI n, ip_m x, oR, oN, ip_e (ig_O g), ip_e (ig_C g), ip_eb (ig_B g), ip_e (ig_L g), ip_e (ig_H g), ip_e (ig_M g), nu, od, ro, ip_e t, mE, mR, mA, tR, tS, tE, tP, wI, wP) (nI a) (nI p) :=
  ⟨ig_C g a + 1, xt_alt5 (p := p) F ha (ig_C g a) (ig_C g a + 1) p x 0 (Nat.zero_add _) (Nat.lt_succ_self _) (Nat.le_refl p) hp hx hn (fun j hj b q' z1 z2 => hA _ q' z1 z2 ((F.2.2.1.2 _).2.2.2.2.2 b)) (fun _ => hB) h⟩
theorem xf_13 {post : St2 → Prop} {r p : Nat} (F : xk_F g t n R) (hr : r < R) (hp : p ≤ n) (hN : ig_Nb g N)
    (hA : ∀ s q', p < q' → q' ≤ n → s < R → xk_Q N n T mE mR s q') (hB : ∀ s, ig_S g N r s → xk_Q N n T mE mR s p) : ∀ (k nn a x : Nat) (tr : Int32), a + k = ig_A g → k < nn → x ≤ 25 →
    (∀ tr' : Int32, ((pu_U g t n T r p k a).1 ≠ 0 → tr' = nI (pu_U g t n T r p k a).2.2) → post (nI R, nI cp, fz, nI (ig_A g), nI n, ip_m (max x (pu_U g t n T r p k a).2.1), oR, oN, ip_e (ig_O g), ip_e (ig_C g), ip_eb (ig_B g), ip_e (ig_L g), ip_e (ig_H g), ip_e (ig_M g), nu, od, ro, ip_e t, upd mE (r * 25 + p) (ip_m (pu_U g t n T r p k a).1), upd mR (r * 25 + p) (ip_m (max x (pu_U g t n T r p k a).2.1)), upd mA (r * 25 + p) tr', tR, tS, tE, tP, wI, wP)) →
    wX_fillMemoSlot_13 post (nI r) (nI p) nn (-1) tr (nI a) (nI R) (nI cp) fz (nI (ig_A g)) (nI n) (ip_m x) oR oN (ip_e (ig_O g)) (ip_e (ig_C g)) (ip_eb (ig_B g)) (ip_e (ig_L g)) (ip_e (ig_H g)) (ip_e (ig_M g)) nu od ro (ip_e t) mE mR mA tR tS tE tP wI wP := by
  have hn24 := F.1
  have hR8 := F.2.1
  have hV := F.2.2.1
  intro k
  induction k with
  | zero =>
    intro nn a x tr hk hnn hx h
    obtain ⟨nn, rfl⟩ : ∃ k, nn = k + 1 := ⟨nn - 1, by omega⟩
    have h16 := hV.1
    refine pk_le (ig_A g) a (fun _ => ?_) (fun z => by omega)
    have h' := h tr (fun z => absurd rfl z)
    rw [show max x (pu_U g t n T r p 0 a).2.1 = x from Nat.max_zero x] at h'
    exact xf_56 (by omega) (by omega) h'
  | succ k ih =>
    intro nn a x tr hk hnn hx h
    obtain ⟨nn, rfl⟩ : ∃ k, nn = k + 1 := ⟨nn - 1, by omega⟩
    have h16 := hV.1
    have hO := (hV.2 a).1
    refine pk_le (ig_A g) a (fun z => by omega) (fun _ => br_t rfl ⟨vp_in_nI (by omega) (by decide), pk_eq (ig_O g a) r (fun ho => ?_) (fun ho => ?_) (ip_ce _ (by omega))⟩)
    · have hn : ∀ j, j < ig_C g a → ig_it g N (4 * a + j) := fun j hj h1 h2 => hN a j (by omega) hj h1 h2
      have hB' : ∀ j, j < ig_C g a → ig_B g (4 * a + j) = true → (∀ i', i' < j → ig_n g N (4 * a + i')) → xk_Q N n T mE mR (ig_L g (4 * a + j)) p := fun j hj b hi => hB _ ⟨a, j, by omega, ho, hj, b, rfl, hi⟩
      obtain ⟨_, j2, j3⟩ := pu_Aag (g := g) (t := t) (n := n) (T := T) (T' := T) (N := N) (p := p) (ig_C g a) (4 * a) p (Nat.le_refl p) hp hn
        (fun j hj b q' z1 z2 => ⟨rfl, (hA _ q' z1 z2 ((hV.2 _).2.2.2.2.2 b)).2.2⟩) (fun _ j hj b hi => ⟨rfl, (hB' j hj b hi).2.2⟩)
      refine xf_alt (T := T) (N := N) F (by omega) hp hx hn hA hB' (nm_r (nI_1 a) ?_)
      by_cases hz : (pu_A g t n T (ig_C g a) (4 * a) p).1 = 0
      · rw [pu_U0 ho hz] at h
        rw [hz]
        refine ih nn (a + 1) (max x (pu_A g t n T (ig_C g a) (4 * a) p).2) (nI a) (by omega) (by omega) (by omega) (fun tr' htr => ?_)
        rw [Nat.max_assoc]
        exact h tr' htr
      · rw [pu_Us ho hz] at h
        obtain ⟨nn, rfl⟩ : ∃ k, nn = k + 1 := ⟨nn - 1, by omega⟩
        have h' := h (nI a) (fun _ => rfl)
        obtain ⟨e, he⟩ : ∃ e, (pu_A g t n T (ig_C g a) (4 * a) p).1 = e + 1 := ⟨(pu_A g t n T (ig_C g a) (4 * a) p).1 - 1, by omega⟩
        have hb := j3 e he
        exact pk_le (ig_A g) (a + 1) (fun _ => xf_56 (by omega) (by omega) h') (fun _ => ip_m1br rfl (by omega) (fun z => absurd z hz) (fun _ => xf_56 (by omega) (by omega) h'))
    · rw [pu_Un ho] at h
      exact nm_r (nI_1 a) (ih nn (a + 1) x tr (by omega) (by omega) hx h)
theorem xf_slot {post : St2 → Prop} {r p : Nat} (F : xk_F g t n R) (hr : r < R) (hp : p ≤ n) (hN : ig_Nb g N)
    (hA : ∀ s q', p < q' → q' ≤ n → s < R → xk_Q N n T mE mR s q') (hB : ∀ s, ig_S g N r s → xk_Q N n T mE mR s p)
    (h : ∀ tr' : Int32, ((pu_M g t n T r p).1 ≠ 0 → tr' = nI (pu_M g t n T r p).2.2) → post (nI R, nI cp, fz, nI (ig_A g), nI n, ip_m (pu_M g t n T r p).2.1, oR, oN, ip_e (ig_O g), ip_e (ig_C g), ip_eb (ig_B g), ip_e (ig_L g), ip_e (ig_H g), ip_e (ig_M g), nu, od, ro, ip_e t, upd mE (r * 25 + p) (ip_m (pu_M g t n T r p).1), upd mR (r * 25 + p) (ip_m (pu_M g t n T r p).2.1), upd mA (r * 25 + p) tr', tR, tS, tE, tP, wI, wP)) :
    wpX_fillMemoSlot post (nI R, nI cp, fz, nI (ig_A g), nI n, rc, oR, oN, ip_e (ig_O g), ip_e (ig_C g), ip_eb (ig_B g), ip_e (ig_L g), ip_e (ig_H g), ip_e (ig_M g), nu, od, ro, ip_e t, mE, mR, mA, tR, tS, tE, tP, wI, wP) (nI r) (nI p) := by
  refine ⟨ig_A g + 1, xf_13 (T := T) (N := N) F hr hp hN hA hB (ig_A g) (ig_A g + 1) 0 0 (-1) (Nat.zero_add _) (Nat.lt_succ_self _) (Nat.zero_le _) (fun tr' htr => ?_)⟩
  rw [Nat.zero_max]
  exact h tr' htr
end
/-- a place of the table that is filled -/
def xk_P (g : ig_T) (t : Nat → Nat) (N : Nat → Bool) (n : Nat) (T : Nat → Nat → Nat × Nat) (mE mR mA : Nat → Int32) (s q : Nat) : Prop :=
  xk_Q N n T mE mR s q ∧ ((T s q).1 ≠ 0 → mA (s * 25 + q) = nI (pu_M g t n T s q).2.2)
theorem xk_Pup {g : ig_T} {t : Nat → Nat} {N : Nat → Bool} {n : Nat} {T : Nat → Nat → Nat × Nat} {mE mR mA : Nat → Int32} {s q r p : Nat} {a b c : Int32} (hq : q ≤ 24) (hp : p ≤ 24) (hne : ¬ (s = r ∧ q = p))
    (h : xk_P g t N n T mE mR mA s q) : xk_P g t N n T (upd mE (r * 25 + p) a) (upd mR (r * 25 + p) b) (upd mA (r * 25 + p) c) s q := by
  have ne := ip_slot hq hp hne
  unfold xk_P xk_Q
  rw [pk_un ne, pk_un ne, pk_un ne]
  exact h
section
variable {g : ig_T} {t : Nat → Nat} {n R cp : Nat} {fz rc oR oN : Int32} {nu od ro mE mR mA tR tS tE tP wI wP : Nat → Int32} {T : Nat → Nat → Nat × Nat} {N : Nat → Bool} {rk rO : Nat → Nat}
theorem xf_12 {post : St2 → Prop} {J : Int32 → Int32 → Int32 → Int32 → Int32 → Int32 → Int32 → Int32 → Int32 → ar_T → ar_T → ar_T → ar_T → ar_T → ar_T → ar_T → ar_T → ar_T → ar_T → ar_T → ar_T → ar_T → ar_T → ar_T → ar_T → ar_T → ar_T → ar_T → Prop} {x1 : Int32} {p : Nat} (F : xk_F g t n R) (hp : p ≤ n) (hK : ig_K g R N rk) (hG : pu_G g t n R N T) (hO : ∀ k, k < R → rO k < R ∧ rk (rO k) = k) (hO' : ∀ r, r < R → rO (rk r) = r) :
    ∀ (d nn k x : Nat) (mE mR mA : Nat → Int32), k + d = R → d < nn → x ≤ 25 →
    (∀ s q, s < R → p < q → q ≤ n → xk_P g t N n T mE mR mA s q) → (∀ s, s < R → rk s < k → xk_P g t N n T mE mR mA s p) →
    (∀ (x : Nat) (mE mR mA : Nat → Int32), x ≤ 25 → (∀ s q, s < R → p ≤ q → q ≤ n → xk_P g t N n T mE mR mA s q) → J (ip_m p) (nI R) (nI cp) fz (nI (ig_A g)) (nI n) (ip_m x) oR oN (ip_e (ig_O g)) (ip_e (ig_C g)) (ip_eb (ig_B g)) (ip_e (ig_L g)) (ip_e (ig_H g)) (ip_e (ig_M g)) nu od (ip_e rO) (ip_e t) mE mR mA tR tS tE tP wI wP) →
    wX_fillMemo_12 post J x1 (nI p) nn (nI k) (nI R) (nI cp) fz (nI (ig_A g)) (nI n) (ip_m x) oR oN (ip_e (ig_O g)) (ip_e (ig_C g)) (ip_eb (ig_B g)) (ip_e (ig_L g)) (ip_e (ig_H g)) (ip_e (ig_M g)) nu od (ip_e rO) (ip_e t) mE mR mA tR tS tE tP wI wP := by
  have hn24 := F.1
  have hR8 := F.2.1
  intro d
  induction d with
  | zero =>
    intro nn k x mE mR mA hk hnn hx hA hB h
    obtain ⟨nn, rfl⟩ : ∃ k, nn = k + 1 := ⟨nn - 1, by omega⟩
    refine pk_le R k (fun _ => nm_r (ip_dec p) (h x mE mR mA hx (fun s q hs h1 h2 => ?_))) (fun z => by omega)
    rcases Nat.eq_or_lt_of_le h1 with z | z
    · subst z
      exact hB s hs (by have := hK.2.2.1 s hs; omega)
    · exact hA s q hs z h2
  | succ d ih =>
    intro nn k x mE mR mA hk hnn hx hA hB h
    obtain ⟨nn, rfl⟩ : ∃ k, nn = k + 1 := ⟨nn - 1, by omega⟩
    obtain ⟨o1, o2⟩ := hO k (by omega)
    refine pk_le R k (fun z => by omega) (fun _ => ⟨vp_in_nI (by omega) (by decide), ?_⟩)
    rw [ip_ce rO (by omega)]
    obtain ⟨G1, G2⟩ := hG (rO k) p o1 hp
    refine xf_slot (T := T) (N := N) F o1 hp hK.2.1 (fun s q' z1 z2 z3 => (hA s q' z3 z1 z2).1) (fun s hs => (hB s (pu_SS F.2.2.1 hs) (by have := hK.2.2.2 _ s hs; omega)).1) (fun tr' htr => nm_r (nI_1 k) ?_)
    refine ih nn (k + 1) _ _ _ _ (by omega) (by omega) (by have := G2.1; rw [G1] at this; exact Nat.le_trans this (by omega)) (fun s q hs h1 h2 => xk_Pup (by omega) (by omega) (by omega) (hA s q hs h1 h2)) (fun s hs hk' => ?_) h
    by_cases e : s = rO k
    · subst e
      refine ⟨⟨?_, ?_, G2⟩, fun hz => ?_⟩
      · rw [pk_us, G1]
      · rw [pk_us, G1]
      · rw [pk_us]
        refine htr ?_
        rw [G1] at hz
        exact hz
    · refine xk_Pup (by omega) (by omega) (fun z => e z.1) (hB s hs ?_)
      rcases Nat.lt_or_ge (rk s) k with z | z
      · exact z
      · have : rk s = k := by omega
        exact absurd (by rw [← this, hO' s hs]) e
theorem xf_5 {post : St2 → Prop} {first : Nat} (F : xk_F g t n R) (hK : ig_K g R N rk) (hG : pu_G g t n R N T) (hO : ∀ k, k < R → rO k < R ∧ rk (rO k) = k) (hO' : ∀ r, r < R → rO (rk r) = r) (hf : first ≤ n)
    (h : ∀ (x : Nat) (mE mR mA : Nat → Int32), x ≤ 25 → (∀ s q, s < R → first ≤ q → q ≤ n → xk_P g t N n T mE mR mA s q) → post (nI R, nI cp, fz, nI (ig_A g), nI n, ip_m x, oR, oN, ip_e (ig_O g), ip_e (ig_C g), ip_eb (ig_B g), ip_e (ig_L g), ip_e (ig_H g), ip_e (ig_M g), nu, od, ip_e rO, ip_e t, mE, mR, mA, tR, tS, tE, tP, wI, wP)) :
    ∀ (y nn x : Nat) (mE mR mA : Nat → Int32), y ≤ n + 1 → first ≤ y → y < nn → x ≤ 25 → (∀ s q, s < R → y ≤ q → q ≤ n → xk_P g t N n T mE mR mA s q) →
    wX_fillMemo_5 post (nI first) nn (ip_m y) (nI R) (nI cp) fz (nI (ig_A g)) (nI n) (ip_m x) oR oN (ip_e (ig_O g)) (ip_e (ig_C g)) (ip_eb (ig_B g)) (ip_e (ig_L g)) (ip_e (ig_H g)) (ip_e (ig_M g)) nu od (ip_e rO) (ip_e t) mE mR mA tR tS tE tP wI wP := by
  have hn24 := F.1
  have hR8 := F.2.1
  intro y
  induction y with
  | zero =>
    intro nn x mE mR mA hy hfy hnn hx hA
    obtain ⟨nn, rfl⟩ : ∃ k, nn = k + 1 := ⟨nn - 1, by omega⟩
    exact br_t ((ip_mlt (x := 0) (y := first + 1) (by omega) (by omega)).mpr (by omega)) (h x mE mR mA hx (fun s q hs h1 h2 => hA s q hs (by omega) h2))
  | succ p ih =>
    intro nn x mE mR mA hy hfy hnn hx hA
    obtain ⟨nn, rfl⟩ : ∃ k, nn = k + 1 := ⟨nn - 1, by omega⟩
    refine pk_lt p first (fun z => ?_) (fun z => ⟨R + 1, ?_⟩)
    · exact h x mE mR mA hx (fun s q hs h1 h2 => hA s q hs (by omega) h2)
    · exact xf_12 (rk := rk) F (by omega) hK hG hO hO' R (R + 1) 0 x mE mR mA (by omega) (by omega) hx (fun s q hs h1 h2 => hA s q hs (by omega) h2) (fun s hs hk => absurd hk (Nat.not_lt_zero _))
        (fun x mE mR mA hx hA' => ih nn x mE mR mA (by omega) (by omega) (by omega) hx (fun s q hs h1 h2 => hA' s q hs h1 h2))
theorem xf_memo {post : St2 → Prop} {first x : Nat} (hx : x ≤ 25) (F : xk_F g t n R) (hK : ig_K g R N rk) (hG : pu_G g t n R N T) (hO : ∀ k, k < R → rO k < R ∧ rk (rO k) = k) (hO' : ∀ r, r < R → rO (rk r) = r) (hf : first ≤ n)
    (h : ∀ (x : Nat) (mE mR mA : Nat → Int32), x ≤ 25 → (∀ s q, s < R → first ≤ q → q ≤ n → xk_P g t N n T mE mR mA s q) → post (nI R, nI cp, fz, nI (ig_A g), nI n, ip_m x, oR, oN, ip_e (ig_O g), ip_e (ig_C g), ip_eb (ig_B g), ip_e (ig_L g), ip_e (ig_H g), ip_e (ig_M g), nu, od, ip_e rO, ip_e t, mE, mR, mA, tR, tS, tE, tP, wI, wP)) : wpX_fillMemo post (nI R, nI cp, fz, nI (ig_A g), nI n, ip_m x, oR, oN, ip_e (ig_O g), ip_e (ig_C g), ip_eb (ig_B g), ip_e (ig_L g), ip_e (ig_H g), ip_e (ig_M g), nu, od, ip_e rO, ip_e t, mE, mR, mA, tR, tS, tE, tP, wI, wP) (nI first) :=
  ⟨n + 2, xf_5 (rk := rk) F hK hG hO hO' hf h (n + 1) (n + 2) x mE mR mA (by omega) (by omega) (by omega) hx (fun s q hs h1 h2 => by omega)⟩
end
end
section
/-! the component's walk over the tree -/
def xw_I (g : ig_T) (t : Nat → Nat) (n R p0 : Nat) (T : Nat → Nat → Nat × Nat) (L : List tr_T) (K : Nat) (tR tS tE tP wI wP : ar_T) (v : Int32) (c : List xw_T) (L0 : List tr_T) : Prop :=
  L0.length = K ∧ tr_A L0 tR tS tE tP ∧ xw_C g t n R p0 T tR tS tP wI wP v c ∧ (∀ y, y ∈ c → y.1 < K) ∧ L0 ++ tr_L (tk_K g t n T) (65 - K) (xw_S g t n T c) K = L
theorem tr_Lstep (Kd : Nat → Nat → List (Nat × Nat × Nat)) {K : Nat} (hK : K ≤ 64) (x : tr_T) (S L0 : List tr_T) :
    L0 ++ tr_L Kd (65 - K) (x :: S) K = (L0 ++ [x]) ++ tr_L Kd (65 - (K + 1)) ((Kd x.1 x.2.1).map (tr_k (K + 1)) ++ S) (K + 1) := by
  have e : 65 - K = (65 - (K + 1)) + 1 := by omega
  rw [e, List.append_assoc]
  rfl
section
variable {g : ig_T} {t : Nat → Nat} {n R cp : Nat} {fz rc oR oN : Int32} {nu od ro mE mR mA tR tS tE tP wI wP : Nat → Int32} {T : Nat → Nat → Nat × Nat} {N : Nat → Bool}
theorem xa_add {post : Int32 → St2 → Prop} {K r p : Nat} {par : Int32} (hK : K ≤ 64) (hr : r < 8) (hp : p ≤ 24)
    (h1 : K = 64 → post (nI 64) (nI R, nI cp, fz, nI (ig_A g), nI n, rc, oR, nI 65, ip_e (ig_O g), ip_e (ig_C g), ip_eb (ig_B g), ip_e (ig_L g), ip_e (ig_H g), ip_e (ig_M g), nu, od, ro, ip_e t, mE, mR, mA, tR, tS, tE, tP, wI, wP))
    (h2 : K < 64 → post (nI K) (nI R, nI cp, fz, nI (ig_A g), nI n, rc, oR, nI (K + 1), ip_e (ig_O g), ip_e (ig_C g), ip_eb (ig_B g), ip_e (ig_L g), ip_e (ig_H g), ip_e (ig_M g), nu, od, ro, ip_e t, mE, mR, mA, upd tR K (nI r), upd tS K (nI p), upd tE K (mE (r * 25 + p)), upd tP K par, upd wI K 0, upd wP K (nI p))) :
    wpX_addNode post (nI R, nI cp, fz, nI (ig_A g), nI n, rc, oR, nI K, ip_e (ig_O g), ip_e (ig_C g), ip_eb (ig_B g), ip_e (ig_L g), ip_e (ig_H g), ip_e (ig_M g), nu, od, ro, ip_e t, mE, mR, mA, tR, tS, tE, tP, wI, wP) (nI r) (nI p) par := by
  refine nm_r (nI_1 K) (pk_le 64 K (fun z => ?_) (fun z => ?_))
  · obtain rfl : K = 64 := by omega
    exact h1 rfl
  · have hi : vp_in (nI K) 64 := vp_in_nI z (by decide)
    have ec : (nI K).toNatClampNeg = K := nI_clamp (by omega)
    have h2' := h2 z
    refine ⟨hi, nm_r (by rw [ec]) ⟨hi, nm_r (by rw [ec]) ⟨?_, ⟨hi, nm_r (e' := upd tE K (mE (r * 25 + p))) (by rw [ec, ip_l25, nI_clamp (by omega)]) ⟨hi, nm_r (by rw [ec]) ⟨hi, nm_r (by rw [ec]) ⟨hi, nm_r (by rw [ec]) h2'⟩⟩⟩⟩⟩⟩⟩
    rw [ip_l25]
    exact vp_in_nI (by omega) (by decide)
theorem xw_gives {post : Int32 → Prop} {it : Nat} (F : xk_F g t n R) (hit : it < 64) (h1 : tk_g g it → post 1) (h0 : ¬ tk_g g it → post 0) : wpX_givesNodes post (nI R, nI cp, fz, nI (ig_A g), nI n, rc, oR, oN, ip_e (ig_O g), ip_e (ig_C g), ip_eb (ig_B g), ip_e (ig_L g), ip_e (ig_H g), ip_e (ig_M g), nu, od, ro, ip_e t, mE, mR, mA, tR, tS, tE, tP, wI, wP) (nI it) := by
  have hM := (F.2.2.1.2 it).2.2.1
  have c1 : it < 2 ^ 31 := by omega
  have hi : vp_in (nI it) 64 := vp_in_nI hit (by decide)
  refine ⟨hi, ip_br (ip_cb _ c1) (fun b => h0 (fun z => ?_)) (fun b => ⟨hi, pk_eq (ig_M g it) 4 (fun z => h0 (fun w => by have := w.2; omega)) (fun z => ⟨hi, pk_eq (ig_M g it) 5 (fun z2 => h0 (fun w => by have := w.2; omega)) (fun z2 => h1 ⟨b, by omega⟩) (ip_ce _ c1)⟩) (ip_ce _ c1)⟩)⟩
  have z1 := z.1
  rw [b] at z1
  exact absurd z1 (by decide)
/-- what a step of the walk must keep -/
def xw_go (g : ig_T) (t : Nat → Nat) (n R p0 : Nat) (T : Nat → Nat → Nat × Nat) (L : List tr_T) (m : Nat) (P : Int32 → Nat → Nat → ar_T → ar_T → ar_T → ar_T → ar_T → ar_T → Prop) : Prop :=
  (∀ (x K : Nat) (tR tS tE tP wI wP : ar_T) (v : Int32) (c : List xw_T) (L0 : List tr_T), x ≤ 25 → K ≤ 64 → 6 * (64 - K) + xw_m c < m → xw_I g t n R p0 T L K tR tS tE tP wI wP v c L0 → P v x K tR tS tE tP wI wP) ∧
  (∀ (x : Nat) (tR tS tE tP wI wP : ar_T), x ≤ 25 → L.length = 65 → tr_A L tR tS tE tP → P (nI 64) x 65 tR tS tE tP wI wP)
/-- a new node behind a node whose item has been put on -/
theorem xw_new {post : Int32 → St2 → Prop} {p0 K nd a i i' q e x s m : Nat} {c : List xw_T} {L0 L : List tr_T} (F : xk_F g t n R) (hG : pu_G g t n R N T) (hM : ∀ s q, s < R → p0 ≤ q → q ≤ n → xk_P g t N n T mE mR mA s q)
    (hx : x ≤ 25) (hK : K ≤ 64) (hs : s < R) (hq0 : p0 ≤ q) (hq : q ≤ n) (hz : (T s q).1 = e + 1) (hLl : L0.length = K) (hA : tr_A L0 tR tS tE tP)
    (hC : xw_C g t n R p0 T tR tS tP wI wP (nI nd) ((nd, a, i', e) :: c)) (hc : ∀ y, y ∈ c → y.1 < K) (hnd : nd < K) (hi : i ≤ i') (hi4 : i < 5) (hm : 6 * (64 - K) + (5 - i) + xw_m c ≤ m)
    (hL : L0 ++ tr_L (tk_K g t n T) (65 - K) ((s, q, e, nd + 1) :: xw_S g t n T ((nd, a, i', e) :: c)) K = L)
    (hgo : xw_go g t n R p0 T L m (fun v x K tR tS tE tP wI wP => post v (nI R, nI cp, fz, nI (ig_A g), nI n, ip_m x, oR, nI K, ip_e (ig_O g), ip_e (ig_C g), ip_eb (ig_B g), ip_e (ig_L g), ip_e (ig_H g), ip_e (ig_M g), nu, od, ro, ip_e t, mE, mR, mA, tR, tS, tE, tP, wI, wP))) :
    wpX_addNode post (nI R, nI cp, fz, nI (ig_A g), nI n, ip_m x, oR, nI K, ip_e (ig_O g), ip_e (ig_C g), ip_eb (ig_B g), ip_e (ig_L g), ip_e (ig_H g), ip_e (ig_M g), nu, od, ro, ip_e t, mE, mR, mA, tR, tS, tE, tP, wI, wP) (nI s) (nI q) (nI nd) := by
  have hn24 := F.1
  have hR8 := F.2.1
  obtain ⟨hQ, hW⟩ := hM s q hs hq0 hq
  have hme : mE (s * 25 + q) = nI e := by rw [hQ.1, hz]; rfl
  rw [tr_Lstep _ hK] at hL
  refine xa_add hK (by omega) (by omega) (fun z => ?_) (fun z => ?_)
  · subst z
    have hL' : L0 ++ [(s, q, e, nd + 1)] = L := by
      rw [show 65 - (64 + 1) = 0 from rfl] at hL
      rw [← hL]
      exact (List.append_nil _).symm
    refine hgo.2 x tR tS tE tP wI wP hx ?_ ?_
    · rw [← hL', List.length_append, hLl]; rfl
    · rw [← hL']
      exact tr_Aadd (fun _ _ => rfl) (fun _ _ => rfl) (fun _ _ => rfl) (fun _ _ => rfl) (fun w => by omega) hA
  · obtain ⟨w1, w2, w3, w4⟩ := pu_W hG hs hq (by omega)
    have hne : ∀ j, j < K → j ≠ K := fun j hj => by omega
    refine hgo.1 x (K + 1) _ _ _ _ _ _ (nI K) ((K, (pu_M g t n T s q).2.2, 0, q) :: (nd, a, i', e) :: c) (L0 ++ [(s, q, e, nd + 1)]) hx (by omega) ?_ ⟨?_, ?_, ⟨rfl, ⟨z, s, q, pk_us, pk_us, hs, hq0, Nat.le_refl q, hq, by omega, rfl, Nat.zero_le _, pk_us, pk_us, ?_⟩, ?_, ?_⟩, ?_, ?_⟩
    · show 6 * (64 - (K + 1)) + ((5 - 0) + ((5 - i') + xw_m c)) < m
      omega
    · rw [List.length_append, hLl]; rfl
    · refine tr_Aadd (fun j hj => pk_un (by omega)) (fun j hj => pk_un (by omega)) (fun j hj => pk_un (by omega)) (fun j hj => pk_un (by omega)) (fun _ => ?_) hA
      rw [hLl]
      exact ⟨pk_us, pk_us, pk_us.trans hme, pk_us⟩
    · exact tk_okA (ig_C g (pu_M g t n T s q).2.2) (4 * (pu_M g t n T s q).2.2) q (by rw [w3]; omega)
    · intro y hy
      rcases List.mem_cons.mp hy with e1 | e1
      · rw [e1]; exact hnd
      · exact hc y e1
    · show xw_C g t n R p0 T _ _ _ _ _ (upd tP K (nI nd) K) _
      rw [pk_us]
      refine xw_Ccg K (fun j hj => pk_un (by omega)) (fun j hj => pk_un (by omega)) (fun j hj => pk_un (by omega)) (fun j hj => pk_un (by omega)) (fun j hj => pk_un (by omega)) _ _ ?_ hC
      intro y hy
      rcases List.mem_cons.mp hy with e1 | e1
      · rw [e1]; exact hnd
      · exact hc y e1
    · intro y hy
      rcases List.mem_cons.mp hy with e1 | e1
      · rw [e1]; exact Nat.lt_succ_self K
      · rcases List.mem_cons.mp e1 with e2 | e2
        · rw [e2]; exact Nat.lt_succ_of_lt hnd
        · exact Nat.lt_succ_of_lt (hc y e2)
    · exact hL
/-- one step of the walk -/
theorem xw_39 {post : Int32 → St2 → Prop} {it nd : Nat} {x3 v : Int32} (hit : it < 64) (hnd : nd < 64) (h0 : v = -1 → post (nI nd) (nI R, nI cp, fz, nI (ig_A g), nI n, rc, oR, oN, ip_e (ig_O g), ip_e (ig_C g), ip_eb (ig_B g), ip_e (ig_L g), ip_e (ig_H g), ip_e (ig_M g), nu, od, ro, ip_e t, mE, mR, mA, tR, tS, tE, tP, wI, wP))
    (h1 : v ≠ -1 → wpX_addNode post (nI R, nI cp, fz, nI (ig_A g), nI n, rc, oR, oN, ip_e (ig_O g), ip_e (ig_C g), ip_eb (ig_B g), ip_e (ig_L g), ip_e (ig_H g), ip_e (ig_M g), nu, od, ro, ip_e t, mE, mR, mA, tR, tS, tE, tP, wI, upd wP nd v) (nI (ig_L g it)) x3 (nI nd)) : wX_walkTest_39 post (nI nd) (nI it) x3 v (nI R) (nI cp) fz (nI (ig_A g)) (nI n) rc oR oN (ip_e (ig_O g)) (ip_e (ig_C g)) (ip_eb (ig_B g)) (ip_e (ig_L g)) (ip_e (ig_H g)) (ip_e (ig_M g)) nu od ro (ip_e t) mE mR mA tR tS tE tP wI wP := by
  refine br_c h0 (fun z => ⟨vp_in_nI hnd (by decide), nm_r (by rw [nI_clamp (by omega)]) ⟨vp_in_nI hit (by decide), ?_⟩⟩)
  rw [ip_ce _ (by omega)]
  exact h1 z
theorem xw_29 {post : Int32 → St2 → Prop} {nd i : Nat} {x2 x3 v : Int32} (hnd : nd < 64) (hw : wI nd = nI i) (h : wX_walkTest_39 post (nI nd) x2 x3 v (nI R) (nI cp) fz (nI (ig_A g)) (nI n) rc oR oN (ip_e (ig_O g)) (ip_e (ig_C g)) (ip_eb (ig_B g)) (ip_e (ig_L g)) (ip_e (ig_H g)) (ip_e (ig_M g)) nu od ro (ip_e t) mE mR mA tR tS tE tP (upd wI nd (nI (i + 1))) wP) : wX_walkTest_29 post (nI nd) x2 x3 v (nI R) (nI cp) fz (nI (ig_A g)) (nI n) rc oR oN (ip_e (ig_O g)) (ip_e (ig_C g)) (ip_eb (ig_B g)) (ip_e (ig_L g)) (ip_e (ig_H g)) (ip_e (ig_M g)) nu od ro (ip_e t) mE mR mA tR tS tE tP wI wP := by
  have hi : vp_in (nI nd) 64 := vp_in_nI hnd (by decide)
  refine ⟨hi, hi, nm_r (e' := upd wI nd (nI (i + 1))) ?_ h⟩
  rw [nI_clamp (by omega), hw, nI_1]
theorem xw_on {post : Int32 → St2 → Prop} {p0 K nd a i q x m : Nat} {c : List xw_T} {L0 L : List tr_T} {v : Int32} (F : xk_F g t n R) (hG : pu_G g t n R N T) (hNb : ig_Nb g N) (hM : ∀ s q, s < R → p0 ≤ q → q ≤ n → xk_P g t N n T mE mR mA s q)
    (hx : x ≤ 25) (hK : K ≤ 64) (I : xw_I g t n R p0 T L K tR tS tE tP wI wP v ((nd, a, i, q) :: c) L0) (hm : 6 * (64 - K) + xw_m ((nd, a, i, q) :: c) ≤ m)
    (hgo : xw_go g t n R p0 T L m (fun v x K tR tS tE tP wI wP => post v (nI R, nI cp, fz, nI (ig_A g), nI n, ip_m x, oR, nI K, ip_e (ig_O g), ip_e (ig_C g), ip_eb (ig_B g), ip_e (ig_L g), ip_e (ig_H g), ip_e (ig_M g), nu, od, ro, ip_e t, mE, mR, mA, tR, tS, tE, tP, wI, wP))) :
    wpX_walkOn post (nI R, nI cp, fz, nI (ig_A g), nI n, ip_m x, oR, nI K, ip_e (ig_O g), ip_e (ig_C g), ip_eb (ig_B g), ip_e (ig_L g), ip_e (ig_H g), ip_e (ig_M g), nu, od, ro, ip_e t, mE, mR, mA, tR, tS, tE, tP, wI, wP) (nI nd) := by
  obtain ⟨hLl, hA, ⟨hv, ⟨n64, r, s, h1, h2, h3, h4, h5, h6, h7, h8, h9, h10, h11, h12⟩, hc2, hC⟩, hc, hL⟩ := I
  dsimp only at hv n64 h1 h2 h5 h6 h8 h9 h10 h11 h12 hc2 hC
  have hn24 := F.1
  have hR8 := F.2.1
  have hV := F.2.2.1
  have hS := pu_GS hG
  have hnd : nd < K := hc _ List.mem_cons_self
  have hc' : ∀ y, y ∈ c → y.1 < K := fun y hy => hc y (List.mem_cons_of_mem _ hy)
  obtain ⟨w1, w2, w3, w4⟩ := pu_W hG h3 (by omega) h7
  rw [← h8] at w1 w2 w3 w4
  have ha : a < 16 := by have := hV.1; omega
  have hC4 := (hV.2 a).2.1
  have cn : nd < 2 ^ 31 := by omega
  have hi : vp_in (nI nd) 64 := vp_in_nI n64 (by decide)
  obtain ⟨hQ, hW⟩ := hM r s h3 h4 (by omega)
  have em : tR (nI nd).toNatClampNeg * 25 + tS (nI nd).toNatClampNeg = nI (r * 25 + s) := by rw [nI_clamp cn, h1, h2, ip_l25]
  refine ⟨hi, hi, ?_, nm_r (e' := nI a) ?_ ⟨hi, vp_in_nI ha (by decide), pk_lt i (ig_C g a) (fun z => ?_) (fun z => ?_) (by rw [nI_clamp cn]; exact h10) (ip_ce _ (by omega))⟩⟩
  · rw [em]; exact vp_in_nI (by omega) (by decide)
  · rw [em, nI_clamp (by omega), h8]; exact hW h7
  · have hit : 4 * a + i < 64 := by omega
    have hn : ig_it g N (4 * a + i) := fun y1 y2 => hNb a i w1 z y1 y2
    obtain ⟨kk, hkk⟩ : ∃ kk, ig_C g a - i = kk + 1 := ⟨ig_C g a - i - 1, by omega⟩
    have hkk' : ig_C g a - (i + 1) = kk := by omega
    rw [hkk] at h12
    obtain ⟨ok1, ok2⟩ := h12
    have rd : ∀ q', q ≤ q' → q' ≤ n → ig_B g (4 * a + i) = true → xk_Q N n T mE mR (ig_L g (4 * a + i)) q' := fun q' z1 z2 b => (hM _ q' ((hV.2 _).2.2.2.2.2 b) (by omega) z2).1
    have hS0 : xw_S g t n T ((nd, a, i, q) :: c) = (tk_A g t n T (kk + 1) (4 * a + i) q).map (tr_k (nd + 1)) ++ xw_S g t n T c := by
      show (tk_A g t n T (ig_C g a - i) (4 * a + i) q).map (tr_k (nd + 1)) ++ xw_S g t n T c = _
      rw [hkk]
    have hS1 : ∀ e, xw_S g t n T ((nd, a, i + 1, e) :: c) = (tk_A g t n T kk (4 * a + i + 1) e).map (tr_k (nd + 1)) ++ xw_S g t n T c := by
      intro e
      show (tk_A g t n T (ig_C g a - (i + 1)) (4 * a + (i + 1)) e).map (tr_k (nd + 1)) ++ xw_S g t n T c = _
      rw [hkk']
      rfl
    have hm1 : 6 * (64 - K) + (5 - i) + xw_m c ≤ m := by
      have : 6 * (64 - K) + ((5 - i) + xw_m c) ≤ m := hm
      omega
    rw [hS0] at hL
    -- the chain behind the node stays as it is
    have keep : ∀ (wI' wP' : ar_T) (i' e : Nat), s ≤ e → e ≤ n → i' ≤ ig_C g a → tk_ok g t n T (ig_C g a - i') (4 * a + i') e → wI' nd = nI i' → wP' nd = nI e → (∀ j, j < nd → wI' j = wI j) → (∀ j, j < nd → wP' j = wP j) →
        xw_C g t n R p0 T tR tS tP wI' wP' (nI nd) ((nd, a, i', e) :: c) := fun wI' wP' i' e y1 y2 y3 y4 y5 y6 y7 y8 =>
      ⟨rfl, ⟨n64, r, s, h1, h2, h3, h4, y1, y2, h7, h8, y3, y5, y6, y4⟩, hc2, xw_Ccg nd (fun _ _ => rfl) (fun _ _ => rfl) (fun _ _ => rfl) y7 y8 c _ hc2 hC⟩
    refine ⟨hi, nm_r (e' := nI (4 * a + i)) (by rw [nI_clamp cn, h10]; exact ip_ls a i) (xw_gives F hit (fun gn => br_f (by decide) ?_) (fun gn => br_t rfl ⟨hi, ?_⟩))⟩
    · -- a test that gives a node
      have hb := gn.1
      have hl := (hV.2 _).2.2.2.2.2 hb
      have hT : pu_T g t n T (4 * a + i) q = T (ig_L g (4 * a + i)) q := pu_Tr hb
      have hb2 := (pu_Tall (t := t) (it := 4 * a + i) hV hS h6)
      refine ⟨hi, nm_r (e' := nI q) (by rw [nI_clamp cn]; exact h11) (xt_test (T := T) (N := N) F hit h6 hx (rd q (Nat.le_refl q) h6) ?_)⟩
      have hx' : max x (pu_T g t n T (4 * a + i) q).2 ≤ 25 := by have := hb2.1; omega
      have hs1 := hb2.2
      revert hx' hs1
      rw [hT]
      intro hx' hs1
      cases hz : (T (ig_L g (4 * a + i)) q).1 with
      | zero =>
        refine br_t rfl (xw_29 n64 h10 (xw_39 hit n64 (fun _ => ?_) (fun y => absurd rfl y)))
        rw [tk_s3 gn hz] at hL
        rw [tk_x0 gn hz] at ok2
        refine hgo.1 _ K tR tS tE tP _ wP (nI nd) ((nd, a, i + 1, q) :: c) L0 hx' hK ?_ ⟨hLl, hA, keep _ _ _ _ h5 h6 (by omega) (by rw [hkk']; exact ok2) pk_us h11 (fun j hj => pk_un (by omega)) (fun j hj => rfl), ?_, ?_⟩
        · show 6 * (64 - K) + ((5 - (i + 1)) + xw_m c) < m
          omega
        · intro y hy
          rcases List.mem_cons.mp hy with e1 | e1
          · rw [e1]; exact hnd
          · exact hc' y e1
        · rw [hS1]; exact hL
      | succ e =>
        obtain ⟨b1, b2⟩ := hs1 e hz
        have hne : ¬ ip_m (e + 1) = -1 := fun y => by
          have := (ip_mn (x := e + 1) (by omega)).mp y
          omega
        refine br_f hne (xt_rep F hit (fun rp => br_f (by decide) ?_) (fun rp => br_t rfl ?_))
        · -- a repeat stays at its item
          have hP := pu_Pall (t := t) q hV hS hn rp
          rw [tk_s5 gn rp h6 hP hz] at hL
          rw [tk_x2 gn rp h6 hP hz] at ok2
          refine xw_39 hit n64 (fun y => absurd y hne) (fun _ => ?_)
          refine xw_new (T := T) (N := N) (i := i) (i' := i) (a := a) (e := e) F hG hM hx' hK hl (by omega) h6 hz hLl hA (keep _ _ i e (by omega) b2 h9 (by rw [hkk]; exact ⟨Or.inl gn, ok2⟩) h10 pk_us (fun j hj => rfl) (fun j hj => pk_un (by omega))) hc' hnd (Nat.le_refl i) (by omega) hm1 ?_ hgo
          show L0 ++ tr_L (tk_K g t n T) (65 - K) ((ig_L g (4 * a + i), q, e, nd + 1) :: ((tk_A g t n T (ig_C g a - i) (4 * a + i) e).map (tr_k (nd + 1)) ++ xw_S g t n T c)) K = L
          rw [hkk]
          exact hL
        · -- another item is left behind
          rw [tk_s4 gn rp hz] at hL
          rw [tk_x1 gn rp hz] at ok2
          refine xw_29 n64 h10 (xw_39 hit n64 (fun y => absurd y hne) (fun _ => ?_))
          refine xw_new (T := T) (N := N) (i := i) (i' := i + 1) (a := a) (e := e) F hG hM hx' hK hl (by omega) h6 hz hLl hA (keep _ _ (i + 1) e (by omega) b2 (by omega) (by rw [hkk']; exact ok2) pk_us pk_us (fun j hj => pk_un (by omega)) (fun j hj => pk_un (by omega))) hc' hnd (by omega) (by omega) hm1 ?_ hgo
          rw [hS1]
          exact hL
    · -- an item without nodes
      rw [nI_clamp cn, h11]
      have ok1' : (pu_I g t n T (4 * a + i) q).1 ≠ 0 := ok1.elim (fun y => absurd y gn) id
      obtain ⟨e, he⟩ : ∃ e, (pu_I g t n T (4 * a + i) q).1 = e + 1 := ⟨(pu_I g t n T (4 * a + i) q).1 - 1, by omega⟩
      obtain ⟨b1, b2⟩ := (pu_Iall (t := t) hV hS hn h6).2 e he
      have b3 := (pu_Iall (t := t) (it := 4 * a + i) hV hS hn h6).1
      refine xt2_item (T := T) (N := N) F hit h6 hx hn (rd q (Nat.le_refl q) h6) (fun q' z1 z2 b => rd q' (by omega) z2 b) ?_
      rw [he]
      rw [tk_s2 gn, he] at hL
      rw [tk_xI he] at ok2
      refine ⟨hi, nm_r (e' := upd wP nd (nI e)) rfl ⟨hi, hi, nm_r (e' := upd wI nd (nI (i + 1))) (by rw [h10, nI_1]) ?_⟩⟩
      refine hgo.1 _ K tR tS tE tP _ _ (nI nd) ((nd, a, i + 1, e) :: c) L0 (by omega) hK ?_ ⟨hLl, hA, keep _ _ _ _ (by omega) b2 (by omega) (by rw [hkk']; exact ok2) pk_us pk_us (fun j hj => pk_un (by omega)) (fun j hj => pk_un (by omega)), ?_, ?_⟩
      · show 6 * (64 - K) + ((5 - (i + 1)) + xw_m c) < m
        omega
      · intro y hy
        rcases List.mem_cons.mp hy with e1 | e1
        · rw [e1]; exact hnd
        · exact hc' y e1
      · rw [hS1]; exact hL
  · -- up to the parent
    obtain rfl : i = ig_C g a := by omega
    refine ⟨hi, ?_⟩
    rw [nI_clamp cn]
    refine hgo.1 x K tR tS tE tP wI wP (tP nd) c L0 hx hK ?_ ⟨hLl, hA, hC, hc', ?_⟩
    · have : 6 * (64 - K) + ((5 - ig_C g a) + xw_m c) ≤ m := hm
      omega
    · have e0 : xw_S g t n T ((nd, a, ig_C g a, q) :: c) = xw_S g t n T c := by
        show (tk_A g t n T (ig_C g a - ig_C g a) (4 * a + ig_C g a) q).map (tr_k (nd + 1)) ++ xw_S g t n T c = _
        rw [Nat.sub_self]
        rfl
      rw [e0] at hL
      exact hL
end
end
section
/-! the component's tree and its parse -/
section
variable {g : ig_T} {t : Nat → Nat} {n R cp : Nat} {fz rc oR oN : Int32} {nu od ro mE mR mA tR tS tE tP wI wP : Nat → Int32} {T : Nat → Nat → Nat × Nat} {N : Nat → Bool}
theorem xg_loop {post : St2 → Prop} {p0 : Nat} {L : List tr_T} (F : xk_F g t n R) (hG : pu_G g t n R N T) (hNb : ig_Nb g N) (hM : ∀ s q, s < R → p0 ≤ q → q ≤ n → xk_P g t N n T mE mR mA s q)
    (hpost : ∀ (x K : Nat) (tR tS tE tP wI wP : ar_T), x ≤ 25 → L.length = K → tr_A L tR tS tE tP → post (nI R, nI cp, fz, nI (ig_A g), nI n, ip_m x, oR, nI K, ip_e (ig_O g), ip_e (ig_C g), ip_eb (ig_B g), ip_e (ig_L g), ip_e (ig_H g), ip_e (ig_M g), nu, od, ro, ip_e t, mE, mR, mA, tR, tS, tE, tP, wI, wP)) :
    ∀ (m nn st x K : Nat) (tR tS tE tP wI wP : ar_T) (v : Int32) (c : List xw_T) (L0 : List tr_T), m < nn → 6 * (64 - K) + xw_m c ≤ m → st + m ≤ 384 → x ≤ 25 → K ≤ 64 → xw_I g t n R p0 T L K tR tS tE tP wI wP v c L0 →
    wX_growTree_11 post nn v (nI st) (nI R) (nI cp) fz (nI (ig_A g)) (nI n) (ip_m x) oR (nI K) (ip_e (ig_O g)) (ip_e (ig_C g)) (ip_eb (ig_B g)) (ip_e (ig_L g)) (ip_e (ig_H g)) (ip_e (ig_M g)) nu od ro (ip_e t) mE mR mA tR tS tE tP wI wP := by
  intro m
  induction m with
  | zero =>
    intro nn st x K tR tS tE tP wI wP v c L0 hnn hm hst hx hK I
    obtain ⟨nn, rfl⟩ : ∃ k, nn = k + 1 := ⟨nn - 1, by omega⟩
    cases c with
    | nil =>
      obtain ⟨hLl, hA, hv, _, hL⟩ := I
      have hL' : L0 = L := by
        rw [← hL]
        show L0 = L0 ++ tr_L (tk_K g t n T) (65 - K) [] K
        rw [tr_L0, List.append_nil]
      rw [hL'] at hLl hA
      have P := hpost x K tR tS tE tP wI wP hx hLl hA
      exact br_c (fun _ => P) (fun _ => br_t hv P)
    | cons y c =>
      obtain ⟨_, _, ⟨_, ⟨_, _, _, _, _, _, _, _, _, _, _, h9, _⟩, _⟩, _⟩ := I
      have h4 := (F.2.2.1.2 y.2.1).2.1
      have : 6 * (64 - K) + ((5 - y.2.2.1) + xw_m c) ≤ 0 := hm
      omega
  | succ m ih =>
    intro nn st x K tR tS tE tP wI wP v c L0 hnn hm hst hx hK I
    obtain ⟨nn, rfl⟩ : ∃ k, nn = k + 1 := ⟨nn - 1, by omega⟩
    cases c with
    | nil =>
      obtain ⟨hLl, hA, hv, _, hL⟩ := I
      have hL' : L0 = L := by
        rw [← hL]
        show L0 = L0 ++ tr_L (tk_K g t n T) (65 - K) [] K
        rw [tr_L0, List.append_nil]
      rw [hL'] at hLl hA
      have P := hpost x K tR tS tE tP wI wP hx hLl hA
      exact br_c (fun _ => P) (fun _ => br_t hv P)
    | cons y c =>
      obtain ⟨nd, a, i, q⟩ := y
      have hv : v = nI nd := I.2.2.1.1
      have n64 : nd < 64 := I.2.2.1.2.1.1
      subst hv
      refine pk_le 384 st (fun z => by omega) (fun z => ip_m1br (y := nd + 1) rfl (by omega) (fun z => by omega) (fun _ => pk_lt 64 K (fun z => by omega) (fun _ => ?_)))
      refine xw_on (T := T) (N := N) (p0 := p0) (L := L) (m := m + 1) F hG hNb hM hx hK I hm ⟨?_, ?_⟩
      · intro x' K' tR' tS' tE' tP' wI' wP' v' c' L0' hx' hK' hm' I'
        exact nm_r (nI_1 st) (ih nn (st + 1) x' K' tR' tS' tE' tP' wI' wP' v' c' L0' (by omega) (by omega) (by omega) hx' hK' I')
      · intro x' tR' tS' tE' tP' wI' wP' hx' hl' hA'
        have P := hpost x' 65 tR' tS' tE' tP' wI' wP' hx' hl' hA'
        obtain ⟨nn, rfl⟩ : ∃ k, nn = k + 1 := ⟨nn - 1, by omega⟩
        exact nm_r (nI_1 st) (br_c (fun _ => P) (fun _ => br_c (fun _ => P) (fun _ => br_t (nI_lt (a := 64) (b := 65) (by decide) (by decide)) P)))
theorem xg_grow {post : St2 → Prop} {r p e x : Nat} (F : xk_F g t n R) (hG : pu_G g t n R N T) (hNb : ig_Nb g N) (hr : r < R) (hp : p ≤ n) (hM : ∀ s q, s < R → p ≤ q → q ≤ n → xk_P g t N n T mE mR mA s q) (hx : x ≤ 25) (hz : (T r p).1 = e + 1)
    (hpost : ∀ (x : Nat) (tR tS tE tP wI wP : ar_T), x ≤ 25 → tr_A (tr_L (tk_K g t n T) 65 [(r, p, e, 0)] 0) tR tS tE tP → post (nI R, nI cp, fz, nI (ig_A g), nI n, ip_m x, oR, nI (tr_L (tk_K g t n T) 65 [(r, p, e, 0)] 0).length, ip_e (ig_O g), ip_e (ig_C g), ip_eb (ig_B g), ip_e (ig_L g), ip_e (ig_H g), ip_e (ig_M g), nu, od, ro, ip_e t, mE, mR, mA, tR, tS, tE, tP, wI, wP)) :
    wpX_growTree post (nI R, nI cp, fz, nI (ig_A g), nI n, ip_m x, oR, 0, ip_e (ig_O g), ip_e (ig_C g), ip_eb (ig_B g), ip_e (ig_L g), ip_e (ig_H g), ip_e (ig_M g), nu, od, ro, ip_e t, mE, mR, mA, tR, tS, tE, tP, wI, wP) (nI r) (nI p) := by
  have hn24 := F.1
  have hR8 := F.2.1
  obtain ⟨w1, w2, w3, w4⟩ := pu_W hG hr hp (by omega)
  have hme : mE (r * 25 + p) = nI e := by rw [(hM r p hr (Nat.le_refl p) hp).1.1, hz]; rfl
  unfold wpX_growTree
  dsimp only
  refine xa_add (K := 0) (by omega) (by omega) (by omega) (fun z => by omega) (fun _ => ⟨385, ?_⟩)
  refine xg_loop (T := T) (N := N) (p0 := p) (L := tr_L (tk_K g t n T) 65 [(r, p, e, 0)] 0) F hG hNb hM (fun x K tR tS tE tP wI wP hx hl hA => ?_) 384 385 0 x 1 (upd tR 0 (nI r)) (upd tS 0 (nI p)) (upd tE 0 (mE (r * 25 + p))) (upd tP 0 (-1)) (upd wI 0 0) (upd wP 0 (nI p)) (nI 0) [(0, (pu_M g t n T r p).2.2, 0, p)] [(r, p, e, 0)] (by omega) ?_ (by omega) hx (by omega) ⟨rfl, ?_, ⟨rfl, ⟨Nat.zero_lt_succ 63, r, p, pk_us, pk_us, hr, Nat.le_refl p, Nat.le_refl p, hp, by omega, rfl, Nat.zero_le _, pk_us, pk_us, ?_⟩, ?_, pk_us⟩, ?_, ?_⟩
  · rw [← hl]
    exact hpost x tR tS tE tP wI wP hx hA
  · show 6 * (64 - 1) + ((5 - 0) + 0) ≤ 384
    omega
  · refine tr_Aadd (L := []) (tR := tR) (tS := tS) (tE := tE) (tP := tP) (fun j hj => absurd hj (Nat.not_lt_zero j)) (fun j hj => absurd hj (Nat.not_lt_zero j)) (fun j hj => absurd hj (Nat.not_lt_zero j)) (fun j hj => absurd hj (Nat.not_lt_zero j)) (fun _ => ?_) (tr_A0 _ _ _ _)
    exact ⟨pk_us, pk_us, pk_us.trans hme, pk_us⟩
  · exact tk_okA (ig_C g (pu_M g t n T r p).2.2) (4 * (pu_M g t n T r p).2.2) p (by rw [w3]; omega)
  · intro y hy
    exact absurd hy (by simp)
  · intro y hy
    rw [List.mem_singleton.mp hy]
    exact Nat.one_pos
  · rfl
/-- what a parse that is not refused answers and leaves -/
def xp_A (T : Nat → Nat → Nat × Nat) (K : Nat → Nat → List (Nat × Nat × Nat)) (r p : Nat) : List tr_T := if (T r p).1 = 0 then [] else tr_L K 65 [(r, p, (T r p).1 - 1, 0)] 0
theorem xp_parse {post : Int32 → St2 → Prop} {r p x : Nat} {rk rO : Nat → Nat} (F : xk_F g t n R) (hK : ig_K g R N rk) (hG : pu_G g t n R N T) (hO : ∀ k, k < R → rO k < R ∧ rk (rO k) = k) (hO' : ∀ r, r < R → rO (rk r) = r)
    (hr : r < R) (hp : p ≤ n) (hx : x ≤ 25)
    (h : ∀ (x : Nat) (mE mR mA tR tS tE tP wI wP : ar_T), x ≤ 25 → tr_A (xp_A T (tk_K g t n T) r p) tR tS tE tP → post (ip_m (T r p).1) (nI R, nI cp, 1, nI (ig_A g), nI n, ip_m x, ip_m (T r p).2, nI (xp_A T (tk_K g t n T) r p).length, ip_e (ig_O g), ip_e (ig_C g), ip_eb (ig_B g), ip_e (ig_L g), ip_e (ig_H g), ip_e (ig_M g), nu, od, ip_e rO, ip_e t, mE, mR, mA, tR, tS, tE, tP, wI, wP)) :
    wpX_parse post (nI R, nI cp, 1, nI (ig_A g), nI n, ip_m x, oR, oN, ip_e (ig_O g), ip_e (ig_C g), ip_eb (ig_B g), ip_e (ig_L g), ip_e (ig_H g), ip_e (ig_M g), nu, od, ip_e rO, ip_e t, mE, mR, mA, tR, tS, tE, tP, wI, wP) (nI r) (nI p) := by
  have hn24 := F.1
  have hR8 := F.2.1
  have hc : r * 25 + p < 200 := by omega
  have hi : vp_in (nI (r * 25 + p)) 200 := vp_in_nI hc (by decide)
  have ec : (nI (r * 25 + p)).toNatClampNeg = r * 25 + p := nI_clamp (by omega)
  refine br_f (by decide) (br_f (nI_pos (by omega)) (pk_le R r (fun z => by omega) (fun _ => br_f (by decide) (br_f (nI_pos (by omega)) (pk_le p n (fun _ => ?_) (fun z => by omega))))))
  refine xf_memo (T := T) (N := N) hx F hK hG hO hO' hp (fun x mE mR mA hx hM => nm_r (ip_l25 r p) ⟨hi, ?_⟩)
  obtain ⟨⟨q1, q2, q3⟩, _⟩ := hM r p hr (Nat.le_refl p) hp
  refine nm_r (e' := ip_m (T r p).2) (by rw [ec]; exact q2) ⟨hi, ?_⟩
  have q4 := q3.2
  have hb : (T r p).1 < 2 ^ 31 := by
    cases hz : (T r p).1 with
    | zero => decide
    | succ e => have := (q4 e hz).2.1; omega
  refine ip_m1br (y := (T r p).1) (by rw [ec]; exact q1) hb (fun z => ?_) (fun z => ?_)
  · have hl : xp_A T (tk_K g t n T) r p = [] := if_pos z
    have h' := h x mE mR mA tR tS tE tP wI wP hx (by rw [hl]; exact tr_A0 _ _ _ _)
    rw [hl, z] at h'
    exact h'
  · obtain ⟨e, he⟩ : ∃ e, (T r p).1 = e + 1 := ⟨(T r p).1 - 1, by omega⟩
    have hl : xp_A T (tk_K g t n T) r p = tr_L (tk_K g t n T) 65 [(r, p, e, 0)] 0 := by
      unfold xp_A
      rw [if_neg z, he]
      rfl
    refine xg_grow (T := T) (N := N) F hG hK.2.1 hr hp hM hx he (fun x tR tS tE tP wI wP hx hA => ⟨hi, ?_⟩)
    have h' := h x mE mR mA tR tS tE tP wI wP hx (by rw [hl]; exact hA)
    rw [hl] at h'
    rw [ec, q1]
    exact h'
end
end
section
/-! the component's compile -/
/-- a repeat of a nullable rule -/
def cp_bad (g : ig_T) (N : Nat → Bool) (it : Nat) : Prop := ig_rep g it ∧ ig_B g it = true ∧ N (ig_L g it) = true
theorem cp_NbI (g : ig_T) (N : Nat → Bool) : ig_Nb g N ↔ ¬ ∃ a, a < ig_A g ∧ ∃ i, i < ig_C g a ∧ cp_bad g N (4 * a + i) := by
  constructor
  · intro h z
    obtain ⟨a, ha, i, hi, h1, h2, h3⟩ := z
    rw [h a i ha hi h1 h2] at h3
    exact absurd h3 (by decide)
  · intro h a i ha hi h1 h2
    cases hb : N (ig_L g (4 * a + i)) with
    | false => rfl
    | true => exact absurd ⟨a, ha, i, hi, h1, h2, hb⟩ h
section
variable {g : ig_T} {t : Nat → Nat} {n R cp : Nat} {fz rc oR oN : Int32} {nu od ro mE mR mA tR tS tE tP wI wP : Nat → Int32} {N O : Nat → Bool}
theorem xc_item {post : Int32 → Prop} {it : Nat} (F : xk_F g t n R) (hit : it < 64) (h : post (ip_b (ig_nb g N it))) : wpX_isItemNullable post (nI R, nI cp, fz, nI (ig_A g), nI n, rc, oR, oN, ip_e (ig_O g), ip_e (ig_C g), ip_eb (ig_B g), ip_e (ig_L g), ip_e (ig_H g), ip_e (ig_M g), ip_eb N, od, ro, ip_e t, mE, mR, mA, tR, tS, tE, tP, wI, wP) (nI it) := by
  have hR8 := F.2.1
  obtain ⟨_, _, hM, hL, _, hB⟩ := F.2.2.1.2 it
  have c1 : it < 2 ^ 31 := by omega
  have hi : vp_in (nI it) 64 := vp_in_nI hit (by decide)
  have h16 : (ig_M g it = 0 ∨ ig_M g it = 3) → wX_isItemNullable_16 post (nI it) (nI R) (nI cp) fz (nI (ig_A g)) (nI n) rc oR oN (ip_e (ig_O g)) (ip_e (ig_C g)) (ip_eb (ig_B g)) (ip_e (ig_L g)) (ip_e (ig_H g)) (ip_e (ig_M g)) (ip_eb N) od ro (ip_e t) mE mR mA tR tS tE tP wI wP := fun hm => by
    refine ⟨hi, ip_br (ip_cb _ c1) (fun b => ?_) (fun b => ⟨hi, ?_, ip_br (b := N (ig_L g it)) ?_ (fun b2 => ?_) (fun b2 => ?_)⟩)⟩
    · have e : ig_nb g N it = false := (ig_nbF g N it).mpr (fun w => w.elim (fun w => by omega) (fun w => by rw [b] at w; exact absurd w.1 (by decide)))
      rw [e] at h; exact h
    · rw [ip_ce _ c1]; exact vp_in_nI (by have := hB b; omega) (by decide)
    · rw [ip_ce _ c1]; exact ip_cb N (by omega)
    · have e : ig_nb g N it = false := (ig_nbF g N it).mpr (fun w => w.elim (fun w => by omega) (fun w => by rw [b2] at w; exact absurd w.2 (by decide)))
      rw [e] at h; exact h
    · have e : ig_nb g N it = true := (ig_nbI g N it).mpr (Or.inr ⟨b, b2⟩)
      rw [e] at h; exact h
  refine ⟨hi, nm_r (ip_ce _ c1) (pk_eq (ig_M g it) 0 (fun z => h16 (Or.inl z)) (fun z0 => pk_eq (ig_M g it) 3 (fun z => h16 (Or.inr z)) (fun z3 => ?_)))⟩
  have e : ig_nb g N it = true := (ig_nbI g N it).mpr (Or.inl ⟨z0, z3⟩)
  rw [e] at h; exact h
theorem xc_alt {post : Int32 → Prop} {a : Nat} (F : xk_F g t n R) (ha : a < 16) (h : post (ip_b (cp_a g N (ig_C g a) (4 * a)))) : wpX_isAltNullable post (nI R, nI cp, fz, nI (ig_A g), nI n, rc, oR, oN, ip_e (ig_O g), ip_e (ig_C g), ip_eb (ig_B g), ip_e (ig_L g), ip_e (ig_H g), ip_e (ig_M g), ip_eb N, od, ro, ip_e t, mE, mR, mA, tR, tS, tE, tP, wI, wP) (nI a) := by
  have hC := (F.2.2.1.2 a).2.1
  have key : ∀ (k nn i : Nat), i + k = ig_C g a → k < nn → post (ip_b (cp_a g N k (4 * a + i))) → wX_isAltNullable_2 post (nI a) (nI R) (nI cp) fz (nI (ig_A g)) (nI n) rc oR oN (ip_e (ig_O g)) (ip_e (ig_C g)) (ip_eb (ig_B g)) (ip_e (ig_L g)) (ip_e (ig_H g)) (ip_e (ig_M g)) (ip_eb N) od ro (ip_e t) mE mR mA tR tS tE tP wI wP nn (nI i) := by
    intro k
    induction k with
    | zero =>
      intro nn i hi hnn hp
      obtain ⟨nn, rfl⟩ : ∃ k, nn = k + 1 := ⟨nn - 1, by omega⟩
      exact ⟨vp_in_nI ha (by decide), pk_le (ig_C g a) i (fun _ => hp) (fun z => by omega) (ip_ce _ (by omega))⟩
    | succ k ih =>
      intro nn i hi hnn hp
      obtain ⟨nn, rfl⟩ : ∃ k, nn = k + 1 := ⟨nn - 1, by omega⟩
      refine ⟨vp_in_nI ha (by decide), pk_le (ig_C g a) i (fun z => by omega) (fun _ => ?_) (ip_ce _ (by omega))⟩
      rw [ip_ls]
      have hp' : post (ip_b (ig_nb g N (4 * a + i) && cp_a g N k (4 * a + i + 1))) := hp
      refine xc_item F (by omega) (ip_br rfl (fun b => ?_) (fun b => nm_r (nI_1 i) (ih nn (i + 1) (by omega) (by omega) ?_)))
      · rw [b] at hp'; exact hp'
      · rw [b] at hp'; exact hp'
  exact ⟨ig_C g a + 1, key _ _ 0 (Nat.zero_add _) (Nat.lt_succ_self _) h⟩
theorem xc_33 {post : St2 → Prop} {J : Int32 → ar_T → ar_T → ar_T → ar_T → ar_T → ar_T → ar_T → ar_T → ar_T → ar_T → ar_T → ar_T → ar_T → ar_T → ar_T → ar_T → ar_T → ar_T → ar_T → Prop} {i : Nat} (F : xk_F g t n R) :
    ∀ (k nn a : Nat) (N : Nat → Bool), a + k = ig_A g → k < nn → J (nI (i + 1)) (ip_e (ig_O g)) (ip_e (ig_C g)) (ip_eb (ig_B g)) (ip_e (ig_L g)) (ip_e (ig_H g)) (ip_e (ig_M g)) (ip_eb (cp_l g k a N)) od ro (ip_e t) mE mR mA tR tS tE tP wI wP → wX_markNullableRules_33 post J (nI i) (nI R) (nI cp) fz (nI (ig_A g)) (nI n) rc oR oN nn (nI a) (ip_e (ig_O g)) (ip_e (ig_C g)) (ip_eb (ig_B g)) (ip_e (ig_L g)) (ip_e (ig_H g)) (ip_e (ig_M g)) (ip_eb N) od ro (ip_e t) mE mR mA tR tS tE tP wI wP := by
  have h16 := F.2.2.1.1
  have hR8 := F.2.1
  intro k
  induction k with
  | zero =>
    intro nn a N ha hnn h
    obtain ⟨nn, rfl⟩ : ∃ k, nn = k + 1 := ⟨nn - 1, by omega⟩
    exact pk_le (ig_A g) a (fun _ => nm_r (nI_1 i) h) (fun z => by omega)
  | succ k ih =>
    intro nn a N ha hnn h
    obtain ⟨nn, rfl⟩ : ∃ k, nn = k + 1 := ⟨nn - 1, by omega⟩
    have hO := (F.2.2.1.2 a).1
    have c1 : a < 2 ^ 31 := by omega
    have h' : J (nI (i + 1)) (ip_e (ig_O g)) (ip_e (ig_C g)) (ip_eb (ig_B g)) (ip_e (ig_L g)) (ip_e (ig_H g)) (ip_e (ig_M g)) (ip_eb (cp_l g k (a + 1) (if cp_a g N (ig_C g a) (4 * a) = true then ip_u N (ig_O g a) true else N))) od ro (ip_e t) mE mR mA tR tS tE tP wI wP := h
    refine pk_le (ig_A g) a (fun z => by omega) (fun _ => xc_alt F (by omega) (ip_br rfl (fun b => nm_r (nI_1 a) ?_) (fun b => ⟨vp_in_nI (by omega) (by decide), ?_, nm_r (e' := ip_eb (ip_u N (ig_O g a) true)) ?_ (nm_r (nI_1 a) ?_)⟩)))
    · rw [if_neg (by rw [b]; decide)] at h'
      exact ih nn (a + 1) N (by omega) (by omega) h'
    · rw [ip_ce _ c1]; exact vp_in_nI (by omega) (by decide)
    · rw [ip_ce _ c1, nI_clamp (by omega)]; exact ip_ueb N _ true
    · rw [if_pos b] at h'
      exact ih nn (a + 1) _ (by omega) (by omega) h'
theorem xc_23 {post : St2 → Prop} (F : xk_F g t n R) : ∀ (d nn i : Nat) (N : Nat → Bool), i + d = R → d < nn → post (nI R, nI cp, fz, nI (ig_A g), nI n, rc, oR, oN, ip_e (ig_O g), ip_e (ig_C g), ip_eb (ig_B g), ip_e (ig_L g), ip_e (ig_H g), ip_e (ig_M g), ip_eb (cp_r g d N), od, ro, ip_e t, mE, mR, mA, tR, tS, tE, tP, wI, wP) → wX_markNullableRules_23 post (nI R) (nI cp) fz (nI (ig_A g)) (nI n) rc oR oN nn (nI i) (ip_e (ig_O g)) (ip_e (ig_C g)) (ip_eb (ig_B g)) (ip_e (ig_L g)) (ip_e (ig_H g)) (ip_e (ig_M g)) (ip_eb N) od ro (ip_e t) mE mR mA tR tS tE tP wI wP := by
  have hR8 := F.2.1
  intro d
  induction d with
  | zero =>
    intro nn i N hi hnn h
    obtain ⟨nn, rfl⟩ : ∃ k, nn = k + 1 := ⟨nn - 1, by omega⟩
    exact pk_le R i (fun _ => h) (fun z => by omega)
  | succ d ih =>
    intro nn i N hi hnn h
    obtain ⟨nn, rfl⟩ : ∃ k, nn = k + 1 := ⟨nn - 1, by omega⟩
    refine pk_le R i (fun z => by omega) (fun _ => ⟨ig_A g + 1, xc_33 F (ig_A g) (ig_A g + 1) 0 N (Nat.zero_add _) (Nat.lt_succ_self _) ?_⟩)
    exact ih nn (i + 1) _ (by omega) (by omega) h
/-- bits that are put back to false one by one -/
theorem cp_clr {b i : Nat} {N : Nat → Bool} (h : ∀ j, j < i ∨ b ≤ j → N j = false) (hi : i ≤ b) : ∀ j, j < i + 1 ∨ b ≤ j → ip_u N i false j = false := by
  intro j hj
  by_cases e : j = i
  · rw [e]; exact ip_us
  · rw [ip_un e]; exact h j (by omega)
theorem xc_mark {post : St2 → Prop} (F : xk_F g t n R) (hN : ∀ j, 8 ≤ j → N j = false) (h : post (nI R, nI cp, fz, nI (ig_A g), nI n, rc, oR, oN, ip_e (ig_O g), ip_e (ig_C g), ip_eb (ig_B g), ip_e (ig_L g), ip_e (ig_H g), ip_e (ig_M g), ip_eb (cp_r g R (fun _ => false)), od, ro, ip_e t, mE, mR, mA, tR, tS, tE, tP, wI, wP)) : wpX_markNullableRules post (nI R, nI cp, fz, nI (ig_A g), nI n, rc, oR, oN, ip_e (ig_O g), ip_e (ig_C g), ip_eb (ig_B g), ip_e (ig_L g), ip_e (ig_H g), ip_e (ig_M g), ip_eb N, od, ro, ip_e t, mE, mR, mA, tR, tS, tE, tP, wI, wP) := by
  have key : ∀ (d nn i : Nat) (N : Nat → Bool), i + d = 8 → d < nn → (∀ j, j < i ∨ 8 ≤ j → N j = false) → wX_markNullableRules_2 post (nI R) (nI cp) fz (nI (ig_A g)) (nI n) rc oR oN nn (nI i) (ip_e (ig_O g)) (ip_e (ig_C g)) (ip_eb (ig_B g)) (ip_e (ig_L g)) (ip_e (ig_H g)) (ip_e (ig_M g)) (ip_eb N) od ro (ip_e t) mE mR mA tR tS tE tP wI wP := by
    intro d
    induction d with
    | zero =>
      intro nn i N hi hnn hc
      obtain ⟨nn, rfl⟩ : ∃ k, nn = k + 1 := ⟨nn - 1, by omega⟩
      have e : N = fun _ => false := funext fun j => hc j (by omega)
      subst e
      exact pk_le 8 i (fun _ => ⟨R + 1, xc_23 F R (R + 1) 0 _ (Nat.zero_add _) (Nat.lt_succ_self _) h⟩) (fun z => by omega)
    | succ d ih =>
      intro nn i N hi hnn hc
      obtain ⟨nn, rfl⟩ : ∃ k, nn = k + 1 := ⟨nn - 1, by omega⟩
      refine pk_le 8 i (fun z => by omega) (fun _ => ⟨vp_in_nI (by omega) (by decide), nm_r (e' := ip_eb (ip_u N i false)) ?_ (nm_r (nI_1 i) ?_)⟩)
      · rw [nI_clamp (by omega)]; exact ip_ueb N i false
      · exact ih nn (i + 1) _ (by omega) (by omega) (cp_clr hc (by omega))
  exact ⟨9, key 8 9 0 N (by omega) (by omega) (fun j hj => hN j (by omega))⟩
theorem xc_bad {post : Int32 → Prop} (F : xk_F g t n R) (h1 : ¬ ig_Nb g N → post 1) (h0 : ig_Nb g N → post 0) : wpX_hasBadRepeat post (nI R, nI cp, fz, nI (ig_A g), nI n, rc, oR, oN, ip_e (ig_O g), ip_e (ig_C g), ip_eb (ig_B g), ip_e (ig_L g), ip_e (ig_H g), ip_e (ig_M g), ip_eb N, od, ro, ip_e t, mE, mR, mA, tR, tS, tE, tP, wI, wP) := by
  have hR8 := F.2.1
  have h16 := F.2.2.1.1
  have inner : ∀ (a : Nat) (J : Int32 → Prop), a < ig_A g → ∀ (k nn i : Nat), i + k = ig_C g a → k < nn → ((∃ j, j < k ∧ cp_bad g N (4 * a + i + j)) → post 1) → ((¬ ∃ j, j < k ∧ cp_bad g N (4 * a + i + j)) → J (nI (a + 1))) →
      wX_hasBadRepeat_12 post J (nI a) (nI R) (nI cp) fz (nI (ig_A g)) (nI n) rc oR oN (ip_e (ig_O g)) (ip_e (ig_C g)) (ip_eb (ig_B g)) (ip_e (ig_L g)) (ip_e (ig_H g)) (ip_e (ig_M g)) (ip_eb N) od ro (ip_e t) mE mR mA tR tS tE tP wI wP nn (nI i) := by
    intro a J ha k
    have hC := (F.2.2.1.2 a).2.1
    induction k with
    | zero =>
      intro nn i hi hnn p1 p0
      obtain ⟨nn, rfl⟩ : ∃ k, nn = k + 1 := ⟨nn - 1, by omega⟩
      exact ⟨vp_in_nI (by omega) (by decide), pk_le (ig_C g a) i (fun _ => nm_r (nI_1 a) (p0 (fun z => by obtain ⟨j, hj, _⟩ := z; omega))) (fun z => by omega) (ip_ce _ (by omega))⟩
    | succ k ih =>
      intro nn i hi hnn p1 p0
      obtain ⟨nn, rfl⟩ : ∃ k, nn = k + 1 := ⟨nn - 1, by omega⟩
      have hit : 4 * a + i < 64 := by omega
      have c1 : 4 * a + i < 2 ^ 31 := by omega
      have hv : vp_in (nI (4 * a + i)) 64 := vp_in_nI hit (by decide)
      obtain ⟨_, _, hM, hL, _, hB⟩ := F.2.2.1.2 (4 * a + i)
      have sh : ∀ j, 4 * a + (i + 1) + j = 4 * a + i + (j + 1) := fun j => by omega
      have next : ¬ cp_bad g N (4 * a + i) → wX_hasBadRepeat_12 post J (nI a) (nI R) (nI cp) fz (nI (ig_A g)) (nI n) rc oR oN (ip_e (ig_O g)) (ip_e (ig_C g)) (ip_eb (ig_B g)) (ip_e (ig_L g)) (ip_e (ig_H g)) (ip_e (ig_M g)) (ip_eb N) od ro (ip_e t) mE mR mA tR tS tE tP wI wP nn (nI (i + 1)) := fun hb => by
        refine ih nn (i + 1) (by omega) (by omega) (fun z => p1 ?_) (fun z => p0 (fun w => z ?_))
        · obtain ⟨j, hj, hz⟩ := z
          exact ⟨j + 1, by omega, by rw [← sh]; exact hz⟩
        · obtain ⟨j, hj, hz⟩ := w
          cases j with
          | zero => exact absurd hz hb
          | succ j => exact ⟨j, by omega, by rw [sh]; exact hz⟩
      refine ⟨vp_in_nI (by omega) (by decide), pk_le (ig_C g a) i (fun z => by omega) (fun _ => nm_r (e' := nI (4 * a + i)) (ip_ls a i) (xt_rep F hit (fun rp => br_f (by decide) ⟨hv, ip_br (ip_cb _ c1) (fun b => nm_r (nI_1 i) (next (fun w => ?_))) (fun b => ⟨hv, ?_, ip_br (b := N (ig_L g (4 * a + i))) ?_ (fun b2 => nm_r (nI_1 i) (next (fun w => ?_))) (fun b2 => p1 ⟨0, by omega, rp, b, b2⟩)⟩)⟩) (fun rp => br_t rfl (nm_r (nI_1 i) (next (fun w => rp w.1)))))) (ip_ce _ (by omega))⟩
      · rw [w.2.1] at b; exact absurd b (by decide)
      · rw [ip_ce _ c1]; exact vp_in_nI (by have := hB b; omega) (by decide)
      · rw [ip_ce _ c1]; exact ip_cb N (by omega)
      · rw [w.2.2] at b2; exact absurd b2 (by decide)
  have outer : ∀ (k nn a : Nat), a + k = ig_A g → k < nn → ((∃ b, a ≤ b ∧ b < ig_A g ∧ ∃ i, i < ig_C g b ∧ cp_bad g N (4 * b + i)) → post 1) → ((¬ ∃ b, a ≤ b ∧ b < ig_A g ∧ ∃ i, i < ig_C g b ∧ cp_bad g N (4 * b + i)) → post 0) →
      wX_hasBadRepeat_2 post (nI R) (nI cp) fz (nI (ig_A g)) (nI n) rc oR oN (ip_e (ig_O g)) (ip_e (ig_C g)) (ip_eb (ig_B g)) (ip_e (ig_L g)) (ip_e (ig_H g)) (ip_e (ig_M g)) (ip_eb N) od ro (ip_e t) mE mR mA tR tS tE tP wI wP nn (nI a) := by
    intro k
    induction k with
    | zero =>
      intro nn a ha hnn p1 p0
      obtain ⟨nn, rfl⟩ : ∃ k, nn = k + 1 := ⟨nn - 1, by omega⟩
      exact pk_le (ig_A g) a (fun _ => p0 (fun z => by obtain ⟨b, z1, z2, _⟩ := z; omega)) (fun z => by omega)
    | succ k ih =>
      intro nn a ha hnn p1 p0
      obtain ⟨nn, rfl⟩ : ∃ k, nn = k + 1 := ⟨nn - 1, by omega⟩
      refine pk_le (ig_A g) a (fun z => by omega) (fun _ => ⟨ig_C g a + 1, inner a _ (by omega) (ig_C g a) _ 0 (Nat.zero_add _) (Nat.lt_succ_self _) (fun z => p1 ?_) (fun z => ih nn (a + 1) (by omega) (by omega) (fun w => p1 ?_) (fun w => p0 (fun y => ?_)))⟩)
      · obtain ⟨j, hj, hz⟩ := z
        exact ⟨a, Nat.le_refl a, by omega, j, hj, hz⟩
      · obtain ⟨b, y1, y2, y3⟩ := w
        exact ⟨b, by omega, y2, y3⟩
      · obtain ⟨b, y1, y2, j, y3, y4⟩ := y
        rcases Nat.eq_or_lt_of_le y1 with e | e
        · subst e
          exact z ⟨j, y3, y4⟩
        · exact w ⟨b, by omega, y2, j, y3, y4⟩
  refine ⟨ig_A g + 1, outer _ _ 0 (Nat.zero_add _) (Nat.lt_succ_self _) (fun z => h1 (fun w => (cp_NbI g N).mp w ?_)) (fun z => h0 ((cp_NbI g N).mpr (fun w => z ?_)))⟩
  · obtain ⟨b, _, y2, y3⟩ := z
    exact ⟨b, y2, y3⟩
  · obtain ⟨b, y2, y3⟩ := w
    exact ⟨b, Nat.zero_le b, y2, y3⟩
theorem xc_altS {post : Int32 → Prop} {a : Nat} (F : xk_F g t n R) (ha : a < 16) (h1 : cp_s g N O (ig_C g a) (4 * a) → post 1) (h0 : ¬ cp_s g N O (ig_C g a) (4 * a) → post 0) : wpX_areAltStartCallsOrdered post (nI R, nI cp, fz, nI (ig_A g), nI n, rc, oR, oN, ip_e (ig_O g), ip_e (ig_C g), ip_eb (ig_B g), ip_e (ig_L g), ip_e (ig_H g), ip_e (ig_M g), ip_eb N, ip_eb O, ro, ip_e t, mE, mR, mA, tR, tS, tE, tP, wI, wP) (nI a) := by
  have hR8 := F.2.1
  have hC := (F.2.2.1.2 a).2.1
  have key : ∀ (k nn i : Nat), i + k = ig_C g a → k < nn → (cp_s g N O k (4 * a + i) → post 1) → (¬ cp_s g N O k (4 * a + i) → post 0) → wX_areAltStartCallsOrdered_2 post (nI a) (nI R) (nI cp) fz (nI (ig_A g)) (nI n) rc oR oN (ip_e (ig_O g)) (ip_e (ig_C g)) (ip_eb (ig_B g)) (ip_e (ig_L g)) (ip_e (ig_H g)) (ip_e (ig_M g)) (ip_eb N) (ip_eb O) ro (ip_e t) mE mR mA tR tS tE tP wI wP nn (nI i) := by
    intro k
    induction k with
    | zero =>
      intro nn i hi hnn p1 p0
      obtain ⟨nn, rfl⟩ : ∃ k, nn = k + 1 := ⟨nn - 1, by omega⟩
      exact ⟨vp_in_nI ha (by decide), pk_le (ig_C g a) i (fun _ => p1 trivial) (fun z => by omega) (ip_ce _ (by omega))⟩
    | succ k ih =>
      intro nn i hi hnn p1 p0
      obtain ⟨nn, rfl⟩ : ∃ k, nn = k + 1 := ⟨nn - 1, by omega⟩
      have hit : 4 * a + i < 64 := by omega
      have c1 : 4 * a + i < 2 ^ 31 := by omega
      have hv : vp_in (nI (4 * a + i)) 64 := vp_in_nI hit (by decide)
      obtain ⟨_, _, hM, hL, _, hB⟩ := F.2.2.1.2 (4 * a + i)
      have next : ¬ (ig_B g (4 * a + i) = true ∧ O (ig_L g (4 * a + i)) = false) → wX_areAltStartCallsOrdered_43 post (wX_areAltStartCallsOrdered_2 post (nI a) (nI R) (nI cp) fz (nI (ig_A g)) (nI n) rc oR oN (ip_e (ig_O g)) (ip_e (ig_C g)) (ip_eb (ig_B g)) (ip_e (ig_L g)) (ip_e (ig_H g)) (ip_e (ig_M g)) (ip_eb N) (ip_eb O) ro (ip_e t) mE mR mA tR tS tE tP wI wP nn) (nI a) (nI i) (nI (4 * a + i)) (nI R) (nI cp) fz (nI (ig_A g)) (nI n) rc oR oN (ip_e (ig_O g)) (ip_e (ig_C g)) (ip_eb (ig_B g)) (ip_e (ig_L g)) (ip_e (ig_H g)) (ip_e (ig_M g)) (ip_eb N) (ip_eb O) ro (ip_e t) mE mR mA tR tS tE tP wI wP := fun hb => by
        unfold wX_areAltStartCallsOrdered_43
        refine xc_item F hit (ip_br rfl (fun b => p1 ⟨hb, fun w => absurd w ((ig_nbF g N _).mp b)⟩) (fun b => nm_r (nI_1 i) (ih nn (i + 1) (by omega) (by omega) (fun z => p1 ⟨hb, fun _ => z⟩) (fun z => p0 (fun w => z (w.2 ((ig_nbI g N _).mp b)))))))
      refine ⟨vp_in_nI ha (by decide), pk_le (ig_C g a) i (fun z => by omega) (fun _ => nm_r (e' := nI (4 * a + i)) (ip_ls a i) ⟨hv, ip_br (ip_cb _ c1) (fun b => next (fun w => ?_)) (fun b => ⟨hv, ?_, ip_br (b := O (ig_L g (4 * a + i))) ?_ (fun b2 => p0 (fun w => w.1 ⟨b, b2⟩)) (fun b2 => next (fun w => ?_))⟩)⟩) (ip_ce _ (by omega))⟩
      · rw [w.1] at b; exact absurd b (by decide)
      · rw [ip_ce _ c1]; exact vp_in_nI (by have := hB b; omega) (by decide)
      · rw [ip_ce _ c1]; exact ip_cb O (by omega)
      · rw [w.2] at b2; exact absurd b2 (by decide)
  exact ⟨ig_C g a + 1, key _ _ 0 (Nat.zero_add _) (Nat.lt_succ_self _) h1 h0⟩
theorem xc_start {post : Int32 → Prop} {r : Nat} (F : xk_F g t n R) (hr : r < R) (h1 : (∀ s, ig_S g N r s → O s = true) → post 1) (h0 : ¬ (∀ s, ig_S g N r s → O s = true) → post 0) : wpX_areStartCallsOrdered post (nI R, nI cp, fz, nI (ig_A g), nI n, rc, oR, oN, ip_e (ig_O g), ip_e (ig_C g), ip_eb (ig_B g), ip_e (ig_L g), ip_e (ig_H g), ip_e (ig_M g), ip_eb N, ip_eb O, ro, ip_e t, mE, mR, mA, tR, tS, tE, tP, wI, wP) (nI r) := by
  have hR8 := F.2.1
  have h16 := F.2.2.1.1
  rw [← cp_sS] at h1 h0
  have key : ∀ (k nn a : Nat), a + k = ig_A g → k < nn → ((∀ b, a ≤ b → b < ig_A g → ig_O g b = r → cp_s g N O (ig_C g b) (4 * b)) → post 1) → (¬ (∀ b, a ≤ b → b < ig_A g → ig_O g b = r → cp_s g N O (ig_C g b) (4 * b)) → post 0) → wX_areStartCallsOrdered_2 post (nI r) (nI R) (nI cp) fz (nI (ig_A g)) (nI n) rc oR oN (ip_e (ig_O g)) (ip_e (ig_C g)) (ip_eb (ig_B g)) (ip_e (ig_L g)) (ip_e (ig_H g)) (ip_e (ig_M g)) (ip_eb N) (ip_eb O) ro (ip_e t) mE mR mA tR tS tE tP wI wP nn (nI a) := by
    intro k
    induction k with
    | zero =>
      intro nn a ha hnn p1 p0
      obtain ⟨nn, rfl⟩ : ∃ k, nn = k + 1 := ⟨nn - 1, by omega⟩
      exact pk_le (ig_A g) a (fun _ => p1 (fun b y1 y2 => by omega)) (fun z => by omega)
    | succ k ih =>
      intro nn a ha hnn p1 p0
      obtain ⟨nn, rfl⟩ : ∃ k, nn = k + 1 := ⟨nn - 1, by omega⟩
      have hO := (F.2.2.1.2 a).1
      have next : (ig_O g a = r → cp_s g N O (ig_C g a) (4 * a)) → wX_areStartCallsOrdered_2 post (nI r) (nI R) (nI cp) fz (nI (ig_A g)) (nI n) rc oR oN (ip_e (ig_O g)) (ip_e (ig_C g)) (ip_eb (ig_B g)) (ip_e (ig_L g)) (ip_e (ig_H g)) (ip_e (ig_M g)) (ip_eb N) (ip_eb O) ro (ip_e t) mE mR mA tR tS tE tP wI wP nn (nI (a + 1)) := fun hs => by
        refine ih nn (a + 1) (by omega) (by omega) (fun z => p1 (fun b y1 y2 y3 => ?_)) (fun z => p0 (fun w => z (fun b y1 y2 y3 => w b (by omega) y2 y3)))
        rcases Nat.eq_or_lt_of_le y1 with e | e
        · subst e; exact hs y3
        · exact z b (by omega) y2 y3
      refine pk_le (ig_A g) a (fun z => by omega) (fun _ => ⟨vp_in_nI (by omega) (by decide), pk_eq (ig_O g a) r (fun ho => ?_) (fun ho => nm_r (nI_1 a) (next (fun z => absurd z ho))) (ip_ce _ (by omega))⟩)
      exact xc_altS F (by omega) (fun hs => br_f (by decide) (nm_r (nI_1 a) (next (fun _ => hs)))) (fun hs => br_t rfl (p0 (fun w => hs (w a (Nat.le_refl a) (by omega) ho))))
  refine ⟨ig_A g + 1, key _ _ 0 (Nat.zero_add _) (Nat.lt_succ_self _) (fun z => h1 (fun b y1 y2 => z b (Nat.zero_le b) y1 y2)) (fun z => h0 (fun w => z (fun b _ y1 y2 => w b y1 y2)))⟩
theorem xc_35 {post : Int32 → St2 → Prop} {J : Int32 → Int32 → ar_T → ar_T → ar_T → ar_T → ar_T → ar_T → ar_T → ar_T → ar_T → ar_T → ar_T → ar_T → ar_T → ar_T → ar_T → ar_T → ar_T → ar_T → ar_T → Prop} {i : Nat} (F : xk_F g t n R) :
    ∀ (k nn r : Nat) (S : (Nat → Bool) × Nat × (Nat → Nat)), r + k = R → k < nn → od_I g N R S → J (nI (od_l g N k r S).2.1) (nI (i + 1)) (ip_e (ig_O g)) (ip_e (ig_C g)) (ip_eb (ig_B g)) (ip_e (ig_L g)) (ip_e (ig_H g)) (ip_e (ig_M g)) (ip_eb N) (ip_eb (od_l g N k r S).1) (ip_e (od_l g N k r S).2.2) (ip_e t) mE mR mA tR tS tE tP wI wP →
    wX_orderRules_35 post J (nI i) (nI R) (nI cp) fz (nI (ig_A g)) (nI n) rc oR oN nn (nI S.2.1) (nI r) (ip_e (ig_O g)) (ip_e (ig_C g)) (ip_eb (ig_B g)) (ip_e (ig_L g)) (ip_e (ig_H g)) (ip_e (ig_M g)) (ip_eb N) (ip_eb S.1) (ip_e S.2.2) (ip_e t) mE mR mA tR tS tE tP wI wP := by
  have hR8 := F.2.1
  intro k
  induction k with
  | zero =>
    intro nn r S hr hnn hI h
    obtain ⟨nn, rfl⟩ : ∃ k, nn = k + 1 := ⟨nn - 1, by omega⟩
    exact pk_le R r (fun _ => nm_r (nI_1 i) h) (fun z => by omega)
  | succ k ih =>
    intro nn r S hr hnn hI h
    obtain ⟨nn, rfl⟩ : ∃ k, nn = k + 1 := ⟨nn - 1, by omega⟩
    have c1 : r < 2 ^ 31 := by omega
    have hv : vp_in (nI r) 8 := vp_in_nI (by omega) (by decide)
    have hI' := od_sI (g := g) (N := N) (R := R) (r := r) (by omega) hI
    have h' : J (nI (od_l g N k (r + 1) (od_s g N r S)).2.1) (nI (i + 1)) (ip_e (ig_O g)) (ip_e (ig_C g)) (ip_eb (ig_B g)) (ip_e (ig_L g)) (ip_e (ig_H g)) (ip_e (ig_M g)) (ip_eb N) (ip_eb (od_l g N k (r + 1) (od_s g N r S)).1) (ip_e (od_l g N k (r + 1) (od_s g N r S)).2.2) (ip_e t) mE mR mA tR tS tE tP wI wP := h
    refine pk_le R r (fun z => by omega) (fun _ => ⟨hv, ip_br (ip_cb _ c1) (fun b => xc_start F (by omega) (fun hs => br_f (by decide) ?_) (fun hs => br_t rfl (nm_r (nI_1 r) ?_))) (fun b => nm_r (nI_1 r) ?_)⟩)
    · rw [od_sT b hs] at h' hI'
      have hp : S.2.1 < 8 := by
        have e1 : S.2.1 + 1 = cp_c (ip_u S.1 r true) R := hI'.1
        have := cp_cle (ip_u S.1 r true) R
        omega
      refine ⟨hv, nm_r (e' := ip_eb (ip_u S.1 r true)) (by rw [nI_clamp c1]; exact ip_ueb _ _ true) ⟨vp_in_nI hp (by decide), nm_r (e' := ip_e (ip_u S.2.2 S.2.1 r)) (by rw [nI_clamp (by omega)]; exact ip_ue _ _ _) (nm_r (nI_1 _) (nm_r (nI_1 r) ?_))⟩⟩
      exact ih nn (r + 1) (ip_u S.1 r true, S.2.1 + 1, ip_u S.2.2 S.2.1 r) (by omega) (by omega) hI' h'
    · rw [od_sF (fun z => hs z.2)] at h' hI'
      exact ih nn (r + 1) S (by omega) (by omega) hI' h'
    · rw [od_sF (fun z => by rw [z.1] at b; exact absurd b (by decide))] at h' hI'
      exact ih nn (r + 1) S (by omega) (by omega) hI' h'
theorem xc_25 {post : Int32 → St2 → Prop} (F : xk_F g t n R) : ∀ (d nn i : Nat) (S : (Nat → Bool) × Nat × (Nat → Nat)), i + d = R → d < nn → od_I g N R S →
    ((od_r g N R d S).2.1 = R → post 1 (nI R, nI cp, fz, nI (ig_A g), nI n, rc, oR, oN, ip_e (ig_O g), ip_e (ig_C g), ip_eb (ig_B g), ip_e (ig_L g), ip_e (ig_H g), ip_e (ig_M g), ip_eb N, ip_eb (od_r g N R d S).1, ip_e (od_r g N R d S).2.2, ip_e t, mE, mR, mA, tR, tS, tE, tP, wI, wP)) → ((od_r g N R d S).2.1 ≠ R → post 0 (nI R, nI cp, fz, nI (ig_A g), nI n, rc, oR, oN, ip_e (ig_O g), ip_e (ig_C g), ip_eb (ig_B g), ip_e (ig_L g), ip_e (ig_H g), ip_e (ig_M g), ip_eb N, ip_eb (od_r g N R d S).1, ip_e (od_r g N R d S).2.2, ip_e t, mE, mR, mA, tR, tS, tE, tP, wI, wP)) →
    wX_orderRules_25 post (nI R) (nI cp) fz (nI (ig_A g)) (nI n) rc oR oN nn (nI S.2.1) (nI i) (ip_e (ig_O g)) (ip_e (ig_C g)) (ip_eb (ig_B g)) (ip_e (ig_L g)) (ip_e (ig_H g)) (ip_e (ig_M g)) (ip_eb N) (ip_eb S.1) (ip_e S.2.2) (ip_e t) mE mR mA tR tS tE tP wI wP := by
  have hR8 := F.2.1
  intro d
  induction d with
  | zero =>
    intro nn i S hi hnn hI h1 h0
    obtain ⟨nn, rfl⟩ : ∃ k, nn = k + 1 := ⟨nn - 1, by omega⟩
    have hp : S.2.1 ≤ R := by rw [hI.1]; exact cp_cle _ _
    exact pk_le R i (fun _ => pk_eq S.2.1 R h1 h0) (fun z => by omega)
  | succ d ih =>
    intro nn i S hi hnn hI h1 h0
    obtain ⟨nn, rfl⟩ : ∃ k, nn = k + 1 := ⟨nn - 1, by omega⟩
    refine pk_le R i (fun z => by omega) (fun _ => ⟨R + 1, xc_35 F R (R + 1) 0 S (Nat.zero_add _) (Nat.lt_succ_self _) hI ?_⟩)
    exact ih nn (i + 1) (od_l g N R 0 S) (by omega) (by omega) (od_lI R 0 S (by omega) hI) h1 h0
theorem xc_order {post : Int32 → St2 → Prop} {rO : Nat → Nat} (F : xk_F g t n R) (hO : ∀ j, 8 ≤ j → O j = false)
    (h1 : (od_r g N R R (fun _ => false, 0, rO)).2.1 = R → post 1 (nI R, nI cp, fz, nI (ig_A g), nI n, rc, oR, oN, ip_e (ig_O g), ip_e (ig_C g), ip_eb (ig_B g), ip_e (ig_L g), ip_e (ig_H g), ip_e (ig_M g), ip_eb N, ip_eb (od_r g N R R (fun _ => false, 0, rO)).1, ip_e (od_r g N R R (fun _ => false, 0, rO)).2.2, ip_e t, mE, mR, mA, tR, tS, tE, tP, wI, wP))
    (h0 : (od_r g N R R (fun _ => false, 0, rO)).2.1 ≠ R → post 0 (nI R, nI cp, fz, nI (ig_A g), nI n, rc, oR, oN, ip_e (ig_O g), ip_e (ig_C g), ip_eb (ig_B g), ip_e (ig_L g), ip_e (ig_H g), ip_e (ig_M g), ip_eb N, ip_eb (od_r g N R R (fun _ => false, 0, rO)).1, ip_e (od_r g N R R (fun _ => false, 0, rO)).2.2, ip_e t, mE, mR, mA, tR, tS, tE, tP, wI, wP)) :
    wpX_orderRules post (nI R, nI cp, fz, nI (ig_A g), nI n, rc, oR, oN, ip_e (ig_O g), ip_e (ig_C g), ip_eb (ig_B g), ip_e (ig_L g), ip_e (ig_H g), ip_e (ig_M g), ip_eb N, ip_eb O, ip_e rO, ip_e t, mE, mR, mA, tR, tS, tE, tP, wI, wP) := by
  have key : ∀ (d nn i : Nat) (O : Nat → Bool), i + d = 8 → d < nn → (∀ j, j < i ∨ 8 ≤ j → O j = false) → wX_orderRules_4 post 0 (nI R) (nI cp) fz (nI (ig_A g)) (nI n) rc oR oN nn (nI i) (ip_e (ig_O g)) (ip_e (ig_C g)) (ip_eb (ig_B g)) (ip_e (ig_L g)) (ip_e (ig_H g)) (ip_e (ig_M g)) (ip_eb N) (ip_eb O) (ip_e rO) (ip_e t) mE mR mA tR tS tE tP wI wP := by
    intro d
    induction d with
    | zero =>
      intro nn i O hi hnn hc
      obtain ⟨nn, rfl⟩ : ∃ k, nn = k + 1 := ⟨nn - 1, by omega⟩
      have e : O = fun _ => false := funext fun j => hc j (by omega)
      subst e
      exact pk_le 8 i (fun _ => ⟨R + 1, xc_25 F R (R + 1) 0 (fun _ => false, 0, rO) (Nat.zero_add _) (Nat.lt_succ_self _) (od_0 g N R rO) h1 h0⟩) (fun z => by omega)
    | succ d ih =>
      intro nn i O hi hnn hc
      obtain ⟨nn, rfl⟩ : ∃ k, nn = k + 1 := ⟨nn - 1, by omega⟩
      refine pk_le 8 i (fun z => by omega) (fun _ => ⟨vp_in_nI (by omega) (by decide), nm_r (e' := ip_eb (ip_u O i false)) ?_ (nm_r (nI_1 i) ?_)⟩)
      · rw [nI_clamp (by omega)]; exact ip_ueb O i false
      · exact ih nn (i + 1) _ (by omega) (by omega) (cp_clr hc (by omega))
  exact ⟨9, key 8 9 0 O (by omega) (by omega) (fun j hj => hO j (by omega))⟩
end
/-- the nullable rules, the order that is found -/
def cp_N (g : ig_T) (R : Nat) : Nat → Bool := cp_r g R (fun _ => false)
noncomputable def cp_O (g : ig_T) (R : Nat) (rO : Nat → Nat) : (Nat → Bool) × Nat × (Nat → Nat) := od_r g (cp_N g R) R R (fun _ => false, 0, rO)
section
variable {g : ig_T} {t : Nat → Nat} {n R cp : Nat} {fz rc oR oN : Int32} {nu od ro mE mR mA tR tS tE tP wI wP : Nat → Int32} {N O : Nat → Bool} {rO : Nat → Nat}
theorem xc_compile {post : Int32 → St2 → Prop} (F : xk_F g t n R) (hN : ∀ j, 8 ≤ j → N j = false) (hO : ∀ j, 8 ≤ j → O j = false)
    (h2 : ¬ ig_Nb g (cp_N g R) → post 2 (nI R, nI cp, 0, nI (ig_A g), nI n, rc, oR, oN, ip_e (ig_O g), ip_e (ig_C g), ip_eb (ig_B g), ip_e (ig_L g), ip_e (ig_H g), ip_e (ig_M g), ip_eb (cp_N g R), ip_eb O, ip_e rO, ip_e t, mE, mR, mA, tR, tS, tE, tP, wI, wP))
    (h3 : ig_Nb g (cp_N g R) → (cp_O g R rO).2.1 ≠ R → post 3 (nI R, nI cp, 0, nI (ig_A g), nI n, rc, oR, oN, ip_e (ig_O g), ip_e (ig_C g), ip_eb (ig_B g), ip_e (ig_L g), ip_e (ig_H g), ip_e (ig_M g), ip_eb (cp_N g R), ip_eb (cp_O g R rO).1, ip_e (cp_O g R rO).2.2, ip_e t, mE, mR, mA, tR, tS, tE, tP, wI, wP))
    (h0 : ig_Nb g (cp_N g R) → (cp_O g R rO).2.1 = R → post 0 (nI R, nI cp, 1, nI (ig_A g), nI n, rc, oR, oN, ip_e (ig_O g), ip_e (ig_C g), ip_eb (ig_B g), ip_e (ig_L g), ip_e (ig_H g), ip_e (ig_M g), ip_eb (cp_N g R), ip_eb (cp_O g R rO).1, ip_e (cp_O g R rO).2.2, ip_e t, mE, mR, mA, tR, tS, tE, tP, wI, wP)) :
    wpX_compile post (nI R, nI cp, 0, nI (ig_A g), nI n, rc, oR, oN, ip_e (ig_O g), ip_e (ig_C g), ip_eb (ig_B g), ip_e (ig_L g), ip_e (ig_H g), ip_e (ig_M g), ip_eb N, ip_eb O, ip_e rO, ip_e t, mE, mR, mA, tR, tS, tE, tP, wI, wP) := by
  refine br_t rfl (xc_mark F hN (xc_bad F (fun z => br_f (by decide) (h2 z)) (fun z => br_t rfl ?_)))
  exact xc_order F hO (fun w => br_f (by decide) (h0 z w)) (fun w => br_t rfl (h3 z w))
end
end
section
/-! the text and its edits -/
def tx_i (pos : Nat) : Nat → (Nat → Nat) → (Nat → Nat)
  | 0, t => t
  | d + 1, t => tx_i pos d (ip_u t (pos + d + 1) (t (pos + d)))
def tx_d (len : Nat) : Nat → Nat → (Nat → Nat) → (Nat → Nat)
  | 0, _, t => t
  | d + 1, j, t => tx_d len d (j + 1) (ip_u t j (t (j + len)))
def tx_c (t : Nat → Nat) : Prop := ∀ j, t j < 65536
theorem tx_u {t : Nat → Nat} {k v : Nat} (h : tx_c t) (hv : v < 65536) : tx_c (ip_u t k v) := by
  intro j
  by_cases e : j = k
  · rw [e, ip_us]; exact hv
  · rw [ip_un e]; exact h j
theorem tx_ic (pos : Nat) : ∀ d t, tx_c t → tx_c (tx_i pos d t) := by
  intro d
  induction d with
  | zero => intro t h; exact h
  | succ d ih => intro t h; exact ih _ (tx_u h (h _))
theorem tx_dc (len : Nat) : ∀ d j t, tx_c t → tx_c (tx_d len d j t) := by
  intro d
  induction d with
  | zero => intro j t h; exact h
  | succ d ih => intro j t h; exact ih _ _ (tx_u h (h _))
section
variable {g : ig_T} {t : Nat → Nat} {n R cp : Nat} {fz rc oR oN : Int32} {nu od ro mE mR mA tR tS tE tP wI wP : Nat → Int32}
theorem xe_30 {post : Int32 → St2 → Prop} {pos c : Nat} (hn : n < 24) (hp : pos ≤ n) (hc : c < 65536) : ∀ (d nn : Nat) (t : Nat → Nat), d < nn → pos + d ≤ n → tx_c t → post 1 (nI R, nI cp, fz, nI (ig_A g), nI (n + 1), rc, -1, 0, ip_e (ig_O g), ip_e (ig_C g), ip_eb (ig_B g), ip_e (ig_L g), ip_e (ig_H g), ip_e (ig_M g), nu, od, ro, ip_e (ip_u (tx_i pos d t) pos c), mE, mR, mA, tR, tS, tE, tP, wI, wP) →
    wX_insertChar_30 post (nI pos) (nI c) (nI R) (nI cp) fz (nI (ig_A g)) (nI n) rc oR oN nn (nI (pos + d)) (ip_e (ig_O g)) (ip_e (ig_C g)) (ip_eb (ig_B g)) (ip_e (ig_L g)) (ip_e (ig_H g)) (ip_e (ig_M g)) nu od ro (ip_e t) mE mR mA tR tS tE tP wI wP := by
  intro d
  induction d with
  | zero =>
    intro nn t hnn hd ht h
    obtain ⟨nn, rfl⟩ : ∃ k, nn = k + 1 := ⟨nn - 1, by omega⟩
    refine pk_le (pos + 0) pos (fun _ => ⟨vp_in_nI (by omega) (by decide), nm_r (e' := ip_e (ip_u t pos c)) ?_ (nm_r (nI_1 n) h)⟩) (fun z => by omega)
    rw [nI_clamp (by omega), ip_nch hc]
    exact ip_ue t pos c
  | succ d ih =>
    intro nn t hnn hd ht h
    obtain ⟨nn, rfl⟩ : ∃ k, nn = k + 1 := ⟨nn - 1, by omega⟩
    have e1 : nI (pos + (d + 1)) - 1 = nI (pos + d) := nI_pred (pos + d)
    refine pk_le (pos + (d + 1)) pos (fun z => by omega) (fun _ => ⟨?_, vp_in_nI (by omega) (by decide), nm_r (e' := ip_e (ip_u t (pos + d + 1) (t (pos + d)))) ?_ (nm_r (pk_m1 (pos + d)) ?_)⟩)
    · rw [e1]; exact vp_in_nI (by omega) (by decide)
    · rw [e1, nI_clamp (by omega), ip_ce _ (by omega), ip_nch (ht _)]
      exact ip_ue t _ _
    · exact ih nn _ (by omega) (by omega) (tx_u ht (ht _)) h
theorem xe_ins {post : Int32 → St2 → Prop} {pos c : Nat} (hcp : cp ≤ 24) (hn : n < cp) (hp : pos ≤ n) (hc : c < 65536) (ht : tx_c t) (h : post 1 (nI R, nI cp, fz, nI (ig_A g), nI (n + 1), rc, -1, 0, ip_e (ig_O g), ip_e (ig_C g), ip_eb (ig_B g), ip_e (ig_L g), ip_e (ig_H g), ip_e (ig_M g), nu, od, ro, ip_e (ip_u (tx_i pos (n - pos) t) pos c), mE, mR, mA, tR, tS, tE, tP, wI, wP)) : wpX_insertChar post (nI R, nI cp, fz, nI (ig_A g), nI n, rc, oR, oN, ip_e (ig_O g), ip_e (ig_C g), ip_eb (ig_B g), ip_e (ig_L g), ip_e (ig_H g), ip_e (ig_M g), nu, od, ro, ip_e t, mE, mR, mA, tR, tS, tE, tP, wI, wP) (nI pos) (nI c) := by
  refine br_f (nI_pos (by omega)) (pk_lt n pos (fun z => by omega) (fun _ => pk_lt n cp (fun _ => ⟨n - pos + 1, ?_⟩) (fun z => by omega)))
  have := xe_30 (post := post) (g := g) (R := R) (cp := cp) (fz := fz) (rc := rc) (oR := oR) (oN := oN) (nu := nu) (od := od) (ro := ro) (mE := mE) (mR := mR) (mA := mA) (tR := tR) (tS := tS) (tE := tE) (tP := tP) (wI := wI) (wP := wP) (by omega) hp hc (n - pos) (n - pos + 1) t (by omega) (by omega) ht h
  rw [show pos + (n - pos) = n by omega] at this
  exact this
theorem xe_4 {post : St2 → Prop} {len : Nat} (hn : n ≤ 24) : ∀ (d nn j : Nat) (t : Nat → Nat), j + len + d = n → d < nn → tx_c t → post (nI R, nI cp, fz, nI (ig_A g), nI (n - len), rc, oR, oN, ip_e (ig_O g), ip_e (ig_C g), ip_eb (ig_B g), ip_e (ig_L g), ip_e (ig_H g), ip_e (ig_M g), nu, od, ro, ip_e (tx_d len d j t), mE, mR, mA, tR, tS, tE, tP, wI, wP) → wX_closeGap_4 post (nI len) (nI R) (nI cp) fz (nI (ig_A g)) (nI n) rc oR oN nn (nI (j + len)) (ip_e (ig_O g)) (ip_e (ig_C g)) (ip_eb (ig_B g)) (ip_e (ig_L g)) (ip_e (ig_H g)) (ip_e (ig_M g)) nu od ro (ip_e t) mE mR mA tR tS tE tP wI wP := by
  intro d
  induction d with
  | zero =>
    intro nn j t hj hnn ht h
    obtain ⟨nn, rfl⟩ : ∃ k, nn = k + 1 := ⟨nn - 1, by omega⟩
    exact pk_le n (j + len) (fun _ => nm_r (pk_sub (by omega)) h) (fun z => by omega)
  | succ d ih =>
    intro nn j t hj hnn ht h
    obtain ⟨nn, rfl⟩ : ∃ k, nn = k + 1 := ⟨nn - 1, by omega⟩
    have e1 : nI (j + len) - nI len = nI j := by rw [pk_sub (by omega), Nat.add_sub_cancel]
    refine pk_le n (j + len) (fun z => by omega) (fun _ => ⟨vp_in_nI (by omega) (by decide), ?_, nm_r (e' := ip_e (ip_u t j (t (j + len)))) ?_ (nm_r (e' := nI (j + 1 + len)) ?_ ?_)⟩)
    · rw [e1]; exact vp_in_nI (by omega) (by decide)
    · rw [e1, nI_clamp (by omega), ip_ce _ (by omega), ip_nch (ht _)]
      exact ip_ue t _ _
    · rw [nI_1, show j + len + 1 = j + 1 + len by omega]
    · exact ih nn (j + 1) _ (by omega) (by omega) (tx_u ht (ht _)) h
theorem xe_gap {post : St2 → Prop} {pos len : Nat} (hn : n ≤ 24) (hp : pos + len ≤ n) (ht : tx_c t) (h : post (nI R, nI cp, fz, nI (ig_A g), nI (n - len), rc, oR, oN, ip_e (ig_O g), ip_e (ig_C g), ip_eb (ig_B g), ip_e (ig_L g), ip_e (ig_H g), ip_e (ig_M g), nu, od, ro, ip_e (tx_d len (n - (pos + len)) pos t), mE, mR, mA, tR, tS, tE, tP, wI, wP)) : wpX_closeGap post (nI R, nI cp, fz, nI (ig_A g), nI n, rc, oR, oN, ip_e (ig_O g), ip_e (ig_C g), ip_eb (ig_B g), ip_e (ig_L g), ip_e (ig_H g), ip_e (ig_M g), nu, od, ro, ip_e t, mE, mR, mA, tR, tS, tE, tP, wI, wP) (nI pos) (nI len) :=
  nm_r (nI_add pos len) ⟨n - (pos + len) + 1, xe_4 hn (n - (pos + len)) _ pos t (by omega) (by omega) ht h⟩
/-- a range of the text -/
def tx_r (n : Nat) (a b : Int32) : Prop := ∃ p l, a = nI p ∧ b = nI (l + 1) ∧ p + l < n
theorem xe_range {post : Int32 → Prop} {a b : Int32} (hn : n ≤ 24) (h1 : tx_r n a b → post 1) (h0 : ¬ tx_r n a b → post 0) : wpX_isTextRange post (nI R, nI cp, fz, nI (ig_A g), nI n, rc, oR, oN, ip_e (ig_O g), ip_e (ig_C g), ip_eb (ig_B g), ip_e (ig_L g), ip_e (ig_H g), ip_e (ig_M g), nu, od, ro, ip_e t, mE, mR, mA, tR, tS, tE, tP, wI, wP) a b := by
  refine br_c (fun z => h0 (fun w => ?_)) (fun z => ?_)
  · obtain ⟨p, l, rfl, _, hl⟩ := w
    exact nI_pos (by omega) z
  · obtain ⟨p, hp, rfl⟩ := nI_of z
    refine pk_lt n p (fun z2 => h0 (fun w => ?_)) (fun z2 => br_c (fun z3 => h0 (fun w => ?_)) (fun z3 => ?_))
    · obtain ⟨p', l, e, _, hl⟩ := w
      have := (nI_eq hp (by omega)).mp e
      omega
    · obtain ⟨p', l, e, rfl, hl⟩ := w
      exact nI_nlt (a := l + 1) (b := 1) (by omega) (by omega) z3
    · have z4 : ¬ b < 0 := fun w => z3 (Int32.lt_trans w (by decide))
      obtain ⟨l, hl, rfl⟩ := nI_of z4
      have hl1 : 1 ≤ l := by
        rcases Nat.lt_or_ge l 1 with w | w
        · exact absurd (nI_lt (a := l) (b := 1) w (by decide)) z3
        · exact w
      rw [pk_sub (by omega)]
      refine pk_lt (n - p) l (fun z5 => h0 (fun w => ?_)) (fun z5 => h1 ⟨p, l - 1, rfl, by rw [show l - 1 + 1 = l by omega], by omega⟩)
      obtain ⟨p', l', e, e', hl'⟩ := w
      have e1 := (nI_eq hp (by omega)).mp e
      have e2 := (nI_eq hl (by omega)).mp e'
      omega
theorem xe_del {post : Int32 → St2 → Prop} {a b : Int32} (hn : n ≤ 24) (ht : tx_c t) (h1 : ∀ p l, a = nI p → b = nI (l + 1) → p + l < n → post 1 (nI R, nI cp, fz, nI (ig_A g), nI (n - (l + 1)), rc, -1, 0, ip_e (ig_O g), ip_e (ig_C g), ip_eb (ig_B g), ip_e (ig_L g), ip_e (ig_H g), ip_e (ig_M g), nu, od, ro, ip_e (tx_d (l + 1) (n - (p + (l + 1))) p t), mE, mR, mA, tR, tS, tE, tP, wI, wP)) (h0 : ¬ tx_r n a b → post 0 (nI R, nI cp, fz, nI (ig_A g), nI n, rc, oR, oN, ip_e (ig_O g), ip_e (ig_C g), ip_eb (ig_B g), ip_e (ig_L g), ip_e (ig_H g), ip_e (ig_M g), nu, od, ro, ip_e t, mE, mR, mA, tR, tS, tE, tP, wI, wP)) : wpX_deleteRange post (nI R, nI cp, fz, nI (ig_A g), nI n, rc, oR, oN, ip_e (ig_O g), ip_e (ig_C g), ip_eb (ig_B g), ip_e (ig_L g), ip_e (ig_H g), ip_e (ig_M g), nu, od, ro, ip_e t, mE, mR, mA, tR, tS, tE, tP, wI, wP) a b := by
  unfold wpX_deleteRange
  dsimp only
  refine xe_range hn (fun z => br_f (by decide) ?_) (fun z => br_t rfl (h0 z))
  obtain ⟨p, l, rfl, rfl, hl⟩ := z
  exact xe_gap hn (by omega) ht (h1 p l rfl rfl hl)
theorem xe_rep {post : Int32 → St2 → Prop} {a b : Int32} {c : Nat} (hn : n ≤ 24) (hc : c < 65536) (ht : tx_c t) (h1 : ∀ p l, a = nI p → b = nI (l + 1) → p + l < n → post 1 (nI R, nI cp, fz, nI (ig_A g), nI (n - l), rc, -1, 0, ip_e (ig_O g), ip_e (ig_C g), ip_eb (ig_B g), ip_e (ig_L g), ip_e (ig_H g), ip_e (ig_M g), nu, od, ro, ip_e (tx_d l (n - (p + 1 + l)) (p + 1) (ip_u t p c)), mE, mR, mA, tR, tS, tE, tP, wI, wP)) (h0 : ¬ tx_r n a b → post 0 (nI R, nI cp, fz, nI (ig_A g), nI n, rc, oR, oN, ip_e (ig_O g), ip_e (ig_C g), ip_eb (ig_B g), ip_e (ig_L g), ip_e (ig_H g), ip_e (ig_M g), nu, od, ro, ip_e t, mE, mR, mA, tR, tS, tE, tP, wI, wP)) : wpX_replaceRange post (nI R, nI cp, fz, nI (ig_A g), nI n, rc, oR, oN, ip_e (ig_O g), ip_e (ig_C g), ip_eb (ig_B g), ip_e (ig_L g), ip_e (ig_H g), ip_e (ig_M g), nu, od, ro, ip_e t, mE, mR, mA, tR, tS, tE, tP, wI, wP) a b (nI c) := by
  unfold wpX_replaceRange
  dsimp only
  refine xe_range hn (fun z => br_f (by decide) ?_) (fun z => br_t rfl (h0 z))
  obtain ⟨p, l, rfl, rfl, hl⟩ := z
  refine ⟨vp_in_nI (by omega) (by decide), nm_r (e' := ip_e (ip_u t p c)) ?_ ?_⟩
  · rw [nI_clamp (by omega), ip_nch hc]
    exact ip_ue t _ _
  · rw [nI_1, nI_pred]
    exact xe_gap hn (by omega) (tx_u ht hc) (h1 p l rfl rfl hl)
end
end
section
/-! building the grammar -/
/-- an alternative more -/
def ga_A (g : ig_T) (r : Nat) : ig_T := (ip_u (ig_O g) (ig_A g) r, ip_u (ig_C g) (ig_A g) 0, ig_M g, ig_L g, ig_H g, ig_B g, ig_A g + 1)
theorem ga_V {g : ig_T} {R r : Nat} (h : ig_V g R) (hr : r < R) (ha : ig_A g < 16) : ig_V (ga_A g r) R := by
  refine ⟨ha, fun j => ?_⟩
  obtain ⟨h1, h2, h3⟩ := h.2 j
  refine ⟨?_, ?_, h3⟩
  · show ip_u (ig_O g) (ig_A g) r j < R
    by_cases e : j = ig_A g
    · rw [e, ip_us]; exact hr
    · rw [ip_un e]; exact h1
  · show ip_u (ig_C g) (ig_A g) 0 j ≤ 4
    by_cases e : j = ig_A g
    · rw [e, ip_us]; decide
    · rw [ip_un e]; exact h2
/-- an item more: its alternative, index, place, mode, low, high, whether it is a rule -/
def ga_I (g : ig_T) (a c it m lo hi : Nat) (b : Bool) : ig_T := (ig_O g, ip_u (ig_C g) a (c + 1), ip_u (ig_M g) it m, ip_u (ig_L g) it lo, ip_u (ig_H g) it hi, ip_u (ig_B g) it b, ig_A g)
/-- what a base is -/
def ga_N (R : Nat) (k a b : Int32) (lo hi : Nat) (br : Bool) : Prop :=
  ((br = true → k = 3 ∧ a = nI lo) ∧ (br = false → (k = 2 ∧ lo = 0 ∧ hi = 65535) ∨ (k = 0 ∧ a = nI lo ∧ hi = lo) ∨ (k = 1 ∧ a = nI lo ∧ b = nI hi))) ∧ lo ≤ 65535 ∧ hi ≤ 65535 ∧ (br = true → lo < R)
theorem ga_IV {g : ig_T} {R a c it m lo hi : Nat} {br : Bool} {k x y : Int32} (h : ig_V g R) (hc : c < 4) (hm : m ≤ 5) (hN : ga_N R k x y lo hi br) : ig_V (ga_I g a c it m lo hi br) R := by
  refine ⟨h.1, fun j => ?_⟩
  obtain ⟨h1, h2, h3, h4, h5, h6⟩ := h.2 j
  refine ⟨h1, ?_, ?_, ?_, ?_, ?_⟩
  · show ip_u (ig_C g) a (c + 1) j ≤ 4
    by_cases e : j = a
    · rw [e, ip_us]; omega
    · rw [ip_un e]; exact h2
  · show ip_u (ig_M g) it m j ≤ 5
    by_cases e : j = it
    · rw [e, ip_us]; exact hm
    · rw [ip_un e]; exact h3
  · show ip_u (ig_L g) it lo j ≤ 65535
    by_cases e : j = it
    · rw [e, ip_us]; exact hN.2.1
    · rw [ip_un e]; exact h4
  · show ip_u (ig_H g) it hi j ≤ 65535
    by_cases e : j = it
    · rw [e, ip_us]; exact hN.2.2.1
    · rw [ip_un e]; exact h5
  · show ip_u (ig_B g) it br j = true → ip_u (ig_L g) it lo j < R
    by_cases e : j = it
    · rw [e, ip_us, ip_us]; exact hN.2.2.2
    · rw [ip_un e, ip_un e]; exact h6
/-- a base that is taken -/
def ga_B (R : Nat) (k a b : Int32) : Prop := (k = 0 ∧ ∃ c, c ≤ 65535 ∧ a = nI c) ∨ (k = 1 ∧ ∃ c d, c ≤ d ∧ d ≤ 65535 ∧ a = nI c ∧ b = nI d) ∨ k = 2 ∨ (k = 3 ∧ ∃ s, s < R ∧ a = nI s)
theorem ga_Bk {R : Nat} {k a b : Int32} (h : ga_B R k a b) : ¬ k < 0 ∧ ¬ 3 < k := by
  rcases h with ⟨rfl, _⟩ | ⟨rfl, _⟩ | rfl | ⟨rfl, _⟩ <;> decide
theorem ga_B0 {R : Nat} {a b : Int32} (h : ga_B R 0 a b) : ∃ c, c ≤ 65535 ∧ a = nI c := by
  rcases h with ⟨_, h⟩ | ⟨e, _⟩ | e | ⟨e, _⟩
  · exact h
  · exact absurd e (by decide)
  · exact absurd e (by decide)
  · exact absurd e (by decide)
theorem ga_B1 {R : Nat} {a b : Int32} (h : ga_B R 1 a b) : ∃ c d, c ≤ d ∧ d ≤ 65535 ∧ a = nI c ∧ b = nI d := by
  rcases h with ⟨e, _⟩ | ⟨_, h⟩ | e | ⟨e, _⟩
  · exact absurd e (by decide)
  · exact h
  · exact absurd e (by decide)
  · exact absurd e (by decide)
theorem ga_B3 {R : Nat} {a b : Int32} (h : ga_B R 3 a b) : ∃ s, s < R ∧ a = nI s := by
  rcases h with ⟨e, _⟩ | ⟨e, _⟩ | e | ⟨_, h⟩
  · exact absurd e (by decide)
  · exact absurd e (by decide)
  · exact absurd e (by decide)
  · exact h
/-! the three tests of a base's arguments, as both sides ask them -/
theorem ga_t0 {R : Nat} {a b : Int32} {A B : Prop} (h1 : ga_B R 0 a b → A) (h0 : ¬ ga_B R 0 a b → B) : (a < 0 → B) ∧ (¬ a < 0 → ((65535 < a → B) ∧ (¬ 65535 < a → A))) := by
  refine br_c (fun z => h0 (fun w => ?_)) (fun z => ?_)
  · obtain ⟨c, hc, rfl⟩ := ga_B0 w
    exact nI_pos (by omega) z
  · obtain ⟨c, hc, rfl⟩ := nI_of z
    refine pk_lt 65535 c (fun z2 => h0 (fun w => ?_)) (fun z2 => h1 (Or.inl ⟨rfl, c, z2, rfl⟩))
    obtain ⟨c', hc', e⟩ := ga_B0 w
    have := (nI_eq hc (by omega)).mp e
    omega
theorem ga_t0' {R : Nat} {a b : Int32} {A B : Prop} (h1 : ga_B R 0 a b → A) (h0 : ¬ ga_B R 0 a b → B) : (a < 0 → B) ∧ (¬ a < 0 → ((a ≤ 65535 → A) ∧ (¬ a ≤ 65535 → B))) := by
  obtain ⟨p, q⟩ := ga_t0 h1 h0
  exact ⟨p, fun z => ⟨fun y => (q z).2 (Int32.not_lt.mpr y), fun y => (q z).1 (Int32.not_le.mp y)⟩⟩
theorem ga_t1 {R : Nat} {a b : Int32} {A B : Prop} (h1 : ga_B R 1 a b → A) (h0 : ¬ ga_B R 1 a b → B) : (a < 0 → B) ∧ (¬ a < 0 → ((b < a → B) ∧ (¬ b < a → ((65535 < b → B) ∧ (¬ 65535 < b → A))))) := by
  refine br_c (fun z => h0 (fun w => ?_)) (fun z => br_c (fun z1 => h0 (fun w => ?_)) (fun z1 => ?_))
  · obtain ⟨c, d, h1', h2', rfl, _⟩ := ga_B1 w
    exact nI_pos (by omega) z
  · obtain ⟨c, d, h1', h2', rfl, rfl⟩ := ga_B1 w
    exact nI_nlt (a := d) (b := c) h1' (by omega) z1
  · obtain ⟨c, hc, rfl⟩ := nI_of z
    have z3 : ¬ b < 0 := fun w => z1 (by
      have : (0 : Int32) ≤ nI c := nI_pos' hc
      exact Int32.lt_of_lt_of_le w this)
    obtain ⟨d, hd, rfl⟩ := nI_of z3
    have hcd : c ≤ d := by
      rcases Nat.lt_or_ge d c with w | w
      · exact absurd (nI_lt w hc) z1
      · exact w
    refine pk_lt 65535 d (fun z2 => h0 (fun w => ?_)) (fun z2 => h1 (Or.inr (Or.inl ⟨rfl, c, d, hcd, z2, rfl, rfl⟩)))
    obtain ⟨c', d', _, h2', _, e⟩ := ga_B1 w
    have := (nI_eq hd (by omega)).mp e
    omega
theorem ga_t1' {R : Nat} {a b : Int32} {A B : Prop} (h1 : ga_B R 1 a b → A) (h0 : ¬ ga_B R 1 a b → B) : (a < 0 → B) ∧ (¬ a < 0 → ((b < a → B) ∧ (¬ b < a → ((b ≤ 65535 → A) ∧ (¬ b ≤ 65535 → B))))) := by
  obtain ⟨p, q⟩ := ga_t1 h1 h0
  exact ⟨p, fun z => ⟨(q z).1, fun y => ⟨fun v => ((q z).2 y).2 (Int32.not_lt.mpr v), fun v => ((q z).2 y).1 (Int32.not_le.mp v)⟩⟩⟩
theorem ga_t3 {R : Nat} {a b : Int32} {A B : Prop} (hR : R < 2 ^ 31) (h1 : ga_B R 3 a b → A) (h0 : ¬ ga_B R 3 a b → B) : (a < 0 → B) ∧ (¬ a < 0 → ((nI R ≤ a → B) ∧ (¬ nI R ≤ a → A))) := by
  refine br_c (fun z => h0 (fun w => ?_)) (fun z => ?_)
  · obtain ⟨c, hc, rfl⟩ := ga_B3 w
    exact nI_pos (by omega) z
  · obtain ⟨c, hc, rfl⟩ := nI_of z
    refine pk_le R c (fun z2 => h0 (fun w => ?_)) (fun z2 => h1 (Or.inr (Or.inr (Or.inr ⟨rfl, c, z2, rfl⟩))))
    obtain ⟨c', hc', e⟩ := ga_B3 w
    have := (nI_eq hc (by omega)).mp e
    omega
theorem ga_t3' {R : Nat} {a b : Int32} {A B : Prop} (hR : R < 2 ^ 31) (h1 : ga_B R 3 a b → A) (h0 : ¬ ga_B R 3 a b → B) : (a < 0 → B) ∧ (¬ a < 0 → ((a < nI R → A) ∧ (¬ a < nI R → B))) := by
  obtain ⟨p, q⟩ := ga_t3 hR h1 h0
  exact ⟨p, fun z => ⟨fun y => (q z).2 (Int32.not_le.mpr y), fun y => (q z).1 (Int32.not_lt.mp y)⟩⟩
section
variable {g : ig_T} {t : Nat → Nat} {n R cp : Nat} {fz rc oR oN : Int32} {nu od ro mE mR mA tR tS tE tP wI wP : Nat → Int32}
theorem xa_base {post : Int32 → Prop} {k a b : Int32} (hR : R < 2 ^ 31) (h1 : ga_B R k a b → post 1) (h0 : ¬ ga_B R k a b → post 0) : wpX_isBase post (nI R, nI cp, fz, nI (ig_A g), nI n, rc, oR, oN, ip_e (ig_O g), ip_e (ig_C g), ip_eb (ig_B g), ip_e (ig_L g), ip_e (ig_H g), ip_e (ig_M g), nu, od, ro, ip_e t, mE, mR, mA, tR, tS, tE, tP, wI, wP) k a b := by
  refine br_c (fun z => h0 (fun w => (ga_Bk w).1 z)) (fun _ => br_c (fun z => h0 (fun w => (ga_Bk w).2 z)) (fun _ => br_c (fun e => ?_) (fun n0 => br_c (fun e => ?_) (fun n1 => br_c (fun e => ?_) (fun n2 => br_c (fun e => ?_) (fun _ => trivial))))))
  · subst e; exact ga_t0 h1 h0
  · subst e; exact ga_t1 h1 h0
  · subst e; exact h1 (Or.inr (Or.inr (Or.inl rfl)))
  · subst e
    exact ga_t3 hR (fun z => ⟨rfl, h1 z⟩) (fun z => ⟨rfl, h0 z⟩)
/-- the item is stored -/
theorem xa_133 {post : Int32 → St2 → Prop} {m a c it : Nat} {hi : Nat} (hit : it < 64) (ha : a < 16) (h : post (nI c) (nI R, nI cp, fz, nI (ig_A g), nI n, rc, oR, oN, ip_e (ig_O g), ip_e (ip_u (ig_C g) a (c + 1)), ip_eb (ig_B g), ip_e (ig_L g), ip_e (ip_u (ig_H g) it hi), ip_e (ip_u (ig_M g) it m), nu, od, ro, ip_e t, mE, mR, mA, tR, tS, tE, tP, wI, wP)) : wX_addItem_133 post (nI m) (nI a) (nI c) (nI it) (nI hi) (nI it) (nI R) (nI cp) fz (nI (ig_A g)) (nI n) rc oR oN (ip_e (ig_O g)) (ip_e (ig_C g)) (ip_eb (ig_B g)) (ip_e (ig_L g)) (ip_e (ig_H g)) (ip_e (ig_M g)) nu od ro (ip_e t) mE mR mA tR tS tE tP wI wP := by
  have hv : vp_in (nI it) 64 := vp_in_nI hit (by decide)
  refine ⟨hv, nm_r (by rw [nI_clamp (by omega)]; exact ip_ue _ _ _) ⟨hv, nm_r (by rw [nI_clamp (by omega)]; exact ip_ue _ _ _) ⟨vp_in_nI ha (by decide), nm_r (by rw [nI_clamp (by omega), nI_1]; exact ip_ue _ _ _) h⟩⟩⟩
end
section
variable {g : ig_T} {t : Nat → Nat} {n R cp : Nat} {fz rc oR oN : Int32} {nu od ro mE mR mA tR tS tE tP wI wP : Nat → Int32}
theorem xa_put {post : Int32 → St2 → Prop} {k a b : Int32} {m al c it : Nat} (hR8 : R ≤ 8) (hit : it < 64) (ha : al < 16) (hB : ga_B R k a b)
    (h : ∀ (lo hi : Nat) (br : Bool), ga_N R k a b lo hi br → post (nI c) (nI R, nI cp, fz, nI (ig_A g), nI n, rc, oR, oN, ip_e (ig_O g), ip_e (ip_u (ig_C g) al (c + 1)), ip_eb (ip_u (ig_B g) it br), ip_e (ip_u (ig_L g) it lo), ip_e (ip_u (ig_H g) it hi), ip_e (ip_u (ig_M g) it m), nu, od, ro, ip_e t, mE, mR, mA, tR, tS, tE, tP, wI, wP)) :
    (k = 3 → wX_addItem_89 post k a b (nI m) (nI al) (nI c) (nI it) 1 (nI it) (nI R) (nI cp) fz (nI (ig_A g)) (nI n) rc oR oN (ip_e (ig_O g)) (ip_e (ig_C g)) (ip_eb (ig_B g)) (ip_e (ig_L g)) (ip_e (ig_H g)) (ip_e (ig_M g)) nu od ro (ip_e t) mE mR mA tR tS tE tP wI wP) ∧ (¬ k = 3 → wX_addItem_89 post k a b (nI m) (nI al) (nI c) (nI it) 0 (nI it) (nI R) (nI cp) fz (nI (ig_A g)) (nI n) rc oR oN (ip_e (ig_O g)) (ip_e (ig_C g)) (ip_eb (ig_B g)) (ip_e (ig_L g)) (ip_e (ig_H g)) (ip_e (ig_M g)) nu od ro (ip_e t) mE mR mA tR tS tE tP wI wP) := by
  have hv : vp_in (nI it) 64 := vp_in_nI hit (by decide)
  have ec : (nI it).toNatClampNeg = it := nI_clamp (by omega)
  have w0 : ∀ br : Bool, upd (ip_eb (ig_B g)) (nI it).toNatClampNeg (vp_nar .boolean (ip_b br)) = ip_eb (ip_u (ig_B g) it br) := fun br => by
    rw [ec, show vp_nar .boolean (ip_b br) = ip_b br by cases br <;> rfl]
    exact ip_ueb _ _ _
  have w1 : ∀ v : Nat, upd (ip_e (ig_L g)) (nI it).toNatClampNeg (nI v) = ip_e (ip_u (ig_L g) it v) := fun v => by rw [ec]; exact ip_ue _ _ _
  rcases hB with ⟨rfl, d, hd, rfl⟩ | ⟨rfl, d, e, hde, he, rfl, rfl⟩ | rfl | ⟨rfl, s, hs, rfl⟩
  · have H := h d d false ⟨⟨fun z => absurd z (by decide), fun _ => Or.inr (Or.inl ⟨rfl, rfl, rfl⟩)⟩, hd, hd, fun z => absurd z (by decide)⟩
    exact br_f (by decide) ⟨hv, nm_r (w0 false) (br_f (by decide) ⟨hv, nm_r (w1 d) (br_f (by decide) (br_f (by decide) (xa_133 (g := (ig_O g, ig_C g, ig_M g, ip_u (ig_L g) it d, ig_H g, ip_u (ig_B g) it false, ig_A g)) hit ha H)))⟩)⟩
  · have H := h d e false ⟨⟨fun z => absurd z (by decide), fun _ => Or.inr (Or.inr ⟨rfl, rfl, rfl⟩)⟩, by omega, he, fun z => absurd z (by decide)⟩
    exact br_f (by decide) ⟨hv, nm_r (w0 false) (br_f (by decide) ⟨hv, nm_r (w1 d) (br_f (by decide) (br_t rfl (xa_133 (g := (ig_O g, ig_C g, ig_M g, ip_u (ig_L g) it d, ig_H g, ip_u (ig_B g) it false, ig_A g)) hit ha H)))⟩)⟩
  · have H := h 0 65535 false ⟨⟨fun z => absurd z (by decide), fun _ => Or.inl ⟨rfl, rfl, rfl⟩⟩, by decide, by decide, fun z => absurd z (by decide)⟩
    exact br_f (by decide) ⟨hv, nm_r (w0 false) (br_t rfl ⟨hv, nm_r (w1 0) (br_t rfl (xa_133 (hi := 65535) (g := (ig_O g, ig_C g, ig_M g, ip_u (ig_L g) it 0, ig_H g, ip_u (ig_B g) it false, ig_A g)) hit ha H))⟩)⟩
  · have H := h s s true ⟨⟨fun _ => ⟨rfl, rfl⟩, fun z => absurd z (by decide)⟩, by omega, by omega, fun _ => hs⟩
    exact br_t rfl ⟨hv, nm_r (w0 true) (br_f (by decide) ⟨hv, nm_r (w1 s) (br_f (by decide) (br_f (by decide) (xa_133 (g := (ig_O g, ig_C g, ig_M g, ip_u (ig_L g) it s, ig_H g, ip_u (ig_B g) it true, ig_A g)) hit ha H)))⟩)⟩
end
end
section
/-! pieces of the law -/
theorem lm_mod0 (a m : Int32) (h : 0 < m.toInt) : ∃ v : Int32, ∀ post : Int32 → Prop, post v → wpL_mod post () a m := by
  refine ⟨fmv a m, fun post hp => ⟨fun z => ?_, fun y ey => ?_⟩⟩
  · rw [z] at h
    exact absurd h (by decide)
  · subst ey
    refine br_c (fun z => ?_) (fun z => ?_)
    · have e : fmv a m = a - a / m * m := if_pos z
      rw [e] at hp
      exact hp
    · have e : fmv a m = a - a / m * m + m := if_neg z
      rw [e] at hp
      exact hp
theorem lm_mod (a : Int32) {M : Nat} (h0 : 0 < M) (hM : M < 2 ^ 31) : ∃ c, c < M ∧ ∀ post : Int32 → Prop, post (nI c) → wpL_mod post () a (nI M) := by
  have hm : 0 < (nI M).toInt := by rw [nI_toInt hM]; omega
  obtain ⟨b1, b2⟩ := fmv_bounds (a := a) hm
  have hn : ¬ fmv a (nI M) < 0 := fun z => by
    rw [Int32.lt_iff_toInt_lt, show (0 : Int32).toInt = 0 from by decide] at z
    omega
  obtain ⟨c, hc, e⟩ := nI_of hn
  rw [e, nI_toInt hc, nI_toInt hM] at b2
  refine ⟨c, by omega, fun post hp => ?_⟩
  have hp' : post (fmv a (nI M)) := by rw [e]; exact hp
  refine ⟨fun z => ?_, fun y ey => ?_⟩
  · rw [z] at hm
    exact absurd hm (by decide)
  · subst ey
    refine br_c (fun z => ?_) (fun z => ?_)
    · have e : fmv a (nI M) = a - a / nI M * nI M := if_pos z
      rw [e] at hp'
      exact hp'
    · have e : fmv a (nI M) = a - a / nI M * nI M + nI M := if_neg z
      rw [e] at hp'
      exact hp'
theorem lm_cell (xs : Nat → Int32) {LL : Nat} (hL : LL ≤ 260) {k : Nat} (hk : k < 2 ^ 31) : ∃ v : Int32, ∀ post : Int32 → Prop, post v → wpL_cell post LL xs () (nI k) := by
  by_cases h : LL ≤ k
  · exact ⟨0, fun post hp => pk_le LL k (fun _ => hp) (fun z => by omega)⟩
  · refine ⟨xs k, fun post hp => pk_le LL k (fun z => by omega) (fun _ => ⟨vp_in_nI (by omega) (by omega), ?_⟩)⟩
    rw [nI_clamp hk]
    exact hp
/-! the pure picture looks at the text below its length alone -/
section
variable {g : ig_T} {t t' : Nat → Nat} {n : Nat} {T : Nat → Nat → Nat × Nat}
theorem tc_T (h : ∀ j, j < n → t j = t' j) (it q : Nat) : pu_T g t n T it q = pu_T g t' n T it q := by
  by_cases b : ig_B g it = true
  · rw [pu_Tr b, pu_Tr b]
  · rw [pu_Tc b, pu_Tc b]
    by_cases c : q < n
    · rw [h q c]
    · rw [if_neg (fun z => c z.1), if_neg (fun z => c z.1)]
theorem tc_R (h : ∀ j, j < n → t j = t' j) (it : Nat) : ∀ f q, pu_R g t n T it f q = pu_R g t' n T it f q := by
  intro f
  induction f with
  | zero => intro q; rfl
  | succ f ih =>
    intro q
    cases hz : (pu_T g t' n T it q).1 with
    | zero => rw [pu_R0 hz, pu_R0 (by rw [tc_T h]; exact hz), tc_T h]
    | succ e => rw [pu_Rs hz, pu_Rs (e := e) (by rw [tc_T h]; exact hz), tc_T h, ih e]
theorem tc_I (h : ∀ j, j < n → t j = t' j) (it q : Nat) : pu_I g t n T it q = pu_I g t' n T it q := by
  unfold pu_I
  rw [tc_R h]
theorem tc_A (h : ∀ j, j < n → t j = t' j) : ∀ k it q, pu_A g t n T k it q = pu_A g t' n T k it q := by
  intro k
  induction k with
  | zero => intro it q; rfl
  | succ k ih =>
    intro it q
    cases hz : (pu_I g t' n T it q).1 with
    | zero => rw [pu_A0 hz, pu_A0 (by rw [tc_I h]; exact hz), tc_I h]
    | succ e => rw [pu_As hz, pu_As (e := e) (by rw [tc_I h]; exact hz), tc_I h, ih (it + 1) e]
theorem tc_U (h : ∀ j, j < n → t j = t' j) (r p : Nat) : ∀ k a, pu_U g t n T r p k a = pu_U g t' n T r p k a := by
  intro k
  induction k with
  | zero => intro a; rfl
  | succ k ih =>
    intro a
    by_cases ho : ig_O g a = r
    · by_cases hz : (pu_A g t' n T (ig_C g a) (4 * a) p).1 = 0
      · rw [pu_U0 ho hz, pu_U0 ho (by rw [tc_A h]; exact hz), tc_A h, ih]
      · rw [pu_Us ho hz, pu_Us ho (by rw [tc_A h]; exact hz), tc_A h]
    · rw [pu_Un ho, pu_Un ho, ih]
theorem tc_M (h : ∀ j, j < n → t j = t' j) (r p : Nat) : pu_M g t n T r p = pu_M g t' n T r p := tc_U h r p _ _
theorem tc_x (h : ∀ j, j < n → t j = t' j) (it q : Nat) : tk_x g t n T it q = tk_x g t' n T it q := by
  unfold tk_x
  rw [tc_R h, tc_I h]
theorem tc_k (h : ∀ j, j < n → t j = t' j) : ∀ k it q, tk_A g t n T k it q = tk_A g t' n T k it q := by
  intro k
  induction k with
  | zero => intro it q; rfl
  | succ k ih =>
    intro it q
    show tk_I g n T it q ++ tk_A g t n T k (it + 1) (tk_x g t n T it q) = tk_I g n T it q ++ tk_A g t' n T k (it + 1) (tk_x g t' n T it q)
    rw [tc_x h, ih]
theorem tc_K (h : ∀ j, j < n → t j = t' j) : tk_K g t n T = tk_K g t' n T := by
  funext r p
  unfold tk_K
  rw [tc_M h, tc_k h]
theorem tc_G {R : Nat} {N : Nat → Bool} (h : ∀ j, j < n → t j = t' j) (hG : pu_G g t n R N T) : pu_G g t' n R N T := by
  intro r p hr hp
  obtain ⟨h1, h2⟩ := hG r p hr hp
  rw [tc_M h] at h1
  exact ⟨h1, h2⟩
end
/-! building: one outcome for every question -/
section
variable {g : ig_T} {t : Nat → Nat} {n R cp : Nat} {fz rc oR oN : Int32} {nu od ro mE mR mA tR tS tE tP wI wP : Nat → Int32}
theorem pb_put {k a b : Int32} {m al c it : Nat} (hR8 : R ≤ 8) (hit : it < 64) (ha : al < 16) (hB : ga_B R k a b) :
    ∃ (lo hi : Nat) (br : Bool), ga_N R k a b lo hi br ∧ ∀ post : Int32 → St2 → Prop, post (nI c) (nI R, nI cp, fz, nI (ig_A g), nI n, rc, oR, oN, ip_e (ig_O g), ip_e (ip_u (ig_C g) al (c + 1)), ip_eb (ip_u (ig_B g) it br), ip_e (ip_u (ig_L g) it lo), ip_e (ip_u (ig_H g) it hi), ip_e (ip_u (ig_M g) it m), nu, od, ro, ip_e t, mE, mR, mA, tR, tS, tE, tP, wI, wP) →
    (k = 3 → wX_addItem_89 post k a b (nI m) (nI al) (nI c) (nI it) 1 (nI it) (nI R) (nI cp) fz (nI (ig_A g)) (nI n) rc oR oN (ip_e (ig_O g)) (ip_e (ig_C g)) (ip_eb (ig_B g)) (ip_e (ig_L g)) (ip_e (ig_H g)) (ip_e (ig_M g)) nu od ro (ip_e t) mE mR mA tR tS tE tP wI wP) ∧ (¬ k = 3 → wX_addItem_89 post k a b (nI m) (nI al) (nI c) (nI it) 0 (nI it) (nI R) (nI cp) fz (nI (ig_A g)) (nI n) rc oR oN (ip_e (ig_O g)) (ip_e (ig_C g)) (ip_eb (ig_B g)) (ip_e (ig_L g)) (ip_e (ig_H g)) (ip_e (ig_M g)) nu od ro (ip_e t) mE mR mA tR tS tE tP wI wP) := by
  have hv : vp_in (nI it) 64 := vp_in_nI hit (by decide)
  have ec : (nI it).toNatClampNeg = it := nI_clamp (by omega)
  have w0 : ∀ br : Bool, upd (ip_eb (ig_B g)) (nI it).toNatClampNeg (vp_nar .boolean (ip_b br)) = ip_eb (ip_u (ig_B g) it br) := fun br => by
    rw [ec, show vp_nar .boolean (ip_b br) = ip_b br by cases br <;> rfl]
    exact ip_ueb _ _ _
  have w1 : ∀ v : Nat, upd (ip_e (ig_L g)) (nI it).toNatClampNeg (nI v) = ip_e (ip_u (ig_L g) it v) := fun v => by rw [ec]; exact ip_ue _ _ _
  rcases hB with ⟨rfl, d, hd, rfl⟩ | ⟨rfl, d, e, hde, he, rfl, rfl⟩ | rfl | ⟨rfl, s, hs, rfl⟩
  · refine ⟨d, d, false, ⟨⟨fun z => absurd z (by decide), fun _ => Or.inr (Or.inl ⟨rfl, rfl, rfl⟩)⟩, hd, hd, fun z => absurd z (by decide)⟩, fun post H => ?_⟩
    exact br_f (by decide) ⟨hv, nm_r (w0 false) (br_f (by decide) ⟨hv, nm_r (w1 d) (br_f (by decide) (br_f (by decide) (xa_133 (g := (ig_O g, ig_C g, ig_M g, ip_u (ig_L g) it d, ig_H g, ip_u (ig_B g) it false, ig_A g)) hit ha H)))⟩)⟩
  · refine ⟨d, e, false, ⟨⟨fun z => absurd z (by decide), fun _ => Or.inr (Or.inr ⟨rfl, rfl, rfl⟩)⟩, by omega, he, fun z => absurd z (by decide)⟩, fun post H => ?_⟩
    exact br_f (by decide) ⟨hv, nm_r (w0 false) (br_f (by decide) ⟨hv, nm_r (w1 d) (br_f (by decide) (br_t rfl (xa_133 (g := (ig_O g, ig_C g, ig_M g, ip_u (ig_L g) it d, ig_H g, ip_u (ig_B g) it false, ig_A g)) hit ha H)))⟩)⟩
  · refine ⟨0, 65535, false, ⟨⟨fun z => absurd z (by decide), fun _ => Or.inl ⟨rfl, rfl, rfl⟩⟩, by decide, by decide, fun z => absurd z (by decide)⟩, fun post H => ?_⟩
    exact br_f (by decide) ⟨hv, nm_r (w0 false) (br_t rfl ⟨hv, nm_r (w1 0) (br_t rfl (xa_133 (hi := 65535) (g := (ig_O g, ig_C g, ig_M g, ip_u (ig_L g) it 0, ig_H g, ip_u (ig_B g) it false, ig_A g)) hit ha H))⟩)⟩
  · refine ⟨s, s, true, ⟨⟨fun _ => ⟨rfl, rfl⟩, fun z => absurd z (by decide)⟩, by omega, by omega, fun _ => hs⟩, fun post H => ?_⟩
    exact br_t rfl ⟨hv, nm_r (w0 true) (br_f (by decide) ⟨hv, nm_r (w1 s) (br_f (by decide) (br_f (by decide) (xa_133 (g := (ig_O g, ig_C g, ig_M g, ip_u (ig_L g) it s, ig_H g, ip_u (ig_B g) it true, ig_A g)) hit ha H)))⟩)⟩
end
/-- the state, its grammar named -/
abbrev pb_X (t : Nat → Nat) (n R cp : Nat) (fz rc oR oN : Int32) (nu od ro mE mR mA tR tS tE tP wI wP : Nat → Int32) (g : ig_T) : St2 := (nI R, nI cp, fz, nI (ig_A g), nI n, rc, oR, oN, ip_e (ig_O g), ip_e (ig_C g), ip_eb (ig_B g), ip_e (ig_L g), ip_e (ig_H g), ip_e (ig_M g), nu, od, ro, ip_e t, mE, mR, mA, tR, tS, tE, tP, wI, wP)
def ga_M (v : Int32) : Prop := ∃ m, m ≤ 5 ∧ v = nI m
theorem ga_m {v : Int32} {A B : Prop} (h1 : ga_M v → A) (h0 : ¬ ga_M v → B) : (v < 0 → B) ∧ (¬ v < 0 → ((v ≤ 5 → A) ∧ (¬ v ≤ 5 → B))) := by
  refine br_c (fun z => h0 (fun w => ?_)) (fun z => ?_)
  · obtain ⟨m, hm, rfl⟩ := w
    exact nI_pos (by omega) z
  · obtain ⟨m, hm, rfl⟩ := nI_of z
    refine pk_le m 5 (fun z2 => h1 ⟨m, z2, rfl⟩) (fun z2 => h0 (fun w => ?_))
    obtain ⟨m', hm', e⟩ := w
    have := (nI_eq hm (by omega)).mp e
    omega
section
variable {g : ig_T} {t : Nat → Nat} {n R cp : Nat} {fz rc oR oN : Int32} {nu od ro mE mR mA tR tS tE tP wI wP : Nat → Int32}
theorem pb_new {r : Nat} (F : xk_F g t n R) (hr : r < R) : ∃ (g' : ig_T) (v : Int32), ig_V g' R ∧ ∀ post : Int32 → St2 → Prop, post v (pb_X t n R cp 0 rc oR oN nu od ro mE mR mA tR tS tE tP wI wP g') → wpX_newAlt post (nI R, nI cp, 0, nI (ig_A g), nI n, rc, oR, oN, ip_e (ig_O g), ip_e (ig_C g), ip_eb (ig_B g), ip_e (ig_L g), ip_e (ig_H g), ip_e (ig_M g), nu, od, ro, ip_e t, mE, mR, mA, tR, tS, tE, tP, wI, wP) (nI r) := by
  have hR8 := F.2.1
  have h16 := F.2.2.1.1
  by_cases z2 : ig_A g < 16
  · have hv : vp_in (nI (ig_A g)) 16 := vp_in_nI z2 (by decide)
    have ec : (nI (ig_A g)).toNatClampNeg = ig_A g := nI_clamp (by omega)
    have w1 : upd (ip_e (ig_O g)) (nI (ig_A g)).toNatClampNeg (nI r) = ip_e (ip_u (ig_O g) (ig_A g) r) := by rw [ec]; exact ip_ue _ _ _
    have w2 : upd (ip_e (ig_C g)) (nI (ig_A g)).toNatClampNeg 0 = ip_e (ip_u (ig_C g) (ig_A g) 0) := by rw [ec]; exact ip_ue _ _ 0
    refine ⟨ga_A g r, nI (ig_A g), ga_V F.2.2.1 hr z2, fun post H => br_t rfl (br_f (nI_pos (by omega)) (pk_le R r (fun w => by omega) (fun _ => br_f (by decide) (pk_lt (ig_A g) 16 (fun _ => ⟨hv, nm_r w1 ⟨hv, nm_r w2 (nm_r (nI_1 _) H)⟩⟩) (fun w => by omega)))))⟩
  · exact ⟨g, -1, F.2.2.1, fun post H => br_t rfl (br_f (nI_pos (by omega)) (pk_le R r (fun w => by omega) (fun _ => br_f (by decide) (pk_lt (ig_A g) 16 (fun w => by omega) (fun _ => H)))))⟩
theorem pb_add (k a b v : Int32) (F : xk_F g t n R) : ∃ (g' : ig_T) (w : Int32), ig_V g' R ∧ ∀ post : Int32 → St2 → Prop, post w (pb_X t n R cp 0 rc oR oN nu od ro mE mR mA tR tS tE tP wI wP g') → wpX_addItem post (nI R, nI cp, 0, nI (ig_A g), nI n, rc, oR, oN, ip_e (ig_O g), ip_e (ig_C g), ip_eb (ig_B g), ip_e (ig_L g), ip_e (ig_H g), ip_e (ig_M g), nu, od, ro, ip_e t, mE, mR, mA, tR, tS, tE, tP, wI, wP) k a b v := by
  have hR8 := F.2.1
  have hV := F.2.2.1
  have h16 := hV.1
  by_cases z : ig_A g = 0
  · exact ⟨g, -1, hV, fun post H => br_t rfl (br_t (by rw [z]; rfl) H)⟩
  · have z' : ¬ nI (ig_A g) = 0 := nI_ne0 (by omega) (by omega)
    obtain ⟨al, hal⟩ : ∃ al, ig_A g = al + 1 := ⟨ig_A g - 1, by omega⟩
    have hC := (hV.2 al).2.1
    by_cases hB : ga_B R k a b
    · by_cases hm : ga_M v
      · obtain ⟨m, hm5, rfl⟩ := id hm
        have e0 : nI (ig_A g) - 1 = nI al := by rw [hal]; exact nI_pred al
        by_cases h4 : ig_C g al < 4
        · obtain ⟨lo, hi, br, hN, K⟩ := pb_put (g := g) (t := t) (n := n) (R := R) (cp := cp) (fz := 0) (rc := rc) (oR := oR) (oN := oN) (nu := nu) (od := od) (ro := ro) (mE := mE) (mR := mR) (mA := mA) (tR := tR) (tS := tS) (tE := tE) (tP := tP) (wI := wI) (wP := wP) (m := m) (al := al) (c := ig_C g al) (it := 4 * al + ig_C g al) hR8 (by omega) (by omega) hB
          refine ⟨ga_I g al (ig_C g al) (4 * al + ig_C g al) m lo hi br, nI (ig_C g al), ga_IV hV h4 hm5 hN, fun post H => ?_⟩
          refine br_t rfl (br_f z' (xa_base (by omega) (fun _ => br_f (by decide) (ga_m (fun _ => ?_) (fun w => absurd hm w))) (fun w => absurd hB w)))
          exact nm_r e0 ⟨vp_in_nI (by omega) (by decide), nm_r (ip_ce _ (by omega)) (pk_lt (ig_C g al) 4 (fun _ => nm_r (ip_ls al (ig_C g al)) (K post H)) (fun w => by omega))⟩
        · refine ⟨g, -1, hV, fun post H => br_t rfl (br_f z' (xa_base (by omega) (fun _ => br_f (by decide) (ga_m (fun _ => ?_) (fun w => absurd hm w))) (fun w => absurd hB w)))⟩
          exact nm_r e0 ⟨vp_in_nI (by omega) (by decide), nm_r (ip_ce _ (by omega)) (pk_lt (ig_C g al) 4 (fun w => by omega) (fun _ => H))⟩
      · exact ⟨g, -1, hV, fun post H => br_t rfl (br_f z' (xa_base (by omega) (fun _ => br_f (by decide) (ga_m (fun w => absurd w hm) (fun _ => H))) (fun w => absurd hB w)))⟩
    · exact ⟨g, -1, hV, fun post H => br_t rfl (br_f z' (xa_base (by omega) (fun w => absurd w hB) (fun _ => br_t rfl H)))⟩
/-- a grammar that was accepted -/
def pv_C (g : ig_T) (R : Nat) (rO : Nat → Nat) : Prop := ∃ (N : Nat → Bool) (rk : Nat → Nat), ig_K g R N rk ∧ (∀ k, k < R → rO k < R ∧ rk (rO k) = k) ∧ ∀ r, r < R → rO (rk r) = r
theorem pb_compile {N O : Nat → Bool} {rO : Nat → Nat} (F : xk_F g t n R) (hN : ∀ j, 8 ≤ j → N j = false) (hO : ∀ j, 8 ≤ j → O j = false) :
    ∃ (v fz : Int32) (N' O' : Nat → Bool) (rO' : Nat → Nat), (fz = 0 ∨ (fz = 1 ∧ pv_C g R rO')) ∧ ∀ post : Int32 → St2 → Prop, post v (nI R, nI cp, fz, nI (ig_A g), nI n, rc, oR, oN, ip_e (ig_O g), ip_e (ig_C g), ip_eb (ig_B g), ip_e (ig_L g), ip_e (ig_H g), ip_e (ig_M g), ip_eb N', ip_eb O', ip_e rO', ip_e t, mE, mR, mA, tR, tS, tE, tP, wI, wP) → wpX_compile post (nI R, nI cp, 0, nI (ig_A g), nI n, rc, oR, oN, ip_e (ig_O g), ip_e (ig_C g), ip_eb (ig_B g), ip_e (ig_L g), ip_e (ig_H g), ip_e (ig_M g), ip_eb N, ip_eb O, ip_e rO, ip_e t, mE, mR, mA, tR, tS, tE, tP, wI, wP) := by
  have hV := F.2.2.1
  by_cases h1 : ig_Nb g (cp_N g R)
  · by_cases h2 : (cp_O g R rO).2.1 = R
    · have hI : od_I g (cp_N g R) R (cp_O g R rO) := od_rI R _ (od_0 g (cp_N g R) R rO)
      obtain ⟨rk, k1, k2, k3⟩ := od_K hV hI h2 (cp_rCl hV _) h1
      exact ⟨0, 1, cp_N g R, (cp_O g R rO).1, (cp_O g R rO).2.2, Or.inr ⟨rfl, cp_N g R, rk, k1, k3, k2⟩, fun post H => xc_compile F hN hO (fun z => absurd h1 z) (fun _ z => absurd h2 z) (fun _ _ => H)⟩
    · exact ⟨3, 0, cp_N g R, (cp_O g R rO).1, (cp_O g R rO).2.2, Or.inl rfl, fun post H => xc_compile F hN hO (fun z => absurd h1 z) (fun _ _ => H) (fun _ z => absurd z h2)⟩
  · exact ⟨2, 0, cp_N g R, O, rO, Or.inl rfl, fun post H => xc_compile F hN hO (fun _ => H) (fun z => absurd z h1) (fun z => absurd z h1)⟩
end
end
section
/-! the nodes that are read -/
def pn_v (L : List tr_T) (f : tr_T → Int32) : Nat → Int32
  | 0 => -1
  | i + 1 => if i < 64 then (match L[i]? with | some x => f x | none => -1) else -1
theorem pn_lo {L : List tr_T} {f : tr_T → Int32} {i : Nat} (h6 : i < 64) (hi : i < L.length) : pn_v L f (i + 1) = f L[i] := by
  show (if i < 64 then (match L[i]? with | some x => f x | none => -1) else -1) = f L[i]
  rw [if_pos h6, List.getElem?_eq_getElem hi]
theorem pn_no {L : List tr_T} {f : tr_T → Int32} {i : Nat} (hi : L.length ≤ i) : pn_v L f (i + 1) = -1 := by
  show (if i < 64 then (match L[i]? with | some x => f x | none => -1) else -1) = -1
  rw [List.getElem?_eq_none hi]
  split <;> rfl
theorem pn_hi {L : List tr_T} {f : tr_T → Int32} {i : Nat} (h6 : 64 ≤ i) : pn_v L f (i + 1) = -1 := by
  show (if i < 64 then (match L[i]? with | some x => f x | none => -1) else -1) = -1
  rw [if_neg (by omega)]
section
variable {g : ig_T} {t : Nat → Nat} {n R cp : Nat} {fz rc oR oN : Int32} {nu od ro mE mR mA tR tS tE tP wI wP : Nat → Int32}
theorem pn_nodeRule {post : Int32 → Prop} {L : List tr_T} {y : Nat} (hl : L.length ≤ 65) (hy : y ≤ 67) (hA : tr_A L tR tS tE tP) (h : post (pn_v L (fun x => nI x.1) y)) : wpX_nodeRule post (nI R, nI cp, fz, nI (ig_A g), nI n, rc, oR, nI L.length, ip_e (ig_O g), ip_e (ig_C g), ip_eb (ig_B g), ip_e (ig_L g), ip_e (ig_H g), ip_e (ig_M g), nu, od, ro, ip_e t, mE, mR, mA, tR, tS, tE, tP, wI, wP) (ip_m y) := by
  unfold wpX_nodeRule
  dsimp only
  cases y with
  | zero => exact br_t (by decide) (br_t rfl h)
  | succ i =>
    refine br_f (nI_pos (by omega)) (pk_le L.length i (fun z1 => br_t rfl ?_) (fun z1 => pk_le 64 i (fun z2 => br_t rfl ?_) (fun z2 => br_f (by decide) ⟨vp_in_nI z2 (by decide), ?_⟩)))
    · rw [pn_no z1] at h; exact h
    · rw [pn_hi z2] at h; exact h
    · rw [pn_lo z2 z1] at h
      rw [ip_ms, nI_clamp (by omega), (hA i L[i] (List.getElem?_eq_getElem z1) z2).1]
      exact h
theorem pn_nodeStart {post : Int32 → Prop} {L : List tr_T} {y : Nat} (hl : L.length ≤ 65) (hy : y ≤ 67) (hA : tr_A L tR tS tE tP) (h : post (pn_v L (fun x => nI x.2.1) y)) : wpX_nodeStart post (nI R, nI cp, fz, nI (ig_A g), nI n, rc, oR, nI L.length, ip_e (ig_O g), ip_e (ig_C g), ip_eb (ig_B g), ip_e (ig_L g), ip_e (ig_H g), ip_e (ig_M g), nu, od, ro, ip_e t, mE, mR, mA, tR, tS, tE, tP, wI, wP) (ip_m y) := by
  unfold wpX_nodeStart
  dsimp only
  cases y with
  | zero => exact br_t (by decide) (br_t rfl h)
  | succ i =>
    refine br_f (nI_pos (by omega)) (pk_le L.length i (fun z1 => br_t rfl ?_) (fun z1 => pk_le 64 i (fun z2 => br_t rfl ?_) (fun z2 => br_f (by decide) ⟨vp_in_nI z2 (by decide), ?_⟩)))
    · rw [pn_no z1] at h; exact h
    · rw [pn_hi z2] at h; exact h
    · rw [pn_lo z2 z1] at h
      rw [ip_ms, nI_clamp (by omega), (hA i L[i] (List.getElem?_eq_getElem z1) z2).2.1]
      exact h
theorem pn_nodeEnd {post : Int32 → Prop} {L : List tr_T} {y : Nat} (hl : L.length ≤ 65) (hy : y ≤ 67) (hA : tr_A L tR tS tE tP) (h : post (pn_v L (fun x => nI x.2.2.1) y)) : wpX_nodeEnd post (nI R, nI cp, fz, nI (ig_A g), nI n, rc, oR, nI L.length, ip_e (ig_O g), ip_e (ig_C g), ip_eb (ig_B g), ip_e (ig_L g), ip_e (ig_H g), ip_e (ig_M g), nu, od, ro, ip_e t, mE, mR, mA, tR, tS, tE, tP, wI, wP) (ip_m y) := by
  unfold wpX_nodeEnd
  dsimp only
  cases y with
  | zero => exact br_t (by decide) (br_t rfl h)
  | succ i =>
    refine br_f (nI_pos (by omega)) (pk_le L.length i (fun z1 => br_t rfl ?_) (fun z1 => pk_le 64 i (fun z2 => br_t rfl ?_) (fun z2 => br_f (by decide) ⟨vp_in_nI z2 (by decide), ?_⟩)))
    · rw [pn_no z1] at h; exact h
    · rw [pn_hi z2] at h; exact h
    · rw [pn_lo z2 z1] at h
      rw [ip_ms, nI_clamp (by omega), (hA i L[i] (List.getElem?_eq_getElem z1) z2).2.2.1]
      exact h
theorem pn_nodeParent {post : Int32 → Prop} {L : List tr_T} {y : Nat} (hl : L.length ≤ 65) (hy : y ≤ 67) (hA : tr_A L tR tS tE tP) (h : post (pn_v L (fun x => ip_m x.2.2.2) y)) : wpX_nodeParent post (nI R, nI cp, fz, nI (ig_A g), nI n, rc, oR, nI L.length, ip_e (ig_O g), ip_e (ig_C g), ip_eb (ig_B g), ip_e (ig_L g), ip_e (ig_H g), ip_e (ig_M g), nu, od, ro, ip_e t, mE, mR, mA, tR, tS, tE, tP, wI, wP) (ip_m y) := by
  unfold wpX_nodeParent
  dsimp only
  cases y with
  | zero => exact br_t (by decide) (br_t rfl h)
  | succ i =>
    refine br_f (nI_pos (by omega)) (pk_le L.length i (fun z1 => br_t rfl ?_) (fun z1 => pk_le 64 i (fun z2 => br_t rfl ?_) (fun z2 => br_f (by decide) ⟨vp_in_nI z2 (by decide), ?_⟩)))
    · rw [pn_no z1] at h; exact h
    · rw [pn_hi z2] at h; exact h
    · rw [pn_lo z2 z1] at h
      rw [ip_ms, nI_clamp (by omega), (hA i L[i] (List.getElem?_eq_getElem z1) z2).2.2.2]
      exact h
end
section
variable {g : ig_T} {t : Nat → Nat} {n R cp : Nat} {fz rc oR oN : Int32} {nu od ro mE mR mA tR tS tE tP wI wP : Nat → Int32} {rc' oR' : Int32} {mE' mR' mA' tR' tS' tE' tP' wI' wP' : Nat → Int32} {tb : Nat → Nat} {kc ks LL : Nat} {xs : Nat → Int32}
theorem pn_682 {L : List tr_T} (hl : L.length ≤ 65) (hA : tr_A L tR tS tE tP) (hB : tr_A L tR' tS' tE' tP') :
    ∃ fu, wL_law_682 (fun r => r = 1) LL xs kc ks (nI R) (nI cp) fz (nI (ig_A g)) (nI n) rc oR (nI L.length) (ip_e (ig_O g)) (ip_e (ig_C g)) (ip_eb (ig_B g)) (ip_e (ig_L g)) (ip_e (ig_H g)) (ip_e (ig_M g)) nu od ro (ip_e t) mE mR mA tR tS tE tP wI wP (nI R) (nI cp) fz (nI (ig_A g)) (nI n) rc' oR' (nI L.length) (ip_e (ig_O g)) (ip_e (ig_C g)) (ip_eb (ig_B g)) (ip_e (ig_L g)) (ip_e (ig_H g)) (ip_e (ig_M g)) nu od ro (ip_e tb) mE' mR' mA' tR' tS' tE' tP' wI' wP' fu (-1) := by
  have key : ∀ (d nn y : Nat), y + d = 67 → d < nn → wL_law_682 (fun r => r = 1) LL xs kc ks (nI R) (nI cp) fz (nI (ig_A g)) (nI n) rc oR (nI L.length) (ip_e (ig_O g)) (ip_e (ig_C g)) (ip_eb (ig_B g)) (ip_e (ig_L g)) (ip_e (ig_H g)) (ip_e (ig_M g)) nu od ro (ip_e t) mE mR mA tR tS tE tP wI wP (nI R) (nI cp) fz (nI (ig_A g)) (nI n) rc' oR' (nI L.length) (ip_e (ig_O g)) (ip_e (ig_C g)) (ip_eb (ig_B g)) (ip_e (ig_L g)) (ip_e (ig_H g)) (ip_e (ig_M g)) nu od ro (ip_e tb) mE' mR' mA' tR' tS' tE' tP' wI' wP' nn (ip_m y) := by
    intro d
    induction d with
    | zero =>
      intro nn y hy hnn
      obtain ⟨nn, rfl⟩ : ∃ k, nn = k + 1 := ⟨nn - 1, by omega⟩
      exact br_t ((ip_mlt (x := 66) (y := y) (by omega) (by omega)).mpr (by omega)) rfl
    | succ d ih =>
      intro nn y hy hnn
      obtain ⟨nn, rfl⟩ : ∃ k, nn = k + 1 := ⟨nn - 1, by omega⟩
      have hn : ¬ (65 : Int32) < ip_m y := fun z => by
        have := (ip_mlt (x := 66) (y := y) (by omega) (by omega)).mp z
        omega
      refine br_f hn (pn_nodeRule hl (by omega) hA (pn_nodeRule hl (by omega) hB (br_t rfl (pn_nodeStart hl (by omega) hA (pn_nodeStart hl (by omega) hB (br_t rfl (pn_nodeEnd hl (by omega) hA (pn_nodeEnd hl (by omega) hB (br_t rfl (pn_nodeParent hl (by omega) hA (pn_nodeParent hl (by omega) hB (br_t rfl (nm_r (e' := ip_m (y + 1)) ?_ (ih nn (y + 1) (by omega) (by omega)))))))))))))))
      cases y with
      | zero => rfl
      | succ i => rw [ip_ms, ip_ms, nI_1]
  exact ⟨68, key 67 68 0 (by omega) (by omega)⟩
end
/-! the facts of the object that was changed, behind compile -/
def pv_F (g : ig_T) (t : Nat → Nat) (n R cp x : Nat) (fz oR : Int32) (L : List tr_T) (rO : Nat → Nat) (tR tS tE tP : ar_T) : Prop :=
  xk_F g t n R ∧ 1 ≤ R ∧ n ≤ cp ∧ 8 ≤ cp ∧ cp ≤ 24 ∧ x ≤ 25 ∧ L.length ≤ 65 ∧ tr_A L tR tS tE tP ∧ ((fz = 0 ∧ oR = -1 ∧ L = []) ∨ (fz = 1 ∧ pv_C g R rO))
section
variable {g : ig_T} {t tb : Nat → Nat} {n m R cp x kc ks LL : Nat} {fz oR : Int32} {L : List tr_T} {N O : Nat → Bool} {rO : Nat → Nat} {mE mR mA tR tS tE tP wI wP : ar_T} {xs : Nat → Int32}
/-- the second object has the text: both parse, and all that is read is the same -/
theorem pe_end (hL : LL ≤ 260) (F : pv_F g t n R cp x fz oR L rO tR tS tE tP) (htb : tx_c tb) (ht : ∀ j, j < n → t j = tb j) (nn : Nat) :
    wL_law_576 (fun r => r = 1) LL xs (nI R) (nI n) kc ks (nn + 1) (nI n) (nI R) (nI cp) fz (nI (ig_A g)) (nI n) (ip_m x) oR (nI L.length) (ip_e (ig_O g)) (ip_e (ig_C g)) (ip_eb (ig_B g)) (ip_e (ig_L g)) (ip_e (ig_H g)) (ip_e (ig_M g)) (ip_eb N) (ip_eb O) (ip_e rO) (ip_e t) mE mR mA tR tS tE tP wI wP (nI R) (nI cp) fz (nI (ig_A g)) (nI n) (ip_m 0) (-1) 0 (ip_e (ig_O g)) (ip_e (ig_C g)) (ip_eb (ig_B g)) (ip_e (ig_L g)) (ip_e (ig_H g)) (ip_e (ig_M g)) (ip_eb N) (ip_eb O) (ip_e rO) (ip_e tb) (fun _ => 0) (fun _ => 0) (fun _ => 0) (fun _ => 0) (fun _ => 0) (fun _ => 0) (fun _ => 0) (fun _ => 0) (fun _ => 0) := by
  obtain ⟨F1, f2, f3, f4, f5, f6, f7, f8, f9⟩ := F
  have hn24 := F1.1
  have hR8 := F1.2.1
  have hV := F1.2.2.1
  refine pk_le n n (fun _ => ?_) (fun z => by omega)
  obtain ⟨v3, K3⟩ := lm_cell xs hL (k := 3) (by decide)
  refine K3 _ ?_
  obtain ⟨r, hr, Kr⟩ := lm_mod v3 (M := R) (by omega) (by omega)
  refine Kr _ ?_
  obtain ⟨v4, K4⟩ := lm_cell xs hL (k := 4) (by decide)
  refine K4 _ ?_
  obtain ⟨p, hp, Kp⟩ := lm_mod v4 (M := n + 1) (by omega) (by omega)
  rw [nI_1 n]
  refine Kp _ ?_
  rcases f9 with ⟨rfl, rfl, rfl⟩ | ⟨rfl, N0, rk, hK, hO, hO'⟩
  · exact br_t rfl (br_t rfl (br_t rfl (br_t rfl (br_t rfl (pn_682 (L := []) (by decide) (tr_A0 _ _ _ _) (tr_A0 _ _ _ _))))))
  · obtain ⟨G, hG⟩ := pu_ex t n hV hK
    have hG' := tc_G ht hG
    have F1' : xk_F g tb n R := ⟨hn24, hR8, hV, htb⟩
    have hlen : (xp_A G (tk_K g t n G) r p).length ≤ 65 := by
      unfold xp_A
      by_cases e : (G r p).1 = 0
      · rw [if_pos e]; decide
      · rw [if_neg e]; exact tr_Lle _ 65 _ _
    refine xp_parse (T := G) (N := N0) F1 hK hG hO hO' hr (by omega) f6 (fun x mE mR mA tR tS tE tP wI wP hx hT => ?_)
    refine xp_parse (T := G) (N := N0) F1' hK hG' hO hO' hr (by omega) (by decide) (fun x' mE' mR' mA' tR' tS' tE' tP' wI' wP' hx' hT' => ?_)
    rw [← tc_K ht] at hT' ⊢
    exact br_t rfl (br_t rfl (br_t rfl (pn_682 hlen hT hT')))
theorem pe_576 (hL : LL ≤ 260) (F : pv_F g t n R cp x fz oR L rO tR tS tE tP) : ∀ (d nn m : Nat) (tb : Nat → Nat), m + d = n → d < nn → tx_c tb → (∀ j, j < m → t j = tb j) →
    wL_law_576 (fun r => r = 1) LL xs (nI R) (nI n) kc ks nn (nI m) (nI R) (nI cp) fz (nI (ig_A g)) (nI n) (ip_m x) oR (nI L.length) (ip_e (ig_O g)) (ip_e (ig_C g)) (ip_eb (ig_B g)) (ip_e (ig_L g)) (ip_e (ig_H g)) (ip_e (ig_M g)) (ip_eb N) (ip_eb O) (ip_e rO) (ip_e t) mE mR mA tR tS tE tP wI wP (nI R) (nI cp) fz (nI (ig_A g)) (nI m) (ip_m 0) (-1) 0 (ip_e (ig_O g)) (ip_e (ig_C g)) (ip_eb (ig_B g)) (ip_e (ig_L g)) (ip_e (ig_H g)) (ip_e (ig_M g)) (ip_eb N) (ip_eb O) (ip_e rO) (ip_e tb) (fun _ => 0) (fun _ => 0) (fun _ => 0) (fun _ => 0) (fun _ => 0) (fun _ => 0) (fun _ => 0) (fun _ => 0) (fun _ => 0) := by
  have hn24 := F.1.1
  have hnc := F.2.2.1
  have hcp := F.2.2.2.2.1
  intro d
  induction d with
  | zero =>
    intro nn m tb hm hnn htb ht
    obtain ⟨nn, rfl⟩ : ∃ k, nn = k + 1 := ⟨nn - 1, by omega⟩
    obtain rfl : m = n := by omega
    exact pe_end hL F htb ht nn
  | succ d ih =>
    intro nn m tb hm hnn htb ht
    obtain ⟨nn, rfl⟩ : ∃ k, nn = k + 1 := ⟨nn - 1, by omega⟩
    have hc := F.1.2.2.2 m
    refine pk_le n m (fun z => by omega) (fun _ => br_f (nI_pos (by omega)) (pk_lt m n (fun _ => ⟨vp_in_nI (by omega) (by decide), ?_⟩) (fun z => by omega)))
    rw [ip_ce t (by omega)]
    dsimp only
    rw [pk_char, pk_tn (by omega), Nat.mod_eq_of_lt hc]
    refine xe_ins (pos := m) hcp (by omega) (Nat.le_refl m) hc htb (nm_r (nI_1 m) ?_)
    rw [Nat.sub_self]
    refine ih nn (m + 1) (ip_u tb m (t m)) (by omega) (by omega) (tx_u htb hc) (fun j hj => ?_)
    by_cases e : j = m
    · rw [e, ip_us]
    · rw [ip_un e]; exact ht j (by omega)
theorem pe_567 (hL : LL ≤ 260) (F : pv_F g t n R cp x fz oR L rO tR tS tE tP) : wL_law_567 (fun r => r = 1) LL xs (nI R) kc ks (nI R) (nI cp) fz (nI (ig_A g)) (nI n) (ip_m x) oR (nI L.length) (ip_e (ig_O g)) (ip_e (ig_C g)) (ip_eb (ig_B g)) (ip_e (ig_L g)) (ip_e (ig_H g)) (ip_e (ig_M g)) (ip_eb N) (ip_eb O) (ip_e rO) (ip_e t) mE mR mA tR tS tE tP wI wP (nI R) (nI cp) fz (nI (ig_A g)) (nI 0) (ip_m 0) (-1) 0 (ip_e (ig_O g)) (ip_e (ig_C g)) (ip_eb (ig_B g)) (ip_e (ig_L g)) (ip_e (ig_H g)) (ip_e (ig_M g)) (ip_eb N) (ip_eb O) (ip_e rO) (ip_e (fun _ => 0)) (fun _ => 0) (fun _ => 0) (fun _ => 0) (fun _ => 0) (fun _ => 0) (fun _ => 0) (fun _ => 0) (fun _ => 0) (fun _ => 0) :=
  ⟨n + 1, pe_576 hL F n (n + 1) 0 (fun _ => 0) (by omega) (by omega) (fun j => by show 0 < 65536; decide) (fun j hj => absurd hj (Nat.not_lt_zero j))⟩
/-- the facts behind an edit -/
theorem pv_ed {t' : Nat → Nat} {n' : Nat} (F : pv_F g t n R cp x fz oR L rO tR tS tE tP) (hn : n' ≤ cp) (ht : tx_c t') : pv_F g t' n' R cp x fz (-1) [] rO tR tS tE tP := by
  obtain ⟨⟨a1, a2, a3, a4⟩, f2, f3, f4, f5, f6, f7, f8, f9⟩ := F
  refine ⟨⟨by omega, a2, a3, ht⟩, f2, hn, f4, f5, f6, by decide, tr_A0 _ _ _ _, ?_⟩
  rcases f9 with ⟨h1, _, _⟩ | h
  · exact Or.inl ⟨h1, rfl, rfl⟩
  · exact Or.inr h
end
/-- what a step may leave -/
def pv_go (g : ig_T) (R cp : Nat) (fz : Int32) (N O : Nat → Bool) (rO : Nat → Nat) (P : St2 → Prop) : Prop :=
  ∀ (t : Nat → Nat) (n x : Nat) (oR : Int32) (L : List tr_T) (mE mR mA tR tS tE tP wI wP : ar_T), pv_F g t n R cp x fz oR L rO tR tS tE tP → P (nI R, nI cp, fz, nI (ig_A g), nI n, ip_m x, oR, nI L.length, ip_e (ig_O g), ip_e (ig_C g), ip_eb (ig_B g), ip_e (ig_L g), ip_e (ig_H g), ip_e (ig_M g), ip_eb N, ip_eb O, ip_e rO, ip_e t, mE, mR, mA, tR, tS, tE, tP, wI, wP)
section
variable {g : ig_T} {t : Nat → Nat} {n R cp x : Nat} {fz oR : Int32} {L : List tr_T} {N O : Nat → Bool} {rO : Nat → Nat} {mE mR mA tR tS tE tP wI wP : ar_T}
theorem ps_ins {post : Int32 → St2 → Prop} {i c : Nat} (hi : i < 2 ^ 31) (hc : c < 65536) (F : pv_F g t n R cp x fz oR L rO tR tS tE tP) (h : ∀ r, pv_go g R cp fz N O rO (post r)) : wpX_insertChar post (nI R, nI cp, fz, nI (ig_A g), nI n, ip_m x, oR, nI L.length, ip_e (ig_O g), ip_e (ig_C g), ip_eb (ig_B g), ip_e (ig_L g), ip_e (ig_H g), ip_e (ig_M g), ip_eb N, ip_eb O, ip_e rO, ip_e t, mE, mR, mA, tR, tS, tE, tP, wI, wP) (nI i) (nI c) := by
  have hcp := F.2.2.2.2.1
  have hnc := F.2.2.1
  have z : ¬ nI i < 0 := nI_pos hi
  by_cases z1 : n < i
  · exact br_f z (pk_lt n i (fun _ => h 0 t n x oR L mE mR mA tR tS tE tP wI wP F) (fun w => by omega))
  · by_cases z2 : n < cp
    · refine xe_ins hcp z2 (by omega) hc F.1.2.2.2 ?_
      exact h 1 _ (n + 1) x (-1) [] mE mR mA tR tS tE tP wI wP (pv_ed F (by omega) (tx_u (tx_ic _ _ _ F.1.2.2.2) hc))
    · exact br_f z (pk_lt n i (fun w => by omega) (fun _ => pk_lt n cp (fun w => by omega) (fun _ => h 0 t n x oR L mE mR mA tR tS tE tP wI wP F)))
theorem ps_del {post : Int32 → St2 → Prop} {a b : Int32} (F : pv_F g t n R cp x fz oR L rO tR tS tE tP) (h : ∀ r, pv_go g R cp fz N O rO (post r)) : wpX_deleteRange post (nI R, nI cp, fz, nI (ig_A g), nI n, ip_m x, oR, nI L.length, ip_e (ig_O g), ip_e (ig_C g), ip_eb (ig_B g), ip_e (ig_L g), ip_e (ig_H g), ip_e (ig_M g), ip_eb N, ip_eb O, ip_e rO, ip_e t, mE, mR, mA, tR, tS, tE, tP, wI, wP) a b := by
  have hnc := F.2.2.1
  exact xe_del F.1.1 F.1.2.2.2 (fun p l _ _ hl => h 1 _ _ x (-1) [] mE mR mA tR tS tE tP wI wP (pv_ed F (by omega) (tx_dc _ _ _ _ F.1.2.2.2))) (fun _ => h 0 t n x oR L mE mR mA tR tS tE tP wI wP F)
theorem ps_rep {post : Int32 → St2 → Prop} {a b : Int32} {c : Nat} (hc : c < 65536) (F : pv_F g t n R cp x fz oR L rO tR tS tE tP) (h : ∀ r, pv_go g R cp fz N O rO (post r)) : wpX_replaceRange post (nI R, nI cp, fz, nI (ig_A g), nI n, ip_m x, oR, nI L.length, ip_e (ig_O g), ip_e (ig_C g), ip_eb (ig_B g), ip_e (ig_L g), ip_e (ig_H g), ip_e (ig_M g), ip_eb N, ip_eb O, ip_e rO, ip_e t, mE, mR, mA, tR, tS, tE, tP, wI, wP) a b (nI c) := by
  have hnc := F.2.2.1
  exact xe_rep F.1.1 hc F.1.2.2.2 (fun p l _ _ hl => h 1 _ _ x (-1) [] mE mR mA tR tS tE tP wI wP (pv_ed F (by omega) (tx_dc _ _ _ _ (tx_u F.1.2.2.2 hc)))) (fun _ => h 0 t n x oR L mE mR mA tR tS tE tP wI wP F)
theorem ps_parse {post : Int32 → St2 → Prop} {r p : Nat} (hr : r < R) (hp : p ≤ n) (F : pv_F g t n R cp x fz oR L rO tR tS tE tP) (h : ∀ r, pv_go g R cp fz N O rO (post r)) : wpX_parse post (nI R, nI cp, fz, nI (ig_A g), nI n, ip_m x, oR, nI L.length, ip_e (ig_O g), ip_e (ig_C g), ip_eb (ig_B g), ip_e (ig_L g), ip_e (ig_H g), ip_e (ig_M g), ip_eb N, ip_eb O, ip_e rO, ip_e t, mE, mR, mA, tR, tS, tE, tP, wI, wP) (nI r) (nI p) := by
  obtain ⟨F1, f2, f3, f4, f5, f6, f7, f8, f9⟩ := id F
  rcases f9 with ⟨rfl, rfl, rfl⟩ | ⟨rfl, N0, rk, hK, hO, hO'⟩
  · exact br_t rfl (h (-2) t n x (-1) [] mE mR mA tR tS tE tP wI wP F)
  · obtain ⟨G, hG⟩ := pu_ex t n F1.2.2.1 hK
    refine xp_parse (T := G) (N := N0) F1 hK hG hO hO' hr hp f6 (fun x mE mR mA tR tS tE tP wI wP hx hT => ?_)
    refine h _ t n x _ (xp_A G (tk_K g t n G) r p) mE mR mA tR tS tE tP wI wP ⟨F1, f2, f3, f4, f5, hx, ?_, hT, Or.inr ⟨rfl, N0, rk, hK, hO, hO'⟩⟩
    unfold xp_A
    by_cases e : (G r p).1 = 0
    · rw [if_pos e]; decide
    · rw [if_neg e]; exact tr_Lle _ 65 _ _
end
section
variable {g : ig_T} {R cp kc ks LL : Nat} {fz : Int32} {N O : Nat → Bool} {rO : Nat → Nat} {xs : Nat → Int32}
/-- the steps on the first object alone -/
theorem pw_378 (hL : LL ≤ 260) : ∀ (d nn i k : Nat) (t : Nat → Nat) (n x : Nat) (oR : Int32) (L : List tr_T) (mE mR mA tR tS tE tP wI wP : ar_T), i + d = 300 → d < nn → k < 2000 → pv_F g t n R cp x fz oR L rO tR tS tE tP →
    wL_law_378 (fun r => r = 1) LL xs (nI R) kc ks nn (nI k) (nI i) (nI R) (nI cp) fz (nI (ig_A g)) (nI n) (ip_m x) oR (nI L.length) (ip_e (ig_O g)) (ip_e (ig_C g)) (ip_eb (ig_B g)) (ip_e (ig_L g)) (ip_e (ig_H g)) (ip_e (ig_M g)) (ip_eb N) (ip_eb O) (ip_e rO) (ip_e t) mE mR mA tR tS tE tP wI wP (nI R) (nI cp) fz (nI (ig_A g)) (nI 0) (ip_m 0) (-1) 0 (ip_e (ig_O g)) (ip_e (ig_C g)) (ip_eb (ig_B g)) (ip_e (ig_L g)) (ip_e (ig_H g)) (ip_e (ig_M g)) (ip_eb N) (ip_eb O) (ip_e rO) (ip_e (fun _ => 0)) (fun _ => 0) (fun _ => 0) (fun _ => 0) (fun _ => 0) (fun _ => 0) (fun _ => 0) (fun _ => 0) (fun _ => 0) (fun _ => 0) := by
  intro d
  induction d with
  | zero =>
    intro nn i k t n x oR L mE mR mA tR tS tE tP wI wP hi hnn hk F
    obtain ⟨nn, rfl⟩ : ∃ k, nn = k + 1 := ⟨nn - 1, by omega⟩
    exact pk_le LL k (fun _ => pe_567 hL F) (fun _ => pk_le 300 i (fun _ => pe_567 hL F) (fun z => by omega))
  | succ d ih =>
    intro nn i k t n x oR L mE mR mA tR tS tE tP wI wP hi hnn hk F
    obtain ⟨nn, rfl⟩ : ∃ k, nn = k + 1 := ⟨nn - 1, by omega⟩
    have hn24 := F.1.1
    have hR8 := F.1.2.1
    have hR1 := F.2.1
    refine pk_le LL k (fun _ => pe_567 hL F) (fun hk' => pk_le 300 i (fun z => by omega) (fun _ => ?_))
    have next : ∀ (r : Int32), pv_go g R cp fz N O rO (fun u => match u with | (b1, b2, b3, b4, b5, b6, b7, b8, b9, b10, b11, b12, b13, b14, b15, b16, b17, b18, b19, b20, b21, b22, b23, b24, b25, b26, b27) => wL_law_378 (fun r => r = 1) LL xs (nI R) kc ks nn (nI (k + 3)) (nI (i + 1)) b1 b2 b3 b4 b5 b6 b7 b8 b9 b10 b11 b12 b13 b14 b15 b16 b17 b18 b19 b20 b21 b22 b23 b24 b25 b26 b27 (nI R) (nI cp) fz (nI (ig_A g)) (nI 0) (ip_m 0) (-1) 0 (ip_e (ig_O g)) (ip_e (ig_C g)) (ip_eb (ig_B g)) (ip_e (ig_L g)) (ip_e (ig_H g)) (ip_e (ig_M g)) (ip_eb N) (ip_eb O) (ip_e rO) (ip_e (fun _ => 0)) (fun _ => 0) (fun _ => 0) (fun _ => 0) (fun _ => 0) (fun _ => 0) (fun _ => 0) (fun _ => 0) (fun _ => 0) (fun _ => 0)) :=
      fun _ t n x oR L mE mR mA tR tS tE tP wI wP F' => ih nn (i + 1) (k + 3) t n x oR L mE mR mA tR tS tE tP wI wP (by omega) (by omega) (by omega) F'
    obtain ⟨v1, K1⟩ := lm_cell xs hL (k := k) (by omega)
    refine K1 _ ?_
    obtain ⟨op, hop, Ko⟩ := lm_mod v1 (M := 5) (by decide) (by decide)
    refine Ko _ ?_
    obtain ⟨vx, Kx⟩ := lm_cell xs hL (k := k + 1) (by omega)
    rw [nI_1 k]
    refine Kx _ ?_
    obtain ⟨vy, Ky⟩ := lm_cell xs hL (k := k + 2) (by omega)
    rw [show nI k + 2 = nI (k + 2) from nI_add k 2]
    refine Ky _ (nm_r (e' := nI (k + 3)) (nI_add k 3) (nm_r (nI_1 i) ?_))
    refine pk_lt 1 op (fun _ => pk_eq op 2 (fun _ => ?_) (fun _ => pk_eq op 3 (fun _ => ?_) (fun _ => ?_))) (fun _ => ?_)
    · obtain ⟨a, ha, Ka⟩ := lm_mod vx (M := n + 1) (by omega) (by omega)
      rw [nI_1 n]
      refine Ka _ ?_
      obtain ⟨b, hb, Kb⟩ := lm_mod vy (M := 3) (by decide) (by decide)
      exact Kb _ (ps_del F next)
    · obtain ⟨a, ha, Ka⟩ := lm_mod vx (M := n + 1) (by omega) (by omega)
      rw [nI_1 n]
      refine Ka _ ?_
      obtain ⟨b, hb, Kb⟩ := lm_mod vy (M := 3) (by decide) (by decide)
      refine Kb _ ?_
      obtain ⟨c, hc, Kc⟩ := lm_mod (vy >>> ((2 : Int32) &&& 31)) (M := 4) (by decide) (by decide)
      refine Kc _ ?_
      rw [pk_char]
      exact ps_rep (Nat.mod_lt _ (by decide)) F next
    · obtain ⟨a, ha, Ka⟩ := lm_mod vx (M := R) (by omega) (by omega)
      refine Ka _ ?_
      obtain ⟨b, hb, Kb⟩ := lm_mod vy (M := n + 1) (by omega) (by omega)
      rw [nI_1 n]
      exact Kb _ (ps_parse ha (by omega) F next)
    · obtain ⟨a, ha, Ka⟩ := lm_mod vx (M := n + 2) (by omega) (by omega)
      rw [show nI n + 2 = nI (n + 2) from nI_add n 2]
      refine Ka _ ?_
      obtain ⟨b, hb, Kb⟩ := lm_mod vy (M := 4) (by decide) (by decide)
      refine Kb _ ?_
      rw [pk_char]
      exact ps_ins (by omega) (Nat.mod_lt _ (by decide)) F next
end
end
section
/-! the law's building of the grammar, and its top -/
section
variable {g : ig_T} {R cp kc ks LL : Nat} {xs : Nat → Int32} {J64 J119 : Int32 → Int32 → Int32 → Int32 → Int32 → Int32 → Int32 → Int32 → Int32 → Int32 → ar_T → ar_T → ar_T → ar_T → ar_T → ar_T → ar_T → ar_T → ar_T → ar_T → ar_T → ar_T → ar_T → ar_T → ar_T → ar_T → ar_T → ar_T → ar_T → Int32 → Int32 → Int32 → Int32 → Int32 → Int32 → Int32 → Int32 → ar_T → ar_T → ar_T → ar_T → ar_T → ar_T → ar_T → ar_T → ar_T → ar_T → ar_T → ar_T → ar_T → ar_T → ar_T → ar_T → ar_T → ar_T → ar_T → Prop} {x5 x6 x7 x8 x9 : Int32}
theorem pb_F (hR : R ≤ 8) (h : ig_V g R) : xk_F g (fun _ => 0) 0 R := ⟨by decide, hR, h, fun j => by show 0 < 65536; decide⟩
theorem pl_325 {j : Nat} (hR : R ≤ 8) (hg : ig_V g R) (h : ∀ g : ig_T, ig_V g R → J119 x5 (nI (j + 1)) (nI R) (nI cp) 0 (nI (ig_A g)) (nI 0) (ip_m 0) (-1) 0 (ip_e (ig_O g)) (ip_e (ig_C g)) (ip_eb (ig_B g)) (ip_e (ig_L g)) (ip_e (ig_H g)) (ip_e (ig_M g)) (ip_eb (fun _ => false)) (ip_eb (fun _ => false)) (ip_e (fun _ => 0)) (ip_e (fun _ => 0)) (fun _ => 0) (fun _ => 0) (fun _ => 0) (fun _ => 0) (fun _ => 0) (fun _ => 0) (fun _ => 0) (fun _ => 0) (fun _ => 0) (nI R) (nI cp) 0 (nI (ig_A g)) (nI 0) (ip_m 0) (-1) 0 (ip_e (ig_O g)) (ip_e (ig_C g)) (ip_eb (ig_B g)) (ip_e (ig_L g)) (ip_e (ig_H g)) (ip_e (ig_M g)) (ip_eb (fun _ => false)) (ip_eb (fun _ => false)) (ip_e (fun _ => 0)) (ip_e (fun _ => 0)) (fun _ => 0) (fun _ => 0) (fun _ => 0) (fun _ => 0) (fun _ => 0) (fun _ => 0) (fun _ => 0) (fun _ => 0) (fun _ => 0)) (a b c d : Int32) :
    wL_law_325 (fun r => r = 1) LL xs J64 J119 (nI R) x5 x6 x7 x8 x9 (nI j) a b c d kc ks (nI R) (nI cp) 0 (nI (ig_A g)) (nI 0) (ip_m 0) (-1) 0 (ip_e (ig_O g)) (ip_e (ig_C g)) (ip_eb (ig_B g)) (ip_e (ig_L g)) (ip_e (ig_H g)) (ip_e (ig_M g)) (ip_eb (fun _ => false)) (ip_eb (fun _ => false)) (ip_e (fun _ => 0)) (ip_e (fun _ => 0)) (fun _ => 0) (fun _ => 0) (fun _ => 0) (fun _ => 0) (fun _ => 0) (fun _ => 0) (fun _ => 0) (fun _ => 0) (fun _ => 0) (nI R) (nI cp) 0 (nI (ig_A g)) (nI 0) (ip_m 0) (-1) 0 (ip_e (ig_O g)) (ip_e (ig_C g)) (ip_eb (ig_B g)) (ip_e (ig_L g)) (ip_e (ig_H g)) (ip_e (ig_M g)) (ip_eb (fun _ => false)) (ip_eb (fun _ => false)) (ip_e (fun _ => 0)) (ip_e (fun _ => 0)) (fun _ => 0) (fun _ => 0) (fun _ => 0) (fun _ => 0) (fun _ => 0) (fun _ => 0) (fun _ => 0) (fun _ => 0) (fun _ => 0) := by
  obtain ⟨g', v, hV', K⟩ := pb_add (cp := cp) (rc := ip_m 0) (oR := -1) (oN := 0) (nu := ip_eb (fun _ => false)) (od := ip_eb (fun _ => false)) (ro := ip_e (fun _ => 0)) (mE := fun _ => 0) (mR := fun _ => 0) (mA := fun _ => 0) (tR := fun _ => 0) (tS := fun _ => 0) (tE := fun _ => 0) (tP := fun _ => 0) (wI := fun _ => 0) (wP := fun _ => 0) a c d b (pb_F hR hg)
  unfold wL_law_325
  exact K _ (K _ (nm_r (nI_1 j) (h g' hV')))
theorem pl_276 {x10 : Int32} (h : ∀ a b c d : Int32, wL_law_325 (fun r => r = 1) LL xs J64 J119 (nI R) x5 x6 x7 x8 x9 x10 a b c d kc ks (nI R) (nI cp) 0 (nI (ig_A g)) (nI 0) (ip_m 0) (-1) 0 (ip_e (ig_O g)) (ip_e (ig_C g)) (ip_eb (ig_B g)) (ip_e (ig_L g)) (ip_e (ig_H g)) (ip_e (ig_M g)) (ip_eb (fun _ => false)) (ip_eb (fun _ => false)) (ip_e (fun _ => 0)) (ip_e (fun _ => 0)) (fun _ => 0) (fun _ => 0) (fun _ => 0) (fun _ => 0) (fun _ => 0) (fun _ => 0) (fun _ => 0) (fun _ => 0) (fun _ => 0) (nI R) (nI cp) 0 (nI (ig_A g)) (nI 0) (ip_m 0) (-1) 0 (ip_e (ig_O g)) (ip_e (ig_C g)) (ip_eb (ig_B g)) (ip_e (ig_L g)) (ip_e (ig_H g)) (ip_e (ig_M g)) (ip_eb (fun _ => false)) (ip_eb (fun _ => false)) (ip_e (fun _ => 0)) (ip_e (fun _ => 0)) (fun _ => 0) (fun _ => 0) (fun _ => 0) (fun _ => 0) (fun _ => 0) (fun _ => 0) (fun _ => 0) (fun _ => 0) (fun _ => 0)) (x12 x13 x14 x15 x16 : Int32) :
    wL_law_276 (fun r => r = 1) LL xs J64 J119 (nI R) x5 x6 x7 x8 x9 x10 x12 x13 x14 x15 x16 kc ks (nI R) (nI cp) 0 (nI (ig_A g)) (nI 0) (ip_m 0) (-1) 0 (ip_e (ig_O g)) (ip_e (ig_C g)) (ip_eb (ig_B g)) (ip_e (ig_L g)) (ip_e (ig_H g)) (ip_e (ig_M g)) (ip_eb (fun _ => false)) (ip_eb (fun _ => false)) (ip_e (fun _ => 0)) (ip_e (fun _ => 0)) (fun _ => 0) (fun _ => 0) (fun _ => 0) (fun _ => 0) (fun _ => 0) (fun _ => 0) (fun _ => 0) (fun _ => 0) (fun _ => 0) (nI R) (nI cp) 0 (nI (ig_A g)) (nI 0) (ip_m 0) (-1) 0 (ip_e (ig_O g)) (ip_e (ig_C g)) (ip_eb (ig_B g)) (ip_e (ig_L g)) (ip_e (ig_H g)) (ip_e (ig_M g)) (ip_eb (fun _ => false)) (ip_eb (fun _ => false)) (ip_e (fun _ => 0)) (ip_e (fun _ => 0)) (fun _ => 0) (fun _ => 0) (fun _ => 0) (fun _ => 0) (fun _ => 0) (fun _ => 0) (fun _ => 0) (fun _ => 0) (fun _ => 0) := by
  obtain ⟨v, K⟩ := lm_mod0 x12 4 (by decide)
  obtain ⟨v', K'⟩ := lm_mod0 (x12 >>> ((2 : Int32) &&& 31)) 3 (by decide)
  exact br_c (fun _ => K _ (nm_e (h _ _ _ _))) (fun _ => br_c (fun _ => K _ (nm_e (K' _ (nm_e (h _ _ _ _))))) (fun _ => h _ _ _ _))
theorem pl_263 {x10 : Int32} (h : ∀ a b c d : Int32, wL_law_325 (fun r => r = 1) LL xs J64 J119 (nI R) x5 x6 x7 x8 x9 x10 a b c d kc ks (nI R) (nI cp) 0 (nI (ig_A g)) (nI 0) (ip_m 0) (-1) 0 (ip_e (ig_O g)) (ip_e (ig_C g)) (ip_eb (ig_B g)) (ip_e (ig_L g)) (ip_e (ig_H g)) (ip_e (ig_M g)) (ip_eb (fun _ => false)) (ip_eb (fun _ => false)) (ip_e (fun _ => 0)) (ip_e (fun _ => 0)) (fun _ => 0) (fun _ => 0) (fun _ => 0) (fun _ => 0) (fun _ => 0) (fun _ => 0) (fun _ => 0) (fun _ => 0) (fun _ => 0) (nI R) (nI cp) 0 (nI (ig_A g)) (nI 0) (ip_m 0) (-1) 0 (ip_e (ig_O g)) (ip_e (ig_C g)) (ip_eb (ig_B g)) (ip_e (ig_L g)) (ip_e (ig_H g)) (ip_e (ig_M g)) (ip_eb (fun _ => false)) (ip_eb (fun _ => false)) (ip_e (fun _ => 0)) (ip_e (fun _ => 0)) (fun _ => 0) (fun _ => 0) (fun _ => 0) (fun _ => 0) (fun _ => 0) (fun _ => 0) (fun _ => 0) (fun _ => 0) (fun _ => 0)) (x11 x12 x13 x14 x15 x16 : Int32) :
    wL_law_263 (fun r => r = 1) LL xs J64 J119 (nI R) x5 x6 x7 x8 x9 x10 x11 x12 x13 x14 x15 x16 kc ks (nI R) (nI cp) 0 (nI (ig_A g)) (nI 0) (ip_m 0) (-1) 0 (ip_e (ig_O g)) (ip_e (ig_C g)) (ip_eb (ig_B g)) (ip_e (ig_L g)) (ip_e (ig_H g)) (ip_e (ig_M g)) (ip_eb (fun _ => false)) (ip_eb (fun _ => false)) (ip_e (fun _ => 0)) (ip_e (fun _ => 0)) (fun _ => 0) (fun _ => 0) (fun _ => 0) (fun _ => 0) (fun _ => 0) (fun _ => 0) (fun _ => 0) (fun _ => 0) (fun _ => 0) (nI R) (nI cp) 0 (nI (ig_A g)) (nI 0) (ip_m 0) (-1) 0 (ip_e (ig_O g)) (ip_e (ig_C g)) (ip_eb (ig_B g)) (ip_e (ig_L g)) (ip_e (ig_H g)) (ip_e (ig_M g)) (ip_eb (fun _ => false)) (ip_eb (fun _ => false)) (ip_e (fun _ => 0)) (ip_e (fun _ => 0)) (fun _ => 0) (fun _ => 0) (fun _ => 0) (fun _ => 0) (fun _ => 0) (fun _ => 0) (fun _ => 0) (fun _ => 0) (fun _ => 0) := br_c (fun _ => pl_276 h _ _ _ _ _) (fun _ => pl_276 h _ _ _ _ _)
theorem pl_245 {x10 : Int32} (h : ∀ a b c d : Int32, wL_law_325 (fun r => r = 1) LL xs J64 J119 (nI R) x5 x6 x7 x8 x9 x10 a b c d kc ks (nI R) (nI cp) 0 (nI (ig_A g)) (nI 0) (ip_m 0) (-1) 0 (ip_e (ig_O g)) (ip_e (ig_C g)) (ip_eb (ig_B g)) (ip_e (ig_L g)) (ip_e (ig_H g)) (ip_e (ig_M g)) (ip_eb (fun _ => false)) (ip_eb (fun _ => false)) (ip_e (fun _ => 0)) (ip_e (fun _ => 0)) (fun _ => 0) (fun _ => 0) (fun _ => 0) (fun _ => 0) (fun _ => 0) (fun _ => 0) (fun _ => 0) (fun _ => 0) (fun _ => 0) (nI R) (nI cp) 0 (nI (ig_A g)) (nI 0) (ip_m 0) (-1) 0 (ip_e (ig_O g)) (ip_e (ig_C g)) (ip_eb (ig_B g)) (ip_e (ig_L g)) (ip_e (ig_H g)) (ip_e (ig_M g)) (ip_eb (fun _ => false)) (ip_eb (fun _ => false)) (ip_e (fun _ => 0)) (ip_e (fun _ => 0)) (fun _ => 0) (fun _ => 0) (fun _ => 0) (fun _ => 0) (fun _ => 0) (fun _ => 0) (fun _ => 0) (fun _ => 0) (fun _ => 0)) (x11 x12 x13 x14 x15 x16 : Int32) :
    wL_law_245 (fun r => r = 1) LL xs J64 J119 (nI R) x5 x6 x7 x8 x9 x10 x11 x12 x13 x14 x15 x16 kc ks (nI R) (nI cp) 0 (nI (ig_A g)) (nI 0) (ip_m 0) (-1) 0 (ip_e (ig_O g)) (ip_e (ig_C g)) (ip_eb (ig_B g)) (ip_e (ig_L g)) (ip_e (ig_H g)) (ip_e (ig_M g)) (ip_eb (fun _ => false)) (ip_eb (fun _ => false)) (ip_e (fun _ => 0)) (ip_e (fun _ => 0)) (fun _ => 0) (fun _ => 0) (fun _ => 0) (fun _ => 0) (fun _ => 0) (fun _ => 0) (fun _ => 0) (fun _ => 0) (fun _ => 0) (nI R) (nI cp) 0 (nI (ig_A g)) (nI 0) (ip_m 0) (-1) 0 (ip_e (ig_O g)) (ip_e (ig_C g)) (ip_eb (ig_B g)) (ip_e (ig_L g)) (ip_e (ig_H g)) (ip_e (ig_M g)) (ip_eb (fun _ => false)) (ip_eb (fun _ => false)) (ip_e (fun _ => 0)) (ip_e (fun _ => 0)) (fun _ => 0) (fun _ => 0) (fun _ => 0) (fun _ => 0) (fun _ => 0) (fun _ => 0) (fun _ => 0) (fun _ => 0) (fun _ => 0) :=
  br_c (fun _ => br_c (fun _ => pl_263 h _ _ _ _ _ _) (fun _ => br_c (fun _ => pl_263 h _ _ _ _ _ _) (fun _ => pl_276 h _ _ _ _ _))) (fun _ => pl_276 h _ _ _ _ _)
theorem pl_202 {x10 : Int32} (h1 : 1 ≤ R) (hR : R ≤ 8) (h : ∀ a b c d : Int32, wL_law_325 (fun r => r = 1) LL xs J64 J119 (nI R) x5 x6 x7 x8 x9 x10 a b c d kc ks (nI R) (nI cp) 0 (nI (ig_A g)) (nI 0) (ip_m 0) (-1) 0 (ip_e (ig_O g)) (ip_e (ig_C g)) (ip_eb (ig_B g)) (ip_e (ig_L g)) (ip_e (ig_H g)) (ip_e (ig_M g)) (ip_eb (fun _ => false)) (ip_eb (fun _ => false)) (ip_e (fun _ => 0)) (ip_e (fun _ => 0)) (fun _ => 0) (fun _ => 0) (fun _ => 0) (fun _ => 0) (fun _ => 0) (fun _ => 0) (fun _ => 0) (fun _ => 0) (fun _ => 0) (nI R) (nI cp) 0 (nI (ig_A g)) (nI 0) (ip_m 0) (-1) 0 (ip_e (ig_O g)) (ip_e (ig_C g)) (ip_eb (ig_B g)) (ip_e (ig_L g)) (ip_e (ig_H g)) (ip_e (ig_M g)) (ip_eb (fun _ => false)) (ip_eb (fun _ => false)) (ip_e (fun _ => 0)) (ip_e (fun _ => 0)) (fun _ => 0) (fun _ => 0) (fun _ => 0) (fun _ => 0) (fun _ => 0) (fun _ => 0) (fun _ => 0) (fun _ => 0) (fun _ => 0)) (x11 x12 x13 x14 x15 x16 x17 z0 : Int32) :
    wL_law_202 (fun r => r = 1) LL xs J64 J119 (nI R) x5 x6 x7 x8 x9 x10 x11 x12 x13 x14 x15 x16 x17 z0 kc ks (nI R) (nI cp) 0 (nI (ig_A g)) (nI 0) (ip_m 0) (-1) 0 (ip_e (ig_O g)) (ip_e (ig_C g)) (ip_eb (ig_B g)) (ip_e (ig_L g)) (ip_e (ig_H g)) (ip_e (ig_M g)) (ip_eb (fun _ => false)) (ip_eb (fun _ => false)) (ip_e (fun _ => 0)) (ip_e (fun _ => 0)) (fun _ => 0) (fun _ => 0) (fun _ => 0) (fun _ => 0) (fun _ => 0) (fun _ => 0) (fun _ => 0) (fun _ => 0) (fun _ => 0) (nI R) (nI cp) 0 (nI (ig_A g)) (nI 0) (ip_m 0) (-1) 0 (ip_e (ig_O g)) (ip_e (ig_C g)) (ip_eb (ig_B g)) (ip_e (ig_L g)) (ip_e (ig_H g)) (ip_e (ig_M g)) (ip_eb (fun _ => false)) (ip_eb (fun _ => false)) (ip_e (fun _ => 0)) (ip_e (fun _ => 0)) (fun _ => 0) (fun _ => 0) (fun _ => 0) (fun _ => 0) (fun _ => 0) (fun _ => 0) (fun _ => 0) (fun _ => 0) (fun _ => 0) := by
  refine br_c (fun _ => br_c (fun _ => pl_245 h _ _ _ _ _ _) (fun z => ?_)) (fun _ => ?_)
  · obtain ⟨v, K⟩ := lm_mod0 x12 x17 (by
      rw [Int32.le_iff_toInt_le, show (0 : Int32).toInt = 0 from by decide] at z
      omega)
    exact K _ (nm_e (pl_245 h _ _ _ _ _ _))
  · obtain ⟨v, K⟩ := lm_mod0 x12 (nI R) (by rw [nI_toInt (by omega)]; omega)
    exact K _ (pl_245 h _ _ _ _ _ _)
/-- the items of an alternative -/
theorem pl_119 {i m : Nat} (hL : LL ≤ 260) (h1 : 1 ≤ R) (hR : R ≤ 8) (hm : m < 5) {B : Nat} (hB : B < 2000) (h : ∀ (k : Nat) (g : ig_T), k ≤ B → ig_V g R → J64 (nI k) (nI (i + 1)) (nI R) (nI cp) 0 (nI (ig_A g)) (nI 0) (ip_m 0) (-1) 0 (ip_e (ig_O g)) (ip_e (ig_C g)) (ip_eb (ig_B g)) (ip_e (ig_L g)) (ip_e (ig_H g)) (ip_e (ig_M g)) (ip_eb (fun _ => false)) (ip_eb (fun _ => false)) (ip_e (fun _ => 0)) (ip_e (fun _ => 0)) (fun _ => 0) (fun _ => 0) (fun _ => 0) (fun _ => 0) (fun _ => 0) (fun _ => 0) (fun _ => 0) (fun _ => 0) (fun _ => 0) (nI R) (nI cp) 0 (nI (ig_A g)) (nI 0) (ip_m 0) (-1) 0 (ip_e (ig_O g)) (ip_e (ig_C g)) (ip_eb (ig_B g)) (ip_e (ig_L g)) (ip_e (ig_H g)) (ip_e (ig_M g)) (ip_eb (fun _ => false)) (ip_eb (fun _ => false)) (ip_e (fun _ => 0)) (ip_e (fun _ => 0)) (fun _ => 0) (fun _ => 0) (fun _ => 0) (fun _ => 0) (fun _ => 0) (fun _ => 0) (fun _ => 0) (fun _ => 0) (fun _ => 0)) :
    ∀ (d nn j k : Nat) (g : ig_T), j + d = m → d < nn → k + 2 * d ≤ B → ig_V g R → wL_law_119 (fun r => r = 1) LL xs J64 (nI R) x6 (nI i) x8 (nI m) kc ks nn (nI k) (nI j) (nI R) (nI cp) 0 (nI (ig_A g)) (nI 0) (ip_m 0) (-1) 0 (ip_e (ig_O g)) (ip_e (ig_C g)) (ip_eb (ig_B g)) (ip_e (ig_L g)) (ip_e (ig_H g)) (ip_e (ig_M g)) (ip_eb (fun _ => false)) (ip_eb (fun _ => false)) (ip_e (fun _ => 0)) (ip_e (fun _ => 0)) (fun _ => 0) (fun _ => 0) (fun _ => 0) (fun _ => 0) (fun _ => 0) (fun _ => 0) (fun _ => 0) (fun _ => 0) (fun _ => 0) (nI R) (nI cp) 0 (nI (ig_A g)) (nI 0) (ip_m 0) (-1) 0 (ip_e (ig_O g)) (ip_e (ig_C g)) (ip_eb (ig_B g)) (ip_e (ig_L g)) (ip_e (ig_H g)) (ip_e (ig_M g)) (ip_eb (fun _ => false)) (ip_eb (fun _ => false)) (ip_e (fun _ => 0)) (ip_e (fun _ => 0)) (fun _ => 0) (fun _ => 0) (fun _ => 0) (fun _ => 0) (fun _ => 0) (fun _ => 0) (fun _ => 0) (fun _ => 0) (fun _ => 0) := by
  intro d
  induction d with
  | zero =>
    intro nn j k g hj hnn hk hg
    obtain ⟨nn, rfl⟩ : ∃ k, nn = k + 1 := ⟨nn - 1, by omega⟩
    exact pk_le m j (fun _ => nm_r (nI_1 i) (h k g (by omega) hg)) (fun z => by omega)
  | succ d ih =>
    intro nn j k g hj hnn hk hg
    obtain ⟨nn, rfl⟩ : ∃ k, nn = k + 1 := ⟨nn - 1, by omega⟩
    refine pk_le m j (fun z => by omega) (fun _ => nm_r (nI_1 k) ?_)
    obtain ⟨v1, K1⟩ := lm_cell xs hL (k := k) (by omega)
    refine K1 _ (nm_r (nI_1 (k + 1)) ?_)
    obtain ⟨v2, K2⟩ := lm_cell xs hL (k := k + 1) (by omega)
    refine K2 _ ?_
    obtain ⟨v3, K3⟩ := lm_mod0 v1 4 (by decide)
    refine K3 _ ?_
    obtain ⟨v4, K4⟩ := lm_mod0 (v1 >>> ((2 : Int32) &&& 31)) 6 (by decide)
    refine K4 _ ?_
    have H : ∀ a b c d' : Int32, wL_law_325 (fun r => r = 1) LL xs J64 (wL_law_119 (fun r => r = 1) LL xs J64 (nI R) x6 (nI i) x8 (nI m) kc ks nn) (nI R) (nI (k + 1 + 1)) x6 (nI i) x8 (nI m) (nI j) a b c d' kc ks (nI R) (nI cp) 0 (nI (ig_A g)) (nI 0) (ip_m 0) (-1) 0 (ip_e (ig_O g)) (ip_e (ig_C g)) (ip_eb (ig_B g)) (ip_e (ig_L g)) (ip_e (ig_H g)) (ip_e (ig_M g)) (ip_eb (fun _ => false)) (ip_eb (fun _ => false)) (ip_e (fun _ => 0)) (ip_e (fun _ => 0)) (fun _ => 0) (fun _ => 0) (fun _ => 0) (fun _ => 0) (fun _ => 0) (fun _ => 0) (fun _ => 0) (fun _ => 0) (fun _ => 0) (nI R) (nI cp) 0 (nI (ig_A g)) (nI 0) (ip_m 0) (-1) 0 (ip_e (ig_O g)) (ip_e (ig_C g)) (ip_eb (ig_B g)) (ip_e (ig_L g)) (ip_e (ig_H g)) (ip_e (ig_M g)) (ip_eb (fun _ => false)) (ip_eb (fun _ => false)) (ip_e (fun _ => 0)) (ip_e (fun _ => 0)) (fun _ => 0) (fun _ => 0) (fun _ => 0) (fun _ => 0) (fun _ => 0) (fun _ => 0) (fun _ => 0) (fun _ => 0) (fun _ => 0) :=
      pl_325 hR hg (fun g hg => ih nn (j + 1) (k + 1 + 1) g (by omega) (by omega) (by omega) hg)
    exact br_c (fun _ => nm_e (br_c (fun _ => pl_202 h1 hR H _ _ _ _ _ _ _ _) (fun _ => pl_202 h1 hR H _ _ _ _ _ _ _ _))) (fun _ => pl_276 H _ _ _ _ _)
end
section
variable {R cp kc ks LL : Nat} {xs : Nat → Int32}
/-- the alternatives, then compile and the steps on the first object -/
theorem pl_64 {al : Nat} (hL : LL ≤ 260) (h1 : 1 ≤ R) (hR : R ≤ 8) (hc1 : 8 ≤ cp) (hc2 : cp ≤ 24) (hal : al ≤ 10) : ∀ (d nn i k : Nat) (g : ig_T), i + d = al → d < nn → k + 10 * d ≤ 1000 → ig_V g R →
    wL_law_64 (fun r => r = 1) LL xs (nI R) (nI al) kc ks nn (nI k) (nI i) (nI R) (nI cp) 0 (nI (ig_A g)) (nI 0) (ip_m 0) (-1) 0 (ip_e (ig_O g)) (ip_e (ig_C g)) (ip_eb (ig_B g)) (ip_e (ig_L g)) (ip_e (ig_H g)) (ip_e (ig_M g)) (ip_eb (fun _ => false)) (ip_eb (fun _ => false)) (ip_e (fun _ => 0)) (ip_e (fun _ => 0)) (fun _ => 0) (fun _ => 0) (fun _ => 0) (fun _ => 0) (fun _ => 0) (fun _ => 0) (fun _ => 0) (fun _ => 0) (fun _ => 0) (nI R) (nI cp) 0 (nI (ig_A g)) (nI 0) (ip_m 0) (-1) 0 (ip_e (ig_O g)) (ip_e (ig_C g)) (ip_eb (ig_B g)) (ip_e (ig_L g)) (ip_e (ig_H g)) (ip_e (ig_M g)) (ip_eb (fun _ => false)) (ip_eb (fun _ => false)) (ip_e (fun _ => 0)) (ip_e (fun _ => 0)) (fun _ => 0) (fun _ => 0) (fun _ => 0) (fun _ => 0) (fun _ => 0) (fun _ => 0) (fun _ => 0) (fun _ => 0) (fun _ => 0) := by
  intro d
  induction d with
  | zero =>
    intro nn i k g hi hnn hk hg
    obtain ⟨nn, rfl⟩ : ∃ k, nn = k + 1 := ⟨nn - 1, by omega⟩
    refine pk_le al i (fun _ => ?_) (fun z => by omega)
    obtain ⟨v, fz, N, O, rO, hf, K⟩ := pb_compile (cp := cp) (rc := ip_m 0) (oR := -1) (oN := 0) (mE := fun _ => 0) (mR := fun _ => 0) (mA := fun _ => 0) (tR := fun _ => 0) (tS := fun _ => 0) (tE := fun _ => 0) (tP := fun _ => 0) (wI := fun _ => 0) (wP := fun _ => 0) (N := fun _ => false) (O := fun _ => false) (rO := fun _ => 0) (pb_F hR hg) (fun _ _ => rfl) (fun _ _ => rfl)
    refine K _ (K _ ⟨301, ?_⟩)
    refine pw_378 (N := N) (O := O) (rO := rO) hL 300 301 0 k (fun _ => 0) 0 0 (-1) [] (fun _ => 0) (fun _ => 0) (fun _ => 0) (fun _ => 0) (fun _ => 0) (fun _ => 0) (fun _ => 0) (fun _ => 0) (fun _ => 0) (by omega) (by omega) (by omega) ⟨pb_F hR hg, h1, Nat.zero_le _, hc1, hc2, by decide, by decide, tr_A0 _ _ _ _, ?_⟩
    rcases hf with hf | hf
    · exact Or.inl ⟨hf, rfl, rfl⟩
    · exact Or.inr hf
  | succ d ih =>
    intro nn i k g hi hnn hk hg
    obtain ⟨nn, rfl⟩ : ∃ k, nn = k + 1 := ⟨nn - 1, by omega⟩
    refine pk_le al i (fun z => by omega) (fun _ => nm_r (nI_1 k) ?_)
    obtain ⟨v1, K1⟩ := lm_cell xs hL (k := k) (by omega)
    refine K1 _ ?_
    obtain ⟨r, hr, K2⟩ := lm_mod v1 (M := R) (by omega) (by omega)
    refine K2 _ ?_
    obtain ⟨g', v, hV', K⟩ := pb_new (cp := cp) (rc := ip_m 0) (oR := -1) (oN := 0) (nu := ip_eb (fun _ => false)) (od := ip_eb (fun _ => false)) (ro := ip_e (fun _ => 0)) (mE := fun _ => 0) (mR := fun _ => 0) (mA := fun _ => 0) (tR := fun _ => 0) (tS := fun _ => 0) (tE := fun _ => 0) (tP := fun _ => 0) (wI := fun _ => 0) (wP := fun _ => 0) (pb_F hR hg) hr
    refine K _ (K _ (nm_r (nI_1 (k + 1)) ?_))
    obtain ⟨v3, K3⟩ := lm_cell xs hL (k := k + 1) (by omega)
    refine K3 _ ?_
    obtain ⟨m, hm, K4⟩ := lm_mod v3 (M := 5) (by decide) (by decide)
    refine K4 _ ⟨m + 1, ?_⟩
    exact pl_119 (B := k + 10) hL h1 hR hm (by omega) (fun k' g hk' hg => ih nn (i + 1) k' g (by omega) (by omega) (by omega) hg) m (m + 1) 0 (k + 1 + 1) g' (by omega) (by omega) (by omega) hV'
end
theorem lm_clamp (k : Int32) {a b : Int32} {lo hi : Nat} (ha : a = nI lo) (hb : b = nI hi) (h : lo ≤ hi) (hh : hi < 2 ^ 31) : ∃ c, lo ≤ c ∧ c ≤ hi ∧ ∀ post : Int32 → Prop, post (nI c) → wpX_clamp post () k a b := by
  subst ha hb
  by_cases h1 : nI lo ≤ k
  · by_cases h2 : k ≤ nI hi
    · have h0 : ¬ k < 0 := fun w => by
        have : nI lo < 0 := Int32.lt_of_le_of_lt h1 w
        exact nI_pos (by omega) this
      obtain ⟨c, hc, rfl⟩ := nI_of h0
      exact ⟨c, (nI_leI (by omega) hc).mp h1, (nI_leI hc hh).mp h2, fun post hp => br_t h1 (br_t h2 hp)⟩
    · exact ⟨hi, h, Nat.le_refl hi, fun post hp => br_t h1 (br_f h2 hp)⟩
  · exact ⟨lo, Nat.le_refl lo, h, fun post hp => br_f h1 hp⟩
theorem lm_init {post : St2 → Prop} {k0 k1 : Int32} {R cp : Nat} (hR : ∀ post : Int32 → Prop, post (nI R) → wpX_clamp post () k0 1 8) (hc : ∀ post : Int32 → Prop, post (nI cp) → wpX_clamp post () k1 8 24)
    (h : post (nI R, nI cp, 0, 0, 0, -1, -1, 0, fun _ => 0, fun _ => 0, fun _ => 0, fun _ => 0, fun _ => 0, fun _ => 0, fun _ => 0, fun _ => 0, fun _ => 0, fun _ => 0, fun _ => 0, fun _ => 0, fun _ => 0, fun _ => 0, fun _ => 0, fun _ => 0, fun _ => 0, fun _ => 0, fun _ => 0)) : wpX_init post 19 1320 (0, 0, 0, 0, 0, 0, 0, 0) k0 k1 :=
  ⟨by decide, by decide, by decide, by decide, by decide, by decide, by decide, by decide, by decide, by decide, by decide, by decide, by decide, by decide, by decide, by decide, by decide, by decide, by decide, by decide, by decide, by decide, by decide, by decide, by decide, by decide, by decide, by decide, by decide, by decide, by decide, by decide, by decide, by decide, by decide, by decide, by decide, by decide, hR _ (hc _ h)⟩
def ga_0 : ig_T := (fun _ => 0, fun _ => 0, fun _ => 0, fun _ => 0, fun _ => 0, fun _ => false, 0)
theorem i_vc (xs : Nat → Int32) (L : Nat) (hL : L ≤ 260) : wpL_law (fun r => r = 1) L xs := by
  unfold wpL_law
  obtain ⟨v0, K0⟩ := lm_cell xs hL (k := 0) (by decide)
  refine K0 _ ?_
  obtain ⟨c, hc, K1⟩ := lm_mod v0 (M := 4) (by decide) (by decide)
  refine K1 _ (nm_r (nI_add 1 c) ?_)
  obtain ⟨v1, K2⟩ := lm_cell xs hL (k := 1) (by decide)
  refine K2 _ ?_
  obtain ⟨q, hq, K3⟩ := lm_mod v1 (M := 32) (by decide) (by decide)
  refine K3 _ ?_
  obtain ⟨R, r1, r2, KR⟩ := lm_clamp (nI (1 + c)) (a := 1) (b := 8) (lo := 1) (hi := 8) rfl rfl (by decide) (by decide)
  obtain ⟨cp, c1, c2, KC⟩ := lm_clamp (nI q) (a := 8) (b := 24) (lo := 8) (hi := 24) rfl rfl (by decide) (by decide)
  have eR : ∀ post : Int32 → Prop, post (nI (1 + c)) → wpX_clamp post () (nI (1 + c)) 1 8 := fun post hp => pk_le 1 (1 + c) (fun _ => pk_le (1 + c) 8 (fun _ => hp) (fun z => by omega)) (fun z => by omega)
  refine ⟨19, 1320, by decide, by decide, lm_init eR KC ⟨by decide, by decide, 19, 1320, by decide, by decide, lm_init eR KC ?_⟩⟩
  obtain ⟨v2, K4⟩ := lm_cell xs hL (k := 2) (by decide)
  refine K4 _ ?_
  obtain ⟨a, ha, K5⟩ := lm_mod v2 (M := 10) (by decide) (by decide)
  refine K5 _ (nm_r (nI_add 1 a) ⟨1 + a + 1, ?_⟩)
  exact pl_64 (R := 1 + c) (cp := cp) (al := 1 + a) hL (by omega) (by omega) c1 c2 (by omega) (1 + a) (1 + a + 1) 0 5 ga_0 (by omega) (by omega) (by omega) ⟨by decide, fun j => ⟨by show 0 < 1 + c; omega, Nat.zero_le _, Nat.zero_le _, Nat.zero_le _, Nat.zero_le _, fun h => absurd (show false = true from h) (by decide)⟩⟩
end
