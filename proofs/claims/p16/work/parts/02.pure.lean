/-! the grammar as naturals: owner and size of an alternative; mode, low, high, is-a-rule of an item; number of alternatives -/
abbrev ig_T : Type := (Nat → Nat) × (Nat → Nat) × (Nat → Nat) × (Nat → Nat) × (Nat → Nat) × (Nat → Bool) × Nat
def ig_O (g : ig_T) : Nat → Nat := g.1
def ig_C (g : ig_T) : Nat → Nat := g.2.1
def ig_M (g : ig_T) : Nat → Nat := g.2.2.1
def ig_L (g : ig_T) : Nat → Nat := g.2.2.2.1
def ig_H (g : ig_T) : Nat → Nat := g.2.2.2.2.1
def ig_B (g : ig_T) : Nat → Bool := g.2.2.2.2.2.1
def ig_A (g : ig_T) : Nat := g.2.2.2.2.2.2
def ig_V (g : ig_T) (R : Nat) : Prop := ig_A g ≤ 16 ∧ ∀ j, ig_O g j < R ∧ ig_C g j ≤ 4 ∧ ig_M g j ≤ 5 ∧ ig_L g j ≤ 65535 ∧ ig_H g j ≤ 65535 ∧ (ig_B g j = true → ig_L g j < R)
abbrev ig_rep (g : ig_T) (it : Nat) : Prop := ig_M g it = 2 ∨ ig_M g it = 3
theorem ig_repD (g : ig_T) (it : Nat) : ig_rep g it ∨ ¬ ig_rep g it := Classical.em _
/-! a table gives of a rule at a position the end and the greatest position examined, each plus one, zero where there is none -/
def pu_T (g : ig_T) (t : Nat → Nat) (n : Nat) (T : Nat → Nat → Nat × Nat) (it q : Nat) : Nat × Nat :=
  if ig_B g it = true then T (ig_L g it) q else (if q < n ∧ ig_L g it ≤ t q ∧ t q ≤ ig_H g it then q + 2 else 0, q + 1)
def pu_R (g : ig_T) (t : Nat → Nat) (n : Nat) (T : Nat → Nat → Nat × Nat) (it : Nat) : Nat → Nat → Nat × Nat × Nat
  | 0, q => (0, q, 0)
  | f + 1, q => if (pu_T g t n T it q).1 = 0 then (0, q, (pu_T g t n T it q).2)
    else ((pu_R g t n T it f ((pu_T g t n T it q).1 - 1)).1 + 1, (pu_R g t n T it f ((pu_T g t n T it q).1 - 1)).2.1, max (pu_T g t n T it q).2 (pu_R g t n T it f ((pu_T g t n T it q).1 - 1)).2.2)
def pu_f (g : ig_T) (n it : Nat) : Nat := if ig_M g it = 2 ∨ ig_M g it = 3 then n + 1 else 1
def pu_e (m q : Nat) (z : Nat × Nat × Nat) : Nat :=
  if m = 1 ∨ m = 2 then z.2.1 + 1 else if m = 4 then (if 0 < z.1 then q + 1 else 0) else if m = 5 then (if 0 < z.1 then 0 else q + 1) else (if 0 < z.1 then z.2.1 + 1 else 0)
def pu_I (g : ig_T) (t : Nat → Nat) (n : Nat) (T : Nat → Nat → Nat × Nat) (it q : Nat) : Nat × Nat :=
  (pu_e (ig_M g it) q (pu_R g t n T it (pu_f g n it) q), (pu_R g t n T it (pu_f g n it) q).2.2)
def pu_A (g : ig_T) (t : Nat → Nat) (n : Nat) (T : Nat → Nat → Nat × Nat) : Nat → Nat → Nat → Nat × Nat
  | 0, _, q => (q + 1, 0)
  | k + 1, it, q => if (pu_I g t n T it q).1 = 0 then (0, (pu_I g t n T it q).2)
    else ((pu_A g t n T k (it + 1) ((pu_I g t n T it q).1 - 1)).1, max (pu_I g t n T it q).2 (pu_A g t n T k (it + 1) ((pu_I g t n T it q).1 - 1)).2)
def pu_U (g : ig_T) (t : Nat → Nat) (n : Nat) (T : Nat → Nat → Nat × Nat) (r p : Nat) : Nat → Nat → Nat × Nat × Nat
  | 0, _ => (0, 0, 0)
  | k + 1, a => if ig_O g a = r then
      (if (pu_A g t n T (ig_C g a) (4 * a) p).1 = 0 then ((pu_U g t n T r p k (a + 1)).1, max (pu_A g t n T (ig_C g a) (4 * a) p).2 (pu_U g t n T r p k (a + 1)).2.1, (pu_U g t n T r p k (a + 1)).2.2)
       else ((pu_A g t n T (ig_C g a) (4 * a) p).1, (pu_A g t n T (ig_C g a) (4 * a) p).2, a))
    else pu_U g t n T r p k (a + 1)
def pu_M (g : ig_T) (t : Nat → Nat) (n : Nat) (T : Nat → Nat → Nat × Nat) (r p : Nat) : Nat × Nat × Nat := pu_U g t n T r p (ig_A g) 0
/-! nullable items, the facts that a compiled grammar has -/
def ig_n (g : ig_T) (N : Nat → Bool) (it : Nat) : Prop := (ig_M g it ≠ 0 ∧ ig_M g it ≠ 3) ∨ (ig_B g it = true ∧ N (ig_L g it) = true)
def ig_S (g : ig_T) (N : Nat → Bool) (r s : Nat) : Prop :=
  ∃ a i, a < ig_A g ∧ ig_O g a = r ∧ i < ig_C g a ∧ ig_B g (4 * a + i) = true ∧ ig_L g (4 * a + i) = s ∧ ∀ j, j < i → ig_n g N (4 * a + j)
def ig_Cl (g : ig_T) (N : Nat → Bool) : Prop := ∀ a, a < ig_A g → (∀ i, i < ig_C g a → ig_n g N (4 * a + i)) → N (ig_O g a) = true
def ig_Nb (g : ig_T) (N : Nat → Bool) : Prop := ∀ a i, a < ig_A g → i < ig_C g a → ig_rep g (4 * a + i) → ig_B g (4 * a + i) = true → N (ig_L g (4 * a + i)) = false
def ig_K (g : ig_T) (R : Nat) (N : Nat → Bool) (rk : Nat → Nat) : Prop := ig_Cl g N ∧ ig_Nb g N ∧ (∀ r, r < R → rk r < R) ∧ ∀ r s, ig_S g N r s → rk s < rk r
def pu_S (N : Nat → Bool) (n : Nat) (T : Nat → Nat → Nat × Nat) (s q : Nat) : Prop := (T s q).2 ≤ n + 1 ∧ ∀ e, (T s q).1 = e + 1 → q ≤ e ∧ e ≤ n ∧ (e = q → N s = true)
section
variable {g : ig_T} {t : Nat → Nat} {n : Nat} {T T' : Nat → Nat → Nat × Nat} {N : Nat → Bool}
theorem pu_Tr {it q : Nat} (h : ig_B g it = true) : pu_T g t n T it q = T (ig_L g it) q := if_pos h
theorem pu_Tc {it q : Nat} (h : ¬ ig_B g it = true) : pu_T g t n T it q = (if q < n ∧ ig_L g it ≤ t q ∧ t q ≤ ig_H g it then q + 2 else 0, q + 1) := if_neg h
theorem pu_Tag {it q : Nat} (h : ig_B g it = true → T (ig_L g it) q = T' (ig_L g it) q) : pu_T g t n T it q = pu_T g t n T' it q := by
  by_cases b : ig_B g it = true
  · rw [pu_Tr b, pu_Tr b, h b]
  · rw [pu_Tc b, pu_Tc b]
theorem pu_Ts {it q : Nat} (hq : q ≤ n) (h : ig_B g it = true → pu_S N n T (ig_L g it) q) :
    (pu_T g t n T it q).2 ≤ n + 1 ∧ ∀ e, (pu_T g t n T it q).1 = e + 1 → q ≤ e ∧ e ≤ n ∧ (e = q → ig_B g it = true ∧ N (ig_L g it) = true) := by
  by_cases b : ig_B g it = true
  · rw [pu_Tr b]
    refine ⟨(h b).1, fun e he => ?_⟩
    obtain ⟨h1, h2, h3⟩ := (h b).2 e he
    exact ⟨h1, h2, fun z => ⟨b, h3 z⟩⟩
  · rw [pu_Tc b]
    refine ⟨by show q + 1 ≤ n + 1; omega, fun e he => ?_⟩
    have he' : (if q < n ∧ ig_L g it ≤ t q ∧ t q ≤ ig_H g it then q + 2 else 0) = e + 1 := he
    by_cases c : q < n ∧ ig_L g it ≤ t q ∧ t q ≤ ig_H g it
    · rw [if_pos c] at he'
      exact ⟨by omega, by omega, fun z => by omega⟩
    · rw [if_neg c] at he'
      omega
theorem pu_R0 {it q f : Nat} (h : (pu_T g t n T it q).1 = 0) : pu_R g t n T it (f + 1) q = (0, q, (pu_T g t n T it q).2) := if_pos h
theorem pu_Rs {it q f e : Nat} (h : (pu_T g t n T it q).1 = e + 1) : pu_R g t n T it (f + 1) q = ((pu_R g t n T it f e).1 + 1, (pu_R g t n T it f e).2.1, max (pu_T g t n T it q).2 (pu_R g t n T it f e).2.2) := by
  have h0 : ¬ (pu_T g t n T it q).1 = 0 := by omega
  have he : (pu_T g t n T it q).1 - 1 = e := by omega
  show (if (pu_T g t n T it q).1 = 0 then _ else _) = _
  rw [if_neg h0, he]
/-- what a run of tests gives, on two tables that agree where it reads -/
theorem pu_Rag {it : Nat} : ∀ (f q : Nat), q ≤ n → (ig_B g it = true → T (ig_L g it) q = T' (ig_L g it) q ∧ pu_S N n T' (ig_L g it) q) →
    (f ≤ 1 ∨ ((ig_B g it = true → N (ig_L g it) = false) ∧ ∀ q', q < q' → q' ≤ n → ig_B g it = true → T (ig_L g it) q' = T' (ig_L g it) q' ∧ pu_S N n T' (ig_L g it) q')) →
    pu_R g t n T it f q = pu_R g t n T' it f q ∧ (pu_R g t n T' it f q).2.2 ≤ n + 1 ∧ q ≤ (pu_R g t n T' it f q).2.1 ∧ (pu_R g t n T' it f q).2.1 ≤ n ∧
    (0 < (pu_R g t n T' it f q).1 → (pu_R g t n T' it f q).2.1 = q → ig_B g it = true ∧ N (ig_L g it) = true) ∧ ((pu_R g t n T' it f q).1 = 0 → (pu_R g t n T' it f q).2.1 = q) := by
  intro f
  induction f with
  | zero => intro q hq _ _; exact ⟨rfl, Nat.zero_le _, Nat.le_refl _, hq, fun z => absurd z (Nat.lt_irrefl 0), fun _ => rfl⟩
  | succ f ih =>
    intro q hq ha hb
    have e1 : pu_T g t n T it q = pu_T g t n T' it q := pu_Tag fun b => (ha b).1
    obtain ⟨s1, s2⟩ := pu_Ts (t := t) (N := N) hq fun b => (ha b).2
    cases hz : (pu_T g t n T' it q).1 with
    | zero =>
      rw [pu_R0 hz, pu_R0 (by rw [e1]; exact hz), e1]
      exact ⟨rfl, s1, Nat.le_refl _, hq, fun z => absurd z (Nat.lt_irrefl 0), fun _ => rfl⟩
    | succ e =>
      obtain ⟨h1, h2, h3⟩ := s2 e hz
      rw [pu_Rs hz, pu_Rs (by rw [e1]; exact hz), e1]
      rcases hb with hb | ⟨hb1, hb2⟩
      · obtain rfl : f = 0 := by omega
        refine ⟨rfl, ?_, h1, h2, fun _ z => h3 z, fun z => ?_⟩
        · show max (pu_T g t n T' it q).2 0 ≤ n + 1
          omega
        · exact absurd z (Nat.succ_ne_zero _)
      · have hlt : q < e := by
          rcases Nat.lt_or_ge q e with z | z
          · exact z
          · obtain ⟨b, c⟩ := h3 (by omega)
            rw [hb1 b] at c
            exact absurd c (by decide)
        obtain ⟨i1, i2, i3, i4, i5, i6⟩ := ih e h2 (fun b => hb2 e hlt h2 b) (Or.inr ⟨hb1, fun q' z1 z2 b => hb2 q' (by omega) z2 b⟩)
        rw [i1]
        refine ⟨rfl, ?_, ?_, i4, fun _ z => ?_, fun z => absurd z (Nat.succ_ne_zero _)⟩
        · show max (pu_T g t n T' it q).2 _ ≤ n + 1
          omega
        · show q ≤ (pu_R g t n T' it f e).2.1
          omega
        · have z' : (pu_R g t n T' it f e).2.1 = q := z
          omega
/-- every test that passes moves on -/
def pu_P (g : ig_T) (t : Nat → Nat) (n : Nat) (T : Nat → Nat → Nat × Nat) (it q : Nat) : Prop := ∀ q', q ≤ q' → q' ≤ n → ∀ e, (pu_T g t n T it q').1 = e + 1 → q' < e ∧ e ≤ n
theorem pu_Pof {it q : Nat} (hb : ig_B g it = true → N (ig_L g it) = false) (h : ∀ q', q ≤ q' → q' ≤ n → ig_B g it = true → pu_S N n T (ig_L g it) q') : pu_P g t n T it q := by
  intro q' h1 h2 e he
  obtain ⟨k1, k2, k3⟩ := (pu_Ts (t := t) (N := N) h2 (h q' h1 h2)).2 e he
  refine ⟨?_, k2⟩
  rcases Nat.lt_or_ge q' e with z | z
  · exact z
  · obtain ⟨b, c⟩ := k3 (by omega)
    rw [hb b] at c
    exact absurd c (by decide)
theorem pu_Pup {it q e : Nat} (h : pu_P g t n T it q) (he : q ≤ e) : pu_P g t n T it e := fun q' h1 h2 => h q' (by omega) h2
theorem pu_Rc {it : Nat} : ∀ f q, q ≤ n → pu_P g t n T it q → (pu_R g t n T it f q).1 + q ≤ (pu_R g t n T it f q).2.1 ∧ (pu_R g t n T it f q).2.1 ≤ n := by
  intro f
  induction f with
  | zero => intro q hq _; exact ⟨by show 0 + q ≤ q; omega, hq⟩
  | succ f ih =>
    intro q hq hP
    cases hz : (pu_T g t n T it q).1 with
    | zero => rw [pu_R0 hz]; exact ⟨by show 0 + q ≤ q; omega, hq⟩
    | succ e =>
      obtain ⟨h1, h2⟩ := hP q (Nat.le_refl q) hq e hz
      obtain ⟨i1, i2⟩ := ih e h2 (pu_Pup hP (by omega))
      rw [pu_Rs hz]
      exact ⟨by show (pu_R g t n T it f e).1 + 1 + q ≤ (pu_R g t n T it f e).2.1; omega, i2⟩
/-- with fuel enough the number of tests makes no difference -/
theorem pu_Rf {it : Nat} : ∀ f f' q, q ≤ n → pu_P g t n T it q → n - q < f → n - q < f' → pu_R g t n T it f q = pu_R g t n T it f' q := by
  intro f
  induction f with
  | zero => intro f' q _ _ h; omega
  | succ f ih =>
    intro f' q hq hP h1 h2
    obtain ⟨f', rfl⟩ : ∃ c, f' = c + 1 := ⟨f' - 1, by omega⟩
    cases hz : (pu_T g t n T it q).1 with
    | zero => rw [pu_R0 hz, pu_R0 hz]
    | succ e =>
      obtain ⟨k1, k2⟩ := hP q (Nat.le_refl q) hq e hz
      rw [pu_Rs hz, pu_Rs hz, ih f' e k2 (pu_Pup hP (by omega)) (by omega) (by omega)]
/-- an item -/
theorem pu_Iag {it q : Nat} (hq : q ≤ n) (hn : ig_rep g it → ig_B g it = true → N (ig_L g it) = false)
    (ha : ig_B g it = true → T (ig_L g it) q = T' (ig_L g it) q ∧ pu_S N n T' (ig_L g it) q)
    (hb : ∀ q', q < q' → q' ≤ n → ig_B g it = true → T (ig_L g it) q' = T' (ig_L g it) q' ∧ pu_S N n T' (ig_L g it) q') :
    pu_I g t n T it q = pu_I g t n T' it q ∧ (pu_I g t n T' it q).2 ≤ n + 1 ∧ ∀ e, (pu_I g t n T' it q).1 = e + 1 → q ≤ e ∧ e ≤ n ∧ (e = q → ig_n g N it) := by
  have hf : pu_f g n it ≤ 1 ∨ ((ig_B g it = true → N (ig_L g it) = false) ∧ ∀ q', q < q' → q' ≤ n → ig_B g it = true → T (ig_L g it) q' = T' (ig_L g it) q' ∧ pu_S N n T' (ig_L g it) q') := by
    by_cases h : ig_M g it = 2 ∨ ig_M g it = 3
    · exact Or.inr ⟨hn h, hb⟩
    · refine Or.inl ?_
      unfold pu_f
      rw [if_neg h]
      exact Nat.le_refl 1
  obtain ⟨i1, i2, i3, i4, i5, i6⟩ := pu_Rag (t := t) (pu_f g n it) q hq ha hf
  unfold pu_I
  rw [i1]
  refine ⟨rfl, i2, fun e he => ?_⟩
  have he' : pu_e (ig_M g it) q (pu_R g t n T' it (pu_f g n it) q) = e + 1 := he
  revert i3 i4 i5 i6 he'
  generalize pu_R g t n T' it (pu_f g n it) q = z
  intro i3 i4 i5 i6 he'
  unfold pu_e at he'
  by_cases m1 : ig_M g it = 1 ∨ ig_M g it = 2
  · rw [if_pos m1] at he'
    exact ⟨by omega, by omega, fun _ => Or.inl ⟨by omega, by omega⟩⟩
  · rw [if_neg m1] at he'
    by_cases m4 : ig_M g it = 4
    · rw [if_pos m4] at he'
      by_cases hz : 0 < z.1
      · rw [if_pos hz] at he'
        exact ⟨by omega, by omega, fun _ => Or.inl ⟨by omega, by omega⟩⟩
      · rw [if_neg hz] at he'
        omega
    · rw [if_neg m4] at he'
      by_cases m5 : ig_M g it = 5
      · rw [if_pos m5] at he'
        by_cases hz : 0 < z.1
        · rw [if_pos hz] at he'
          omega
        · rw [if_neg hz] at he'
          exact ⟨by omega, by omega, fun _ => Or.inl ⟨by omega, by omega⟩⟩
      · rw [if_neg m5] at he'
        by_cases hz : 0 < z.1
        · rw [if_pos hz] at he'
          exact ⟨by omega, by omega, fun w => Or.inr (i5 hz (by omega))⟩
        · rw [if_neg hz] at he'
          omega
theorem pu_A0 {k it q : Nat} (h : (pu_I g t n T it q).1 = 0) : pu_A g t n T (k + 1) it q = (0, (pu_I g t n T it q).2) := if_pos h
theorem pu_As {k it q e : Nat} (h : (pu_I g t n T it q).1 = e + 1) : pu_A g t n T (k + 1) it q = ((pu_A g t n T k (it + 1) e).1, max (pu_I g t n T it q).2 (pu_A g t n T k (it + 1) e).2) := by
  have h0 : ¬ (pu_I g t n T it q).1 = 0 := by omega
  have he : (pu_I g t n T it q).1 - 1 = e := by omega
  show (if (pu_I g t n T it q).1 = 0 then _ else _) = _
  rw [if_neg h0, he]
/-- the items of an alternative from one on -/
theorem pu_Aag {p : Nat} : ∀ (k it q : Nat), p ≤ q → q ≤ n → (∀ j, j < k → ig_rep g (it + j) → ig_B g (it + j) = true → N (ig_L g (it + j)) = false) →
    (∀ j, j < k → ig_B g (it + j) = true → ∀ q', p < q' → q' ≤ n → T (ig_L g (it + j)) q' = T' (ig_L g (it + j)) q' ∧ pu_S N n T' (ig_L g (it + j)) q') →
    (q = p → ∀ j, j < k → ig_B g (it + j) = true → (∀ i, i < j → ig_n g N (it + i)) → T (ig_L g (it + j)) p = T' (ig_L g (it + j)) p ∧ pu_S N n T' (ig_L g (it + j)) p) →
    pu_A g t n T k it q = pu_A g t n T' k it q ∧ (pu_A g t n T' k it q).2 ≤ n + 1 ∧ ∀ e, (pu_A g t n T' k it q).1 = e + 1 → q ≤ e ∧ e ≤ n ∧ (e = q → ∀ j, j < k → ig_n g N (it + j)) := by
  intro k
  induction k with
  | zero =>
    intro it q _ hq _ _ _
    refine ⟨rfl, Nat.zero_le _, fun e he => ?_⟩
    have he' : q + 1 = e + 1 := he
    exact ⟨by omega, by omega, fun _ j hj => absurd hj (Nat.not_lt_zero j)⟩
  | succ k ih =>
    intro it q hp hq hn ha hb
    have h0 : ig_B g it = true → T (ig_L g it) q = T' (ig_L g it) q ∧ pu_S N n T' (ig_L g it) q := fun b => by
      rcases Nat.eq_or_lt_of_le hp with z | z
      · subst z
        exact hb rfl 0 (Nat.succ_pos k) b (fun i hi => absurd hi (Nat.not_lt_zero i))
      · exact ha 0 (Nat.succ_pos k) b q z hq
    obtain ⟨i1, i2, i3⟩ := pu_Iag (t := t) (N := N) (it := it) hq (hn 0 (Nat.succ_pos k)) h0 (fun q' z1 z2 b => ha 0 (Nat.succ_pos k) b q' (by omega) z2)
    cases hz : (pu_I g t n T' it q).1 with
    | zero =>
      rw [pu_A0 hz, pu_A0 (by rw [i1]; exact hz), i1]
      exact ⟨rfl, i2, fun e he => absurd he (Nat.succ_ne_zero e).symm⟩
    | succ e1 =>
      obtain ⟨k1, k2, k3⟩ := i3 e1 hz
      have sh : ∀ j, it + 1 + j = it + (j + 1) := fun j => by omega
      obtain ⟨j1, j2, j3⟩ := ih (it + 1) e1 (by omega) k2 (fun j hj => by rw [sh]; exact hn (j + 1) (by omega)) (fun j hj => by rw [sh]; exact ha (j + 1) (by omega))
        (fun ep j hj => by
          rw [sh]
          intro b hi
          refine hb (by omega) (j + 1) (by omega) b (fun i hi' => ?_)
          cases i with
          | zero => exact k3 (by omega)
          | succ i => rw [← sh]; exact hi i (by omega))
      rw [pu_As hz, pu_As (by rw [i1]; exact hz), i1, j1]
      refine ⟨rfl, ?_, fun e he => ?_⟩
      · show max (pu_I g t n T' it q).2 _ ≤ n + 1
        omega
      · obtain ⟨m1, m2, m3⟩ := j3 e he
        refine ⟨by omega, m2, fun z j hj => ?_⟩
        cases j with
        | zero => exact k3 (by omega)
        | succ j => rw [← sh]; exact m3 (by omega) j (by omega)
theorem pu_Un {r p k a : Nat} (h : ¬ ig_O g a = r) : pu_U g t n T r p (k + 1) a = pu_U g t n T r p k (a + 1) := if_neg h
theorem pu_U0 {r p k a : Nat} (h : ig_O g a = r) (hz : (pu_A g t n T (ig_C g a) (4 * a) p).1 = 0) : pu_U g t n T r p (k + 1) a = ((pu_U g t n T r p k (a + 1)).1, max (pu_A g t n T (ig_C g a) (4 * a) p).2 (pu_U g t n T r p k (a + 1)).2.1, (pu_U g t n T r p k (a + 1)).2.2) := by
  show (if ig_O g a = r then _ else _) = _
  rw [if_pos h, if_pos hz]
theorem pu_Us {r p k a : Nat} (h : ig_O g a = r) (hz : ¬ (pu_A g t n T (ig_C g a) (4 * a) p).1 = 0) : pu_U g t n T r p (k + 1) a = ((pu_A g t n T (ig_C g a) (4 * a) p).1, (pu_A g t n T (ig_C g a) (4 * a) p).2, a) := by
  show (if ig_O g a = r then _ else _) = _
  rw [if_pos h, if_neg hz]
/-- the alternatives of a rule from one on -/
theorem pu_Uag {r p : Nat} (hp : p ≤ n) (hN : ig_Nb g N)
    (ha : ∀ s q', p < q' → q' ≤ n → (∃ j, ig_B g j = true ∧ ig_L g j = s) → T s q' = T' s q' ∧ pu_S N n T' s q') (hb : ∀ s, ig_S g N r s → T s p = T' s p ∧ pu_S N n T' s p) :
    ∀ (k a : Nat), a + k ≤ ig_A g → pu_U g t n T r p k a = pu_U g t n T' r p k a ∧ (pu_U g t n T' r p k a).2.1 ≤ n + 1 ∧
      ∀ e, (pu_U g t n T' r p k a).1 = e + 1 → p ≤ e ∧ e ≤ n ∧ (e = p → ∃ b, b < ig_A g ∧ ig_O g b = r ∧ ∀ j, j < ig_C g b → ig_n g N (4 * b + j)) := by
  intro k
  induction k with
  | zero => intro a _; exact ⟨rfl, Nat.zero_le _, fun e he => absurd he (Nat.succ_ne_zero e).symm⟩
  | succ k ih =>
    intro a hk
    obtain ⟨i1, i2, i3⟩ := ih (a + 1) (by omega)
    by_cases ho : ig_O g a = r
    · obtain ⟨j1, j2, j3⟩ := pu_Aag (g := g) (t := t) (n := n) (T := T) (T' := T') (N := N) (p := p) (ig_C g a) (4 * a) p (Nat.le_refl p) hp (fun j hj h1 h2 => hN a j (by omega) hj h1 h2)
        (fun j hj b q' z1 z2 => ha _ q' z1 z2 ⟨_, b, rfl⟩) (fun _ j hj b hi => hb _ ⟨a, j, by omega, ho, hj, b, rfl, hi⟩)
      by_cases hz : (pu_A g t n T' (ig_C g a) (4 * a) p).1 = 0
      · rw [pu_U0 ho hz, pu_U0 ho (by rw [j1]; exact hz), j1, i1]
        refine ⟨rfl, ?_, i3⟩
        show max (pu_A g t n T' (ig_C g a) (4 * a) p).2 _ ≤ n + 1
        omega
      · rw [pu_Us ho hz, pu_Us ho (by rw [j1]; exact hz), j1]
        refine ⟨rfl, j2, fun e he => ?_⟩
        obtain ⟨m1, m2, m3⟩ := j3 e he
        exact ⟨m1, m2, fun z => ⟨a, by omega, ho, m3 z⟩⟩
    · rw [pu_Un ho, pu_Un ho]
      exact ⟨i1, i2, i3⟩
/-- a rule at a position: two tables that agree where it reads give the same, and it is sound -/
theorem pu_Mag {r p : Nat} (hp : p ≤ n) (hC : ig_Cl g N) (hN : ig_Nb g N)
    (ha : ∀ s q', p < q' → q' ≤ n → (∃ j, ig_B g j = true ∧ ig_L g j = s) → T s q' = T' s q' ∧ pu_S N n T' s q') (hb : ∀ s, ig_S g N r s → T s p = T' s p ∧ pu_S N n T' s p) :
    pu_M g t n T r p = pu_M g t n T' r p ∧ (pu_M g t n T' r p).2.1 ≤ n + 1 ∧ ∀ e, (pu_M g t n T' r p).1 = e + 1 → p ≤ e ∧ e ≤ n ∧ (e = p → N r = true) := by
  obtain ⟨i1, i2, i3⟩ := pu_Uag (t := t) hp hN ha hb (ig_A g) 0 (by omega)
  refine ⟨i1, i2, fun e he => ?_⟩
  obtain ⟨m1, m2, m3⟩ := i3 e he
  refine ⟨m1, m2, fun z => ?_⟩
  obtain ⟨b, hb1, hb2, hb3⟩ := m3 z
  rw [← hb2]
  exact hC b hb1 hb3
end
/-! the table itself: it exists -/
theorem pu_fx {α V : Type} (d : V) (μ : α → Nat) (F : (α → V) → α → V) : ∃ f : α → V, ∀ a, f a = F (fun b => if μ b < μ a then f b else d) a := by
  refine ⟨(measure μ).wf.fix (fun a r => F (fun b => if h : μ b < μ a then r b h else d) a), fun a => ?_⟩
  rw [WellFounded.fix_eq]
  apply congrArg (fun z => F z a)
  funext b
  by_cases h : μ b < μ a <;> simp [h]
def pu_G (g : ig_T) (t : Nat → Nat) (n R : Nat) (N : Nat → Bool) (G : Nat → Nat → Nat × Nat) : Prop :=
  ∀ r p, r < R → p ≤ n → G r p = ((pu_M g t n G r p).1, (pu_M g t n G r p).2.1) ∧ pu_S N n G r p
theorem pu_SS {g : ig_T} {N : Nat → Bool} {R r s : Nat} (hV : ig_V g R) (h : ig_S g N r s) : s < R := by
  obtain ⟨a, i, _, _, _, hb, rfl, _⟩ := h
  exact (hV.2 _).2.2.2.2.2 hb
theorem pu_ex {g : ig_T} {R : Nat} {N : Nat → Bool} {rk : Nat → Nat} (t : Nat → Nat) (n : Nat) (hV : ig_V g R) (hK : ig_K g R N rk) : ∃ G, pu_G g t n R N G := by
  obtain ⟨hC, hN, hR, hS⟩ := hK
  obtain ⟨f, hf⟩ := pu_fx ((0, 0) : Nat × Nat) (fun a : Nat × Nat => (n - a.2) * R + rk a.1) (fun F a => ((pu_M g t n (fun s q => F (s, q)) a.1 a.2).1, (pu_M g t n (fun s q => F (s, q)) a.1 a.2).2.1))
  refine ⟨fun r p => f (r, p), ?_⟩
  have key : ∀ m r p, r < R → p ≤ n → (n - p) * R + rk r < m → f (r, p) = ((pu_M g t n (fun r p => f (r, p)) r p).1, (pu_M g t n (fun r p => f (r, p)) r p).2.1) ∧ pu_S N n (fun r p => f (r, p)) r p := by
    intro m
    induction m with
    | zero => intro r p _ _ h; omega
    | succ m ih =>
      intro r p hr hp hm
      have low : ∀ s q, s < R → p < q → q ≤ n → (n - q) * R + rk s < (n - p) * R + rk r := fun s q hs h1 h2 => by
        have e : n - p = (n - q) + 1 + (q - p - 1) := by omega
        rw [e, Nat.add_mul, Nat.add_mul, Nat.one_mul]
        have := hR s hs
        omega
      have M := pu_Mag (g := g) (t := t) (n := n) (T := fun s q => if (n - q) * R + rk s < (n - p) * R + rk r then f (s, q) else (0, 0)) (T' := fun r p => f (r, p)) (N := N) (r := r) hp hC hN
        (fun s q h1 h2 hs => by
          obtain ⟨j, hj, rfl⟩ := hs
          have hs := (hV.2 j).2.2.2.2.2 hj
          have hl := low _ q hs h1 h2
          exact ⟨if_pos hl, (ih _ q hs h2 (by omega)).2⟩)
        (fun s hs => by
          have h1 := hS r s hs
          have h2 := pu_SS hV hs
          have hl : (n - p) * R + rk s < (n - p) * R + rk r := by omega
          exact ⟨if_pos hl, (ih s p h2 hp (by omega)).2⟩)
      obtain ⟨m1, m2, m3⟩ := M
      have e := hf (r, p)
      have e' : f (r, p) = ((pu_M g t n (fun r p => f (r, p)) r p).1, (pu_M g t n (fun r p => f (r, p)) r p).2.1) := by
        rw [← m1]
        exact e
      refine ⟨e', ?_⟩
      unfold pu_S
      show (f (r, p)).2 ≤ n + 1 ∧ ∀ e, (f (r, p)).1 = e + 1 → _
      rw [e']
      exact ⟨m2, m3⟩
  exact fun r p hr hp => key _ r p hr hp (Nat.lt_succ_self _)
