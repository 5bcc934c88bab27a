/-! the nullable rules by rounds; counting -/
def ig_nb (g : ig_T) (N : Nat → Bool) (it : Nat) : Bool := (!(ig_M g it == 0) && !(ig_M g it == 3)) || (ig_B g it && N (ig_L g it))
theorem ig_nbI (g : ig_T) (N : Nat → Bool) (it : Nat) : ig_nb g N it = true ↔ ig_n g N it := by
  unfold ig_nb ig_n
  simp
theorem ig_nbF (g : ig_T) (N : Nat → Bool) (it : Nat) : ig_nb g N it = false ↔ ¬ ig_n g N it := by
  rw [← ig_nbI]
  simp
def cp_a (g : ig_T) (N : Nat → Bool) : Nat → Nat → Bool
  | 0, _ => true
  | k + 1, it => ig_nb g N it && cp_a g N k (it + 1)
theorem cp_aI (g : ig_T) (N : Nat → Bool) : ∀ k it, cp_a g N k it = true ↔ ∀ j, j < k → ig_n g N (it + j) := by
  intro k
  induction k with
  | zero => intro it; exact ⟨fun _ j hj => absurd hj (Nat.not_lt_zero j), fun _ => rfl⟩
  | succ k ih =>
    intro it
    show (ig_nb g N it && cp_a g N k (it + 1)) = true ↔ _
    rw [Bool.and_eq_true, ig_nbI, ih]
    constructor
    · intro h j hj
      cases j with
      | zero => exact h.1
      | succ j => rw [show it + (j + 1) = it + 1 + j by omega]; exact h.2 j (by omega)
    · intro h
      refine ⟨h 0 (by omega), fun j hj => ?_⟩
      rw [show it + 1 + j = it + (j + 1) by omega]
      exact h (j + 1) (by omega)
def cp_l (g : ig_T) : Nat → Nat → (Nat → Bool) → (Nat → Bool)
  | 0, _, N => N
  | k + 1, a, N => cp_l g k (a + 1) (if cp_a g N (ig_C g a) (4 * a) = true then ip_u N (ig_O g a) true else N)
def cp_r (g : ig_T) : Nat → (Nat → Bool) → (Nat → Bool)
  | 0, N => N
  | j + 1, N => cp_r g j (cp_l g (ig_A g) 0 N)
theorem cp_stU (g : ig_T) (N : Nat → Bool) (a x : Nat) (h : N x = true) : (if cp_a g N (ig_C g a) (4 * a) = true then ip_u N (ig_O g a) true else N) x = true := by
  by_cases c : cp_a g N (ig_C g a) (4 * a) = true
  · rw [if_pos c]
    by_cases e : x = ig_O g a
    · rw [e]; exact ip_us
    · rw [ip_un e]; exact h
  · rw [if_neg c]; exact h
theorem cp_lU (g : ig_T) : ∀ k a N x, N x = true → cp_l g k a N x = true := by
  intro k
  induction k with
  | zero => intro a N x h; exact h
  | succ k ih => intro a N x h; exact ih (a + 1) _ x (cp_stU g N a x h)
theorem cp_lR {g : ig_T} {R : Nat} (hV : ig_V g R) : ∀ k a N x, cp_l g k a N x = true → N x = true ∨ x < R := by
  intro k
  induction k with
  | zero => intro a N x h; exact Or.inl h
  | succ k ih =>
    intro a N x h
    rcases ih (a + 1) _ x h with h | h
    · by_cases c : cp_a g N (ig_C g a) (4 * a) = true
      · rw [if_pos c] at h
        by_cases e : x = ig_O g a
        · exact Or.inr (by rw [e]; exact (hV.2 a).1)
        · rw [ip_un e] at h; exact Or.inl h
      · rw [if_neg c] at h; exact Or.inl h
    · exact Or.inr h
theorem cp_lF (g : ig_T) : ∀ k a N, cp_l g k a N = N → ∀ b, a ≤ b → b < a + k → cp_a g N (ig_C g b) (4 * b) = true → N (ig_O g b) = true := by
  intro k
  induction k with
  | zero => intro a N _ b h1 h2; omega
  | succ k ih =>
    intro a N h b h1 h2 hb
    have h' : cp_l g k (a + 1) (if cp_a g N (ig_C g a) (4 * a) = true then ip_u N (ig_O g a) true else N) = N := h
    have e : (if cp_a g N (ig_C g a) (4 * a) = true then ip_u N (ig_O g a) true else N) = N := by
      funext x
      cases hx : N x with
      | true => exact cp_stU g N a x hx
      | false =>
        cases hy : (if cp_a g N (ig_C g a) (4 * a) = true then ip_u N (ig_O g a) true else N) x with
        | false => rfl
        | true =>
          have := cp_lU g k (a + 1) _ x hy
          rw [h', hx] at this
          exact this.symm
    rw [e] at h'
    rcases Nat.eq_or_lt_of_le h1 with z | z
    · subst z
      rw [if_pos hb] at e
      rw [← e]
      exact ip_us
    · exact ih (a + 1) N h' b (by omega) (by omega) hb
/-! counting -/
def cp_c (N : Nat → Bool) : Nat → Nat
  | 0 => 0
  | k + 1 => cp_c N k + (if N k = true then 1 else 0)
theorem cp_cle (N : Nat → Bool) : ∀ k, cp_c N k ≤ k := by
  intro k
  induction k with
  | zero => exact Nat.le_refl 0
  | succ k ih =>
    show cp_c N k + (if N k = true then 1 else 0) ≤ k + 1
    split <;> omega
theorem cp_call (N : Nat → Bool) : ∀ k, cp_c N k = k → ∀ x, x < k → N x = true := by
  intro k
  induction k with
  | zero => intro _ x hx; omega
  | succ k ih =>
    intro h x hx
    have h' : cp_c N k + (if N k = true then 1 else 0) = k + 1 := h
    have := cp_cle N k
    by_cases c : N k = true
    · rw [if_pos c] at h'
      rcases Nat.lt_or_ge x k with z | z
      · exact ih (by omega) x z
      · rw [show x = k by omega]; exact c
    · rw [if_neg c] at h'
      omega
theorem cp_cfull (N : Nat → Bool) : ∀ k, (∀ x, x < k → N x = true) → cp_c N k = k := by
  intro k
  induction k with
  | zero => intro _; rfl
  | succ k ih =>
    intro h
    show cp_c N k + (if N k = true then 1 else 0) = k + 1
    rw [if_pos (h k (by omega)), ih (fun x hx => h x (by omega))]
theorem cp_cmono {N N' : Nat → Bool} (h : ∀ x, N x = true → N' x = true) : ∀ k, cp_c N k ≤ cp_c N' k := by
  intro k
  induction k with
  | zero => exact Nat.le_refl 0
  | succ k ih =>
    show cp_c N k + (if N k = true then 1 else 0) ≤ cp_c N' k + (if N' k = true then 1 else 0)
    by_cases c : N k = true
    · rw [if_pos c, if_pos (h k c)]; omega
    · rw [if_neg c]; omega
theorem cp_clt {N N' : Nat → Bool} (h : ∀ x, N x = true → N' x = true) {a : Nat} (h1 : N a = false) (h2 : N' a = true) : ∀ k, a < k → cp_c N k < cp_c N' k := by
  intro k
  induction k with
  | zero => intro h; omega
  | succ k ih =>
    intro hk
    show cp_c N k + (if N k = true then 1 else 0) < cp_c N' k + (if N' k = true then 1 else 0)
    rcases Nat.lt_or_ge a k with z | z
    · have := ih z
      by_cases c : N k = true
      · rw [if_pos c, if_pos (h k c)]; omega
      · rw [if_neg c]; omega
    · have e : a = k := by omega
      subst e
      have := cp_cmono h a
      rw [if_pos h2, if_neg (by rw [h1]; decide)]
      omega
theorem cp_cadd {N : Nat → Bool} {a : Nat} (h1 : N a = false) : ∀ k, cp_c (ip_u N a true) k = cp_c N k + (if a < k then 1 else 0) := by
  intro k
  induction k with
  | zero => rfl
  | succ k ih =>
    show cp_c (ip_u N a true) k + (if ip_u N a true k = true then 1 else 0) = cp_c N k + (if N k = true then 1 else 0) + _
    rw [ih]
    by_cases e : k = a
    · subst e
      rw [ip_us, h1]
      simp
    · rw [ip_un e]
      by_cases c : a < k
      · have c' : a < k + 1 := by omega
        rw [if_pos c, if_pos c']; omega
      · have c' : ¬ a < k + 1 := by omega
        rw [if_neg c, if_neg c']; omega
/-! as many rounds as rules reach the end -/
theorem cp_rS {g : ig_T} {R : Nat} (hV : ig_V g R) (N : Nat → Bool) : cp_l g (ig_A g) 0 N = N ∨ cp_c N R < cp_c (cp_l g (ig_A g) 0 N) R := by
  by_cases e : ∃ x, N x = false ∧ cp_l g (ig_A g) 0 N x = true
  · obtain ⟨x, h1, h2⟩ := e
    refine Or.inr (cp_clt (fun y => cp_lU g _ _ N y) h1 h2 R ?_)
    rcases cp_lR hV _ _ N x h2 with h | h
    · rw [h1] at h; exact absurd h (by decide)
    · exact h
  · refine Or.inl (funext fun x => ?_)
    cases hx : N x with
    | true => exact cp_lU g _ _ N x hx
    | false =>
      cases hy : cp_l g (ig_A g) 0 N x with
      | false => rfl
      | true => exact absurd ⟨x, hx, hy⟩ e
theorem cp_rfix {g : ig_T} {N : Nat → Bool} (h : cp_l g (ig_A g) 0 N = N) : ∀ j, cp_r g j N = N := by
  intro j
  induction j with
  | zero => rfl
  | succ j ih => show cp_r g j (cp_l g (ig_A g) 0 N) = N; rw [h, ih]
theorem cp_rE {g : ig_T} {R : Nat} (hV : ig_V g R) : ∀ j N, R ≤ cp_c N R + j → cp_l g (ig_A g) 0 (cp_r g j N) = cp_r g j N := by
  intro j
  induction j with
  | zero =>
    intro N h
    show cp_l g (ig_A g) 0 N = N
    rcases cp_rS hV N with z | z
    · exact z
    · have := cp_cle (cp_l g (ig_A g) 0 N) R
      omega
  | succ j ih =>
    intro N h
    rcases cp_rS hV N with z | z
    · rw [cp_rfix z (j + 1), z]
    · exact ih _ (by omega)
theorem cp_radd (g : ig_T) : ∀ a b N, cp_r g (a + b) N = cp_r g b (cp_r g a N) := by
  intro a
  induction a with
  | zero => intro b N; rw [Nat.zero_add]; rfl
  | succ a ih => intro b N; rw [show a + 1 + b = (a + b) + 1 by omega]; exact ih b _
theorem cp_rmore {g : ig_T} {R : Nat} (hV : ig_V g R) (N : Nat → Bool) {m : Nat} (h : R ≤ m) : cp_r g m N = cp_r g R N := by
  obtain ⟨d, rfl⟩ : ∃ d, m = R + d := ⟨m - R, by omega⟩
  rw [cp_radd]
  exact cp_rfix (cp_rE hV R N (by omega)) d
theorem cp_rCl {g : ig_T} {R : Nat} (hV : ig_V g R) (N : Nat → Bool) : ig_Cl g (cp_r g R N) := by
  intro a ha h
  exact cp_lF g _ 0 _ (cp_rE hV R N (by omega)) a (Nat.zero_le a) (by omega) ((cp_aI g _ _ _).mpr h)
theorem cp_r8 {g : ig_T} {R : Nat} (hV : ig_V g R) : ∀ j N, (∀ x, R ≤ x → N x = false) → ∀ x, R ≤ x → cp_r g j N x = false := by
  intro j
  induction j with
  | zero => intro N h; exact h
  | succ j ih =>
    intro N h
    refine ih _ (fun x hx => ?_)
    cases hy : cp_l g (ig_A g) 0 N x with
    | false => rfl
    | true =>
      rcases cp_lR hV _ _ N x hy with z | z
      · rw [h x hx] at z; exact z.symm
      · omega
/-! the order of the rules -/
def cp_s (g : ig_T) (N O : Nat → Bool) : Nat → Nat → Prop
  | 0, _ => True
  | k + 1, it => ¬ (ig_B g it = true ∧ O (ig_L g it) = false) ∧ (ig_n g N it → cp_s g N O k (it + 1))
theorem cp_sI (g : ig_T) (N O : Nat → Bool) : ∀ k it, cp_s g N O k it ↔ ∀ j, j < k → ig_B g (it + j) = true → (∀ i, i < j → ig_n g N (it + i)) → O (ig_L g (it + j)) = true := by
  intro k
  induction k with
  | zero => intro it; exact ⟨fun _ j hj => absurd hj (Nat.not_lt_zero j), fun _ => trivial⟩
  | succ k ih =>
    intro it
    show (¬ (ig_B g it = true ∧ O (ig_L g it) = false) ∧ (ig_n g N it → cp_s g N O k (it + 1))) ↔ _
    rw [ih]
    constructor
    · intro h j hj hb hi
      cases j with
      | zero =>
        cases ho : O (ig_L g it) with
        | true => rfl
        | false => exact absurd ⟨hb, ho⟩ h.1
      | succ j =>
        rw [show it + (j + 1) = it + 1 + j by omega] at hb ⊢
        refine h.2 (hi 0 (by omega)) j (by omega) hb (fun i hi' => ?_)
        rw [show it + 1 + i = it + (i + 1) by omega]
        exact hi (i + 1) (by omega)
    · intro h
      refine ⟨fun z => ?_, fun h0 j hj hb hi => ?_⟩
      · have := h 0 (by omega) z.1 (fun i hi => absurd hi (Nat.not_lt_zero i))
        rw [Nat.add_zero, z.2] at this
        exact absurd this (by decide)
      · rw [show it + 1 + j = it + (j + 1) by omega] at hb ⊢
        refine h (j + 1) (by omega) hb (fun i hi' => ?_)
        cases i with
        | zero => exact h0
        | succ i =>
          rw [show it + (i + 1) = it + 1 + i by omega]
          exact hi i (by omega)
theorem cp_sS (g : ig_T) (N O : Nat → Bool) (r : Nat) : (∀ a, a < ig_A g → ig_O g a = r → cp_s g N O (ig_C g a) (4 * a)) ↔ ∀ s, ig_S g N r s → O s = true := by
  constructor
  · intro h s hs
    obtain ⟨a, i, h1, h2, h3, h4, rfl, h6⟩ := hs
    exact (cp_sI g N O _ _).mp (h a h1 h2) i h3 h4 h6
  · intro h a h1 h2
    refine (cp_sI g N O _ _).mpr (fun j hj hb hi => ?_)
    exact h _ ⟨a, j, h1, h2, hj, hb, rfl, hi⟩
/-- one rule is placed, if its start calls are -/
noncomputable def od_s (g : ig_T) (N : Nat → Bool) (r : Nat) (S : (Nat → Bool) × Nat × (Nat → Nat)) : (Nat → Bool) × Nat × (Nat → Nat) :=
  @ite _ (S.1 r = false ∧ ∀ s, ig_S g N r s → S.1 s = true) (Classical.propDecidable _) (ip_u S.1 r true, S.2.1 + 1, ip_u S.2.2 S.2.1 r) S
noncomputable def od_l (g : ig_T) (N : Nat → Bool) : Nat → Nat → (Nat → Bool) × Nat × (Nat → Nat) → (Nat → Bool) × Nat × (Nat → Nat)
  | 0, _, S => S
  | k + 1, r, S => od_l g N k (r + 1) (od_s g N r S)
noncomputable def od_r (g : ig_T) (N : Nat → Bool) (R : Nat) : Nat → (Nat → Bool) × Nat × (Nat → Nat) → (Nat → Bool) × Nat × (Nat → Nat)
  | 0, S => S
  | j + 1, S => od_r g N R j (od_l g N R 0 S)
theorem od_sT {g : ig_T} {N : Nat → Bool} {r : Nat} {S : (Nat → Bool) × Nat × (Nat → Nat)} (h1 : S.1 r = false) (h2 : ∀ s, ig_S g N r s → S.1 s = true) : od_s g N r S = (ip_u S.1 r true, S.2.1 + 1, ip_u S.2.2 S.2.1 r) := if_pos ⟨h1, h2⟩
theorem od_sF {g : ig_T} {N : Nat → Bool} {r : Nat} {S : (Nat → Bool) × Nat × (Nat → Nat)} (h : ¬ (S.1 r = false ∧ ∀ s, ig_S g N r s → S.1 s = true)) : od_s g N r S = S := if_neg h
def od_I (g : ig_T) (N : Nat → Bool) (R : Nat) (S : (Nat → Bool) × Nat × (Nat → Nat)) : Prop :=
  S.2.1 = cp_c S.1 R ∧ (∀ r, R ≤ r → S.1 r = false) ∧ ∃ rk : Nat → Nat, (∀ r, S.1 r = true → rk r < S.2.1 ∧ S.2.2 (rk r) = r ∧ ∀ s, ig_S g N r s → S.1 s = true ∧ rk s < rk r) ∧ ∀ k, k < S.2.1 → S.1 (S.2.2 k) = true ∧ rk (S.2.2 k) = k
theorem od_sI {g : ig_T} {N : Nat → Bool} {R r : Nat} {S : (Nat → Bool) × Nat × (Nat → Nat)} (hr : r < R) (h : od_I g N R S) : od_I g N R (od_s g N r S) := by
  by_cases c : S.1 r = false ∧ ∀ s, ig_S g N r s → S.1 s = true
  · rw [od_sT c.1 c.2]
    obtain ⟨h1, h0, rk, h2, h3⟩ := h
    have ne : ∀ x, S.1 x = true → x ≠ r := fun x hx e => by rw [e, c.1] at hx; exact absurd hx (by decide)
    refine ⟨?_, ?_, ip_u rk r S.2.1, ?_, ?_⟩
    · show S.2.1 + 1 = cp_c (ip_u S.1 r true) R
      rw [cp_cadd c.1, if_pos hr, h1]
    · intro x hx
      show ip_u S.1 r true x = false
      rw [ip_un (by omega)]
      exact h0 x hx
    · intro x hx
      have hx' : ip_u S.1 r true x = true := hx
      show ip_u rk r S.2.1 x < S.2.1 + 1 ∧ ip_u S.2.2 S.2.1 r (ip_u rk r S.2.1 x) = x ∧ ∀ s, ig_S g N x s → ip_u S.1 r true s = true ∧ ip_u rk r S.2.1 s < ip_u rk r S.2.1 x
      by_cases e : x = r
      · subst e
        rw [ip_us]
        refine ⟨by omega, ip_us, fun s hs => ?_⟩
        have hs' := c.2 s hs
        rw [ip_un (ne s hs'), ip_un (ne s hs')]
        exact ⟨hs', (h2 s hs').1⟩
      · rw [ip_un e] at hx' ⊢
        obtain ⟨k1, k2, k3⟩ := h2 x hx'
        refine ⟨by omega, by rw [ip_un (by omega)]; exact k2, fun s hs => ?_⟩
        obtain ⟨k4, k5⟩ := k3 s hs
        rw [ip_un (ne s k4), ip_un (ne s k4)]
        exact ⟨k4, k5⟩
    · intro k hk
      have hk' : k < S.2.1 + 1 := hk
      show ip_u S.1 r true (ip_u S.2.2 S.2.1 r k) = true ∧ ip_u rk r S.2.1 (ip_u S.2.2 S.2.1 r k) = k
      by_cases e : k = S.2.1
      · subst e
        rw [ip_us, ip_us, ip_us]
        exact ⟨rfl, rfl⟩
      · rw [ip_un e]
        obtain ⟨k1, k2⟩ := h3 k (by omega)
        rw [ip_un (ne _ k1), ip_un (ne _ k1)]
        exact ⟨k1, k2⟩
  · rw [od_sF c]; exact h
theorem od_lI {g : ig_T} {N : Nat → Bool} {R : Nat} : ∀ k r S, r + k ≤ R → od_I g N R S → od_I g N R (od_l g N k r S) := by
  intro k
  induction k with
  | zero => intro r S _ h; exact h
  | succ k ih => intro r S hr h; exact ih (r + 1) _ (by omega) (od_sI (by omega) h)
theorem od_rI {g : ig_T} {N : Nat → Bool} {R : Nat} : ∀ j S, od_I g N R S → od_I g N R (od_r g N R j S) := by
  intro j
  induction j with
  | zero => intro S h; exact h
  | succ j ih => intro S h; exact ih _ (od_lI R 0 S (by omega) h)
theorem od_0 (g : ig_T) (N : Nat → Bool) (R : Nat) (ro : Nat → Nat) : od_I g N R (fun _ => false, 0, ro) := by
  have h0 : ∀ k, cp_c (fun _ => false) k = 0 := by
    intro k
    induction k with
    | zero => rfl
    | succ k ih =>
      show cp_c (fun _ => false) k + (if false = true then 1 else 0) = 0
      rw [ih]
      rfl
  exact ⟨(h0 R).symm, fun _ _ => rfl, fun _ => 0, fun r h => absurd (show false = true from h) (by decide), fun k hk => absurd (show k < 0 from hk) (Nat.not_lt_zero k)⟩
/-- all rules are placed: the grammar is accepted -/
theorem od_K {g : ig_T} {N : Nat → Bool} {R : Nat} {S : (Nat → Bool) × Nat × (Nat → Nat)} (hV : ig_V g R) (h : od_I g N R S) (ha : S.2.1 = R) (hC : ig_Cl g N) (hN : ig_Nb g N) :
    ∃ rk, ig_K g R N rk ∧ (∀ r, r < R → S.2.2 (rk r) = r) ∧ ∀ k, k < R → S.2.2 k < R ∧ rk (S.2.2 k) = k := by
  obtain ⟨h1, h0, rk, h2, h3⟩ := h
  have all : ∀ r, r < R → S.1 r = true := cp_call S.1 R (by omega)
  refine ⟨rk, ⟨hC, hN, fun r hr => ?_, fun r s hs => ?_⟩, fun r hr => (h2 r (all r hr)).2.1, fun k hk => ?_⟩
  · rw [← ha]; exact (h2 r (all r hr)).1
  · have hr : r < R := by
      obtain ⟨a, i, _, rfl, _⟩ := hs
      exact (hV.2 a).1
    exact ((h2 r (all r hr)).2.2 s hs).2
  · obtain ⟨k1, k2⟩ := h3 k (by omega)
    refine ⟨?_, k2⟩
    rcases Nat.lt_or_ge (S.2.2 k) R with z | z
    · exact z
    · rw [h0 _ z] at k1; exact absurd k1 (by decide)
