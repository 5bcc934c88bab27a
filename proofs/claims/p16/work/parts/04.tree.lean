/-! the children of a node, and the tree in preorder -/
abbrev tk_g (g : ig_T) (it : Nat) : Prop := ig_B g it = true ∧ ig_M g it ≤ 3
def tk_R (g : ig_T) (T : Nat → Nat → Nat × Nat) (it : Nat) : Nat → Nat → List (Nat × Nat × Nat)
  | 0, _ => []
  | f + 1, q => if (T (ig_L g it) q).1 = 0 then [] else (ig_L g it, q, (T (ig_L g it) q).1 - 1) :: tk_R g T it f ((T (ig_L g it) q).1 - 1)
def tk_x (g : ig_T) (t : Nat → Nat) (n : Nat) (T : Nat → Nat → Nat × Nat) (it q : Nat) : Nat :=
  if ig_B g it = true ∧ ig_M g it ≤ 3 then (pu_R g t n T it (pu_f g n it) q).2.1 else (pu_I g t n T it q).1 - 1
def tk_I (g : ig_T) (n : Nat) (T : Nat → Nat → Nat × Nat) (it q : Nat) : List (Nat × Nat × Nat) :=
  if ig_B g it = true ∧ ig_M g it ≤ 3 then tk_R g T it (pu_f g n it) q else []
def tk_A (g : ig_T) (t : Nat → Nat) (n : Nat) (T : Nat → Nat → Nat × Nat) : Nat → Nat → Nat → List (Nat × Nat × Nat)
  | 0, _, _ => []
  | k + 1, it, q => tk_I g n T it q ++ tk_A g t n T k (it + 1) (tk_x g t n T it q)
/-- every item from one on goes through -/
def tk_ok (g : ig_T) (t : Nat → Nat) (n : Nat) (T : Nat → Nat → Nat × Nat) : Nat → Nat → Nat → Prop
  | 0, _, _ => True
  | k + 1, it, q => (tk_g g it ∨ (pu_I g t n T it q).1 ≠ 0) ∧ tk_ok g t n T k (it + 1) (tk_x g t n T it q)
section
variable {g : ig_T} {t : Nat → Nat} {n : Nat} {T : Nat → Nat → Nat × Nat}
theorem tk_R0 {it f q : Nat} (h : (T (ig_L g it) q).1 = 0) : tk_R g T it f q = [] := by
  cases f with
  | zero => rfl
  | succ f => exact if_pos h
theorem tk_Rs {it f q e : Nat} (h : (T (ig_L g it) q).1 = e + 1) : tk_R g T it (f + 1) q = (ig_L g it, q, e) :: tk_R g T it f e := by
  have h0 : ¬ (T (ig_L g it) q).1 = 0 := by omega
  have he : (T (ig_L g it) q).1 - 1 = e := by omega
  show (if (T (ig_L g it) q).1 = 0 then _ else _) = _
  rw [if_neg h0, he]
theorem tk_Rf {it : Nat} (hb : ig_B g it = true) : ∀ f f' q, q ≤ n → pu_P g t n T it q → n - q < f → n - q < f' → tk_R g T it f q = tk_R g T it f' q := by
  intro f
  induction f with
  | zero => intro f' q _ _ h; omega
  | succ f ih =>
    intro f' q hq hP h1 h2
    obtain ⟨f', rfl⟩ : ∃ c, f' = c + 1 := ⟨f' - 1, by omega⟩
    cases hz : (T (ig_L g it) q).1 with
    | zero => rw [tk_R0 hz, tk_R0 hz]
    | succ e =>
      obtain ⟨k1, k2⟩ := hP q (Nat.le_refl q) hq e (by rw [pu_Tr hb]; exact hz)
      rw [tk_Rs hz, tk_Rs hz, ih f' e k2 (pu_Pup hP (by omega)) (by omega) (by omega)]
theorem tk_Rl {it : Nat} (hb : ig_B g it = true) : ∀ f q, (tk_R g T it f q).length = (pu_R g t n T it f q).1 := by
  intro f
  induction f with
  | zero => intro q; rfl
  | succ f ih =>
    intro q
    cases hz : (T (ig_L g it) q).1 with
    | zero => rw [tk_R0 hz, pu_R0 (by rw [pu_Tr hb]; exact hz)]; rfl
    | succ e =>
      rw [tk_Rs hz, pu_Rs (e := e) (by rw [pu_Tr hb]; exact hz), List.length_cons, ih e]
theorem tk_fr {it : Nat} (h : ig_rep g it) : pu_f g n it = n + 1 := if_pos h
theorem tk_fn {it : Nat} (h : ¬ ig_rep g it) : pu_f g n it = 1 := if_neg h
/-! the steps of a walk over the children -/
theorem tk_s2 {k it q : Nat} (h : ¬ tk_g g it) : tk_A g t n T (k + 1) it q = tk_A g t n T k (it + 1) ((pu_I g t n T it q).1 - 1) := by
  show tk_I g n T it q ++ tk_A g t n T k (it + 1) (tk_x g t n T it q) = _
  rw [tk_I, tk_x, if_neg h, if_neg h]
  rfl
theorem tk_x0 {it q : Nat} (h : tk_g g it) (hz : (T (ig_L g it) q).1 = 0) : tk_x g t n T it q = q := by
  have e : pu_R g t n T it (pu_f g n it) q = (0, q, (pu_T g t n T it q).2) := by
    obtain ⟨f, hf⟩ : ∃ f, pu_f g n it = f + 1 := by
      by_cases r : ig_rep g it
      · exact ⟨n, tk_fr r⟩
      · exact ⟨0, tk_fn r⟩
    rw [hf]
    exact pu_R0 (by rw [pu_Tr h.1]; exact hz)
  rw [tk_x, if_pos h, e]
theorem tk_s3 {k it q : Nat} (h : tk_g g it) (hz : (T (ig_L g it) q).1 = 0) : tk_A g t n T (k + 1) it q = tk_A g t n T k (it + 1) q := by
  show tk_I g n T it q ++ tk_A g t n T k (it + 1) (tk_x g t n T it q) = _
  rw [tk_x0 h hz, tk_I, if_pos h, tk_R0 hz]
  rfl
theorem tk_x1 {it q e : Nat} (h : tk_g g it) (hr : ¬ ig_rep g it) (hz : (T (ig_L g it) q).1 = e + 1) : tk_x g t n T it q = e := by
  rw [tk_x, if_pos h, tk_fn hr, pu_Rs (e := e) (by rw [pu_Tr h.1]; exact hz)]
  rfl
theorem tk_s4 {k it q e : Nat} (h : tk_g g it) (hr : ¬ ig_rep g it) (hz : (T (ig_L g it) q).1 = e + 1) : tk_A g t n T (k + 1) it q = (ig_L g it, q, e) :: tk_A g t n T k (it + 1) e := by
  show tk_I g n T it q ++ tk_A g t n T k (it + 1) (tk_x g t n T it q) = _
  rw [tk_x1 h hr hz, tk_I, if_pos h, tk_fn hr, tk_Rs hz]
  rfl
theorem tk_x2 {it q e : Nat} (h : tk_g g it) (hr : ig_rep g it) (hq : q ≤ n) (hP : pu_P g t n T it q) (hz : (T (ig_L g it) q).1 = e + 1) : tk_x g t n T it q = tk_x g t n T it e := by
  have hz' : (pu_T g t n T it q).1 = e + 1 := by rw [pu_Tr h.1]; exact hz
  obtain ⟨k1, k2⟩ := hP q (Nat.le_refl q) hq e hz'
  rw [tk_x, tk_x, if_pos h, if_pos h, tk_fr hr, pu_Rs hz', pu_Rf n (n + 1) e k2 (pu_Pup hP (by omega)) (by omega) (by omega)]
theorem tk_s5 {k it q e : Nat} (h : tk_g g it) (hr : ig_rep g it) (hq : q ≤ n) (hP : pu_P g t n T it q) (hz : (T (ig_L g it) q).1 = e + 1) : tk_A g t n T (k + 1) it q = (ig_L g it, q, e) :: tk_A g t n T (k + 1) it e := by
  have hz' : (pu_T g t n T it q).1 = e + 1 := by rw [pu_Tr h.1]; exact hz
  obtain ⟨k1, k2⟩ := hP q (Nat.le_refl q) hq e hz'
  show tk_I g n T it q ++ tk_A g t n T k (it + 1) (tk_x g t n T it q) = (ig_L g it, q, e) :: (tk_I g n T it e ++ tk_A g t n T k (it + 1) (tk_x g t n T it e))
  rw [tk_x2 h hr hq hP hz, tk_I, tk_I, if_pos h, if_pos h, tk_fr hr, tk_Rs hz, tk_Rf h.1 n (n + 1) e k2 (pu_Pup hP (by omega)) (by omega) (by omega)]
  rfl
/-- an item that goes through ends where the walk goes on -/
theorem tk_xI {it q e : Nat} (hz : (pu_I g t n T it q).1 = e + 1) : tk_x g t n T it q = e := by
  by_cases h : ig_B g it = true ∧ ig_M g it ≤ 3
  · rw [tk_x, if_pos h]
    have hz' : pu_e (ig_M g it) q (pu_R g t n T it (pu_f g n it) q) = e + 1 := hz
    unfold pu_e at hz'
    have h4 : ¬ ig_M g it = 4 := by omega
    have h5 : ¬ ig_M g it = 5 := by omega
    rw [if_neg h4, if_neg h5] at hz'
    by_cases c : ig_M g it = 1 ∨ ig_M g it = 2
    · rw [if_pos c] at hz'; omega
    · rw [if_neg c] at hz'
      by_cases d : 0 < (pu_R g t n T it (pu_f g n it) q).1
      · rw [if_pos d] at hz'; omega
      · rw [if_neg d] at hz'; omega
  · rw [tk_x, if_neg h]; omega
theorem tk_okA : ∀ k it q, (pu_A g t n T k it q).1 ≠ 0 → tk_ok g t n T k it q := by
  intro k
  induction k with
  | zero => intro it q _; trivial
  | succ k ih =>
    intro it q h
    cases hz : (pu_I g t n T it q).1 with
    | zero => rw [pu_A0 hz] at h; exact absurd rfl h
    | succ e =>
      rw [pu_As hz] at h
      refine ⟨Or.inr (by omega), ?_⟩
      rw [tk_xI hz]
      exact ih (it + 1) e h
end
/-! entries of the stack: rule, start, end, parent's number plus one -/
abbrev tr_T : Type := Nat × Nat × Nat × Nat
def tr_k (m : Nat) (c : Nat × Nat × Nat) : tr_T := (c.1, c.2.1, c.2.2, m)
def tr_L (K : Nat → Nat → List (Nat × Nat × Nat)) : Nat → List tr_T → Nat → List tr_T
  | 0, _, _ => []
  | _ + 1, [], _ => []
  | f + 1, x :: S, m => x :: tr_L K f ((K x.1 x.2.1).map (tr_k (m + 1)) ++ S) (m + 1)
theorem tr_L0 (K : Nat → Nat → List (Nat × Nat × Nat)) (f m : Nat) : tr_L K f [] m = [] := by cases f <;> rfl
theorem tr_Lle (K : Nat → Nat → List (Nat × Nat × Nat)) : ∀ f S m, (tr_L K f S m).length ≤ f := by
  intro f
  induction f with
  | zero => intro S m; exact Nat.le_refl 0
  | succ f ih =>
    intro S m
    cases S with
    | nil => exact Nat.zero_le _
    | cons x S =>
      show (x :: tr_L K f _ (m + 1)).length ≤ f + 1
      rw [List.length_cons]
      have := ih ((K x.1 x.2.1).map (tr_k (m + 1)) ++ S) (m + 1)
      omega
