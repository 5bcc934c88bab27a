/-! bounds on a table that is sound everywhere -/
def pu_SA (R n : Nat) (N : Nat → Bool) (T : Nat → Nat → Nat × Nat) : Prop := ∀ s q, s < R → q ≤ n → pu_S N n T s q
section
variable {g : ig_T} {t : Nat → Nat} {n R : Nat} {T : Nat → Nat → Nat × Nat} {N : Nat → Bool}
/-- an item that a compiled grammar may hold -/
def ig_it (g : ig_T) (N : Nat → Bool) (it : Nat) : Prop := ig_rep g it → ig_B g it = true → N (ig_L g it) = false
theorem pu_Iall {it q : Nat} (hV : ig_V g R) (hS : pu_SA R n N T) (hn : ig_it g N it) (hq : q ≤ n) :
    (pu_I g t n T it q).2 ≤ n + 1 ∧ ∀ e, (pu_I g t n T it q).1 = e + 1 → q ≤ e ∧ e ≤ n := by
  obtain ⟨_, i2, i3⟩ := pu_Iag (t := t) (T := T) (T' := T) (N := N) hq hn (fun b => ⟨rfl, hS _ q ((hV.2 it).2.2.2.2.2 b) hq⟩) (fun q' _ h2 b => ⟨rfl, hS _ q' ((hV.2 it).2.2.2.2.2 b) h2⟩)
  exact ⟨i2, fun e he => ⟨(i3 e he).1, (i3 e he).2.1⟩⟩
theorem pu_Pall {it : Nat} (q : Nat) (hV : ig_V g R) (hS : pu_SA R n N T) (hn : ig_it g N it) (hr : ig_rep g it) : pu_P g t n T it q :=
  pu_Pof (N := N) (hn hr) (fun q' _ h2 b => hS _ q' ((hV.2 it).2.2.2.2.2 b) h2)
theorem pu_Tall {it q : Nat} (hV : ig_V g R) (hS : pu_SA R n N T) (hq : q ≤ n) : (pu_T g t n T it q).2 ≤ n + 1 ∧ ∀ e, (pu_T g t n T it q).1 = e + 1 → q ≤ e ∧ e ≤ n := by
  obtain ⟨i2, i3⟩ := pu_Ts (t := t) (T := T) (N := N) (it := it) hq (fun b => hS _ q ((hV.2 it).2.2.2.2.2 b) hq)
  exact ⟨i2, fun e he => ⟨(i3 e he).1, (i3 e he).2.1⟩⟩
theorem pu_Rall {it q : Nat} (hV : ig_V g R) (hS : pu_SA R n N T) (hn : ig_it g N it) (hq : q ≤ n) :
    (pu_R g t n T it (pu_f g n it) q).2.2 ≤ n + 1 ∧ q ≤ (pu_R g t n T it (pu_f g n it) q).2.1 ∧ (pu_R g t n T it (pu_f g n it) q).2.1 ≤ n ∧ (pu_R g t n T it (pu_f g n it) q).1 + q ≤ (pu_R g t n T it (pu_f g n it) q).2.1 + 1 := by
  have hb : ∀ b : ig_B g it = true, ∀ q', q' ≤ n → pu_S N n T (ig_L g it) q' := fun b q' h => hS _ q' ((hV.2 it).2.2.2.2.2 b) h
  by_cases r : ig_rep g it
  · obtain ⟨_, i2, i3, i4, _, _⟩ := pu_Rag (g := g) (t := t) (T := T) (T' := T) (N := N) (pu_f g n it) q hq (fun b => ⟨rfl, hb b q hq⟩) (Or.inr ⟨hn r, fun q' _ h2 b => ⟨rfl, hb b q' h2⟩⟩)
    have := (pu_Rc (pu_f g n it) q hq (pu_Pall (t := t) q hV hS hn r)).1
    exact ⟨i2, i3, i4, by omega⟩
  · obtain ⟨_, i2, i3, i4, _, _⟩ := pu_Rag (g := g) (t := t) (T := T) (T' := T) (N := N) (pu_f g n it) q hq (fun b => ⟨rfl, hb b q hq⟩) (Or.inl (by rw [tk_fn r]; exact Nat.le_refl 1))
    refine ⟨i2, i3, i4, ?_⟩
    have h1 : (pu_R g t n T it (pu_f g n it) q).1 ≤ 1 := by
      rw [tk_fn r]
      cases hz : (pu_T g t n T it q).1 with
      | zero => rw [pu_R0 hz]; exact Nat.zero_le 1
      | succ e => rw [pu_Rs hz]; exact Nat.le_refl 1
    omega
theorem tk_xb {it q : Nat} (hV : ig_V g R) (hS : pu_SA R n N T) (hn : ig_it g N it) (hq : q ≤ n) (h : tk_g g it ∨ (pu_I g t n T it q).1 ≠ 0) :
    q ≤ tk_x g t n T it q ∧ tk_x g t n T it q ≤ n := by
  by_cases c : tk_g g it
  · rw [tk_x, if_pos c]
    obtain ⟨_, i3, i4, _⟩ := pu_Rall (t := t) hV hS hn hq
    exact ⟨i3, i4⟩
  · rcases h with h | h
    · exact absurd h c
    · obtain ⟨e, he⟩ : ∃ e, (pu_I g t n T it q).1 = e + 1 := ⟨(pu_I g t n T it q).1 - 1, by omega⟩
      rw [tk_xI he]
      exact (pu_Iall hV hS hn hq).2 e he
theorem tk_Il {it q : Nat} (hV : ig_V g R) (hS : pu_SA R n N T) (hn : ig_it g N it) (hq : q ≤ n) (h : tk_g g it ∨ (pu_I g t n T it q).1 ≠ 0) :
    (tk_I g n T it q).length + q ≤ tk_x g t n T it q + 1 := by
  by_cases c : tk_g g it
  · rw [tk_x, tk_I, if_pos c, if_pos c, tk_Rl (t := t) (n := n) c.1]
    exact (pu_Rall (t := t) hV hS hn hq).2.2.2
  · have := (tk_xb hV hS hn hq h).1
    rw [tk_I, if_neg c]
    show 0 + q ≤ _
    omega
theorem tk_Al (hV : ig_V g R) (hS : pu_SA R n N T) : ∀ k it q, (∀ j, j < k → ig_it g N (it + j)) → q ≤ n → tk_ok g t n T k it q → (tk_A g t n T k it q).length + q ≤ k + n := by
  intro k
  induction k with
  | zero => intro it q _ hq _; show 0 + q ≤ 0 + n; omega
  | succ k ih =>
    intro it q hn hq h
    obtain ⟨h1, h2⟩ := h
    obtain ⟨b1, b2⟩ := tk_xb (it := it) hV hS (hn 0 (by omega)) hq h1
    have l1 := tk_Il (it := it) hV hS (hn 0 (by omega)) hq h1
    have l2 := ih (it + 1) (tk_x g t n T it q) (fun j hj => by rw [show it + 1 + j = it + (j + 1) by omega]; exact hn (j + 1) (by omega)) b2 h2
    show (tk_I g n T it q ++ tk_A g t n T k (it + 1) (tk_x g t n T it q)).length + q ≤ k + 1 + n
    rw [List.length_append]
    omega
/-- the alternative that wins -/
theorem pu_Uw {r p : Nat} : ∀ k a, (pu_U g t n T r p k a).1 ≠ 0 → a ≤ (pu_U g t n T r p k a).2.2 ∧ (pu_U g t n T r p k a).2.2 < a + k ∧ ig_O g (pu_U g t n T r p k a).2.2 = r ∧
    (pu_A g t n T (ig_C g (pu_U g t n T r p k a).2.2) (4 * (pu_U g t n T r p k a).2.2) p).1 = (pu_U g t n T r p k a).1 ∧
    ∀ b, a ≤ b → b < (pu_U g t n T r p k a).2.2 → ig_O g b = r → (pu_A g t n T (ig_C g b) (4 * b) p).1 = 0 := by
  intro k
  induction k with
  | zero => intro a h; exact absurd rfl h
  | succ k ih =>
    intro a h
    by_cases ho : ig_O g a = r
    · by_cases hz : (pu_A g t n T (ig_C g a) (4 * a) p).1 = 0
      · rw [pu_U0 ho hz] at h ⊢
        obtain ⟨i1, i2, i3, i4, i5⟩ := ih (a + 1) h
        refine ⟨by show a ≤ (pu_U g t n T r p k (a + 1)).2.2; omega, by show (pu_U g t n T r p k (a + 1)).2.2 < a + (k + 1); omega, i3, i4, fun b h1 h2 h3 => ?_⟩
        rcases Nat.eq_or_lt_of_le h1 with z | z
        · subst z; exact hz
        · exact i5 b (by omega) h2 h3
      · rw [pu_Us ho hz]
        exact ⟨Nat.le_refl a, by show a < a + (k + 1); omega, ho, rfl, fun b h1 h2 => absurd (show b < a from h2) (by omega)⟩
    · rw [pu_Un ho] at h ⊢
      obtain ⟨i1, i2, i3, i4, i5⟩ := ih (a + 1) h
      refine ⟨by omega, by omega, i3, i4, fun b h1 h2 h3 => ?_⟩
      rcases Nat.eq_or_lt_of_le h1 with z | z
      · subst z; exact absurd h3 ho
      · exact i5 b (by omega) h2 h3
theorem pu_GS (h : pu_G g t n R N T) : pu_SA R n N T := fun s q h1 h2 => (h s q h1 h2).2
/-- the alternative that wins at a place of the table -/
theorem pu_W (h : pu_G g t n R N T) {r p : Nat} (hr : r < R) (hp : p ≤ n) (hz : (T r p).1 ≠ 0) : (pu_M g t n T r p).2.2 < ig_A g ∧ ig_O g (pu_M g t n T r p).2.2 = r ∧
    (pu_A g t n T (ig_C g (pu_M g t n T r p).2.2) (4 * (pu_M g t n T r p).2.2) p).1 = (T r p).1 ∧ ∀ b, b < (pu_M g t n T r p).2.2 → ig_O g b = r → (pu_A g t n T (ig_C g b) (4 * b) p).1 = 0 := by
  have e : (T r p).1 = (pu_M g t n T r p).1 := congrArg Prod.fst (h r p hr hp).1
  rw [e] at hz ⊢
  obtain ⟨_, i2, i3, i4, i5⟩ := pu_Uw (ig_A g) 0 hz
  exact ⟨by rw [Nat.zero_add] at i2; exact i2, i3, i4, fun b hb ho => i5 b (Nat.zero_le b) hb ho⟩
end
/-- the children of a node -/
def tk_K (g : ig_T) (t : Nat → Nat) (n : Nat) (T : Nat → Nat → Nat × Nat) (r p : Nat) : List (Nat × Nat × Nat) :=
  tk_A g t n T (ig_C g (pu_M g t n T r p).2.2) (4 * (pu_M g t n T r p).2.2) p
