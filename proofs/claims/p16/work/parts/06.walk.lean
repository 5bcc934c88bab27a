/-! the walk with parent links: a chain of nodes (number, alternative, item, position) and what is still to come from it -/
abbrev xw_T : Type := Nat × Nat × Nat × Nat
abbrev ar_T : Type := Nat → Int32
/-- nodes that stand in arrays -/
def tr_A (L : List tr_T) (tR tS tE tP : ar_T) : Prop := ∀ i x, L[i]? = some x → i < 64 → tR i = nI x.1 ∧ tS i = nI x.2.1 ∧ tE i = nI x.2.2.1 ∧ tP i = ip_m x.2.2.2
def xw_N (g : ig_T) (t : Nat → Nat) (n R p0 : Nat) (T : Nat → Nat → Nat × Nat) (tR tS wI wP : ar_T) (x : xw_T) : Prop :=
  x.1 < 64 ∧ ∃ r s, tR x.1 = nI r ∧ tS x.1 = nI s ∧ r < R ∧ p0 ≤ s ∧ s ≤ x.2.2.2 ∧ x.2.2.2 ≤ n ∧ (T r s).1 ≠ 0 ∧ x.2.1 = (pu_M g t n T r s).2.2 ∧ x.2.2.1 ≤ ig_C g x.2.1 ∧
    wI x.1 = nI x.2.2.1 ∧ wP x.1 = nI x.2.2.2 ∧ tk_ok g t n T (ig_C g x.2.1 - x.2.2.1) (4 * x.2.1 + x.2.2.1) x.2.2.2
def xw_C (g : ig_T) (t : Nat → Nat) (n R p0 : Nat) (T : Nat → Nat → Nat × Nat) (tR tS tP wI wP : ar_T) : Int32 → List xw_T → Prop
  | v, [] => v = -1
  | v, x :: c => v = nI x.1 ∧ xw_N g t n R p0 T tR tS wI wP x ∧ (∀ y, y ∈ c → y.1 < x.1) ∧ xw_C g t n R p0 T tR tS tP wI wP (tP x.1) c
def xw_S (g : ig_T) (t : Nat → Nat) (n : Nat) (T : Nat → Nat → Nat × Nat) : List xw_T → List tr_T
  | [] => []
  | x :: c => (tk_A g t n T (ig_C g x.2.1 - x.2.2.1) (4 * x.2.1 + x.2.2.1) x.2.2.2).map (tr_k (x.1 + 1)) ++ xw_S g t n T c
def xw_m : List xw_T → Nat
  | [] => 0
  | x :: c => (5 - x.2.2.1) + xw_m c
section
variable {g : ig_T} {t : Nat → Nat} {n R p0 : Nat} {T : Nat → Nat → Nat × Nat}
theorem xw_Ncg {tR tS wI wP tR' tS' wI' wP' : ar_T} {x : xw_T} (h1 : tR' x.1 = tR x.1) (h2 : tS' x.1 = tS x.1) (h3 : wI' x.1 = wI x.1) (h4 : wP' x.1 = wP x.1)
    (h : xw_N g t n R p0 T tR tS wI wP x) : xw_N g t n R p0 T tR' tS' wI' wP' x := by
  unfold xw_N at h ⊢
  rw [h1, h2, h3, h4]
  exact h
theorem xw_Ccg {tR tS tP wI wP tR' tS' tP' wI' wP' : ar_T} (b : Nat) (h1 : ∀ j, j < b → tR' j = tR j) (h2 : ∀ j, j < b → tS' j = tS j) (h5 : ∀ j, j < b → tP' j = tP j) (h3 : ∀ j, j < b → wI' j = wI j) (h4 : ∀ j, j < b → wP' j = wP j) :
    ∀ (c : List xw_T) (v : Int32), (∀ y, y ∈ c → y.1 < b) → xw_C g t n R p0 T tR tS tP wI wP v c → xw_C g t n R p0 T tR' tS' tP' wI' wP' v c := by
  intro c
  induction c with
  | nil => intro v _ h; exact h
  | cons x c ih =>
    intro v hb h
    obtain ⟨k1, k2, k3, k4⟩ := h
    have hx : x.1 < b := hb x List.mem_cons_self
    refine ⟨k1, xw_Ncg (h1 _ hx) (h2 _ hx) (h3 _ hx) (h4 _ hx) k2, k3, ?_⟩
    rw [h5 _ hx]
    exact ih _ (fun y hy => hb y (List.mem_cons_of_mem x hy)) k4
end
theorem tr_Acg {L : List tr_T} {tR tS tE tP tR' tS' tE' tP' : ar_T} (h1 : ∀ j, j < L.length → tR' j = tR j) (h2 : ∀ j, j < L.length → tS' j = tS j) (h3 : ∀ j, j < L.length → tE' j = tE j) (h4 : ∀ j, j < L.length → tP' j = tP j)
    (h : tr_A L tR tS tE tP) : tr_A L tR' tS' tE' tP' := by
  intro i x hx hi
  have hl : i < L.length := by
    rcases Nat.lt_or_ge i L.length with z | z
    · exact z
    · rw [List.getElem?_eq_none z] at hx; exact absurd hx (by simp)
  rw [h1 i hl, h2 i hl, h3 i hl, h4 i hl]
  exact h i x hx hi
theorem tr_Aadd {L : List tr_T} {x : tr_T} {tR tS tE tP tR' tS' tE' tP' : ar_T} (h1 : ∀ j, j < L.length → tR' j = tR j) (h2 : ∀ j, j < L.length → tS' j = tS j) (h3 : ∀ j, j < L.length → tE' j = tE j) (h4 : ∀ j, j < L.length → tP' j = tP j)
    (hx : L.length < 64 → tR' L.length = nI x.1 ∧ tS' L.length = nI x.2.1 ∧ tE' L.length = nI x.2.2.1 ∧ tP' L.length = ip_m x.2.2.2) (h : tr_A L tR tS tE tP) : tr_A (L ++ [x]) tR' tS' tE' tP' := by
  intro i y hy hi
  rcases Nat.lt_or_ge i L.length with z | z
  · rw [List.getElem?_append_left z] at hy
    exact tr_Acg h1 h2 h3 h4 h i y hy hi
  · rw [List.getElem?_append_right z] at hy
    have e : i - L.length = 0 := by
      rcases Nat.eq_zero_or_pos (i - L.length) with w | w
      · exact w
      · rw [List.getElem?_eq_none (by simp; omega)] at hy; exact absurd hy (by simp)
    rw [e] at hy
    have hy' : x = y := by simpa using hy
    subst hy'
    have e' : i = L.length := by omega
    subst e'
    exact hx hi
theorem tr_A0 (tR tS tE tP : ar_T) : tr_A [] tR tS tE tP := by
  intro i x hx
  exact absurd hx (by simp)
