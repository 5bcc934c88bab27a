/-! building the grammar -/
/-- an alternative more -/
def ga_A (g : ig_T) (r : Nat) : ig_T := (ip_u (ig_O g) (ig_A g) r, ip_u (ig_C g) (ig_A g) 0, ig_M g, ig_L g, ig_H g, ig_B g, ig_A g + 1)
theorem ga_V {g : ig_T} {R r : Nat} (h : ig_V g R) (hr : r < R) (ha : ig_A g < 16) : ig_V (ga_A g r) R := by
  refine ⟨ha, fun j => ?_⟩
  obtain ⟨h1, h2, h3⟩ := h.2 j
  refine ⟨?_, ?_, h3⟩
  · show ip_u (ig_O g) (ig_A g) r j < R
    by_cases e : j = ig_A g
    · rw [e, ip_us]; exact hr
    · rw [ip_un e]; exact h1
  · show ip_u (ig_C g) (ig_A g) 0 j ≤ 4
    by_cases e : j = ig_A g
    · rw [e, ip_us]; decide
    · rw [ip_un e]; exact h2
/-- an item more: its alternative, index, place, mode, low, high, whether it is a rule -/
def ga_I (g : ig_T) (a c it m lo hi : Nat) (b : Bool) : ig_T := (ig_O g, ip_u (ig_C g) a (c + 1), ip_u (ig_M g) it m, ip_u (ig_L g) it lo, ip_u (ig_H g) it hi, ip_u (ig_B g) it b, ig_A g)
/-- what a base is -/
def ga_N (R : Nat) (k a b : Int32) (lo hi : Nat) (br : Bool) : Prop :=
  ((br = true → k = 3 ∧ a = nI lo) ∧ (br = false → (k = 2 ∧ lo = 0 ∧ hi = 65535) ∨ (k = 0 ∧ a = nI lo ∧ hi = lo) ∨ (k = 1 ∧ a = nI lo ∧ b = nI hi))) ∧ lo ≤ 65535 ∧ hi ≤ 65535 ∧ (br = true → lo < R)
theorem ga_IV {g : ig_T} {R a c it m lo hi : Nat} {br : Bool} {k x y : Int32} (h : ig_V g R) (hc : c < 4) (hm : m ≤ 5) (hN : ga_N R k x y lo hi br) : ig_V (ga_I g a c it m lo hi br) R := by
  refine ⟨h.1, fun j => ?_⟩
  obtain ⟨h1, h2, h3, h4, h5, h6⟩ := h.2 j
  refine ⟨h1, ?_, ?_, ?_, ?_, ?_⟩
  · show ip_u (ig_C g) a (c + 1) j ≤ 4
    by_cases e : j = a
    · rw [e, ip_us]; omega
    · rw [ip_un e]; exact h2
  · show ip_u (ig_M g) it m j ≤ 5
    by_cases e : j = it
    · rw [e, ip_us]; exact hm
    · rw [ip_un e]; exact h3
  · show ip_u (ig_L g) it lo j ≤ 65535
    by_cases e : j = it
    · rw [e, ip_us]; exact hN.2.1
    · rw [ip_un e]; exact h4
  · show ip_u (ig_H g) it hi j ≤ 65535
    by_cases e : j = it
    · rw [e, ip_us]; exact hN.2.2.1
    · rw [ip_un e]; exact h5
  · show ip_u (ig_B g) it br j = true → ip_u (ig_L g) it lo j < R
    by_cases e : j = it
    · rw [e, ip_us, ip_us]; exact hN.2.2.2
    · rw [ip_un e, ip_un e]; exact h6
/-- a base that is taken -/
def ga_B (R : Nat) (k a b : Int32) : Prop := (k = 0 ∧ ∃ c, c ≤ 65535 ∧ a = nI c) ∨ (k = 1 ∧ ∃ c d, c ≤ d ∧ d ≤ 65535 ∧ a = nI c ∧ b = nI d) ∨ k = 2 ∨ (k = 3 ∧ ∃ s, s < R ∧ a = nI s)
theorem ga_Bk {R : Nat} {k a b : Int32} (h : ga_B R k a b) : ¬ k < 0 ∧ ¬ 3 < k := by
  rcases h with ⟨rfl, _⟩ | ⟨rfl, _⟩ | rfl | ⟨rfl, _⟩ <;> decide
theorem ga_B0 {R : Nat} {a b : Int32} (h : ga_B R 0 a b) : ∃ c, c ≤ 65535 ∧ a = nI c := by
  rcases h with ⟨_, h⟩ | ⟨e, _⟩ | e | ⟨e, _⟩
  · exact h
  · exact absurd e (by decide)
  · exact absurd e (by decide)
  · exact absurd e (by decide)
theorem ga_B1 {R : Nat} {a b : Int32} (h : ga_B R 1 a b) : ∃ c d, c ≤ d ∧ d ≤ 65535 ∧ a = nI c ∧ b = nI d := by
  rcases h with ⟨e, _⟩ | ⟨_, h⟩ | e | ⟨e, _⟩
  · exact absurd e (by decide)
  · exact h
  · exact absurd e (by decide)
  · exact absurd e (by decide)
theorem ga_B3 {R : Nat} {a b : Int32} (h : ga_B R 3 a b) : ∃ s, s < R ∧ a = nI s := by
  rcases h with ⟨e, _⟩ | ⟨e, _⟩ | e | ⟨_, h⟩
  · exact absurd e (by decide)
  · exact absurd e (by decide)
  · exact absurd e (by decide)
  · exact h
/-! the three tests of a base's arguments, as both sides ask them -/
theorem ga_t0 {R : Nat} {a b : Int32} {A B : Prop} (h1 : ga_B R 0 a b → A) (h0 : ¬ ga_B R 0 a b → B) : (a < 0 → B) ∧ (¬ a < 0 → ((65535 < a → B) ∧ (¬ 65535 < a → A))) := by
  refine br_c (fun z => h0 (fun w => ?_)) (fun z => ?_)
  · obtain ⟨c, hc, rfl⟩ := ga_B0 w
    exact nI_pos (by omega) z
  · obtain ⟨c, hc, rfl⟩ := nI_of z
    refine pk_lt 65535 c (fun z2 => h0 (fun w => ?_)) (fun z2 => h1 (Or.inl ⟨rfl, c, z2, rfl⟩))
    obtain ⟨c', hc', e⟩ := ga_B0 w
    have := (nI_eq hc (by omega)).mp e
    omega
theorem ga_t0' {R : Nat} {a b : Int32} {A B : Prop} (h1 : ga_B R 0 a b → A) (h0 : ¬ ga_B R 0 a b → B) : (a < 0 → B) ∧ (¬ a < 0 → ((a ≤ 65535 → A) ∧ (¬ a ≤ 65535 → B))) := by
  obtain ⟨p, q⟩ := ga_t0 h1 h0
  exact ⟨p, fun z => ⟨fun y => (q z).2 (Int32.not_lt.mpr y), fun y => (q z).1 (Int32.not_le.mp y)⟩⟩
theorem ga_t1 {R : Nat} {a b : Int32} {A B : Prop} (h1 : ga_B R 1 a b → A) (h0 : ¬ ga_B R 1 a b → B) : (a < 0 → B) ∧ (¬ a < 0 → ((b < a → B) ∧ (¬ b < a → ((65535 < b → B) ∧ (¬ 65535 < b → A))))) := by
  refine br_c (fun z => h0 (fun w => ?_)) (fun z => br_c (fun z1 => h0 (fun w => ?_)) (fun z1 => ?_))
  · obtain ⟨c, d, h1', h2', rfl, _⟩ := ga_B1 w
    exact nI_pos (by omega) z
  · obtain ⟨c, d, h1', h2', rfl, rfl⟩ := ga_B1 w
    exact nI_nlt (a := d) (b := c) h1' (by omega) z1
  · obtain ⟨c, hc, rfl⟩ := nI_of z
    have z3 : ¬ b < 0 := fun w => z1 (by
      have : (0 : Int32) ≤ nI c := nI_pos' hc
      exact Int32.lt_of_lt_of_le w this)
    obtain ⟨d, hd, rfl⟩ := nI_of z3
    have hcd : c ≤ d := by
      rcases Nat.lt_or_ge d c with w | w
      · exact absurd (nI_lt w hc) z1
      · exact w
    refine pk_lt 65535 d (fun z2 => h0 (fun w => ?_)) (fun z2 => h1 (Or.inr (Or.inl ⟨rfl, c, d, hcd, z2, rfl, rfl⟩)))
    obtain ⟨c', d', _, h2', _, e⟩ := ga_B1 w
    have := (nI_eq hd (by omega)).mp e
    omega
theorem ga_t1' {R : Nat} {a b : Int32} {A B : Prop} (h1 : ga_B R 1 a b → A) (h0 : ¬ ga_B R 1 a b → B) : (a < 0 → B) ∧ (¬ a < 0 → ((b < a → B) ∧ (¬ b < a → ((b ≤ 65535 → A) ∧ (¬ b ≤ 65535 → B))))) := by
  obtain ⟨p, q⟩ := ga_t1 h1 h0
  exact ⟨p, fun z => ⟨(q z).1, fun y => ⟨fun v => ((q z).2 y).2 (Int32.not_lt.mpr v), fun v => ((q z).2 y).1 (Int32.not_le.mp v)⟩⟩⟩
theorem ga_t3 {R : Nat} {a b : Int32} {A B : Prop} (hR : R < 2 ^ 31) (h1 : ga_B R 3 a b → A) (h0 : ¬ ga_B R 3 a b → B) : (a < 0 → B) ∧ (¬ a < 0 → ((nI R ≤ a → B) ∧ (¬ nI R ≤ a → A))) := by
  refine br_c (fun z => h0 (fun w => ?_)) (fun z => ?_)
  · obtain ⟨c, hc, rfl⟩ := ga_B3 w
    exact nI_pos (by omega) z
  · obtain ⟨c, hc, rfl⟩ := nI_of z
    refine pk_le R c (fun z2 => h0 (fun w => ?_)) (fun z2 => h1 (Or.inr (Or.inr (Or.inr ⟨rfl, c, z2, rfl⟩))))
    obtain ⟨c', hc', e⟩ := ga_B3 w
    have := (nI_eq hc (by omega)).mp e
    omega
theorem ga_t3' {R : Nat} {a b : Int32} {A B : Prop} (hR : R < 2 ^ 31) (h1 : ga_B R 3 a b → A) (h0 : ¬ ga_B R 3 a b → B) : (a < 0 → B) ∧ (¬ a < 0 → ((a < nI R → A) ∧ (¬ a < nI R → B))) := by
  obtain ⟨p, q⟩ := ga_t3 hR h1 h0
  exact ⟨p, fun z => ⟨fun y => (q z).2 (Int32.not_le.mpr y), fun y => (q z).1 (Int32.not_lt.mp y)⟩⟩
section
variable {g : ig_T} {t : Nat → Nat} {n R cp : Nat} {fz rc oR oN : Int32} {nu od ro mE mR mA tR tS tE tP wI wP : Nat → Int32}
theorem xa_base {post : Int32 → Prop} {k a b : Int32} (hR : R < 2 ^ 31) (h1 : ga_B R k a b → post 1) (h0 : ¬ ga_B R k a b → post 0) : wpX_isBase post (nI R, nI cp, fz, nI (ig_A g), nI n, rc, oR, oN, ip_e (ig_O g), ip_e (ig_C g), ip_eb (ig_B g), ip_e (ig_L g), ip_e (ig_H g), ip_e (ig_M g), nu, od, ro, ip_e t, mE, mR, mA, tR, tS, tE, tP, wI, wP) k a b := by
  refine br_c (fun z => h0 (fun w => (ga_Bk w).1 z)) (fun _ => br_c (fun z => h0 (fun w => (ga_Bk w).2 z)) (fun _ => br_c (fun e => ?_) (fun n0 => br_c (fun e => ?_) (fun n1 => br_c (fun e => ?_) (fun n2 => br_c (fun e => ?_) (fun _ => trivial))))))
  · subst e; exact ga_t0 h1 h0
  · subst e; exact ga_t1 h1 h0
  · subst e; exact h1 (Or.inr (Or.inr (Or.inl rfl)))
  · subst e
    exact ga_t3 hR (fun z => ⟨rfl, h1 z⟩) (fun z => ⟨rfl, h0 z⟩)
/-- the item is stored -/
theorem xa_133 {post : Int32 → St2 → Prop} {m a c it : Nat} {hi : Nat} (hit : it < 64) (ha : a < 16) (h : post (nI c) (nI R, nI cp, fz, nI (ig_A g), nI n, rc, oR, oN, ip_e (ig_O g), ip_e (ip_u (ig_C g) a (c + 1)), ip_eb (ig_B g), ip_e (ig_L g), ip_e (ip_u (ig_H g) it hi), ip_e (ip_u (ig_M g) it m), nu, od, ro, ip_e t, mE, mR, mA, tR, tS, tE, tP, wI, wP)) : wX_addItem_133 post (nI m) (nI a) (nI c) (nI it) (nI hi) (nI it) (nI R) (nI cp) fz (nI (ig_A g)) (nI n) rc oR oN (ip_e (ig_O g)) (ip_e (ig_C g)) (ip_eb (ig_B g)) (ip_e (ig_L g)) (ip_e (ig_H g)) (ip_e (ig_M g)) nu od ro (ip_e t) mE mR mA tR tS tE tP wI wP := by
  have hv : vp_in (nI it) 64 := vp_in_nI hit (by decide)
  refine ⟨hv, nm_r (by rw [nI_clamp (by omega)]; exact ip_ue _ _ _) ⟨hv, nm_r (by rw [nI_clamp (by omega)]; exact ip_ue _ _ _) ⟨vp_in_nI ha (by decide), nm_r (by rw [nI_clamp (by omega), nI_1]; exact ip_ue _ _ _) h⟩⟩⟩
end
section
variable {g : ig_T} {t : Nat → Nat} {n R cp : Nat} {fz rc oR oN : Int32} {nu od ro mE mR mA tR tS tE tP wI wP : Nat → Int32}
theorem xa_put {post : Int32 → St2 → Prop} {k a b : Int32} {m al c it : Nat} (hR8 : R ≤ 8) (hit : it < 64) (ha : al < 16) (hB : ga_B R k a b)
    (h : ∀ (lo hi : Nat) (br : Bool), ga_N R k a b lo hi br → post (nI c) (nI R, nI cp, fz, nI (ig_A g), nI n, rc, oR, oN, ip_e (ig_O g), ip_e (ip_u (ig_C g) al (c + 1)), ip_eb (ip_u (ig_B g) it br), ip_e (ip_u (ig_L g) it lo), ip_e (ip_u (ig_H g) it hi), ip_e (ip_u (ig_M g) it m), nu, od, ro, ip_e t, mE, mR, mA, tR, tS, tE, tP, wI, wP)) :
    (k = 3 → wX_addItem_89 post k a b (nI m) (nI al) (nI c) (nI it) 1 (nI it) (nI R) (nI cp) fz (nI (ig_A g)) (nI n) rc oR oN (ip_e (ig_O g)) (ip_e (ig_C g)) (ip_eb (ig_B g)) (ip_e (ig_L g)) (ip_e (ig_H g)) (ip_e (ig_M g)) nu od ro (ip_e t) mE mR mA tR tS tE tP wI wP) ∧ (¬ k = 3 → wX_addItem_89 post k a b (nI m) (nI al) (nI c) (nI it) 0 (nI it) (nI R) (nI cp) fz (nI (ig_A g)) (nI n) rc oR oN (ip_e (ig_O g)) (ip_e (ig_C g)) (ip_eb (ig_B g)) (ip_e (ig_L g)) (ip_e (ig_H g)) (ip_e (ig_M g)) nu od ro (ip_e t) mE mR mA tR tS tE tP wI wP) := by
  have hv : vp_in (nI it) 64 := vp_in_nI hit (by decide)
  have ec : (nI it).toNatClampNeg = it := nI_clamp (by omega)
  have w0 : ∀ br : Bool, upd (ip_eb (ig_B g)) (nI it).toNatClampNeg (vp_nar .boolean (ip_b br)) = ip_eb (ip_u (ig_B g) it br) := fun br => by
    rw [ec, show vp_nar .boolean (ip_b br) = ip_b br by cases br <;> rfl]
    exact ip_ueb _ _ _
  have w1 : ∀ v : Nat, upd (ip_e (ig_L g)) (nI it).toNatClampNeg (nI v) = ip_e (ip_u (ig_L g) it v) := fun v => by rw [ec]; exact ip_ue _ _ _
  rcases hB with ⟨rfl, d, hd, rfl⟩ | ⟨rfl, d, e, hde, he, rfl, rfl⟩ | rfl | ⟨rfl, s, hs, rfl⟩
  · have H := h d d false ⟨⟨fun z => absurd z (by decide), fun _ => Or.inr (Or.inl ⟨rfl, rfl, rfl⟩)⟩, hd, hd, fun z => absurd z (by decide)⟩
    exact br_f (by decide) ⟨hv, nm_r (w0 false) (br_f (by decide) ⟨hv, nm_r (w1 d) (br_f (by decide) (br_f (by decide) (xa_133 (g := (ig_O g, ig_C g, ig_M g, ip_u (ig_L g) it d, ig_H g, ip_u (ig_B g) it false, ig_A g)) hit ha H)))⟩)⟩
  · have H := h d e false ⟨⟨fun z => absurd z (by decide), fun _ => Or.inr (Or.inr ⟨rfl, rfl, rfl⟩)⟩, by omega, he, fun z => absurd z (by decide)⟩
    exact br_f (by decide) ⟨hv, nm_r (w0 false) (br_f (by decide) ⟨hv, nm_r (w1 d) (br_f (by decide) (br_t rfl (xa_133 (g := (ig_O g, ig_C g, ig_M g, ip_u (ig_L g) it d, ig_H g, ip_u (ig_B g) it false, ig_A g)) hit ha H)))⟩)⟩
  · have H := h 0 65535 false ⟨⟨fun z => absurd z (by decide), fun _ => Or.inl ⟨rfl, rfl, rfl⟩⟩, by decide, by decide, fun z => absurd z (by decide)⟩
    exact br_f (by decide) ⟨hv, nm_r (w0 false) (br_t rfl ⟨hv, nm_r (w1 0) (br_t rfl (xa_133 (hi := 65535) (g := (ig_O g, ig_C g, ig_M g, ip_u (ig_L g) it 0, ig_H g, ip_u (ig_B g) it false, ig_A g)) hit ha H))⟩)⟩
  · have H := h s s true ⟨⟨fun _ => ⟨rfl, rfl⟩, fun z => absurd z (by decide)⟩, by omega, by omega, fun _ => hs⟩
    exact br_t rfl ⟨hv, nm_r (w0 true) (br_f (by decide) ⟨hv, nm_r (w1 s) (br_f (by decide) (br_f (by decide) (xa_133 (g := (ig_O g, ig_C g, ig_M g, ip_u (ig_L g) it s, ig_H g, ip_u (ig_B g) it true, ig_A g)) hit ha H)))⟩)⟩
end
