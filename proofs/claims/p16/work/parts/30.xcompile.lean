/-! the component's compile -/
/-- a repeat of a nullable rule -/
def cp_bad (g : ig_T) (N : Nat → Bool) (it : Nat) : Prop := ig_rep g it ∧ ig_B g it = true ∧ N (ig_L g it) = true
theorem cp_NbI (g : ig_T) (N : Nat → Bool) : ig_Nb g N ↔ ¬ ∃ a, a < ig_A g ∧ ∃ i, i < ig_C g a ∧ cp_bad g N (4 * a + i) := by
  constructor
  · intro h z
    obtain ⟨a, ha, i, hi, h1, h2, h3⟩ := z
    rw [h a i ha hi h1 h2] at h3
    exact absurd h3 (by decide)
  · intro h a i ha hi h1 h2
    cases hb : N (ig_L g (4 * a + i)) with
    | false => rfl
    | true => exact absurd ⟨a, ha, i, hi, h1, h2, hb⟩ h
section
variable {g : ig_T} {t : Nat → Nat} {n R cp : Nat} {fz rc oR oN : Int32} {nu od ro mE mR mA tR tS tE tP wI wP : Nat → Int32} {N O : Nat → Bool}
theorem xc_item {post : Int32 → Prop} {it : Nat} (F : xk_F g t n R) (hit : it < 64) (h : post (ip_b (ig_nb g N it))) : wpX_isItemNullable post (nI R, nI cp, fz, nI (ig_A g), nI n, rc, oR, oN, ip_e (ig_O g), ip_e (ig_C g), ip_eb (ig_B g), ip_e (ig_L g), ip_e (ig_H g), ip_e (ig_M g), ip_eb N, od, ro, ip_e t, mE, mR, mA, tR, tS, tE, tP, wI, wP) (nI it) := by
  have hR8 := F.2.1
  obtain ⟨_, _, hM, hL, _, hB⟩ := F.2.2.1.2 it
  have c1 : it < 2 ^ 31 := by omega
  have hi : vp_in (nI it) 64 := vp_in_nI hit (by decide)
  have h16 : (ig_M g it = 0 ∨ ig_M g it = 3) → wX_isItemNullable_16 post (nI it) (nI R) (nI cp) fz (nI (ig_A g)) (nI n) rc oR oN (ip_e (ig_O g)) (ip_e (ig_C g)) (ip_eb (ig_B g)) (ip_e (ig_L g)) (ip_e (ig_H g)) (ip_e (ig_M g)) (ip_eb N) od ro (ip_e t) mE mR mA tR tS tE tP wI wP := fun hm => by
    refine ⟨hi, ip_br (ip_cb _ c1) (fun b => ?_) (fun b => ⟨hi, ?_, ip_br (b := N (ig_L g it)) ?_ (fun b2 => ?_) (fun b2 => ?_)⟩)⟩
    · have e : ig_nb g N it = false := (ig_nbF g N it).mpr (fun w => w.elim (fun w => by omega) (fun w => by rw [b] at w; exact absurd w.1 (by decide)))
      rw [e] at h; exact h
    · rw [ip_ce _ c1]; exact vp_in_nI (by have := hB b; omega) (by decide)
    · rw [ip_ce _ c1]; exact ip_cb N (by omega)
    · have e : ig_nb g N it = false := (ig_nbF g N it).mpr (fun w => w.elim (fun w => by omega) (fun w => by rw [b2] at w; exact absurd w.2 (by decide)))
      rw [e] at h; exact h
    · have e : ig_nb g N it = true := (ig_nbI g N it).mpr (Or.inr ⟨b, b2⟩)
      rw [e] at h; exact h
  refine ⟨hi, nm_r (ip_ce _ c1) (pk_eq (ig_M g it) 0 (fun z => h16 (Or.inl z)) (fun z0 => pk_eq (ig_M g it) 3 (fun z => h16 (Or.inr z)) (fun z3 => ?_)))⟩
  have e : ig_nb g N it = true := (ig_nbI g N it).mpr (Or.inl ⟨z0, z3⟩)
  rw [e] at h; exact h
theorem xc_alt {post : Int32 → Prop} {a : Nat} (F : xk_F g t n R) (ha : a < 16) (h : post (ip_b (cp_a g N (ig_C g a) (4 * a)))) : wpX_isAltNullable post (nI R, nI cp, fz, nI (ig_A g), nI n, rc, oR, oN, ip_e (ig_O g), ip_e (ig_C g), ip_eb (ig_B g), ip_e (ig_L g), ip_e (ig_H g), ip_e (ig_M g), ip_eb N, od, ro, ip_e t, mE, mR, mA, tR, tS, tE, tP, wI, wP) (nI a) := by
  have hC := (F.2.2.1.2 a).2.1
  have key : ∀ (k nn i : Nat), i + k = ig_C g a → k < nn → post (ip_b (cp_a g N k (4 * a + i))) → wX_isAltNullable_2 post (nI a) (nI R) (nI cp) fz (nI (ig_A g)) (nI n) rc oR oN (ip_e (ig_O g)) (ip_e (ig_C g)) (ip_eb (ig_B g)) (ip_e (ig_L g)) (ip_e (ig_H g)) (ip_e (ig_M g)) (ip_eb N) od ro (ip_e t) mE mR mA tR tS tE tP wI wP nn (nI i) := by
    intro k
    induction k with
    | zero =>
      intro nn i hi hnn hp
      obtain ⟨nn, rfl⟩ : ∃ k, nn = k + 1 := ⟨nn - 1, by omega⟩
      exact ⟨vp_in_nI ha (by decide), pk_le (ig_C g a) i (fun _ => hp) (fun z => by omega) (ip_ce _ (by omega))⟩
    | succ k ih =>
      intro nn i hi hnn hp
      obtain ⟨nn, rfl⟩ : ∃ k, nn = k + 1 := ⟨nn - 1, by omega⟩
      refine ⟨vp_in_nI ha (by decide), pk_le (ig_C g a) i (fun z => by omega) (fun _ => ?_) (ip_ce _ (by omega))⟩
      rw [ip_ls]
      have hp' : post (ip_b (ig_nb g N (4 * a + i) && cp_a g N k (4 * a + i + 1))) := hp
      refine xc_item F (by omega) (ip_br rfl (fun b => ?_) (fun b => nm_r (nI_1 i) (ih nn (i + 1) (by omega) (by omega) ?_)))
      · rw [b] at hp'; exact hp'
      · rw [b] at hp'; exact hp'
  exact ⟨ig_C g a + 1, key _ _ 0 (Nat.zero_add _) (Nat.lt_succ_self _) h⟩
theorem xc_33 {post : St2 → Prop} {J : Int32 → ar_T → ar_T → ar_T → ar_T → ar_T → ar_T → ar_T → ar_T → ar_T → ar_T → ar_T → ar_T → ar_T → ar_T → ar_T → ar_T → ar_T → ar_T → ar_T → Prop} {i : Nat} (F : xk_F g t n R) :
    ∀ (k nn a : Nat) (N : Nat → Bool), a + k = ig_A g → k < nn → J (nI (i + 1)) (ip_e (ig_O g)) (ip_e (ig_C g)) (ip_eb (ig_B g)) (ip_e (ig_L g)) (ip_e (ig_H g)) (ip_e (ig_M g)) (ip_eb (cp_l g k a N)) od ro (ip_e t) mE mR mA tR tS tE tP wI wP → wX_markNullableRules_33 post J (nI i) (nI R) (nI cp) fz (nI (ig_A g)) (nI n) rc oR oN nn (nI a) (ip_e (ig_O g)) (ip_e (ig_C g)) (ip_eb (ig_B g)) (ip_e (ig_L g)) (ip_e (ig_H g)) (ip_e (ig_M g)) (ip_eb N) od ro (ip_e t) mE mR mA tR tS tE tP wI wP := by
  have h16 := F.2.2.1.1
  have hR8 := F.2.1
  intro k
  induction k with
  | zero =>
    intro nn a N ha hnn h
    obtain ⟨nn, rfl⟩ : ∃ k, nn = k + 1 := ⟨nn - 1, by omega⟩
    exact pk_le (ig_A g) a (fun _ => nm_r (nI_1 i) h) (fun z => by omega)
  | succ k ih =>
    intro nn a N ha hnn h
    obtain ⟨nn, rfl⟩ : ∃ k, nn = k + 1 := ⟨nn - 1, by omega⟩
    have hO := (F.2.2.1.2 a).1
    have c1 : a < 2 ^ 31 := by omega
    have h' : J (nI (i + 1)) (ip_e (ig_O g)) (ip_e (ig_C g)) (ip_eb (ig_B g)) (ip_e (ig_L g)) (ip_e (ig_H g)) (ip_e (ig_M g)) (ip_eb (cp_l g k (a + 1) (if cp_a g N (ig_C g a) (4 * a) = true then ip_u N (ig_O g a) true else N))) od ro (ip_e t) mE mR mA tR tS tE tP wI wP := h
    refine pk_le (ig_A g) a (fun z => by omega) (fun _ => xc_alt F (by omega) (ip_br rfl (fun b => nm_r (nI_1 a) ?_) (fun b => ⟨vp_in_nI (by omega) (by decide), ?_, nm_r (e' := ip_eb (ip_u N (ig_O g a) true)) ?_ (nm_r (nI_1 a) ?_)⟩)))
    · rw [if_neg (by rw [b]; decide)] at h'
      exact ih nn (a + 1) N (by omega) (by omega) h'
    · rw [ip_ce _ c1]; exact vp_in_nI (by omega) (by decide)
    · rw [ip_ce _ c1, nI_clamp (by omega)]; exact ip_ueb N _ true
    · rw [if_pos b] at h'
      exact ih nn (a + 1) _ (by omega) (by omega) h'
theorem xc_23 {post : St2 → Prop} (F : xk_F g t n R) : ∀ (d nn i : Nat) (N : Nat → Bool), i + d = R → d < nn → post (nI R, nI cp, fz, nI (ig_A g), nI n, rc, oR, oN, ip_e (ig_O g), ip_e (ig_C g), ip_eb (ig_B g), ip_e (ig_L g), ip_e (ig_H g), ip_e (ig_M g), ip_eb (cp_r g d N), od, ro, ip_e t, mE, mR, mA, tR, tS, tE, tP, wI, wP) → wX_markNullableRules_23 post (nI R) (nI cp) fz (nI (ig_A g)) (nI n) rc oR oN nn (nI i) (ip_e (ig_O g)) (ip_e (ig_C g)) (ip_eb (ig_B g)) (ip_e (ig_L g)) (ip_e (ig_H g)) (ip_e (ig_M g)) (ip_eb N) od ro (ip_e t) mE mR mA tR tS tE tP wI wP := by
  have hR8 := F.2.1
  intro d
  induction d with
  | zero =>
    intro nn i N hi hnn h
    obtain ⟨nn, rfl⟩ : ∃ k, nn = k + 1 := ⟨nn - 1, by omega⟩
    exact pk_le R i (fun _ => h) (fun z => by omega)
  | succ d ih =>
    intro nn i N hi hnn h
    obtain ⟨nn, rfl⟩ : ∃ k, nn = k + 1 := ⟨nn - 1, by omega⟩
    refine pk_le R i (fun z => by omega) (fun _ => ⟨ig_A g + 1, xc_33 F (ig_A g) (ig_A g + 1) 0 N (Nat.zero_add _) (Nat.lt_succ_self _) ?_⟩)
    exact ih nn (i + 1) _ (by omega) (by omega) h
/-- bits that are put back to false one by one -/
theorem cp_clr {b i : Nat} {N : Nat → Bool} (h : ∀ j, j < i ∨ b ≤ j → N j = false) (hi : i ≤ b) : ∀ j, j < i + 1 ∨ b ≤ j → ip_u N i false j = false := by
  intro j hj
  by_cases e : j = i
  · rw [e]; exact ip_us
  · rw [ip_un e]; exact h j (by omega)
theorem xc_mark {post : St2 → Prop} (F : xk_F g t n R) (hN : ∀ j, 8 ≤ j → N j = false) (h : post (nI R, nI cp, fz, nI (ig_A g), nI n, rc, oR, oN, ip_e (ig_O g), ip_e (ig_C g), ip_eb (ig_B g), ip_e (ig_L g), ip_e (ig_H g), ip_e (ig_M g), ip_eb (cp_r g R (fun _ => false)), od, ro, ip_e t, mE, mR, mA, tR, tS, tE, tP, wI, wP)) : wpX_markNullableRules post (nI R, nI cp, fz, nI (ig_A g), nI n, rc, oR, oN, ip_e (ig_O g), ip_e (ig_C g), ip_eb (ig_B g), ip_e (ig_L g), ip_e (ig_H g), ip_e (ig_M g), ip_eb N, od, ro, ip_e t, mE, mR, mA, tR, tS, tE, tP, wI, wP) := by
  have key : ∀ (d nn i : Nat) (N : Nat → Bool), i + d = 8 → d < nn → (∀ j, j < i ∨ 8 ≤ j → N j = false) → wX_markNullableRules_2 post (nI R) (nI cp) fz (nI (ig_A g)) (nI n) rc oR oN nn (nI i) (ip_e (ig_O g)) (ip_e (ig_C g)) (ip_eb (ig_B g)) (ip_e (ig_L g)) (ip_e (ig_H g)) (ip_e (ig_M g)) (ip_eb N) od ro (ip_e t) mE mR mA tR tS tE tP wI wP := by
    intro d
    induction d with
    | zero =>
      intro nn i N hi hnn hc
      obtain ⟨nn, rfl⟩ : ∃ k, nn = k + 1 := ⟨nn - 1, by omega⟩
      have e : N = fun _ => false := funext fun j => hc j (by omega)
      subst e
      exact pk_le 8 i (fun _ => ⟨R + 1, xc_23 F R (R + 1) 0 _ (Nat.zero_add _) (Nat.lt_succ_self _) h⟩) (fun z => by omega)
    | succ d ih =>
      intro nn i N hi hnn hc
      obtain ⟨nn, rfl⟩ : ∃ k, nn = k + 1 := ⟨nn - 1, by omega⟩
      refine pk_le 8 i (fun z => by omega) (fun _ => ⟨vp_in_nI (by omega) (by decide), nm_r (e' := ip_eb (ip_u N i false)) ?_ (nm_r (nI_1 i) ?_)⟩)
      · rw [nI_clamp (by omega)]; exact ip_ueb N i false
      · exact ih nn (i + 1) _ (by omega) (by omega) (cp_clr hc (by omega))
  exact ⟨9, key 8 9 0 N (by omega) (by omega) (fun j hj => hN j (by omega))⟩
theorem xc_bad {post : Int32 → Prop} (F : xk_F g t n R) (h1 : ¬ ig_Nb g N → post 1) (h0 : ig_Nb g N → post 0) : wpX_hasBadRepeat post (nI R, nI cp, fz, nI (ig_A g), nI n, rc, oR, oN, ip_e (ig_O g), ip_e (ig_C g), ip_eb (ig_B g), ip_e (ig_L g), ip_e (ig_H g), ip_e (ig_M g), ip_eb N, od, ro, ip_e t, mE, mR, mA, tR, tS, tE, tP, wI, wP) := by
  have hR8 := F.2.1
  have h16 := F.2.2.1.1
  have inner : ∀ (a : Nat) (J : Int32 → Prop), a < ig_A g → ∀ (k nn i : Nat), i + k = ig_C g a → k < nn → ((∃ j, j < k ∧ cp_bad g N (4 * a + i + j)) → post 1) → ((¬ ∃ j, j < k ∧ cp_bad g N (4 * a + i + j)) → J (nI (a + 1))) →
      wX_hasBadRepeat_12 post J (nI a) (nI R) (nI cp) fz (nI (ig_A g)) (nI n) rc oR oN (ip_e (ig_O g)) (ip_e (ig_C g)) (ip_eb (ig_B g)) (ip_e (ig_L g)) (ip_e (ig_H g)) (ip_e (ig_M g)) (ip_eb N) od ro (ip_e t) mE mR mA tR tS tE tP wI wP nn (nI i) := by
    intro a J ha k
    have hC := (F.2.2.1.2 a).2.1
    induction k with
    | zero =>
      intro nn i hi hnn p1 p0
      obtain ⟨nn, rfl⟩ : ∃ k, nn = k + 1 := ⟨nn - 1, by omega⟩
      exact ⟨vp_in_nI (by omega) (by decide), pk_le (ig_C g a) i (fun _ => nm_r (nI_1 a) (p0 (fun z => by obtain ⟨j, hj, _⟩ := z; omega))) (fun z => by omega) (ip_ce _ (by omega))⟩
    | succ k ih =>
      intro nn i hi hnn p1 p0
      obtain ⟨nn, rfl⟩ : ∃ k, nn = k + 1 := ⟨nn - 1, by omega⟩
      have hit : 4 * a + i < 64 := by omega
      have c1 : 4 * a + i < 2 ^ 31 := by omega
      have hv : vp_in (nI (4 * a + i)) 64 := vp_in_nI hit (by decide)
      obtain ⟨_, _, hM, hL, _, hB⟩ := F.2.2.1.2 (4 * a + i)
      have sh : ∀ j, 4 * a + (i + 1) + j = 4 * a + i + (j + 1) := fun j => by omega
      have next : ¬ cp_bad g N (4 * a + i) → wX_hasBadRepeat_12 post J (nI a) (nI R) (nI cp) fz (nI (ig_A g)) (nI n) rc oR oN (ip_e (ig_O g)) (ip_e (ig_C g)) (ip_eb (ig_B g)) (ip_e (ig_L g)) (ip_e (ig_H g)) (ip_e (ig_M g)) (ip_eb N) od ro (ip_e t) mE mR mA tR tS tE tP wI wP nn (nI (i + 1)) := fun hb => by
        refine ih nn (i + 1) (by omega) (by omega) (fun z => p1 ?_) (fun z => p0 (fun w => z ?_))
        · obtain ⟨j, hj, hz⟩ := z
          exact ⟨j + 1, by omega, by rw [← sh]; exact hz⟩
        · obtain ⟨j, hj, hz⟩ := w
          cases j with
          | zero => exact absurd hz hb
          | succ j => exact ⟨j, by omega, by rw [sh]; exact hz⟩
      refine ⟨vp_in_nI (by omega) (by decide), pk_le (ig_C g a) i (fun z => by omega) (fun _ => nm_r (e' := nI (4 * a + i)) (ip_ls a i) (xt_rep F hit (fun rp => br_f (by decide) ⟨hv, ip_br (ip_cb _ c1) (fun b => nm_r (nI_1 i) (next (fun w => ?_))) (fun b => ⟨hv, ?_, ip_br (b := N (ig_L g (4 * a + i))) ?_ (fun b2 => nm_r (nI_1 i) (next (fun w => ?_))) (fun b2 => p1 ⟨0, by omega, rp, b, b2⟩)⟩)⟩) (fun rp => br_t rfl (nm_r (nI_1 i) (next (fun w => rp w.1)))))) (ip_ce _ (by omega))⟩
      · rw [w.2.1] at b; exact absurd b (by decide)
      · rw [ip_ce _ c1]; exact vp_in_nI (by have := hB b; omega) (by decide)
      · rw [ip_ce _ c1]; exact ip_cb N (by omega)
      · rw [w.2.2] at b2; exact absurd b2 (by decide)
  have outer : ∀ (k nn a : Nat), a + k = ig_A g → k < nn → ((∃ b, a ≤ b ∧ b < ig_A g ∧ ∃ i, i < ig_C g b ∧ cp_bad g N (4 * b + i)) → post 1) → ((¬ ∃ b, a ≤ b ∧ b < ig_A g ∧ ∃ i, i < ig_C g b ∧ cp_bad g N (4 * b + i)) → post 0) →
      wX_hasBadRepeat_2 post (nI R) (nI cp) fz (nI (ig_A g)) (nI n) rc oR oN (ip_e (ig_O g)) (ip_e (ig_C g)) (ip_eb (ig_B g)) (ip_e (ig_L g)) (ip_e (ig_H g)) (ip_e (ig_M g)) (ip_eb N) od ro (ip_e t) mE mR mA tR tS tE tP wI wP nn (nI a) := by
    intro k
    induction k with
    | zero =>
      intro nn a ha hnn p1 p0
      obtain ⟨nn, rfl⟩ : ∃ k, nn = k + 1 := ⟨nn - 1, by omega⟩
      exact pk_le (ig_A g) a (fun _ => p0 (fun z => by obtain ⟨b, z1, z2, _⟩ := z; omega)) (fun z => by omega)
    | succ k ih =>
      intro nn a ha hnn p1 p0
      obtain ⟨nn, rfl⟩ : ∃ k, nn = k + 1 := ⟨nn - 1, by omega⟩
      refine pk_le (ig_A g) a (fun z => by omega) (fun _ => ⟨ig_C g a + 1, inner a _ (by omega) (ig_C g a) _ 0 (Nat.zero_add _) (Nat.lt_succ_self _) (fun z => p1 ?_) (fun z => ih nn (a + 1) (by omega) (by omega) (fun w => p1 ?_) (fun w => p0 (fun y => ?_)))⟩)
      · obtain ⟨j, hj, hz⟩ := z
        exact ⟨a, Nat.le_refl a, by omega, j, hj, hz⟩
      · obtain ⟨b, y1, y2, y3⟩ := w
        exact ⟨b, by omega, y2, y3⟩
      · obtain ⟨b, y1, y2, j, y3, y4⟩ := y
        rcases Nat.eq_or_lt_of_le y1 with e | e
        · subst e
          exact z ⟨j, y3, y4⟩
        · exact w ⟨b, by omega, y2, j, y3, y4⟩
  refine ⟨ig_A g + 1, outer _ _ 0 (Nat.zero_add _) (Nat.lt_succ_self _) (fun z => h1 (fun w => (cp_NbI g N).mp w ?_)) (fun z => h0 ((cp_NbI g N).mpr (fun w => z ?_)))⟩
  · obtain ⟨b, _, y2, y3⟩ := z
    exact ⟨b, y2, y3⟩
  · obtain ⟨b, y2, y3⟩ := w
    exact ⟨b, Nat.zero_le b, y2, y3⟩
theorem xc_altS {post : Int32 → Prop} {a : Nat} (F : xk_F g t n R) (ha : a < 16) (h1 : cp_s g N O (ig_C g a) (4 * a) → post 1) (h0 : ¬ cp_s g N O (ig_C g a) (4 * a) → post 0) : wpX_areAltStartCallsOrdered post (nI R, nI cp, fz, nI (ig_A g), nI n, rc, oR, oN, ip_e (ig_O g), ip_e (ig_C g), ip_eb (ig_B g), ip_e (ig_L g), ip_e (ig_H g), ip_e (ig_M g), ip_eb N, ip_eb O, ro, ip_e t, mE, mR, mA, tR, tS, tE, tP, wI, wP) (nI a) := by
  have hR8 := F.2.1
  have hC := (F.2.2.1.2 a).2.1
  have key : ∀ (k nn i : Nat), i + k = ig_C g a → k < nn → (cp_s g N O k (4 * a + i) → post 1) → (¬ cp_s g N O k (4 * a + i) → post 0) → wX_areAltStartCallsOrdered_2 post (nI a) (nI R) (nI cp) fz (nI (ig_A g)) (nI n) rc oR oN (ip_e (ig_O g)) (ip_e (ig_C g)) (ip_eb (ig_B g)) (ip_e (ig_L g)) (ip_e (ig_H g)) (ip_e (ig_M g)) (ip_eb N) (ip_eb O) ro (ip_e t) mE mR mA tR tS tE tP wI wP nn (nI i) := by
    intro k
    induction k with
    | zero =>
      intro nn i hi hnn p1 p0
      obtain ⟨nn, rfl⟩ : ∃ k, nn = k + 1 := ⟨nn - 1, by omega⟩
      exact ⟨vp_in_nI ha (by decide), pk_le (ig_C g a) i (fun _ => p1 trivial) (fun z => by omega) (ip_ce _ (by omega))⟩
    | succ k ih =>
      intro nn i hi hnn p1 p0
      obtain ⟨nn, rfl⟩ : ∃ k, nn = k + 1 := ⟨nn - 1, by omega⟩
      have hit : 4 * a + i < 64 := by omega
      have c1 : 4 * a + i < 2 ^ 31 := by omega
      have hv : vp_in (nI (4 * a + i)) 64 := vp_in_nI hit (by decide)
      obtain ⟨_, _, hM, hL, _, hB⟩ := F.2.2.1.2 (4 * a + i)
      have next : ¬ (ig_B g (4 * a + i) = true ∧ O (ig_L g (4 * a + i)) = false) → wX_areAltStartCallsOrdered_43 post (wX_areAltStartCallsOrdered_2 post (nI a) (nI R) (nI cp) fz (nI (ig_A g)) (nI n) rc oR oN (ip_e (ig_O g)) (ip_e (ig_C g)) (ip_eb (ig_B g)) (ip_e (ig_L g)) (ip_e (ig_H g)) (ip_e (ig_M g)) (ip_eb N) (ip_eb O) ro (ip_e t) mE mR mA tR tS tE tP wI wP nn) (nI a) (nI i) (nI (4 * a + i)) (nI R) (nI cp) fz (nI (ig_A g)) (nI n) rc oR oN (ip_e (ig_O g)) (ip_e (ig_C g)) (ip_eb (ig_B g)) (ip_e (ig_L g)) (ip_e (ig_H g)) (ip_e (ig_M g)) (ip_eb N) (ip_eb O) ro (ip_e t) mE mR mA tR tS tE tP wI wP := fun hb => by
        unfold wX_areAltStartCallsOrdered_43
        refine xc_item F hit (ip_br rfl (fun b => p1 ⟨hb, fun w => absurd w ((ig_nbF g N _).mp b)⟩) (fun b => nm_r (nI_1 i) (ih nn (i + 1) (by omega) (by omega) (fun z => p1 ⟨hb, fun _ => z⟩) (fun z => p0 (fun w => z (w.2 ((ig_nbI g N _).mp b)))))))
      refine ⟨vp_in_nI ha (by decide), pk_le (ig_C g a) i (fun z => by omega) (fun _ => nm_r (e' := nI (4 * a + i)) (ip_ls a i) ⟨hv, ip_br (ip_cb _ c1) (fun b => next (fun w => ?_)) (fun b => ⟨hv, ?_, ip_br (b := O (ig_L g (4 * a + i))) ?_ (fun b2 => p0 (fun w => w.1 ⟨b, b2⟩)) (fun b2 => next (fun w => ?_))⟩)⟩) (ip_ce _ (by omega))⟩
      · rw [w.1] at b; exact absurd b (by decide)
      · rw [ip_ce _ c1]; exact vp_in_nI (by have := hB b; omega) (by decide)
      · rw [ip_ce _ c1]; exact ip_cb O (by omega)
      · rw [w.2] at b2; exact absurd b2 (by decide)
  exact ⟨ig_C g a + 1, key _ _ 0 (Nat.zero_add _) (Nat.lt_succ_self _) h1 h0⟩
theorem xc_start {post : Int32 → Prop} {r : Nat} (F : xk_F g t n R) (hr : r < R) (h1 : (∀ s, ig_S g N r s → O s = true) → post 1) (h0 : ¬ (∀ s, ig_S g N r s → O s = true) → post 0) : wpX_areStartCallsOrdered post (nI R, nI cp, fz, nI (ig_A g), nI n, rc, oR, oN, ip_e (ig_O g), ip_e (ig_C g), ip_eb (ig_B g), ip_e (ig_L g), ip_e (ig_H g), ip_e (ig_M g), ip_eb N, ip_eb O, ro, ip_e t, mE, mR, mA, tR, tS, tE, tP, wI, wP) (nI r) := by
  have hR8 := F.2.1
  have h16 := F.2.2.1.1
  rw [← cp_sS] at h1 h0
  have key : ∀ (k nn a : Nat), a + k = ig_A g → k < nn → ((∀ b, a ≤ b → b < ig_A g → ig_O g b = r → cp_s g N O (ig_C g b) (4 * b)) → post 1) → (¬ (∀ b, a ≤ b → b < ig_A g → ig_O g b = r → cp_s g N O (ig_C g b) (4 * b)) → post 0) → wX_areStartCallsOrdered_2 post (nI r) (nI R) (nI cp) fz (nI (ig_A g)) (nI n) rc oR oN (ip_e (ig_O g)) (ip_e (ig_C g)) (ip_eb (ig_B g)) (ip_e (ig_L g)) (ip_e (ig_H g)) (ip_e (ig_M g)) (ip_eb N) (ip_eb O) ro (ip_e t) mE mR mA tR tS tE tP wI wP nn (nI a) := by
    intro k
    induction k with
    | zero =>
      intro nn a ha hnn p1 p0
      obtain ⟨nn, rfl⟩ : ∃ k, nn = k + 1 := ⟨nn - 1, by omega⟩
      exact pk_le (ig_A g) a (fun _ => p1 (fun b y1 y2 => by omega)) (fun z => by omega)
    | succ k ih =>
      intro nn a ha hnn p1 p0
      obtain ⟨nn, rfl⟩ : ∃ k, nn = k + 1 := ⟨nn - 1, by omega⟩
      have hO := (F.2.2.1.2 a).1
      have next : (ig_O g a = r → cp_s g N O (ig_C g a) (4 * a)) → wX_areStartCallsOrdered_2 post (nI r) (nI R) (nI cp) fz (nI (ig_A g)) (nI n) rc oR oN (ip_e (ig_O g)) (ip_e (ig_C g)) (ip_eb (ig_B g)) (ip_e (ig_L g)) (ip_e (ig_H g)) (ip_e (ig_M g)) (ip_eb N) (ip_eb O) ro (ip_e t) mE mR mA tR tS tE tP wI wP nn (nI (a + 1)) := fun hs => by
        refine ih nn (a + 1) (by omega) (by omega) (fun z => p1 (fun b y1 y2 y3 => ?_)) (fun z => p0 (fun w => z (fun b y1 y2 y3 => w b (by omega) y2 y3)))
        rcases Nat.eq_or_lt_of_le y1 with e | e
        · subst e; exact hs y3
        · exact z b (by omega) y2 y3
      refine pk_le (ig_A g) a (fun z => by omega) (fun _ => ⟨vp_in_nI (by omega) (by decide), pk_eq (ig_O g a) r (fun ho => ?_) (fun ho => nm_r (nI_1 a) (next (fun z => absurd z ho))) (ip_ce _ (by omega))⟩)
      exact xc_altS F (by omega) (fun hs => br_f (by decide) (nm_r (nI_1 a) (next (fun _ => hs)))) (fun hs => br_t rfl (p0 (fun w => hs (w a (Nat.le_refl a) (by omega) ho))))
  refine ⟨ig_A g + 1, key _ _ 0 (Nat.zero_add _) (Nat.lt_succ_self _) (fun z => h1 (fun b y1 y2 => z b (Nat.zero_le b) y1 y2)) (fun z => h0 (fun w => z (fun b _ y1 y2 => w b y1 y2)))⟩
theorem xc_35 {post : Int32 → St2 → Prop} {J : Int32 → Int32 → ar_T → ar_T → ar_T → ar_T → ar_T → ar_T → ar_T → ar_T → ar_T → ar_T → ar_T → ar_T → ar_T → ar_T → ar_T → ar_T → ar_T → ar_T → ar_T → Prop} {i : Nat} (F : xk_F g t n R) :
    ∀ (k nn r : Nat) (S : (Nat → Bool) × Nat × (Nat → Nat)), r + k = R → k < nn → od_I g N R S → J (nI (od_l g N k r S).2.1) (nI (i + 1)) (ip_e (ig_O g)) (ip_e (ig_C g)) (ip_eb (ig_B g)) (ip_e (ig_L g)) (ip_e (ig_H g)) (ip_e (ig_M g)) (ip_eb N) (ip_eb (od_l g N k r S).1) (ip_e (od_l g N k r S).2.2) (ip_e t) mE mR mA tR tS tE tP wI wP →
    wX_orderRules_35 post J (nI i) (nI R) (nI cp) fz (nI (ig_A g)) (nI n) rc oR oN nn (nI S.2.1) (nI r) (ip_e (ig_O g)) (ip_e (ig_C g)) (ip_eb (ig_B g)) (ip_e (ig_L g)) (ip_e (ig_H g)) (ip_e (ig_M g)) (ip_eb N) (ip_eb S.1) (ip_e S.2.2) (ip_e t) mE mR mA tR tS tE tP wI wP := by
  have hR8 := F.2.1
  intro k
  induction k with
  | zero =>
    intro nn r S hr hnn hI h
    obtain ⟨nn, rfl⟩ : ∃ k, nn = k + 1 := ⟨nn - 1, by omega⟩
    exact pk_le R r (fun _ => nm_r (nI_1 i) h) (fun z => by omega)
  | succ k ih =>
    intro nn r S hr hnn hI h
    obtain ⟨nn, rfl⟩ : ∃ k, nn = k + 1 := ⟨nn - 1, by omega⟩
    have c1 : r < 2 ^ 31 := by omega
    have hv : vp_in (nI r) 8 := vp_in_nI (by omega) (by decide)
    have hI' := od_sI (g := g) (N := N) (R := R) (r := r) (by omega) hI
    have h' : J (nI (od_l g N k (r + 1) (od_s g N r S)).2.1) (nI (i + 1)) (ip_e (ig_O g)) (ip_e (ig_C g)) (ip_eb (ig_B g)) (ip_e (ig_L g)) (ip_e (ig_H g)) (ip_e (ig_M g)) (ip_eb N) (ip_eb (od_l g N k (r + 1) (od_s g N r S)).1) (ip_e (od_l g N k (r + 1) (od_s g N r S)).2.2) (ip_e t) mE mR mA tR tS tE tP wI wP := h
    refine pk_le R r (fun z => by omega) (fun _ => ⟨hv, ip_br (ip_cb _ c1) (fun b => xc_start F (by omega) (fun hs => br_f (by decide) ?_) (fun hs => br_t rfl (nm_r (nI_1 r) ?_))) (fun b => nm_r (nI_1 r) ?_)⟩)
    · rw [od_sT b hs] at h' hI'
      have hp : S.2.1 < 8 := by
        have e1 : S.2.1 + 1 = cp_c (ip_u S.1 r true) R := hI'.1
        have := cp_cle (ip_u S.1 r true) R
        omega
      refine ⟨hv, nm_r (e' := ip_eb (ip_u S.1 r true)) (by rw [nI_clamp c1]; exact ip_ueb _ _ true) ⟨vp_in_nI hp (by decide), nm_r (e' := ip_e (ip_u S.2.2 S.2.1 r)) (by rw [nI_clamp (by omega)]; exact ip_ue _ _ _) (nm_r (nI_1 _) (nm_r (nI_1 r) ?_))⟩⟩
      exact ih nn (r + 1) (ip_u S.1 r true, S.2.1 + 1, ip_u S.2.2 S.2.1 r) (by omega) (by omega) hI' h'
    · rw [od_sF (fun z => hs z.2)] at h' hI'
      exact ih nn (r + 1) S (by omega) (by omega) hI' h'
    · rw [od_sF (fun z => by rw [z.1] at b; exact absurd b (by decide))] at h' hI'
      exact ih nn (r + 1) S (by omega) (by omega) hI' h'
theorem xc_25 {post : Int32 → St2 → Prop} (F : xk_F g t n R) : ∀ (d nn i : Nat) (S : (Nat → Bool) × Nat × (Nat → Nat)), i + d = R → d < nn → od_I g N R S →
    ((od_r g N R d S).2.1 = R → post 1 (nI R, nI cp, fz, nI (ig_A g), nI n, rc, oR, oN, ip_e (ig_O g), ip_e (ig_C g), ip_eb (ig_B g), ip_e (ig_L g), ip_e (ig_H g), ip_e (ig_M g), ip_eb N, ip_eb (od_r g N R d S).1, ip_e (od_r g N R d S).2.2, ip_e t, mE, mR, mA, tR, tS, tE, tP, wI, wP)) → ((od_r g N R d S).2.1 ≠ R → post 0 (nI R, nI cp, fz, nI (ig_A g), nI n, rc, oR, oN, ip_e (ig_O g), ip_e (ig_C g), ip_eb (ig_B g), ip_e (ig_L g), ip_e (ig_H g), ip_e (ig_M g), ip_eb N, ip_eb (od_r g N R d S).1, ip_e (od_r g N R d S).2.2, ip_e t, mE, mR, mA, tR, tS, tE, tP, wI, wP)) →
    wX_orderRules_25 post (nI R) (nI cp) fz (nI (ig_A g)) (nI n) rc oR oN nn (nI S.2.1) (nI i) (ip_e (ig_O g)) (ip_e (ig_C g)) (ip_eb (ig_B g)) (ip_e (ig_L g)) (ip_e (ig_H g)) (ip_e (ig_M g)) (ip_eb N) (ip_eb S.1) (ip_e S.2.2) (ip_e t) mE mR mA tR tS tE tP wI wP := by
  have hR8 := F.2.1
  intro d
  induction d with
  | zero =>
    intro nn i S hi hnn hI h1 h0
    obtain ⟨nn, rfl⟩ : ∃ k, nn = k + 1 := ⟨nn - 1, by omega⟩
    have hp : S.2.1 ≤ R := by rw [hI.1]; exact cp_cle _ _
    exact pk_le R i (fun _ => pk_eq S.2.1 R h1 h0) (fun z => by omega)
  | succ d ih =>
    intro nn i S hi hnn hI h1 h0
    obtain ⟨nn, rfl⟩ : ∃ k, nn = k + 1 := ⟨nn - 1, by omega⟩
    refine pk_le R i (fun z => by omega) (fun _ => ⟨R + 1, xc_35 F R (R + 1) 0 S (Nat.zero_add _) (Nat.lt_succ_self _) hI ?_⟩)
    exact ih nn (i + 1) (od_l g N R 0 S) (by omega) (by omega) (od_lI R 0 S (by omega) hI) h1 h0
theorem xc_order {post : Int32 → St2 → Prop} {rO : Nat → Nat} (F : xk_F g t n R) (hO : ∀ j, 8 ≤ j → O j = false)
    (h1 : (od_r g N R R (fun _ => false, 0, rO)).2.1 = R → post 1 (nI R, nI cp, fz, nI (ig_A g), nI n, rc, oR, oN, ip_e (ig_O g), ip_e (ig_C g), ip_eb (ig_B g), ip_e (ig_L g), ip_e (ig_H g), ip_e (ig_M g), ip_eb N, ip_eb (od_r g N R R (fun _ => false, 0, rO)).1, ip_e (od_r g N R R (fun _ => false, 0, rO)).2.2, ip_e t, mE, mR, mA, tR, tS, tE, tP, wI, wP))
    (h0 : (od_r g N R R (fun _ => false, 0, rO)).2.1 ≠ R → post 0 (nI R, nI cp, fz, nI (ig_A g), nI n, rc, oR, oN, ip_e (ig_O g), ip_e (ig_C g), ip_eb (ig_B g), ip_e (ig_L g), ip_e (ig_H g), ip_e (ig_M g), ip_eb N, ip_eb (od_r g N R R (fun _ => false, 0, rO)).1, ip_e (od_r g N R R (fun _ => false, 0, rO)).2.2, ip_e t, mE, mR, mA, tR, tS, tE, tP, wI, wP)) :
    wpX_orderRules post (nI R, nI cp, fz, nI (ig_A g), nI n, rc, oR, oN, ip_e (ig_O g), ip_e (ig_C g), ip_eb (ig_B g), ip_e (ig_L g), ip_e (ig_H g), ip_e (ig_M g), ip_eb N, ip_eb O, ip_e rO, ip_e t, mE, mR, mA, tR, tS, tE, tP, wI, wP) := by
  have key : ∀ (d nn i : Nat) (O : Nat → Bool), i + d = 8 → d < nn → (∀ j, j < i ∨ 8 ≤ j → O j = false) → wX_orderRules_4 post 0 (nI R) (nI cp) fz (nI (ig_A g)) (nI n) rc oR oN nn (nI i) (ip_e (ig_O g)) (ip_e (ig_C g)) (ip_eb (ig_B g)) (ip_e (ig_L g)) (ip_e (ig_H g)) (ip_e (ig_M g)) (ip_eb N) (ip_eb O) (ip_e rO) (ip_e t) mE mR mA tR tS tE tP wI wP := by
    intro d
    induction d with
    | zero =>
      intro nn i O hi hnn hc
      obtain ⟨nn, rfl⟩ : ∃ k, nn = k + 1 := ⟨nn - 1, by omega⟩
      have e : O = fun _ => false := funext fun j => hc j (by omega)
      subst e
      exact pk_le 8 i (fun _ => ⟨R + 1, xc_25 F R (R + 1) 0 (fun _ => false, 0, rO) (Nat.zero_add _) (Nat.lt_succ_self _) (od_0 g N R rO) h1 h0⟩) (fun z => by omega)
    | succ d ih =>
      intro nn i O hi hnn hc
      obtain ⟨nn, rfl⟩ : ∃ k, nn = k + 1 := ⟨nn - 1, by omega⟩
      refine pk_le 8 i (fun z => by omega) (fun _ => ⟨vp_in_nI (by omega) (by decide), nm_r (e' := ip_eb (ip_u O i false)) ?_ (nm_r (nI_1 i) ?_)⟩)
      · rw [nI_clamp (by omega)]; exact ip_ueb O i false
      · exact ih nn (i + 1) _ (by omega) (by omega) (cp_clr hc (by omega))
  exact ⟨9, key 8 9 0 O (by omega) (by omega) (fun j hj => hO j (by omega))⟩
end
/-- the nullable rules, the order that is found -/
def cp_N (g : ig_T) (R : Nat) : Nat → Bool := cp_r g R (fun _ => false)
noncomputable def cp_O (g : ig_T) (R : Nat) (rO : Nat → Nat) : (Nat → Bool) × Nat × (Nat → Nat) := od_r g (cp_N g R) R R (fun _ => false, 0, rO)
section
variable {g : ig_T} {t : Nat → Nat} {n R cp : Nat} {fz rc oR oN : Int32} {nu od ro mE mR mA tR tS tE tP wI wP : Nat → Int32} {N O : Nat → Bool} {rO : Nat → Nat}
theorem xc_compile {post : Int32 → St2 → Prop} (F : xk_F g t n R) (hN : ∀ j, 8 ≤ j → N j = false) (hO : ∀ j, 8 ≤ j → O j = false)
    (h2 : ¬ ig_Nb g (cp_N g R) → post 2 (nI R, nI cp, 0, nI (ig_A g), nI n, rc, oR, oN, ip_e (ig_O g), ip_e (ig_C g), ip_eb (ig_B g), ip_e (ig_L g), ip_e (ig_H g), ip_e (ig_M g), ip_eb (cp_N g R), ip_eb O, ip_e rO, ip_e t, mE, mR, mA, tR, tS, tE, tP, wI, wP))
    (h3 : ig_Nb g (cp_N g R) → (cp_O g R rO).2.1 ≠ R → post 3 (nI R, nI cp, 0, nI (ig_A g), nI n, rc, oR, oN, ip_e (ig_O g), ip_e (ig_C g), ip_eb (ig_B g), ip_e (ig_L g), ip_e (ig_H g), ip_e (ig_M g), ip_eb (cp_N g R), ip_eb (cp_O g R rO).1, ip_e (cp_O g R rO).2.2, ip_e t, mE, mR, mA, tR, tS, tE, tP, wI, wP))
    (h0 : ig_Nb g (cp_N g R) → (cp_O g R rO).2.1 = R → post 0 (nI R, nI cp, 1, nI (ig_A g), nI n, rc, oR, oN, ip_e (ig_O g), ip_e (ig_C g), ip_eb (ig_B g), ip_e (ig_L g), ip_e (ig_H g), ip_e (ig_M g), ip_eb (cp_N g R), ip_eb (cp_O g R rO).1, ip_e (cp_O g R rO).2.2, ip_e t, mE, mR, mA, tR, tS, tE, tP, wI, wP)) :
    wpX_compile post (nI R, nI cp, 0, nI (ig_A g), nI n, rc, oR, oN, ip_e (ig_O g), ip_e (ig_C g), ip_eb (ig_B g), ip_e (ig_L g), ip_e (ig_H g), ip_e (ig_M g), ip_eb N, ip_eb O, ip_e rO, ip_e t, mE, mR, mA, tR, tS, tE, tP, wI, wP) := by
  refine br_t rfl (xc_mark F hN (xc_bad F (fun z => br_f (by decide) (h2 z)) (fun z => br_t rfl ?_)))
  exact xc_order F hO (fun w => br_f (by decide) (h0 z w)) (fun w => br_t rfl (h3 z w))
end
