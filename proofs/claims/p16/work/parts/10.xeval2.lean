/-! the second print of testEnd and itemEnd -/
section
variable {g : ig_T} {t : Nat → Nat} {n R cp : Nat} {fz rc oR oN : Int32} {nu od ro mE mR mA tR tS tE tP wI wP : Nat → Int32} {T : Nat → Nat → Nat × Nat} {N : Nat → Bool}
theorem xt2_90 {post : Int32 → St2 → Prop} {x y : Nat} {v : Int32} (hx : x ≤ 25) (hy : y ≤ 25) (h : post v (nI R, nI cp, fz, nI (ig_A g), nI n, ip_m (max x y), oR, oN, ip_e (ig_O g), ip_e (ig_C g), ip_eb (ig_B g), ip_e (ig_L g), ip_e (ig_H g), ip_e (ig_M g), nu, od, ro, ip_e t, mE, mR, mA, tR, tS, tE, tP, wI, wP)) : wX_testEnd_2_90 post (ip_m y) v (nI R) (nI cp) fz (nI (ig_A g)) (nI n) (ip_m x) oR oN (ip_e (ig_O g)) (ip_e (ig_C g)) (ip_eb (ig_B g)) (ip_e (ig_L g)) (ip_e (ig_H g)) (ip_e (ig_M g)) nu od ro (ip_e t) mE mR mA tR tS tE tP wI wP := by
  refine ip_mbr (by omega) (by omega) (fun z => ?_) (fun z => ?_)
  · rw [Nat.max_eq_left z] at h; exact h
  · rw [Nat.max_eq_right (by omega)] at h; exact h
theorem xt2_test {post : Int32 → St2 → Prop} {it q x : Nat} (F : xk_F g t n R) (hit : it < 64) (hq : q ≤ n) (hx : x ≤ 25) (hm : ig_B g it = true → xk_Q N n T mE mR (ig_L g it) q)
    (h : post (ip_m (pu_T g t n T it q).1) (nI R, nI cp, fz, nI (ig_A g), nI n, ip_m (max x (pu_T g t n T it q).2), oR, oN, ip_e (ig_O g), ip_e (ig_C g), ip_eb (ig_B g), ip_e (ig_L g), ip_e (ig_H g), ip_e (ig_M g), nu, od, ro, ip_e t, mE, mR, mA, tR, tS, tE, tP, wI, wP)) : wpX_testEnd_2 post (nI R, nI cp, fz, nI (ig_A g), nI n, ip_m x, oR, oN, ip_e (ig_O g), ip_e (ig_C g), ip_eb (ig_B g), ip_e (ig_L g), ip_e (ig_H g), ip_e (ig_M g), nu, od, ro, ip_e t, mE, mR, mA, tR, tS, tE, tP, wI, wP) (nI it) (nI q) := by
  obtain ⟨hn, hR, hV, ht⟩ := F
  have hi : vp_in (nI it) 64 := vp_in_nI hit (by decide)
  have c1 : it < 2 ^ 31 := by omega
  have c2 : q < 2 ^ 31 := by omega
  obtain ⟨_, _, _, hL, hH, hB⟩ := hV.2 it
  refine ⟨hi, ip_br (ip_cb _ c1) (fun b => ?_) (fun b => ?_)⟩
  · have b' : ¬ ig_B g it = true := by rw [b]; decide
    rw [pu_Tc b'] at h
    have hq' := ht q
    refine pk_le n q (fun z => ?_) (fun z => ⟨vp_in_nI (by omega) (by decide), hi, pk_lt (t q) (ig_L g it) (fun z2 => ?_) (fun z2 => ⟨vp_in_nI (by omega) (by decide), hi, pk_lt (ig_H g it) (t q) (fun z3 => ?_) (fun z3 => ?_) (ip_ce _ c1) (ip_ce _ c2)⟩) (ip_ce _ c2) (ip_ce _ c1)⟩)
    · rw [if_neg (by omega)] at h
      exact xt2_90 (y := q + 1) (by omega) (by omega) h
    · rw [if_neg (by omega)] at h
      exact xt2_90 (y := q + 1) (by omega) (by omega) h
    · rw [if_neg (by omega)] at h
      exact xt2_90 (y := q + 1) (by omega) (by omega) h
    · rw [if_pos (by omega)] at h
      exact nm_r (nI_1 q) (xt2_90 (y := q + 1) (by omega) (by omega) h)
  · obtain ⟨m1, m2, m3⟩ := hm b
    have hs := hB b
    have c3 : ig_L g it * 25 + q < 200 := by omega
    have hi3 : vp_in (nI (ig_L g it * 25 + q)) 200 := vp_in_nI c3 (by decide)
    rw [pu_Tr b] at h
    refine ⟨hi, nm_r (e' := nI (ig_L g it * 25 + q)) (by rw [ip_ce _ c1]; exact ip_l25 _ _) ⟨hi3, nm_r (e' := ip_m (T (ig_L g it) q).2) ((ip_c mR (by omega)).trans m2) ⟨hi3, nm_r (e' := ip_m (T (ig_L g it) q).1) ((ip_c mE (by omega)).trans m1) ?_⟩⟩⟩
    exact xt2_90 (by omega) (by have := m3.1; omega) h
theorem xt2_129 {post : Int32 → St2 → Prop} {c e : Nat} (hc : c < 2 ^ 31) (h : post (ip_m (if 0 < c then e + 1 else 0)) (nI R, nI cp, fz, nI (ig_A g), nI n, rc, oR, oN, ip_e (ig_O g), ip_e (ig_C g), ip_eb (ig_B g), ip_e (ig_L g), ip_e (ig_H g), ip_e (ig_M g), nu, od, ro, ip_e t, mE, mR, mA, tR, tS, tE, tP, wI, wP)) : wX_itemEnd_2_129 post (nI c) (nI e) (nI R) (nI cp) fz (nI (ig_A g)) (nI n) rc oR oN (ip_e (ig_O g)) (ip_e (ig_C g)) (ip_eb (ig_B g)) (ip_e (ig_L g)) (ip_e (ig_H g)) (ip_e (ig_M g)) nu od ro (ip_e t) mE mR mA tR tS tE tP wI wP := by
  refine pk_le c 0 (fun z => ?_) (fun z => ?_)
  · rw [if_neg (by omega)] at h; exact h
  · rw [if_pos z] at h; exact h
theorem xt2_65 {post : Int32 → St2 → Prop} {it q c e y : Nat} (F : xk_F g t n R) (hit : it < 64) (hc : c < 2 ^ 31) (h : post (ip_m (pu_e (ig_M g it) q (c, e, y))) (nI R, nI cp, fz, nI (ig_A g), nI n, rc, oR, oN, ip_e (ig_O g), ip_e (ig_C g), ip_eb (ig_B g), ip_e (ig_L g), ip_e (ig_H g), ip_e (ig_M g), nu, od, ro, ip_e t, mE, mR, mA, tR, tS, tE, tP, wI, wP)) : wX_itemEnd_2_65 post (nI it) (nI q) (nI c) (nI e) (nI R) (nI cp) fz (nI (ig_A g)) (nI n) rc oR oN (ip_e (ig_O g)) (ip_e (ig_C g)) (ip_eb (ig_B g)) (ip_e (ig_L g)) (ip_e (ig_H g)) (ip_e (ig_M g)) nu od ro (ip_e t) mE mR mA tR tS tE tP wI wP := by
  have hM := (F.2.2.1.2 it).2.2.1
  refine ⟨vp_in_nI hit (by decide), nm_r (ip_ce _ (by omega)) ?_⟩
  generalize ig_M g it = m at h hM ⊢
  unfold pu_e at h
  dsimp only at h
  refine pk_lt m 1 (fun z => ?_) (fun z => pk_lt 5 m (fun z2 => by omega) (fun z2 => pk_eq m 1 (fun z3 => ?_) (fun z3 => pk_eq m 2 (fun z4 => ?_) (fun z4 => pk_eq m 3 (fun z5 => ?_) (fun z5 => pk_eq m 4 (fun z6 => pk_le c 0 (fun z7 => ?_) (fun z7 => ?_)) (fun z6 => pk_eq m 5 (fun z7 => pk_le c 0 (fun z8 => ?_) (fun z8 => ?_)) (fun z7 => trivial))))))) 
  · rw [if_neg (by omega), if_neg (by omega), if_neg (by omega)] at h; exact xt2_129 hc h
  · rw [if_pos (by omega)] at h; exact h
  · rw [if_pos (by omega)] at h; exact h
  · rw [if_neg (by omega), if_neg (by omega), if_neg (by omega)] at h; exact xt2_129 hc h
  · rw [if_neg (by omega), if_pos (by omega), if_neg (by omega)] at h; exact h
  · rw [if_neg (by omega), if_pos (by omega), if_pos (by omega)] at h; exact h
  · rw [if_neg (by omega), if_neg (by omega), if_pos (by omega), if_neg (by omega)] at h; exact h
  · rw [if_neg (by omega), if_neg (by omega), if_pos (by omega), if_pos (by omega)] at h; exact h
/-- the run of tests of an item -/
theorem xt2_28 {post : Int32 → St2 → Prop} {it q0 m : Nat} (F : xk_F g t n R) (hit : it < 64) (hm : m ≤ 25) : ∀ (f nn c q x i : Nat), i + f = m → f < nn → c ≤ i → q ≤ n → x ≤ 25 →
    (ig_B g it = true → xk_Q N n T mE mR (ig_L g it) q) →
    (f ≤ 1 ∨ ((ig_B g it = true → N (ig_L g it) = false) ∧ ∀ q', q < q' → q' ≤ n → ig_B g it = true → xk_Q N n T mE mR (ig_L g it) q')) →
    (post (ip_m (pu_e (ig_M g it) q0 (c + (pu_R g t n T it f q).1, (pu_R g t n T it f q).2.1, 0))) (nI R, nI cp, fz, nI (ig_A g), nI n, ip_m (max x (pu_R g t n T it f q).2.2), oR, oN, ip_e (ig_O g), ip_e (ig_C g), ip_eb (ig_B g), ip_e (ig_L g), ip_e (ig_H g), ip_e (ig_M g), nu, od, ro, ip_e t, mE, mR, mA, tR, tS, tE, tP, wI, wP)) →
    wX_itemEnd_2_28 post (nI it) (nI q0) (nI m) nn (nI c) (nI q) (nI i) (nI R) (nI cp) fz (nI (ig_A g)) (nI n) (ip_m x) oR oN (ip_e (ig_O g)) (ip_e (ig_C g)) (ip_eb (ig_B g)) (ip_e (ig_L g)) (ip_e (ig_H g)) (ip_e (ig_M g)) nu od ro (ip_e t) mE mR mA tR tS tE tP wI wP := by
  intro f
  induction f with
  | zero =>
    intro nn c q x i hi hnn hc hq hx hA hB h
    obtain ⟨nn, rfl⟩ : ∃ k, nn = k + 1 := ⟨nn - 1, by omega⟩
    refine pk_le m i (fun _ => ?_) (fun z => by omega)
    have h' : post (ip_m (pu_e (ig_M g it) q0 (c, q, 0))) (nI R, nI cp, fz, nI (ig_A g), nI n, ip_m (max x 0), oR, oN, ip_e (ig_O g), ip_e (ig_C g), ip_eb (ig_B g), ip_e (ig_L g), ip_e (ig_H g), ip_e (ig_M g), nu, od, ro, ip_e t, mE, mR, mA, tR, tS, tE, tP, wI, wP) := h
    rw [Nat.max_zero] at h'
    exact xt2_65 F hit (by omega) h'
  | succ f ih =>
    intro nn c q x i hi hnn hc hq hx hA hB h
    obtain ⟨nn, rfl⟩ : ∃ k, nn = k + 1 := ⟨nn - 1, by omega⟩
    have hn := F.1
    obtain ⟨s1, s2⟩ := pu_Ts (t := t) (N := N) hq fun b => (hA b).2.2
    refine pk_le m i (fun z => by omega) (fun _ => xt2_test F hit hq hx hA ?_)
    cases hz : (pu_T g t n T it q).1 with
    | zero =>
      rw [pu_R0 hz] at h
      refine br_t rfl ?_
      exact xt2_65 F hit (by omega) h
    | succ e =>
      obtain ⟨h1, h2, h3⟩ := s2 e hz
      rw [pu_Rs hz] at h
      refine ip_m1br (y := e + 1) rfl (by omega) (fun z => by omega) (fun _ => nm_r (nI_1 c) (nm_r (nI_1 i) ?_))
      have h' : post (ip_m (pu_e (ig_M g it) q0 (c + 1 + (pu_R g t n T it f e).1, (pu_R g t n T it f e).2.1, 0))) (nI R, nI cp, fz, nI (ig_A g), nI n, ip_m (max (max x (pu_T g t n T it q).2) (pu_R g t n T it f e).2.2), oR, oN, ip_e (ig_O g), ip_e (ig_C g), ip_eb (ig_B g), ip_e (ig_L g), ip_e (ig_H g), ip_e (ig_M g), nu, od, ro, ip_e t, mE, mR, mA, tR, tS, tE, tP, wI, wP) := by
        rw [Nat.max_assoc, show c + 1 + (pu_R g t n T it f e).1 = c + ((pu_R g t n T it f e).1 + 1) by omega]
        exact h
      rcases hB with hB | ⟨hB1, hB2⟩
      · obtain rfl : f = 0 := by omega
        obtain ⟨nn, rfl⟩ : ∃ k, nn = k + 1 := ⟨nn - 1, by omega⟩
        refine pk_le m (i + 1) (fun _ => ?_) (fun z => by omega)
        have h'' : post (ip_m (pu_e (ig_M g it) q0 (c + 1, e, 0))) (nI R, nI cp, fz, nI (ig_A g), nI n, ip_m (max (max x (pu_T g t n T it q).2) 0), oR, oN, ip_e (ig_O g), ip_e (ig_C g), ip_eb (ig_B g), ip_e (ig_L g), ip_e (ig_H g), ip_e (ig_M g), nu, od, ro, ip_e t, mE, mR, mA, tR, tS, tE, tP, wI, wP) := h'
        rw [Nat.max_zero] at h''
        exact xt2_65 F hit (by omega) h''
      · have hlt : q < e := by
          rcases Nat.lt_or_ge q e with z | z
          · exact z
          · obtain ⟨b, c⟩ := h3 (by omega)
            rw [hB1 b] at c
            exact absurd c (by decide)
        exact ih nn (c + 1) e (max x (pu_T g t n T it q).2) (i + 1) (by omega) (by omega) (by omega) h2 (by omega) (fun b => hB2 e hlt h2 b) (Or.inr ⟨hB1, fun q' z1 z2 b => hB2 q' (by omega) z2 b⟩) h'
/-- an item -/
theorem xt2_item {post : Int32 → St2 → Prop} {it q x : Nat} (F : xk_F g t n R) (hit : it < 64) (hq : q ≤ n) (hx : x ≤ 25) (hn : ig_it g N it)
    (hA : ig_B g it = true → xk_Q N n T mE mR (ig_L g it) q) (hB : ∀ q', q < q' → q' ≤ n → ig_B g it = true → xk_Q N n T mE mR (ig_L g it) q')
    (h : post (ip_m (pu_I g t n T it q).1) (nI R, nI cp, fz, nI (ig_A g), nI n, ip_m (max x (pu_I g t n T it q).2), oR, oN, ip_e (ig_O g), ip_e (ig_C g), ip_eb (ig_B g), ip_e (ig_L g), ip_e (ig_H g), ip_e (ig_M g), nu, od, ro, ip_e t, mE, mR, mA, tR, tS, tE, tP, wI, wP)) : wpX_itemEnd_2 post (nI R, nI cp, fz, nI (ig_A g), nI n, ip_m x, oR, oN, ip_e (ig_O g), ip_e (ig_C g), ip_eb (ig_B g), ip_e (ig_L g), ip_e (ig_H g), ip_e (ig_M g), nu, od, ro, ip_e t, mE, mR, mA, tR, tS, tE, tP, wI, wP) (nI it) (nI q) := by
  have hn24 := F.1
  have h' : ∀ f, pu_f g n it = f → post (ip_m (pu_e (ig_M g it) q (0 + (pu_R g t n T it f q).1, (pu_R g t n T it f q).2.1, 0))) (nI R, nI cp, fz, nI (ig_A g), nI n, ip_m (max x (pu_R g t n T it f q).2.2), oR, oN, ip_e (ig_O g), ip_e (ig_C g), ip_eb (ig_B g), ip_e (ig_L g), ip_e (ig_H g), ip_e (ig_M g), nu, od, ro, ip_e t, mE, mR, mA, tR, tS, tE, tP, wI, wP) := by
    intro f hf
    have h2 : post (ip_m (pu_e (ig_M g it) q (pu_R g t n T it (pu_f g n it) q))) (nI R, nI cp, fz, nI (ig_A g), nI n, ip_m (max x (pu_R g t n T it (pu_f g n it) q).2.2), oR, oN, ip_e (ig_O g), ip_e (ig_C g), ip_eb (ig_B g), ip_e (ig_L g), ip_e (ig_H g), ip_e (ig_M g), nu, od, ro, ip_e t, mE, mR, mA, tR, tS, tE, tP, wI, wP) := h
    rw [hf] at h2
    rw [Nat.zero_add]
    exact h2
  unfold wpX_itemEnd_2
  dsimp only
  refine xt_rep F hit (fun r => br_f (by decide) ?_) (fun r => br_t rfl ?_)
  · refine nm_r (nI_1 n) ⟨n + 2, ?_⟩
    exact xt2_28 (m := n + 1) F hit (by omega) (n + 1) (n + 2) 0 q x 0 (by omega) (by omega) (by omega) hq hx hA (Or.inr ⟨hn r, hB⟩) (h' (n + 1) (tk_fr r))
  · refine ⟨2, ?_⟩
    exact xt2_28 (m := 1) F hit (by decide) 1 2 0 q x 0 (by omega) (by omega) (by omega) hq hx hA (Or.inl (Nat.le_refl 1)) (h' 1 (tk_fn r))
end
