/-! the reference's tests, items, alternatives, rules -/
def yk_G (g : ig_T) (kd kA kB : ar_T) : Prop := ∀ j, (ig_B g j = true → kd j = 3 ∧ kA j = nI (ig_L g j)) ∧
  (ig_B g j = false → (kd j = 2 ∧ ig_L g j = 0 ∧ ig_H g j = 65535) ∨ (kd j = 0 ∧ kA j = nI (ig_L g j) ∧ ig_H g j = ig_L g j) ∨ (kd j = 1 ∧ kA j = nI (ig_L g j) ∧ kB j = nI (ig_H g j)))
def yk_Q (T : Nat → Nat → Nat × Nat) (re ex : ar_T) (s q : Nat) : Prop := re (s * 25 + q) = ip_m (T s q).1 ∧ ex (s * 25 + q) = ip_m (T s q).2
def yk_A (R n : Nat) (T : Nat → Nat → Nat × Nat) (re ex : ar_T) : Prop := ∀ s q, s < R → q ≤ n → yk_Q T re ex s q
section
variable {g : ig_T} {t : Nat → Nat} {n R cp : Nat} {fz oR oN e1 e2 e3 e4 sp cc : Int32} {kd kA kB tR tS tE tP re ex nu ed rm sR sS sE sP cR cS cE : Nat → Int32} {T : Nat → Nat → Nat × Nat} {N : Nat → Bool}
theorem yt_131 {post : Int32 → SY → Prop} {q : Nat} (h : post (nI (q + 1)) (nI R, nI cp, fz, nI (ig_A g), nI n, oR, oN, e1, e2, e3, e4, sp, cc, ip_e (ig_O g), ip_e (ig_C g), kd, kA, kB, ip_e (ig_M g), ip_e t, tR, tS, tE, tP, re, ex, nu, ed, rm, sR, sS, sE, sP, cR, cS, cE)) : wY_test_131 post (nI q) (nI R) (nI cp) fz (nI (ig_A g)) (nI n) oR oN e1 e2 e3 e4 sp cc (ip_e (ig_O g)) (ip_e (ig_C g)) kd kA kB (ip_e (ig_M g)) (ip_e t) tR tS tE tP re ex nu ed rm sR sS sE sP cR cS cE := by
  refine br_f (by decide) ?_
  rw [nI_1]
  exact h
theorem yt_135 {post : Int32 → SY → Prop} {q : Nat} (h : post (-1) (nI R, nI cp, fz, nI (ig_A g), nI n, oR, oN, e1, e2, e3, e4, sp, cc, ip_e (ig_O g), ip_e (ig_C g), kd, kA, kB, ip_e (ig_M g), ip_e t, tR, tS, tE, tP, re, ex, nu, ed, rm, sR, sS, sE, sP, cR, cS, cE)) : wY_test_135 post (nI q) (nI R) (nI cp) fz (nI (ig_A g)) (nI n) oR oN e1 e2 e3 e4 sp cc (ip_e (ig_O g)) (ip_e (ig_C g)) kd kA kB (ip_e (ig_M g)) (ip_e t) tR tS tE tP re ex nu ed rm sR sS sE sP cR cS cE := br_t rfl h
theorem yt_test {post : Int32 → SY → Prop} {it q : Nat} (F : xk_F g t n R) (hg : yk_G g kd kA kB) (hit : it < 64) (hq : q ≤ n) (hm : yk_A R n T re ex)
    (h : post (ip_m (pu_T g t n T it q).1) (nI R, nI cp, fz, nI (ig_A g), nI n, oR, oN, ip_m (pu_T g t n T it q).2, e2, e3, e4, sp, cc, ip_e (ig_O g), ip_e (ig_C g), kd, kA, kB, ip_e (ig_M g), ip_e t, tR, tS, tE, tP, re, ex, nu, ed, rm, sR, sS, sE, sP, cR, cS, cE)) : wpY_test post (nI R, nI cp, fz, nI (ig_A g), nI n, oR, oN, e1, e2, e3, e4, sp, cc, ip_e (ig_O g), ip_e (ig_C g), kd, kA, kB, ip_e (ig_M g), ip_e t, tR, tS, tE, tP, re, ex, nu, ed, rm, sR, sS, sE, sP, cR, cS, cE) (nI it) (nI q) := by
  obtain ⟨hn, hR, hV, ht⟩ := F
  have hi : vp_in (nI it) 64 := vp_in_nI hit (by decide)
  have c1 : it < 2 ^ 31 := by omega
  have c2 : q < 2 ^ 31 := by omega
  obtain ⟨_, _, _, hL, hH, hB⟩ := hV.2 it
  obtain ⟨g1, g2⟩ := hg it
  refine br_f (nI_pos c2) (pk_le q 24 (fun _ => ⟨hi, nm_r (ip_c kd c1) ?_⟩) (fun z => by omega))
  by_cases b : ig_B g it = true
  · obtain ⟨k1, k2⟩ := g1 b
    have hs := hB b
    have c3 : ig_L g it * 25 + q < 200 := by omega
    have hi3 : vp_in (nI (ig_L g it * 25 + q)) 200 := vp_in_nI c3 (by decide)
    have ec : (nI (ig_L g it * 25 + q)).toNatClampNeg = ig_L g it * 25 + q := nI_clamp (by omega)
    obtain ⟨m1, m2⟩ := hm _ q hs hq
    rw [pu_Tr b] at h
    refine br_t k1 ⟨hi, nm_r (e' := nI (ig_L g it * 25 + q)) (by rw [ip_c kA c1, k2]; exact ip_l25 _ _) ⟨hi3, nm_r (e' := ip_m (T (ig_L g it) q).2) (by rw [ec]; exact m2) ⟨hi3, ?_⟩⟩⟩
    rw [ec, m1]
    exact h
  · rw [pu_Tc b] at h
    have hq' := ht q
    have b' : ig_B g it = false := by cases hb : ig_B g it with | true => exact absurd hb b | false => rfl
    have k3 : ¬ kd it = 3 := by
      rcases g2 b' with ⟨k, _⟩ | ⟨k, _⟩ | ⟨k, _⟩ <;> rw [k] <;> decide
    refine br_f k3 (pk_lt q n (fun z => ⟨vp_in_nI (by omega) (by decide), nm_r (ip_ce t c2) ?_⟩) (fun z => ?_))
    · rcases g2 b' with ⟨k1, k2, k4⟩ | ⟨k1, k2, k4⟩ | ⟨k1, k2, k4⟩
      · rw [if_pos (by omega)] at h
        exact br_t k1 (yt_131 h)
      · refine br_f (by rw [k1]; decide) (br_t k1 ⟨hi, pk_eq (t q) (ig_L g it) (fun z2 => ?_) (fun z2 => ?_) rfl ((ip_c kA c1).trans k2)⟩)
        · rw [if_pos (by omega)] at h
          exact yt_131 h
        · rw [if_neg (by omega)] at h
          exact br_f (by rw [k1]; decide) (yt_135 h)
      · refine br_f (by rw [k1]; decide) (br_f (by rw [k1]; decide) (br_t k1 ⟨hi, pk_lt (t q) (ig_L g it) (fun z2 => ?_) (fun z2 => ⟨hi, pk_lt (ig_H g it) (t q) (fun z3 => ?_) (fun z3 => ?_) ((ip_c kB c1).trans k4) rfl⟩) rfl ((ip_c kA c1).trans k2)⟩))
        · rw [if_neg (by omega)] at h
          exact yt_135 h
        · rw [if_neg (by omega)] at h
          exact yt_135 h
        · rw [if_pos (by omega)] at h
          exact yt_131 h
    · rw [if_neg (by omega)] at h
      exact h
theorem yt_81 {post : Int32 → SY → Prop} {m q c e x : Nat} (hm : m = 2 ∨ m = 3) (hc : c < 2 ^ 31) (h : post (ip_m (pu_e m q (c, e, 0))) (nI R, nI cp, fz, nI (ig_A g), nI n, oR, oN, e1, ip_m x, e3, e4, sp, cc, ip_e (ig_O g), ip_e (ig_C g), kd, kA, kB, ip_e (ig_M g), ip_e t, tR, tS, tE, tP, re, ex, nu, ed, rm, sR, sS, sE, sP, cR, cS, cE)) : wY_evalItem_81 post (nI m) (nI e) (ip_m x) (nI c) (nI R) (nI cp) fz (nI (ig_A g)) (nI n) oR oN e1 e2 e3 e4 sp cc (ip_e (ig_O g)) (ip_e (ig_C g)) kd kA kB (ip_e (ig_M g)) (ip_e t) tR tS tE tP re ex nu ed rm sR sS sE sP cR cS cE := by
  unfold pu_e at h
  dsimp only at h
  refine pk_eq m 3 (fun z => pk_eq c 0 (fun z2 => ?_) (fun z2 => ?_)) (fun z => ?_)
  · rw [if_neg (by omega), if_neg (by omega), if_neg (by omega), if_neg (by omega)] at h; exact h
  · rw [if_neg (by omega), if_neg (by omega), if_neg (by omega), if_pos (by omega)] at h; exact h
  · rw [if_pos (by omega)] at h; exact h
/-- the run of tests of a repeat -/
theorem yt_29 {post : Int32 → SY → Prop} {it q0 m : Nat} (F : xk_F g t n R) (hg : yk_G g kd kA kB) (hit : it < 64) (hm : m = 2 ∨ m = 3) (hA : yk_A R n T re ex) (hS : pu_SA R n N T) : ∀ (f nn c q x i : Nat) (e1 : Int32), i + f = 26 → f < nn → c ≤ i → q ≤ n → x ≤ 25 → pu_P g t n T it q →
    (∀ e1 : Int32, post (ip_m (pu_e m q0 (c + (pu_R g t n T it f q).1, (pu_R g t n T it f q).2.1, 0))) (nI R, nI cp, fz, nI (ig_A g), nI n, oR, oN, e1, ip_m (max x (pu_R g t n T it f q).2.2), e3, e4, sp, cc, ip_e (ig_O g), ip_e (ig_C g), kd, kA, kB, ip_e (ig_M g), ip_e t, tR, tS, tE, tP, re, ex, nu, ed, rm, sR, sS, sE, sP, cR, cS, cE)) →
    wY_evalItem_29 post (nI it) (nI m) nn (nI q) (ip_m x) (nI c) (nI i) (nI R) (nI cp) fz (nI (ig_A g)) (nI n) oR oN e1 e2 e3 e4 sp cc (ip_e (ig_O g)) (ip_e (ig_C g)) kd kA kB (ip_e (ig_M g)) (ip_e t) tR tS tE tP re ex nu ed rm sR sS sE sP cR cS cE := by
  have hn24 := F.1
  intro f
  induction f with
  | zero =>
    intro nn c q x i e1 hi hnn hc hq hx hP h
    obtain ⟨nn, rfl⟩ : ∃ k, nn = k + 1 := ⟨nn - 1, by omega⟩
    refine pk_le 26 i (fun _ => ?_) (fun z => by omega)
    have h' : post (ip_m (pu_e m q0 (c, q, 0))) (nI R, nI cp, fz, nI (ig_A g), nI n, oR, oN, e1, ip_m (max x 0), e3, e4, sp, cc, ip_e (ig_O g), ip_e (ig_C g), kd, kA, kB, ip_e (ig_M g), ip_e t, tR, tS, tE, tP, re, ex, nu, ed, rm, sR, sS, sE, sP, cR, cS, cE) := h e1
    rw [Nat.max_zero] at h'
    exact yt_81 hm (by omega) h'
  | succ f ih =>
    intro nn c q x i e1 hi hnn hc hq hx hP h
    obtain ⟨nn, rfl⟩ : ∃ k, nn = k + 1 := ⟨nn - 1, by omega⟩
    obtain ⟨s1, s2⟩ := pu_Tall (t := t) (it := it) F.2.2.1 hS hq
    refine pk_le 26 i (fun z => by omega) (fun _ => yt_test F hg hit hq hA ?_)
    -- both ways the greatest place is the greater one
    have go : ∀ e1 : Int32, wY_evalItem_60 post (wY_evalItem_29 post (nI it) (nI m) nn) (nI it) (nI m) (nI q) (ip_m (max x (pu_T g t n T it q).2)) (nI c) (nI i) (ip_m (pu_T g t n T it q).1) (nI R) (nI cp) fz (nI (ig_A g)) (nI n) oR oN e1 e2 e3 e4 sp cc (ip_e (ig_O g)) (ip_e (ig_C g)) kd kA kB (ip_e (ig_M g)) (ip_e t) tR tS tE tP re ex nu ed rm sR sS sE sP cR cS cE := by
      intro e1
      cases hz : (pu_T g t n T it q).1 with
      | zero =>
        rw [pu_R0 hz] at h
        exact ip_m0br (y := 0) rfl (by decide) (fun z => absurd rfl z) (fun _ => yt_81 hm (by omega) (h e1))
      | succ e =>
        obtain ⟨k1, k2⟩ := hP q (Nat.le_refl q) hq e hz
        rw [pu_Rs hz] at h
        refine ip_m0br (y := e + 1) rfl (by omega) (fun _ => nm_r (nI_1 c) (nm_r (nI_1 i) ?_)) (fun z => by omega)
        refine ih nn (c + 1) e _ (i + 1) e1 (by omega) (by omega) (by omega) k2 (by omega) (pu_Pup hP (by omega)) (fun e1 => ?_)
        rw [Nat.max_assoc, show c + 1 + (pu_R g t n T it f e).1 = c + ((pu_R g t n T it f e).1 + 1) by omega]
        exact h e1
    refine ip_mbr (by omega) (by omega) (fun z => ?_) (fun z => ?_)
    · have := go (ip_m (pu_T g t n T it q).2)
      rw [Nat.max_eq_left z] at this
      exact this
    · have := go (ip_m (pu_T g t n T it q).2)
      rw [Nat.max_eq_right (by omega)] at this
      exact this
theorem yt_item {post : Int32 → SY → Prop} {it q : Nat} (F : xk_F g t n R) (hg : yk_G g kd kA kB) (hit : it < 64) (hq : q ≤ n) (hn : ig_it g N it) (hA : yk_A R n T re ex) (hS : pu_SA R n N T)
    (h : ∀ e1 : Int32, post (ip_m (pu_I g t n T it q).1) (nI R, nI cp, fz, nI (ig_A g), nI n, oR, oN, e1, ip_m (pu_I g t n T it q).2, e3, e4, sp, cc, ip_e (ig_O g), ip_e (ig_C g), kd, kA, kB, ip_e (ig_M g), ip_e t, tR, tS, tE, tP, re, ex, nu, ed, rm, sR, sS, sE, sP, cR, cS, cE)) : wpY_evalItem post (nI R, nI cp, fz, nI (ig_A g), nI n, oR, oN, e1, e2, e3, e4, sp, cc, ip_e (ig_O g), ip_e (ig_C g), kd, kA, kB, ip_e (ig_M g), ip_e t, tR, tS, tE, tP, re, ex, nu, ed, rm, sR, sS, sE, sP, cR, cS, cE) (nI it) (nI q) := by
  have hn24 := F.1
  have hM := (F.2.2.1.2 it).2.2.1
  have c1 : it < 2 ^ 31 := by omega
  have rep : ig_rep g it → ∀ e1 : Int32, wY_evalItem_17 post (nI it) (nI q) (nI (ig_M g it)) (nI R) (nI cp) fz (nI (ig_A g)) (nI n) oR oN e1 e2 e3 e4 sp cc (ip_e (ig_O g)) (ip_e (ig_C g)) kd kA kB (ip_e (ig_M g)) (ip_e t) tR tS tE tP re ex nu ed rm sR sS sE sP cR cS cE := fun r e1 => by
    have hP := pu_Pall (t := t) q F.2.2.1 hS hn r
    refine ⟨27, yt_29 (q0 := q) F hg hit r hA hS 26 27 0 q 0 0 e1 (by omega) (by omega) (by omega) hq (by omega) hP (fun e1 => ?_)⟩
    have h' : post (ip_m (pu_e (ig_M g it) q (pu_R g t n T it (pu_f g n it) q))) (nI R, nI cp, fz, nI (ig_A g), nI n, oR, oN, e1, ip_m (pu_R g t n T it (pu_f g n it) q).2.2, e3, e4, sp, cc, ip_e (ig_O g), ip_e (ig_C g), kd, kA, kB, ip_e (ig_M g), ip_e t, tR, tS, tE, tP, re, ex, nu, ed, rm, sR, sS, sE, sP, cR, cS, cE) := h e1
    rw [tk_fr r, pu_Rf (n + 1) 26 q hq hP (by omega) (by omega)] at h'
    rw [Nat.zero_add, Nat.zero_max]
    exact h'
  refine ⟨vp_in_nI hit (by decide), nm_r (ip_ce _ c1) (pk_eq (ig_M g it) 2 (fun z => rep (Or.inl z) e1) (fun z2 => pk_eq (ig_M g it) 3 (fun z => rep (Or.inr z) e1) (fun z3 => yt_test F hg hit hq hA ?_)))⟩
  have nr : ¬ ig_rep g it := fun w => w.elim z2 z3
  have h' : ∀ e1 : Int32, post (ip_m (pu_e (ig_M g it) q (pu_R g t n T it 1 q))) (nI R, nI cp, fz, nI (ig_A g), nI n, oR, oN, e1, ip_m (pu_R g t n T it 1 q).2.2, e3, e4, sp, cc, ip_e (ig_O g), ip_e (ig_C g), kd, kA, kB, ip_e (ig_M g), ip_e t, tR, tS, tE, tP, re, ex, nu, ed, rm, sR, sS, sE, sP, cR, cS, cE) := fun e1 => by
    have h2 : post (ip_m (pu_e (ig_M g it) q (pu_R g t n T it (pu_f g n it) q))) (nI R, nI cp, fz, nI (ig_A g), nI n, oR, oN, e1, ip_m (pu_R g t n T it (pu_f g n it) q).2.2, e3, e4, sp, cc, ip_e (ig_O g), ip_e (ig_C g), kd, kA, kB, ip_e (ig_M g), ip_e t, tR, tS, tE, tP, re, ex, nu, ed, rm, sR, sS, sE, sP, cR, cS, cE) := h e1
    rw [tk_fn nr] at h2
    exact h2
  obtain ⟨s1, s2⟩ := pu_Tall (t := t) (it := it) F.2.2.1 hS hq
  cases hz : (pu_T g t n T it q).1 with
  | zero =>
    rw [pu_R0 hz] at h'
    have h3 := h' (ip_m (pu_T g t n T it q).2)
    revert h3
    generalize ig_M g it = m at hM z2 z3 ⊢
    intro h3
    unfold pu_e at h3
    dsimp only at h3
    refine pk_eq m 0 (fun y => ?_) (fun y0 => pk_eq m 1 (fun y => ip_mlbr (y := 0) rfl (by decide) (fun _ => ?_) (fun w => absurd rfl w)) (fun y1 => pk_eq m 4 (fun y => ip_mlbr (y := 0) rfl (by decide) (fun _ => ?_) (fun w => absurd rfl w)) (fun y4 => ip_mlbr (y := 0) rfl (by decide) (fun _ => ?_) (fun w => absurd rfl w))))
    · rw [if_neg (by omega), if_neg (by omega), if_neg (by omega), if_neg (by omega)] at h3; exact h3
    · rw [if_pos (by omega)] at h3; exact h3
    · rw [if_neg (by omega), if_pos (by omega), if_neg (by omega)] at h3; exact h3
    · rw [if_neg (by omega), if_neg (by omega), if_pos (by omega), if_neg (by omega)] at h3; exact h3
  | succ e =>
    obtain ⟨k1, k2⟩ := s2 e hz
    rw [pu_Rs hz] at h'
    have h3 := h' (ip_m (pu_T g t n T it q).2)
    rw [show max (pu_T g t n T it q).2 (pu_R g t n T it 0 e).2.2 = (pu_T g t n T it q).2 from Nat.max_zero _] at h3
    revert h3
    generalize ig_M g it = m at hM z2 z3 ⊢
    intro h3
    unfold pu_e at h3
    have hb : e + 1 < 2 ^ 31 := by omega
    have h01 : (0 : Nat) < (pu_R g t n T it 0 e).1 + 1 := Nat.succ_pos _
    refine pk_eq m 0 (fun y => ?_) (fun y0 => pk_eq m 1 (fun y => ip_mlbr (y := e + 1) rfl hb (fun w => by omega) (fun _ => ?_)) (fun y1 => pk_eq m 4 (fun y => ip_mlbr (y := e + 1) rfl hb (fun w => by omega) (fun _ => ?_)) (fun y4 => ip_mlbr (y := e + 1) rfl hb (fun w => by omega) (fun _ => ?_))))
    · rw [if_neg (by omega), if_neg (by omega), if_neg (by omega), if_pos h01] at h3; exact h3
    · rw [if_pos (by omega)] at h3; exact h3
    · rw [if_neg (by omega), if_pos (by omega), if_pos h01] at h3; exact h3
    · rw [if_neg (by omega), if_neg (by omega), if_pos (by omega), if_pos h01] at h3; exact h3
end
