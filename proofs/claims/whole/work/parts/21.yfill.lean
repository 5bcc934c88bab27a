/-! the reference's alternatives, rules and table -/
section
variable {g : ig_T} {t : Nat → Nat} {n R cp : Nat} {fz oR oN e1 e2 e3 e4 sp cc : Int32} {kd kA kB tR tS tE tP re ex nu ed rm sR sS sE sP cR cS cE : Nat → Int32} {T : Nat → Nat → Nat × Nat} {N : Nat → Bool}
theorem yf_8 {post : Int32 → SY → Prop} {a : Nat} (F : xk_F g t n R) (hg : yk_G g kd kA kB) (ha : a < 16) (hA : yk_A R n T re ex) (hS : pu_SA R n N T) : ∀ (k nn q x i : Nat) (e1 e2 : Int32), i + k = ig_C g a → k < nn → q ≤ n → x ≤ 25 →
    (∀ j, j < k → ig_it g N (4 * a + i + j)) →
    (∀ e1 e2 : Int32, post (ip_m (pu_A g t n T k (4 * a + i) q).1) (nI R, nI cp, fz, nI (ig_A g), nI n, oR, oN, e1, e2, ip_m (max x (pu_A g t n T k (4 * a + i) q).2), e4, sp, cc, ip_e (ig_O g), ip_e (ig_C g), kd, kA, kB, ip_e (ig_M g), ip_e t, tR, tS, tE, tP, re, ex, nu, ed, rm, sR, sS, sE, sP, cR, cS, cE)) →
    wY_evalAlt_8 post (nI a) nn (nI q) (ip_m x) (nI i) (nI R) (nI cp) fz (nI (ig_A g)) (nI n) oR oN e1 e2 e3 e4 sp cc (ip_e (ig_O g)) (ip_e (ig_C g)) kd kA kB (ip_e (ig_M g)) (ip_e t) tR tS tE tP re ex nu ed rm sR sS sE sP cR cS cE := by
  have hn24 := F.1
  have hC := (F.2.2.1.2 a).2.1
  intro k
  induction k with
  | zero =>
    intro nn q x i e1 e2 hi hnn hq hx hn h
    obtain ⟨nn, rfl⟩ : ∃ k, nn = k + 1 := ⟨nn - 1, by omega⟩
    refine ⟨vp_in_nI ha (by decide), pk_le (ig_C g a) i (fun _ => ?_) (fun z => by omega) (ip_ce _ (by omega))⟩
    have h' : post (nI q) (nI R, nI cp, fz, nI (ig_A g), nI n, oR, oN, e1, e2, ip_m (max x 0), e4, sp, cc, ip_e (ig_O g), ip_e (ig_C g), kd, kA, kB, ip_e (ig_M g), ip_e t, tR, tS, tE, tP, re, ex, nu, ed, rm, sR, sS, sE, sP, cR, cS, cE) := h e1 e2
    rw [Nat.max_zero] at h'
    exact h'
  | succ k ih =>
    intro nn q x i e1 e2 hi hnn hq hx hn h
    obtain ⟨nn, rfl⟩ : ∃ k, nn = k + 1 := ⟨nn - 1, by omega⟩
    obtain ⟨b1, b2⟩ := pu_Iall (t := t) (it := 4 * a + i) F.2.2.1 hS (hn 0 (Nat.succ_pos k)) hq
    refine ⟨vp_in_nI ha (by decide), pk_le (ig_C g a) i (fun z => by omega) (fun _ => ?_) (ip_ce _ (by omega))⟩
    rw [ip_ls]
    refine yt_item (N := N) F hg (by omega) hq (hn 0 (Nat.succ_pos k)) hA hS (fun e1 => ?_)
    have go : ∀ e1 e2 : Int32, wY_evalAlt_47 post (wY_evalAlt_8 post (nI a) nn) (nI a) (ip_m (max x (pu_I g t n T (4 * a + i) q).2)) (nI i) (ip_m (pu_I g t n T (4 * a + i) q).1) (nI R) (nI cp) fz (nI (ig_A g)) (nI n) oR oN e1 e2 e3 e4 sp cc (ip_e (ig_O g)) (ip_e (ig_C g)) kd kA kB (ip_e (ig_M g)) (ip_e t) tR tS tE tP re ex nu ed rm sR sS sE sP cR cS cE := by
      intro e1 e2
      cases hz : (pu_I g t n T (4 * a + i) q).1 with
      | zero =>
        rw [pu_A0 hz] at h
        exact ip_m0br (y := 0) rfl (by decide) (fun z => absurd rfl z) (fun _ => h e1 e2)
      | succ e =>
        obtain ⟨k1, k2⟩ := b2 e hz
        rw [pu_As hz] at h
        have sh : ∀ j, 4 * a + (i + 1) + j = 4 * a + i + (j + 1) := fun j => by omega
        refine ip_m0br (y := e + 1) rfl (by omega) (fun _ => nm_r (nI_1 i) ?_) (fun z => by omega)
        refine ih nn e _ (i + 1) e1 e2 (by omega) (by omega) k2 (by omega) (fun j hj => by rw [sh]; exact hn (j + 1) (by omega)) (fun e1 e2 => ?_)
        rw [Nat.max_assoc]
        exact h e1 e2
    refine ip_mbr (by omega) (by omega) (fun z => ?_) (fun z => ?_)
    · have := go e1 (ip_m (pu_I g t n T (4 * a + i) q).2)
      rw [Nat.max_eq_left z] at this
      exact this
    · have := go e1 (ip_m (pu_I g t n T (4 * a + i) q).2)
      rw [Nat.max_eq_right (by omega)] at this
      exact this
theorem yf_alt {post : Int32 → SY → Prop} {a p : Nat} (F : xk_F g t n R) (hg : yk_G g kd kA kB) (hp : p ≤ n) (ha : a < ig_A g) (hN : ig_Nb g N) (hA : yk_A R n T re ex) (hS : pu_SA R n N T)
    (h : ∀ e1 e2 : Int32, post (ip_m (pu_A g t n T (ig_C g a) (4 * a) p).1) (nI R, nI cp, fz, nI (ig_A g), nI n, oR, oN, e1, e2, ip_m (pu_A g t n T (ig_C g a) (4 * a) p).2, e4, sp, cc, ip_e (ig_O g), ip_e (ig_C g), kd, kA, kB, ip_e (ig_M g), ip_e t, tR, tS, tE, tP, re, ex, nu, ed, rm, sR, sS, sE, sP, cR, cS, cE)) : wpY_evalAlt post (nI R, nI cp, fz, nI (ig_A g), nI n, oR, oN, e1, e2, e3, e4, sp, cc, ip_e (ig_O g), ip_e (ig_C g), kd, kA, kB, ip_e (ig_M g), ip_e t, tR, tS, tE, tP, re, ex, nu, ed, rm, sR, sS, sE, sP, cR, cS, cE) (nI a) (nI p) := by
  have h16 := F.2.2.1.1
  refine ⟨ig_C g a + 1, yf_8 (N := N) (T := T) F hg (by omega) hA hS (ig_C g a) (ig_C g a + 1) p 0 0 e1 e2 (Nat.zero_add _) (Nat.lt_succ_self _) hp (by omega) (fun j hj y1 y2 => hN a j ha hj y1 y2) (fun e1 e2 => ?_)⟩
  rw [Nat.zero_max]
  exact h e1 e2
/-- bounds of an alternative -/
theorem yf_Ab {a p : Nat} (F : xk_F g t n R) (hp : p ≤ n) (ha : a < ig_A g) (hN : ig_Nb g N) (hS : pu_SA R n N T) : (pu_A g t n T (ig_C g a) (4 * a) p).2 ≤ n + 1 ∧ (pu_A g t n T (ig_C g a) (4 * a) p).1 ≤ n + 1 := by
  have hV := F.2.2.1
  obtain ⟨_, j2, j3⟩ := pu_Aag (g := g) (t := t) (n := n) (T := T) (T' := T) (N := N) (p := p) (ig_C g a) (4 * a) p (Nat.le_refl p) hp (fun j hj y1 y2 => hN a j ha hj y1 y2)
    (fun j hj b q' z1 z2 => ⟨rfl, hS _ q' ((hV.2 _).2.2.2.2.2 b) z2⟩) (fun _ j hj b hi => ⟨rfl, hS _ p ((hV.2 _).2.2.2.2.2 b) hp⟩)
  refine ⟨j2, ?_⟩
  cases hz : (pu_A g t n T (ig_C g a) (4 * a) p).1 with
  | zero => omega
  | succ e => have := (j3 e hz).2.1; omega
theorem yf_5 {post : Int32 → SY → Prop} {r p : Nat} (F : xk_F g t n R) (hg : yk_G g kd kA kB) (hr : r < R) (hp : p ≤ n) (hN : ig_Nb g N) (hA : yk_A R n T re ex) (hS : pu_SA R n N T) : ∀ (k nn a x : Nat) (e1 e2 e3 : Int32), a + k = ig_A g → k < nn → x ≤ 25 →
    (∀ e1 e2 e3 : Int32, post (ip_m (pu_U g t n T r p k a).1) (nI R, nI cp, fz, nI (ig_A g), nI n, oR, oN, e1, e2, e3, ip_m (max x (pu_U g t n T r p k a).2.1), sp, cc, ip_e (ig_O g), ip_e (ig_C g), kd, kA, kB, ip_e (ig_M g), ip_e t, tR, tS, tE, tP, re, ex, nu, ed, rm, sR, sS, sE, sP, cR, cS, cE)) →
    wY_evalRule_5 post (nI r) (nI p) nn (ip_m x) (nI a) (nI R) (nI cp) fz (nI (ig_A g)) (nI n) oR oN e1 e2 e3 e4 sp cc (ip_e (ig_O g)) (ip_e (ig_C g)) kd kA kB (ip_e (ig_M g)) (ip_e t) tR tS tE tP re ex nu ed rm sR sS sE sP cR cS cE := by
  have hn24 := F.1
  have hR8 := F.2.1
  have hV := F.2.2.1
  have h16 := hV.1
  intro k
  induction k with
  | zero =>
    intro nn a x e1 e2 e3 hk hnn hx h
    obtain ⟨nn, rfl⟩ : ∃ k, nn = k + 1 := ⟨nn - 1, by omega⟩
    refine pk_le (ig_A g) a (fun _ => ?_) (fun z => by omega)
    have h' : post (-1) (nI R, nI cp, fz, nI (ig_A g), nI n, oR, oN, e1, e2, e3, ip_m (max x 0), sp, cc, ip_e (ig_O g), ip_e (ig_C g), kd, kA, kB, ip_e (ig_M g), ip_e t, tR, tS, tE, tP, re, ex, nu, ed, rm, sR, sS, sE, sP, cR, cS, cE) := h e1 e2 e3
    rw [Nat.max_zero] at h'
    exact h'
  | succ k ih =>
    intro nn a x e1 e2 e3 hk hnn hx h
    obtain ⟨nn, rfl⟩ : ∃ k, nn = k + 1 := ⟨nn - 1, by omega⟩
    have hO := (hV.2 a).1
    refine pk_le (ig_A g) a (fun z => by omega) (fun _ => ⟨vp_in_nI (by omega) (by decide), pk_eq (ig_O g a) r (fun ho => ?_) (fun ho => ?_) (ip_ce _ (by omega))⟩)
    · obtain ⟨b1, b2⟩ := yf_Ab (T := T) (N := N) (a := a) F hp (by omega) hN hS
      refine yf_alt (T := T) (N := N) F hg hp (by omega) hN hA hS (fun e1 e2 => ?_)
      have go : ∀ e1 e2 e3 : Int32, wY_evalRule_50 post (wY_evalRule_5 post (nI r) (nI p) nn) (nI r) (nI p) (ip_m (max x (pu_A g t n T (ig_C g a) (4 * a) p).2)) (nI a) (ip_m (pu_A g t n T (ig_C g a) (4 * a) p).1) (nI R) (nI cp) fz (nI (ig_A g)) (nI n) oR oN e1 e2 e3 e4 sp cc (ip_e (ig_O g)) (ip_e (ig_C g)) kd kA kB (ip_e (ig_M g)) (ip_e t) tR tS tE tP re ex nu ed rm sR sS sE sP cR cS cE := by
        intro e1 e2 e3
        by_cases hz : (pu_A g t n T (ig_C g a) (4 * a) p).1 = 0
        · rw [pu_U0 ho hz] at h
          refine ip_mlbr rfl (by omega) (fun _ => nm_r (nI_1 a) ?_) (fun z => absurd hz z)
          refine ih nn (a + 1) _ e1 e2 e3 (by omega) (by omega) (by omega) (fun e1 e2 e3 => ?_)
          rw [Nat.max_assoc]
          exact h e1 e2 e3
        · rw [pu_Us ho hz] at h
          exact ip_mlbr rfl (by omega) (fun z => absurd z hz) (fun _ => h e1 e2 e3)
      refine ip_mbr (by omega) (by omega) (fun z => ?_) (fun z => ?_)
      · have := go e1 e2 (ip_m (pu_A g t n T (ig_C g a) (4 * a) p).2)
        rw [Nat.max_eq_left z] at this
        exact this
      · have := go e1 e2 (ip_m (pu_A g t n T (ig_C g a) (4 * a) p).2)
        rw [Nat.max_eq_right (by omega)] at this
        exact this
    · rw [pu_Un ho] at h
      exact nm_r (nI_1 a) (ih nn (a + 1) x e1 e2 e3 (by omega) (by omega) hx h)
theorem yf_rule {post : Int32 → SY → Prop} {r p : Nat} (F : xk_F g t n R) (hg : yk_G g kd kA kB) (hr : r < R) (hp : p ≤ n) (hN : ig_Nb g N) (hA : yk_A R n T re ex) (hS : pu_SA R n N T)
    (h : ∀ e1 e2 e3 : Int32, post (ip_m (pu_M g t n T r p).1) (nI R, nI cp, fz, nI (ig_A g), nI n, oR, oN, e1, e2, e3, ip_m (pu_M g t n T r p).2.1, sp, cc, ip_e (ig_O g), ip_e (ig_C g), kd, kA, kB, ip_e (ig_M g), ip_e t, tR, tS, tE, tP, re, ex, nu, ed, rm, sR, sS, sE, sP, cR, cS, cE)) : wpY_evalRule post (nI R, nI cp, fz, nI (ig_A g), nI n, oR, oN, e1, e2, e3, e4, sp, cc, ip_e (ig_O g), ip_e (ig_C g), kd, kA, kB, ip_e (ig_M g), ip_e t, tR, tS, tE, tP, re, ex, nu, ed, rm, sR, sS, sE, sP, cR, cS, cE) (nI r) (nI p) := by
  refine ⟨ig_A g + 1, yf_5 (T := T) (N := N) F hg hr hp hN hA hS (ig_A g) (ig_A g + 1) 0 0 e1 e2 e3 (Nat.zero_add _) (Nat.lt_succ_self _) (by omega) (fun e1 e2 e3 => ?_)⟩
  rw [Nat.zero_max]
  exact h e1 e2 e3
end
/-! one place of a table is put anew -/
def tu_P (T : Nat → Nat → Nat × Nat) (r p : Nat) (v : Nat × Nat) : Nat → Nat → Nat × Nat := fun s q => if s = r ∧ q = p then v else T s q
theorem tu_s {T : Nat → Nat → Nat × Nat} {r p : Nat} {v : Nat × Nat} : tu_P T r p v r p = v := if_pos ⟨rfl, rfl⟩
theorem tu_n {T : Nat → Nat → Nat × Nat} {r p s q : Nat} {v : Nat × Nat} (h : ¬ (s = r ∧ q = p)) : tu_P T r p v s q = T s q := if_neg h
theorem tu_A {R n r p : Nat} {T : Nat → Nat → Nat × Nat} {v : Nat × Nat} {re ex : ar_T} (hn : n ≤ 24) (hp : p ≤ n) (h : yk_A R n T re ex) : yk_A R n (tu_P T r p v) (upd re (r * 25 + p) (ip_m v.1)) (upd ex (r * 25 + p) (ip_m v.2)) := by
  intro s q hs hq
  unfold yk_Q
  by_cases e : s = r ∧ q = p
  · obtain ⟨rfl, rfl⟩ := e
    rw [tu_s, pk_us, pk_us]
    exact ⟨rfl, rfl⟩
  · rw [tu_n e, pk_un (ip_slot (by omega) (by omega) e), pk_un (ip_slot (by omega) (by omega) e)]
    exact h s q hs hq
theorem tu_S {R n r p : Nat} {N : Nat → Bool} {T : Nat → Nat → Nat × Nat} {v : Nat × Nat} (hv : v.2 ≤ n + 1 ∧ ∀ e, v.1 = e + 1 → p ≤ e ∧ e ≤ n ∧ (e = p → N r = true)) (h : pu_SA R n N T) : pu_SA R n N (tu_P T r p v) := by
  intro s q hs hq
  by_cases e : s = r ∧ q = p
  · obtain ⟨rfl, rfl⟩ := e
    unfold pu_S
    rw [tu_s]
    exact hv
  · have := h s q hs hq
    unfold pu_S at this ⊢
    rw [tu_n e]
    exact this
section
variable {g : ig_T} {t : Nat → Nat} {n R cp : Nat} {fz oR oN e1 e2 e3 e4 sp cc : Int32} {kd kA kB tR tS tE tP re ex nu ed rm sR sS sE sP cR cS cE : Nat → Int32} {G : Nat → Nat → Nat × Nat} {N : Nat → Bool} {rk : Nat → Nat}
/-- one round over the rules at a position -/
theorem yf_2 {post : SY → Prop} {p rd : Nat} (F : xk_F g t n R) (hg : yk_G g kd kA kB) (hp : p ≤ n) (hK : ig_K g R N rk) (hG : pu_G g t n R N G)
    (h : ∀ (T : Nat → Nat → Nat × Nat) (e1 e2 e3 e4 : Int32) (re ex : ar_T), yk_A R n T re ex → pu_SA R n N T → (∀ s q, s < R → p < q → q ≤ n → T s q = G s q) → (∀ s, s < R → rk s ≤ rd → T s p = G s p) → post (nI R, nI cp, fz, nI (ig_A g), nI n, oR, oN, e1, e2, e3, e4, sp, cc, ip_e (ig_O g), ip_e (ig_C g), kd, kA, kB, ip_e (ig_M g), ip_e t, tR, tS, tE, tP, re, ex, nu, ed, rm, sR, sS, sE, sP, cR, cS, cE)) :
    ∀ (d nn r : Nat) (T : Nat → Nat → Nat × Nat) (e1 e2 e3 e4 : Int32) (re ex : ar_T), r + d = R → d < nn → yk_A R n T re ex → pu_SA R n N T → (∀ s q, s < R → p < q → q ≤ n → T s q = G s q) → (∀ s, s < R → rk s < rd ∨ (rk s = rd ∧ s < r) → T s p = G s p) →
    wY_fillPosition_2 post (nI p) nn (nI r) (nI R) (nI cp) fz (nI (ig_A g)) (nI n) oR oN e1 e2 e3 e4 sp cc (ip_e (ig_O g)) (ip_e (ig_C g)) kd kA kB (ip_e (ig_M g)) (ip_e t) tR tS tE tP re ex nu ed rm sR sS sE sP cR cS cE := by
  have hn24 := F.1
  have hR8 := F.2.1
  have hV := F.2.2.1
  intro d
  induction d with
  | zero =>
    intro nn r T e1 e2 e3 e4 re ex hr hnn hA hS hB hC
    obtain ⟨nn, rfl⟩ : ∃ k, nn = k + 1 := ⟨nn - 1, by omega⟩
    exact pk_le R r (fun _ => h T e1 e2 e3 e4 re ex hA hS hB (fun s hs hk => hC s hs (by omega))) (fun z => by omega)
  | succ d ih =>
    intro nn r T e1 e2 e3 e4 re ex hr hnn hA hS hB hC
    obtain ⟨nn, rfl⟩ : ∃ k, nn = k + 1 := ⟨nn - 1, by omega⟩
    have hi : vp_in (nI (r * 25 + p)) 200 := vp_in_nI (by omega) (by decide)
    have ec : (nI (r * 25 + p)).toNatClampNeg = r * 25 + p := nI_clamp (by omega)
    refine pk_le R r (fun z => by omega) (fun _ => yf_rule (T := T) (N := N) F hg (by omega) hp hK.2.1 hA hS (fun e1 e2 e3 => ?_))
    rw [ip_l25]
    refine ⟨hi, nm_r (by rw [ec]) ⟨hi, nm_r (by rw [ec]) (nm_r (nI_1 r) ?_)⟩⟩
    obtain ⟨_, m2, m3⟩ := pu_Mag (g := g) (t := t) (n := n) (T := T) (T' := T) (N := N) (r := r) hp hK.1 hK.2.1 (fun s q' z1 z2 z3 => by obtain ⟨j, hj, rfl⟩ := z3; exact ⟨rfl, hS _ q' ((hV.2 j).2.2.2.2.2 hj) z2⟩) (fun s hs => ⟨rfl, hS s p (pu_SS hV hs) hp⟩)
    refine ih nn (r + 1) (tu_P T r p ((pu_M g t n T r p).1, (pu_M g t n T r p).2.1)) e1 e2 e3 _ _ _ (by omega) (by omega) (tu_A hn24 hp hA) (tu_S ⟨m2, m3⟩ hS) (fun s q z1 z2 z3 => ?_) (fun s hs hk => ?_)
    · rw [tu_n (by omega)]
      exact hB s q z1 z2 z3
    · by_cases e : s = r
      · subst e
        rw [tu_s]
        obtain ⟨m1, _, _⟩ := pu_Mag (g := g) (t := t) (n := n) (T := T) (T' := G) (N := N) (r := s) hp hK.1 hK.2.1
          (fun s' q' z1 z2 z3 => by obtain ⟨j, hj, rfl⟩ := z3; exact ⟨hB _ q' ((hV.2 j).2.2.2.2.2 hj) z1 z2, (hG _ q' ((hV.2 j).2.2.2.2.2 hj) z2).2⟩)
          (fun s' hs' => ⟨hC s' (pu_SS hV hs') (Or.inl (by have := hK.2.2.2 _ s' hs'; omega)), (hG s' p (pu_SS hV hs') hp).2⟩)
        rw [m1]
        exact (hG s p hs hp).1.symm
      · rw [tu_n (fun z => e z.1)]
        refine hC s hs ?_
        rcases hk with hk | hk
        · exact Or.inl hk
        · exact Or.inr ⟨hk.1, by omega⟩
theorem yf_40 {post : SY → Prop} {J : Int32 → Int32 → Int32 → Int32 → Int32 → Int32 → Int32 → Int32 → Int32 → Int32 → Int32 → Int32 → Int32 → Int32 → ar_T → ar_T → ar_T → ar_T → ar_T → ar_T → ar_T → ar_T → ar_T → ar_T → ar_T → ar_T → ar_T → ar_T → ar_T → ar_T → ar_T → ar_T → ar_T → ar_T → ar_T → ar_T → ar_T → Prop} {p : Nat} (F : xk_F g t n R) (hg : yk_G g kd kA kB) (hp : p ≤ n) (hK : ig_K g R N rk) (hG : pu_G g t n R N G)
    (h : ∀ (T : Nat → Nat → Nat × Nat) (e1 e2 e3 e4 : Int32) (re ex : ar_T), yk_A R n T re ex → pu_SA R n N T → (∀ s q, s < R → p ≤ q → q ≤ n → T s q = G s q) → J (ip_m p) (nI R) (nI cp) fz (nI (ig_A g)) (nI n) oR oN e1 e2 e3 e4 sp cc (ip_e (ig_O g)) (ip_e (ig_C g)) kd kA kB (ip_e (ig_M g)) (ip_e t) tR tS tE tP re ex nu ed rm sR sS sE sP cR cS cE) :
    ∀ (d nn rd : Nat) (T : Nat → Nat → Nat × Nat) (e1 e2 e3 e4 : Int32) (re ex : ar_T), rd + d = R → d < nn → yk_A R n T re ex → pu_SA R n N T → (∀ s q, s < R → p < q → q ≤ n → T s q = G s q) → (∀ s, s < R → rk s < rd → T s p = G s p) →
    wY_fillTable_40 post J (nI p) nn (nI rd) (nI R) (nI cp) fz (nI (ig_A g)) (nI n) oR oN e1 e2 e3 e4 sp cc (ip_e (ig_O g)) (ip_e (ig_C g)) kd kA kB (ip_e (ig_M g)) (ip_e t) tR tS tE tP re ex nu ed rm sR sS sE sP cR cS cE := by
  have hR8 := F.2.1
  intro d
  induction d with
  | zero =>
    intro nn rd T e1 e2 e3 e4 re ex hr hnn hA hS hB hC
    obtain ⟨nn, rfl⟩ : ∃ k, nn = k + 1 := ⟨nn - 1, by omega⟩
    refine pk_le R rd (fun _ => nm_r (ip_dec p) (h T e1 e2 e3 e4 re ex hA hS (fun s q hs h1 h2 => ?_))) (fun z => by omega)
    rcases Nat.eq_or_lt_of_le h1 with z | z
    · subst z
      exact hC s hs (by have := hK.2.2.1 s hs; omega)
    · exact hB s q hs z h2
  | succ d ih =>
    intro nn rd T e1 e2 e3 e4 re ex hr hnn hA hS hB hC
    obtain ⟨nn, rfl⟩ : ∃ k, nn = k + 1 := ⟨nn - 1, by omega⟩
    refine pk_le R rd (fun z => by omega) (fun _ => ⟨R + 1, ?_⟩)
    refine yf_2 (G := G) (N := N) (rk := rk) (rd := rd) F hg hp hK hG (fun T e1 e2 e3 e4 re ex hA hS hB hC => nm_r (nI_1 rd) ?_) R (R + 1) 0 T e1 e2 e3 e4 re ex (by omega) (by omega) hA hS hB (fun s hs hk => hC s hs (by omega))
    exact ih nn (rd + 1) T e1 e2 e3 e4 re ex (by omega) (by omega) hA hS hB (fun s hs hk => hC s hs (by omega))
theorem yf_34 {post : SY → Prop} (F : xk_F g t n R) (hg : yk_G g kd kA kB) (hK : ig_K g R N rk) (hG : pu_G g t n R N G)
    (h : ∀ (e1 e2 e3 e4 : Int32) (re ex : ar_T), yk_A R n G re ex → post (nI R, nI cp, fz, nI (ig_A g), nI n, oR, oN, e1, e2, e3, e4, sp, cc, ip_e (ig_O g), ip_e (ig_C g), kd, kA, kB, ip_e (ig_M g), ip_e t, tR, tS, tE, tP, re, ex, nu, ed, rm, sR, sS, sE, sP, cR, cS, cE)) :
    ∀ (y nn : Nat) (T : Nat → Nat → Nat × Nat) (e1 e2 e3 e4 : Int32) (re ex : ar_T), y ≤ n + 1 → y < nn → yk_A R n T re ex → pu_SA R n N T → (∀ s q, s < R → y ≤ q → q ≤ n → T s q = G s q) →
    wY_fillTable_34 post nn (ip_m y) (nI R) (nI cp) fz (nI (ig_A g)) (nI n) oR oN e1 e2 e3 e4 sp cc (ip_e (ig_O g)) (ip_e (ig_C g)) kd kA kB (ip_e (ig_M g)) (ip_e t) tR tS tE tP re ex nu ed rm sR sS sE sP cR cS cE := by
  have hn24 := F.1
  intro y
  induction y with
  | zero =>
    intro nn T e1 e2 e3 e4 re ex hy hnn hA hS hB
    obtain ⟨nn, rfl⟩ : ∃ k, nn = k + 1 := ⟨nn - 1, by omega⟩
    refine br_t (by decide) (h e1 e2 e3 e4 re ex (fun s q hs hq => ?_))
    have := hA s q hs hq
    unfold yk_Q at this ⊢
    rw [hB s q hs (Nat.zero_le q) hq] at this
    exact this
  | succ p ih =>
    intro nn T e1 e2 e3 e4 re ex hy hnn hA hS hB
    obtain ⟨nn, rfl⟩ : ∃ k, nn = k + 1 := ⟨nn - 1, by omega⟩
    refine br_f (nI_pos (by omega)) ⟨R + 1, ?_⟩
    exact yf_40 (G := G) (N := N) (rk := rk) F hg (by omega) hK hG (fun T e1 e2 e3 e4 re ex hA hS hB => ih nn T e1 e2 e3 e4 re ex (by omega) (by omega) hA hS hB) R (R + 1) 0 T e1 e2 e3 e4 re ex (by omega) (by omega) hA hS (fun s q hs h1 h2 => hB s q hs (by omega) h2) (fun s hs hk => absurd hk (Nat.not_lt_zero _))
theorem yf_t2 {post : SY → Prop} (F : xk_F g t n R) (hg : yk_G g kd kA kB) (hK : ig_K g R N rk) (hG : pu_G g t n R N G)
    (h : ∀ (e1 e2 e3 e4 : Int32) (re ex : ar_T), yk_A R n G re ex → post (nI R, nI cp, fz, nI (ig_A g), nI n, oR, oN, e1, e2, e3, e4, sp, cc, ip_e (ig_O g), ip_e (ig_C g), kd, kA, kB, ip_e (ig_M g), ip_e t, tR, tS, tE, tP, re, ex, nu, ed, rm, sR, sS, sE, sP, cR, cS, cE)) :
    ∀ (d nn i : Nat) (re ex : ar_T), i + d = 200 → d < nn → (∀ j, j < i → re j = -1 ∧ ex j = -1) → wY_fillTable_2 post (nI R) (nI cp) fz (nI (ig_A g)) (nI n) oR oN e1 e2 e3 e4 sp cc nn (nI i) (ip_e (ig_O g)) (ip_e (ig_C g)) kd kA kB (ip_e (ig_M g)) (ip_e t) tR tS tE tP re ex nu ed rm sR sS sE sP cR cS cE := by
  have hn24 := F.1
  have hR8 := F.2.1
  intro d
  induction d with
  | zero =>
    intro nn i re ex hi hnn hA
    obtain ⟨nn, rfl⟩ : ∃ k, nn = k + 1 := ⟨nn - 1, by omega⟩
    refine pk_le 200 i (fun _ => ⟨n + 2, ?_⟩) (fun z => by omega)
    refine yf_34 (G := G) (N := N) (rk := rk) F hg hK hG h (n + 1) (n + 2) (fun _ _ => (0, 0)) e1 e2 e3 e4 re ex (by omega) (by omega) (fun s q hs hq => hA _ (by omega)) (fun s q hs hq => ⟨Nat.zero_le _, fun e he => absurd (show 0 = e + 1 from he) (by omega)⟩) (fun s q hs h1 h2 => by omega)
  | succ d ih =>
    intro nn i re ex hi hnn hA
    obtain ⟨nn, rfl⟩ : ∃ k, nn = k + 1 := ⟨nn - 1, by omega⟩
    have hv : vp_in (nI i) 200 := vp_in_nI (by omega) (by decide)
    have ec : (nI i).toNatClampNeg = i := nI_clamp (by omega)
    refine pk_le 200 i (fun z => by omega) (fun _ => ⟨hv, nm_r (by rw [ec]) ⟨hv, nm_r (by rw [ec]) (nm_r (nI_1 i) ?_)⟩⟩)
    refine ih nn (i + 1) _ _ (by omega) (by omega) (fun j hj => ?_)
    by_cases e : j = i
    · rw [e, pk_us, pk_us]; exact ⟨rfl, rfl⟩
    · rw [pk_un e, pk_un e]; exact hA j (by omega)
theorem yf_table {post : SY → Prop} (F : xk_F g t n R) (hg : yk_G g kd kA kB) (hK : ig_K g R N rk) (hG : pu_G g t n R N G)
    (h : ∀ (e1 e2 e3 e4 : Int32) (re ex : ar_T), yk_A R n G re ex → post (nI R, nI cp, fz, nI (ig_A g), nI n, oR, oN, e1, e2, e3, e4, sp, cc, ip_e (ig_O g), ip_e (ig_C g), kd, kA, kB, ip_e (ig_M g), ip_e t, tR, tS, tE, tP, re, ex, nu, ed, rm, sR, sS, sE, sP, cR, cS, cE)) : wpY_fillTable post (nI R, nI cp, fz, nI (ig_A g), nI n, oR, oN, e1, e2, e3, e4, sp, cc, ip_e (ig_O g), ip_e (ig_C g), kd, kA, kB, ip_e (ig_M g), ip_e t, tR, tS, tE, tP, re, ex, nu, ed, rm, sR, sS, sE, sP, cR, cS, cE) :=
  ⟨201, yf_t2 (G := G) (N := N) (rk := rk) F hg hK hG h 200 201 0 re ex (by omega) (by omega) (fun j hj => absurd hj (Nat.not_lt_zero j))⟩
end
