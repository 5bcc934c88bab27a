/-! the component's table -/
section
variable {g : ig_T} {t : Nat → Nat} {n R cp : Nat} {fz rc oR oN : Int32} {nu od ro mE mR mA tR tS tE tP wI wP : Nat → Int32} {T : Nat → Nat → Nat × Nat} {N : Nat → Bool}
theorem xf_56 {post : St2 → Prop} {r p x : Nat} {v tr : Int32} (hr : r < 8) (hp : p ≤ 24)
    (h : post (nI R, nI cp, fz, nI (ig_A g), nI n, ip_m x, oR, oN, ip_e (ig_O g), ip_e (ig_C g), ip_eb (ig_B g), ip_e (ig_L g), ip_e (ig_H g), ip_e (ig_M g), nu, od, ro, ip_e t, upd mE (r * 25 + p) v, upd mR (r * 25 + p) (ip_m x), upd mA (r * 25 + p) tr, tR, tS, tE, tP, wI, wP)) : wX_fillMemoSlot_56 post (nI r) (nI p) v tr (nI R) (nI cp) fz (nI (ig_A g)) (nI n) (ip_m x) oR oN (ip_e (ig_O g)) (ip_e (ig_C g)) (ip_eb (ig_B g)) (ip_e (ig_L g)) (ip_e (ig_H g)) (ip_e (ig_M g)) nu od ro (ip_e t) mE mR mA tR tS tE tP wI wP := by
  have hc : r * 25 + p < 200 := by omega
  have hi : vp_in (nI (r * 25 + p)) 200 := vp_in_nI hc (by decide)
  have ec : (nI (r * 25 + p)).toNatClampNeg = r * 25 + p := nI_clamp (by omega)
  exact nm_r (ip_l25 r p) ⟨hi, nm_r (by rw [ec]) ⟨hi, nm_r (by rw [ec]) ⟨hi, nm_r (by rw [ec]) h⟩⟩⟩
theorem xf_alt {post : Int32 → St2 → Prop} {a p x : Nat} (F : xk_F g t n R) (ha : a < 16) (hp : p ≤ n) (hx : x ≤ 25) (hn : ∀ j, j < ig_C g a → ig_it g N (4 * a + j))
    (hA : ∀ s q', p < q' → q' ≤ n → s < R → xk_Q N n T mE mR s q') (hB : ∀ j, j < ig_C g a → ig_B g (4 * a + j) = true → (∀ i', i' < j → ig_n g N (4 * a + i')) → xk_Q N n T mE mR (ig_L g (4 * a + j)) p)
    (h : post (ip_m (pu_A g t n T (ig_C g a) (4 * a) p).1) (nI R, nI cp, fz, nI (ig_A g), nI n, ip_m (max x (pu_A g t n T (ig_C g a) (4 * a) p).2), oR, oN, ip_e (ig_O g), ip_e (ig_C g), ip_eb (ig_B g), ip_e (ig_L g), ip_e (ig_H g), ip_e (ig_M g), nu, od, ro, ip_e t, mE, mR, mA, tR, tS, tE, tP, wI, wP)) : wpX_altEnd post (nI R, nI cp, fz, nI (ig_A g), nI n, ip_m x, oR, oN, ip_e (ig_O g), ip_e (ig_C g), ip_eb (ig_B g), ip_e (ig_L g), ip_e (ig_H g), ip_e (ig_M g), nu, od, ro, ip_e t, mE, mR, mA, tR, tS, tE, tP, wI, wP) (nI a) (nI p) :=
  ⟨ig_C g a + 1, xt_alt5 (p := p) F ha (ig_C g a) (ig_C g a + 1) p x 0 (Nat.zero_add _) (Nat.lt_succ_self _) (Nat.le_refl p) hp hx hn (fun j hj b q' z1 z2 => hA _ q' z1 z2 ((F.2.2.1.2 _).2.2.2.2.2 b)) (fun _ => hB) h⟩
theorem xf_13 {post : St2 → Prop} {r p : Nat} (F : xk_F g t n R) (hr : r < R) (hp : p ≤ n) (hN : ig_Nb g N)
    (hA : ∀ s q', p < q' → q' ≤ n → s < R → xk_Q N n T mE mR s q') (hB : ∀ s, ig_S g N r s → xk_Q N n T mE mR s p) : ∀ (k nn a x : Nat) (tr : Int32), a + k = ig_A g → k < nn → x ≤ 25 →
    (∀ tr' : Int32, ((pu_U g t n T r p k a).1 ≠ 0 → tr' = nI (pu_U g t n T r p k a).2.2) → post (nI R, nI cp, fz, nI (ig_A g), nI n, ip_m (max x (pu_U g t n T r p k a).2.1), oR, oN, ip_e (ig_O g), ip_e (ig_C g), ip_eb (ig_B g), ip_e (ig_L g), ip_e (ig_H g), ip_e (ig_M g), nu, od, ro, ip_e t, upd mE (r * 25 + p) (ip_m (pu_U g t n T r p k a).1), upd mR (r * 25 + p) (ip_m (max x (pu_U g t n T r p k a).2.1)), upd mA (r * 25 + p) tr', tR, tS, tE, tP, wI, wP)) →
    wX_fillMemoSlot_13 post (nI r) (nI p) nn (-1) tr (nI a) (nI R) (nI cp) fz (nI (ig_A g)) (nI n) (ip_m x) oR oN (ip_e (ig_O g)) (ip_e (ig_C g)) (ip_eb (ig_B g)) (ip_e (ig_L g)) (ip_e (ig_H g)) (ip_e (ig_M g)) nu od ro (ip_e t) mE mR mA tR tS tE tP wI wP := by
  have hn24 := F.1
  have hR8 := F.2.1
  have hV := F.2.2.1
  intro k
  induction k with
  | zero =>
    intro nn a x tr hk hnn hx h
    obtain ⟨nn, rfl⟩ : ∃ k, nn = k + 1 := ⟨nn - 1, by omega⟩
    have h16 := hV.1
    refine pk_le (ig_A g) a (fun _ => ?_) (fun z => by omega)
    have h' := h tr (fun z => absurd rfl z)
    rw [show max x (pu_U g t n T r p 0 a).2.1 = x from Nat.max_zero x] at h'
    exact xf_56 (by omega) (by omega) h'
  | succ k ih =>
    intro nn a x tr hk hnn hx h
    obtain ⟨nn, rfl⟩ : ∃ k, nn = k + 1 := ⟨nn - 1, by omega⟩
    have h16 := hV.1
    have hO := (hV.2 a).1
    refine pk_le (ig_A g) a (fun z => by omega) (fun _ => br_t rfl ⟨vp_in_nI (by omega) (by decide), pk_eq (ig_O g a) r (fun ho => ?_) (fun ho => ?_) (ip_ce _ (by omega))⟩)
    · have hn : ∀ j, j < ig_C g a → ig_it g N (4 * a + j) := fun j hj h1 h2 => hN a j (by omega) hj h1 h2
      have hB' : ∀ j, j < ig_C g a → ig_B g (4 * a + j) = true → (∀ i', i' < j → ig_n g N (4 * a + i')) → xk_Q N n T mE mR (ig_L g (4 * a + j)) p := fun j hj b hi => hB _ ⟨a, j, by omega, ho, hj, b, rfl, hi⟩
      obtain ⟨_, j2, j3⟩ := pu_Aag (g := g) (t := t) (n := n) (T := T) (T' := T) (N := N) (p := p) (ig_C g a) (4 * a) p (Nat.le_refl p) hp hn
        (fun j hj b q' z1 z2 => ⟨rfl, (hA _ q' z1 z2 ((hV.2 _).2.2.2.2.2 b)).2.2⟩) (fun _ j hj b hi => ⟨rfl, (hB' j hj b hi).2.2⟩)
      refine xf_alt (T := T) (N := N) F (by omega) hp hx hn hA hB' (nm_r (nI_1 a) ?_)
      by_cases hz : (pu_A g t n T (ig_C g a) (4 * a) p).1 = 0
      · rw [pu_U0 ho hz] at h
        rw [hz]
        refine ih nn (a + 1) (max x (pu_A g t n T (ig_C g a) (4 * a) p).2) (nI a) (by omega) (by omega) (by omega) (fun tr' htr => ?_)
        rw [Nat.max_assoc]
        exact h tr' htr
      · rw [pu_Us ho hz] at h
        obtain ⟨nn, rfl⟩ : ∃ k, nn = k + 1 := ⟨nn - 1, by omega⟩
        have h' := h (nI a) (fun _ => rfl)
        obtain ⟨e, he⟩ : ∃ e, (pu_A g t n T (ig_C g a) (4 * a) p).1 = e + 1 := ⟨(pu_A g t n T (ig_C g a) (4 * a) p).1 - 1, by omega⟩
        have hb := j3 e he
        exact pk_le (ig_A g) (a + 1) (fun _ => xf_56 (by omega) (by omega) h') (fun _ => ip_m1br rfl (by omega) (fun z => absurd z hz) (fun _ => xf_56 (by omega) (by omega) h'))
    · rw [pu_Un ho] at h
      exact nm_r (nI_1 a) (ih nn (a + 1) x tr (by omega) (by omega) hx h)
theorem xf_slot {post : St2 → Prop} {r p : Nat} (F : xk_F g t n R) (hr : r < R) (hp : p ≤ n) (hN : ig_Nb g N)
    (hA : ∀ s q', p < q' → q' ≤ n → s < R → xk_Q N n T mE mR s q') (hB : ∀ s, ig_S g N r s → xk_Q N n T mE mR s p)
    (h : ∀ tr' : Int32, ((pu_M g t n T r p).1 ≠ 0 → tr' = nI (pu_M g t n T r p).2.2) → post (nI R, nI cp, fz, nI (ig_A g), nI n, ip_m (pu_M g t n T r p).2.1, oR, oN, ip_e (ig_O g), ip_e (ig_C g), ip_eb (ig_B g), ip_e (ig_L g), ip_e (ig_H g), ip_e (ig_M g), nu, od, ro, ip_e t, upd mE (r * 25 + p) (ip_m (pu_M g t n T r p).1), upd mR (r * 25 + p) (ip_m (pu_M g t n T r p).2.1), upd mA (r * 25 + p) tr', tR, tS, tE, tP, wI, wP)) :
    wpX_fillMemoSlot post (nI R, nI cp, fz, nI (ig_A g), nI n, rc, oR, oN, ip_e (ig_O g), ip_e (ig_C g), ip_eb (ig_B g), ip_e (ig_L g), ip_e (ig_H g), ip_e (ig_M g), nu, od, ro, ip_e t, mE, mR, mA, tR, tS, tE, tP, wI, wP) (nI r) (nI p) := by
  refine ⟨ig_A g + 1, xf_13 (T := T) (N := N) F hr hp hN hA hB (ig_A g) (ig_A g + 1) 0 0 (-1) (Nat.zero_add _) (Nat.lt_succ_self _) (Nat.zero_le _) (fun tr' htr => ?_)⟩
  rw [Nat.zero_max]
  exact h tr' htr
end
/-- a place of the table that is filled -/
def xk_P (g : ig_T) (t : Nat → Nat) (N : Nat → Bool) (n : Nat) (T : Nat → Nat → Nat × Nat) (mE mR mA : Nat → Int32) (s q : Nat) : Prop :=
  xk_Q N n T mE mR s q ∧ ((T s q).1 ≠ 0 → mA (s * 25 + q) = nI (pu_M g t n T s q).2.2)
theorem xk_Pup {g : ig_T} {t : Nat → Nat} {N : Nat → Bool} {n : Nat} {T : Nat → Nat → Nat × Nat} {mE mR mA : Nat → Int32} {s q r p : Nat} {a b c : Int32} (hq : q ≤ 24) (hp : p ≤ 24) (hne : ¬ (s = r ∧ q = p))
    (h : xk_P g t N n T mE mR mA s q) : xk_P g t N n T (upd mE (r * 25 + p) a) (upd mR (r * 25 + p) b) (upd mA (r * 25 + p) c) s q := by
  have ne := ip_slot hq hp hne
  unfold xk_P xk_Q
  rw [pk_un ne, pk_un ne, pk_un ne]
  exact h
section
variable {g : ig_T} {t : Nat → Nat} {n R cp : Nat} {fz rc oR oN : Int32} {nu od ro mE mR mA tR tS tE tP wI wP : Nat → Int32} {T : Nat → Nat → Nat × Nat} {N : Nat → Bool} {rk rO : Nat → Nat}
theorem xf_12 {post : St2 → Prop} {J : Int32 → Int32 → Int32 → Int32 → Int32 → Int32 → Int32 → Int32 → Int32 → ar_T → ar_T → ar_T → ar_T → ar_T → ar_T → ar_T → ar_T → ar_T → ar_T → ar_T → ar_T → ar_T → ar_T → ar_T → ar_T → ar_T → ar_T → ar_T → Prop} {x1 : Int32} {p : Nat} (F : xk_F g t n R) (hp : p ≤ n) (hK : ig_K g R N rk) (hG : pu_G g t n R N T) (hO : ∀ k, k < R → rO k < R ∧ rk (rO k) = k) (hO' : ∀ r, r < R → rO (rk r) = r) :
    ∀ (d nn k x : Nat) (mE mR mA : Nat → Int32), k + d = R → d < nn → x ≤ 25 →
    (∀ s q, s < R → p < q → q ≤ n → xk_P g t N n T mE mR mA s q) → (∀ s, s < R → rk s < k → xk_P g t N n T mE mR mA s p) →
    (∀ (x : Nat) (mE mR mA : Nat → Int32), x ≤ 25 → (∀ s q, s < R → p ≤ q → q ≤ n → xk_P g t N n T mE mR mA s q) → J (ip_m p) (nI R) (nI cp) fz (nI (ig_A g)) (nI n) (ip_m x) oR oN (ip_e (ig_O g)) (ip_e (ig_C g)) (ip_eb (ig_B g)) (ip_e (ig_L g)) (ip_e (ig_H g)) (ip_e (ig_M g)) nu od (ip_e rO) (ip_e t) mE mR mA tR tS tE tP wI wP) →
    wX_fillMemo_12 post J x1 (nI p) nn (nI k) (nI R) (nI cp) fz (nI (ig_A g)) (nI n) (ip_m x) oR oN (ip_e (ig_O g)) (ip_e (ig_C g)) (ip_eb (ig_B g)) (ip_e (ig_L g)) (ip_e (ig_H g)) (ip_e (ig_M g)) nu od (ip_e rO) (ip_e t) mE mR mA tR tS tE tP wI wP := by
  have hn24 := F.1
  have hR8 := F.2.1
  intro d
  induction d with
  | zero =>
    intro nn k x mE mR mA hk hnn hx hA hB h
    obtain ⟨nn, rfl⟩ : ∃ k, nn = k + 1 := ⟨nn - 1, by omega⟩
    refine pk_le R k (fun _ => nm_r (ip_dec p) (h x mE mR mA hx (fun s q hs h1 h2 => ?_))) (fun z => by omega)
    rcases Nat.eq_or_lt_of_le h1 with z | z
    · subst z
      exact hB s hs (by have := hK.2.2.1 s hs; omega)
    · exact hA s q hs z h2
  | succ d ih =>
    intro nn k x mE mR mA hk hnn hx hA hB h
    obtain ⟨nn, rfl⟩ : ∃ k, nn = k + 1 := ⟨nn - 1, by omega⟩
    obtain ⟨o1, o2⟩ := hO k (by omega)
    refine pk_le R k (fun z => by omega) (fun _ => ⟨vp_in_nI (by omega) (by decide), ?_⟩)
    rw [ip_ce rO (by omega)]
    obtain ⟨G1, G2⟩ := hG (rO k) p o1 hp
    refine xf_slot (T := T) (N := N) F o1 hp hK.2.1 (fun s q' z1 z2 z3 => (hA s q' z3 z1 z2).1) (fun s hs => (hB s (pu_SS F.2.2.1 hs) (by have := hK.2.2.2 _ s hs; omega)).1) (fun tr' htr => nm_r (nI_1 k) ?_)
    refine ih nn (k + 1) _ _ _ _ (by omega) (by omega) (by have := G2.1; rw [G1] at this; exact Nat.le_trans this (by omega)) (fun s q hs h1 h2 => xk_Pup (by omega) (by omega) (by omega) (hA s q hs h1 h2)) (fun s hs hk' => ?_) h
    by_cases e : s = rO k
    · subst e
      refine ⟨⟨?_, ?_, G2⟩, fun hz => ?_⟩
      · rw [pk_us, G1]
      · rw [pk_us, G1]
      · rw [pk_us]
        refine htr ?_
        rw [G1] at hz
        exact hz
    · refine xk_Pup (by omega) (by omega) (fun z => e z.1) (hB s hs ?_)
      rcases Nat.lt_or_ge (rk s) k with z | z
      · exact z
      · have : rk s = k := by omega
        exact absurd (by rw [← this, hO' s hs]) e
theorem xf_5 {post : St2 → Prop} {first : Nat} (F : xk_F g t n R) (hK : ig_K g R N rk) (hG : pu_G g t n R N T) (hO : ∀ k, k < R → rO k < R ∧ rk (rO k) = k) (hO' : ∀ r, r < R → rO (rk r) = r) (hf : first ≤ n)
    (h : ∀ (x : Nat) (mE mR mA : Nat → Int32), x ≤ 25 → (∀ s q, s < R → first ≤ q → q ≤ n → xk_P g t N n T mE mR mA s q) → post (nI R, nI cp, fz, nI (ig_A g), nI n, ip_m x, oR, oN, ip_e (ig_O g), ip_e (ig_C g), ip_eb (ig_B g), ip_e (ig_L g), ip_e (ig_H g), ip_e (ig_M g), nu, od, ip_e rO, ip_e t, mE, mR, mA, tR, tS, tE, tP, wI, wP)) :
    ∀ (y nn x : Nat) (mE mR mA : Nat → Int32), y ≤ n + 1 → first ≤ y → y < nn → x ≤ 25 → (∀ s q, s < R → y ≤ q → q ≤ n → xk_P g t N n T mE mR mA s q) →
    wX_fillMemo_5 post (nI first) nn (ip_m y) (nI R) (nI cp) fz (nI (ig_A g)) (nI n) (ip_m x) oR oN (ip_e (ig_O g)) (ip_e (ig_C g)) (ip_eb (ig_B g)) (ip_e (ig_L g)) (ip_e (ig_H g)) (ip_e (ig_M g)) nu od (ip_e rO) (ip_e t) mE mR mA tR tS tE tP wI wP := by
  have hn24 := F.1
  have hR8 := F.2.1
  intro y
  induction y with
  | zero =>
    intro nn x mE mR mA hy hfy hnn hx hA
    obtain ⟨nn, rfl⟩ : ∃ k, nn = k + 1 := ⟨nn - 1, by omega⟩
    exact br_t ((ip_mlt (x := 0) (y := first + 1) (by omega) (by omega)).mpr (by omega)) (h x mE mR mA hx (fun s q hs h1 h2 => hA s q hs (by omega) h2))
  | succ p ih =>
    intro nn x mE mR mA hy hfy hnn hx hA
    obtain ⟨nn, rfl⟩ : ∃ k, nn = k + 1 := ⟨nn - 1, by omega⟩
    refine pk_lt p first (fun z => ?_) (fun z => ⟨R + 1, ?_⟩)
    · exact h x mE mR mA hx (fun s q hs h1 h2 => hA s q hs (by omega) h2)
    · exact xf_12 (rk := rk) F (by omega) hK hG hO hO' R (R + 1) 0 x mE mR mA (by omega) (by omega) hx (fun s q hs h1 h2 => hA s q hs (by omega) h2) (fun s hs hk => absurd hk (Nat.not_lt_zero _))
        (fun x mE mR mA hx hA' => ih nn x mE mR mA (by omega) (by omega) (by omega) hx (fun s q hs h1 h2 => hA' s q hs h1 h2))
theorem xf_memo {post : St2 → Prop} {first x : Nat} (hx : x ≤ 25) (F : xk_F g t n R) (hK : ig_K g R N rk) (hG : pu_G g t n R N T) (hO : ∀ k, k < R → rO k < R ∧ rk (rO k) = k) (hO' : ∀ r, r < R → rO (rk r) = r) (hf : first ≤ n)
    (h : ∀ (x : Nat) (mE mR mA : Nat → Int32), x ≤ 25 → (∀ s q, s < R → first ≤ q → q ≤ n → xk_P g t N n T mE mR mA s q) → post (nI R, nI cp, fz, nI (ig_A g), nI n, ip_m x, oR, oN, ip_e (ig_O g), ip_e (ig_C g), ip_eb (ig_B g), ip_e (ig_L g), ip_e (ig_H g), ip_e (ig_M g), nu, od, ip_e rO, ip_e t, mE, mR, mA, tR, tS, tE, tP, wI, wP)) : wpX_fillMemo post (nI R, nI cp, fz, nI (ig_A g), nI n, ip_m x, oR, oN, ip_e (ig_O g), ip_e (ig_C g), ip_eb (ig_B g), ip_e (ig_L g), ip_e (ig_H g), ip_e (ig_M g), nu, od, ip_e rO, ip_e t, mE, mR, mA, tR, tS, tE, tP, wI, wP) (nI first) :=
  ⟨n + 2, xf_5 (rk := rk) F hK hG hO hO' hf h (n + 1) (n + 2) x mE mR mA (by omega) (by omega) (by omega) hx (fun s q hs h1 h2 => by omega)⟩
end
