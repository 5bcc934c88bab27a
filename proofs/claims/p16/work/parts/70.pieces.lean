/-! pieces of the law -/
theorem lm_mod0 (a m : Int32) (h : 0 < m.toInt) : ∃ v : Int32, ∀ post : Int32 → Prop, post v → wpL_mod post () a m := by
  refine ⟨fmv a m, fun post hp => ⟨fun z => ?_, fun y ey => ?_⟩⟩
  · rw [z] at h
    exact absurd h (by decide)
  · subst ey
    refine br_c (fun z => ?_) (fun z => ?_)
    · have e : fmv a m = a - a / m * m := if_pos z
      rw [e] at hp
      exact hp
    · have e : fmv a m = a - a / m * m + m := if_neg z
      rw [e] at hp
      exact hp
theorem lm_mod (a : Int32) {M : Nat} (h0 : 0 < M) (hM : M < 2 ^ 31) : ∃ c, c < M ∧ ∀ post : Int32 → Prop, post (nI c) → wpL_mod post () a (nI M) := by
  have hm : 0 < (nI M).toInt := by rw [nI_toInt hM]; omega
  obtain ⟨b1, b2⟩ := fmv_bounds (a := a) hm
  have hn : ¬ fmv a (nI M) < 0 := fun z => by
    rw [Int32.lt_iff_toInt_lt, show (0 : Int32).toInt = 0 from by decide] at z
    omega
  obtain ⟨c, hc, e⟩ := nI_of hn
  rw [e, nI_toInt hc, nI_toInt hM] at b2
  refine ⟨c, by omega, fun post hp => ?_⟩
  have hp' : post (fmv a (nI M)) := by rw [e]; exact hp
  refine ⟨fun z => ?_, fun y ey => ?_⟩
  · rw [z] at hm
    exact absurd hm (by decide)
  · subst ey
    refine br_c (fun z => ?_) (fun z => ?_)
    · have e : fmv a (nI M) = a - a / nI M * nI M := if_pos z
      rw [e] at hp'
      exact hp'
    · have e : fmv a (nI M) = a - a / nI M * nI M + nI M := if_neg z
      rw [e] at hp'
      exact hp'
theorem lm_cell (xs : Nat → Int32) {LL : Nat} (hL : LL ≤ 260) {k : Nat} (hk : k < 2 ^ 31) : ∃ v : Int32, ∀ post : Int32 → Prop, post v → wpL_cell post LL xs () (nI k) := by
  by_cases h : LL ≤ k
  · exact ⟨0, fun post hp => pk_le LL k (fun _ => hp) (fun z => by omega)⟩
  · refine ⟨xs k, fun post hp => pk_le LL k (fun z => by omega) (fun _ => ⟨vp_in_nI (by omega) (by omega), ?_⟩)⟩
    rw [nI_clamp hk]
    exact hp
/-! the pure picture looks at the text below its length alone -/
section
variable {g : ig_T} {t t' : Nat → Nat} {n : Nat} {T : Nat → Nat → Nat × Nat}
theorem tc_T (h : ∀ j, j < n → t j = t' j) (it q : Nat) : pu_T g t n T it q = pu_T g t' n T it q := by
  by_cases b : ig_B g it = true
  · rw [pu_Tr b, pu_Tr b]
  · rw [pu_Tc b, pu_Tc b]
    by_cases c : q < n
    · rw [h q c]
    · rw [if_neg (fun z => c z.1), if_neg (fun z => c z.1)]
theorem tc_R (h : ∀ j, j < n → t j = t' j) (it : Nat) : ∀ f q, pu_R g t n T it f q = pu_R g t' n T it f q := by
  intro f
  induction f with
  | zero => intro q; rfl
  | succ f ih =>
    intro q
    cases hz : (pu_T g t' n T it q).1 with
    | zero => rw [pu_R0 hz, pu_R0 (by rw [tc_T h]; exact hz), tc_T h]
    | succ e => rw [pu_Rs hz, pu_Rs (e := e) (by rw [tc_T h]; exact hz), tc_T h, ih e]
theorem tc_I (h : ∀ j, j < n → t j = t' j) (it q : Nat) : pu_I g t n T it q = pu_I g t' n T it q := by
  unfold pu_I
  rw [tc_R h]
theorem tc_A (h : ∀ j, j < n → t j = t' j) : ∀ k it q, pu_A g t n T k it q = pu_A g t' n T k it q := by
  intro k
  induction k with
  | zero => intro it q; rfl
  | succ k ih =>
    intro it q
    cases hz : (pu_I g t' n T it q).1 with
    | zero => rw [pu_A0 hz, pu_A0 (by rw [tc_I h]; exact hz), tc_I h]
    | succ e => rw [pu_As hz, pu_As (e := e) (by rw [tc_I h]; exact hz), tc_I h, ih (it + 1) e]
theorem tc_U (h : ∀ j, j < n → t j = t' j) (r p : Nat) : ∀ k a, pu_U g t n T r p k a = pu_U g t' n T r p k a := by
  intro k
  induction k with
  | zero => intro a; rfl
  | succ k ih =>
    intro a
    by_cases ho : ig_O g a = r
    · by_cases hz : (pu_A g t' n T (ig_C g a) (4 * a) p).1 = 0
      · rw [pu_U0 ho hz, pu_U0 ho (by rw [tc_A h]; exact hz), tc_A h, ih]
      · rw [pu_Us ho hz, pu_Us ho (by rw [tc_A h]; exact hz), tc_A h]
    · rw [pu_Un ho, pu_Un ho, ih]
theorem tc_M (h : ∀ j, j < n → t j = t' j) (r p : Nat) : pu_M g t n T r p = pu_M g t' n T r p := tc_U h r p _ _
theorem tc_x (h : ∀ j, j < n → t j = t' j) (it q : Nat) : tk_x g t n T it q = tk_x g t' n T it q := by
  unfold tk_x
  rw [tc_R h, tc_I h]
theorem tc_k (h : ∀ j, j < n → t j = t' j) : ∀ k it q, tk_A g t n T k it q = tk_A g t' n T k it q := by
  intro k
  induction k with
  | zero => intro it q; rfl
  | succ k ih =>
    intro it q
    show tk_I g n T it q ++ tk_A g t n T k (it + 1) (tk_x g t n T it q) = tk_I g n T it q ++ tk_A g t' n T k (it + 1) (tk_x g t' n T it q)
    rw [tc_x h, ih]
theorem tc_K (h : ∀ j, j < n → t j = t' j) : tk_K g t n T = tk_K g t' n T := by
  funext r p
  unfold tk_K
  rw [tc_M h, tc_k h]
theorem tc_G {R : Nat} {N : Nat → Bool} (h : ∀ j, j < n → t j = t' j) (hG : pu_G g t n R N T) : pu_G g t' n R N T := by
  intro r p hr hp
  obtain ⟨h1, h2⟩ := hG r p hr hp
  rw [tc_M h] at h1
  exact ⟨h1, h2⟩
end
/-! building: one outcome for every question -/
section
variable {g : ig_T} {t : Nat → Nat} {n R cp : Nat} {fz rc oR oN : Int32} {nu od ro mE mR mA tR tS tE tP wI wP : Nat → Int32}
theorem pb_put {k a b : Int32} {m al c it : Nat} (hR8 : R ≤ 8) (hit : it < 64) (ha : al < 16) (hB : ga_B R k a b) :
    ∃ (lo hi : Nat) (br : Bool), ga_N R k a b lo hi br ∧ ∀ post : Int32 → St2 → Prop, post (nI c) (nI R, nI cp, fz, nI (ig_A g), nI n, rc, oR, oN, ip_e (ig_O g), ip_e (ip_u (ig_C g) al (c + 1)), ip_eb (ip_u (ig_B g) it br), ip_e (ip_u (ig_L g) it lo), ip_e (ip_u (ig_H g) it hi), ip_e (ip_u (ig_M g) it m), nu, od, ro, ip_e t, mE, mR, mA, tR, tS, tE, tP, wI, wP) →
    (k = 3 → wX_addItem_89 post k a b (nI m) (nI al) (nI c) (nI it) 1 (nI it) (nI R) (nI cp) fz (nI (ig_A g)) (nI n) rc oR oN (ip_e (ig_O g)) (ip_e (ig_C g)) (ip_eb (ig_B g)) (ip_e (ig_L g)) (ip_e (ig_H g)) (ip_e (ig_M g)) nu od ro (ip_e t) mE mR mA tR tS tE tP wI wP) ∧ (¬ k = 3 → wX_addItem_89 post k a b (nI m) (nI al) (nI c) (nI it) 0 (nI it) (nI R) (nI cp) fz (nI (ig_A g)) (nI n) rc oR oN (ip_e (ig_O g)) (ip_e (ig_C g)) (ip_eb (ig_B g)) (ip_e (ig_L g)) (ip_e (ig_H g)) (ip_e (ig_M g)) nu od ro (ip_e t) mE mR mA tR tS tE tP wI wP) := by
  have hv : vp_in (nI it) 64 := vp_in_nI hit (by decide)
  have ec : (nI it).toNatClampNeg = it := nI_clamp (by omega)
  have w0 : ∀ br : Bool, upd (ip_eb (ig_B g)) (nI it).toNatClampNeg (vp_nar .boolean (ip_b br)) = ip_eb (ip_u (ig_B g) it br) := fun br => by
    rw [ec, show vp_nar .boolean (ip_b br) = ip_b br by cases br <;> rfl]
    exact ip_ueb _ _ _
  have w1 : ∀ v : Nat, upd (ip_e (ig_L g)) (nI it).toNatClampNeg (nI v) = ip_e (ip_u (ig_L g) it v) := fun v => by rw [ec]; exact ip_ue _ _ _
  rcases hB with ⟨rfl, d, hd, rfl⟩ | ⟨rfl, d, e, hde, he, rfl, rfl⟩ | rfl | ⟨rfl, s, hs, rfl⟩
  · refine ⟨d, d, false, ⟨⟨fun z => absurd z (by decide), fun _ => Or.inr (Or.inl ⟨rfl, rfl, rfl⟩)⟩, hd, hd, fun z => absurd z (by decide)⟩, fun post H => ?_⟩
    exact br_f (by decide) ⟨hv, nm_r (w0 false) (br_f (by decide) ⟨hv, nm_r (w1 d) (br_f (by decide) (br_f (by decide) (xa_133 (g := (ig_O g, ig_C g, ig_M g, ip_u (ig_L g) it d, ig_H g, ip_u (ig_B g) it false, ig_A g)) hit ha H)))⟩)⟩
  · refine ⟨d, e, false, ⟨⟨fun z => absurd z (by decide), fun _ => Or.inr (Or.inr ⟨rfl, rfl, rfl⟩)⟩, by omega, he, fun z => absurd z (by decide)⟩, fun post H => ?_⟩
    exact br_f (by decide) ⟨hv, nm_r (w0 false) (br_f (by decide) ⟨hv, nm_r (w1 d) (br_f (by decide) (br_t rfl (xa_133 (g := (ig_O g, ig_C g, ig_M g, ip_u (ig_L g) it d, ig_H g, ip_u (ig_B g) it false, ig_A g)) hit ha H)))⟩)⟩
  · refine ⟨0, 65535, false, ⟨⟨fun z => absurd z (by decide), fun _ => Or.inl ⟨rfl, rfl, rfl⟩⟩, by decide, by decide, fun z => absurd z (by decide)⟩, fun post H => ?_⟩
    exact br_f (by decide) ⟨hv, nm_r (w0 false) (br_t rfl ⟨hv, nm_r (w1 0) (br_t rfl (xa_133 (hi := 65535) (g := (ig_O g, ig_C g, ig_M g, ip_u (ig_L g) it 0, ig_H g, ip_u (ig_B g) it false, ig_A g)) hit ha H))⟩)⟩
  · refine ⟨s, s, true, ⟨⟨fun _ => ⟨rfl, rfl⟩, fun z => absurd z (by decide)⟩, by omega, by omega, fun _ => hs⟩, fun post H => ?_⟩
    exact br_t rfl ⟨hv, nm_r (w0 true) (br_f (by decide) ⟨hv, nm_r (w1 s) (br_f (by decide) (br_f (by decide) (xa_133 (g := (ig_O g, ig_C g, ig_M g, ip_u (ig_L g) it s, ig_H g, ip_u (ig_B g) it true, ig_A g)) hit ha H)))⟩)⟩
end
/-- the state, its grammar named -/
abbrev pb_X (t : Nat → Nat) (n R cp : Nat) (fz rc oR oN : Int32) (nu od ro mE mR mA tR tS tE tP wI wP : Nat → Int32) (g : ig_T) : St2 := (nI R, nI cp, fz, nI (ig_A g), nI n, rc, oR, oN, ip_e (ig_O g), ip_e (ig_C g), ip_eb (ig_B g), ip_e (ig_L g), ip_e (ig_H g), ip_e (ig_M g), nu, od, ro, ip_e t, mE, mR, mA, tR, tS, tE, tP, wI, wP)
def ga_M (v : Int32) : Prop := ∃ m, m ≤ 5 ∧ v = nI m
theorem ga_m {v : Int32} {A B : Prop} (h1 : ga_M v → A) (h0 : ¬ ga_M v → B) : (v < 0 → B) ∧ (¬ v < 0 → ((v ≤ 5 → A) ∧ (¬ v ≤ 5 → B))) := by
  refine br_c (fun z => h0 (fun w => ?_)) (fun z => ?_)
  · obtain ⟨m, hm, rfl⟩ := w
    exact nI_pos (by omega) z
  · obtain ⟨m, hm, rfl⟩ := nI_of z
    refine pk_le m 5 (fun z2 => h1 ⟨m, z2, rfl⟩) (fun z2 => h0 (fun w => ?_))
    obtain ⟨m', hm', e⟩ := w
    have := (nI_eq hm (by omega)).mp e
    omega
section
variable {g : ig_T} {t : Nat → Nat} {n R cp : Nat} {fz rc oR oN : Int32} {nu od ro mE mR mA tR tS tE tP wI wP : Nat → Int32}
theorem pb_new {r : Nat} (F : xk_F g t n R) (hr : r < R) : ∃ (g' : ig_T) (v : Int32), ig_V g' R ∧ ∀ post : Int32 → St2 → Prop, post v (pb_X t n R cp 0 rc oR oN nu od ro mE mR mA tR tS tE tP wI wP g') → wpX_newAlt post (nI R, nI cp, 0, nI (ig_A g), nI n, rc, oR, oN, ip_e (ig_O g), ip_e (ig_C g), ip_eb (ig_B g), ip_e (ig_L g), ip_e (ig_H g), ip_e (ig_M g), nu, od, ro, ip_e t, mE, mR, mA, tR, tS, tE, tP, wI, wP) (nI r) := by
  have hR8 := F.2.1
  have h16 := F.2.2.1.1
  by_cases z2 : ig_A g < 16
  · have hv : vp_in (nI (ig_A g)) 16 := vp_in_nI z2 (by decide)
    have ec : (nI (ig_A g)).toNatClampNeg = ig_A g := nI_clamp (by omega)
    have w1 : upd (ip_e (ig_O g)) (nI (ig_A g)).toNatClampNeg (nI r) = ip_e (ip_u (ig_O g) (ig_A g) r) := by rw [ec]; exact ip_ue _ _ _
    have w2 : upd (ip_e (ig_C g)) (nI (ig_A g)).toNatClampNeg 0 = ip_e (ip_u (ig_C g) (ig_A g) 0) := by rw [ec]; exact ip_ue _ _ 0
    refine ⟨ga_A g r, nI (ig_A g), ga_V F.2.2.1 hr z2, fun post H => br_t rfl (br_f (nI_pos (by omega)) (pk_le R r (fun w => by omega) (fun _ => br_f (by decide) (pk_lt (ig_A g) 16 (fun _ => ⟨hv, nm_r w1 ⟨hv, nm_r w2 (nm_r (nI_1 _) H)⟩⟩) (fun w => by omega)))))⟩
  · exact ⟨g, -1, F.2.2.1, fun post H => br_t rfl (br_f (nI_pos (by omega)) (pk_le R r (fun w => by omega) (fun _ => br_f (by decide) (pk_lt (ig_A g) 16 (fun w => by omega) (fun _ => H)))))⟩
theorem pb_add (k a b v : Int32) (F : xk_F g t n R) : ∃ (g' : ig_T) (w : Int32), ig_V g' R ∧ ∀ post : Int32 → St2 → Prop, post w (pb_X t n R cp 0 rc oR oN nu od ro mE mR mA tR tS tE tP wI wP g') → wpX_addItem post (nI R, nI cp, 0, nI (ig_A g), nI n, rc, oR, oN, ip_e (ig_O g), ip_e (ig_C g), ip_eb (ig_B g), ip_e (ig_L g), ip_e (ig_H g), ip_e (ig_M g), nu, od, ro, ip_e t, mE, mR, mA, tR, tS, tE, tP, wI, wP) k a b v := by
  have hR8 := F.2.1
  have hV := F.2.2.1
  have h16 := hV.1
  by_cases z : ig_A g = 0
  · exact ⟨g, -1, hV, fun post H => br_t rfl (br_t (by rw [z]; rfl) H)⟩
  · have z' : ¬ nI (ig_A g) = 0 := nI_ne0 (by omega) (by omega)
    obtain ⟨al, hal⟩ : ∃ al, ig_A g = al + 1 := ⟨ig_A g - 1, by omega⟩
    have hC := (hV.2 al).2.1
    by_cases hB : ga_B R k a b
    · by_cases hm : ga_M v
      · obtain ⟨m, hm5, rfl⟩ := id hm
        have e0 : nI (ig_A g) - 1 = nI al := by rw [hal]; exact nI_pred al
        by_cases h4 : ig_C g al < 4
        · obtain ⟨lo, hi, br, hN, K⟩ := pb_put (g := g) (t := t) (n := n) (R := R) (cp := cp) (fz := 0) (rc := rc) (oR := oR) (oN := oN) (nu := nu) (od := od) (ro := ro) (mE := mE) (mR := mR) (mA := mA) (tR := tR) (tS := tS) (tE := tE) (tP := tP) (wI := wI) (wP := wP) (m := m) (al := al) (c := ig_C g al) (it := 4 * al + ig_C g al) hR8 (by omega) (by omega) hB
          refine ⟨ga_I g al (ig_C g al) (4 * al + ig_C g al) m lo hi br, nI (ig_C g al), ga_IV hV h4 hm5 hN, fun post H => ?_⟩
          refine br_t rfl (br_f z' (xa_base (by omega) (fun _ => br_f (by decide) (ga_m (fun _ => ?_) (fun w => absurd hm w))) (fun w => absurd hB w)))
          exact nm_r e0 ⟨vp_in_nI (by omega) (by decide), nm_r (ip_ce _ (by omega)) (pk_lt (ig_C g al) 4 (fun _ => nm_r (ip_ls al (ig_C g al)) (K post H)) (fun w => by omega))⟩
        · refine ⟨g, -1, hV, fun post H => br_t rfl (br_f z' (xa_base (by omega) (fun _ => br_f (by decide) (ga_m (fun _ => ?_) (fun w => absurd hm w))) (fun w => absurd hB w)))⟩
          exact nm_r e0 ⟨vp_in_nI (by omega) (by decide), nm_r (ip_ce _ (by omega)) (pk_lt (ig_C g al) 4 (fun w => by omega) (fun _ => H))⟩
      · exact ⟨g, -1, hV, fun post H => br_t rfl (br_f z' (xa_base (by omega) (fun _ => br_f (by decide) (ga_m (fun w => absurd w hm) (fun _ => H))) (fun w => absurd hB w)))⟩
    · exact ⟨g, -1, hV, fun post H => br_t rfl (br_f z' (xa_base (by omega) (fun w => absurd w hB) (fun _ => br_t rfl H)))⟩
/-- a grammar that was accepted -/
def pv_C (g : ig_T) (R : Nat) (rO : Nat → Nat) : Prop := ∃ (N : Nat → Bool) (rk : Nat → Nat), ig_K g R N rk ∧ (∀ k, k < R → rO k < R ∧ rk (rO k) = k) ∧ ∀ r, r < R → rO (rk r) = r
theorem pb_compile {N O : Nat → Bool} {rO : Nat → Nat} (F : xk_F g t n R) (hN : ∀ j, 8 ≤ j → N j = false) (hO : ∀ j, 8 ≤ j → O j = false) :
    ∃ (v fz : Int32) (N' O' : Nat → Bool) (rO' : Nat → Nat), (fz = 0 ∨ (fz = 1 ∧ pv_C g R rO')) ∧ ∀ post : Int32 → St2 → Prop, post v (nI R, nI cp, fz, nI (ig_A g), nI n, rc, oR, oN, ip_e (ig_O g), ip_e (ig_C g), ip_eb (ig_B g), ip_e (ig_L g), ip_e (ig_H g), ip_e (ig_M g), ip_eb N', ip_eb O', ip_e rO', ip_e t, mE, mR, mA, tR, tS, tE, tP, wI, wP) → wpX_compile post (nI R, nI cp, 0, nI (ig_A g), nI n, rc, oR, oN, ip_e (ig_O g), ip_e (ig_C g), ip_eb (ig_B g), ip_e (ig_L g), ip_e (ig_H g), ip_e (ig_M g), ip_eb N, ip_eb O, ip_e rO, ip_e t, mE, mR, mA, tR, tS, tE, tP, wI, wP) := by
  have hV := F.2.2.1
  by_cases h1 : ig_Nb g (cp_N g R)
  · by_cases h2 : (cp_O g R rO).2.1 = R
    · have hI : od_I g (cp_N g R) R (cp_O g R rO) := od_rI R _ (od_0 g (cp_N g R) R rO)
      obtain ⟨rk, k1, k2, k3⟩ := od_K hV hI h2 (cp_rCl hV _) h1
      exact ⟨0, 1, cp_N g R, (cp_O g R rO).1, (cp_O g R rO).2.2, Or.inr ⟨rfl, cp_N g R, rk, k1, k3, k2⟩, fun post H => xc_compile F hN hO (fun z => absurd h1 z) (fun _ z => absurd h2 z) (fun _ _ => H)⟩
    · exact ⟨3, 0, cp_N g R, (cp_O g R rO).1, (cp_O g R rO).2.2, Or.inl rfl, fun post H => xc_compile F hN hO (fun z => absurd h1 z) (fun _ _ => H) (fun _ z => absurd z h2)⟩
  · exact ⟨2, 0, cp_N g R, O, rO, Or.inl rfl, fun post H => xc_compile F hN hO (fun _ => H) (fun z => absurd z h1) (fun z => absurd z h1)⟩
end
